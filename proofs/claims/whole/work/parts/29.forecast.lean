/-! what comes -/
def runG (s : TShip) (p : Fn) (n z t : Nat) (g : Fn) : Nat → Fn
  | 0 => g
  | j + 1 => newG s (runG s p n z t g j) p (s.sea ((t + j) % z)) n
def fstI (p : Nat → Bool) : Nat → Nat → Int32
  | _, 0 => -1
  | j, m + 1 => if p j then nI j else fstI p (j + 1) m
def harbR (s : TShip) (n : Nat) (g : Fn) : Nat → Fn
  | 0 => g
  | j + 1 => harbG s (harbR s n g j) n
theorem runG_ok {s : TShip} {p g : Fn} {n z t q : Nat} (h : GP g p n q) : ∀ j, GP (runG s p n z t g j) p n q
  | 0 => h
  | j + 1 => newG_ok (runG_ok h j)
theorem runG_congr {s : TShip} {p p' g g' : Fn} {n z t : Nat} (hg : eqN n g g') (hp : eqN n p p') : ∀ j, eqN n (runG s p n z t g j) (runG s p' n z t g' j)
  | 0 => hg
  | j + 1 => newG_congr (runG_congr hg hp j) hp
def turnsI (p : Nat → Int32) : Nat → Nat
  | 0 => 0
  | j + 1 => if p (j + 1) = p j then turnsI p j else turnsI p j + 1
section XFC
variable {L : Nat} {xs : Nat → Int32} {d : Nat} {Q : XQt} {pn pc : Int32} {tok : TTok} {ship : TShip} {nn : Int64} {tl : Int32} {draft : TShip} {vd : TVoy} {log : TLog} {trial : TCrew} {sta : TSta} {says : Fn} {seed : Int64} {past : Nat → TCrew} {marks : Nat → TLog} {mi : TMi} {ma : TMa} {mb : TMb} {K : XWd}
variable {stk kn : Fn} {n p z t : Nat}
theorem c_untilLeading {man : Int32} (so : ShOk ship n p z) (hkn : KOk kn (RV ship.law)) (gp : GP log.crew.green log.crew.place n p) (lo : log.crew.over = nI t) (ht : t < 2 ^ 30) (h : ∀ stk kn trial, KOk kn (RV ship.law) → Q (some (.int (fstI (fun j => decide (capt (runG ship log.crew.place n z t log.crew.green j) n = man)) 0 61))) (clsW pn pc tok (ship.wlaw (ship.law.wm stk kn)) nn tl draft vd log trial sta says seed past marks K)) : XC (xF L xs) xmeths (d + 5) 120 [.ref 48, .int man] (clsW pn pc tok (ship.wlaw (ship.law.wm stk kn)) nn tl draft vd log trial sta says seed past marks K) Q := by
  refine ⟨nb rfl, xgo [7] 20 ⟨rfl, nb rfl, t_copy so lo (fun trial tr => ⟨nb rfl, ?_⟩)⟩⟩
  refine up_to (P := fun j => ∀ stk kn trial, KOk kn (RV ship.law) → Tr trial n (runG ship log.crew.place n z t log.crew.green j) log.crew.place log.crew.sucked (t + j) → (∀ stk kn trial, KOk kn (RV ship.law) → Q (some (.int (fstI (fun j => decide (capt (runG ship log.crew.place n z t log.crew.green j) n = man)) j (61 - j)))) (clsW pn pc tok (ship.wlaw (ship.law.wm stk kn)) nn tl draft vd log trial sta says seed past marks K)) → XWp (xF L xs) (some .int) xP120 (XC (xF L xs) xmeths (d + 4)) Q 7 [orf 48, oi man, oi (nI j)] [] (clsW pn pc tok (ship.wlaw (ship.law.wm stk kn)) nn tl draft vd log trial sta says seed past marks K)) (n := 61) (fun j hj ih stk kn trial hkn tr h => xgo [7] 40 ?_) stk kn trial hkn tr h
  refine pk_lt 60 j (fun q => ?_) (fun q => ?_) rfl rfl (by omega) (by omega)
  · have e : 61 - j = 0 := by omega
    rw [e] at h
    exact h stk kn trial hkn
  · have ih := ih (by omega)
    have e : 61 - j = (61 - (j + 1)) + 1 := by omega
    rw [e] at h
    simp only [fstI] at h
    refine ⟨rfl, nb rfl, t_leader so tr ?_⟩
    refine And.intro (fun (q2 : ¬ capt (runG ship log.crew.place n z t log.crew.green j) n = man) => ?_) (fun (q2 : ¬ ¬ capt (runG ship log.crew.place n z t log.crew.green j) n = man) => ?_)
    · refine ⟨rfl, nb rfl, t_seaNow so tr (by omega) ⟨rfl, nb rfl, t_passWatch so hkn tr (runG_ok gp j) (so.sea _ (Nat.mod_lt _ so.z1)) (fun stk kn trial hkn tr => ?_)⟩⟩
      have ih := ih stk kn trial hkn tr (fun stk kn trial hkn => by
        have h := h stk kn trial hkn
        rw [if_neg (by simpa using q2)] at h
        exact h)
      rw [nI_succ] at ih
      exact ih
    · have h := h stk kn trial hkn
      rw [if_pos (by simpa using q2)] at h
      exact h
theorem c_untilGreener {m o : Nat} (hm : m < n) (ho : o < n) (so : ShOk ship n p z) (hkn : KOk kn (RV ship.law)) (gp : GP log.crew.green log.crew.place n p) (lo : log.crew.over = nI t) (ht : t < 2 ^ 30) (h : ∀ stk kn trial, KOk kn (RV ship.law) → Q (some (.int (fstI (fun j => decide (runG ship log.crew.place n z t log.crew.green j o < runG ship log.crew.place n z t log.crew.green j m)) 0 61))) (clsW pn pc tok (ship.wlaw (ship.law.wm stk kn)) nn tl draft vd log trial sta says seed past marks K)) : XC (xF L xs) xmeths (d + 5) 123 [.ref 48, .int (nI m), .int (nI o)] (clsW pn pc tok (ship.wlaw (ship.law.wm stk kn)) nn tl draft vd log trial sta says seed past marks K) Q := by
  have n6 := so.n6
  refine ⟨nb rfl, xgo [7] 20 ⟨rfl, nb rfl, t_copy so lo (fun trial tr => ⟨nb rfl, ?_⟩)⟩⟩
  refine up_to (P := fun j => ∀ stk kn trial, KOk kn (RV ship.law) → Tr trial n (runG ship log.crew.place n z t log.crew.green j) log.crew.place log.crew.sucked (t + j) → (∀ stk kn trial, KOk kn (RV ship.law) → Q (some (.int (fstI (fun j => decide (runG ship log.crew.place n z t log.crew.green j o < runG ship log.crew.place n z t log.crew.green j m)) j (61 - j)))) (clsW pn pc tok (ship.wlaw (ship.law.wm stk kn)) nn tl draft vd log trial sta says seed past marks K)) → XWp (xF L xs) (some .int) xP123 (XC (xF L xs) xmeths (d + 4)) Q 7 [orf 48, oi (nI m), oi (nI o), oi (nI j)] [] (clsW pn pc tok (ship.wlaw (ship.law.wm stk kn)) nn tl draft vd log trial sta says seed past marks K)) (n := 61) (fun j hj ih stk kn trial hkn tr h => xgo [7] 40 ?_) stk kn trial hkn tr h
  refine pk_lt 60 j (fun q => ?_) (fun q => ?_) rfl rfl (by omega) (by omega)
  · have e : 61 - j = 0 := by omega
    rw [e] at h
    exact h stk kn trial hkn
  · have ih := ih (by omega)
    have e : 61 - j = (61 - (j + 1)) + 1 := by omega
    rw [e] at h
    simp only [fstI] at h
    refine ⟨vp_in_nI (by omega) (by omega), vp_in_nI (by omega) (by omega), ?_⟩
    rw [nI_clamp (by omega), nI_clamp (by omega)]
    have e1 := tr.green m hm
    have e2 := tr.green o ho
    refine And.intro (fun (q2 : trial.green m ≤ trial.green o) => ?_) (fun (q2 : ¬ trial.green m ≤ trial.green o) => ?_)
    · rw [e1, e2] at q2
      refine ⟨rfl, nb rfl, t_seaNow so tr (by omega) ⟨rfl, nb rfl, t_passWatch so hkn tr (runG_ok gp j) (so.sea _ (Nat.mod_lt _ so.z1)) (fun stk kn trial hkn tr => ?_)⟩⟩
      have ih := ih stk kn trial hkn tr (fun stk kn trial hkn => by
        have h := h stk kn trial hkn
        rw [if_neg (by simpa using q2)] at h
        exact h)
      rw [nI_succ] at ih
      exact ih
    · rw [e1, e2] at q2
      have h := h stk kn trial hkn
      rw [if_pos (by simpa using q2)] at h
      exact h
theorem c_soonerLeading {man other : Int32} (so : ShOk ship n p z) (hkn : KOk kn (RV ship.law)) (gp : GP log.crew.green log.crew.place n p) (lo : log.crew.over = nI t) (ht : t < 2 ^ 30) {a b : Int32} (ha : fstI (fun j => decide (capt (runG ship log.crew.place n z t log.crew.green j) n = man)) 0 61 = a) (hb : fstI (fun j => decide (capt (runG ship log.crew.place n z t log.crew.green j) n = other)) 0 61 = b) (h : ∀ stk kn trial, KOk kn (RV ship.law) → Q (some (.int (if a = b then -1 else if b = -1 ∨ (¬ a = -1 ∧ a < b) then man else other))) (clsW pn pc tok (ship.wlaw (ship.law.wm stk kn)) nn tl draft vd log trial sta says seed past marks K)) : XC (xF L xs) xmeths (d + 6) 142 [.ref 48, .int man, .int other] (clsW pn pc tok (ship.wlaw (ship.law.wm stk kn)) nn tl draft vd log trial sta says seed past marks K) Q := by
  refine ⟨nb rfl, xgo [] 40 ⟨rfl, nb rfl, c_untilLeading so hkn gp lo ht (fun stk kn trial hkn => ⟨nb rfl, rfl, nb rfl, c_untilLeading so hkn gp lo ht (fun stk kn trial hkn => ⟨nb rfl, ?_⟩)⟩)⟩⟩
  rw [ha, hb]
  have h := h stk kn trial hkn
  refine And.intro (fun (q : ¬ a = b) => ?_) (fun (q : ¬ ¬ a = b) => ?_)
  · rw [if_neg q] at h
    refine And.intro (fun (q2 : b = -1) => ?_) (fun (q2 : ¬ b = -1) => ?_)
    · rw [if_pos (Or.inl q2)] at h
      exact ⟨nb rfl, vF (show ¬ (1 : Int32) = 0 by decide) h⟩
    · refine And.intro (fun (q3 : a = -1) => ?_) (fun (q3 : ¬ a = -1) => ?_)
      · rw [if_neg (fun y => y.elim q2 (fun y => y.1 q3))] at h
        exact ⟨nb rfl, vT rfl h⟩
      · refine And.intro (fun (q4 : b ≤ a) => ?_) (fun (q4 : ¬ b ≤ a) => ?_)
        · rw [if_neg (fun y => y.elim q2 (fun y => absurd y.2 (Int32.not_lt.mpr q4)))] at h
          exact ⟨nb rfl, vT rfl h⟩
        · rw [if_pos (Or.inr ⟨q3, Int32.not_le.mp q4⟩)] at h
          exact ⟨nb rfl, vF (show ¬ (1 : Int32) = 0 by decide) h⟩
  · rw [if_pos (Classical.not_not.mp q)] at h
    exact h
theorem c_leaderTurns {m : Nat} (hm : m ≤ 60) (so : ShOk ship n p z) (hkn : KOk kn (RV ship.law)) (gp : GP log.crew.green log.crew.place n p) (lo : log.crew.over = nI t) (ht : t < 2 ^ 30) (h : ∀ stk kn trial, KOk kn (RV ship.law) → Q (some (.int (nI (turnsI (fun j => capt (runG ship log.crew.place n z t log.crew.green j) n) m)))) (clsW pn pc tok (ship.wlaw (ship.law.wm stk kn)) nn tl draft vd log trial sta says seed past marks K)) : XC (xF L xs) xmeths (d + 5) 125 [.ref 48, .int (nI m)] (clsW pn pc tok (ship.wlaw (ship.law.wm stk kn)) nn tl draft vd log trial sta says seed past marks K) Q := by
  refine ⟨nb rfl, xgo [13] 20 ⟨rfl, nb rfl, t_copy so lo (fun trial tr => ⟨nb rfl, ⟨rfl, nb rfl, t_leader so tr ⟨nb rfl, nb rfl, ?_⟩⟩⟩)⟩⟩
  refine up_to (P := fun j => ∀ stk kn trial, KOk kn (RV ship.law) → Tr trial n (runG ship log.crew.place n z t log.crew.green j) log.crew.place log.crew.sucked (t + j) → XWp (xF L xs) (some .int) xP125 (XC (xF L xs) xmeths (d + 4)) Q 13 [orf 48, oi (nI m), oi (nI (turnsI (fun j => capt (runG ship log.crew.place n z t log.crew.green j) n) j)), oi (capt (runG ship log.crew.place n z t log.crew.green j) n), oi (nI j)] [] (clsW pn pc tok (ship.wlaw (ship.law.wm stk kn)) nn tl draft vd log trial sta says seed past marks K)) (n := m) (fun j hj ih stk kn trial hkn tr => xgo [13] 40 ?_) stk kn trial hkn tr
  refine pk_le m j (fun q => ?_) (fun q => ?_) rfl rfl (by omega) (by omega)
  · have e : j = m := by omega
    subst e
    exact h stk kn trial hkn
  · have ih := ih (by omega)
    refine ⟨rfl, nb rfl, t_seaNow so tr (by omega) ⟨rfl, nb rfl, t_passWatch so hkn tr (runG_ok gp j) (so.sea _ (Nat.mod_lt _ so.z1)) (fun stk kn trial hkn tr => ?_)⟩⟩
    have ih := ih stk kn trial hkn tr
    rw [turnsI, nI_succ] at ih
    refine ⟨rfl, nb rfl, t_leader so tr ?_⟩
    refine And.intro (fun (q2 : capt (runG ship log.crew.place n z t log.crew.green (j + 1)) n = capt (runG ship log.crew.place n z t log.crew.green j) n) => ?_) (fun (q2 : ¬ capt (runG ship log.crew.place n z t log.crew.green (j + 1)) n = capt (runG ship log.crew.place n z t log.crew.green j) n) => ?_)
    · rw [if_pos q2] at ih
      exact ⟨rfl, nb rfl, t_leader so tr ⟨nb rfl, ih⟩⟩
    · rw [if_neg q2, nI_succ] at ih
      exact ⟨rfl, nb rfl, t_leader so tr ⟨nb rfl, ih⟩⟩
theorem c_harboursUntilTurn {man : Int32} (so : ShOk ship n p z) (hkn : KOk kn (RV ship.law)) (lo : log.crew.over = nI t) (h : ∀ stk kn trial, KOk kn (RV ship.law) → Q (some (.int (fstI (fun j => decide (¬ b2i (capt (harbR ship n log.crew.green j) n = man) = b2i (capt log.crew.green n = man))) 1 50))) (clsW pn pc tok (ship.wlaw (ship.law.wm stk kn)) nn tl draft vd log trial sta says seed past marks K)) : XC (xF L xs) xmeths (d + 3) 135 [.ref 48, .int man] (clsW pn pc tok (ship.wlaw (ship.law.wm stk kn)) nn tl draft vd log trial sta says seed past marks K) Q := by
  refine ⟨nb rfl, xgo [13] 20 ⟨rfl, nb rfl, t_copy so lo (fun trial tr => ⟨rfl, nb rfl, t_leader so tr ?_⟩)⟩⟩
  have body : XWp (xF L xs) (some .int) xP135 (XC (xF L xs) xmeths (d + 2)) Q 13 [orf 48, oi man, none, none] [.int (b2i (capt log.crew.green n = man))] (clsW pn pc tok (ship.wlaw (ship.law.wm stk kn)) nn tl draft vd log trial sta says seed past marks K) := by
    refine xgo [16] 20 ⟨nb rfl, nb rfl, ?_⟩
    have start := up_to (P := fun j => ∀ trial pl, Tr trial n (harbR ship n log.crew.green j) pl log.crew.sucked t → (∀ stk kn trial, KOk kn (RV ship.law) → Q (some (.int (fstI (fun j => decide (¬ b2i (capt (harbR ship n log.crew.green j) n = man) = b2i (capt log.crew.green n = man))) (j + 1) (50 - j)))) (clsW pn pc tok (ship.wlaw (ship.law.wm stk kn)) nn tl draft vd log trial sta says seed past marks K)) → XWp (xF L xs) (some .int) xP135 (XC (xF L xs) xmeths (d + 2)) Q 16 [orf 48, oi man, oi (b2i (capt log.crew.green n = man)), oi (nI (j + 1))] [] (clsW pn pc tok (ship.wlaw (ship.law.wm stk kn)) nn tl draft vd log trial sta says seed past marks K)) (n := 50) (fun j hj ih trial pl tr h => xgo [16] 40 ?_) trial log.crew.place tr h
    · exact start
    · refine pk_lt 50 (j + 1) (fun q => ?_) (fun q => ?_) rfl rfl (by omega) (by omega)
      · have e : 50 - j = 0 := by omega
        rw [e] at h
        exact h stk kn trial hkn
      · have ih := ih (by omega)
        have e : 50 - j = (50 - (j + 1)) + 1 := by omega
        rw [e] at h
        simp only [fstI] at h
        refine ⟨rfl, nb rfl, t_enterHarbour so tr (fun trial tr => ?_)⟩
        refine ⟨rfl, nb rfl, t_leader so tr ?_⟩
        have cont : ∀ x : Int32, x = b2i (capt (harbR ship n log.crew.green (j + 1)) n = man) → (x = b2i (capt log.crew.green n = man) → XWp (xF L xs) (some .int) xP135 (XC (xF L xs) xmeths (d + 2)) Q 16 [orf 48, oi man, oi (b2i (capt log.crew.green n = man)), oi (nI (j + 1) + 1)] [] (clsW pn pc tok (ship.wlaw (ship.law.wm stk kn)) nn tl draft vd log trial sta says seed past marks K)) ∧ (¬ x = b2i (capt log.crew.green n = man) → Q (some (.int (nI (j + 1)))) (clsW pn pc tok (ship.wlaw (ship.law.wm stk kn)) nn tl draft vd log trial sta says seed past marks K)) := by
          intro x hx
          subst hx
          refine ⟨fun q2 => ?_, fun q2 => ?_⟩
          · have ih := ih trial _ tr (fun stk kn trial hkn => by
              have h := h stk kn trial hkn
              rw [if_neg (by simpa using q2)] at h
              exact h)
            rw [nI_succ (j + 1)] at ih
            exact ih
          · have h := h stk kn trial hkn
            rw [if_pos (by simpa using q2)] at h
            exact h
        refine And.intro (fun (q2 : ¬ capt (harbR ship n log.crew.green (j + 1)) n = man) => ?_) (fun (q2 : ¬ ¬ capt (harbR ship n log.crew.green (j + 1)) n = man) => ?_)
        · exact cont 0 (b2i_f q2).symm
        · exact cont 1 (b2i_t (Classical.not_not.mp q2)).symm
  refine And.intro (fun (q : ¬ capt log.crew.green n = man) => ?_) (fun (q : ¬ ¬ capt log.crew.green n = man) => ?_)
  · rw [b2i_f q] at body
    exact body
  · rw [b2i_t (Classical.not_not.mp q)] at body
    exact body
end XFC
