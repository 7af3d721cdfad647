/-! what is seen, and who fits it -/
theorem allB_iff {f : Nat → Bool} : ∀ n, allB f n = true ↔ ∀ k, k < n → f k = true
  | 0 => ⟨fun _ k hk => absurd hk (Nat.not_lt_zero k), fun _ => rfl⟩
  | n + 1 => by
    rw [allB, Bool.and_eq_true, allB_iff n]
    constructor
    · intro h k hk
      rcases Nat.lt_or_ge k n with y | y
      · exact h.1 k y
      · have e : k = n := by omega
        rw [e]; exact h.2
    · exact fun h => ⟨fun k hk => h k (by omega), h n (by omega)⟩
abbrev SeOk (s : TSeen) (n c : Nat) : Prop := (s.size = nI c) ∧ (c ≤ 8) ∧ (∀ i, i < c → ∃ m, m < n ∧ s.man i = nI m) ∧ (∀ i, i < c → ∃ m, m < n ∧ s.other i = nI m) ∧ (∀ i, i < c → rng (s.watches i) 20)
theorem SeOk.size {s : TSeen} {n c : Nat} (h : SeOk s n c) : s.size = nI c := h.1
theorem SeOk.c8 {s : TSeen} {n c : Nat} (h : SeOk s n c) : c ≤ 8 := h.2.1
theorem SeOk.man {s : TSeen} {n c : Nat} (h : SeOk s n c) : ∀ i, i < c → ∃ m, m < n ∧ s.man i = nI m := h.2.2.1
theorem SeOk.other {s : TSeen} {n c : Nat} (h : SeOk s n c) : ∀ i, i < c → ∃ m, m < n ∧ s.other i = nI m := h.2.2.2.1
theorem SeOk.watches {s : TSeen} {n c : Nat} (h : SeOk s n c) : ∀ i, i < c → rng (s.watches i) 20 := h.2.2.2.2
/-- entry i, when the greens behind w watches are G w -/
def seeA (s : TSeen) (G : Nat → Fn) (i : Nat) : Bool := decide (b2i (G (s.watches i).toNatClampNeg (s.other i).toNatClampNeg < G (s.watches i).toNatClampNeg (s.man i).toNatClampNeg) = s.greener i)
def setG (s : TShip) (g pl : Fn) (n z t b : Nat) : Nat → Fn := runG s pl n z t (skG s.lemon b g)
def fitV (s : TShip) (g pl : Fn) (se : TSeen) (n z t c b : Nat) : Bool := allB (seeA se (setG s g pl n z t b)) c
section XSE
variable {L : Nat} {xs : Nat → Int32} {d : Nat} {Q : XQt} {pn pc : Int32} {tok : TTok} {ship : TShip} {nn : Int64} {tl : Int32} {draft : TShip} {vd : TVoy} {log : TLog} {trial : TCrew} {sta : TSta} {says : Fn} {seed : Int64} {past : Nat → TCrew} {marks : Nat → TLog} {mi : TMi} {ma : TMa} {mb : TMb} {K : XWd}
variable {stk kn : Fn} {n p z t c : Nat} {g pl : Fn} {su : Int32}
theorem c_lastWatch (se : SeOk log.seen n c) (h : ∀ l, l ≤ 20 → (∀ i, i < c → ∀ w, w ≤ 20 → log.seen.watches i = nI w → w ≤ l) → Q (some (.int (nI l))) (clsW pn pc tok ship nn tl draft vd log trial sta says seed past marks K)) : XC (xF L xs) xmeths (d + 1) 148 [.ref 35] (clsW pn pc tok ship nn tl draft vd log trial sta says seed past marks K) Q := by
  have c8 := se.c8
  refine ⟨nb rfl, xgo [4] 20 ⟨nb rfl, nb rfl, ?_⟩⟩
  refine up_to (P := fun j => ∀ l, l ≤ 20 → (∀ i, i < j → ∀ w, w ≤ 20 → log.seen.watches i = nI w → w ≤ l) → XWp (xF L xs) (some .int) xP148 (XC (xF L xs) xmeths d) Q 4 [orf 35, oi (nI l), oi (nI j)] [] (clsW pn pc tok ship nn tl draft vd log trial sta says seed past marks K)) (n := c) (fun j hj ih l hl hw => xgo [4] 40 ?_) 0 (by omega) (fun i hi => absurd hi (Nat.not_lt_zero i))
  refine pk_le c j (fun q => ?_) (fun q => ?_) se.size rfl (by omega) (by omega)
  · have e : j = c := by omega
    subst e
    exact h l hl hw
  · rcases se.watches j q with ⟨w, w20, ew⟩
    refine ⟨vp_in_nI (by omega) (by omega), nb rfl, nb rfl, ?_⟩
    rw [nI_clamp (by omega)]
    have e1 : (if nI l < log.seen.watches j then log.seen.watches j else nI l) = nI (max l w) := by
      rw [ew]
      by_cases y : l < w
      · rw [if_pos (nI_lt y (by omega)), Nat.max_eq_right (by omega)]
      · rw [if_neg (nI_nlt (by omega) (by omega)), Nat.max_eq_left (by omega)]
    have ih := ih q (max l w) (by omega) (fun i hi w' hw' e' => by
      rcases Nat.lt_or_ge i j with y | y
      · have := hw i y w' hw' e'
        omega
      · have e : i = j := by omega
        subst e
        rw [ew] at e'
        have := (nI_eq (by omega) (by omega)).mp e'
        omega)
    rw [← e1, nI_succ] at ih
    exact ih
abbrev agF (se : TSeen) (g : Fn) (w : Int32) (i : Nat) : Bool := decide (se.watches i = w → b2i (g (se.other i).toNatClampNeg < g (se.man i).toNatClampNeg) = se.greener i)
theorem t_agrees {w : Int32} (so : ShOk ship n p z) (se : SeOk log.seen n c) (tr : Tr trial n g pl su t) (h : Q (some (.int (b2i (allB (agF log.seen g w) c = true)))) (clsW pn pc tok (ship.wlaw (ship.law.wm stk kn)) nn tl draft vd log trial sta says seed past marks K)) : XC (xF L xs) xmeths (d + 1) 149 [.ref 35, .ref 44, .int w] (clsW pn pc tok (ship.wlaw (ship.law.wm stk kn)) nn tl draft vd log trial sta says seed past marks K) Q := by
  have c8 := se.c8
  have n6 := so.n6
  have h := vR h
  refine ⟨nb rfl, xgo [2] 20 ⟨nb rfl, ?_⟩⟩
  refine up_to (P := fun j => ∀ x4, (∀ k, k < j → agF log.seen g w k = true) → XWp (xF L xs) (some .boolean) xP149 (XC (xF L xs) xmeths d) Q 2 [orf 35, orf 44, oi w, oi (nI j), x4] [] (clsW pn pc tok (ship.wlaw (ship.law.wm stk kn)) nn tl draft vd log trial sta says seed past marks K)) (n := c) (fun j hj ih x4 hp => xgo [2, 24] 40 ?_) none (fun k hk => absurd hk (Nat.not_lt_zero k))
  refine pk_le c j (fun q => ?_) (fun q => ?_) se.size rfl (by omega) (by omega)
  · have e : j = c := by omega
    subst e
    exact ⟨rfl, h.1 ((allB_iff _).mpr hp)⟩
  · have ih := ih q
    have ej : (nI j).toNatClampNeg = j := nI_clamp (by omega)
    rcases se.man j q with ⟨m, hm, em⟩
    rcases se.other j q with ⟨o, ho, eo⟩
    have go : XWp (xF L xs) (some .boolean) xP149 (XC (xF L xs) xmeths d) Q 24 [orf 35, orf 44, oi w, oi (nI j), x4] [.int (b2i (g o < g m))] (clsW pn pc tok (ship.wlaw (ship.law.wm stk kn)) nn tl draft vd log trial sta says seed past marks K) := by
      refine xgo [2] 40 ⟨nb rfl, vp_in_nI (by omega) (by omega), ?_⟩
      rw [ej]
      have nx : agF log.seen g w j = true → XWp (xF L xs) (some .boolean) xP149 (XC (xF L xs) xmeths d) Q 2 [orf 35, orf 44, oi w, oi (nI j + 1), oi (b2i (g o < g m))] [] (clsW pn pc tok (ship.wlaw (ship.law.wm stk kn)) nn tl draft vd log trial sta says seed past marks K) := by
        intro y
        have ih := ih (oi (b2i (g o < g m))) (fun k hk => by
          rcases Nat.lt_or_ge k j with y2 | y2
          · exact hp k y2
          · have e : k = j := by omega
            rw [e]; exact y)
        rw [nI_succ] at ih
        exact ih
      refine And.intro (fun (q2 : ¬ log.seen.watches j = w) => ?_) (fun (q2 : ¬ ¬ log.seen.watches j = w) => ?_)
      · exact nx (decide_eq_true (fun y => absurd y q2))
      · refine ⟨vp_in_nI (by omega) (by omega), ?_⟩
        rw [ej]
        have e3 : b2i (g (log.seen.other j).toNatClampNeg < g (log.seen.man j).toNatClampNeg) = b2i (g o < g m) := by
          simp only [em, eo, nI_clamp (show o < 2 ^ 31 by omega), nI_clamp (show m < 2 ^ 31 by omega)]
        refine And.intro (fun (q3 : b2i (g o < g m) = log.seen.greener j) => ?_) (fun (q3 : ¬ b2i (g o < g m) = log.seen.greener j) => ?_)
        · exact nx (decide_eq_true (fun _ => e3.trans q3))
        · refine ⟨rfl, h.2 (fun y => ?_)⟩
          have := of_decide_eq_true ((allB_iff _).mp y j q) (Classical.not_not.mp q2)
          exact q3 (e3.symm.trans this)
    refine ⟨vp_in_nI (by omega) (by omega), show vp_in (log.seen.man (nI j).toNatClampNeg) 6 from by rw [ej, em]; exact vp_in_nI (by omega) (by omega), vp_in_nI (by omega) (by omega), show vp_in (log.seen.other (nI j).toNatClampNeg) 6 from by rw [ej, eo]; exact vp_in_nI (by omega) (by omega), ?_⟩
    rw [ej]
    have f1 : trial.green (log.seen.man j).toNatClampNeg = g m := by rw [em, nI_clamp (by omega)]; exact tr.green m hm
    have f2 : trial.green (log.seen.other j).toNatClampNeg = g o := by rw [eo, nI_clamp (by omega)]; exact tr.green o ho
    refine And.intro (fun (q2 : trial.green (log.seen.man j).toNatClampNeg ≤ trial.green (log.seen.other j).toNatClampNeg) => ?_) (fun (q2 : ¬ trial.green (log.seen.man j).toNatClampNeg ≤ trial.green (log.seen.other j).toNatClampNeg) => ?_)
    · rw [f1, f2] at q2
      rw [b2i_f (Int32.not_lt.mpr q2)] at go
      exact go
    · rw [f1, f2] at q2
      rw [b2i_t (Int32.not_le.mp q2)] at go
      exact go
theorem c_fits {a b : Nat} (so : ShOk ship n p z) (se : SeOk log.seen n c) (hkn : KOk kn (RV ship.law)) (gp : GP log.crew.green log.crew.place n p) (lo : log.crew.over = nI t) (ht : t < 2 ^ 30) (ha : a < 64) (hb : b < 64) (hs : log.crew.sucked = nI a) (h : ∀ stk kn trial, KOk kn (RV ship.law) → Q (some (.int (b2i (b &&& a = 0 ∧ fitV ship log.crew.green log.crew.place log.seen n z t c b = true)))) (clsW pn pc tok (ship.wlaw (ship.law.wm stk kn)) nn tl draft vd log trial sta says seed past marks K)) : XC (xF L xs) xmeths (d + 5) 147 [.ref 53, .int (nI b)] (clsW pn pc tok (ship.wlaw (ship.law.wm stk kn)) nn tl draft vd log trial sta says seed past marks K) Q := by
  have h := fun stk kn trial hk => vR (h stk kn trial hk)
  have h4 : b &&& a ≤ a := Nat.and_le_right
  refine ⟨nb rfl, xgo [26] 60 ?_⟩
  refine And.intro (fun (q1 : nI b &&& log.crew.sucked = 0) => ?_) (fun (q1 : ¬ nI b &&& log.crew.sucked = 0) => ?_)
  · rw [hs, nI_and] at q1
    have q1 := (nI_eq (b := 0) (by omega) (by omega)).mp q1
    refine ⟨rfl, nb rfl, t_copy so lo (fun trial tr => ⟨rfl, nb rfl, t_suckLemons so ha hb hs q1 tr (fun trial su tr => ⟨rfl, nb rfl, c_lastWatch se (fun l hl hlw => ⟨nb rfl, nb rfl, ?_⟩)⟩)⟩)⟩
    refine up_to (P := fun j => ∀ stk kn trial, KOk kn (RV ship.law) → Tr trial n (setG ship log.crew.green log.crew.place n z t b j) log.crew.place su (t + j) → (∀ i, i < c → ∀ w, w < j → log.seen.watches i = nI w → seeA log.seen (setG ship log.crew.green log.crew.place n z t b) i = true) → XWp (xF L xs) (some .boolean) xP147 (XC (xF L xs) xmeths (d + 4)) Q 26 [orf 53, oi (nI b), oi (nI l), oi (nI j)] [] (clsW pn pc tok (ship.wlaw (ship.law.wm stk kn)) nn tl draft vd log trial sta says seed past marks K)) (n := l + 1) (fun j hj ih stk kn trial hkn tr hp => xgo [26] 40 ?_) stk kn trial hkn tr (fun i hi w hw => absurd hw (Nat.not_lt_zero w))
    refine pk_lt l j (fun q => ?_) (fun q => ?_) rfl rfl (by omega) (by omega)
    · refine ⟨rfl, (h stk kn trial hkn).1 ⟨q1, (allB_iff _).mpr (fun i hi => ?_)⟩⟩
      rcases se.watches i hi with ⟨w, hw, ew⟩
      have := hlw i hi w hw ew
      exact hp i hi w (by omega) ew
    · have ih := ih (by omega)
      refine ⟨rfl, nb rfl, t_agrees so se tr ?_⟩
      refine vB1 (fun q2 => ?_) (fun q2 => ?_)
      · refine ⟨rfl, nb rfl, t_seaNow so tr (by omega) ⟨rfl, nb rfl, t_passWatch so hkn tr (runG_ok (skG_ok so.lemon gp) j) (so.sea _ (Nat.mod_lt _ so.z1)) (fun stk kn trial hkn tr => ?_)⟩⟩
        have ih := ih stk kn trial hkn tr (fun i hi w hw ew => by
          rcases Nat.lt_or_ge w j with y | y
          · exact hp i hi w y ew
          · have e : w = j := by omega
            subst e
            have := of_decide_eq_true ((allB_iff _).mp q2 i hi) ew
            refine decide_eq_true ?_
            rw [ew, nI_clamp (by omega)]
            exact this)
        rw [nI_succ] at ih
        exact ih
      · refine ⟨rfl, (h stk kn trial hkn).2 (fun y => q2 ((allB_iff _).mpr (fun i hi => decide_eq_true (fun ew => ?_))))⟩
        have := of_decide_eq_true ((allB_iff _).mp y.2 i hi)
        rw [ew, nI_clamp (by omega)] at this
        exact this
  · rw [hs, nI_and] at q1
    exact ⟨rfl, (h stk kn trial hkn).2 (fun y => q1 (by rw [y.1]; rfl))⟩
end XSE
