/-! a crew: what is read of it -/
/-- how many of the first n -/
def cnt (p : Nat → Bool) : Nat → Nat
  | 0 => 0
  | n + 1 => if p n then cnt p n + 1 else cnt p n
theorem cnt_le (p : Nat → Bool) : ∀ n, cnt p n ≤ n
  | 0 => Nat.le_refl 0
  | n + 1 => by
    have := cnt_le p n
    simp only [cnt]
    split <;> omega
/-- as bits -/
def bset (p : Nat → Bool) : Nat → Int32
  | 0 => 0
  | n + 1 => if p n then bset p n ||| (1 <<< (nI n &&& 31)) else bset p n
/-- the first of the greatest -/
def bst (g : Fn) : Nat → Int32
  | 0 => -1
  | n + 1 => if bst g n = -1 ∨ g (bst g n).toNatClampNeg < g n then nI n else bst g n
/-- added up -/
def sumF (g : Fn) : Nat → Int32
  | 0 => 0
  | n + 1 => sumF g n + g n
theorem bst_in (g : Fn) : ∀ n, n ≤ 6 → (n = 0 ∧ bst g n = -1) ∨ ∃ b, b < n ∧ bst g n = nI b
  | 0, _ => Or.inl ⟨rfl, rfl⟩
  | n + 1, h => by
    right
    simp only [bst]
    split
    · exact ⟨n, by omega, rfl⟩
    · rename_i hc
      rcases bst_in g n (by omega) with ⟨rfl, h2⟩ | ⟨b, h1, h2⟩
      · exact absurd (Or.inl h2) hc
      · exact ⟨b, by omega, h2⟩
/-- who is captain: the first of the greatest, if nobody else is as great -/
def tie (g : Fn) (n : Nat) (b : Int32) : Bool := (List.range n).any fun m => decide (¬ nI m = b) && decide (g m = g b.toNatClampNeg)
def capt (g : Fn) (n : Nat) : Int32 := if tie g n (bst g n) then -1 else bst g n
/-- a walk by places 0 .. n - 1 -/
theorem up_to {P : Nat → Prop} {n : Nat} (h : ∀ j, j ≤ n → (j < n → P (j + 1)) → P j) : P 0 := by
  have key : ∀ m j, j + m = n → P j := by
    intro m
    induction m with
    | zero => intro j hj; exact h j (by omega) (fun q => by omega)
    | succ m ih => intro j hj; exact h j (by omega) (fun _ => ih (j + 1) (by omega))
  exact key n 0 (by omega)
theorem nIm1 {b : Nat} (h : b < 6) : ¬ nI b = -1 := by
  have : ∀ b, b < 6 → ¬ nI b = -1 := by decide
  exact this b h
section XCR
variable {L : Nat} {xs : Nat → Int32} {d : Nat} {Q : XQt} {pn pc : Int32} {tok : TTok} {ship : TShip} {nn : Int64} {tl : Int32} {draft : TShip} {vd : TVoy} {log : TLog} {trial : TCrew} {sta : TSta} {says : Fn} {seed : Int64} {past : Nat → TCrew} {marks : Nat → TLog} {mi : TMi} {ma : TMa} {mb : TMb} {K : XWd}
theorem c_rankOf_40 {n k : Nat} (hn : n ≤ 6) (hm : ship.men = nI n) (hk : k < 6) (h : Q (some (.int (nI (cnt (fun o => decide (log.crew.green k < log.crew.green o)) n)))) (clsW pn pc tok ship nn tl draft vd log trial sta says seed past marks K)) : XC (xF L xs) xmeths (d + 1) 77 [.ref 40, .int (nI k)] (clsW pn pc tok ship nn tl draft vd log trial sta says seed past marks K) Q := by
  refine ⟨nb rfl, xgo [4] 20 ⟨nb rfl, nb rfl, ?_⟩⟩
  refine up_to (P := fun j => XWp (xF L xs) (some .int) xP77 (XC (xF L xs) xmeths d) Q 4 [some (.ref 40), some (.int (nI k)), some (.int (nI (cnt (fun o => decide (log.crew.green k < log.crew.green o)) j))), some (.int (nI j))] [] (clsW pn pc tok ship nn tl draft vd log trial sta says seed past marks K)) (n := n) (fun j hj ih => xgo [4] 40 ?_)
  refine pk_le n j (fun q => ?_) (fun q => ?_) hm rfl (by omega) (by omega)
  · have e : j = n := by omega
    subst e
    exact h
  · have ih := ih q
    refine ⟨vp_in_nI (by omega) (by omega), vp_in_nI (by omega) (by omega), ?_⟩
    have e1 : (nI j).toNatClampNeg = j := nI_clamp (by omega)
    have e2 : (nI k).toNatClampNeg = k := nI_clamp (by omega)
    rw [e1, e2]
    refine And.intro (fun (q2 : _ ≤ _) => ?_) (fun (q2 : ¬ _ ≤ _) => ?_)
    · rw [cnt, if_neg (by simpa using q2), nI_succ] at ih
      exact ih
    · rw [cnt, if_pos (by simpa using q2), nI_succ, nI_succ] at ih
      exact ih
theorem c_greenest_40 {n : Nat} (hn : n ≤ 6) (hm : ship.men = nI n) (h : Q (some (.int (bst log.crew.green n))) (clsW pn pc tok ship nn tl draft vd log trial sta says seed past marks K)) : XC (xF L xs) xmeths (d + 1) 95 [.ref 40] (clsW pn pc tok ship nn tl draft vd log trial sta says seed past marks K) Q := by
  refine ⟨nb rfl, xgo [4] 20 ⟨nb rfl, nb rfl, ?_⟩⟩
  refine up_to (P := fun j => XWp (xF L xs) (some .int) xP95 (XC (xF L xs) xmeths d) Q 4 [some (.ref 40), some (.int (bst log.crew.green j)), some (.int (nI j))] [] (clsW pn pc tok ship nn tl draft vd log trial sta says seed past marks K)) (n := n) (fun j hj ih => xgo [4] 40 ?_)
  refine pk_le n j (fun q => ?_) (fun q => ?_) hm rfl (by omega) (by omega)
  · have e : j = n := by omega
    subst e
    exact h
  · have ih := ih q
    have e1 : (nI j).toNatClampNeg = j := nI_clamp (by omega)
    refine And.intro (fun (q2 : _ = _) => ?_) (fun (q2 : ¬ _ = _) => ?_)
    · refine ⟨nb rfl, ?_⟩
      rw [bst, if_pos (Or.inl (show bst log.crew.green j = -1 from q2)), nI_succ] at ih
      exact ih
    · rcases bst_in log.crew.green j (by omega) with ⟨rfl, b2⟩ | ⟨b, b1, b2⟩
      · exact absurd b2 q2
      · refine ⟨vp_in_nI (by omega) (by omega), ⟨b2 ▸ vp_in_nI (by omega) (by omega), ?_⟩⟩
        rw [e1]
        refine And.intro (fun (q3 : _ ≤ _) => ?_) (fun (q3 : ¬ _ ≤ _) => ?_)
        · rw [bst, if_neg (fun z => z.elim q2 (fun z => absurd z (Int32.not_lt.mpr q3))), nI_succ] at ih
          exact ih
        · refine ⟨nb rfl, ?_⟩
          rw [bst, if_pos (Or.inr (Int32.not_le.mp q3)), nI_succ] at ih
          exact ih
theorem c_leader_40 {n : Nat} (hn : n ≤ 6) (hm : ship.men = nI n) (h : Q (some (.int (capt log.crew.green n))) (clsW pn pc tok ship nn tl draft vd log trial sta says seed past marks K)) : XC (xF L xs) xmeths (d + 2) 112 [.ref 40] (clsW pn pc tok ship nn tl draft vd log trial sta says seed past marks K) Q := by
  refine ⟨nb rfl, xgo [5] 20 ⟨rfl, nb rfl, c_greenest_40 hn hm ?_⟩⟩
  refine ⟨nb rfl, nb rfl, ?_⟩
  generalize hb : bst log.crew.green n = b
  have hbi := bst_in log.crew.green n hn
  have hcap : capt log.crew.green n = if tie log.crew.green n b then -1 else b := by rw [capt, hb]
  rw [hb] at hbi
  refine up_to (P := fun j => (∀ m, m < j → ¬ nI m = b → ¬ log.crew.green m = log.crew.green b.toNatClampNeg) → XWp (xF L xs) (some .int) xP112 (XC (xF L xs) xmeths (d + 1)) Q 5 [some (.ref 40), some (.int b), some (.int (nI j))] [] (clsW pn pc tok ship nn tl draft vd log trial sta says seed past marks K)) (n := n) (fun j hj ih hno => xgo [5] 40 ?_) (fun m hm => absurd hm (Nat.not_lt_zero m))
  refine pk_le n j (fun q => ?_) (fun q => ?_) hm rfl (by omega) (by omega)
  · have e : j = n := by omega
    subst e
    have : tie log.crew.green j b = false := by
      simp only [tie, List.any_eq_false, List.mem_range, Bool.and_eq_true, decide_eq_true_eq, not_and]
      exact fun m hm => hno m hm
    rw [hcap, this] at h
    exact h
  · have ih := ih q
    have e1 : (nI j).toNatClampNeg = j := nI_clamp (by omega)
    refine And.intro (fun (q2 : _ = _) => ?_) (fun (q2 : ¬ _ = _) => ?_)
    · have := ih (fun m hm => by
        rcases Nat.lt_or_ge m j with z | z
        · exact hno m z
        · have e : m = j := by omega
          subst e
          exact fun z => absurd q2 z)
      rw [nI_succ] at this
      exact this
    · rcases hbi with ⟨rfl, b2⟩ | ⟨b', b1, b2⟩
      · omega
      · refine ⟨vp_in_nI (by omega) (by omega), ⟨b2 ▸ vp_in_nI (by omega) (by omega), ?_⟩⟩
        rw [e1]
        refine And.intro (fun (q3 : ¬ _ = _) => ?_) (fun (q3 : ¬ ¬ _ = _) => ?_)
        · have := ih (fun m hm => by
            rcases Nat.lt_or_ge m j with z | z
            · exact hno m z
            · have e : m = j := by omega
              subst e
              exact fun _ => q3)
          rw [nI_succ] at this
          exact this
        · have q3 := Classical.not_not.mp q3
          have : tie log.crew.green n b = true := by
            simp only [tie, List.any_eq_true, List.mem_range, Bool.and_eq_true, decide_eq_true_eq]
            exact ⟨j, q, q2, q3⟩
          rw [hcap, this] at h
          exact h
theorem c_standingAt_40 {n : Nat} {p : Int32} (hn : n ≤ 6) (hm : ship.men = nI n) (h : Q (some (.int (bset (fun o => decide (log.crew.place o = p)) n))) (clsW pn pc tok ship nn tl draft vd log trial sta says seed past marks K)) : XC (xF L xs) xmeths (d + 1) 80 [.ref 40, .int p] (clsW pn pc tok ship nn tl draft vd log trial sta says seed past marks K) Q := by
  refine ⟨nb rfl, xgo [4] 20 ⟨nb rfl, nb rfl, ?_⟩⟩
  refine up_to (P := fun j => XWp (xF L xs) (some .int) xP80 (XC (xF L xs) xmeths d) Q 4 [some (.ref 40), some (.int p), some (.int (bset (fun o => decide (log.crew.place o = p)) j)), some (.int (nI j))] [] (clsW pn pc tok ship nn tl draft vd log trial sta says seed past marks K)) (n := n) (fun j hj ih => xgo [4] 40 ?_)
  refine pk_le n j (fun q => ?_) (fun q => ?_) hm rfl (by omega) (by omega)
  · have e : j = n := by omega
    subst e
    exact h
  · have ih := ih q
    refine ⟨vp_in_nI (by omega) (by omega), ?_⟩
    have e1 : (nI j).toNatClampNeg = j := nI_clamp (by omega)
    rw [e1]
    refine And.intro (fun (q2 : ¬ _ = _) => ?_) (fun (q2 : ¬ ¬ _ = _) => ?_)
    · rw [bset, if_neg (by simpa using q2), nI_succ] at ih
      exact ih
    · refine ⟨nb rfl, ?_⟩
      rw [bset, if_pos (by simpa using q2), nI_succ] at ih
      exact ih
theorem c_allGreens_40 {n : Nat} (hn : n ≤ 6) (hm : ship.men = nI n) (h : Q (some (.int (sumF log.crew.green n))) (clsW pn pc tok ship nn tl draft vd log trial sta says seed past marks K)) : XC (xF L xs) xmeths (d + 1) 108 [.ref 40] (clsW pn pc tok ship nn tl draft vd log trial sta says seed past marks K) Q := by
  refine ⟨nb rfl, xgo [4] 20 ⟨nb rfl, nb rfl, ?_⟩⟩
  refine up_to (P := fun j => XWp (xF L xs) (some .int) xP108 (XC (xF L xs) xmeths d) Q 4 [some (.ref 40), some (.int (sumF log.crew.green j)), some (.int (nI j))] [] (clsW pn pc tok ship nn tl draft vd log trial sta says seed past marks K)) (n := n) (fun j hj ih => xgo [4] 40 ?_)
  refine pk_le n j (fun q => ?_) (fun q => ?_) hm rfl (by omega) (by omega)
  · have e : j = n := by omega
    subst e
    exact h
  · have ih := ih q
    refine ⟨vp_in_nI (by omega) (by omega), nb rfl, ?_⟩
    have e1 : (nI j).toNatClampNeg = j := nI_clamp (by omega)
    rw [e1]
    rw [sumF, nI_succ] at ih
    exact ih
theorem c_rankOf_44 {n k : Nat} (hn : n ≤ 6) (hm : ship.men = nI n) (hk : k < 6) (h : Q (some (.int (nI (cnt (fun o => decide (trial.green k < trial.green o)) n)))) (clsW pn pc tok ship nn tl draft vd log trial sta says seed past marks K)) : XC (xF L xs) xmeths (d + 1) 77 [.ref 44, .int (nI k)] (clsW pn pc tok ship nn tl draft vd log trial sta says seed past marks K) Q := by
  refine ⟨nb rfl, xgo [4] 20 ⟨nb rfl, nb rfl, ?_⟩⟩
  refine up_to (P := fun j => XWp (xF L xs) (some .int) xP77 (XC (xF L xs) xmeths d) Q 4 [some (.ref 44), some (.int (nI k)), some (.int (nI (cnt (fun o => decide (trial.green k < trial.green o)) j))), some (.int (nI j))] [] (clsW pn pc tok ship nn tl draft vd log trial sta says seed past marks K)) (n := n) (fun j hj ih => xgo [4] 40 ?_)
  refine pk_le n j (fun q => ?_) (fun q => ?_) hm rfl (by omega) (by omega)
  · have e : j = n := by omega
    subst e
    exact h
  · have ih := ih q
    refine ⟨vp_in_nI (by omega) (by omega), vp_in_nI (by omega) (by omega), ?_⟩
    have e1 : (nI j).toNatClampNeg = j := nI_clamp (by omega)
    have e2 : (nI k).toNatClampNeg = k := nI_clamp (by omega)
    rw [e1, e2]
    refine And.intro (fun (q2 : _ ≤ _) => ?_) (fun (q2 : ¬ _ ≤ _) => ?_)
    · rw [cnt, if_neg (by simpa using q2), nI_succ] at ih
      exact ih
    · rw [cnt, if_pos (by simpa using q2), nI_succ, nI_succ] at ih
      exact ih
theorem c_greenest_44 {n : Nat} (hn : n ≤ 6) (hm : ship.men = nI n) (h : Q (some (.int (bst trial.green n))) (clsW pn pc tok ship nn tl draft vd log trial sta says seed past marks K)) : XC (xF L xs) xmeths (d + 1) 95 [.ref 44] (clsW pn pc tok ship nn tl draft vd log trial sta says seed past marks K) Q := by
  refine ⟨nb rfl, xgo [4] 20 ⟨nb rfl, nb rfl, ?_⟩⟩
  refine up_to (P := fun j => XWp (xF L xs) (some .int) xP95 (XC (xF L xs) xmeths d) Q 4 [some (.ref 44), some (.int (bst trial.green j)), some (.int (nI j))] [] (clsW pn pc tok ship nn tl draft vd log trial sta says seed past marks K)) (n := n) (fun j hj ih => xgo [4] 40 ?_)
  refine pk_le n j (fun q => ?_) (fun q => ?_) hm rfl (by omega) (by omega)
  · have e : j = n := by omega
    subst e
    exact h
  · have ih := ih q
    have e1 : (nI j).toNatClampNeg = j := nI_clamp (by omega)
    refine And.intro (fun (q2 : _ = _) => ?_) (fun (q2 : ¬ _ = _) => ?_)
    · refine ⟨nb rfl, ?_⟩
      rw [bst, if_pos (Or.inl (show bst trial.green j = -1 from q2)), nI_succ] at ih
      exact ih
    · rcases bst_in trial.green j (by omega) with ⟨rfl, b2⟩ | ⟨b, b1, b2⟩
      · exact absurd b2 q2
      · refine ⟨vp_in_nI (by omega) (by omega), ⟨b2 ▸ vp_in_nI (by omega) (by omega), ?_⟩⟩
        rw [e1]
        refine And.intro (fun (q3 : _ ≤ _) => ?_) (fun (q3 : ¬ _ ≤ _) => ?_)
        · rw [bst, if_neg (fun z => z.elim q2 (fun z => absurd z (Int32.not_lt.mpr q3))), nI_succ] at ih
          exact ih
        · refine ⟨nb rfl, ?_⟩
          rw [bst, if_pos (Or.inr (Int32.not_le.mp q3)), nI_succ] at ih
          exact ih
theorem c_leader_44 {n : Nat} (hn : n ≤ 6) (hm : ship.men = nI n) (h : Q (some (.int (capt trial.green n))) (clsW pn pc tok ship nn tl draft vd log trial sta says seed past marks K)) : XC (xF L xs) xmeths (d + 2) 112 [.ref 44] (clsW pn pc tok ship nn tl draft vd log trial sta says seed past marks K) Q := by
  refine ⟨nb rfl, xgo [5] 20 ⟨rfl, nb rfl, c_greenest_44 hn hm ?_⟩⟩
  refine ⟨nb rfl, nb rfl, ?_⟩
  generalize hb : bst trial.green n = b
  have hbi := bst_in trial.green n hn
  have hcap : capt trial.green n = if tie trial.green n b then -1 else b := by rw [capt, hb]
  rw [hb] at hbi
  refine up_to (P := fun j => (∀ m, m < j → ¬ nI m = b → ¬ trial.green m = trial.green b.toNatClampNeg) → XWp (xF L xs) (some .int) xP112 (XC (xF L xs) xmeths (d + 1)) Q 5 [some (.ref 44), some (.int b), some (.int (nI j))] [] (clsW pn pc tok ship nn tl draft vd log trial sta says seed past marks K)) (n := n) (fun j hj ih hno => xgo [5] 40 ?_) (fun m hm => absurd hm (Nat.not_lt_zero m))
  refine pk_le n j (fun q => ?_) (fun q => ?_) hm rfl (by omega) (by omega)
  · have e : j = n := by omega
    subst e
    have : tie trial.green j b = false := by
      simp only [tie, List.any_eq_false, List.mem_range, Bool.and_eq_true, decide_eq_true_eq, not_and]
      exact fun m hm => hno m hm
    rw [hcap, this] at h
    exact h
  · have ih := ih q
    have e1 : (nI j).toNatClampNeg = j := nI_clamp (by omega)
    refine And.intro (fun (q2 : _ = _) => ?_) (fun (q2 : ¬ _ = _) => ?_)
    · have := ih (fun m hm => by
        rcases Nat.lt_or_ge m j with z | z
        · exact hno m z
        · have e : m = j := by omega
          subst e
          exact fun z => absurd q2 z)
      rw [nI_succ] at this
      exact this
    · rcases hbi with ⟨rfl, b2⟩ | ⟨b', b1, b2⟩
      · omega
      · refine ⟨vp_in_nI (by omega) (by omega), ⟨b2 ▸ vp_in_nI (by omega) (by omega), ?_⟩⟩
        rw [e1]
        refine And.intro (fun (q3 : ¬ _ = _) => ?_) (fun (q3 : ¬ ¬ _ = _) => ?_)
        · have := ih (fun m hm => by
            rcases Nat.lt_or_ge m j with z | z
            · exact hno m z
            · have e : m = j := by omega
              subst e
              exact fun _ => q3)
          rw [nI_succ] at this
          exact this
        · have q3 := Classical.not_not.mp q3
          have : tie trial.green n b = true := by
            simp only [tie, List.any_eq_true, List.mem_range, Bool.and_eq_true, decide_eq_true_eq]
            exact ⟨j, q, q2, q3⟩
          rw [hcap, this] at h
          exact h
theorem c_standingAt_44 {n : Nat} {p : Int32} (hn : n ≤ 6) (hm : ship.men = nI n) (h : Q (some (.int (bset (fun o => decide (trial.place o = p)) n))) (clsW pn pc tok ship nn tl draft vd log trial sta says seed past marks K)) : XC (xF L xs) xmeths (d + 1) 80 [.ref 44, .int p] (clsW pn pc tok ship nn tl draft vd log trial sta says seed past marks K) Q := by
  refine ⟨nb rfl, xgo [4] 20 ⟨nb rfl, nb rfl, ?_⟩⟩
  refine up_to (P := fun j => XWp (xF L xs) (some .int) xP80 (XC (xF L xs) xmeths d) Q 4 [some (.ref 44), some (.int p), some (.int (bset (fun o => decide (trial.place o = p)) j)), some (.int (nI j))] [] (clsW pn pc tok ship nn tl draft vd log trial sta says seed past marks K)) (n := n) (fun j hj ih => xgo [4] 40 ?_)
  refine pk_le n j (fun q => ?_) (fun q => ?_) hm rfl (by omega) (by omega)
  · have e : j = n := by omega
    subst e
    exact h
  · have ih := ih q
    refine ⟨vp_in_nI (by omega) (by omega), ?_⟩
    have e1 : (nI j).toNatClampNeg = j := nI_clamp (by omega)
    rw [e1]
    refine And.intro (fun (q2 : ¬ _ = _) => ?_) (fun (q2 : ¬ ¬ _ = _) => ?_)
    · rw [bset, if_neg (by simpa using q2), nI_succ] at ih
      exact ih
    · refine ⟨nb rfl, ?_⟩
      rw [bset, if_pos (by simpa using q2), nI_succ] at ih
      exact ih
theorem c_allGreens_44 {n : Nat} (hn : n ≤ 6) (hm : ship.men = nI n) (h : Q (some (.int (sumF trial.green n))) (clsW pn pc tok ship nn tl draft vd log trial sta says seed past marks K)) : XC (xF L xs) xmeths (d + 1) 108 [.ref 44] (clsW pn pc tok ship nn tl draft vd log trial sta says seed past marks K) Q := by
  refine ⟨nb rfl, xgo [4] 20 ⟨nb rfl, nb rfl, ?_⟩⟩
  refine up_to (P := fun j => XWp (xF L xs) (some .int) xP108 (XC (xF L xs) xmeths d) Q 4 [some (.ref 44), some (.int (sumF trial.green j)), some (.int (nI j))] [] (clsW pn pc tok ship nn tl draft vd log trial sta says seed past marks K)) (n := n) (fun j hj ih => xgo [4] 40 ?_)
  refine pk_le n j (fun q => ?_) (fun q => ?_) hm rfl (by omega) (by omega)
  · have e : j = n := by omega
    subst e
    exact h
  · have ih := ih q
    refine ⟨vp_in_nI (by omega) (by omega), nb rfl, ?_⟩
    have e1 : (nI j).toNatClampNeg = j := nI_clamp (by omega)
    rw [e1]
    rw [sumF, nI_succ] at ih
    exact ih

end XCR
