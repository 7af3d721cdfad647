/-! the class's rests: it returns, or comes to a throw -/
theorem sh1 : ∀ k, k < 4 → nI k >>> (Int32.ofInt 1 &&& 31) = nI (k / 2) := by decide +kernel
theorem an1 : ∀ k, k < 4 → nI k &&& Int32.ofInt 1 = nI (k % 2) := by decide +kernel
section XRT
variable {L : Nat} {xs : Nat → Int32} {d : Nat} {Q : XQt} {w : XWd} {b g l o t what : Int32}
theorem xgs {rt : Option FieldType} {P : List Instr} {Q : XQt} {St : XKt} (S S2 : List Nat) (n : Nat) {i : Nat} {loc : XL} {st : List Value} {w : XWd} (h : xvs (xF L xs) rt P (XC (xF L xs) xmeths d) Q St S S2 n i loc st w) : XWs (xF L xs) rt P (XC (xF L xs) xmeths d) Q St i loc st w := xvs_sound (XC_mono d) S S2 n h
theorem c_payOf (h : Q (some (.int (payV b g l o t))) w) : XC (xF L xs) xmeths (d + 1) 165 [.int b, .int g, .int l, .int o, .int t] w Q := by
  refine ⟨nb rfl, xgo [] 40 ?_⟩
  rw [payV] at h
  refine And.intro (fun (q : ¬ o = 1) => ?_) (fun (q : ¬ ¬ o = 1) => ?_)
  · rw [if_neg q] at h
    refine And.intro (fun (q2 : ¬ t = 1) => ?_) (fun (q2 : ¬ ¬ t = 1) => ?_)
    · rw [if_neg q2] at h; exact h
    · rw [if_pos (Classical.not_not.mp q2)] at h; exact h
  · rw [if_pos (Classical.not_not.mp q)] at h
    refine And.intro (fun (q2 : ¬ t = 1) => ?_) (fun (q2 : ¬ ¬ t = 1) => ?_)
    · rw [if_neg q2] at h; exact h
    · rw [if_pos (Classical.not_not.mp q2)] at h; exact h
theorem c_isAtRest {k : Nat} (hk : k < 4) (h : Q (some (.int (b2i (rstR b g l k = true)))) w) : XC (xF L xs) xmeths (d + 2) 164 [.int b, .int g, .int l, .int (nI k)] w Q := by
  have s1 : Int32.ofInt 1 - nI (k / 2) = nI (1 - k / 2) := pk_sub (a := 1) (by omega)
  have s2 : Int32.ofInt 1 - nI (k % 2) = nI (1 - k % 2) := pk_sub (a := 1) (by omega)
  have hR : rstR b g l k = true ↔ payV b g l (nI (1 - k / 2)) (nI (k % 2)) ≤ payV b g l (nI (k / 2)) (nI (k % 2)) ∧ payV b g l (nI (1 - k % 2)) (nI (k / 2)) ≤ payV b g l (nI (k % 2)) (nI (k / 2)) := by
    rw [rstR, decide_eq_true_eq]
  generalize hp1 : payV b g l (nI (k / 2)) (nI (k % 2)) = P1 at hR
  generalize hp2 : payV b g l (nI (1 - k / 2)) (nI (k % 2)) = P2 at hR
  generalize hp3 : payV b g l (nI (k % 2)) (nI (k / 2)) = P3 at hR
  generalize hp4 : payV b g l (nI (1 - k % 2)) (nI (k / 2)) = P4 at hR
  have a45 : XWp (xF L xs) (some .boolean) xP164 (XC (xF L xs) xmeths (d + 1)) Q 45 [oi b, oi g, oi l, oi (nI k), oi (nI (k / 2)), oi (nI (k % 2)), oi (b2i (P2 ≤ P1)), none] [.int (b2i (P4 ≤ P3))] w := by
    refine xgo [] 20 ⟨nb rfl, ?_⟩
    refine vB0 (fun q => ?_) (fun q => vB0 (fun q2 => ?_) (fun q2 => ?_))
    · rw [b2i_f (fun y => q (hR.mp y).1)] at h; exact ⟨rfl, h⟩
    · rw [b2i_f (fun y => q2 (hR.mp y).2)] at h; exact ⟨rfl, h⟩
    · rw [b2i_t (hR.mpr ⟨q, q2⟩)] at h; exact ⟨rfl, h⟩
  have a26 : XWp (xF L xs) (some .boolean) xP164 (XC (xF L xs) xmeths (d + 1)) Q 26 [oi b, oi g, oi l, oi (nI k), oi (nI (k / 2)), oi (nI (k % 2)), none, none] [.int (b2i (P2 ≤ P1))] w := by
    refine xgo [45] 60 ⟨nb rfl, ⟨rfl, nb rfl, c_payOf ⟨rfl, nb rfl, c_payOf ?_⟩⟩⟩
    rw [s2, hp3, hp4]
    refine And.intro (fun (q : P3 < P4) => ?_) (fun (q : ¬ P3 < P4) => ?_)
    · rw [b2i_f (Int32.not_le.mpr q)] at a45; exact a45
    · rw [b2i_t (Int32.not_lt.mp q)] at a45; exact a45
  refine ⟨nb rfl, xgo [8] 20 ⟨nb rfl, nb rfl, ?_⟩⟩
  rw [sh1 k hk, an1 k hk]
  refine xgo [26] 60 ⟨rfl, nb rfl, c_payOf ⟨rfl, nb rfl, c_payOf ?_⟩⟩
  rw [s1, hp1, hp2]
  refine And.intro (fun (q : P1 < P2) => ?_) (fun (q : ¬ P1 < P2) => ?_)
  · rw [b2i_f (Int32.not_le.mpr q)] at a26; exact a26
  · rw [b2i_t (Int32.not_lt.mp q)] at a26; exact a26
theorem c_restsS {St : XKt} {r : Nat} (h1 : ∀ v, restV b g l what = some v → Q (some (.int v)) w) (h0 : restV b g l what = none → ∀ i loc, (i = 24 ∨ i = 53) → St i loc [] w) : XWs (xF L xs) (some .int) xP163 (XC (xF L xs) xmeths (d + 2)) Q St 0 (xent 8 [.ref r, .int b, .int g, .int l, .int what]) [] w := by
  have a17 : ¬ (((0 ≤ b ∧ b ≤ 9) ∧ (0 ≤ g ∧ g ≤ 9) ∧ (0 ≤ l ∧ l ≤ 9)) ∧ -1 ≤ what) → XWs (xF L xs) (some .int) xP163 (XC (xF L xs) xmeths (d + 2)) Q St 17 [orf r, oi b, oi g, oi l, oi what, none, none, none] [] w := by
    intro q
    exact xgs [] [24] 20 ⟨nb rfl, vTd rfl (h0 (by rw [restV, if_neg q]) 24 _ (Or.inl rfl))⟩
  refine xgs [17, 33] [24, 53] 60 ⟨rfl, nb rfl, c_isWithin ?_⟩
  refine vB0 (fun q => a17 (fun y => q y.1.1)) (fun q1 => ⟨rfl, nb rfl, c_isWithin ?_⟩)
  refine vB0 (fun q => a17 (fun y => q y.1.2.1)) (fun q2 => ⟨rfl, nb rfl, c_isWithin ?_⟩)
  refine vB0 (fun q => a17 (fun y => q y.1.2.2)) (fun q3 => ⟨nb rfl, vFd rfl ?_⟩)
  refine And.intro (fun (q4 : -1 ≤ what) => ?_) (fun (q4 : ¬ -1 ≤ what) => h0 (by rw [restV, if_neg (fun y => q4 y.2)]) 24 _ (Or.inl rfl))
  have e0 : restV b g l what = rstF (rstR b g l) what 4 0 0 := by rw [restV, if_pos ⟨⟨q1, q2, q3⟩, q4⟩]
  rw [e0] at h1 h0
  refine ⟨nb rfl, nb rfl, ?_⟩
  refine up_to (P := fun k => ∀ f, f ≤ k → (∀ v, rstF (rstR b g l) what (4 - k) k f = some v → Q (some (.int v)) w) → (rstF (rstR b g l) what (4 - k) k f = none → ∀ i loc, (i = 24 ∨ i = 53) → St i loc [] w) → XWs (xF L xs) (some .int) xP163 (XC (xF L xs) xmeths (d + 2)) Q St 33 [orf r, oi b, oi g, oi l, oi what, oi 1, oi (nI f), oi (nI k)] [] w) (n := 4) (fun k hk ih f hf h1 h0 => xgs [33, 48] [53] 60 ?_) 0 (Nat.le_refl 0) h1 h0
  refine pk_le 4 k (fun q => ?_) (fun q => ?_) rfl rfl (by omega) (by omega)
  · have e : 4 - k = 0 := by omega
    rw [e, rstF] at h1 h0
    refine And.intro (fun (q5 : what = -1) => ?_) (fun (q5 : ¬ what = -1) => ?_)
    · exact h1 _ (by rw [if_pos q5])
    · exact h0 (by rw [if_neg q5]) 53 _ (Or.inr rfl)
  · have ih := ih q
    have e : 4 - k = (4 - (k + 1)) + 1 := by omega
    rw [e, rstF] at h1 h0
    have a48 : ∀ f', f' ≤ k + 1 → (∀ v, rstF (rstR b g l) what (4 - (k + 1)) (k + 1) f' = some v → Q (some (.int v)) w) → (rstF (rstR b g l) what (4 - (k + 1)) (k + 1) f' = none → ∀ i loc, (i = 24 ∨ i = 53) → St i loc [] w) → XWs (xF L xs) (some .int) xP163 (XC (xF L xs) xmeths (d + 2)) Q St 48 [orf r, oi b, oi g, oi l, oi what, oi 1, oi (nI f'), oi (nI k)] [] w := by
      intro f' hf' g1 g0
      have ih := ih f' hf' g1 g0
      rw [nI_succ] at ih
      exact xgs [33] [] 10 ih
    refine ⟨rfl, nb rfl, c_isAtRest (by omega) ?_⟩
    refine vB0 (fun q6 => ?_) (fun q6 => ?_)
    · rw [if_neg q6] at h1 h0
      exact a48 f (by omega) h1 h0
    · rw [if_pos q6] at h1 h0
      refine And.intro (fun (q7 : ¬ nI f = what) => ?_) (fun (q7 : ¬ ¬ nI f = what) => ?_)
      · rw [if_neg q7] at h1 h0
        have a48 := a48 (f + 1) (by omega) h1 h0
        rw [nI_succ] at a48
        exact a48
      · rw [if_pos (Classical.not_not.mp q7)] at h1
        exact h1 _ rfl
theorem c_restsV {r : Nat} {v : Int32} (e : restV b g l what = some v) (h : Q (some (.int v)) w) : XC (xF L xs) xmeths (d + 3) 163 [.ref r, .int b, .int g, .int l, .int what] w Q :=
  ⟨nb rfl, fun R hR => c_restsS (St := fun _ _ _ _ => False) (fun v' e' => by rw [← Option.some.inj (e.symm.trans e')]; exact h) (fun y => absurd (e.symm.trans y) (by simp)) R (fun _ _ _ _ y => y.elim) hR⟩
end XRT
