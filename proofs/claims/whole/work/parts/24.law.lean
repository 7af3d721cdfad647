/-! the law of how one greens, as the class works it -/
def rng (x : Int32) (m : Nat) : Prop := ∃ h, h ≤ m ∧ x = nI h
abbrev TLaw.wm (l : TLaw) (stk kn : Fn) : TLaw := (l.steps, stk, kn, l.size, l.looks)
def fctV (a b c e step : Int32) : Int32 := if step &&& 15 = 1 then a else if step &&& 15 = 2 then b else if step &&& 15 = 3 then c else if step &&& 15 = 4 then e else step >>> (4 &&& 31)
def jnV (k a b : Int32) : Int32 := if k = 6 then b2i (¬ a = 0 ∧ ¬ b = 0) else if k = 7 then b2i (¬ a = 0 ∨ ¬ b = 0) else if k = 8 then b2i (a < b) else if k = 9 then b2i (a = b) else if k = 10 then a + b else if k = 11 then a - b else a * b
def vStep (fv : Int32 → Int32) (f : Fn) (t : Nat) (step : Int32) : Fn × Nat :=
  if step &&& 15 ≤ 4 ∧ t < 32 then (upd f t (fv step), t + 1)
  else if step &&& 15 = 5 ∧ 0 < t then (upd f (t - 1) (b2i (f (t - 1) = 0)), t)
  else if 1 < t then (upd f (t - 2) (jnV (step &&& 15) (f (t - 2)) (f (t - 1))), t - 1)
  else (f, t)
def vRun (fv : Int32 → Int32) (steps f : Fn) : Nat → Fn × Nat
  | 0 => (f, 0)
  | i + 1 => vStep fv (vRun fv steps f i).1 (vRun fv steps f i).2 (steps i)
theorem vRun_le (fv : Int32 → Int32) (steps f : Fn) : ∀ i, (vRun fv steps f i).2 ≤ 32
  | 0 => Nat.zero_le _
  | i + 1 => by
    have := vRun_le fv steps f i
    simp only [vRun, vStep]
    split
    · show _ + 1 ≤ 32; omega
    · split
      · exact this
      · split
        · show _ - 1 ≤ 32; omega
        · exact this
/-- whatever lay on the stack before -/
theorem vRun_free (fv : Int32 → Int32) (steps f g : Fn) : ∀ i, (vRun fv steps f i).2 = (vRun fv steps g i).2 ∧ ∀ k, k < (vRun fv steps f i).2 → (vRun fv steps f i).1 k = (vRun fv steps g i).1 k
  | 0 => ⟨rfl, fun k hk => absurd hk (Nat.not_lt_zero k)⟩
  | i + 1 => by
    have ⟨h1, h2⟩ := vRun_free fv steps f g i
    simp only [vRun]
    generalize (vRun fv steps f i) = x at h1 h2 ⊢
    generalize (vRun fv steps g i) = y at h1 h2 ⊢
    rcases x with ⟨f, t⟩
    rcases y with ⟨g, t'⟩
    simp only at h1 h2
    subst h1
    simp only [vStep]
    split
    · refine ⟨rfl, fun k hk => ?_⟩
      simp only [upd]
      split
      · rfl
      · exact h2 k (by simp only at hk; omega)
    · split
      · rename_i hq
        refine ⟨rfl, fun k hk => ?_⟩
        simp only [upd]
        split
        · simp only [h2 (t - 1) (by omega)]
        · exact h2 k hk
      · split
        · refine ⟨rfl, fun k hk => ?_⟩
          simp only [upd]
          split
          · rw [h2 (t - 1) (by omega), h2 (t - 2) (by omega)]
          · exact h2 k (by simp only at hk; omega)
        · exact ⟨rfl, h2⟩
def vTop (r : Fn × Nat) : Int32 := if 0 < r.2 then r.1 (r.2 - 1) else 0
theorem vTop_free (fv : Int32 → Int32) (steps f g : Fn) (i : Nat) : vTop (vRun fv steps f i) = vTop (vRun fv steps g i) := by
  have ⟨h1, h2⟩ := vRun_free fv steps f g i
  simp only [vTop]
  rw [← h1]
  split
  · exact h2 _ (by omega)
  · rfl
def valV (l : TLaw) (a b c e : Int32) : Int32 := vTop (vRun (fctV a b c e) l.steps (fun _ => 0) l.size.toNatClampNeg)
def RV (l : TLaw) (a b c e : Nat) : Nat := (mx 0 (mn 9 (valV l (nI a) (nI b) (nI c) (nI e)))).toNatClampNeg
theorem cl09 (x : Int32) : mx 0 (mn 9 x) = nI (mx 0 (mn 9 x)).toNatClampNeg ∧ (mx 0 (mn 9 x)).toNatClampNeg ≤ 9 := by
  have h : ¬ mx 0 (mn 9 x) < 0 ∧ mx 0 (mn 9 x) ≤ 9 := by
    simp only [mx, mn]
    split
    · split
      · rename_i h1 h2
        exact ⟨fun z => by rw [Int32.lt_iff_toInt_lt] at *; omega, by rw [Int32.lt_iff_toInt_lt] at h1; rw [Int32.le_iff_toInt_le]; omega⟩
      · exact ⟨by decide, by decide⟩
    · split
      · rename_i h1 h2
        exact ⟨fun z => by rw [Int32.lt_iff_toInt_lt] at *; omega, by decide⟩
      · exact ⟨by decide, by decide⟩
  rcases nI_of2 (M := 9) (n := 9) (by decide) h.1 h.2 with ⟨j, hj, e⟩
  rw [e, nI_clamp (by omega)]
  exact ⟨rfl, hj⟩
theorem RV_le (l : TLaw) (a b c e : Nat) : RV l a b c e ≤ 9 := (cl09 _).2
def keyN (a b c e : Nat) : Nat := ((a * 11 + b) * 28 + c) * 6 + e
theorem keyN_inj {a b c e a' b' c' e' : Nat} (hb : b ≤ 10) (hc : c ≤ 27) (he : e ≤ 5) (hb' : b' ≤ 10) (hc' : c' ≤ 27) (he' : e' ≤ 5) (h : keyN a b c e = keyN a' b' c' e') : a = a' ∧ b = b' ∧ c = c' ∧ e = e' := by
  simp only [keyN] at h
  refine ⟨by omega, by omega, by omega, by omega⟩
theorem keyN_lt {a b c e : Nat} (ha : a ≤ 99) (hb : b ≤ 10) (hc : c ≤ 27) (he : e ≤ 5) : keyN a b c e < 184800 := by
  simp only [keyN]; omega
def KOk (kn : Fn) (R : Nat → Nat → Nat → Nat → Nat) : Prop := ∀ s, s < 4096 → kn s = -1 ∨ ∃ a b c e, a ≤ 99 ∧ b ≤ 10 ∧ c ≤ 27 ∧ e ≤ 5 ∧ kn s = nI (keyN a b c e * 16 + R a b c e)
theorem nI_shr4 {m r : Nat} (hm : m < 184800) (hr : r ≤ 9) : nI (m * 16 + r) >>> (4 &&& 31) = nI m := by
  rw [pk_shrN (by omega) _ 4 (by decide)]
  congr 1
  omega
theorem nI_and15 {m r : Nat} (hm : m < 184800) (hr : r ≤ 9) : nI (m * 16 + r) &&& 15 = nI r := by
  rw [pk_andN (by omega) 4 (by decide)]
  congr 1
  omega
section XLW
variable {L : Nat} {xs : Nat → Int32} {d : Nat} {Q : XQt} {pn pc : Int32} {tok : TTok} {ship : TShip} {nn : Int64} {tl : Int32} {draft : TShip} {vd : TVoy} {log : TLog} {trial : TCrew} {sta : TSta} {says : Fn} {seed : Int64} {past : Nat → TCrew} {marks : Nat → TLog} {mi : TMi} {ma : TMa} {mb : TMb} {K : XWd}
theorem c_factOf {w : XWd} {s a b c e : Int32} (h : Q (some (.int (fctV a b c e s))) w) : XC (xF L xs) xmeths (d + 1) 104 [.int s, .int a, .int b, .int c, .int e] w Q := by
  refine ⟨nb rfl, xgo [] 20 ?_⟩
  refine And.intro (fun (q : s &&& 15 = 1) => ?_) (fun (q : ¬ s &&& 15 = 1) => ?_)
  · rw [fctV, if_pos q] at h
    exact h
  refine And.intro (fun (q2 : s &&& 15 = 2) => ?_) (fun (q2 : ¬ s &&& 15 = 2) => ?_)
  · rw [fctV, if_neg q, if_pos q2] at h
    exact h
  refine And.intro (fun (q3 : s &&& 15 = 3) => ?_) (fun (q3 : ¬ s &&& 15 = 3) => ?_)
  · rw [fctV, if_neg q, if_neg q2, if_pos q3] at h
    exact h
  refine And.intro (fun (q4 : s &&& 15 = 4) => ?_) (fun (q4 : ¬ s &&& 15 = 4) => ?_)
  · rw [fctV, if_neg q, if_neg q2, if_neg q3, if_pos q4] at h
    exact h
  rw [fctV, if_neg q, if_neg q2, if_neg q3, if_neg q4] at h
  exact h
theorem c_joined {w : XWd} {k a b : Int32} (h : Q (some (.int (jnV k a b))) w) : XC (xF L xs) xmeths (d + 1) 105 [.int k, .int a, .int b] w Q := by
  refine ⟨nb rfl, xgo [] 20 ?_⟩
  refine And.intro (fun (q : _ = (6 : Int32)) => ?_) (fun (q : ¬ _ = (6 : Int32)) => ?_)
  · rw [jnV, if_pos q] at h
    have h := vR h
    exact And.intro (fun (z : _ = _) => h.2 (fun y => y.1 z)) (fun (z : ¬ _ = _) => And.intro (fun (z2 : _ = _) => h.2 (fun y => y.2 z2)) (fun (z2 : ¬ _ = _) => h.1 ⟨z, z2⟩))
  refine And.intro (fun (q2 : _ = (7 : Int32)) => ?_) (fun (q2 : ¬ _ = (7 : Int32)) => ?_)
  · rw [jnV, if_neg q, if_pos q2] at h
    have h := vR h
    exact And.intro (fun (z : ¬ _ = _) => h.1 (Or.inl z)) (fun (z : ¬ ¬ _ = _) => And.intro (fun (z2 : _ = _) => h.2 (fun y => y.elim z (fun y => y z2))) (fun (z2 : ¬ _ = _) => h.1 (Or.inr z2)))
  refine And.intro (fun (q3 : _ = (8 : Int32)) => ?_) (fun (q3 : ¬ _ = (8 : Int32)) => ?_)
  · rw [jnV, if_neg q, if_neg q2, if_pos q3] at h
    have h := vR h
    exact And.intro (fun (z : _ ≤ _) => h.2 (Int32.not_lt.mpr z)) (fun (z : ¬ _ ≤ _) => h.1 (Int32.not_le.mp z))
  refine And.intro (fun (q4 : _ = (9 : Int32)) => ?_) (fun (q4 : ¬ _ = (9 : Int32)) => ?_)
  · rw [jnV, if_neg q, if_neg q2, if_neg q3, if_pos q4] at h
    have h := vR h
    exact And.intro (fun (z : ¬ _ = _) => h.2 z) (fun (z : ¬ ¬ _ = _) => h.1 (Classical.not_not.mp z))
  refine And.intro (fun (q5 : _ = (10 : Int32)) => ?_) (fun (q5 : ¬ _ = (10 : Int32)) => ?_)
  · rw [jnV, if_neg q, if_neg q2, if_neg q3, if_neg q4, if_pos q5] at h
    exact h
  refine And.intro (fun (q6 : _ = (11 : Int32)) => ?_) (fun (q6 : ¬ _ = (11 : Int32)) => ?_)
  · rw [jnV, if_neg q, if_neg q2, if_neg q3, if_neg q4, if_neg q5, if_pos q6] at h
    exact h
  rw [jnV, if_neg q, if_neg q2, if_neg q3, if_neg q4, if_neg q5, if_neg q6] at h
  exact h
theorem c_valueFor {z : Nat} {a b c e : Int32} (hz : ship.law.size = nI z) (hz2 : z ≤ 1000) (h : ∀ stk, Q (some (.int (valV ship.law a b c e))) (clsW pn pc tok (ship.wlaw (ship.law.wm stk ship.law.known)) nn tl draft vd log trial sta says seed past marks K)) : XC (xF L xs) xmeths (d + 2) 103 [.ref 12, .int a, .int b, .int c, .int e] (clsW pn pc tok ship nn tl draft vd log trial sta says seed past marks K) Q := by
  have h : ∀ stk, Q (some (.int (vTop (vRun (fctV a b c e) ship.law.steps ship.law.stack z)))) (clsW pn pc tok (ship.wlaw (ship.law.wm stk ship.law.known)) nn tl draft vd log trial sta says seed past marks K) := by
    intro stk
    have h := h stk
    rw [valV, hz, nI_clamp (by omega), vTop_free (fctV a b c e) ship.law.steps (fun _ => 0) ship.law.stack] at h
    exact h
  refine ⟨nb rfl, xgo [4] 20 ⟨nb rfl, nb rfl, ?_⟩⟩
  refine up_to (P := fun j => ∀ x7 : Option Value, XWp (xF L xs) (some .int) xP103 (XC (xF L xs) xmeths (d + 1)) Q 4 [orf 12, oi a, oi b, oi c, oi e, oi (nI (vRun (fctV a b c e) ship.law.steps ship.law.stack j).2), oi (nI j), x7] [] (clsW pn pc tok (ship.wlaw (ship.law.wm (vRun (fctV a b c e) ship.law.steps ship.law.stack j).1 ship.law.known)) nn tl draft vd log trial sta says seed past marks K)) (n := z) (fun j hj ih x7 => ?_) none
  have ht := vRun_le (fctV a b c e) ship.law.steps ship.law.stack j
  by_cases hjz : j = z
  · subst hjz
    generalize hr : vRun (fctV a b c e) ship.law.steps ship.law.stack j = r at *
    rcases r with ⟨f, t⟩
    refine xgo [4] 100 ?_
    refine pk_le j j (fun q => ?_) (fun q => by omega) hz rfl (by omega) (by omega)
    have h := h f
    simp only [vTop] at h
    simp only at ht
    refine pk_le t 0 (fun q => ?_) (fun q => ?_) rfl nI_0.symm (by omega) (by omega)
    · rw [if_neg (by omega)] at h
      exact h
    · have e1 : nI t - Int32.ofInt 1 = nI (t - 1) := pk_sub q
      refine ⟨show vp_in (nI t - Int32.ofInt 1) 32 from e1 ▸ vp_in_nI (by omega) (by omega), ?_⟩
      rw [e1, nI_clamp (by omega)]
      rw [if_pos q] at h
      exact h
  · have ih := ih (by omega)
    simp only [vRun] at ih
    generalize hr : vRun (fctV a b c e) ship.law.steps ship.law.stack j = r at *
    rcases r with ⟨f, t⟩
    simp only at ht ih
    have ej : (nI j).toNatClampNeg = j := nI_clamp (by omega)
    generalize hs : ship.law.steps j = s at *
    have tail : ∀ (g : Fn) (u : Nat), vStep (fctV a b c e) f t s = (g, u) → XWp (xF L xs) (some .int) xP103 (XC (xF L xs) xmeths (d + 1)) Q 4 [orf 12, oi a, oi b, oi c, oi e, oi (nI u), oi (nI j + 1), oi (s &&& 15)] [] (clsW pn pc tok (ship.wlaw (ship.law.wm g ship.law.known)) nn tl draft vd log trial sta says seed past marks K) := by
      intro g u hg
      have ih := ih (oi (s &&& 15))
      rw [hg, nI_succ] at ih
      exact ih
    have third : ¬ (s &&& 15 ≤ 4 ∧ t < 32) → ¬ (s &&& 15 = 5 ∧ 0 < t) → (nI t ≤ 1 → XWp (xF L xs) (some .int) xP103 (XC (xF L xs) xmeths (d + 1)) Q 4 [orf 12, oi a, oi b, oi c, oi e, oi (nI t), oi (nI j + 1), oi (s &&& 15)] [] (clsW pn pc tok (ship.wlaw (ship.law.wm f ship.law.known)) nn tl draft vd log trial sta says seed past marks K)) ∧ (¬ nI t ≤ 1 → 1 < t ∧ XWp (xF L xs) (some .int) xP103 (XC (xF L xs) xmeths (d + 1)) Q 4 [orf 12, oi a, oi b, oi c, oi e, oi (nI (t - 1)), oi (nI j + 1), oi (s &&& 15)] [] (clsW pn pc tok (ship.wlaw (ship.law.wm (upd f (t - 2) (jnV (s &&& 15) (f (t - 2)) (f (t - 1)))) ship.law.known)) nn tl draft vd log trial sta says seed past marks K)) := by
      intro g1 g2
      refine ⟨fun q => tail f t ?_, fun q => ?_⟩
      · rw [vStep, if_neg g1, if_neg g2, if_neg]
        exact fun z => absurd q (nI_ge (a := 1) z (by omega))
      · have : 1 < t := by
          rcases Nat.lt_or_ge 1 t with y | y
          · exact y
          · exact absurd (nI_le (b := 1) y (by omega)) q
        exact ⟨this, tail _ _ (by rw [vStep, if_neg g1, if_neg g2, if_pos this])⟩
    have last : ¬ (s &&& 15 ≤ 4 ∧ t < 32) → ¬ (s &&& 15 = 5 ∧ 0 < t) → XWp (xF L xs) (some .int) xP103 (XC (xF L xs) xmeths (d + 1)) Q 58 [orf 12, oi a, oi b, oi c, oi e, oi (nI t), oi (nI j), oi (s &&& 15)] [] (clsW pn pc tok (ship.wlaw (ship.law.wm f ship.law.known)) nn tl draft vd log trial sta says seed past marks K) := by
      intro g1 g2
      have ⟨t1, t2⟩ := third g1 g2
      refine xgo [4] 100 ?_
      refine And.intro (fun (q : _ ≤ (1 : Int32)) => t1 q) (fun (q : ¬ _ ≤ (1 : Int32)) => ?_)
      have ⟨y, t2⟩ := t2 q
      have e1 : nI t + Int32.ofInt (-1) = nI (t - 1) := by
        have := pk_m1 (t - 1)
        rw [Nat.sub_add_cancel (by omega)] at this
        exact this
      have e2 : nI t + Int32.ofInt (-1) - Int32.ofInt 1 = nI (t - 2) := by
        rw [e1]
        exact pk_sub (a := t - 1) (b := 1) (by omega)
      refine ⟨show vp_in (nI t + Int32.ofInt (-1) - Int32.ofInt 1) 32 from e2 ▸ vp_in_nI (by omega) (by omega), show vp_in (nI t + Int32.ofInt (-1)) 32 from e1 ▸ vp_in_nI (by omega) (by omega), ⟨rfl, nb rfl, c_joined ?_⟩⟩
      refine ⟨show vp_in (nI t + Int32.ofInt (-1) - Int32.ofInt 1) 32 from e2 ▸ vp_in_nI (by omega) (by omega), ?_⟩
      rw [e2, e1, nI_clamp (by omega), nI_clamp (by omega)]
      exact t2
    refine xgo [4, 58] 100 ?_
    refine pk_le z j (fun q => by omega) (fun _ => ?_) hz rfl (by omega) (by omega)
    refine ⟨vp_in_nI (by omega) (by omega), nb rfl, ?_⟩
    rw [ej, hs]
    refine And.intro (fun (q : 4 < s &&& 15) => ?_) (fun (q : ¬ 4 < s &&& 15) => ?_)
    · refine And.intro (fun (q2 : ¬ s &&& 15 = 5) => ?_) (fun (q2 : ¬ ¬ s &&& 15 = 5) => ?_)
      · exact last (fun z => absurd z.1 (Int32.not_le.mpr q)) (fun z => q2 z.1)
      · refine pk_le t 0 (fun q3 => ?_) (fun q3 => ?_) rfl nI_0.symm (by omega) (by omega)
        · exact last (fun z => absurd z.1 (Int32.not_le.mpr q)) (fun z => by omega)
        · have e1 : nI t - Int32.ofInt 1 = nI (t - 1) := pk_sub q3
          have tl' := tail (upd f (t - 1) (b2i (f (t - 1) = 0))) t (by rw [vStep, if_neg (fun z => absurd z.1 (Int32.not_le.mpr q)), if_pos ⟨Classical.not_not.mp q2, q3⟩])
          refine ⟨show vp_in (nI t - Int32.ofInt 1) 32 from e1 ▸ vp_in_nI (by omega) (by omega), ?_⟩
          rw [e1, nI_clamp (by omega)]
          refine And.intro (fun (q4 : ¬ f (t - 1) = 0) => ?_) (fun (q4 : ¬ ¬ f (t - 1) = 0) => ?_)
          · refine ⟨vp_in_nI (by omega) (by omega), ?_⟩
            rw [b2i_f q4] at tl'
            rw [nI_clamp (by omega)]
            exact tl'
          · refine ⟨vp_in_nI (by omega) (by omega), ?_⟩
            rw [b2i_t (Classical.not_not.mp q4)] at tl'
            rw [nI_clamp (by omega)]
            exact tl'
    · refine pk_le 32 t (fun q3 => ?_) (fun q3 => ?_) rfl rfl (by omega) (by omega)
      · refine And.intro (fun (q2 : ¬ s &&& 15 = 5) => ?_) (fun (q2 : ¬ ¬ s &&& 15 = 5) => ?_)
        · exact last (fun z => by omega) (fun z => q2 z.1)
        · exact absurd (Classical.not_not.mp q2 ▸ (by decide : (4 : Int32) < 5)) q
      · have tl' := tail (upd f t (fctV a b c e s)) (t + 1) (by rw [vStep, if_pos ⟨Int32.not_lt.mp q, q3⟩])
        rw [nI_succ] at tl'
        refine ⟨vp_in_nI (by omega) (by omega), ⟨rfl, nb rfl, c_factOf ?_⟩⟩
        refine ⟨vp_in_nI (by omega) (by omega), ?_⟩
        rw [ej, hs, nI_clamp (by omega)]
        exact tl'
end XLW
