/-! the class: the law is read -/
def RdOk (L : Nat) (xs : Nat → Int32) (pn pc : Int32) (ship : TShip) (nn : Int64) (tl : Int32) (vd : TVoy) (log : TLog) (trial : TCrew) (sta : TSta) (says : Fn) (seed : Int64) (past : Nat → TCrew) (marks : Nat → TLog) (K : XWd) (C : Nat → Nat) (T : Fn) (l dd m : Nat) (sub : Nat → RL) (dp : Nat) : Prop :=
  ∀ (Q : XQt) (tok : TTok) (draft : TShip) (s z : Nat), TkR tok T C l s → s ≤ l → draft.law.size = nI z → z ≤ s → (draft.law.looks = 0 ∨ draft.law.looks = 1) →
    (∀ f, sub s = .inl f → ∀ (tok' : TTok) (draft' : TShip) (z' : Nat), draft'.law.size = nI z' → z' ≤ 1000 → tok'.fault = nI f → Q (some (.int 0)) (clsW pn pc tok' ship nn tl draft' vd log trial sta says seed past marks K)) →
    (∀ s' st cd, sub s = .inr (s', st, cd) → ∀ tok' : TTok, TkR tok' T C l s' → tok'.fault = tok.fault → Q (some (.int 1)) (clsW pn pc tok' ship nn tl (draft.wlaw (lwA draft.law st)) vd log trial sta says seed past marks K)) →
    XC (xF L xs) xmeths dd m [.ref 26, .ref 1, .int (nI dp)] (clsW pn pc tok ship nn tl draft vd log trial sta says seed past marks K) Q
section XLR
variable {L : Nat} {xs : Nat → Int32} {d : Nat} {Q : XQt} {pn pc : Int32} {tok : TTok} {ship : TShip} {nn : Int64} {tl : Int32} {draft : TShip} {vd : TVoy} {log : TLog} {trial : TCrew} {sta : TSta} {says : Fn} {seed : Int64} {past : Nat → TCrew} {marks : Nat → TLog} {K : XWd}
variable {C : Nat → Nat} {l dp : Nat} {T : Fn} {sub : Nat → RL}
/-- a step of an operation is laid -/
theorem c_opStep {k : Nat} {L0 : TLaw} {st st2 : List Int32} {z : Nat} (hz : L0.size = nI z) (hl : z + (st ++ st2).length < 1000) (hk : ¬ nI k = 4) (h : Q none (clsW pn pc tok ship nn tl (draft.wlaw (lwA L0 (st ++ (st2 ++ [nI k])))) vd log trial sta says seed past marks K)) : XC (xF L xs) xmeths (d + 1) 8 [.ref 26, .int (nI k), .int 0] (clsW pn pc tok ship nn tl (draft.wlaw (lwA (lwA L0 st) st2)) vd log trial sta says seed past marks K) Q := by
  have e1 : lwA L0 (st ++ (st2 ++ [nI k])) = lwS (lwA (lwA L0 st) st2) (nI k) := by
    rw [← List.append_assoc, lwA_app, lwA_app]
    rfl
  rw [e1] at h
  have hs : (lwA (lwA L0 st) st2).size = nI (z + (st ++ st2).length) := by
    rw [← lwA_app]; exact lwA_size _ _ _ hz
  generalize lwA (lwA L0 st) st2 = L1 at *
  refine c_addStep (draft := draft.wlaw L1) (z := z + (st ++ st2).length) hs (by omega) (fun _ => ?_) (fun q => absurd hl q)
  have e2 : lwS L1 (nI k) = (upd L1.steps (z + (st ++ st2).length) (nI k + 16 * 0), L1.stack, L1.known, L1.size + 1, L1.looks) := by
    unfold lwS
    rw [if_neg hk, hs, nI_clamp (by omega), show nI k + 16 * 0 = nI k by rw [show (16 : Int32) * 0 = 0 from rfl, Int32.add_zero]]
  rw [e2] at h
  exact h
theorem c_readProduct (hK : K.length < 700000) (rp : RpC T C l) (l1 : l ≤ 1000) (hfw : FwP l sub) (hsub : RdOk L xs pn pc ship nn tl vd log trial sta says seed past marks K C T l (d + 7) 64 sub dp) : RdOk L xs pn pc ship nn tl vd log trial sta says seed past marks K C T l (d + 8) 63 (levP C l (op1 C l) sub 1000) dp := by
  intro Q tok draft s0 z tr0 sl0 hz zs hlk h0 h1
  refine ⟨nb rfl, xgo [7] 20 ⟨rfl, nb rfl, hsub _ tok draft s0 z tr0 sl0 hz zs hlk (fun f ef tok' draft' z' a1 a2 a3 => ?_) (fun s1 st cd e1 tok' tr' f1 => ?_)⟩⟩
  · have h0 := h0 f (by unfold levP; rw [ef]) tok' draft' z' a1 a2 a3
    exact ⟨nb rfl, nb rfl, xgo [] 20 (vTd rfl ⟨rfl, h0⟩)⟩
  have fw1 := hfw s0 sl0 _ _ _ e1
  have key : ∀ m i (tok1 : TTok) s st cd, i + m = 1000 → TkR tok1 T C l s → s ≤ l → z + st.length ≤ s → tok1.fault = tok.fault → levP C l (op1 C l) sub 1000 s0 = lpP C l (op1 C l) sub m s st cd → XWp (xF L xs) (some .boolean) xP63 (XC (xF L xs) xmeths (d + 7)) Q 7 [orf 26, orf 1, oi (nI dp), oi 1, oi (nI i)] [] (clsW pn pc tok1 ship nn tl (draft.wlaw (lwA draft.law st)) vd log trial sta says seed past marks K) := by
    intro m
    induction m with
    | zero =>
      intro i tok1 s st cd hi tr sl hzs hf hE
      refine xgo [] 40 (vFd rfl ?_)
      refine pk_le 1000 i (fun _ => ?_) (fun y => by omega) rfl rfl (by omega) (by omega)
      exact ⟨rfl, h1 s st cd (by rw [hE]; rfl) tok1 tr hf⟩
    | succ m ih =>
      intro i tok1 s st cd hi tr sl hzs hf hE
      refine xgo [7] 60 (vFd rfl ?_)
      refine pk_le 1000 i (fun y => by omega) (fun _ => ?_) rfl rfl (by omega) (by omega)
      refine ⟨rfl, nb rfl, c_isSign (c := 42) tr rp l1 (by decide) ?_⟩
      refine vB1 (fun q => ?_) (fun q => ?_)
      rotate_left
      · have eo : op1 C l s = 0 := if_neg q
        exact ⟨rfl, h1 s st cd (by rw [hE, lpP, if_pos eo]) tok1 tr hf⟩
      have eo : op1 C l s = 22 := if_pos q
      have eo' : ¬ op1 C l s = 0 := by rw [eo]; decide
      have hsl := op1_lt eo'
      have hx := tkX_le (C := C) sl
      refine ⟨rfl, nb rfl, c_adv hK tr rp l1 sl (fun tok2 tr2 f2 _ => ?_)⟩
      refine ⟨rfl, nb rfl, hsub _ tok2 (draft.wlaw (lwA draft.law st)) (tkX C l s) (z + st.length) tr2 hx.2.1 (lwA_size _ _ _ hz) (by omega) (lwA_looks _ _ hlk) (fun f ef tok' draft' z' a1 a2 a3 => ?_) (fun s2 st2 cd2 e2 tok3 tr3 f3 => ?_)⟩
      · have h0 := h0 f (by rw [hE, lpP, if_neg eo', ef]) tok'
        refine ⟨nb rfl, rfl, nb rfl, c_addStep a1 a2 (fun y => ?_) (fun y => ?_)⟩
        · exact xgo [] 40 (vTd rfl ⟨rfl, h0 _ (z' + 1) (by show draft'.law.size + 1 = _; rw [a1, nI_succ]) y a3⟩)
        · exact xgo [] 40 (vTd rfl ⟨rfl, h0 _ z' a1 a2 a3⟩)
      · have fw2 := hfw _ hx.2.1 _ _ _ e2
        have hlen : z + (st ++ st2).length < s2 := by rw [List.length_append]; omega
        refine ⟨nb rfl, rfl, nb rfl, c_opStep (k := 12) hz (by omega) (by decide) ?_⟩
        have ih := ih (i + 1) tok3 s2 (st ++ (st2 ++ [nI 12])) (cd ++ (nI 22 :: cd2)) (by omega) tr3 fw2.2.1 (by rw [List.length_append] at hlen; simp only [List.length_append, List.length_cons, List.length_nil]; omega) (by rw [f3, f2, hf]) (by rw [hE, lpP, if_neg eo', e2, eo]; rfl)
        rw [nI_succ] at ih
        exact ih
  exact ⟨nb rfl, nb rfl, key 1000 0 tok' s1 st cd (by omega) tr' fw1.2.1 (by omega) f1 (by unfold levP; rw [e1])⟩
theorem c_readSum (hK : K.length < 700000) (rp : RpC T C l) (l1 : l ≤ 1000) (hfw : FwP l sub) (hsub : RdOk L xs pn pc ship nn tl vd log trial sta says seed past marks K C T l (d + 7) 63 sub dp) : RdOk L xs pn pc ship nn tl vd log trial sta says seed past marks K C T l (d + 8) 62 (levP C l (op2 C l) sub 1000) dp := by
  intro Q tok draft s0 z tr0 sl0 hz zs hlk h0 h1
  refine ⟨nb rfl, xgo [7] 20 ⟨rfl, nb rfl, hsub _ tok draft s0 z tr0 sl0 hz zs hlk (fun f ef tok' draft' z' a1 a2 a3 => ?_) (fun s1 st cd e1 tok' tr' f1 => ?_)⟩⟩
  · have h0 := h0 f (by unfold levP; rw [ef]) tok' draft' z' a1 a2 a3
    exact ⟨nb rfl, nb rfl, xgo [] 20 (vTd rfl ⟨rfl, h0⟩)⟩
  have fw1 := hfw s0 sl0 _ _ _ e1
  have key : ∀ m i (tok1 : TTok) s st cd x5, i + m = 1000 → TkR tok1 T C l s → s ≤ l → z + st.length ≤ s → tok1.fault = tok.fault → levP C l (op2 C l) sub 1000 s0 = lpP C l (op2 C l) sub m s st cd → XWp (xF L xs) (some .boolean) xP62 (XC (xF L xs) xmeths (d + 7)) Q 7 [orf 26, orf 1, oi (nI dp), oi 1, oi (nI i), x5] [] (clsW pn pc tok1 ship nn tl (draft.wlaw (lwA draft.law st)) vd log trial sta says seed past marks K) := by
    intro m
    induction m with
    | zero =>
      intro i tok1 s st cd x5 hi tr sl hzs hf hE
      refine xgo [] 40 (vFd rfl ?_)
      refine pk_le 1000 i (fun _ => ?_) (fun y => by omega) rfl rfl (by omega) (by omega)
      exact ⟨rfl, h1 s st cd (by rw [hE]; rfl) tok1 tr hf⟩
    | succ m ih =>
      intro i tok1 s st cd x5 hi tr sl hzs hf hE
      have none : op2 C l s = 0 → Q (some (.int 1)) (clsW pn pc tok1 ship nn tl (draft.wlaw (lwA draft.law st)) vd log trial sta says seed past marks K) := fun eo => h1 s st cd (by rw [hE, lpP, if_pos eo]) tok1 tr hf
      have go : ∀ c k x, op2 C l s = c → ¬ c = 0 → opS c = k → ¬ nI k = 4 → (x = 0 ∧ k = 11 ∨ x = 1 ∧ k = 10) → XWp (xF L xs) (some .boolean) xP62 (XC (xF L xs) xmeths (d + 7)) Q 24 [orf 26, orf 1, oi (nI dp), oi 1, oi (nI i), oi x] [] (clsW pn pc tok1 ship nn tl (draft.wlaw (lwA draft.law st)) vd log trial sta says seed past marks K) := by
        intro c k x eo c0 ek k4 hx5
        have eo' : ¬ op2 C l s = 0 := by rw [eo]; exact c0
        have hsl := op2_lt eo'
        have hx := tkX_le (C := C) sl
        refine xgo [7, 37] 60 ⟨rfl, nb rfl, c_adv hK tr rp l1 sl (fun tok2 tr2 f2 _ => ?_)⟩
        refine ⟨rfl, nb rfl, hsub _ tok2 (draft.wlaw (lwA draft.law st)) (tkX C l s) (z + st.length) tr2 hx.2.1 (lwA_size _ _ _ hz) (by omega) (lwA_looks _ _ hlk) (fun f ef tok' draft' z' a1 a2 a3 => ?_) (fun s2 st2 cd2 e2 tok3 tr3 f3 => ?_)⟩
        · have h0 := h0 f (by rw [hE, lpP, if_neg eo', ef]) tok'
          refine ⟨nb rfl, ?_⟩
          have fin : ∀ kk : Int32, XWp (xF L xs) (some .boolean) xP62 (XC (xF L xs) xmeths (d + 7)) Q 37 [orf 26, orf 1, oi (nI dp), oi 0, oi (nI i), oi x] [.int kk, .ref 26] (clsW pn pc tok' ship nn tl draft' vd log trial sta says seed past marks K) := by
            intro kk
            refine xgo [7] 40 ⟨rfl, nb rfl, c_addStep a1 a2 (fun y => ?_) (fun y => ?_)⟩
            · exact xgo [] 40 (vTd rfl ⟨rfl, h0 _ (z' + 1) (by show draft'.law.size + 1 = _; rw [a1, nI_succ]) y a3⟩)
            · exact xgo [] 40 (vTd rfl ⟨rfl, h0 _ z' a1 a2 a3⟩)
          exact And.intro (fun _ => fin _) (fun _ => fin _)
        · have fw2 := hfw _ hx.2.1 _ _ _ e2
          have hlen : z + (st ++ st2).length < s2 := by rw [List.length_append]; omega
          refine ⟨nb rfl, ?_⟩
          have fin : XWp (xF L xs) (some .boolean) xP62 (XC (xF L xs) xmeths (d + 7)) Q 37 [orf 26, orf 1, oi (nI dp), oi 1, oi (nI i), oi x] [.int (nI k), .ref 26] (clsW pn pc tok3 ship nn tl (draft.wlaw (lwA (lwA draft.law st) st2)) vd log trial sta says seed past marks K) := by
            refine xgo [7] 40 ⟨rfl, nb rfl, c_opStep (k := k) hz (by omega) k4 ?_⟩
            have ih := ih (i + 1) tok3 s2 (st ++ (st2 ++ [nI k])) (cd ++ (nI c :: cd2)) (oi x) (by omega) tr3 fw2.2.1 (by rw [List.length_append] at hlen; simp only [List.length_append, List.length_cons, List.length_nil]; omega) (by rw [f3, f2, hf]) (by rw [hE, lpP, if_neg eo', e2, eo, ek])
            rw [nI_succ] at ih
            exact ih
          rcases hx5 with ⟨rfl, rfl⟩ | ⟨rfl, rfl⟩
          · exact vTd rfl fin
          · exact vFd rfl fin
      refine xgo [7, 24] 60 (vFd rfl ?_)
      refine pk_le 1000 i (fun y => by omega) (fun _ => ?_) rfl rfl (by omega) (by omega)
      refine ⟨rfl, nb rfl, c_isSign (c := 43) tr rp l1 (by decide) ?_⟩
      refine ⟨nb rfl, ?_⟩
      refine vB1 (fun q => ?_) (fun q => ?_)
      · exact go 20 10 _ (if_pos q) (by decide) rfl (by decide) (Or.inr ⟨b2i_t q, rfl⟩)
      refine ⟨rfl, nb rfl, c_isSign (c := 45) tr rp l1 (by decide) ?_⟩
      refine vB1 (fun q2 => ?_) (fun q2 => ?_)
      · exact go 21 11 _ (by rw [op2, if_neg q, if_pos q2]) (by decide) rfl (by decide) (Or.inl ⟨b2i_f q, rfl⟩)
      exact ⟨rfl, none (by rw [op2, if_neg q, if_neg q2])⟩
  exact ⟨nb rfl, nb rfl, key 1000 0 tok' s1 st cd _ (by omega) tr' fw1.2.1 (by omega) f1 (by unfold levP; rw [e1])⟩
theorem c_readTest (hK : K.length < 700000) (rp : RpC T C l) (l1 : l ≤ 1000) (hfw : FwP l sub) (hsub : RdOk L xs pn pc ship nn tl vd log trial sta says seed past marks K C T l (d + 7) 62 sub dp) : RdOk L xs pn pc ship nn tl vd log trial sta says seed past marks K C T l (d + 8) 61 (levP C l (op3 C l) sub 1) dp := by
  intro Q tok draft s0 z tr0 sl0 hz zs hlk h0 h1
  refine ⟨nb rfl, xgo [19] 40 ⟨rfl, nb rfl, hsub _ tok draft s0 z tr0 sl0 hz zs hlk (fun f ef tok' draft' z' a1 a2 a3 => ?_) (fun s st cd e1 tok1 tr f1 => ?_)⟩⟩
  · have h0 := h0 f (by unfold levP; rw [ef]) tok' draft' z' a1 a2 a3
    exact vFd rfl ⟨rfl, h0⟩
  have fw1 := hfw s0 sl0 _ _ _ e1
  have sl := fw1.2.1
  have hE : levP C l (op3 C l) sub 1 s0 = lpP C l (op3 C l) sub 1 s st cd := by unfold levP; rw [e1]
  have none : op3 C l s = 0 → Q (some (.int 1)) (clsW pn pc tok1 ship nn tl (draft.wlaw (lwA draft.law st)) vd log trial sta says seed past marks K) := fun eo => h1 s st cd (by rw [hE, lpP, if_pos eo]) tok1 tr f1
  have go : ∀ c k x x4, op3 C l s = c → ¬ c = 0 → opS c = k → ¬ nI k = 4 → (x = 0 ∧ k = 9 ∨ x = 1 ∧ k = 8) → XWp (xF L xs) (some .boolean) xP61 (XC (xF L xs) xmeths (d + 7)) Q 19 [orf 26, orf 1, oi (nI dp), oi x, x4] [] (clsW pn pc tok1 ship nn tl (draft.wlaw (lwA draft.law st)) vd log trial sta says seed past marks K) := by
    intro c k x x4 eo c0 ek k4 hx5
    have eo' : ¬ op3 C l s = 0 := by rw [eo]; exact c0
    have hsl := op3_lt eo'
    have hx := tkX_le (C := C) sl
    refine xgo [32] 60 ⟨rfl, nb rfl, c_adv hK tr rp l1 sl (fun tok2 tr2 f2 _ => ?_)⟩
    refine ⟨rfl, nb rfl, hsub _ tok2 (draft.wlaw (lwA draft.law st)) (tkX C l s) (z + st.length) tr2 hx.2.1 (lwA_size _ _ _ hz) (by omega) (lwA_looks _ _ hlk) (fun f ef tok' draft' z' a1 a2 a3 => ?_) (fun s2 st2 cd2 e2 tok3 tr3 f3 => ?_)⟩
    · have h0 := h0 f (by rw [hE, lpP, if_neg eo', ef]) tok'
      refine ⟨nb rfl, ?_⟩
      have fin : ∀ kk : Int32, XWp (xF L xs) (some .boolean) xP61 (XC (xF L xs) xmeths (d + 7)) Q 32 [orf 26, orf 1, oi (nI dp), oi x, oi 0] [.int kk, .ref 26] (clsW pn pc tok' ship nn tl draft' vd log trial sta says seed past marks K) := by
        intro kk
        refine xgo [] 40 ⟨rfl, nb rfl, c_addStep a1 a2 (fun y => ?_) (fun y => ?_)⟩
        · exact ⟨rfl, h0 _ (z' + 1) (by show draft'.law.size + 1 = _; rw [a1, nI_succ]) y a3⟩
        · exact ⟨rfl, h0 _ z' a1 a2 a3⟩
      exact And.intro (fun _ => fin _) (fun _ => fin _)
    · have fw2 := hfw _ hx.2.1 _ _ _ e2
      have hlen : z + (st ++ st2).length < s2 := by rw [List.length_append]; omega
      refine ⟨nb rfl, ?_⟩
      have fin : XWp (xF L xs) (some .boolean) xP61 (XC (xF L xs) xmeths (d + 7)) Q 32 [orf 26, orf 1, oi (nI dp), oi x, oi 1] [.int (nI k), .ref 26] (clsW pn pc tok3 ship nn tl (draft.wlaw (lwA (lwA draft.law st) st2)) vd log trial sta says seed past marks K) := by
        refine xgo [] 40 ⟨rfl, nb rfl, c_opStep (k := k) hz (by omega) k4 ?_⟩
        exact ⟨rfl, h1 s2 (st ++ (st2 ++ [nI k])) (cd ++ (nI c :: cd2)) (by rw [hE, lpP, if_neg eo', e2, eo, ek]; rfl) tok3 tr3 (by rw [f3, f2, f1])⟩
      rcases hx5 with ⟨rfl, rfl⟩ | ⟨rfl, rfl⟩
      · exact vTd rfl fin
      · exact vFd rfl fin
  refine vTd rfl ⟨rfl, nb rfl, c_isSign (c := 60) tr rp l1 (by decide) ?_⟩
  refine ⟨nb rfl, ?_⟩
  refine vB1 (fun q => ?_) (fun q => ?_)
  · exact go 24 8 _ _ (if_pos q) (by decide) rfl (by decide) (Or.inr ⟨b2i_t q, rfl⟩)
  refine ⟨rfl, nb rfl, c_isSign (c := 61) tr rp l1 (by decide) ?_⟩
  refine vB1 (fun q2 => ?_) (fun q2 => ?_)
  · exact go 25 9 _ _ (by rw [op3, if_neg q, if_pos q2]) (by decide) rfl (by decide) (Or.inl ⟨b2i_f q, rfl⟩)
  exact ⟨rfl, none (by rw [op3, if_neg q, if_neg q2])⟩
theorem c_readAll (hK : K.length < 700000) (rp : RpC T C l) (l1 : l ≤ 1000) (hfw : FwP l sub) (hsub : RdOk L xs pn pc ship nn tl vd log trial sta says seed past marks K C T l (d + 7) 61 sub dp) : RdOk L xs pn pc ship nn tl vd log trial sta says seed past marks K C T l (d + 8) 60 (levP C l (op4 C l) sub 1000) dp := by
  intro Q tok draft s0 z tr0 sl0 hz zs hlk h0 h1
  refine ⟨nb rfl, xgo [7] 20 ⟨rfl, nb rfl, hsub _ tok draft s0 z tr0 sl0 hz zs hlk (fun f ef tok' draft' z' a1 a2 a3 => ?_) (fun s1 st cd e1 tok' tr' f1 => ?_)⟩⟩
  · have h0 := h0 f (by unfold levP; rw [ef]) tok' draft' z' a1 a2 a3
    exact ⟨nb rfl, nb rfl, xgo [] 20 (vTd rfl ⟨rfl, h0⟩)⟩
  have fw1 := hfw s0 sl0 _ _ _ e1
  have key : ∀ m i (tok1 : TTok) s st cd x5, i + m = 1000 → TkR tok1 T C l s → s ≤ l → z + st.length ≤ s → tok1.fault = tok.fault → levP C l (op4 C l) sub 1000 s0 = lpP C l (op4 C l) sub m s st cd → XWp (xF L xs) (some .boolean) xP60 (XC (xF L xs) xmeths (d + 7)) Q 7 [orf 26, orf 1, oi (nI dp), oi 1, oi (nI i), x5] [] (clsW pn pc tok1 ship nn tl (draft.wlaw (lwA draft.law st)) vd log trial sta says seed past marks K) := by
    intro m
    induction m with
    | zero =>
      intro i tok1 s st cd x5 hi tr sl hzs hf hE
      refine xgo [] 40 (vFd rfl ?_)
      refine pk_le 1000 i (fun _ => ?_) (fun y => by omega) rfl rfl (by omega) (by omega)
      exact ⟨rfl, h1 s st cd (by rw [hE]; rfl) tok1 tr hf⟩
    | succ m ih =>
      intro i tok1 s st cd x5 hi tr sl hzs hf hE
      have none : op4 C l s = 0 → Q (some (.int 1)) (clsW pn pc tok1 ship nn tl (draft.wlaw (lwA draft.law st)) vd log trial sta says seed past marks K) := fun eo => h1 s st cd (by rw [hE, lpP, if_pos eo]) tok1 tr hf
      have go : ∀ c k x, op4 C l s = c → ¬ c = 0 → opS c = k → ¬ nI k = 4 → (x = 0 ∧ k = 6 ∨ x = 1 ∧ k = 7) → XWp (xF L xs) (some .boolean) xP60 (XC (xF L xs) xmeths (d + 7)) Q 21 [orf 26, orf 1, oi (nI dp), oi 1, oi (nI i), oi x] [] (clsW pn pc tok1 ship nn tl (draft.wlaw (lwA draft.law st)) vd log trial sta says seed past marks K) := by
        intro c k x eo c0 ek k4 hx5
        have eo' : ¬ op4 C l s = 0 := by rw [eo]; exact c0
        have hsl := op4_lt eo'
        have hx := tkX_le (C := C) sl
        refine xgo [7, 34] 60 ⟨rfl, nb rfl, c_adv hK tr rp l1 sl (fun tok2 tr2 f2 _ => ?_)⟩
        refine ⟨rfl, nb rfl, hsub _ tok2 (draft.wlaw (lwA draft.law st)) (tkX C l s) (z + st.length) tr2 hx.2.1 (lwA_size _ _ _ hz) (by omega) (lwA_looks _ _ hlk) (fun f ef tok' draft' z' a1 a2 a3 => ?_) (fun s2 st2 cd2 e2 tok3 tr3 f3 => ?_)⟩
        · have h0 := h0 f (by rw [hE, lpP, if_neg eo', ef]) tok'
          refine ⟨nb rfl, ?_⟩
          have fin : ∀ kk : Int32, XWp (xF L xs) (some .boolean) xP60 (XC (xF L xs) xmeths (d + 7)) Q 34 [orf 26, orf 1, oi (nI dp), oi 0, oi (nI i), oi x] [.int kk, .ref 26] (clsW pn pc tok' ship nn tl draft' vd log trial sta says seed past marks K) := by
            intro kk
            refine xgo [7] 40 ⟨rfl, nb rfl, c_addStep a1 a2 (fun y => ?_) (fun y => ?_)⟩
            · exact xgo [] 40 (vTd rfl ⟨rfl, h0 _ (z' + 1) (by show draft'.law.size + 1 = _; rw [a1, nI_succ]) y a3⟩)
            · exact xgo [] 40 (vTd rfl ⟨rfl, h0 _ z' a1 a2 a3⟩)
          exact And.intro (fun _ => fin _) (fun _ => fin _)
        · have fw2 := hfw _ hx.2.1 _ _ _ e2
          have hlen : z + (st ++ st2).length < s2 := by rw [List.length_append]; omega
          refine ⟨nb rfl, ?_⟩
          have fin : XWp (xF L xs) (some .boolean) xP60 (XC (xF L xs) xmeths (d + 7)) Q 34 [orf 26, orf 1, oi (nI dp), oi 1, oi (nI i), oi x] [.int (nI k), .ref 26] (clsW pn pc tok3 ship nn tl (draft.wlaw (lwA (lwA draft.law st) st2)) vd log trial sta says seed past marks K) := by
            refine xgo [7] 40 ⟨rfl, nb rfl, c_opStep (k := k) hz (by omega) k4 ?_⟩
            have ih := ih (i + 1) tok3 s2 (st ++ (st2 ++ [nI k])) (cd ++ (nI c :: cd2)) (oi x) (by omega) tr3 fw2.2.1 (by rw [List.length_append] at hlen; simp only [List.length_append, List.length_cons, List.length_nil]; omega) (by rw [f3, f2, hf]) (by rw [hE, lpP, if_neg eo', e2, eo, ek])
            rw [nI_succ] at ih
            exact ih
          rcases hx5 with ⟨rfl, rfl⟩ | ⟨rfl, rfl⟩
          · exact vFd rfl fin
          · exact vTd rfl fin
      refine xgo [7, 21] 60 (vFd rfl ?_)
      refine pk_le 1000 i (fun y => by omega) (fun _ => ?_) rfl rfl (by omega) (by omega)
      refine ⟨rfl, nb rfl, c_place10 hK tr rp l1 sl ?_⟩
      refine ⟨nb rfl, ?_⟩
      by_cases q : isW C l s 1111
      · rw [if_pos q.1, show plN (wdV C l s) 0 vl10 = 0 from by rw [q.2]; rfl]
        exact vTd rfl (go 26 6 _ (if_pos q) (by decide) rfl (by decide) (Or.inl ⟨rfl, rfl⟩))
      by_cases q2 : isW C l s 423
      · rw [if_pos q2.1, show plN (wdV C l s) 0 vl10 = 1 from by rw [q2.2]; rfl]
        exact vTd rfl (go 27 7 _ (by rw [op4, if_neg q, if_pos q2]) (by decide) rfl (by decide) (Or.inr ⟨rfl, rfl⟩))
      have e : (if tkK C l s = 1 then plN (wdV C l s) 0 vl10 else -1) = -1 := by
        split
        · rename_i y
          have n1 : ¬ 1111 = wdV C l s := fun w => q ⟨y, w.symm⟩
          have n2 : ¬ 423 = wdV C l s := fun w => q2 ⟨y, w.symm⟩
          simp only [vl10, plN]
          rw [if_neg n1, if_neg n2]
        · rfl
      rw [e]
      exact vFd rfl ⟨rfl, none (by rw [op4, if_neg q, if_neg q2])⟩
  exact ⟨nb rfl, nb rfl, key 1000 0 tok' s1 st cd _ (by omega) tr' fw1.2.1 (by omega) f1 (by unfold levP; rw [e1])⟩
end XLR
