/-! the class: a part of the law is read -/
theorem fc_vl8 {C : Nat → Nat} {l s : Nat} : (fcN C l s = 0 ∧ (if tkK C l s = 1 then plN (wdV C l s) 0 vl8 else -1) = -1) ∨ ∃ j, j < 4 ∧ fcN C l s = j + 1 ∧ (if tkK C l s = 1 then plN (wdV C l s) 0 vl8 else -1) = nI j := by
  by_cases y : tkK C l s = 1
  · rw [if_pos y]
    simp only [fcN, isW, y, true_and, vl8, plN]
    by_cases a1 : wdV C l s = 10634
    · rw [if_pos a1, if_pos a1.symm]; exact Or.inr ⟨0, by omega, rfl, rfl⟩
    rw [if_neg a1, if_neg (show ¬ 10634 = wdV C l s from fun z => a1 z.symm)]
    by_cases a2 : wdV C l s = 10553780
    · rw [if_pos a2, if_pos a2.symm]; exact Or.inr ⟨1, by omega, rfl, rfl⟩
    rw [if_neg a2, if_neg (show ¬ 10553780 = wdV C l s from fun z => a2 z.symm)]
    by_cases a3 : wdV C l s = 16922
    · rw [if_pos a3, if_pos a3.symm]; exact Or.inr ⟨2, by omega, rfl, rfl⟩
    rw [if_neg a3, if_neg (show ¬ 16922 = wdV C l s from fun z => a3 z.symm)]
    by_cases a4 : wdV C l s = 582341
    · rw [if_pos a4, if_pos a4.symm]; exact Or.inr ⟨3, by omega, rfl, rfl⟩
    rw [if_neg a4, if_neg (show ¬ 582341 = wdV C l s from fun z => a4 z.symm)]
    exact Or.inl ⟨rfl, rfl⟩
  · rw [if_neg y]
    refine Or.inl ⟨?_, rfl⟩
    simp only [fcN, isW, y, false_and, if_false]
theorem wd_vl9 {C : Nat → Nat} {l s : Nat} : (isW C l s 10631 ∧ (if tkK C l s = 1 then plN (wdV C l s) 0 vl9 else -1) = 0) ∨ (¬ isW C l s 10631 ∧ (if tkK C l s = 1 then plN (wdV C l s) 0 vl9 else -1) = -1) := by
  by_cases y : tkK C l s = 1
  · rw [if_pos y]
    simp only [isW, y, true_and, vl9, plN]
    by_cases a1 : wdV C l s = 10631
    · rw [if_pos a1.symm]; exact Or.inl ⟨a1, rfl⟩
    · rw [if_neg (fun z => a1 z.symm)]; exact Or.inr ⟨a1, rfl⟩
  · rw [if_neg y]
    exact Or.inr ⟨fun z => y z.1, rfl⟩
section XLP
variable {L : Nat} {xs : Nat → Int32} {d : Nat} {Q : XQt} {pn pc : Int32} {tok : TTok} {ship : TShip} {nn : Int64} {tl : Int32} {draft : TShip} {vd : TVoy} {log : TLog} {trial : TCrew} {sta : TSta} {says : Fn} {seed : Int64} {past : Nat → TCrew} {marks : Nat → TLog} {K : XWd}
variable {C : Nat → Nat} {l dp : Nat} {T : Fn} {sub : Nat → RL}
theorem RdOk.mono {m d' : Nat} (hd : d ≤ d') (h : RdOk L xs pn pc ship nn tl vd log trial sta says seed past marks K C T l d m sub dp) : RdOk L xs pn pc ship nn tl vd log trial sta says seed past marks K C T l d' m sub dp := by
  intro Q tok draft s z a1 a2 a3 a4 a5 a6 a7
  exact XC_le hd (h Q tok draft s z a1 a2 a3 a4 a5 a6 a7)
/-- down to where a part is told -/
theorem c_partHead {s : Nat} (hK : K.length < 700000) (rp : RpC T C l) (l1 : l ≤ 1000) (tr : TkR tok T C l s) (sl : s ≤ l) (h : ∀ v8 : Int32, ((fcN C l s = 0 ∧ v8 = -1) ∨ ∃ j, j < 4 ∧ fcN C l s = j + 1 ∧ v8 = nI j) → (¬ plP C l s ∧ ¬ isW C l s 10631 ∧ ¬ isG C l s 40 → Q (some (.int 0)) (clsW pn pc (tok.signs, tok.kind, tok.start, tok.next, tok.length, tok.number, tok.taken, tok.name, nI (1 + 16 * s)) ship nn tl draft vd log trial sta says seed past marks K)) ∧ (¬ (¬ plP C l s ∧ ¬ isW C l s 10631 ∧ ¬ isG C l s 40) → XWp (xF L xs) (some .boolean) xP64 (XC (xF L xs) xmeths (d + 7)) Q 36 [orf 26, orf 1, oi (nI dp), oi v8, oi (b2i (isW C l s 10631)), oi (b2i (isG C l s 40)), oi (b2i (plP C l s)), none] [] (clsW pn pc tok ship nn tl draft vd log trial sta says seed past marks K))) : XC (xF L xs) xmeths (d + 8) 64 [.ref 26, .ref 1, .int (nI dp)] (clsW pn pc tok ship nn tl draft vd log trial sta says seed past marks K) Q := by
  refine ⟨nb rfl, xgo [11, 25, 36] 80 ⟨rfl, nb rfl, c_place8 hK tr rp l1 sl ?_⟩⟩
  have hv := fc_vl8 (C := C) (l := l) (s := s)
  generalize (if tkK C l s = 1 then plN (wdV C l s) 0 vl8 else -1) = v8 at *
  have h := h v8 hv
  refine ⟨nb rfl, rfl, nb rfl, c_place9 hK tr rp l1 sl ?_⟩
  have a25 : ∀ x6, x6 = b2i (plP C l s) → XWp (xF L xs) (some .boolean) xP64 (XC (xF L xs) xmeths (d + 7)) Q 25 [orf 26, orf 1, oi (nI dp), oi v8, oi (b2i (isW C l s 10631)), oi (b2i (isG C l s 40)), none, none] [.int x6] (clsW pn pc tok ship nn tl draft vd log trial sta says seed past marks K) := by
    intro x6 e6
    subst e6
    refine xgo [36] 40 ⟨nb rfl, ?_⟩
    refine vB1 (fun q => h.2 (fun y => y.1 q)) (fun q => ?_)
    refine vB1 (fun q2 => h.2 (fun y => y.2.1 q2)) (fun q2 => ?_)
    refine vB1 (fun q3 => h.2 (fun y => y.2.2 q3)) (fun q3 => ?_)
    exact ⟨rfl, nb rfl, c_refuse (k := 1) tr ⟨rfl, h.1 ⟨q, q2, q3⟩⟩⟩
  have a11 : ∀ x4, x4 = b2i (isW C l s 10631) → XWp (xF L xs) (some .boolean) xP64 (XC (xF L xs) xmeths (d + 7)) Q 11 [orf 26, orf 1, oi (nI dp), oi v8, none, none, none, none] [.int x4] (clsW pn pc tok ship nn tl draft vd log trial sta says seed past marks K) := by
    intro x4 e4
    subst e4
    refine xgo [25] 40 ⟨nb rfl, rfl, nb rfl, c_isSign (c := 40) tr rp l1 (by decide) ?_⟩
    refine ⟨nb rfl, ?_⟩
    rcases hv with ⟨e0, rfl⟩ | ⟨j, j4, e0, rfl⟩
    · refine vFd rfl ⟨rfl, nb rfl, c_isNumber tr ?_⟩
      refine vB0 (fun q => ?_) (fun q => ?_)
      · exact a25 0 (b2i_f (fun y => y.elim (fun y => y e0) q)).symm
      · exact a25 1 (b2i_t (Or.inr q)).symm
    · refine And.intro (fun (_ : ¬ nI j = Int32.ofInt (-1)) => ?_) (fun (y : ¬ ¬ nI j = Int32.ofInt (-1)) => ?_)
      · exact a25 1 (b2i_t (Or.inl (by omega))).symm
      · exact absurd (Classical.not_not.mp y) ((by decide : ∀ j, j < 4 → ¬ nI j = Int32.ofInt (-1)) j j4)
  rcases wd_vl9 (C := C) (l := l) (s := s) with ⟨q, e⟩ | ⟨q, e⟩
  · rw [e]
    exact vFd rfl (a11 1 (b2i_t q).symm)
  · rw [e]
    exact vTd rfl (a11 0 (b2i_f q).symm)
theorem c_partZero (hK : K.length < 700000) (rp : RpC T C l) (l1 : l ≤ 1000) : RdOk L xs pn pc ship nn tl vd log trial sta says seed past marks K C T l (d + 8) 64 (parP C l 0) 5 := by
  intro Q tok draft s z tr sl hz zs hlk h0 h1
  refine c_partHead hK rp l1 tr sl (fun v8 hv => ⟨fun q => ?_, fun q => ?_⟩)
  · exact h0 (1 + 16 * s) (by rw [parP, if_pos q]) _ draft z hz (by omega) rfl
  · refine xgo [43] 40 (vFd rfl ?_)
    refine ⟨rfl, nb rfl, c_refuse (k := 5) tr ⟨rfl, ?_⟩⟩
    exact h0 (5 + 16 * s) (by rw [parP, if_neg q]) _ draft z hz (by omega) rfl
theorem c_partMore {e : Nat} (hK : K.length < 700000) (rp : RpC T C l) (l1 : l ≤ 1000) (hdp : dp < 5) (hpart : RdOk L xs pn pc ship nn tl vd log trial sta says seed past marks K C T l (d + 7) 64 (parP C l e) (dp + 1)) (hall : RdOk L xs pn pc ship nn tl vd log trial sta says seed past marks K C T l (d + 7) 60 (allP C l (parP C l e)) (dp + 1)) : RdOk L xs pn pc ship nn tl vd log trial sta says seed past marks K C T l (d + 8) 64 (parP C l (e + 1)) dp := by
  intro Q tok draft s z tr sl hz zs hlk h0 h1
  refine c_partHead hK rp l1 tr sl (fun v8 hv => ⟨fun q => ?_, fun q => ?_⟩)
  · exact h0 (1 + 16 * s) (by rw [parP, if_neg q.1, if_neg q.2.1, if_neg q.2.2]) _ draft z hz (by omega) rfl
  have hx := tkX_le (C := C) sl
  have hsl : s < l := by
    refine tkK_lt (C := C) (fun y => q ⟨fun w => ?_, fun w => ?_, fun w => ?_⟩)
    · rcases w with w | w
      · have := fc_lt w; omega
      · omega
    · have := w.1; omega
    · have := w.1; omega
  have epl : nI dp + Int32.ofInt 1 = nI (dp + 1) := (nI_succ dp).symm
  unfold RdOk at hpart hall
  rw [← epl] at hpart hall
  have a75 : ∀ L1 : TLaw, ((plP C l s ∧ L1 = lwS draft.law (nI (stN C l s))) ∨ (¬ plP C l s ∧ L1 = draft.law)) → XWp (xF L xs) (some .boolean) xP64 (XC (xF L xs) xmeths (d + 7)) Q 75 [orf 26, orf 1, oi (nI dp), oi v8, oi (b2i (isW C l s 10631)), oi (b2i (isG C l s 40)), oi (b2i (plP C l s)), none] [] (clsW pn pc tok ship nn tl (draft.wlaw L1) vd log trial sta says seed past marks K) := by
    intro L1 hL
    refine xgo [92, 93, 94] 60 ⟨rfl, nb rfl, c_adv hK tr rp l1 sl (fun tok2 tr2 f2 _ => ?_)⟩
    rcases hL with ⟨y, rfl⟩ | ⟨y, rfl⟩
    · have no : ¬ isG C l s 40 := fun w => by
        rcases y with y | y
        · have := fc_lt y; have := w.1; omega
        · have := w.1; omega
      have nn' : ¬ isW C l s 10631 := fun w => by
        rcases y with y | y
        · apply y
          unfold fcN
          simp only [isW, w.1, w.2]
          decide
        · have := w.1; omega
      refine vB0 (fun _ => ?_) (fun w => absurd w no)
      refine xgo [109] 20 (vB0 (fun _ => ?_) (fun w => absurd w nn'))
      exact xgo [] 20 ⟨rfl, h1 (tkX C l s) [nI (stN C l s)] [nI (cdN C l s)] (by rw [parP, if_pos y]) tok2 tr2 f2⟩
    refine vB0 (fun no => ?_) (fun o => ?_)
    · have nt : isW C l s 10631 := Classical.byContradiction (fun w => q ⟨y, w, no⟩)
      refine xgo [109] 40 (vB0 (fun w => absurd nt w) (fun _ => ?_))
      refine ⟨rfl, nb rfl, hpart _ tok2 draft (tkX C l s) z tr2 hx.2.1 hz (by omega) hlk (fun f ef tok' draft' z' a1 a2 a3 => ?_) (fun s2 st2 cd2 e2 tok3 tr3 f3 => ?_)⟩
      · have h0 := h0 f (by rw [parP, if_neg y, if_pos nt, ef]; rfl) tok'
        refine ⟨nb rfl, rfl, nb rfl, c_addStep a1 a2 (fun y => ?_) (fun y => ?_)⟩
        · exact ⟨rfl, h0 _ (z' + 1) (by show draft'.law.size + 1 = _; rw [a1, nI_succ]) y a3⟩
        · exact ⟨rfl, h0 _ z' a1 a2 a3⟩
      · have fw2 := par_fw e _ hx.2.1 _ _ _ e2
        refine ⟨nb rfl, rfl, nb rfl, c_opStep (k := 5) (st := []) (st2 := st2) hz (by rw [List.nil_append]; omega) (by decide) ?_⟩
        exact ⟨rfl, h1 s2 (st2 ++ [5]) (30 :: cd2) (by rw [parP, if_neg y, if_pos nt, e2]; rfl) tok3 tr3 (by rw [f3, f2])⟩
    · have nt : ¬ isW C l s 10631 := fun w => by have := w.1; have := o.1; omega
      refine ⟨rfl, nb rfl, hall _ tok2 draft (tkX C l s) z tr2 hx.2.1 hz (by omega) hlk (fun f ef tok' draft' z' a1 a2 a3 => ?_) (fun s2 st2 cd2 e2 tok3 tr3 f3 => ?_)⟩
      · have h0 := h0 f (by rw [parP, if_neg y, if_neg nt, if_pos o, ef]; rfl) tok' draft' z' a1 a2 a3
        exact vTd rfl (xgo [93] 20 (xgo [] 20 ⟨rfl, h0⟩))
      · have fw2 := all_fw (par_fw e) _ hx.2.1 _ _ _ e2
        refine vFd rfl ⟨rfl, nb rfl, c_takeSign (c := 41) hK tr3 rp l1 fw2.2.1 (by decide) (fun q5 tok4 tr4 f4 _ => ?_) (fun q5 => ?_)⟩
        · refine vFd rfl (xgo [] 20 ⟨rfl, h1 (tkX C l s2) st2 (28 :: (cd2 ++ [29])) (by rw [parP, if_neg y, if_neg nt, if_pos o, e2, prP, if_pos q5]) tok4 tr4 (by rw [f4, f3, f2])⟩)
        · refine vTd rfl (xgo [93] 20 (xgo [] 20 ⟨rfl, h0 (1 + 16 * s2) (by rw [parP, if_neg y, if_neg nt, if_pos o, e2, prP, if_neg q5]) _ (draft.wlaw (lwA draft.law st2)) (z + st2.length) (lwA_size _ _ _ hz) (by omega) rfl⟩))
  refine xgo [43] 20 (pk_lt dp 5 (fun _ => ?_) (fun y => by omega) rfl rfl (by omega) (by omega))
  by_cases y : plP C l s
  rotate_left
  · refine xgo [75] 40 (vB0 (fun _ => ?_) (fun w => absurd w y))
    exact a75 draft.law (Or.inr ⟨y, rfl⟩)
  have hst : stN C l s < 200000 := by
    unfold stN
    split
    · rename_i e0
      have := tk_num (y.elim (fun w => absurd e0 w) id)
      omega
    · rcases hv with ⟨e0, _⟩ | ⟨j, j4, e0, _⟩ <;> omega
  have a74 : ∀ x (L2 : TLaw), L2 = (upd draft.law.steps z (nI (stN C l s)), draft.law.stack, draft.law.known, draft.law.size + 1, draft.law.looks) → x = (if nI (stN C l s) = 4 then 1 else draft.law.looks) → XWp (xF L xs) (some .boolean) xP64 (XC (xF L xs) xmeths (d + 7)) Q 74 [orf 26, orf 1, oi (nI dp), oi v8, oi (b2i (isW C l s 10631)), oi (b2i (isG C l s 40)), oi (b2i (plP C l s)), none] [.int x, .ref 26] (clsW pn pc tok ship nn tl (draft.wlaw L2) vd log trial sta says seed past marks K) := by
    intro x L2 eL ex
    have z75 := a75 (L2.steps, L2.stack, L2.known, L2.size, x) (Or.inl ⟨y, by
      unfold lwS
      rw [eL, ex, hz, nI_clamp (by omega)]⟩)
    have x01 : x = 0 ∨ x = 1 := by
      rw [ex]
      split
      · exact Or.inr rfl
      · exact hlk
    clear ex
    rcases x01 with rfl | rfl
    · exact xgo [75] 20 ⟨⟨rfl, rfl⟩, z75⟩
    · exact xgo [75] 20 ⟨⟨rfl, rfl⟩, z75⟩
  have a61 : ∀ kk vv : Int32, kk + 16 * vv = nI (stN C l s) → (Int32.ofInt 1 + v8 = Int32.ofInt 4 ↔ nI (stN C l s) = 4) → XWp (xF L xs) (some .boolean) xP64 (XC (xF L xs) xmeths (d + 7)) Q 61 [orf 26, orf 1, oi (nI dp), oi v8, oi (b2i (isW C l s 10631)), oi (b2i (isG C l s 40)), oi (b2i (plP C l s)), none] [.int vv, .int kk, .ref 26] (clsW pn pc tok ship nn tl draft vd log trial sta says seed past marks K) := by
    intro kk vv e1 e4
    refine xgo [74] 60 ⟨rfl, nb rfl, c_addStep hz (by omega) (fun _ => ?_) (fun w => by omega)⟩
    rw [e1]
    rcases hlk with e | e
    · refine And.intro (fun (w : ¬ draft.law.looks = 0) => absurd e w) (fun _ => ?_)
      refine And.intro (fun (w : ¬ Int32.ofInt 1 + v8 = Int32.ofInt 4) => ?_) (fun (w : ¬ ¬ Int32.ofInt 1 + v8 = Int32.ofInt 4) => ?_)
      · exact a74 0 _ rfl (by rw [if_neg (fun x => w (e4.mpr x)), e])
      · exact a74 1 _ rfl (by rw [if_pos (e4.mp (Classical.not_not.mp w))])
    · refine And.intro (fun _ => ?_) (fun (w : ¬ ¬ draft.law.looks = 0) => absurd (e.symm.trans (Classical.not_not.mp w)) (by decide))
      exact a74 1 _ rfl (by rw [e]; split <;> rfl)
  refine xgo [54, 61] 60 (vB0 (fun w => absurd y w) (fun _ => ?_))
  rcases hv with ⟨e0, rfl⟩ | ⟨j, j4, e0, rfl⟩
  · have k2 : tkK C l s = 2 := y.elim (fun w => absurd e0 w) id
    have e1 := tr.number k2
    have es : stN C l s = 16 * nmV C l s := if_pos e0
    refine vFd rfl (xgo [61] 20 (vFd rfl ?_))
    refine a61 _ _ ?_ ?_
    · rw [es]
      show (0 : Int32) + 16 * tok.number = _
      rw [e1, Int32.zero_add, show (16 : Int32) = nI 16 from rfl, pk_mul]
    · rw [es]
      refine ⟨fun w => absurd w (by decide), fun w => ?_⟩
      have w2 := congrArg Int32.toNatClampNeg w
      rw [nI_clamp (by omega), show Int32.toNatClampNeg 4 = 4 from rfl] at w2
      omega
  · have es : stN C l s = j + 1 := by unfold stN; rw [if_neg (by omega), e0]
    have nj : ¬ nI j = Int32.ofInt (-1) := (by decide : ∀ j, j < 4 → ¬ nI j = Int32.ofInt (-1)) j j4
    refine And.intro (fun _ => ?_) (fun w => absurd nj w)
    refine xgo [61] 20 (And.intro (fun _ => ?_) (fun w => absurd nj w))
    refine a61 _ _ ?_ ?_
    · rw [es]
      exact (by decide : ∀ j, j < 4 → Int32.ofInt 1 + nI j + 16 * Int32.ofInt 0 = nI (j + 1)) j j4
    · rw [es]
      exact (by decide : ∀ j, j < 4 → (Int32.ofInt 1 + nI j = Int32.ofInt 4 ↔ nI (j + 1) = 4)) j j4
theorem c_parts (hK : K.length < 700000) (rp : RpC T C l) (l1 : l ≤ 1000) : ∀ e dp, dp + e = 5 → RdOk L xs pn pc ship nn tl vd log trial sta says seed past marks K C T l (d + 8 + 5 * e) 64 (parP C l e) dp ∧ RdOk L xs pn pc ship nn tl vd log trial sta says seed past marks K C T l (d + 12 + 5 * e) 60 (allP C l (parP C l e)) dp := by
  have up : ∀ e dp, RdOk L xs pn pc ship nn tl vd log trial sta says seed past marks K C T l (d + 8 + 5 * e) 64 (parP C l e) dp → RdOk L xs pn pc ship nn tl vd log trial sta says seed past marks K C T l (d + 12 + 5 * e) 60 (allP C l (parP C l e)) dp := by
    intro e dp h
    have f0 := par_fw (C := C) (l := l) e
    have f1 := lev_fw (C := C) (m := 1000) (op := op1 C l) (fun _ => op1_lt) f0
    have f2 := lev_fw (C := C) (m := 1000) (op := op2 C l) (fun _ => op2_lt) f1
    have f3 := lev_fw (C := C) (m := 1) (op := op3 C l) (fun _ => op3_lt) f2
    have h1 := c_readProduct (d := d + 1 + 5 * e) hK rp l1 f0 (RdOk.mono (by omega) h)
    have h2 := c_readSum (d := d + 2 + 5 * e) hK rp l1 f1 (RdOk.mono (by omega) h1)
    have h3 := c_readTest (d := d + 3 + 5 * e) hK rp l1 f2 (RdOk.mono (by omega) h2)
    have h4 := c_readAll (d := d + 4 + 5 * e) hK rp l1 f3 (RdOk.mono (by omega) h3)
    exact RdOk.mono (by omega) h4
  intro e
  induction e with
  | zero =>
    intro dp h
    have e5 : dp = 5 := by omega
    subst e5
    have h0 := c_partZero (L := L) (xs := xs) (pn := pn) (pc := pc) (ship := ship) (nn := nn) (tl := tl) (vd := vd) (log := log) (trial := trial) (sta := sta) (says := says) (seed := seed) (past := past) (marks := marks) (d := d) hK rp l1
    exact ⟨h0, up 0 5 h0⟩
  | succ e ih =>
    intro dp h
    have ih := ih (dp + 1) (by omega)
    have h1 := c_partMore (d := d + 5 + 5 * e) hK rp l1 (by omega) (RdOk.mono (by omega) ih.1) (RdOk.mono (by omega) ih.2)
    have h1 := RdOk.mono (d' := d + 8 + 5 * (e + 1)) (by omega) h1
    exact ⟨h1, up (e + 1) dp h1⟩
/-- the whole law is read -/
theorem c_lawRead {s : Nat} (hK : K.length < 700000) (rp : RpC T C l) (l1 : l ≤ 1000) (tr : TkR tok T C l s) (sl : s ≤ l) (h0 : ∀ f, allP C l (parP C l 5) s = .inl f → ∀ (tok' : TTok) (draft' : TShip), tok'.fault = nI f → Q (some (.int 0)) (clsW pn pc tok' ship nn tl draft' vd log trial sta says seed past marks K)) (h1 : ∀ s' st cd, allP C l (parP C l 5) s = .inr (s', st, cd) → ∀ tok' : TTok, TkR tok' T C l s' → tok'.fault = tok.fault → Q (some (.int 1)) (clsW pn pc tok' ship nn tl (draft.wlaw (lwA (draft.law.steps, draft.law.stack, draft.law.known, 0, 0) st)) vd log trial sta says seed past marks K)) : XC (xF L xs) xmeths (d + 40) 59 [.ref 26, .ref 1] (clsW pn pc tok ship nn tl draft vd log trial sta says seed past marks K) Q := by
  refine ⟨nb rfl, xgo [] 20 ⟨rfl, nb rfl, ?_⟩⟩
  refine ⟨nb rfl, xgo [] 20 ⟨⟨rfl, rfl⟩, rfl, ?_⟩⟩
  refine ⟨rfl, nb rfl, ?_⟩
  have hp := (c_parts (L := L) (xs := xs) (pn := pn) (pc := pc) (ship := ship) (nn := nn) (tl := tl) (vd := vd) (log := log) (trial := trial) (sta := sta) (says := says) (seed := seed) (past := past) (marks := marks) (d := d) hK rp l1 5 0 rfl).2
  have hp := RdOk.mono (d' := d + 39) (by omega) hp
  refine hp _ tok (draft.wlaw (draft.law.steps, draft.law.stack, draft.law.known, 0, 0)) s 0 tr sl rfl (Nat.zero_le _) (Or.inl rfl) (fun f ef tok' draft' _ _ _ a3 => ⟨rfl, h0 f ef tok' draft' a3⟩) (fun s2 st2 cd2 e2 tok3 tr3 f3 => ⟨rfl, h1 s2 st2 cd2 e2 tok3 tr3 f3⟩)
end XLP
