/-! the law's own method: the class's answer, or its throw caught -/
def xPR : List Instr := [.aload 5, .iconst 0, .aload 0, .iload 1, .iload 2, .iload 3, .iload 4, .invokeinterface 163 837, .i2l, .lastore, .goto 14, .astore 6, .iconst 1, .ireturn, .iconst 0, .ireturn]
def xrR : List XRow := [(0, .aload 5, 2, []), (2, .iconst 0, 1, []), (3, .aload_n 0, 1, []), (4, .iload_n 1, 1, []), (5, .iload_n 2, 1, []), (6, .iload_n 3, 1, []), (7, .iload 4, 2, []), (9, .invokevirtual 7, 3, [1289, 1290, 1291, 93]), (12, .i2l, 1, []), (13, .lastore, 1, []), (14, .goto 7, 3, []), (17, .astore 6, 2, []), (19, .iconst 1, 1, []), (20, .ireturn, 1, []), (21, .iconst 0, 1, []), (22, .ireturn, 1, [])]
theorem xqR1 : xdec method_3_code xrR = true := by decide +kernel
theorem xqR2 : xckR xstrs xnests xsg "GreenButtonsLaw" false (xpcs xrR 0) xrR xPR 0 = true := by decide +kernel
theorem xqR3 : xnth (xpcs xrR 0) 0 = some 0 := by decide +kernel
theorem xqR7 : xnth (xpcs xrR 0) 7 = some 9 := by decide +kernel
theorem xqd9 : decode method_3_code 9 = .ok (.invokevirtual 7, 3) := by decide +kernel
theorem xqd17 : decode method_3_code 17 = .ok (.astore 6, 2) := by decide +kernel
theorem xqd19 : decode method_3_code 19 = .ok (.iconst 1, 1) := by decide +kernel
theorem xqd20 : decode method_3_code 20 = .ok (.ireturn, 1) := by decide +kernel
abbrev xhR : List (Nat × Nat × Nat × Nat) := [(0, 14, 17, 13)]
theorem xqRw : ∀ u ∈ [Cond.codeWith xyR method_3_code 7 (some .int) xhR, .methodLink "GreenButtonsLaw" 7 xyG, .instanceMethod xyG, .selects "GreenButtons" xyG xyG, .initialized "GreenButtons", .code xyG prog_1_method_31_code 8 (some .int)], u ∈ lw_tbl ∧ goodWord u = true := by decide +kernel
theorem xqRt {u : Cond} (h : u ∈ [Cond.codeWith xyR method_3_code 7 (some .int) xhR, .methodLink "GreenButtonsLaw" 7 xyG, .instanceMethod xyG, .selects "GreenButtons" xyG xyG, .initialized "GreenButtons", .code xyG prog_1_method_31_code 8 (some .int)]) : u ∈ xTB := List.mem_filter.mpr (xqRw u h)
abbrev xA6 (x : Nat) (p0 p1 p2 p3 : Int32) (o : Nat) : List Value := [.ref x, .int p0, .int p1, .int p2, .int p3, .ref o]
abbrev xA7 (x : Nat) (p0 p1 p2 p3 : Int32) (o : Nat) : List Value := [.int p3, .int p2, .int p1, .int p0, .ref x, .int 0, .ref o]
section XMR
variable {L : Nat} {xs : Nat → Int32} {Q : XQt} {St : XKt} {w : XWd} {x o n : Nat} {p0 p1 p2 p3 : Int32} {fs : List Value} {f : Nat → Int64}
theorem xi_call {Fx : XF} {rt : Option FieldType} {K : XKt} {C : XCt} {Q : XQt} {y cnt i ci a : Nat} {loc : XL} {st tl fs : List Value} {w : XWd} (hl : (st.drop (cnt % 64)).length + cnt % 64 = st.length) (hc : ((st.drop (cnt % 64)).map fun v => v.category).sum ≤ 8) (hci : cnt / 64 = ci + 1) (ht : (st.take (cnt % 64)).reverse = .ref a :: tl) (hx : xnth w a = some (.inr (ci, fs))) (h : C y (.ref a :: tl) w fun v w' => K (i + 1) loc (v.toList ++ st.drop (cnt % 64)) w') : xi Fx rt K C Q (some (.invokeinterface y cnt)) i loc st w := by
  simp only [xi]
  refine ⟨hl, hc, ?_⟩
  rw [hci, ht]
  simp only [hx]
  first
    | exact h
    | (rw [if_pos rfl]; exact h)
theorem xi_r7 {rt : Option FieldType} {K : XKt} {C : XCt} {loc : XL} (hx : xnth w x = some (.inr (12, fs))) (h : C 163 [.ref x, .int p0, .int p1, .int p2, .int p3] w (fun v w' => K 8 loc (v.toList ++ [.int 0, .ref o]) w')) : xi (xF L xs) rt K C Q (some (.invokeinterface 163 837)) 7 loc (xA7 x p0 p1 p2 p3 o) w := xi_call (ci := 12) (a := x) (tl := [.int p0, .int p1, .int p2, .int p3]) rfl (nb rfl) rfl rfl hx h
theorem r_pure (hx : xnth w x = some (.inr (12, fs))) (ho : xnth w o = some (.inl (.long, n, .inr (.inl f)))) (h0 : 0 < n) (h1 : ∀ k, restV p0 p1 p2 p3 = some k → Q (some (.int 0)) (xset w o (xlng n (vp_updL f 0 k.toInt64)))) (hs : restV p0 p1 p2 p3 = none → St 7 [orf x, oi p0, oi p1, oi p2, oi p3, orf o, none] (xA7 x p0 p1 p2 p3 o) w) : XWs (xF L xs) (some .int) xPR (XC (xF L xs) xmeths 99) Q St 0 (xent 7 (xA6 x p0 p1 p2 p3 o)) [] w := by
  cases e : restV p0 p1 p2 p3 with
  | none => exact xgs [] [7] 20 (hs e)
  | some k =>
    have a10 : XWs (xF L xs) (some .int) xPR (XC (xF L xs) xmeths 99) Q St 10 [orf x, oi p0, oi p1, oi p2, oi p3, orf o, none] [] (xset w o (xlng n (vp_updL f 0 k.toInt64))) := xgs [] [] 10 (h1 k e)
    have a9 : XWs (xF L xs) (some .int) xPR (XC (xF L xs) xmeths 99) Q St 9 [orf x, oi p0, oi p1, oi p2, oi p3, orf o, none] [.long k.toInt64, .int 0, .ref o] w := by
      refine XWs.fold (XC_mono 99) ?_
      rw [show xnth xPR 9 = some .lastore from rfl]
      simp only [xi, x1l, xir, ho]
      refine ⟨fun h => ?_, a10⟩
      rcases h with h | h
      · exact absurd h (by decide)
      · exact absurd (Nat.le_trans h (Nat.le_refl 0)) (by omega)
    have a8 : XWs (xF L xs) (some .int) xPR (XC (xF L xs) xmeths 99) Q St 8 [orf x, oi p0, oi p1, oi p2, oi p3, orf o, none] [.int k, .int 0, .ref o] w := xgs [9] [] 10 a9
    have a7 : XWs (xF L xs) (some .int) xPR (XC (xF L xs) xmeths 99) Q St 7 [orf x, oi p0, oi p1, oi p2, oi p3, orf o, none] (xA7 x p0 p1 p2 p3 o) w := by
      refine XWs.fold (XC_mono 99) ?_
      rw [show xnth xPR 7 = some (.invokeinterface 163 837) from rfl]
      exact xi_r7 hx (c_restsV (d := 96) e a8)
    exact xgs [7] [] 20 a7
end XMR
set_option maxHeartbeats 2000000 in
theorem met_R {l : Launch} {D : va_G} {ka : FieldType → ClassId} {B : Nat} {fo : Nat → Nat} {L : Nat} {xs : Nat → Int32} {w w1 : XWd} {x o n : Nat} {p0 p1 p2 p3 : Int32} {fs : List Value} {f : Nat → Int64} {v : Option Value} {mc ms : Nat} (hl9 : l.stackTraces = false) (hx : xnth w x = some (.inr (12, fs))) (ho : xnth w o = some (.inl (.long, n, .inr (.inl f)))) (h0 : 0 < n)
    (h1 : ∀ k, restV p0 p1 p2 p3 = some k → some (.int 0) = v ∧ xset w o (xlng n (vp_updL f 0 k.toInt64)) = w1) (hn : restV p0 p1 p2 p3 = none → some (.int 1) = v ∧ w ++ [xExc] = w1) (hmc : w1.length = w.length + mc) (hms : xsl w1 = xsl w + ms) (hbig : w1.length ≤ 601024) :
    Met l xyR (.codeWith xyR method_3_code 7 (some .int) xhR :: xTB) (xrm 100 mc ms) (XPc D ka B fo (xF L xs) xstrs xnests (xA6 x p0 p1 p2 p3 o) w) (XQc D ka B fo (xF L xs) xstrs xnests v w1) mc ms (fun q => B ≤ q) := by
  refine met_ofWH (cc := method_3_code) (maxL := 7) (ret := some .int) (hh := xhR) (by decide +kernel) rfl ?_
  intro p e s m args below meth c s₁ Bd hml hv
  obtain ⟨rfl, hE, hP, hz⟩ := hv
  have hts := atoms_spec (ws := .codeWith xyR method_3_code 7 (some .int) xhR :: xTB) Bd.pre
  have hr := Bd.returns
  have X : XCx0 p (headSpec (.codeWith xyR method_3_code 7 (some .int) xhR :: xTB) (xrm 100 mc ms)).room s m ((xA6 x p0 p1 p2 p3 o).map (xv (xphi B fo))).toArray meth c "GreenButtonsLaw" false method_3_code 7 (.codeWith xyR method_3_code 7 (some .int) xhR :: xTB) D ka B fo (xF L xs) xstrs xnests w w1 99 := by
    refine ⟨Bd.exec, Bd.bytes, hml, findClass_of_methodNamed Bd.named, hts, fun u hu => List.mem_cons_of_mem _ hu, (fun hi => by cases hi), hE, hz, ?_⟩
    exact ⟨Nat.le_refl 100, Nat.le_refl 6400, Nat.le_of_eq hmc, Nat.le_of_eq hms, hbig⟩
  have htab := vx_table (x := xyR) Bd (hts _ List.mem_cons_self)
  have key := r_pure (L := L) (xs := xs) (Q := fun v9 z => v9 = v ∧ z = w1) (St := fun i loc st w' => restV p0 p1 p2 p3 = none ∧ i = 7 ∧ st = xA7 x p0 p1 p2 p3 o ∧ w' = w) hx ho h0 (fun k hk => h1 k hk) (fun hk => ⟨hk, rfl, rfl, rfl⟩)
    (XGoal p l e (headSpec (.codeWith xyR method_3_code 7 (some .int) xhR :: xTB) (xrm 100 mc ms)).room s m ((xA6 x p0 p1 p2 p3 o).map (xv (xphi B fo))).toArray below meth c (MQ below (XQc D ka B fo (xF L xs) xstrs xnests v w1) ((xA6 x p0 p1 p2 p3 o).map (xv (xphi B fo))).toArray s mc ms (fun q => B ≤ q)) D ka B fo 7 (xpcs xrR 0) w w1)
    (fun i loc st w' hst => ?_)
    (xstep X (xclF L xs) xprim (XC_exact 99) (xcall_all xall x999 (xclF L xs) xprim 99) (fun a9 w9 v9 w8 h9 _ => ?_) xqR2 xqR1 (fun v9 w9 h => by rw [h.2]; exact ⟨Nat.le_refl _, Nat.le_refl _⟩) (fun i ins loc st w9 pc hins hbw hd h => ?_))
  · have := key.2 0 s.heap [] _ 0 0 xqR3 hP va_S.rf (by omega) (by omega) (xlr_entry (xphi B fo) (xA6 x p0 p1 p2 p3 o) (show 6 ≤ 7 by decide))
    rw [lg_entry_eq]
    exact this
  · obtain ⟨hr0, hi0, hst0, hw0⟩ := hst
    obtain ⟨hv1, hw1⟩ := hn hr0
    rw [hst0, hw0, hi0]
    have hlen : (w ++ [xExc]).length = w.length + 1 := by rw [List.length_append]; rfl
    have hslw : xsl (w ++ [xExc]) = xsl w + 6 := xsl_app w xExc
    rw [hw1] at hlen hslw
    have e5 : mc = 0 + 1 := by omega
    have e6 : ms = 0 + 6 := by omega
    refine ⟨⟨by omega, by omega⟩, fun pc H locs ls cells slots hpc gP gS g1 g2 gl => ?_⟩
    have hpc : pc = 9 := Option.some.inj (hpc.symm.trans xqR7)
    subst hpc
    have hc0 : cells = 0 := by omega
    have hs0 : slots = 0 := by omega
    subst hc0; subst hs0
    refine xW_size (fun hsz => ?_)
    have hlo := xlo gP (Nat.le_trans (xHB X (Nat.le_refl _)) gS.1) (by omega)
    have hH : H.size = B + w.length := by omega
    have hPre : ∀ U : State, U.heap = H → s.WarmedH U.vm → XPc D ka B fo (xF L xs) xstrs xnests (xG5 x p0 p1 p2 p3) w ((xG5 x p0 p1 p2 p3).map (xv (xphi B fo))).toArray U := by
      intro U hU hW
      refine ⟨rfl, ?_, by rw [hU]; exact gP, by rw [hU]; exact hH⟩
      rw [hU]
      exact XEv.to hE hW gS
    have hfix : CallFix p m c method_3_code 7 s ((xA6 x p0 p1 p2 p3 o).map (xv (xphi B fo))).toArray (.codeWith xyR method_3_code 7 (some .int) xhR :: xTB) "GreenButtonsLaw" := ⟨X.1, X.2.1, X.2.2.1, X.2.2.2.1, X.2.2.2.2.1⟩
    have hcw : CallW (headSpec (.codeWith xyR method_3_code 7 (some .int) xhR :: xTB) (xrm 100 mc ms)).room s ((xA6 x p0 p1 p2 p3 o).map (xv (xphi B fo))).toArray "GreenButtonsLaw" "GreenButtons" 7 xyG prog_1_method_31_code 8 (some .int) (.code xyG prog_1_method_31_code 8 (some .int) :: xTB) (xrm 99 1 6) 1 6 4 := by
      refine cwV 4 X.2.2.2.2.1 ?_ rfl rfl rfl ⟨rfl, xq163.1.2⟩ ⟨Nat.le_refl 100, show 8 + (8 + 11) + 64 * 99 ≤ 6400 by decide⟩
      refine xgoodIn X (fun u hu => ?_)
      unfold wsV at hu
      rcases List.mem_append.mp hu with hu | hu
      · exact xqRt (List.mem_cons_of_mem _ (List.mem_append_left [Cond.code xyG prog_1_method_31_code 8 (some .int)] hu))
      · rcases List.mem_cons.mp hu with hu | hu
        · rw [hu]; exact xqRt (by simp)
        · exact hu
    have hrc : ∃ cellB : Cell, H[xphi B fo x]? = some cellB ∧ cellB.vm.isStatics = false ∧ s.vm.findClass "GreenButtons" = some cellB.cls := va_recv (q := (RX12, TX12, 13)) (xK X) gP (xcl_at rfl) (xws_at hx)
    have hrun := vx_runV (R := (headSpec (.codeWith xyR method_3_code 7 (some .int) xhR :: xTB) (xrm 100 mc ms)).room) (below := below) (meth := meth) (e := e) (locs := locs) (cells := 0) (slots := 0) (As := [.int p0, .int p1, .int p2, .int p3]) (b := xphi B fo x) (rest := [.int 0, .ref (xphi B fo o)]) (g := F0 m 9 ls ((xA7 x p0 p1 p2 p3 o).map (xv (xphi B fo)))) hfix (met_throw (D := D) (ka := ka) (B := B) (fo := fo) (L := L) (xs := xs) (r := x) (d := 96) (w := w) hl9 hr0 (by omega) (by decide)) hcw ⟨XPc_blind, hrc, hPre⟩ rfl rfl gl.1 rfl (lv_room (show 2 ≤ 8 by decide)) xqd9 ⟨by show 0 + 1 ≤ mc; omega, by show 0 + 6 ≤ ms; omega⟩
    intro T hT XT
    rcases hrun T hT XT with ⟨v9, st₀, t, T', L', -, -, -, -, -, hFa, -⟩ | ⟨q, st₀, t, T', L', E, ce, hh0, X', hL, t1, t2, ⟨rfl, ⟨hE', hP', hz'⟩, hF1, hF2⟩, hce, hcv, hcl, stp⟩
    · exact hFa.elim
    · rw [hh0] at hF1 hF2
      have gS1 : va_S (fun q => B ≤ q) s.heap T'.heap (locs ++ L') := ⟨Nat.le_trans gS.1 (by rw [t1]; exact hF1), fun y h3 h4 => by rw [t1, hF2 y (Nat.lt_of_lt_of_le h3 gS.1) h4]; exact gS.2.1 y h3 h4, fun y hy => by
        rcases List.mem_append.mp hy with h | h
        · exact gS.2.2 y h
        · exact hL y h⟩
      have kk : W p l e (headSpec (.codeWith xyR method_3_code 7 (some .int) xhR :: xTB) (xrm 100 mc ms)).room s m ((xA6 x p0 p1 p2 p3 o).map (xv (xphi B fo))).toArray below meth c T'.heap (locs ++ L') (0 + 1) (0 + 6) (MQ below (XQc D ka B fo (xF L xs) xstrs xnests v w1) ((xA6 x p0 p1 p2 p3 o).map (xv (xphi B fo))).toArray s mc ms (fun q => B ≤ q)) (F0 m 17 ls [.ref q]) := by
        refine lv_astore X.1 X.2.1 xqd17 (xlr_has gl) (by decide) rfl (fun ls' hl' => ?_)
        refine lv_iconst X.1 X.2.1 xqd19 rfl ?_
        rw [← e5, ← e6]
        refine W.zret X.1 X.2.1 (ty := .int) hr rfl (fun t9 ht9 hW9 => ?_) gS1.2.2 xqd20
        refine ⟨by rw [← hv1]; rfl, ⟨?_, ?_, ?_⟩, gS1.F ht9⟩
        · rw [ht9]
          exact XEv.to hE hW9 gS1
        · rw [ht9, t1, ← hw1]
          exact hP'
        · rw [ht9, t1, ← hw1]
          exact hz'
      obtain ⟨t2, a1, b1⟩ := vy_catch (pc := 9) (ls := ls) (rest := [.int 0, .ref (xphi B fo o)]) (own := "GreenButtonsLaw") (name := xEN) (ce := ce) (q := q) (x := ⟨0, 14, 17, 13⟩) X.2.2.2.1 htab (by decide) (by decide) (xword X (tw_tb (by simp))) (by rw [t1]; exact hce) hcv hcl kk T' rfl X'
      exact ⟨t2, stp.trans a1, b1⟩
  · simp only [XC, x999] at h9
  · intro H locs ls cells slots gP gS g1 g2 gl
    refine xW_size (fun hsz => ?_)
    have post : ∀ (v9 : Option Value), v9 = v → w9 = w1 → ∀ t : State, t.heap = H → s.WarmedH t.vm → XQc D ka B fo (xF L xs) xstrs xnests v w1 ((xA6 x p0 p1 p2 p3 o).map (xv (xphi B fo))).toArray s (.returned (v9.map (xv (xphi B fo)))) t := by
      intro v9 e1 e2 t ht hW
      subst e1; subst e2
      have hlo := xlo gP (Nat.le_trans (xHB X (Nat.le_refl _)) gS.1) (by omega)
      refine ⟨rfl, ⟨?_, by rw [ht]; exact gP, by rw [ht]; omega⟩, gS.F ht⟩
      rw [ht]
      exact XEv.to hE hW gS
    rcases hins with rfl | rfl | rfl
    · simp only [xi] at h
      split at h
      · obtain ⟨e0, -⟩ := h
        cases e0
      · exact h.elim
    · simp only [xi] at h
      split at h
      · rename_i y
        obtain ⟨ty, e0, en, e1, e2⟩ := xrt_int h
        have ec : cells = mc := by rw [e2] at g1; omega
        have es : slots = ms := by rw [e2] at g2; omega
        subst ec; subst es
        exact W.zret X.1 X.2.1 (hr.trans e0) en (fun t ht hW => post (some (.int y)) e1 e2 t ht hW) gS.2.2 hd
      · exact h.elim
    · simp only [xi] at h
      split at h
      · obtain ⟨e0, -⟩ := xrt_lng h
        cases e0
      · exact h.elim
theorem law_MR {l : Launch} (hl9 : l.stackTraces = false) {L : Nat} (xs : Nat → Int32) (D : va_G) (ka : FieldType → ClassId) (B : Nat) (fo : Nat → Nat) : XCallR l D ka B fo (xF L xs) xstrs xnests 100 (CL restV (xF L xs) xmeths 100) := by
  intro a w v w1 hC hbig
  refine ⟨method_3_code, 7, some .int, xhR, by decide, xqRt (by simp), ?_⟩
  unfold CL at hC
  rw [if_pos rfl] at hC
  unfold XRs at hC
  split at hC
  · rename_i x p0 p1 p2 p3 o
    split at hC
    · rename_i fs n f hx ho
      obtain ⟨h0, hC⟩ := hC
      cases hk : restV p0 p1 p2 p3 with
      | some k =>
        rw [hk] at hC
        obtain ⟨e1, e2⟩ := hC
        have z1 : w1.length = w.length := by rw [← e2, xset_len]
        have z2 : xsl w1 = xsl w := by rw [← e2]; exact xset_sl w _ _ _ ho (by simp [xsz, xlng])
        exact met_R hl9 hx ho h0 (fun k' hk' => by rw [hk] at hk'; cases hk'; exact ⟨e1, e2⟩) (fun hk' => by rw [hk] at hk'; cases hk') (by omega) (by omega) hbig
      | none =>
        rw [hk] at hC
        obtain ⟨e1, e2⟩ := hC
        have z1 : w1.length = w.length + 1 := by rw [← e2, List.length_append]; rfl
        have z2 : xsl w1 = xsl w + 6 := by rw [← e2]; exact xsl_app w xExc
        exact met_R hl9 hx ho h0 (fun k' hk' => by rw [hk] at hk'; cases hk') (fun _ => ⟨e1, e2⟩) (by omega) (by omega) hbig
    · exact hC.elim
  · exact hC.elim
