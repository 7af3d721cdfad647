/-! the class's rests where it throws; the law's own method -/
abbrev xExc : XE := .inr (14, List.replicate 6 .null)
abbrev xyG : MethodName := ⟨"GreenButtons", "rests", "(IIII)I"⟩
abbrev xG5 (r : Nat) (b g q what : Int32) : List Value := [.ref r, .int b, .int g, .int q, .int what]
def XTh (D : va_G) (ka : FieldType → ClassId) (B : Nat) (fo : Nat → Nat) (L : Nat) (xs : Nat → Int32) (w : XWd) : String → State → State → Prop := fun E st t => E = xEN ∧ XRel D ka B fo (xF L xs) xstrs xnests (w ++ [xExc]) t ∧ va_F (fun q => B ≤ q) st t
theorem tw_in : ∀ w ∈ [Cond.classLink RX12 283 xEN, Cond.initialized xEN, Cond.classLink "GreenButtonsLaw" 13 xEN], w ∈ lw_tbl ∧ goodWord w = true := by decide +kernel
theorem tw_tb {u : Cond} (h : u ∈ [Cond.classLink RX12 283 xEN, Cond.initialized xEN, Cond.classLink "GreenButtonsLaw" 13 xEN]) : u ∈ xTB := List.mem_filter.mpr (tw_in u h)
theorem mt_48 : decode prog_1_method_31_code 48 = .ok (.new 283, 3) := by decide +kernel
theorem mt_51 : decode prog_1_method_31_code 51 = .ok (.dup, 1) := by decide +kernel
theorem mt_52 : decode prog_1_method_31_code 52 = .ok (.ldc_w 285, 3) := by decide +kernel
theorem mt_55 : decode prog_1_method_31_code 55 = .ok (.invokespecial 287, 3) := by decide +kernel
theorem mt_58 : decode prog_1_method_31_code 58 = .ok (.athrow, 1) := by decide +kernel
theorem mt_107 : decode prog_1_method_31_code 107 = .ok (.new 283, 3) := by decide +kernel
theorem mt_110 : decode prog_1_method_31_code 110 = .ok (.dup, 1) := by decide +kernel
theorem mt_111 : decode prog_1_method_31_code 111 = .ok (.ldc_w 294, 3) := by decide +kernel
theorem mt_114 : decode prog_1_method_31_code 114 = .ok (.invokespecial 287, 3) := by decide +kernel
theorem mt_117 : decode prog_1_method_31_code 117 = .ok (.athrow, 1) := by decide +kernel
theorem mt_s12 : xnth xstrs 12 = some (RX12, 285, "no such game") := by decide +kernel
theorem mt_s13 : xnth xstrs 13 = some (RX12, 294, "no such rest") := by decide +kernel
theorem mt_p24 : xnth (xpcs xr163 0) 24 = some 48 := by decide +kernel
theorem mt_p53 : xnth (xpcs xr163 0) 53 = some 107 := by decide +kernel
set_option maxHeartbeats 2000000 in
theorem met_throw {l : Launch} {D : va_G} {ka : FieldType → ClassId} {B : Nat} {fo : Nat → Nat} {L : Nat} {xs : Nat → Int32} {b g q what : Int32} {r d : Nat} {w : XWd} (hl9 : l.stackTraces = false) (he : restV b g q what = none) (hbig : w.length + 1 ≤ 601024) (hd3 : 3 ≤ d) :
    vx_Met l xyG (.code xyG prog_1_method_31_code 8 (some .int) :: xTB) (xrm (d + 3) 1 6) (XPc D ka B fo (xF L xs) xstrs xnests (xG5 r b g q what) w) (fun _ _ _ _ => False) (XTh D ka B fo L xs w) 1 6 (fun q => B ≤ q) := by
  obtain ⟨k1, k2, k3, k4, k5⟩ := xq163
  refine vx_ofW (cc := prog_1_method_31_code) (maxL := 8) (ret := some .int) k1.1 rfl ?_
  intro p e s m args below meth c s₁ Bd hml hout hv
  obtain ⟨rfl, hE, hP, hz⟩ := hv
  have hts := atoms_spec (ws := .code xyG prog_1_method_31_code 8 (some .int) :: xTB) Bd.pre
  have hlocks := Bd.notSynchronized
  have X : XCx0 p (headSpec (.code xyG prog_1_method_31_code 8 (some .int) :: xTB) (xrm (d + 3) 1 6)).room s m ((xG5 r b g q what).map (xv (xphi B fo))).toArray meth c "GreenButtons" false prog_1_method_31_code 8 (.code xyG prog_1_method_31_code 8 (some .int) :: xTB) D ka B fo (xF L xs) xstrs xnests w (w ++ [xExc]) (d + 2) := by
    refine ⟨Bd.exec, Bd.bytes, hml, findClass_of_methodNamed Bd.named, hts, fun u hu => List.mem_cons_of_mem _ hu, (fun hi => by cases hi), hE, hz, ?_⟩
    refine ⟨Nat.le_refl (d + 3), ?_, ?_, ?_, ?_⟩
    · show 64 * (d + 2) + 64 ≤ 64 * (d + 3)
      omega
    · show (w ++ [xExc]).length ≤ w.length + 1
      rw [List.length_append]
      exact Nat.le_refl _
    · show xsl (w ++ [xExc]) ≤ xsl w + 6
      rw [xsl_app]
      exact Nat.le_refl _
    · rw [List.length_append]
      exact hbig
  have key := c_restsS (L := L) (xs := xs) (d := d) (Q := fun _ _ => False) (w := w) (b := b) (g := g) (l := q) (what := what) (St := fun i _ st w' => (i = 24 ∨ i = 53) ∧ st = [] ∧ w' = w) (r := r) (fun v hv => by rw [he] at hv; cases hv) (fun _ i loc hi => ⟨hi, rfl, rfl⟩)
    (XGoal p l e (headSpec (.code xyG prog_1_method_31_code 8 (some .int) :: xTB) (xrm (d + 3) 1 6)).room s m ((xG5 r b g q what).map (xv (xphi B fo))).toArray below meth c (vx_MQ below (fun _ _ _ _ => False) (XTh D ka B fo L xs w) ((xG5 r b g q what).map (xv (xphi B fo))).toArray s 1 6 (fun q => B ≤ q)) D ka B fo 8 (xpcs xr163 0) w (w ++ [xExc]))
    (fun i loc st w' hst => ?_)
    (xstep X (xclF L xs) xprim (XC_exact (d + 2)) (xcall_all xall x999 (xclF L xs) xprim (d + 2)) (fun a9 w9 v9 w8 h9 _ => ?_) k5 k4 (fun v9 w9 h => h.elim) (fun i ins loc st w9 pc hins hbw hd h => ?_))
  · have := key.2 0 s.heap [] _ 0 0 k3 hP va_S.rf (by omega) (by omega) (xlr_entry (xphi B fo) (xG5 r b g q what) (show 5 ≤ 8 by decide))
    rw [lg_entry_eq]
    exact this
  · obtain ⟨hi, hst0, hw0⟩ := hst
    rw [hst0, hw0]
    refine ⟨⟨by rw [List.length_append]; omega, by rw [xsl_app]; omega⟩, fun pc H locs ls cells slots hpc gP gS g1 g2 gl => ?_⟩
    have hc0 : cells = 0 := by omega
    have hs0 : slots = 0 := by omega
    subst hc0; subst hs0
    refine xW_size (fun hsz => ?_)
    have hlo := xlo gP (Nat.le_trans (xHB X (Nat.le_refl _)) gS.1) (by omega)
    have hH : H.size = B + w.length := by omega
    have hthrow : ∀ (is j : Nat) (text : String), xnth xstrs j = some (RX12, is, text) → decode prog_1_method_31_code pc = .ok (.new 283, 3) → decode prog_1_method_31_code (pc + 3) = .ok (.dup, 1) → decode prog_1_method_31_code (pc + 4) = .ok (.ldc_w is, 3) → decode prog_1_method_31_code (pc + 7) = .ok (.invokespecial 287, 3) → decode prog_1_method_31_code (pc + 10) = .ok (.athrow, 1) →
        W p l e (headSpec (.code xyG prog_1_method_31_code 8 (some .int) :: xTB) (xrm (d + 3) 1 6)).room s m ((xG5 r b g q what).map (xv (xphi B fo))).toArray below meth c H locs 0 0 (vx_MQ below (fun _ _ _ _ => False) (XTh D ka B fo L xs w) ((xG5 r b g q what).map (xv (xphi B fo))).toArray s 1 6 (fun q => B ≤ q)) (F0 m pc ls []) := by
      intro is j text hj d0 d3 d4 d7 d10
      refine vy_throwSW X.1 X.2.1 hl9 (text := text) (is := is) (sa := fo (xSTR + j)) (A := fun q => B ≤ q) X.2.2.2.1 (xword X (tw_tb (by simp))) (xword X (tw_tb (by simp))) (hE.2.2.2.1 j _ hj) (at_hat (fun u hu => xword X hu)) at_ot hE.2.2.2.2.2.2.2.2.1 hE.2.2.2.2.2.2.2.2.2 gS (gl.1.trans hml.symm) d0 d3 d4 d7 d10 (fun x hx => (hout x hx).elim) ?_ ?_ (Nat.le_refl 1) (Nat.le_refl 6) hlocks ?_ gS.2.2 (Nat.le_refl _) (Nat.le_refl _)
      · show 5 < d + 3
        omega
      · show 0 + 82 ≤ 64 * (d + 3)
        omega
      · intro t ce hW hsame hle hkeep hce hcv hcl
        have hS' : va_S (fun q => B ≤ q) s.heap t.heap locs := ⟨Nat.le_trans gS.1 hle, fun y h1 h2 => (hkeep y (Nat.lt_of_lt_of_le h1 gS.1)).trans (gS.2.1 y h1 h2), gS.2.2⟩
        have hlt : H.size < t.heap.size := (Array.getElem?_eq_some_iff.mp hce).1
        have hcls : ce.cls = D.1 14 := by
          have h9 := (hE.1.1 14 (xEN, xET, 0) rfl).2.1
          exact Option.some.inj (hcl.symm.trans h9)
        refine ⟨rfl, ⟨XEv.to hE hW hS', ?_, ?_⟩, hS'.F rfl⟩
        · rw [xws_app]
          refine va_P.app (gP.kept (fun k y hk => hkeep _ (gP k y hk).lt)) (fun k y hk => ?_)
          cases k with
          | zero =>
            have ey : y = (xphi B fo w.length, xe (xphi B fo) ka xExc) := by simpa using hk.symm
            subst ey
            refine ⟨(xEN, xET, 0), rfl, ce, ?_, hcls, hcv, fun k hk => absurd hk (Nat.not_lt_zero _)⟩
            show t.heap[xphi B fo w.length]? = some ce
            rw [xphi_in (by omega), ← hH]
            exact hce
          | succ k => simp at hk
        · have hb2 : t.heap.size ≤ s.heap.size + 1 := hsame.2.2.1
          rw [List.length_append]
          show t.heap.size = B + (w.length + 1)
          omega
    rcases hi with rfl | rfl
    · have hpc : pc = 48 := Option.some.inj (hpc.symm.trans mt_p24)
      subst hpc
      exact hthrow 285 12 _ mt_s12 mt_48 mt_51 mt_52 mt_55 mt_58
    · have hpc : pc = 107 := Option.some.inj (hpc.symm.trans mt_p53)
      subst hpc
      exact hthrow 294 13 _ mt_s13 mt_107 mt_110 mt_111 mt_114 mt_117
  · simp only [XC, x999] at h9
  · rcases hins with rfl | rfl | rfl
    · simp only [xi] at h
      split at h
      · exact h.2.elim
      · exact h.elim
    · simp only [xi] at h
      split at h
      · obtain ⟨ty, e0, en, h⟩ := xrt_int h
        exact h.elim
      · exact h.elim
    · simp only [xi] at h
      split at h
      · obtain ⟨e0, h⟩ := xrt_lng h
        exact h.elim
      · exact h.elim
