section XCL
variable {p : Program} {l : Launch} {e : Env} {R : Room} {s : State} {m : MethodId} {args : Array Value} {below : List Frame} {meth : Method} {c : Code} {Qf : State → Prop} {own : String} {ini : Bool} {cc : ByteArray} {nL : Nat} {Ts : List Jvm.Cond} {D : va_G} {ka : FieldType → ClassId} {B : Nat} {fo : Nat → Nat} {F : XF} {ss : XSt} {nw : List Jvm.Cond} {sg : XSg} {w0 wf : XWd} {d : Nat} {rt : Option FieldType} {C : XCt} {Q : XQt} {pcs : List Nat} {pc len i : Nat} {ci : Instr} {js : List Nat} {loc : XL} {st : List Value} {w : XWd}
theorem xsw_at {x : Int32} {f : Nat → Prop} {dn : Prop} : ∀ {ts : List Int} {lo : Int}, xsw x f dn lo ts → (∃ (j : Nat) (t : Int), ts[j]? = some t ∧ x = Int32.ofInt (lo + j) ∧ f t.toNat) ∨ (dn ∧ ∀ j : Nat, j < ts.length → ¬ x = Int32.ofInt (lo + j))
  | [], lo, h => Or.inr ⟨h, fun j hj => absurd hj (Nat.not_lt_zero j)⟩
  | t :: ts, lo, h => by
    by_cases hx : x = Int32.ofInt lo
    · exact Or.inl ⟨0, t, rfl, by simpa using hx, h.1 hx⟩
    · rcases xsw_at (h.2 hx) with ⟨j, t', q1, q2, q3⟩ | ⟨q1, q2⟩
      · exact Or.inl ⟨j + 1, t', by simpa using q1, by rw [q2]; congr 1; omega, q3⟩
      · refine Or.inr ⟨q1, fun j hj => ?_⟩
        cases j with
        | zero => simpa using hx
        | succ j =>
          have := q2 j (by simpa using hj)
          rw [show lo + ((j + 1 : Nat) : Int) = lo + 1 + (j : Int) by omega]
          exact this
theorem xtgs_at : ∀ {os ts : List Int} {j : Nat} {t : Int}, xtgs pcs pc os ts = true → ts[j]? = some t → ∃ o, os[j]? = some o ∧ xtg pcs pc o t = true
  | [], [], j, t, _, h => by simp at h
  | [], b :: ts, j, t, h0, h => by simp [xtgs] at h0
  | o :: os, [], j, t, _, h => by simp at h
  | o :: os, b :: ts, 0, t, h0, h => by
    simp only [xtgs, Bool.and_eq_true] at h0
    simp at h
    subst h
    exact ⟨o, rfl, h0.1⟩
  | o :: os, b :: ts, j + 1, t, h0, h => by
    simp only [xtgs, Bool.and_eq_true] at h0
    obtain ⟨o', q1, q2⟩ := xtgs_at (j := j) h0.2 (by simpa using h)
    exact ⟨o', by simpa using q1, q2⟩
theorem xi32 {z : Int} (h1 : -2147483648 ≤ z) (h2 : z < 2147483648) : (Int32.ofInt z).toInt = z := by
  have e9 : ((Int32.size : Nat) : Int) = 4294967296 := rfl
  rw [Int32.toInt_ofInt]
  exact Int.bmod_eq_of_le (by omega) (by omega)
theorem xs_tableswitch {dt lo hi : Int} {ts : Array Int} (X : XCx0 p R s m args meth c own ini cc nL Ts D ka B fo F ss nw w0 wf d) (hbw : w.length ≤ 601024) (hd : decode cc pc = .ok (ci, len)) (hk : xck ss nw sg own ini pcs pc ci len js (.tableswitch dt lo hi ts) = true) (hn : xnth pcs (i + 1) = some (pc + len)) (h : xi F rt (XGoal p l e R s m args below meth c Qf D ka B fo nL pcs w0 wf) C Q (some (.tableswitch dt lo hi ts)) i loc st w) : XNow p l e R s m args below meth c Qf D ka B fo nL w0 pc loc st w := by
  have h9 := x1_of h; clear h; obtain ⟨x, r, e0, h⟩ := h9; subst e0
  intro H locs ls cells slots hP hS h1 h2 hl
  simp only [xck] at hk
  split at hk
  · rename_i d' lo' hi' os
    simp only [Bool.and_eq_true, decide_eq_true_eq] at hk
    obtain ⟨⟨⟨⟨⟨⟨rfl, rfl⟩, k3⟩, k4⟩, k5⟩, k6⟩, k7⟩ := hk
    have hsz : ts.toList.length = ts.size := Array.length_toList
    rcases xsw_at h with ⟨j, t, q1, q2, q3⟩ | ⟨q1, q2⟩
    · have hj : j < ts.size := by rw [← hsz]; exact (List.getElem?_eq_some_iff.mp q1).1
      obtain ⟨o, o1, o2⟩ := xtgs_at k7 q1
      obtain ⟨q, hq, he⟩ := xtg_at o2
      have hx : x.toInt = lo' + j := by rw [q2]; exact xi32 (by omega) (by omega)
      refine lv_tableIn X.1 X.2.1 hd (off := o) (by omega) (by omega) ?_ he (q3.2 _ H locs ls cells slots hq hP hS h1 h2 hl)
      rw [show (x.toInt - lo').toNat = j by omega, ← Array.getElem?_toList]
      exact o1
    · obtain ⟨q, hq, he⟩ := xtg_at k6
      refine lv_tableOut X.1 X.2.1 hd ?_ he (q1.2 _ H locs ls cells slots hq hP hS h1 h2 hl)
      rcases Int.lt_or_le x.toInt lo' with g | g
      · exact Or.inl g
      · rcases Int.lt_or_le hi' x.toInt with g2 | g2
        · exact Or.inr g2
        · exfalso
          refine q2 (x.toInt - lo').toNat (by omega) ?_
          refine Int32.toInt_inj.mp ?_
          rw [xi32 (by omega) (by omega)]
          omega
  · cases hk
/-- contracts of the callees, one call less deep -/
def XCall (l : Launch) (D : va_G) (ka : FieldType → ClassId) (B : Nat) (fo : Nat → Nat) (F : XF) (ss : XSt) (nw : List Jvm.Cond) (sg : XSg) (d : Nat) (C : XCt) : Prop :=
  ∀ (y : Nat) (g : MethodName × Nat) (a : List Value) (w : XWd) (v : Option Value) (w1 : XWd), xnth sg y = some g → C y a w (fun x z => x = v ∧ z = w1) → w1.length ≤ 601024 →
    ∃ (bytes : ByteArray) (maxL : Nat) (ret : Option FieldType), maxL ≤ 20 ∧ Jvm.Cond.code g.1 bytes maxL ret ∈ xTB ∧ (g.1.name = "<init>" → ret = none) ∧ (g.1.cls ≠ "java/lang/invoke/MethodHandle" ∧ g.1.cls ≠ "java/lang/invoke/VarHandle" ∧ (parseMethodDescriptor g.1.desc).map (fun d => d.parameters.length) = some g.2) ∧
      Met l g.1 (.code g.1 bytes maxL ret :: xTB) (xrm d (w1.length - w.length) (xsl w1 - xsl w)) (XPc D ka B fo F ss nw a w) (XQc D ka B fo F ss nw v w1) (w1.length - w.length) (xsl w1 - xsl w) (fun q => B ≤ q)
theorem xgood (X : XCx0 p R s m args meth c own ini cc nL Ts D ka B fo F ss nw w0 wf d) {u : Jvm.Cond} (h : u ∈ xTB) : u ∈ Ts ∧ ((u.onTables && u.keeps) = true ∨ ∃ ty, u = .arrayClass ty) := ⟨X.2.2.2.2.2.1 u h, good_of_word (List.mem_filter.mp h).2⟩
theorem xgoodIn (X : XCx0 p R s m args meth c own ini cc nL Ts D ka B fo F ss nw w0 wf d) {us : List Jvm.Cond} (h : ∀ u ∈ us, u ∈ xTB) : GoodIn Ts us := fun u hu => xgood X (h u hu)
theorem xcats {r : List Value} (h : (r.map fun v => v.category).sum ≤ 8) : ((r.map (xv (xphi B fo))).map fun v => v.category).sum ≤ 8 := by
  have e1 : ((r.map (xv (xphi B fo))).map fun v => v.category) = r.map fun v => v.category := by
    rw [List.map_map]
    exact List.map_congr_left (fun v _ => xv_cat _ v)
  rw [e1]
  exact h
set_option maxHeartbeats 1000000 in
theorem xs_call (hCx : XCx C) (hM : XCall l D ka B fo F ss nw sg d C) (hF : XClF F) {y cnt : Nat} (X : XCx0 p R s m args meth c own ini cc nL Ts D ka B fo F ss nw w0 wf d) (hbw : w.length ≤ 601024) (hd : decode cc pc = .ok (ci, len)) (hk : xck ss nw sg own ini pcs pc ci len js (.invokeinterface y cnt) = true) (hn : xnth pcs (i + 1) = some (pc + len)) (h : xi F rt (XGoal p l e R s m args below meth c Qf D ka B fo nL pcs w0 wf) C Q (some (.invokeinterface y cnt)) i loc st w) : XNow p l e R s m args below meth c Qf D ka B fo nL w0 pc loc st w := by
  simp only [xi] at h
  obtain ⟨hlen, hcat, h⟩ := h
  have hspl : st = ((st.take (cnt % 64)).reverse).reverse ++ st.drop (cnt % 64) := by rw [List.reverse_reverse, List.take_append_drop]
  have halen : ((st.take (cnt % 64)).reverse).length = cnt % 64 := by
    rw [List.length_reverse, List.length_take]
    have := List.length_drop (i := cnt % 64) (l := st)
    omega
  generalize (st.take (cnt % 64)).reverse = av at h hspl halen
  generalize st.drop (cnt % 64) = r at h hspl hcat
  subst hspl
  have key : C y av w (fun v w' => XGoal p l e R s m args below meth c Qf D ka B fo nL pcs w0 wf (i + 1) loc (v.toList ++ r) w') ∧ (∀ cj, cnt / 64 = cj + 1 → ∃ a tl, av = .ref a :: tl ∧ ((∃ fs, xnth w a = some (.inr (cj, fs))) ∨ (cj = 100 ∧ ∃ j : Nat, a = xSTR + j ∧ j < F.2.2.1.length))) := by
    split at h
    · rename_i hc
      exact ⟨h, fun cj e => by omega⟩
    · rename_i cj hc
      split at h
      · rename_i a tl
        split at h
        · rename_i ck fs hw
          split at h
          · rename_i he
            subst he
            exact ⟨h, fun cj e => ⟨a, tl, rfl, Or.inl ⟨fs, by rw [show cj = ck by omega]; exact hw⟩⟩⟩
          · exact h.elim
        · exact h.elim
        · split at h
          · rename_i b hb
            split at h
            · rename_i he
              refine ⟨h, fun ck e => ⟨a, tl, rfl, Or.inr ⟨by omega, a - xSTR, (Nat.add_sub_cancel' he.1).symm, xnth_lt hb⟩⟩⟩
            · exact h.elim
          · exact h.elim
      · exact h.elim
  obtain ⟨hC, hrecv⟩ := key
  obtain ⟨v, w1, hg, l1, l2, hex⟩ := hCx _ _ _ _ hC
  simp only [xck] at hk
  split at hk
  · cases hk
  · rename_i g hsg
    obtain ⟨r1, r2, r3, r4, r5⟩ := X.2.2.2.2.2.2.2.2.2
    obtain ⟨bytes, maxL, ret, m1, m2, m3, m4, hMet⟩ := hM y g av w v w1 hsg hex (Nat.le_trans hg.1.1 r5)
    have hwords : ∀ us : List Jvm.Cond, (∀ u ∈ us, u ∈ xTB) → GoodIn Ts (us ++ (.code g.1 bytes maxL ret :: xTB)) := by
      intro us hu
      refine xgoodIn X (fun u h => ?_)
      rcases List.mem_append.mp h with h | h
      · exact hu u h
      · rcases List.mem_cons.mp h with h | h
        · rw [h]; exact m2
        · exact h
    have hG : GoodIn Ts (.code g.1 bytes maxL ret :: xTB) := hwords [] (fun _ h => by cases h)
    intro H locs ls cells slots hP hS h1 h2 hl
    refine xW_size (fun hz => ?_)
    have hs0 := X.2.2.2.2.2.2.2.2.1
    have hlo := xlo hP (Nat.le_trans (xHB X (Nat.le_refl _)) hS.1) (by omega)
    have hsz : H.size = B + w.length := by omega
    have hPre : ∀ U : State, U.heap = H → s.WarmedH U.vm → XPc D ka B fo F ss nw av w (av.map (xv (xphi B fo))).toArray U := by
      intro U hU hW
      refine ⟨rfl, ?_, by rw [hU]; exact hP, by rw [hU]; exact hsz⟩
      rw [hU]
      exact XEv.to X.2.2.2.2.2.2.2.1 hW hS
    have hfix : CallFix p m c cc nL s args Ts own := ⟨X.1, X.2.1, X.2.2.1, X.2.2.2.1, X.2.2.2.2.1⟩
    have hRoom : (xrm d (w1.length - w.length) (xsl w1 - xsl w)).frames + 1 ≤ R.frames ∧ 8 + (maxL + 11) + (xrm d (w1.length - w.length) (xsl w1 - xsl w)).locals ≤ R.locals := by
      refine ⟨r1, ?_⟩
      show 8 + (maxL + 11) + 64 * d ≤ R.locals
      omega
    have hf : cells + (w1.length - w.length) ≤ R.cells ∧ slots + (xsl w1 - xsl w) ≤ R.slots := by
      have := hg.1
      constructor <;> omega
    have hst : ((av.reverse ++ r).map (xv (xphi B fo))) = (av.map (xv (xphi B fo))).reverse ++ r.map (xv (xphi B fo)) := by rw [List.map_append, List.map_reverse]
    have fin : va_Run p l e R s m args below meth c H locs cells slots (w1.length - w.length) (xsl w1 - xsl w) (F0 m pc ls ((av.reverse ++ r).map (xv (xphi B fo)))) (r.map (xv (xphi B fo))) (XQc D ka B fo F ss nw v w1 (av.map (xv (xphi B fo))).toArray) (fun q => B ≤ q) → len = 3 → W p l e R s m args below meth c H locs cells slots Qf (F0 m pc ls ((av.reverse ++ r).map (xv (xphi B fo)))) := by
      intro hrun hlen3
      subst hlen3
      refine x_call hrun hS (fun H1 locs1 g1 g3 => ?_)
      have := hg.2 _ H1 locs1 ls (cells + (w1.length - w.length)) (slots + (xsl w1 - xsl w)) hn g1 g3 (by omega) (by omega) hl
      rw [List.map_append] at this
      have ev : (v.toList).map (xv (xphi B fo)) = (v.map (xv (xphi B fo))).toList := by cases v <;> rfl
      rw [ev] at this
      exact this
    split at hk
    · rename_i kx
      simp only [Bool.and_eq_true, beq_iff_eq, decide_eq_true_eq] at hk
      obtain ⟨⟨⟨⟨⟨⟨rfl, k1⟩, k2⟩, k3⟩, k4⟩, k5⟩, k6⟩ := hk
      refine fin ?_ rfl
      split at k2
      · cases k2
      · rename_i cj hcj
        obtain ⟨a, tl, e1, e2⟩ := hrecv cj hcj
        subst e1
        have hcw : CallW R s args own g.1.cls kx g.1 bytes maxL ret (.code g.1 bytes maxL ret :: xTB) (xrm d (w1.length - w.length) (xsl w1 - xsl w)) (w1.length - w.length) (xsl w1 - xsl w) g.2 := by
          refine cwV g.2 X.2.2.2.2.1 ?_ rfl rfl rfl ⟨rfl, m4⟩ hRoom
          refine hwords _ (fun u hu => ?_)
          simp only [List.mem_cons, List.not_mem_nil, or_false] at hu
          rcases hu with rfl | rfl | rfl | rfl
          · exact xwj_in k3
          · exact xwj_in k4
          · exact xwj_in k5
          · exact xwj_in k6
        have hrc : ∃ cellB : Cell, H[xphi B fo a]? = some cellB ∧ cellB.vm.isStatics = false ∧ s.vm.findClass g.1.cls = some cellB.cls := by
          rcases e2 with ⟨fs, hw⟩ | ⟨hc, j, rfl, hj⟩
          · obtain ⟨q, hq⟩ := xP_cls hP hw
            have nc : ¬ cj = 100 := by
              intro e
              subst e
              cases (show (none : Option vw_C) = some q from hq)
            rw [if_neg nc, hq] at k2
            have k2 : decide (g.1.cls = q.1) = true := k2
            rw [of_decide_eq_true k2]
            exact va_recv (xK X) hP (xcl_at hq) (xws_at hw)
          · subst hc
            rw [if_pos rfl] at k2
            rw [of_decide_eq_true k2, xphi_fo (by show 1000000 ≤ 1000001 + j; omega)]
            exact vk_recv (i := j) X.2.2.2.2.2.2.2.1.2.2.1 hj hS
        refine va_runV (As := tl.map (xv (xphi B fo))) (b := xphi B fo a) hfix hMet hcw ⟨XPc_blind, hrc, hPre⟩ rfl ?_ hl.1 ?_ (lv_room (xcats hcat)) hd hf
        · rw [List.length_map]
          have := halen
          simp only [List.length_cons] at this
          omega
        · show (((.ref a :: tl).reverse ++ r).map (xv (xphi B fo))) = _
          rw [hst]
          simp [xv]
    · rename_i kx
      simp only [Bool.and_eq_true, beq_iff_eq, decide_eq_true_eq, Bool.or_eq_true] at hk
      obtain ⟨⟨⟨⟨⟨rfl, k1⟩, k2⟩, k3⟩, k4⟩, k5⟩ := hk
      refine fin ?_ rfl
      have hal : (av.map (xv (xphi B fo))).length = g.2 := by rw [List.length_map, halen]; omega
      rcases k5 with k5 | k5
      · have hcw := va_cwS (R := R) (s := s) (args := args) (own := own) (index := kx) (y := g.1) (bytes := bytes) (maxL := maxL) (ret := ret) (Ts := Ts) (ws := .code g.1 bytes maxL ret :: xTB) (rm := xrm d (w1.length - w.length) (xsl w1 - xsl w)) (mc := w1.length - w.length) (ms := xsl w1 - xsl w) g.2 X.2.2.2.2.1 (hwords _ (fun u hu => by
          simp only [List.mem_cons, List.not_mem_nil, or_false] at hu
          rcases hu with rfl | rfl | rfl
          · exact xwj_in k5
          · exact xwj_in k3
          · exact xwj_in k4)) rfl rfl rfl m4 hRoom
        exact va_runS (As := av.map (xv (xphi B fo))) hfix hMet hcw ⟨XPc_blind, hPre⟩ rfl hal hl.1 hst (lv_room (xcats hcat)) hd hf
      · obtain ⟨a9, i9, x9, h9, e9, n9⟩ := X.2.2.2.2.2.2.2.1.2.2.2.2.2.1 _ k5
        have hcw := va_cnB (R := R) (s := s) (args := args) (own := own) (host := "GreenButtons") (index := kx) (y := g.1) (bytes := bytes) (maxL := maxL) (ret := ret) (Ts := Ts) (ws := .code g.1 bytes maxL ret :: xTB) (rm := xrm d (w1.length - w.length) (xsl w1 - xsl w)) (mc := w1.length - w.length) (ms := xsl w1 - xsl w) g.2 X.2.2.2.2.1 hG rfl rfl rfl n9 (xword X (xwj_in k4)) m4 hRoom
        exact va_runSN (As := av.map (xv (xphi B fo))) hfix hMet ⟨hcw, xword X (xwj_in k3), trivial⟩ ⟨XPc_blind, hPre⟩ rfl hal hl.1 hst (lv_room (xcats hcat)) hd hf
    · rename_i kx
      simp only [Bool.and_eq_true, beq_iff_eq, decide_eq_true_eq, Bool.or_eq_true] at hk
      obtain ⟨⟨⟨⟨⟨⟨rfl, k1⟩, k2⟩, k6⟩, k3⟩, k4⟩, k5⟩ := hk
      refine fin ?_ rfl
      have hret := m3 k6
      subst hret
      obtain ⟨a, tl, e1, -⟩ := hrecv (cnt / 64 - 1) (by omega)
      subst e1
      have hal : (tl.map (xv (xphi B fo))).length = g.2 := by
        rw [List.length_map]
        have := halen
        simp only [List.length_cons] at this
        omega
      have hst2 : ((.ref a :: tl).reverse ++ r).map (xv (xphi B fo)) = (tl.map (xv (xphi B fo))).reverse ++ .ref (xphi B fo a) :: r.map (xv (xphi B fo)) := by
        rw [hst]
        simp [xv]
      rcases k5 with k5 | k5
      · have hcw := cwI (R := R) (s := s) (args := args) (own := own) (index := kx) (y := g.1) (bytes := bytes) (maxL := maxL) (Ts := Ts) (ws := .code g.1 bytes maxL none :: xTB) (rm := xrm d (w1.length - w.length) (xsl w1 - xsl w)) (mc := w1.length - w.length) (ms := xsl w1 - xsl w) g.2 X.2.2.2.2.1 hG rfl rfl rfl (xword X (xwj_in k4)) (xword X (xwj_in k5)) (xword X (xwj_in k3)) k6 m4 hRoom
        exact va_runI (As := tl.map (xv (xphi B fo))) (b := xphi B fo a) hfix hMet hcw ⟨XPc_blind, hPre⟩ rfl hal hl.1 hst2 (lv_room (xcats hcat)) hd hf
      · obtain ⟨a9, i9, x9, h9, e9, n9⟩ := X.2.2.2.2.2.2.2.1.2.2.2.2.2.1 _ k5
        have hcw := va_cnB (R := R) (s := s) (args := args) (own := own) (host := "GreenButtons") (index := kx) (y := g.1) (bytes := bytes) (maxL := maxL) (ret := none) (Ts := Ts) (ws := .code g.1 bytes maxL none :: xTB) (rm := xrm d (w1.length - w.length) (xsl w1 - xsl w)) (mc := w1.length - w.length) (ms := xsl w1 - xsl w) g.2 X.2.2.2.2.1 hG rfl rfl rfl n9 (xword X (xwj_in k4)) m4 hRoom
        exact va_runIN (As := tl.map (xv (xphi B fo))) (b := xphi B fo a) hfix hMet ⟨hcw, k6, xword X (xwj_in k3)⟩ ⟨XPc_blind, hPre⟩ rfl hal hl.1 hst2 (lv_room (xcats hcat)) hd hf
    · cases hk
/-- the law's own method, by its contract -/
def XCallR (l : Launch) (D : va_G) (ka : FieldType → ClassId) (B : Nat) (fo : Nat → Nat) (F : XF) (ss : XSt) (nw : List Jvm.Cond) (d : Nat) (C : XCt) : Prop :=
  ∀ (a : List Value) (w : XWd) (v : Option Value) (w1 : XWd), C 999 a w (fun x z => x = v ∧ z = w1) → w1.length ≤ 601024 →
    ∃ (bytes : ByteArray) (maxL : Nat) (ret : Option FieldType) (hh : List (Nat × Nat × Nat × Nat)), maxL ≤ 20 ∧ Jvm.Cond.codeWith xyR bytes maxL ret hh ∈ xTB ∧
      Met l xyR (.codeWith xyR bytes maxL ret hh :: xTB) (xrm d (w1.length - w.length) (xsl w1 - xsl w)) (XPc D ka B fo F ss nw a w) (XQc D ka B fo F ss nw v w1) (w1.length - w.length) (xsl w1 - xsl w) (fun q => B ≤ q)
theorem xs_rests (hCx : XCx C) (hM : XCallR l D ka B fo F ss nw d C) {n9 : Nat} (X : XCx0 p R s m args meth c own ini cc nL Ts D ka B fo F ss nw w0 wf d) (hbw : w.length ≤ 601024) (hd : decode cc pc = .ok (ci, len)) (hk : xck ss nw sg own ini pcs pc ci len js (.invokedynamic n9) = true) (hn : xnth pcs (i + 1) = some (pc + len)) (h : xi F rt (XGoal p l e R s m args below meth c Qf D ka B fo nL pcs w0 wf) C Q (some (.invokedynamic n9)) i loc st w) : XNow p l e R s m args below meth c Qf D ka B fo nL w0 pc loc st w := by
  simp only [xi] at h
  split at h
  · rename_i o p3 p2 p1 p0 x r
    obtain ⟨hcat, hC⟩ := h
    obtain ⟨v, w1, hg, l1, l2, hex⟩ := hCx _ _ _ _ hC
    obtain ⟨r1, r2, r3, r4, r5⟩ := X.2.2.2.2.2.2.2.2.2
    obtain ⟨bytes, maxL, ret, hh, m1, m2, hMet⟩ := hM _ w v w1 hex (Nat.le_trans hg.1.1 r5)
    intro H locs ls cells slots hP hS h1 h2 hl
    refine xW_size (fun hz => ?_)
    have hs0 := X.2.2.2.2.2.2.2.2.1
    have hlo := xlo hP (Nat.le_trans (xHB X (Nat.le_refl _)) hS.1) (by omega)
    have hsz : H.size = B + w.length := by omega
    have hPre : ∀ U : State, U.heap = H → s.WarmedH U.vm → XPc D ka B fo F ss nw [.ref x, .int p0, .int p1, .int p2, .int p3, .ref o] w (([.ref x, .int p0, .int p1, .int p2, .int p3, .ref o] : List Value).map (xv (xphi B fo))).toArray U := by
      intro U hU hW
      refine ⟨rfl, ?_, by rw [hU]; exact hP, by rw [hU]; exact hsz⟩
      rw [hU]
      exact XEv.to X.2.2.2.2.2.2.2.1 hW hS
    have hfix : CallFix p m c cc nL s args Ts own := ⟨X.1, X.2.1, X.2.2.1, X.2.2.2.1, X.2.2.2.2.1⟩
    have hRoom : (xrm d (w1.length - w.length) (xsl w1 - xsl w)).frames + 1 ≤ R.frames ∧ 8 + (maxL + 11) + (xrm d (w1.length - w.length) (xsl w1 - xsl w)).locals ≤ R.locals := by
      refine ⟨r1, ?_⟩
      show 8 + (maxL + 11) + 64 * d ≤ R.locals
      omega
    have hf : cells + (w1.length - w.length) ≤ R.cells ∧ slots + (xsl w1 - xsl w) ≤ R.slots := by
      have := hg.1
      constructor <;> omega
    simp only [xck] at hk
    split at hk
    · rename_i kx
      simp only [Bool.and_eq_true, beq_iff_eq] at hk
      obtain ⟨⟨⟨rfl, k1⟩, k2⟩, k3⟩ := hk
      have hwords : GoodIn Ts (va_wsS own kx xyR (.codeWith xyR bytes maxL ret hh :: xTB)) := by
        refine xgoodIn X (fun u hu => ?_)
        unfold va_wsS at hu
        rcases List.mem_append.mp hu with hu | hu
        · simp only [List.mem_cons, List.not_mem_nil, or_false] at hu
          rcases hu with rfl | rfl | rfl
          · exact xwj_in k1
          · exact xwj_in k2
          · exact xwj_in k3
        · rcases List.mem_cons.mp hu with hu | hu
          · rw [hu]; exact m2
          · exact hu
      have hcw := vx_cwSW (R := R) (s := s) (args := args) (own := own) (index := kx) (y := xyR) (bytes := bytes) (maxL := maxL) (ret := ret) (hh := hh) (Ts := Ts) (ws := .codeWith xyR bytes maxL ret hh :: xTB) (rm := xrm d (w1.length - w.length) (xsl w1 - xsl w)) (mc := w1.length - w.length) (ms := xsl w1 - xsl w) 6 X.2.2.2.2.1 hwords rfl rfl rfl (by decide +kernel) hRoom
      refine x_call (D := D) (ka := ka) (B := B) (fo := fo) (F := F) (ss := ss) (nw := nw) (v := v) (w := w1) (vx_runSW (As := ([.ref x, .int p0, .int p1, .int p2, .int p3, .ref o] : List Value).map (xv (xphi B fo))) (rest := r.map (xv (xphi B fo))) hfix hMet hcw ⟨XPc_blind, hPre⟩ rfl rfl hl.1 rfl (lv_room (xcats hcat)) hd hf) hS (fun H1 locs1 g1 g3 => ?_)
      have := hg.2 _ H1 locs1 ls (cells + (w1.length - w.length)) (slots + (xsl w1 - xsl w)) hn g1 g3 (by omega) (by omega) hl
      rw [List.map_append] at this
      have ev : (v.toList).map (xv (xphi B fo)) = (v.map (xv (xphi B fo))).toList := by cases v <;> rfl
      rw [ev] at this
      exact this
    · cases hk
  · exact h.elim
end XCL
