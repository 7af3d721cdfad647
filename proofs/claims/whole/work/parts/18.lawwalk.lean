/-- the law's own method: what the class answers, or that it throws (a cell more) -/
def XRs (rv : Int32 → Int32 → Int32 → Int32 → Option Int32) (a : List Value) (w : XWd) (Q : XQt) : Prop := match a with
  | [.ref x, .int p0, .int p1, .int p2, .int p3, .ref o] => match xnth w x, xnth w o with
    | some (.inr (12, _)), some (.inl (.long, n, .inr (.inl f))) => 0 < n ∧ (match rv p0 p1 p2 p3 with
      | some k => Q (some (.int 0)) (xset w o (xlng n (vp_updL f 0 k.toInt64)))
      | none => Q (some (.int 1)) (w ++ [.inr (14, List.replicate 6 .null)]))
    | _, _ => False
  | _ => False
def CL (rv : Int32 → Int32 → Int32 → Int32 → Option Int32) (F : XF) (M : List XM) (d : Nat) : XCt := fun y a w Q => if y = 999 then XRs rv a w Q else XC F M d y a w Q
theorem XRs_of {rv : Int32 → Int32 → Int32 → Int32 → Option Int32} {a : List Value} {w : XWd} {Q : XQt} (h : XRs rv a w Q) : ∃ v w', Q v w' ∧ w.length ≤ w'.length ∧ xsl w ≤ xsl w' ∧ ∀ Q' : XQt, Q' v w' → XRs rv a w Q' := by
  unfold XRs at h
  split at h
  · split at h
    · rename_i fs n f hx ho
      obtain ⟨h0, h⟩ := h
      split at h
      · rename_i k hk
        refine ⟨_, _, h, by rw [xset_len]; exact Nat.le_refl _, Nat.le_of_eq (xset_sl w _ _ _ ho (by simp [xsz, xlng])).symm, fun Q' h' => ?_⟩
        simp only [XRs, hx, ho, hk]
        exact ⟨h0, h'⟩
      · rename_i hk
        refine ⟨_, _, h, by simp, by rw [xsl_app]; omega, fun Q' h' => ?_⟩
        simp only [XRs, hx, ho, hk]
        exact ⟨h0, h'⟩
    · exact h.elim
  · exact h.elim
theorem CL_mono (rv : Int32 → Int32 → Int32 → Int32 → Option Int32) (F : XF) (M : List XM) (d : Nat) : XCm (CL rv F M d) := by
  intro y a w Q Q' hq h
  unfold CL at h ⊢
  split at h
  · rename_i hy
    rw [if_pos hy]
    obtain ⟨v, w', h1, -, -, h2⟩ := XRs_of h
    exact h2 _ (hq _ _ h1)
  · rename_i hy
    rw [if_neg hy]
    exact XC_mono d y a w Q Q' hq h
theorem CL_exact (rv : Int32 → Int32 → Int32 → Int32 → Option Int32) (F : XF) (M : List XM) (d : Nat) : XCx (CL rv F M d) := by
  intro y a w Q h
  unfold CL at h ⊢
  by_cases hy : y = 999
  · rw [if_pos hy] at h
    obtain ⟨v, w', h1, l1, l2, h2⟩ := XRs_of h
    exact ⟨v, w', h1, l1, l2, by rw [if_pos hy]; exact h2 _ ⟨rfl, rfl⟩⟩
  · rw [if_neg hy] at h
    obtain ⟨v, w', h1, l1, l2, h2⟩ := XC_exact d y a w Q h
    exact ⟨v, w', h1, l1, l2, by rw [if_neg hy]; exact h2⟩
theorem CL_call {l : Launch} {D : va_G} {ka : FieldType → ClassId} {B : Nat} {fo : Nat → Nat} {F : XF} {ss : XSt} {nw : List Jvm.Cond} {sg : XSg} {M : List XM} {d : Nat} (rv : Int32 → Int32 → Int32 → Int32 → Option Int32) (h9 : xnth sg 999 = none) (h : XCall l D ka B fo F ss nw sg d (XC F M d)) : XCall l D ka B fo F ss nw sg d (CL rv F M d) := by
  intro y g a w v w1 hsg hC hbig
  unfold CL at hC
  split at hC
  · rename_i hy
    rw [hy, h9] at hsg
    cases hsg
  · exact h y g a w v w1 hsg hC hbig
/-- the law's end: 1, and its room -/
def lawQ : XQt := fun v w => v = some (.int 1) ∧ w.length ≤ 601024 ∧ xsl w ≤ 7293034
set_option maxHeartbeats 1000000 in
theorem law_start {p : Program} {e : Env} {s : State} {m : MethodId} {below : List Frame} {meth : Method} {c : Code} (l : Launch) (hl9 : l.stackTraces = false) {b L : Nat} {xs : Nat → Int32} (hL : L ≤ 3584) (C0 : lw_At p s m meth c b L xs) (rv : Int32 → Int32 → Int32 → Int32 → Option Int32)
    (hMR : ∀ (xs : Nat → Int32) (D : va_G) (ka : FieldType → ClassId) (B : Nat) (fo : Nat → Nat), XCallR l D ka B fo (L, xs, xbyts, xtys) xstrs xnests 100 (CL rv (L, xs, xbyts, xtys) xmeths 100))
    (hpure : ∀ xs : Nat → Int32, XWp (L, xs, xbyts, xtys) (some .boolean) xPL (CL rv (L, xs, xbyts, xtys) xmeths 100) lawQ 0 [some (.ref xSCR), none, none, none, none, none, none] [] []) :
    W p l e room_1 s m #[Value.ref b] below meth c s.heap [] 0 0 (lw_Z below #[Value.ref b] s) (entryFrame m ([Value.ref b] : List Value).toArray 7) := by
  obtain ⟨D, ka, fo, xs, hE, hfo⟩ := xenv C0
  have hpure := hpure xs
  have hMR := hMR xs
  obtain ⟨hx, hb, hr, hml, hown, hts, hX, hbl, hlocks, hgv⟩ := C0
  obtain ⟨v, wf, ⟨hv, hq1, hq2⟩, -, -, hex⟩ := XWp.exact (CL_mono rv _ _ _) (CL_exact rv _ _ _) hpure
  have X : XCx0 p room_1 s m #[Value.ref b] meth c "GreenButtonsLaw" false code 7 lw_tbl D ka s.heap.size fo (L, xs, xbyts, xtys) xstrs xnests [] wf 100 := by
    refine ⟨hx, hb, hml, hown, hts, fun u hu => (List.mem_filter.mp hu).1, (fun h => by cases h), hE, rfl, ?_⟩
    refine ⟨by decide, by decide, ?_, ?_, hq1⟩
    · show wf.length ≤ 0 + 601024
      omega
    · show xsl wf ≤ 0 + 7293034
      omega
  have key := hex (XGoal p l e room_1 s m #[Value.ref b] below meth c (lw_Z below #[Value.ref b] s) D ka s.heap.size fo 7 xpcL [] wf)
    (xstep X (xclF L xs) xprim (CL_exact rv _ _ _) (CL_call rv (by decide +kernel) (xcall_all xall x999 (xclF L xs) xprim 100)) (hMR D ka s.heap.size fo) xqL2 xqL1 (fun v9 w9 h => by rw [h.2]; exact ⟨Nat.le_refl _, Nat.le_refl _⟩) (fun i ins loc st w9 pc hins hbw hd h => ?_))
  · have h0 := key.2 0 s.heap [] _ 0 0 rfl (fun k q h => by simp [xwsF] at h) va_S.rf rfl rfl (xlr_entry (xphi s.heap.size fo) [.ref xSCR] (n := 7) (by decide))
    have e1 : ([.ref xSCR] : List Value).map (xv (xphi s.heap.size fo)) = [Value.ref b] := by
      show [Value.ref (xphi s.heap.size fo xSCR)] = [Value.ref b]
      rw [xphi_fo (r := xSCR) (Nat.le_refl 1000000), hfo]
    rw [lg_entry_eq]
    rw [e1] at h0
    exact h0
  · intro H locs ls cells slots gP gS g1 g2 gl
    rcases hins with rfl | rfl | rfl
    · simp only [xi] at h
      split at h
      · obtain ⟨e0, -⟩ := h
        cases e0
      · exact h.elim
    · simp only [xi] at h
      split at h
      · rename_i x
        obtain ⟨ty, e0, en, e1, e2⟩ := xrt_int h
        rw [hv] at e1
        cases e1
        subst e2
        refine va_forget (fun q hq => gS.2.2 q hq) ?_
        refine W.widen (k := 601024) (n := 7293034) ?_ ?_ ?_
        · have : ([] : XWd).length = 0 := rfl
          omega
        · have : xsl [] = 0 := rfl
          omega
        · exact lw_ret hx hb hr hlocks hd
      · exact h.elim
    · simp only [xi] at h
      split at h
      · obtain ⟨e0, -⟩ := xrt_lng h
        cases e0
      · exact h.elim
