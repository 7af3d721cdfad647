section XSD
variable {p : Program} {l : Launch} {e : Env} {R : Room} {s : State} {m : MethodId} {args : Array Value} {below : List Frame} {meth : Method} {c : Code} {Qf : State → Prop} {own : String} {ini : Bool} {cc : ByteArray} {nL : Nat} {Ts : List Jvm.Cond} {D : va_G} {ka : FieldType → ClassId} {B : Nat} {fo : Nat → Nat} {F : XF} {ss : XSt} {nw : List Jvm.Cond} {sg : XSg} {w0 wf : XWd} {d : Nat} {rt : Option FieldType} {C : XCt} {Q : XQt} {pcs : List Nat} {pc len i : Nat} {ci : Instr} {js : List Nat} {loc : XL} {st : List Value} {w : XWd}
set_option maxHeartbeats 2000000 in
/-- every point of a body that the small machine walks, the machine walks -/
theorem xstep (X : XCx0 p R s m args meth c own ini cc nL Ts D ka B fo F ss nw w0 wf d) (hF : XClF F) (hob : XPrim) (hCx : XCx C) (hM : XCall l D ka B fo F ss nw sg d C) (hMR : XCallR l D ka B fo F ss nw d C) {rows : List XRow} {P : List Instr} (hR : xckR ss nw sg own ini pcs rows P 0 = true) (hD : xdec cc rows = true) (hQ : ∀ v w, Q v w → w.length ≤ wf.length ∧ xsl w ≤ xsl wf)
    (hend : ∀ (i : Nat) (ins : Instr) (loc : XL) (st : List Value) (w : XWd) (pc : Nat), (ins = .return_ ∨ ins = .ireturn ∨ ins = .lreturn) → w.length ≤ 601024 → decode cc pc = .ok (ins, 1) → xi F rt (XGoal p l e R s m args below meth c Qf D ka B fo nL pcs w0 wf) C Q (some ins) i loc st w → XNow p l e R s m args below meth c Qf D ka B fo nL w0 pc loc st w) :
    ∀ (i : Nat) (loc : XL) (st : List Value) (w : XWd), xi F rt (XGoal p l e R s m args below meth c Qf D ka B fo nL pcs w0 wf) C Q (xnth P i) i loc st w → XGoal p l e R s m args below meth c Qf D ka B fo nL pcs w0 wf i loc st w := by
  intro i loc st w h
  have hb : w.length ≤ wf.length ∧ xsl w ≤ xsl wf := by
    rcases xi_cases h with ⟨j, l9, s9, w1, ⟨g1, -⟩, l1, l2, -⟩ | ⟨v, h1, -⟩ | ⟨y, a, l9, s9, h1, -⟩
    · exact ⟨Nat.le_trans l1 g1.1, Nat.le_trans l2 g1.2⟩
    · exact hQ _ _ h1
    · obtain ⟨v, w1, ⟨g1, -⟩, l1, l2, -⟩ := hCx _ _ _ _ h1
      exact ⟨Nat.le_trans l1 g1.1, Nat.le_trans l2 g1.2⟩
  have hbw : w.length ≤ 601024 := Nat.le_trans hb.1 X.2.2.2.2.2.2.2.2.2.2.2.2.2
  refine ⟨hb, fun pc => ?_⟩
  have gen : ∀ pc, xnth pcs i = some pc → XNow p l e R s m args below meth c Qf D ka B fo nL w0 pc loc st w := by
    intro pc hpc
    cases hx : xnth P i with
    | none => rw [hx] at h; exact (show False from h).elim
    | some ai =>
      rw [hx] at h
      obtain ⟨r, r1, r2, r3, r4⟩ := xckR_at hR hx
      rw [Nat.zero_add] at r2 r3
      have e0 : r.1 = pc := Option.some.inj (r2.symm.trans hpc)
      have hd := xdec_at hD r1
      obtain ⟨rp, ri, rl, rj⟩ := r
      have e0 : rp = pc := e0
      subst e0
      cases ai with
      | iadd => exact xs_iadd X hd r4 r3 h
      | isub => exact xs_isub X hd r4 r3 h
      | imul => exact xs_imul X hd r4 r3 h
      | iand => exact xs_iand X hd r4 r3 h
      | ior => exact xs_ior X hd r4 r3 h
      | ixor => exact xs_ixor X hd r4 r3 h
      | ishl => exact xs_ishl X hd r4 r3 h
      | ishr => exact xs_ishr X hd r4 r3 h
      | iushr => exact xs_iushr X hd r4 r3 h
      | idiv => exact xs_idiv X hd r4 r3 h
      | irem => exact xs_irem X hd r4 r3 h
      | ineg => exact xs_ineg X hd r4 r3 h
      | i2l => exact xs_i2l X hd r4 r3 h
      | i2b => exact xs_i2b X hd r4 r3 h
      | i2c => exact xs_i2c X hd r4 r3 h
      | l2i => exact xs_l2i X hd r4 r3 h
      | ladd => exact xs_ladd X hd r4 r3 h
      | lsub => exact xs_lsub X hd r4 r3 h
      | lmul => exact xs_lmul X hd r4 r3 h
      | land => exact xs_land X hd r4 r3 h
      | lor => exact xs_lor X hd r4 r3 h
      | ldiv => exact xs_ldiv X hd r4 r3 h
      | lrem => exact xs_lrem X hd r4 r3 h
      | lcmp => exact xs_lcmp X hd r4 r3 h
      | lshl => exact xs_lshl X hd r4 r3 h
      | lshr => exact xs_lshr X hd r4 r3 h
      | lushr => exact xs_lushr X hd r4 r3 h
      | dup => exact xs_dup X hd r4 r3 h
      | dup2 => exact xs_dup2 X hd r4 r3 h
      | dup_x1 => exact xs_dup_x1 X hd r4 r3 h
      | iconst n => exact xs_iconst X hd r4 r3 h
      | goto t => exact xs_goto X hd r4 r3 h
      | iload k => exact xs_iload X hd r4 r3 h
      | lload k => exact xs_lload X hd r4 r3 h
      | aload k => exact xs_aload X hd r4 r3 h
      | istore k => exact xs_istore X hd r4 r3 h
      | astore k => exact xs_astore X hd r4 r3 h
      | lstore k => exact xs_lstore X hd r4 r3 h
      | ldc2_w n => exact xs_ldc2 X hd r4 r3 h
      | ldc n => exact xs_ldc X hd r4 r3 h
      | iinc k n => exact xs_iinc X hd r4 r3 h
      | ifCond a t => exact xs_ifCond X hd r4 r3 h
      | if_icmp a t => exact xs_if_icmp X hd r4 r3 h
      | tableswitch a b c9 t => exact xs_tableswitch X hbw hd r4 r3 h
      | getfield k => exact xs_getfield hF X hbw hd r4 r3 h
      | putfield k => exact xs_putfield hF X hbw hd r4 r3 h
      | getstatic k => exact xs_getstatic X hbw hd r4 r3 h
      | new k => exact xs_new hF X hbw hd r4 r3 h
      | newarray k => exact xs_newarray X hbw hd r4 r3 h
      | anewarray k => exact xs_anewarray X hbw hd r4 r3 h
      | arraylength => exact xs_arraylength X hbw hd r4 r3 h
      | iaload => exact xs_iaload X hbw hd r4 r3 h
      | laload => exact xs_laload X hbw hd r4 r3 h
      | baload => exact xs_baload X hbw hd r4 r3 h
      | aaload => exact xs_aaload X hbw hd r4 r3 h
      | iastore => exact xs_iastore X hbw hd r4 r3 h
      | lastore => exact xs_lastore X hbw hd r4 r3 h
      | bastore => exact xs_bastore X hbw hd r4 r3 h
      | aastore => exact xs_aastore X hbw hd r4 r3 h
      | pop => exact xs_pop hob.1 X hbw hd r4 r3 h
      | fadd => exact xs_fadd hob.2.1 X hbw hd r4 r3 h
      | fsub => exact xs_fsub hob.2.2.1 X hbw hd r4 r3 h
      | fneg => exact xs_fneg hob.2.2.2 X hbw hd r4 r3 h
      | invokedynamic n => exact xs_rests hCx hMR X hbw hd r4 r3 h
      | pop2 => exact xs_pop2 X hbw hd r4 r3 h
      | monitorenter => exact xs_copy X hbw hd r4 r3 h
      | invokeinterface y k => exact xs_call hCx hM hF X hbw hd r4 r3 h
      | return_ =>
        have r4 : (decide (ri = Instr.return_) && rl == 1) = true := r4
        simp only [Bool.and_eq_true, decide_eq_true_eq, beq_iff_eq] at r4
        obtain ⟨rfl, rfl⟩ := r4
        exact hend i _ loc st w _ (by simp) hbw hd h
      | ireturn =>
        have r4 : (decide (ri = Instr.ireturn) && rl == 1) = true := r4
        simp only [Bool.and_eq_true, decide_eq_true_eq, beq_iff_eq] at r4
        obtain ⟨rfl, rfl⟩ := r4
        exact hend i _ loc st w _ (by simp) hbw hd h
      | lreturn =>
        have r4 : (decide (ri = Instr.lreturn) && rl == 1) = true := r4
        simp only [Bool.and_eq_true, decide_eq_true_eq, beq_iff_eq] at r4
        obtain ⟨rfl, rfl⟩ := r4
        exact hend i _ loc st w _ (by simp) hbw hd h
      | _ => exact (show False from h).elim
  intro H locs ls cells slots hpc hP hS h1 h2 hl
  exact gen pc hpc H locs ls cells slots hP hS h1 h2 hl
end XSD
theorem xrt_int {rt : Option FieldType} {x : Int32} {k : Prop} (h : xrt rt (.int x) k) : ∃ ty, rt = some ty ∧ narrow ty (.int x) = .int x ∧ k := by
  unfold xrt at h
  split at h
  · exact ⟨.int, rfl, rfl, h⟩
  · rename_i e1
    cases e1
  · rename_i e1 e2
    cases e2
    exact ⟨_, rfl, h.1, h.2⟩
  · exact h.elim
theorem xrt_lng {rt : Option FieldType} {x : Int64} {k : Prop} (h : xrt rt (.long x) k) : rt = some .long ∧ k := by
  unfold xrt at h
  split at h
  · rename_i e1
    cases e1
  · exact ⟨rfl, h⟩
  · rename_i e1 e2
    cases e2
  · exact h.elim
/-- the methods, their rows beside their programs -/
def XAll (ss : XSt) (nw : List Jvm.Cond) (sg : XSg) (info : List XI) (M : List XM) : Prop := ∀ (y : Nat) (g : MethodName × Nat), xnth sg y = some g → ∃ (q : XI) (mm : XM), xnth info y = some q ∧ xnth M y = some mm ∧ q.1 = g ∧ XOk ss nw sg q mm ∧ Jvm.Cond.code g.1 q.2.1 mm.1 mm.2.1 ∈ xTB ∧ (g.1.name = "<init>" → mm.2.1 = none)
set_option maxHeartbeats 2000000 in
theorem xcall_succ {l : Launch} {D : va_G} {ka : FieldType → ClassId} {B : Nat} {fo : Nat → Nat} {F : XF} {ss : XSt} {nw : List Jvm.Cond} {sg : XSg} {info : List XI} {M : List XM} (hA : XAll ss nw sg info M) (h999 : xnth M 999 = none) (hF : XClF F) (hob : XPrim) {d : Nat} (ih : XCall l D ka B fo F ss nw sg d (XC F M d)) : XCall l D ka B fo F ss nw sg (d + 1) (XC F M (d + 1)) := by
  have xno999 : ∀ {a9 : List Value} {w9 : XWd} {Q9 : XQt}, XC F M d 999 a9 w9 Q9 → False := by
    intro a9 w9 Q9 h9
    cases d with
    | zero => exact h9
    | succ d => simp only [XC, h999] at h9
  intro y g a w v w1 hsg hC hbig
  obtain ⟨q, mm, hq, hmm, hqg, ⟨k1, k2, k3, k4, k5⟩, hcode, hini⟩ := hA y g hsg
  subst hqg
  obtain ⟨n, rt, P⟩ := mm
  simp only [XC, hmm] at hC
  obtain ⟨hlen, hC⟩ := hC
  refine ⟨q.2.1, n, rt, k2, hcode, hini, k1.2, ?_⟩
  refine Met.ofW (cc := q.2.1) (maxL := n) (ret := rt) k1.1 rfl ?_
  intro p e s m args below meth c s₁ Bd hml hv
  obtain ⟨rfl, hE, hP, hz⟩ := hv
  have hts := atoms_spec (ws := .code q.1.1 q.2.1 n rt :: xTB) Bd.pre
  have hlocks := Bd.notSynchronized
  have hr := Bd.returns
  have X : XCx0 p (headSpec (.code q.1.1 q.2.1 n rt :: xTB) (xrm (d + 1) (w1.length - w.length) (xsl w1 - xsl w))).room s m (a.map (xv (xphi B fo))).toArray meth c q.1.1.cls (decide (q.1.1.name = "<init>")) q.2.1 n (.code q.1.1 q.2.1 n rt :: xTB) D ka B fo F ss nw w w1 d := by
    refine ⟨Bd.exec, Bd.bytes, hml, findClass_of_methodNamed Bd.named, hts, fun u hu => List.mem_cons_of_mem _ hu, fun hi => ?_, hE, hz, ?_⟩
    · rw [(name_of_methodNamed Bd.named Bd.method).1]
      exact of_decide_eq_true hi
    · refine ⟨Nat.le_refl (d + 1), ?_, ?_, ?_, hbig⟩
      · show 64 * d + 64 ≤ 64 * (d + 1)
        omega
      · show w1.length ≤ w.length + (w1.length - w.length)
        omega
      · show xsl w1 ≤ xsl w + (xsl w1 - xsl w)
        omega
  have key := hC (XGoal p l e (headSpec (.code q.1.1 q.2.1 n rt :: xTB) (xrm (d + 1) (w1.length - w.length) (xsl w1 - xsl w))).room s m (a.map (xv (xphi B fo))).toArray below meth c (MQ below (XQc D ka B fo F ss nw v w1) (a.map (xv (xphi B fo))).toArray s (w1.length - w.length) (xsl w1 - xsl w) (fun q => B ≤ q)) D ka B fo n (xpcs q.2.2 0) w w1)
    (xstep X hF hob (XC_exact d) ih (fun a9 w9 v9 w8 h9 _ => (xno999 h9).elim) k5 k4 (fun v9 w9 h => by rw [h.2]; exact ⟨Nat.le_refl _, Nat.le_refl _⟩) (fun i ins loc st w9 pc hins hbw hd h => ?_))
  · have := key.2 0 s.heap [] _ 0 0 k3 hP va_S.rf (by omega) (by omega) (xlr_entry (xphi B fo) a hlen)
    rw [lg_entry_eq]
    exact this
  · intro H locs ls cells slots gP gS g1 g2 gl
    refine xW_size (fun hsz => ?_)
    have post : ∀ (v9 : Option Value), v9 = v → w9 = w1 → ∀ t : State, t.heap = H → s.WarmedH t.vm → XQc D ka B fo F ss nw v w1 (a.map (xv (xphi B fo))).toArray s (.returned (v9.map (xv (xphi B fo)))) t := by
      intro v9 e1 e2 t ht hW
      subst e1; subst e2
      have hlo := xlo gP (Nat.le_trans (xHB X (Nat.le_refl _)) gS.1) (by omega)
      refine ⟨rfl, ⟨?_, by rw [ht]; exact gP, by rw [ht]; omega⟩, gS.F ht⟩
      rw [ht]
      exact XEv.to hE hW gS
    rcases hins with rfl | rfl | rfl
    · simp only [xi] at h
      split at h
      · obtain ⟨e0, e1, e2⟩ := h
        have ec : cells = w1.length - w.length := by rw [← e2]; omega
        have es : slots = xsl w1 - xsl w := by rw [← e2]; omega
        subst ec; subst es
        exact W.vret X.1 X.2.1 (hr.trans e0) (fun t ht hW => post none e1 e2 t ht hW) gS.2.2 hd
      · exact h.elim
    · simp only [xi] at h
      split at h
      · rename_i x
        obtain ⟨ty, e0, en, e1, e2⟩ := xrt_int h
        have ec : cells = w1.length - w.length := by rw [← e2]; omega
        have es : slots = xsl w1 - xsl w := by rw [← e2]; omega
        subst ec; subst es
        exact W.zret X.1 X.2.1 (hr.trans e0) en (fun t ht hW => post (some (.int x)) e1 e2 t ht hW) gS.2.2 hd
      · exact h.elim
    · simp only [xi] at h
      split at h
      · rename_i x
        obtain ⟨e0, e1, e2⟩ := xrt_lng h
        have ec : cells = w1.length - w.length := by rw [← e2]; omega
        have es : slots = xsl w1 - xsl w := by rw [← e2]; omega
        subst ec; subst es
        exact W.lret X.1 X.2.1 (hr.trans e0) (fun t ht hW => post (some (.long x)) e1 e2 t ht hW) gS.2.2 hd
      · exact h.elim
theorem xcall_all {l : Launch} {D : va_G} {ka : FieldType → ClassId} {B : Nat} {fo : Nat → Nat} {F : XF} {ss : XSt} {nw : List Jvm.Cond} {sg : XSg} {info : List XI} {M : List XM} (hA : XAll ss nw sg info M) (h999 : xnth M 999 = none) (hF : XClF F) (hob : XPrim) : ∀ d, XCall l D ka B fo F ss nw sg d (XC F M d)
  | 0 => fun y g a w v w1 _ h _ => (show False from h).elim
  | d + 1 => xcall_succ hA h999 hF hob (xcall_all hA h999 hF hob d)

