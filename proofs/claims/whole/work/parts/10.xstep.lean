section XST
variable {p : Program} {l : Launch} {e : Env} {R : Room} {s : State} {m : MethodId} {args : Array Value} {below : List Frame} {meth : Method} {c : Code} {Qf : State → Prop} {own : String} {ini : Bool} {cc : ByteArray} {nL : Nat} {Ts : List Jvm.Cond} {D : va_G} {ka : FieldType → ClassId} {B : Nat} {fo : Nat → Nat} {F : XF} {ss : XSt} {nw : List Jvm.Cond} {sg : XSg} {w0 wf : XWd} {d : Nat} {rt : Option FieldType} {C : XCt} {Q : XQt} {pcs : List Nat} {pc len i : Nat} {ci : Instr} {js : List Nat} {loc : XL} {st : List Value} {w : XWd}
/-- the same, at a byte place -/
def XNow (p : Program) (l : Launch) (e : Env) (R : Room) (s : State) (m : MethodId) (args : Array Value) (below : List Frame) (meth : Method) (c : Code) (Qf : State → Prop) (D : va_G) (ka : FieldType → ClassId) (B : Nat) (fo : Nat → Nat) (nL : Nat) (w0 : XWd) (pc : Nat) (loc : XL) (st : List Value) (w : XWd) : Prop :=
  ∀ (H : Heap) (locs : List Loc) (ls : Array Slot) (cells slots : Nat), va_P D xcl (xws (xphi B fo) ka w) H → va_S (fun q => B ≤ q) s.heap H locs → cells + w0.length = w.length → slots + xsl w0 = xsl w → xlr (xphi B fo) nL loc ls →
    W p l e R s m args below meth c H locs cells slots Qf (F0 m pc ls (st.map (xv (xphi B fo))))
theorem xphi_fo {r : Nat} (h : 1000000 ≤ r) : xphi B fo r = fo r := if_neg (Nat.not_lt.mpr h)
theorem xphi_in {r : Nat} (h : r < 1000000) : xphi B fo r = B + r := if_pos h
theorem xword (X : XCx0 p R s m args meth c own ini cc nL Ts D ka B fo F ss nw w0 wf d) {u : Jvm.Cond} (h : u ∈ xTB) : u.before args s = true := X.2.2.2.2.1 u (X.2.2.2.2.2.1 u h)
theorem xs_iadd (X : XCx0 p R s m args meth c own ini cc nL Ts D ka B fo F ss nw w0 wf d) (hd : decode cc pc = .ok (ci, len)) (hk : xck ss nw sg own ini pcs pc ci len js (.iadd) = true) (hn : xnth pcs (i + 1) = some (pc + len)) (h : xi F rt (XGoal p l e R s m args below meth c Qf D ka B fo nL pcs w0 wf) C Q (some (.iadd)) i loc st w) : XNow p l e R s m args below meth c Qf D ka B fo nL w0 pc loc st w := by
  have h9 := x2_of h; clear h; obtain ⟨x, y, r, e0, h⟩ := h9; subst e0
  have hk : (decide (ci = Instr.iadd) && len == 1) = true := hk
  simp only [Bool.and_eq_true, decide_eq_true_eq, beq_iff_eq] at hk
  obtain ⟨rfl, rfl⟩ := hk
  intro H locs ls cells slots hP hS h1 h2 hl
  exact lv_iadd X.1 X.2.1 hd (h.2 _ H locs ls cells slots hn hP hS h1 h2 hl)
theorem xs_isub (X : XCx0 p R s m args meth c own ini cc nL Ts D ka B fo F ss nw w0 wf d) (hd : decode cc pc = .ok (ci, len)) (hk : xck ss nw sg own ini pcs pc ci len js (.isub) = true) (hn : xnth pcs (i + 1) = some (pc + len)) (h : xi F rt (XGoal p l e R s m args below meth c Qf D ka B fo nL pcs w0 wf) C Q (some (.isub)) i loc st w) : XNow p l e R s m args below meth c Qf D ka B fo nL w0 pc loc st w := by
  have h9 := x2_of h; clear h; obtain ⟨x, y, r, e0, h⟩ := h9; subst e0
  have hk : (decide (ci = Instr.isub) && len == 1) = true := hk
  simp only [Bool.and_eq_true, decide_eq_true_eq, beq_iff_eq] at hk
  obtain ⟨rfl, rfl⟩ := hk
  intro H locs ls cells slots hP hS h1 h2 hl
  exact lv_isub X.1 X.2.1 hd (h.2 _ H locs ls cells slots hn hP hS h1 h2 hl)
theorem xs_imul (X : XCx0 p R s m args meth c own ini cc nL Ts D ka B fo F ss nw w0 wf d) (hd : decode cc pc = .ok (ci, len)) (hk : xck ss nw sg own ini pcs pc ci len js (.imul) = true) (hn : xnth pcs (i + 1) = some (pc + len)) (h : xi F rt (XGoal p l e R s m args below meth c Qf D ka B fo nL pcs w0 wf) C Q (some (.imul)) i loc st w) : XNow p l e R s m args below meth c Qf D ka B fo nL w0 pc loc st w := by
  have h9 := x2_of h; clear h; obtain ⟨x, y, r, e0, h⟩ := h9; subst e0
  have hk : (decide (ci = Instr.imul) && len == 1) = true := hk
  simp only [Bool.and_eq_true, decide_eq_true_eq, beq_iff_eq] at hk
  obtain ⟨rfl, rfl⟩ := hk
  intro H locs ls cells slots hP hS h1 h2 hl
  exact lv_imul X.1 X.2.1 hd (h.2 _ H locs ls cells slots hn hP hS h1 h2 hl)
theorem xs_iand (X : XCx0 p R s m args meth c own ini cc nL Ts D ka B fo F ss nw w0 wf d) (hd : decode cc pc = .ok (ci, len)) (hk : xck ss nw sg own ini pcs pc ci len js (.iand) = true) (hn : xnth pcs (i + 1) = some (pc + len)) (h : xi F rt (XGoal p l e R s m args below meth c Qf D ka B fo nL pcs w0 wf) C Q (some (.iand)) i loc st w) : XNow p l e R s m args below meth c Qf D ka B fo nL w0 pc loc st w := by
  have h9 := x2_of h; clear h; obtain ⟨x, y, r, e0, h⟩ := h9; subst e0
  have hk : (decide (ci = Instr.iand) && len == 1) = true := hk
  simp only [Bool.and_eq_true, decide_eq_true_eq, beq_iff_eq] at hk
  obtain ⟨rfl, rfl⟩ := hk
  intro H locs ls cells slots hP hS h1 h2 hl
  exact lv_iand X.1 X.2.1 hd (h.2 _ H locs ls cells slots hn hP hS h1 h2 hl)
theorem xs_ior (X : XCx0 p R s m args meth c own ini cc nL Ts D ka B fo F ss nw w0 wf d) (hd : decode cc pc = .ok (ci, len)) (hk : xck ss nw sg own ini pcs pc ci len js (.ior) = true) (hn : xnth pcs (i + 1) = some (pc + len)) (h : xi F rt (XGoal p l e R s m args below meth c Qf D ka B fo nL pcs w0 wf) C Q (some (.ior)) i loc st w) : XNow p l e R s m args below meth c Qf D ka B fo nL w0 pc loc st w := by
  have h9 := x2_of h; clear h; obtain ⟨x, y, r, e0, h⟩ := h9; subst e0
  have hk : (decide (ci = Instr.ior) && len == 1) = true := hk
  simp only [Bool.and_eq_true, decide_eq_true_eq, beq_iff_eq] at hk
  obtain ⟨rfl, rfl⟩ := hk
  intro H locs ls cells slots hP hS h1 h2 hl
  exact lv_ior X.1 X.2.1 hd (h.2 _ H locs ls cells slots hn hP hS h1 h2 hl)
theorem xs_ixor (X : XCx0 p R s m args meth c own ini cc nL Ts D ka B fo F ss nw w0 wf d) (hd : decode cc pc = .ok (ci, len)) (hk : xck ss nw sg own ini pcs pc ci len js (.ixor) = true) (hn : xnth pcs (i + 1) = some (pc + len)) (h : xi F rt (XGoal p l e R s m args below meth c Qf D ka B fo nL pcs w0 wf) C Q (some (.ixor)) i loc st w) : XNow p l e R s m args below meth c Qf D ka B fo nL w0 pc loc st w := by
  have h9 := x2_of h; clear h; obtain ⟨x, y, r, e0, h⟩ := h9; subst e0
  have hk : (decide (ci = Instr.ixor) && len == 1) = true := hk
  simp only [Bool.and_eq_true, decide_eq_true_eq, beq_iff_eq] at hk
  obtain ⟨rfl, rfl⟩ := hk
  intro H locs ls cells slots hP hS h1 h2 hl
  exact lv_ixor X.1 X.2.1 hd (h.2 _ H locs ls cells slots hn hP hS h1 h2 hl)
theorem xs_ishl (X : XCx0 p R s m args meth c own ini cc nL Ts D ka B fo F ss nw w0 wf d) (hd : decode cc pc = .ok (ci, len)) (hk : xck ss nw sg own ini pcs pc ci len js (.ishl) = true) (hn : xnth pcs (i + 1) = some (pc + len)) (h : xi F rt (XGoal p l e R s m args below meth c Qf D ka B fo nL pcs w0 wf) C Q (some (.ishl)) i loc st w) : XNow p l e R s m args below meth c Qf D ka B fo nL w0 pc loc st w := by
  have h9 := x2_of h; clear h; obtain ⟨x, y, r, e0, h⟩ := h9; subst e0
  have hk : (decide (ci = Instr.ishl) && len == 1) = true := hk
  simp only [Bool.and_eq_true, decide_eq_true_eq, beq_iff_eq] at hk
  obtain ⟨rfl, rfl⟩ := hk
  intro H locs ls cells slots hP hS h1 h2 hl
  exact lv_ishl X.1 X.2.1 hd (h.2 _ H locs ls cells slots hn hP hS h1 h2 hl)
theorem xs_ishr (X : XCx0 p R s m args meth c own ini cc nL Ts D ka B fo F ss nw w0 wf d) (hd : decode cc pc = .ok (ci, len)) (hk : xck ss nw sg own ini pcs pc ci len js (.ishr) = true) (hn : xnth pcs (i + 1) = some (pc + len)) (h : xi F rt (XGoal p l e R s m args below meth c Qf D ka B fo nL pcs w0 wf) C Q (some (.ishr)) i loc st w) : XNow p l e R s m args below meth c Qf D ka B fo nL w0 pc loc st w := by
  have h9 := x2_of h; clear h; obtain ⟨x, y, r, e0, h⟩ := h9; subst e0
  have hk : (decide (ci = Instr.ishr) && len == 1) = true := hk
  simp only [Bool.and_eq_true, decide_eq_true_eq, beq_iff_eq] at hk
  obtain ⟨rfl, rfl⟩ := hk
  intro H locs ls cells slots hP hS h1 h2 hl
  exact lv_ishr X.1 X.2.1 hd (h.2 _ H locs ls cells slots hn hP hS h1 h2 hl)
theorem xs_iushr (X : XCx0 p R s m args meth c own ini cc nL Ts D ka B fo F ss nw w0 wf d) (hd : decode cc pc = .ok (ci, len)) (hk : xck ss nw sg own ini pcs pc ci len js (.iushr) = true) (hn : xnth pcs (i + 1) = some (pc + len)) (h : xi F rt (XGoal p l e R s m args below meth c Qf D ka B fo nL pcs w0 wf) C Q (some (.iushr)) i loc st w) : XNow p l e R s m args below meth c Qf D ka B fo nL w0 pc loc st w := by
  have h9 := x2_of h; clear h; obtain ⟨x, y, r, e0, h⟩ := h9; subst e0
  have hk : (decide (ci = Instr.iushr) && len == 1) = true := hk
  simp only [Bool.and_eq_true, decide_eq_true_eq, beq_iff_eq] at hk
  obtain ⟨rfl, rfl⟩ := hk
  intro H locs ls cells slots hP hS h1 h2 hl
  exact lv_iushr X.1 X.2.1 hd rfl (h.2 _ H locs ls cells slots hn hP hS h1 h2 hl)
theorem xs_idiv (X : XCx0 p R s m args meth c own ini cc nL Ts D ka B fo F ss nw w0 wf d) (hd : decode cc pc = .ok (ci, len)) (hk : xck ss nw sg own ini pcs pc ci len js (.idiv) = true) (hn : xnth pcs (i + 1) = some (pc + len)) (h : xi F rt (XGoal p l e R s m args below meth c Qf D ka B fo nL pcs w0 wf) C Q (some (.idiv)) i loc st w) : XNow p l e R s m args below meth c Qf D ka B fo nL w0 pc loc st w := by
  have h9 := x2_of h; clear h; obtain ⟨x, y, r, e0, h⟩ := h9; subst e0
  have hk : (decide (ci = Instr.idiv) && len == 1) = true := hk
  simp only [Bool.and_eq_true, decide_eq_true_eq, beq_iff_eq] at hk
  obtain ⟨rfl, rfl⟩ := hk
  intro H locs ls cells slots hP hS h1 h2 hl
  exact lv_idiv X.1 X.2.1 hd h.1 (h.2.2 _ H locs ls cells slots hn hP hS h1 h2 hl)
theorem xs_irem (X : XCx0 p R s m args meth c own ini cc nL Ts D ka B fo F ss nw w0 wf d) (hd : decode cc pc = .ok (ci, len)) (hk : xck ss nw sg own ini pcs pc ci len js (.irem) = true) (hn : xnth pcs (i + 1) = some (pc + len)) (h : xi F rt (XGoal p l e R s m args below meth c Qf D ka B fo nL pcs w0 wf) C Q (some (.irem)) i loc st w) : XNow p l e R s m args below meth c Qf D ka B fo nL w0 pc loc st w := by
  have h9 := x2_of h; clear h; obtain ⟨x, y, r, e0, h⟩ := h9; subst e0
  have hk : (decide (ci = Instr.irem) && len == 1) = true := hk
  simp only [Bool.and_eq_true, decide_eq_true_eq, beq_iff_eq] at hk
  obtain ⟨rfl, rfl⟩ := hk
  intro H locs ls cells slots hP hS h1 h2 hl
  exact lv_irem X.1 X.2.1 hd h.1 (h.2.2 _ H locs ls cells slots hn hP hS h1 h2 hl)
theorem xs_ineg (X : XCx0 p R s m args meth c own ini cc nL Ts D ka B fo F ss nw w0 wf d) (hd : decode cc pc = .ok (ci, len)) (hk : xck ss nw sg own ini pcs pc ci len js (.ineg) = true) (hn : xnth pcs (i + 1) = some (pc + len)) (h : xi F rt (XGoal p l e R s m args below meth c Qf D ka B fo nL pcs w0 wf) C Q (some (.ineg)) i loc st w) : XNow p l e R s m args below meth c Qf D ka B fo nL w0 pc loc st w := by
  have h9 := x1_of h; clear h; obtain ⟨x, r, e0, h⟩ := h9; subst e0
  have hk : (decide (ci = Instr.ineg) && len == 1) = true := hk
  simp only [Bool.and_eq_true, decide_eq_true_eq, beq_iff_eq] at hk
  obtain ⟨rfl, rfl⟩ := hk
  intro H locs ls cells slots hP hS h1 h2 hl
  exact lv_ineg X.1 X.2.1 hd (h.2 _ H locs ls cells slots hn hP hS h1 h2 hl)
theorem xs_i2l (X : XCx0 p R s m args meth c own ini cc nL Ts D ka B fo F ss nw w0 wf d) (hd : decode cc pc = .ok (ci, len)) (hk : xck ss nw sg own ini pcs pc ci len js (.i2l) = true) (hn : xnth pcs (i + 1) = some (pc + len)) (h : xi F rt (XGoal p l e R s m args below meth c Qf D ka B fo nL pcs w0 wf) C Q (some (.i2l)) i loc st w) : XNow p l e R s m args below meth c Qf D ka B fo nL w0 pc loc st w := by
  have h9 := x1_of h; clear h; obtain ⟨x, r, e0, h⟩ := h9; subst e0
  have hk : (decide (ci = Instr.i2l) && len == 1) = true := hk
  simp only [Bool.and_eq_true, decide_eq_true_eq, beq_iff_eq] at hk
  obtain ⟨rfl, rfl⟩ := hk
  intro H locs ls cells slots hP hS h1 h2 hl
  exact lv_i2l X.1 X.2.1 hd rfl (h.2 _ H locs ls cells slots hn hP hS h1 h2 hl)
theorem xs_i2b (X : XCx0 p R s m args meth c own ini cc nL Ts D ka B fo F ss nw w0 wf d) (hd : decode cc pc = .ok (ci, len)) (hk : xck ss nw sg own ini pcs pc ci len js (.i2b) = true) (hn : xnth pcs (i + 1) = some (pc + len)) (h : xi F rt (XGoal p l e R s m args below meth c Qf D ka B fo nL pcs w0 wf) C Q (some (.i2b)) i loc st w) : XNow p l e R s m args below meth c Qf D ka B fo nL w0 pc loc st w := by
  have h9 := x1_of h; clear h; obtain ⟨x, r, e0, h⟩ := h9; subst e0
  have hk : (decide (ci = Instr.i2b) && len == 1) = true := hk
  simp only [Bool.and_eq_true, decide_eq_true_eq, beq_iff_eq] at hk
  obtain ⟨rfl, rfl⟩ := hk
  intro H locs ls cells slots hP hS h1 h2 hl
  exact lv_i2b X.1 X.2.1 hd rfl (h.2 _ H locs ls cells slots hn hP hS h1 h2 hl)
theorem xs_i2c (X : XCx0 p R s m args meth c own ini cc nL Ts D ka B fo F ss nw w0 wf d) (hd : decode cc pc = .ok (ci, len)) (hk : xck ss nw sg own ini pcs pc ci len js (.i2c) = true) (hn : xnth pcs (i + 1) = some (pc + len)) (h : xi F rt (XGoal p l e R s m args below meth c Qf D ka B fo nL pcs w0 wf) C Q (some (.i2c)) i loc st w) : XNow p l e R s m args below meth c Qf D ka B fo nL w0 pc loc st w := by
  have h9 := x1_of h; clear h; obtain ⟨x, r, e0, h⟩ := h9; subst e0
  have hk : (decide (ci = Instr.i2c) && len == 1) = true := hk
  simp only [Bool.and_eq_true, decide_eq_true_eq, beq_iff_eq] at hk
  obtain ⟨rfl, rfl⟩ := hk
  intro H locs ls cells slots hP hS h1 h2 hl
  exact lv_i2c X.1 X.2.1 hd rfl (h.2 _ H locs ls cells slots hn hP hS h1 h2 hl)
theorem xs_l2i (X : XCx0 p R s m args meth c own ini cc nL Ts D ka B fo F ss nw w0 wf d) (hd : decode cc pc = .ok (ci, len)) (hk : xck ss nw sg own ini pcs pc ci len js (.l2i) = true) (hn : xnth pcs (i + 1) = some (pc + len)) (h : xi F rt (XGoal p l e R s m args below meth c Qf D ka B fo nL pcs w0 wf) C Q (some (.l2i)) i loc st w) : XNow p l e R s m args below meth c Qf D ka B fo nL w0 pc loc st w := by
  have h9 := x1l_of h; clear h; obtain ⟨x, r, e0, h⟩ := h9; subst e0
  have hk : (decide (ci = Instr.l2i) && len == 1) = true := hk
  simp only [Bool.and_eq_true, decide_eq_true_eq, beq_iff_eq] at hk
  obtain ⟨rfl, rfl⟩ := hk
  intro H locs ls cells slots hP hS h1 h2 hl
  exact lv_l2i X.1 X.2.1 hd rfl (h.2 _ H locs ls cells slots hn hP hS h1 h2 hl)
theorem xs_ladd (X : XCx0 p R s m args meth c own ini cc nL Ts D ka B fo F ss nw w0 wf d) (hd : decode cc pc = .ok (ci, len)) (hk : xck ss nw sg own ini pcs pc ci len js (.ladd) = true) (hn : xnth pcs (i + 1) = some (pc + len)) (h : xi F rt (XGoal p l e R s m args below meth c Qf D ka B fo nL pcs w0 wf) C Q (some (.ladd)) i loc st w) : XNow p l e R s m args below meth c Qf D ka B fo nL w0 pc loc st w := by
  have h9 := x2l_of h; clear h; obtain ⟨x, y, r, e0, h⟩ := h9; subst e0
  have hk : (decide (ci = Instr.ladd) && len == 1) = true := hk
  simp only [Bool.and_eq_true, decide_eq_true_eq, beq_iff_eq] at hk
  obtain ⟨rfl, rfl⟩ := hk
  intro H locs ls cells slots hP hS h1 h2 hl
  exact lv_ladd X.1 X.2.1 hd (h.2 _ H locs ls cells slots hn hP hS h1 h2 hl)
theorem xs_lsub (X : XCx0 p R s m args meth c own ini cc nL Ts D ka B fo F ss nw w0 wf d) (hd : decode cc pc = .ok (ci, len)) (hk : xck ss nw sg own ini pcs pc ci len js (.lsub) = true) (hn : xnth pcs (i + 1) = some (pc + len)) (h : xi F rt (XGoal p l e R s m args below meth c Qf D ka B fo nL pcs w0 wf) C Q (some (.lsub)) i loc st w) : XNow p l e R s m args below meth c Qf D ka B fo nL w0 pc loc st w := by
  have h9 := x2l_of h; clear h; obtain ⟨x, y, r, e0, h⟩ := h9; subst e0
  have hk : (decide (ci = Instr.lsub) && len == 1) = true := hk
  simp only [Bool.and_eq_true, decide_eq_true_eq, beq_iff_eq] at hk
  obtain ⟨rfl, rfl⟩ := hk
  intro H locs ls cells slots hP hS h1 h2 hl
  exact lv_lsub X.1 X.2.1 hd (h.2 _ H locs ls cells slots hn hP hS h1 h2 hl)
theorem xs_lmul (X : XCx0 p R s m args meth c own ini cc nL Ts D ka B fo F ss nw w0 wf d) (hd : decode cc pc = .ok (ci, len)) (hk : xck ss nw sg own ini pcs pc ci len js (.lmul) = true) (hn : xnth pcs (i + 1) = some (pc + len)) (h : xi F rt (XGoal p l e R s m args below meth c Qf D ka B fo nL pcs w0 wf) C Q (some (.lmul)) i loc st w) : XNow p l e R s m args below meth c Qf D ka B fo nL w0 pc loc st w := by
  have h9 := x2l_of h; clear h; obtain ⟨x, y, r, e0, h⟩ := h9; subst e0
  have hk : (decide (ci = Instr.lmul) && len == 1) = true := hk
  simp only [Bool.and_eq_true, decide_eq_true_eq, beq_iff_eq] at hk
  obtain ⟨rfl, rfl⟩ := hk
  intro H locs ls cells slots hP hS h1 h2 hl
  exact lv_lmul X.1 X.2.1 hd (h.2 _ H locs ls cells slots hn hP hS h1 h2 hl)
theorem xs_land (X : XCx0 p R s m args meth c own ini cc nL Ts D ka B fo F ss nw w0 wf d) (hd : decode cc pc = .ok (ci, len)) (hk : xck ss nw sg own ini pcs pc ci len js (.land) = true) (hn : xnth pcs (i + 1) = some (pc + len)) (h : xi F rt (XGoal p l e R s m args below meth c Qf D ka B fo nL pcs w0 wf) C Q (some (.land)) i loc st w) : XNow p l e R s m args below meth c Qf D ka B fo nL w0 pc loc st w := by
  have h9 := x2l_of h; clear h; obtain ⟨x, y, r, e0, h⟩ := h9; subst e0
  have hk : (decide (ci = Instr.land) && len == 1) = true := hk
  simp only [Bool.and_eq_true, decide_eq_true_eq, beq_iff_eq] at hk
  obtain ⟨rfl, rfl⟩ := hk
  intro H locs ls cells slots hP hS h1 h2 hl
  exact lv_land X.1 X.2.1 hd (h.2 _ H locs ls cells slots hn hP hS h1 h2 hl)
theorem xs_lor (X : XCx0 p R s m args meth c own ini cc nL Ts D ka B fo F ss nw w0 wf d) (hd : decode cc pc = .ok (ci, len)) (hk : xck ss nw sg own ini pcs pc ci len js (.lor) = true) (hn : xnth pcs (i + 1) = some (pc + len)) (h : xi F rt (XGoal p l e R s m args below meth c Qf D ka B fo nL pcs w0 wf) C Q (some (.lor)) i loc st w) : XNow p l e R s m args below meth c Qf D ka B fo nL w0 pc loc st w := by
  have h9 := x2l_of h; clear h; obtain ⟨x, y, r, e0, h⟩ := h9; subst e0
  have hk : (decide (ci = Instr.lor) && len == 1) = true := hk
  simp only [Bool.and_eq_true, decide_eq_true_eq, beq_iff_eq] at hk
  obtain ⟨rfl, rfl⟩ := hk
  intro H locs ls cells slots hP hS h1 h2 hl
  exact lv_lor X.1 X.2.1 hd (h.2 _ H locs ls cells slots hn hP hS h1 h2 hl)
theorem xs_ldiv (X : XCx0 p R s m args meth c own ini cc nL Ts D ka B fo F ss nw w0 wf d) (hd : decode cc pc = .ok (ci, len)) (hk : xck ss nw sg own ini pcs pc ci len js (.ldiv) = true) (hn : xnth pcs (i + 1) = some (pc + len)) (h : xi F rt (XGoal p l e R s m args below meth c Qf D ka B fo nL pcs w0 wf) C Q (some (.ldiv)) i loc st w) : XNow p l e R s m args below meth c Qf D ka B fo nL w0 pc loc st w := by
  have h9 := x2l_of h; clear h; obtain ⟨x, y, r, e0, h⟩ := h9; subst e0
  have hk : (decide (ci = Instr.ldiv) && len == 1) = true := hk
  simp only [Bool.and_eq_true, decide_eq_true_eq, beq_iff_eq] at hk
  obtain ⟨rfl, rfl⟩ := hk
  intro H locs ls cells slots hP hS h1 h2 hl
  exact lv_ldiv X.1 X.2.1 hd h.1 (h.2.2 _ H locs ls cells slots hn hP hS h1 h2 hl)
theorem xs_lrem (X : XCx0 p R s m args meth c own ini cc nL Ts D ka B fo F ss nw w0 wf d) (hd : decode cc pc = .ok (ci, len)) (hk : xck ss nw sg own ini pcs pc ci len js (.lrem) = true) (hn : xnth pcs (i + 1) = some (pc + len)) (h : xi F rt (XGoal p l e R s m args below meth c Qf D ka B fo nL pcs w0 wf) C Q (some (.lrem)) i loc st w) : XNow p l e R s m args below meth c Qf D ka B fo nL w0 pc loc st w := by
  have h9 := x2l_of h; clear h; obtain ⟨x, y, r, e0, h⟩ := h9; subst e0
  have hk : (decide (ci = Instr.lrem) && len == 1) = true := hk
  simp only [Bool.and_eq_true, decide_eq_true_eq, beq_iff_eq] at hk
  obtain ⟨rfl, rfl⟩ := hk
  intro H locs ls cells slots hP hS h1 h2 hl
  exact lv_lrem X.1 X.2.1 hd h.1 (h.2.2 _ H locs ls cells slots hn hP hS h1 h2 hl)
theorem xs_lcmp (X : XCx0 p R s m args meth c own ini cc nL Ts D ka B fo F ss nw w0 wf d) (hd : decode cc pc = .ok (ci, len)) (hk : xck ss nw sg own ini pcs pc ci len js (.lcmp) = true) (hn : xnth pcs (i + 1) = some (pc + len)) (h : xi F rt (XGoal p l e R s m args below meth c Qf D ka B fo nL pcs w0 wf) C Q (some (.lcmp)) i loc st w) : XNow p l e R s m args below meth c Qf D ka B fo nL w0 pc loc st w := by
  have h9 := x2l_of h; clear h; obtain ⟨x, y, r, e0, h⟩ := h9; subst e0
  have hk : (decide (ci = Instr.lcmp) && len == 1) = true := hk
  simp only [Bool.and_eq_true, decide_eq_true_eq, beq_iff_eq] at hk
  obtain ⟨rfl, rfl⟩ := hk
  intro H locs ls cells slots hP hS h1 h2 hl
  exact W.lcmp X.1 X.2.1 hd (h.2 _ H locs ls cells slots hn hP hS h1 h2 hl)
theorem xs_lshl (X : XCx0 p R s m args meth c own ini cc nL Ts D ka B fo F ss nw w0 wf d) (hd : decode cc pc = .ok (ci, len)) (hk : xck ss nw sg own ini pcs pc ci len js (.lshl) = true) (hn : xnth pcs (i + 1) = some (pc + len)) (h : xi F rt (XGoal p l e R s m args below meth c Qf D ka B fo nL pcs w0 wf) C Q (some (.lshl)) i loc st w) : XNow p l e R s m args below meth c Qf D ka B fo nL w0 pc loc st w := by
  have h9 := xli_of h; clear h; obtain ⟨x, y, r, e0, h⟩ := h9; subst e0
  have hk : (decide (ci = Instr.lshl) && len == 1) = true := hk
  simp only [Bool.and_eq_true, decide_eq_true_eq, beq_iff_eq] at hk
  obtain ⟨rfl, rfl⟩ := hk
  intro H locs ls cells slots hP hS h1 h2 hl
  exact lv_lshl X.1 X.2.1 hd rfl (h.2 _ H locs ls cells slots hn hP hS h1 h2 hl)
theorem xs_lshr (X : XCx0 p R s m args meth c own ini cc nL Ts D ka B fo F ss nw w0 wf d) (hd : decode cc pc = .ok (ci, len)) (hk : xck ss nw sg own ini pcs pc ci len js (.lshr) = true) (hn : xnth pcs (i + 1) = some (pc + len)) (h : xi F rt (XGoal p l e R s m args below meth c Qf D ka B fo nL pcs w0 wf) C Q (some (.lshr)) i loc st w) : XNow p l e R s m args below meth c Qf D ka B fo nL w0 pc loc st w := by
  have h9 := xli_of h; clear h; obtain ⟨x, y, r, e0, h⟩ := h9; subst e0
  have hk : (decide (ci = Instr.lshr) && len == 1) = true := hk
  simp only [Bool.and_eq_true, decide_eq_true_eq, beq_iff_eq] at hk
  obtain ⟨rfl, rfl⟩ := hk
  intro H locs ls cells slots hP hS h1 h2 hl
  exact lv_lshr X.1 X.2.1 hd rfl (h.2 _ H locs ls cells slots hn hP hS h1 h2 hl)
theorem xs_lushr (X : XCx0 p R s m args meth c own ini cc nL Ts D ka B fo F ss nw w0 wf d) (hd : decode cc pc = .ok (ci, len)) (hk : xck ss nw sg own ini pcs pc ci len js (.lushr) = true) (hn : xnth pcs (i + 1) = some (pc + len)) (h : xi F rt (XGoal p l e R s m args below meth c Qf D ka B fo nL pcs w0 wf) C Q (some (.lushr)) i loc st w) : XNow p l e R s m args below meth c Qf D ka B fo nL w0 pc loc st w := by
  have h9 := xli_of h; clear h; obtain ⟨x, y, r, e0, h⟩ := h9; subst e0
  have hk : (decide (ci = Instr.lushr) && len == 1) = true := hk
  simp only [Bool.and_eq_true, decide_eq_true_eq, beq_iff_eq] at hk
  obtain ⟨rfl, rfl⟩ := hk
  intro H locs ls cells slots hP hS h1 h2 hl
  exact lv_lushr X.1 X.2.1 hd rfl (h.2 _ H locs ls cells slots hn hP hS h1 h2 hl)
theorem xs_dup (X : XCx0 p R s m args meth c own ini cc nL Ts D ka B fo F ss nw w0 wf d) (hd : decode cc pc = .ok (ci, len)) (hk : xck ss nw sg own ini pcs pc ci len js (.dup) = true) (hn : xnth pcs (i + 1) = some (pc + len)) (h : xi F rt (XGoal p l e R s m args below meth c Qf D ka B fo nL pcs w0 wf) C Q (some (.dup)) i loc st w) : XNow p l e R s m args below meth c Qf D ka B fo nL w0 pc loc st w := by
  simp only [xi] at h
  have hk : (decide (ci = Instr.dup) && len == 1) = true := hk
  simp only [Bool.and_eq_true, decide_eq_true_eq, beq_iff_eq] at hk
  obtain ⟨rfl, rfl⟩ := hk
  split at h
  · intro H locs ls cells slots hP hS h1 h2 hl
    exact lv_dup X.1 X.2.1 hd rfl (h.2 _ H locs ls cells slots hn hP hS h1 h2 hl)
  · intro H locs ls cells slots hP hS h1 h2 hl
    exact lv_dup X.1 X.2.1 hd rfl (h.2 _ H locs ls cells slots hn hP hS h1 h2 hl)
  · exact h.elim
theorem xs_dup2 (X : XCx0 p R s m args meth c own ini cc nL Ts D ka B fo F ss nw w0 wf d) (hd : decode cc pc = .ok (ci, len)) (hk : xck ss nw sg own ini pcs pc ci len js (.dup2) = true) (hn : xnth pcs (i + 1) = some (pc + len)) (h : xi F rt (XGoal p l e R s m args below meth c Qf D ka B fo nL pcs w0 wf) C Q (some (.dup2)) i loc st w) : XNow p l e R s m args below meth c Qf D ka B fo nL w0 pc loc st w := by
  simp only [xi] at h
  have hk : (decide (ci = Instr.dup2) && len == 1) = true := hk
  simp only [Bool.and_eq_true, decide_eq_true_eq, beq_iff_eq] at hk
  obtain ⟨rfl, rfl⟩ := hk
  split at h
  · intro H locs ls cells slots hP hS h1 h2 hl
    exact lv_dup2_11 X.1 X.2.1 hd rfl rfl (h.2 _ H locs ls cells slots hn hP hS h1 h2 hl)
  · intro H locs ls cells slots hP hS h1 h2 hl
    exact lv_dup2_2 X.1 X.2.1 hd rfl (h.2 _ H locs ls cells slots hn hP hS h1 h2 hl)
  · exact h.elim
theorem xs_dup_x1 (X : XCx0 p R s m args meth c own ini cc nL Ts D ka B fo F ss nw w0 wf d) (hd : decode cc pc = .ok (ci, len)) (hk : xck ss nw sg own ini pcs pc ci len js (.dup_x1) = true) (hn : xnth pcs (i + 1) = some (pc + len)) (h : xi F rt (XGoal p l e R s m args below meth c Qf D ka B fo nL pcs w0 wf) C Q (some (.dup_x1)) i loc st w) : XNow p l e R s m args below meth c Qf D ka B fo nL w0 pc loc st w := by
  simp only [xi] at h
  have hk : (decide (ci = Instr.dup_x1) && len == 1) = true := hk
  simp only [Bool.and_eq_true, decide_eq_true_eq, beq_iff_eq] at hk
  obtain ⟨rfl, rfl⟩ := hk
  split at h
  · intro H locs ls cells slots hP hS h1 h2 hl
    exact lv_dup_x1 X.1 X.2.1 hd rfl rfl (h.2 _ H locs ls cells slots hn hP hS h1 h2 hl)
  · exact h.elim
theorem xs_iconst {n : Int} (X : XCx0 p R s m args meth c own ini cc nL Ts D ka B fo F ss nw w0 wf d) (hd : decode cc pc = .ok (ci, len)) (hk : xck ss nw sg own ini pcs pc ci len js (.iconst n) = true) (hn : xnth pcs (i + 1) = some (pc + len)) (h : xi F rt (XGoal p l e R s m args below meth c Qf D ka B fo nL pcs w0 wf) C Q (some (.iconst n)) i loc st w) : XNow p l e R s m args below meth c Qf D ka B fo nL w0 pc loc st w := by
  have h : XGoal p l e R s m args below meth c Qf D ka B fo nL pcs w0 wf (i + 1) loc (.int (Int32.ofInt n) :: st) w := h
  intro H locs ls cells slots hP hS h1 h2 hl
  have g := h.2 _ H locs ls cells slots hn hP hS h1 h2 hl
  simp only [xck] at hk
  split at hk
  · simp only [Bool.and_eq_true, decide_eq_true_eq, beq_iff_eq] at hk
    obtain ⟨rfl, hv⟩ := hk
    exact lv_iconst X.1 X.2.1 hd hv g
  · simp only [Bool.and_eq_true, decide_eq_true_eq, beq_iff_eq] at hk
    obtain ⟨rfl, hv⟩ := hk
    exact lv_bipush X.1 X.2.1 hd hv g
  · simp only [Bool.and_eq_true, decide_eq_true_eq, beq_iff_eq] at hk
    obtain ⟨rfl, hv⟩ := hk
    exact lv_sipush X.1 X.2.1 hd hv g
  · simp only [Bool.and_eq_true, beq_iff_eq] at hk
    obtain ⟨rfl, hv⟩ := hk
    exact lv_ldc X.1 X.2.1 X.2.2.2.1 (xword X (xwj_in hv)) hd g
  · simp only [Bool.and_eq_true, beq_iff_eq] at hk
    obtain ⟨rfl, hv⟩ := hk
    exact lv_ldcw X.1 X.2.1 X.2.2.2.1 (xword X (xwj_in hv)) hd g
  · cases hk
theorem xs_ldc2 {n : Nat} (X : XCx0 p R s m args meth c own ini cc nL Ts D ka B fo F ss nw w0 wf d) (hd : decode cc pc = .ok (ci, len)) (hk : xck ss nw sg own ini pcs pc ci len js (.ldc2_w n) = true) (hn : xnth pcs (i + 1) = some (pc + len)) (h : xi F rt (XGoal p l e R s m args below meth c Qf D ka B fo nL pcs w0 wf) C Q (some (.ldc2_w n)) i loc st w) : XNow p l e R s m args below meth c Qf D ka B fo nL w0 pc loc st w := by
  have h : XGoal p l e R s m args below meth c Qf D ka B fo nL pcs w0 wf (i + 1) loc (.long (Int64.ofNat n) :: st) w := h
  intro H locs ls cells slots hP hS h1 h2 hl
  have g := h.2 _ H locs ls cells slots hn hP hS h1 h2 hl
  simp only [xck] at hk
  split at hk
  · simp only [Bool.and_eq_true, decide_eq_true_eq, beq_iff_eq] at hk
    obtain ⟨rfl, hv⟩ := hk
    exact lv_lconst X.1 X.2.1 hd hv g
  · simp only [Bool.and_eq_true, beq_iff_eq] at hk
    obtain ⟨rfl, hv⟩ := hk
    exact lv_ldc2 X.1 X.2.1 X.2.2.2.1 (xword X (xwj_in hv)) hd g
  · cases hk
theorem xs_ldc {n : Nat} (X : XCx0 p R s m args meth c own ini cc nL Ts D ka B fo F ss nw w0 wf d) (hd : decode cc pc = .ok (ci, len)) (hk : xck ss nw sg own ini pcs pc ci len js (.ldc n) = true) (hn : xnth pcs (i + 1) = some (pc + len)) (h : xi F rt (XGoal p l e R s m args below meth c Qf D ka B fo nL pcs w0 wf) C Q (some (.ldc n)) i loc st w) : XNow p l e R s m args below meth c Qf D ka B fo nL w0 pc loc st w := by
  have h : XGoal p l e R s m args below meth c Qf D ka B fo nL pcs w0 wf (i + 1) loc (.ref (xSTR + n) :: st) w := h
  intro H locs ls cells slots hP hS h1 h2 hl
  have g := h.2 _ H locs ls cells slots hn hP hS h1 h2 hl
  simp only [xck] at hk
  split at hk
  · simp only [Bool.and_eq_true, beq_iff_eq] at hk
    obtain ⟨rfl, hv⟩ := hk
    split at hv
    · rename_i q hq
      simp only [Bool.and_eq_true, decide_eq_true_eq] at hv
      have hr := X.2.2.2.2.2.2.2.1.2.2.2.1 n q hq
      rw [hv.1, hv.2] at hr
      have e1 : xv (xphi B fo) (.ref (xSTR + n)) = .ref (fo (xSTR + n)) := congrArg Value.ref (xphi_fo (by show 1000000 ≤ 1000001 + n; omega))
      rw [List.map_cons, e1] at g
      exact va_ldcS X.1 X.2.1 X.2.2.2.1 hr hd g
    · cases hv
  · cases hk
theorem xs_iload {k : Nat} (X : XCx0 p R s m args meth c own ini cc nL Ts D ka B fo F ss nw w0 wf d) (hd : decode cc pc = .ok (ci, len)) (hk : xck ss nw sg own ini pcs pc ci len js (.iload k) = true) (hn : xnth pcs (i + 1) = some (pc + len)) (h : xi F rt (XGoal p l e R s m args below meth c Qf D ka B fo nL pcs w0 wf) C Q (some (.iload k)) i loc st w) : XNow p l e R s m args below meth c Qf D ka B fo nL w0 pc loc st w := by
  have h9 := xld_of h; clear h; obtain ⟨v, ev, h⟩ := h9
  cases v with
  | int x =>
    have h : XGoal p l e R s m args below meth c Qf D ka B fo nL pcs w0 wf (i + 1) loc (.int x :: st) w := h
    intro H locs ls cells slots hP hS h1 h2 hl
    have g := h.2 _ H locs ls cells slots hn hP hS h1 h2 hl
    have hv := hl.2.2.2 _ _ ev
    simp only [xck] at hk
    split at hk
    · simp only [Bool.and_eq_true, decide_eq_true_eq, beq_iff_eq] at hk
      obtain ⟨rfl, rfl⟩ := hk
      exact lv_iload_n X.1 X.2.1 hd rfl hv g
    · simp only [Bool.and_eq_true, decide_eq_true_eq, beq_iff_eq] at hk
      obtain ⟨rfl, rfl⟩ := hk
      exact lv_iload X.1 X.2.1 hd hv g
    · cases hk
  | _ => exact (show False from h).elim
theorem xs_lload {k : Nat} (X : XCx0 p R s m args meth c own ini cc nL Ts D ka B fo F ss nw w0 wf d) (hd : decode cc pc = .ok (ci, len)) (hk : xck ss nw sg own ini pcs pc ci len js (.lload k) = true) (hn : xnth pcs (i + 1) = some (pc + len)) (h : xi F rt (XGoal p l e R s m args below meth c Qf D ka B fo nL pcs w0 wf) C Q (some (.lload k)) i loc st w) : XNow p l e R s m args below meth c Qf D ka B fo nL w0 pc loc st w := by
  have h9 := xld_of h; clear h; obtain ⟨v, ev, h⟩ := h9
  cases v with
  | long x =>
    have h : XGoal p l e R s m args below meth c Qf D ka B fo nL pcs w0 wf (i + 1) loc (.long x :: st) w := h
    intro H locs ls cells slots hP hS h1 h2 hl
    have g := h.2 _ H locs ls cells slots hn hP hS h1 h2 hl
    have hv := hl.2.2.2 _ _ ev
    simp only [xck] at hk
    split at hk
    · simp only [Bool.and_eq_true, decide_eq_true_eq, beq_iff_eq] at hk
      obtain ⟨rfl, rfl⟩ := hk
      exact lv_lload_n X.1 X.2.1 hd rfl hv g
    · simp only [Bool.and_eq_true, decide_eq_true_eq, beq_iff_eq] at hk
      obtain ⟨rfl, rfl⟩ := hk
      exact lv_lload X.1 X.2.1 hd hv g
    · cases hk
  | _ => exact (show False from h).elim
theorem xs_aload {k : Nat} (X : XCx0 p R s m args meth c own ini cc nL Ts D ka B fo F ss nw w0 wf d) (hd : decode cc pc = .ok (ci, len)) (hk : xck ss nw sg own ini pcs pc ci len js (.aload k) = true) (hn : xnth pcs (i + 1) = some (pc + len)) (h : xi F rt (XGoal p l e R s m args below meth c Qf D ka B fo nL pcs w0 wf) C Q (some (.aload k)) i loc st w) : XNow p l e R s m args below meth c Qf D ka B fo nL w0 pc loc st w := by
  have h9 := xld_of h; clear h; obtain ⟨v, ev, h⟩ := h9
  cases v with
  | ref x =>
    have h : XGoal p l e R s m args below meth c Qf D ka B fo nL pcs w0 wf (i + 1) loc (.ref x :: st) w := h
    intro H locs ls cells slots hP hS h1 h2 hl
    have g := h.2 _ H locs ls cells slots hn hP hS h1 h2 hl
    have hv := hl.2.2.2 _ _ ev
    simp only [xck] at hk
    split at hk
    · simp only [Bool.and_eq_true, decide_eq_true_eq, beq_iff_eq] at hk
      obtain ⟨rfl, rfl⟩ := hk
      exact lv_aload_n X.1 X.2.1 hd rfl hv g
    · simp only [Bool.and_eq_true, decide_eq_true_eq, beq_iff_eq] at hk
      obtain ⟨rfl, rfl⟩ := hk
      exact lv_aload X.1 X.2.1 hd hv g
    · cases hk
  | _ => exact (show False from h).elim
theorem xs_istore {k : Nat} (X : XCx0 p R s m args meth c own ini cc nL Ts D ka B fo F ss nw w0 wf d) (hd : decode cc pc = .ok (ci, len)) (hk : xck ss nw sg own ini pcs pc ci len js (.istore k) = true) (hn : xnth pcs (i + 1) = some (pc + len)) (h : xi F rt (XGoal p l e R s m args below meth c Qf D ka B fo nL pcs w0 wf) C Q (some (.istore k)) i loc st w) : XNow p l e R s m args below meth c Qf D ka B fo nL w0 pc loc st w := by
  have h9 := x1_of h; clear h; obtain ⟨x, r, e0, h⟩ := h9; subst e0
  intro H locs ls cells slots hP hS h1 h2 hl
  have hkl : k < nL := by rw [← hl.2.2.1]; exact h.1
  simp only [xck] at hk
  split at hk
  · simp only [Bool.and_eq_true, decide_eq_true_eq, beq_iff_eq] at hk
    obtain ⟨rfl, rfl⟩ := hk
    exact lv_istore_n X.1 X.2.1 hd rfl (xlr_has hl) hkl rfl (fun ls' hl' => h.2.2 _ H locs ls' cells slots hn hP hS h1 h2 (xlr_store (v := .int x) hl h.1 hl'))
  · simp only [Bool.and_eq_true, decide_eq_true_eq, beq_iff_eq] at hk
    obtain ⟨rfl, rfl⟩ := hk
    exact lv_istore X.1 X.2.1 hd (xlr_has hl) hkl rfl (fun ls' hl' => h.2.2 _ H locs ls' cells slots hn hP hS h1 h2 (xlr_store (v := .int x) hl h.1 hl'))
  · cases hk
theorem xs_astore {k : Nat} (X : XCx0 p R s m args meth c own ini cc nL Ts D ka B fo F ss nw w0 wf d) (hd : decode cc pc = .ok (ci, len)) (hk : xck ss nw sg own ini pcs pc ci len js (.astore k) = true) (hn : xnth pcs (i + 1) = some (pc + len)) (h : xi F rt (XGoal p l e R s m args below meth c Qf D ka B fo nL pcs w0 wf) C Q (some (.astore k)) i loc st w) : XNow p l e R s m args below meth c Qf D ka B fo nL w0 pc loc st w := by
  have h9 := x1r_of h; clear h; obtain ⟨x, r, e0, h⟩ := h9; subst e0
  intro H locs ls cells slots hP hS h1 h2 hl
  have hkl : k < nL := by rw [← hl.2.2.1]; exact h.1
  simp only [xck] at hk
  split at hk
  · simp only [Bool.and_eq_true, decide_eq_true_eq, beq_iff_eq] at hk
    obtain ⟨rfl, rfl⟩ := hk
    exact lv_astore_n X.1 X.2.1 hd rfl (xlr_has hl) hkl rfl (fun ls' hl' => h.2.2 _ H locs ls' cells slots hn hP hS h1 h2 (xlr_store (v := .ref x) hl h.1 hl'))
  · simp only [Bool.and_eq_true, decide_eq_true_eq, beq_iff_eq] at hk
    obtain ⟨rfl, rfl⟩ := hk
    exact lv_astore X.1 X.2.1 hd (xlr_has hl) hkl rfl (fun ls' hl' => h.2.2 _ H locs ls' cells slots hn hP hS h1 h2 (xlr_store (v := .ref x) hl h.1 hl'))
  · cases hk
theorem xs_lstore {k : Nat} (X : XCx0 p R s m args meth c own ini cc nL Ts D ka B fo F ss nw w0 wf d) (hd : decode cc pc = .ok (ci, len)) (hk : xck ss nw sg own ini pcs pc ci len js (.lstore k) = true) (hn : xnth pcs (i + 1) = some (pc + len)) (h : xi F rt (XGoal p l e R s m args below meth c Qf D ka B fo nL pcs w0 wf) C Q (some (.lstore k)) i loc st w) : XNow p l e R s m args below meth c Qf D ka B fo nL w0 pc loc st w := by
  have h9 := x1l_of h; clear h; obtain ⟨x, r, e0, h⟩ := h9; subst e0
  intro H locs ls cells slots hP hS h1 h2 hl
  have hkl : k + 1 < nL := by rw [← hl.2.2.1]; exact h.1
  simp only [xck] at hk
  split at hk
  · simp only [Bool.and_eq_true, decide_eq_true_eq, beq_iff_eq] at hk
    obtain ⟨rfl, rfl⟩ := hk
    exact lv_lstore_n X.1 X.2.1 hd rfl (xlr_has hl) hkl rfl (fun ls' hl' => h.2.2 _ H locs ls' cells slots hn hP hS h1 h2 (xlr_store2 (v := .long x) hl h.1 hl'))
  · simp only [Bool.and_eq_true, decide_eq_true_eq, beq_iff_eq] at hk
    obtain ⟨rfl, rfl⟩ := hk
    exact lv_lstore X.1 X.2.1 hd (xlr_has hl) hkl rfl (fun ls' hl' => h.2.2 _ H locs ls' cells slots hn hP hS h1 h2 (xlr_store2 (v := .long x) hl h.1 hl'))
  · cases hk
theorem xs_iinc {k : Nat} {n : Int} (X : XCx0 p R s m args meth c own ini cc nL Ts D ka B fo F ss nw w0 wf d) (hd : decode cc pc = .ok (ci, len)) (hk : xck ss nw sg own ini pcs pc ci len js (.iinc k n) = true) (hn : xnth pcs (i + 1) = some (pc + len)) (h : xi F rt (XGoal p l e R s m args below meth c Qf D ka B fo nL pcs w0 wf) C Q (some (.iinc k n)) i loc st w) : XNow p l e R s m args below meth c Qf D ka B fo nL w0 pc loc st w := by
  have h9 := xld_of h; clear h; obtain ⟨v, ev, h⟩ := h9
  cases v with
  | int x =>
    have h : XGoal p l e R s m args below meth c Qf D ka B fo nL pcs w0 wf (i + 1) (xst loc k (.int (x + Int32.ofInt n))) st w := h
    intro H locs ls cells slots hP hS h1 h2 hl
    have hkl : k < nL := by rw [← hl.2.2.1]; exact xnth_lt ev
    simp only [xck] at hk
    split at hk
    · simp only [Bool.and_eq_true, decide_eq_true_eq, beq_iff_eq] at hk
      obtain ⟨⟨rfl, rfl⟩, rfl⟩ := hk
      obtain ⟨q, hq⟩ := List.getElem?_of_mem (xll_mem (xphi B fo) loc nL _ _ hkl ev)
      exact lv_iinc X.1 X.2.1 hd (xlr_has hl) hq rfl hkl rfl (fun ls' hl' => h.2 _ H locs ls' cells slots hn hP hS h1 h2 (xlr_store (v := .int _) hl (xnth_lt ev) hl'))
    · cases hk
  | _ => exact (show False from h).elim
theorem xtg_at {o t : Int} (h : xtg pcs pc o t = true) : ∃ q, xnth pcs t.toNat = some q ∧ (pc : Int) + o = (q : Int) := by
  unfold xtg at h
  split at h
  · exact ⟨_, by assumption, by simpa using h⟩
  · cases h
theorem xs_goto {t : Int} (X : XCx0 p R s m args meth c own ini cc nL Ts D ka B fo F ss nw w0 wf d) (hd : decode cc pc = .ok (ci, len)) (hk : xck ss nw sg own ini pcs pc ci len js (.goto t) = true) (hn : xnth pcs (i + 1) = some (pc + len)) (h : xi F rt (XGoal p l e R s m args below meth c Qf D ka B fo nL pcs w0 wf) C Q (some (.goto t)) i loc st w) : XNow p l e R s m args below meth c Qf D ka B fo nL w0 pc loc st w := by
  have h : XGoal p l e R s m args below meth c Qf D ka B fo nL pcs w0 wf t.toNat loc st w := h
  intro H locs ls cells slots hP hS h1 h2 hl
  simp only [xck] at hk
  split at hk
  · simp only [Bool.and_eq_true, beq_iff_eq] at hk
    obtain ⟨rfl, ht⟩ := hk
    obtain ⟨q, hq, he⟩ := xtg_at ht
    exact lv_goto X.1 X.2.1 hd he (h.2 _ H locs ls cells slots hq hP hS h1 h2 hl)
  · cases hk
theorem xs_ifCond {cn : ClassFile.Cond} {t : Int} (X : XCx0 p R s m args meth c own ini cc nL Ts D ka B fo F ss nw w0 wf d) (hd : decode cc pc = .ok (ci, len)) (hk : xck ss nw sg own ini pcs pc ci len js (.ifCond cn t) = true) (hn : xnth pcs (i + 1) = some (pc + len)) (h : xi F rt (XGoal p l e R s m args below meth c Qf D ka B fo nL pcs w0 wf) C Q (some (.ifCond cn t)) i loc st w) : XNow p l e R s m args below meth c Qf D ka B fo nL w0 pc loc st w := by
  have h9 := x1_of h; clear h; obtain ⟨x, r, e0, h⟩ := h9; subst e0
  intro H locs ls cells slots hP hS h1 h2 hl
  simp only [xck] at hk
  split at hk
  · simp only [Bool.and_eq_true, decide_eq_true_eq, beq_iff_eq] at hk
    obtain ⟨⟨rfl, rfl⟩, ht⟩ := hk
    obtain ⟨q, hq, he⟩ := xtg_at ht
    rename_i cn _
    cases cn with
    | eq => exact lv_if_eq X.1 X.2.1 hd he (fun hc => (h.1 hc).2 _ H locs ls cells slots hq hP hS h1 h2 hl) (fun hc => (h.2 hc).2 _ H locs ls cells slots hn hP hS h1 h2 hl)
    | ne => exact lv_if_ne X.1 X.2.1 hd he (fun hc => (h.1 hc).2 _ H locs ls cells slots hq hP hS h1 h2 hl) (fun hc => (h.2 (fun q => q hc)).2 _ H locs ls cells slots hn hP hS h1 h2 hl)
    | lt => exact lv_if_lt X.1 X.2.1 hd he (fun hc => (h.1 hc).2 _ H locs ls cells slots hq hP hS h1 h2 hl) (fun hc => (h.2 hc).2 _ H locs ls cells slots hn hP hS h1 h2 hl)
    | ge => exact lv_if_ge X.1 X.2.1 hd he (fun hc => (h.1 hc).2 _ H locs ls cells slots hq hP hS h1 h2 hl) (fun hc => (h.2 hc).2 _ H locs ls cells slots hn hP hS h1 h2 hl)
    | gt => exact lv_if_gt X.1 X.2.1 hd he (fun hc => (h.1 hc).2 _ H locs ls cells slots hq hP hS h1 h2 hl) (fun hc => (h.2 hc).2 _ H locs ls cells slots hn hP hS h1 h2 hl)
    | le => exact lv_if_le X.1 X.2.1 hd he (fun hc => (h.1 hc).2 _ H locs ls cells slots hq hP hS h1 h2 hl) (fun hc => (h.2 hc).2 _ H locs ls cells slots hn hP hS h1 h2 hl)
  · cases hk
theorem xs_if_icmp {cn : ClassFile.Cond} {t : Int} (X : XCx0 p R s m args meth c own ini cc nL Ts D ka B fo F ss nw w0 wf d) (hd : decode cc pc = .ok (ci, len)) (hk : xck ss nw sg own ini pcs pc ci len js (.if_icmp cn t) = true) (hn : xnth pcs (i + 1) = some (pc + len)) (h : xi F rt (XGoal p l e R s m args below meth c Qf D ka B fo nL pcs w0 wf) C Q (some (.if_icmp cn t)) i loc st w) : XNow p l e R s m args below meth c Qf D ka B fo nL w0 pc loc st w := by
  have h9 := x2_of h; clear h; obtain ⟨x, y, r, e0, h⟩ := h9; subst e0
  intro H locs ls cells slots hP hS h1 h2 hl
  simp only [xck] at hk
  split at hk
  · simp only [Bool.and_eq_true, decide_eq_true_eq, beq_iff_eq] at hk
    obtain ⟨⟨rfl, rfl⟩, ht⟩ := hk
    obtain ⟨q, hq, he⟩ := xtg_at ht
    rename_i cn _
    cases cn with
    | eq => exact lv_icmp_eq X.1 X.2.1 hd he (fun hc => (h.1 hc).2 _ H locs ls cells slots hq hP hS h1 h2 hl) (fun hc => (h.2 hc).2 _ H locs ls cells slots hn hP hS h1 h2 hl)
    | ne => exact lv_icmp_ne X.1 X.2.1 hd he (fun hc => (h.1 hc).2 _ H locs ls cells slots hq hP hS h1 h2 hl) (fun hc => (h.2 (fun q => q hc)).2 _ H locs ls cells slots hn hP hS h1 h2 hl)
    | lt => exact lv_icmp_lt X.1 X.2.1 hd he (fun hc => (h.1 hc).2 _ H locs ls cells slots hq hP hS h1 h2 hl) (fun hc => (h.2 hc).2 _ H locs ls cells slots hn hP hS h1 h2 hl)
    | ge => exact lv_icmp_ge X.1 X.2.1 hd he (fun hc => (h.1 hc).2 _ H locs ls cells slots hq hP hS h1 h2 hl) (fun hc => (h.2 hc).2 _ H locs ls cells slots hn hP hS h1 h2 hl)
    | gt => exact lv_icmp_gt X.1 X.2.1 hd he (fun hc => (h.1 hc).2 _ H locs ls cells slots hq hP hS h1 h2 hl) (fun hc => (h.2 hc).2 _ H locs ls cells slots hn hP hS h1 h2 hl)
    | le => exact lv_icmp_le X.1 X.2.1 hd he (fun hc => (h.1 hc).2 _ H locs ls cells slots hq hP hS h1 h2 hl) (fun hc => (h.2 hc).2 _ H locs ls cells slots hn hP hS h1 h2 hl)
  · cases hk
end XST
