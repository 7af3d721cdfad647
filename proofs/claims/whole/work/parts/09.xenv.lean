def xkt (ka : FieldType → ClassId) : List (ClassId × FieldType) := [(ka .int, .int), (ka .long, .long), (ka .byte, .byte), (ka .boolean, .boolean), (ka (.object "GreenButtons$Crew"), .object "GreenButtons$Crew"), (ka (.object "GreenButtons$Log"), .object "GreenButtons$Log")]
/-- what stays so while the law runs: the classes, the script, the texts, statics -/
def XEv (D : va_G) (ka : FieldType → ClassId) (B : Nat) (fo : Nat → Nat) (F : XF) (ss : XSt) (nw : List Jvm.Cond) (U : State) (H : Heap) : Prop :=
  va_K D xcl (xkt ka) U ∧ (va_X (fo xSCR) F.1 F.2.1 U H ∧ ¬ B ≤ fo xSCR) ∧
  vk_S F.2.2.1.length (F.2.2.1.map List.length) F.2.2.1 (fun i => fo (xSTR + i)) (fun i => fo (xBYT + i)) (fun q => B ≤ q) U H ∧
  (∀ (i : Nat) (q : String × Nat × String), xnth ss i = some q → vk_R q.1 q.2.1 q.2.2 (fo (xSTR + i)) U) ∧
  (va_Z "java/lang/String" "COMPACT_STRINGS" "Z" (.int 1) (fun q => B ≤ q) U H ∧ va_Z "jdk/internal/util/Preconditions" "SIOOBE_FORMATTER" "Ljava/util/function/BiFunction;" (xv (xphi B fo) (xsio F)) (fun q => B ≤ q) U H) ∧
  (∀ w ∈ nw, ∃ (a : String) (i : Nat) (x : MethodName) (h : String), w = .methodLinkNest a i x h ∧ va_Nw w U) ∧
  va_AO "GreenButtons$Crew" U ∧ va_AO "GreenButtons$Log" U ∧
  vx_Zq Bundle.tN "UNASSIGNED_STACK" Bundle.steD (fun q => B ≤ q) U H ∧ vx_Zq Bundle.tN "SUPPRESSED_SENTINEL" Bundle.listD (fun q => B ≤ q) U H
theorem XEv.to {D : va_G} {ka : FieldType → ClassId} {B : Nat} {fo : Nat → Nat} {F : XF} {ss : XSt} {nw : List Jvm.Cond} {s U : State} {H : Heap} {locs : List Loc} (h : XEv D ka B fo F ss nw s s.heap) (hW : s.WarmedH U.vm) (hS : va_S (fun q => B ≤ q) s.heap H locs) : XEv D ka B fo F ss nw U H := by
  obtain ⟨h1, ⟨h2, h3⟩, h4, h5, h6, h7, h8, h9, h10, h11⟩ := h
  have hal := hW.alike
  have hk : ∀ a : Nat, a < s.heap.size → ¬ (fun q => B ≤ q) a → H[a]? = s.heap[a]? := hS.2.1
  refine ⟨h1.moved hal, ⟨?_, h3⟩, (h4.kept hk).moved hal, fun i q hq => vk_R.warm hW (h5 i q hq), ⟨(h6.1.kept hk).moved hal, (h6.2.kept hk).moved hal⟩, fun w hw => ?_, h8.moved hal, h9.moved hal, (h10.kept hk).moved hal, (h11.kept hk).moved hal⟩
  · refine (h2.kept ?_).moved hal
    obtain ⟨scr, g1, -⟩ := h2
    exact hS.2.1 _ (Array.getElem?_eq_some_iff.mp g1).1 h3
  · obtain ⟨a, i, x, hh, rfl, hn⟩ := h7 w hw
    exact ⟨a, i, x, hh, rfl, va_Nw.warmM hW hn⟩
/-- a method's start and end, over the small world -/
def XRel (D : va_G) (ka : FieldType → ClassId) (B : Nat) (fo : Nat → Nat) (F : XF) (ss : XSt) (nw : List Jvm.Cond) (w : XWd) (U : State) : Prop :=
  XEv D ka B fo F ss nw U U.heap ∧ va_P D xcl (xws (xphi B fo) ka w) U.heap ∧ U.heap.size = B + w.length
def XPc (D : va_G) (ka : FieldType → ClassId) (B : Nat) (fo : Nat → Nat) (F : XF) (ss : XSt) (nw : List Jvm.Cond) (av : List Value) (w : XWd) : Array Value → State → Prop := fun a U => a = (av.map (xv (xphi B fo))).toArray ∧ XRel D ka B fo F ss nw w U
def XQc (D : va_G) (ka : FieldType → ClassId) (B : Nat) (fo : Nat → Nat) (F : XF) (ss : XSt) (nw : List Jvm.Cond) (v : Option Value) (w : XWd) : Array Value → State → Outcome → State → Prop := fun _ st o t => o = .returned (v.map (xv (xphi B fo))) ∧ XRel D ka B fo F ss nw w t ∧ va_F (fun q => B ≤ q) st t
theorem XPc_blind {D : va_G} {ka : FieldType → ClassId} {B : Nat} {fo : Nat → Nat} {F : XF} {ss : XSt} {nw : List Jvm.Cond} {av : List Value} {w : XWd} : FrameBlind (XPc D ka B fo F ss nw av w) := by
  intro a U g mk h
  obtain ⟨h1, h2, h3, h4⟩ := h
  refine ⟨h1, ?_, h3, h4⟩
  exact XEv.to (s := U) (U := U.calling g mk a) (H := U.heap) (locs := []) h2 (State.WarmedH.refl U) va_S.rf
def xrm (d mc ms : Nat) : Room := { frames := d, cells := mc, slots := ms, locals := 64 * d }
/-- a point of a method: from every heap that holds the small world the machine comes to Qf -/
def XGoal (p : Program) (l : Launch) (e : Env) (R : Room) (s : State) (m : MethodId) (args : Array Value) (below : List Frame) (meth : Method) (c : Code) (Qf : State → Prop) (D : va_G) (ka : FieldType → ClassId) (B : Nat) (fo : Nat → Nat) (nL : Nat) (pcs : List Nat) (w0 wf : XWd) : XKt := fun i loc st w =>
  (w.length ≤ wf.length ∧ xsl w ≤ xsl wf) ∧ ∀ (pc : Nat) (H : Heap) (locs : List Loc) (ls : Array Slot) (cells slots : Nat), xnth pcs i = some pc → va_P D xcl (xws (xphi B fo) ka w) H → va_S (fun q => B ≤ q) s.heap H locs → cells + w0.length = w.length → slots + xsl w0 = xsl w → xlr (xphi B fo) nL loc ls →
    W p l e R s m args below meth c H locs cells slots Qf (F0 m pc ls (st.map (xv (xphi B fo))))
/-- what a method's body is walked in -/
def XCx0 (p : Program) (R : Room) (s : State) (m : MethodId) (args : Array Value) (meth : Method) (c : Code) (own : String) (ini : Bool) (cc : ByteArray) (nL : Nat) (Ts : List Jvm.Cond) (D : va_G) (ka : FieldType → ClassId) (B : Nat) (fo : Nat → Nat) (F : XF) (ss : XSt) (nw : List Jvm.Cond) (w0 wf : XWd) (d : Nat) : Prop :=
  p.tables.exec = Jvm.exec ∧ c.code = cc ∧ c.maxLocals = nL ∧ s.vm.findClass own = some m.cls ∧ (∀ w ∈ Ts, w.before args s = true) ∧ (∀ w ∈ xTB, w ∈ Ts) ∧ (ini = true → meth.name = "<init>") ∧ XEv D ka B fo F ss nw s s.heap ∧ s.heap.size = B + w0.length ∧
  (d + 1 ≤ R.frames ∧ 64 * d + 64 ≤ R.locals ∧ wf.length ≤ w0.length + R.cells ∧ xsl wf ≤ xsl w0 + R.slots ∧ wf.length ≤ 601024)
theorem xW_size {p : Program} {l : Launch} {e : Env} {R : Room} {s : State} {m : MethodId} {args : Array Value} {below : List Frame} {meth : Method} {c : Code} {H : Heap} {locs : List Loc} {cells slots : Nat} {Q : State → Prop} {g : JFrame} (k : H.size ≤ s.heap.size + cells → W p l e R s m args below meth c H locs cells slots Q g) : W p l e R s m args below meth c H locs cells slots Q g := by
  intro T hT X
  have h := X.heapSize
  rw [hT] at h
  exact k h T hT X
theorem xlo {D : va_G} {ka : FieldType → ClassId} {B : Nat} {fo : Nat → Nat} {w : XWd} {H : Heap} (hP : va_P D xcl (xws (xphi B fo) ka w) H) (hB : B ≤ H.size) (hw : w.length ≤ 1000000) : B + w.length ≤ H.size := by
  rcases Nat.eq_zero_or_pos w.length with h | h
  · omega
  · obtain ⟨e, he⟩ := xnth_some (l := w) (j := w.length - 1) (by omega)
    have := (hP _ _ (xws_at he)).lt
    simp only [xphi] at this
    rw [if_pos (by omega)] at this
    omega
/-- a call by contract: any answer -/
theorem x_call {p : Program} {l : Launch} {e : Env} {R : Room} {s : State} {m : MethodId} {args : Array Value} {below : List Frame} {meth : Method} {c : Code} {H : Heap} {locs : List Loc} {cells slots : Nat} {Q : State → Prop} {pc : Nat} {ls : Array Slot} {rest st0 : List Value} {a : Array Value} {mc ms : Nat} {D : va_G} {ka : FieldType → ClassId} {B : Nat} {fo : Nat → Nat} {F : XF} {ss : XSt} {nw : List Jvm.Cond} {v : Option Value} {w : XWd}
    (hr : va_Run p l e R s m args below meth c H locs cells slots mc ms (F0 m pc ls st0) rest (XQc D ka B fo F ss nw v w a) (fun q => B ≤ q)) (hS : va_S (fun q => B ≤ q) s.heap H locs)
    (kk : ∀ (H1 : Heap) (locs1 : List Loc), va_P D xcl (xws (xphi B fo) ka w) H1 → va_S (fun q => B ≤ q) s.heap H1 locs1 → W p l e R s m args below meth c H1 locs1 (cells + mc) (slots + ms) Q (F0 m (pc + 3) ls ((v.map (xv (xphi B fo))).toList ++ rest))) : W p l e R s m args below meth c H locs cells slots Q (F0 m pc ls st0) := by
  intro T hT X
  obtain ⟨v', st₀, t, T', L, h0, X', hL, e1, e2, ⟨hv, ⟨hE, hP, hz0⟩, hz, hk⟩, st⟩ := hr T hT X
  cases hv
  rw [h0] at hz hk
  obtain ⟨t2, a1, b1⟩ := kk T'.heap (locs ++ L) (by rw [e1]; exact hP)
    ⟨Nat.le_trans hS.1 (by rw [e1]; exact hz), fun q h1 h2 => by rw [e1, hk q (Nat.lt_of_lt_of_le h1 hS.1) h2]; exact hS.2.1 q h1 h2, fun q hq => by
      rcases List.mem_append.mp hq with h | h
      · exact hS.2.2 q h
      · exact hL q h⟩ T' rfl X'
  exact ⟨t2, st t2 a1, b1⟩
