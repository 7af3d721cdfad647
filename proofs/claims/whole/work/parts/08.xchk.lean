/-! the small program beside the bytecode: instruction by instruction, with the tables' words that it needs (js: their places in lw_tbl) -/
/-- what is thrown, without its fields -/
def xEN : String := "java/util/NoSuchElementException"
def xET : u_T := fun _ => ("", "", "", false)
/-- the law's own method with a table -/
def xyR : MethodName := ⟨"GreenButtonsLaw", "rests", "(LGreenButtons;IIII[J)I"⟩
def xcl : List vw_C := [(RX0, TX0, 6), (RX1, TX1, 4), (RX2, TX2, 4), (RX3, TX3, 5), (RX4, TX4, 4), (RX5, TX5, 5), (RX6, TX6, 15), (RX7, TX7, 4), (RX8, TX8, 10), (RX9, TX9, 4), (RX10, TX10, 9), (RX11, TX11, 2), (RX12, TX12, 13), (RX13, TX13, 62), (xEN, xET, 0)]
def xTB : List Cond := lw_tbl.filter goodWord
def xwj (w : Jvm.Cond) (js : List Nat) (k : Nat) : Bool := match xnth js k with
  | some j => decide (lw_tbl[j]? = some w) && goodWord w
  | none => false
theorem xwj_in {w : Jvm.Cond} {js : List Nat} {k : Nat} (h : xwj w js k = true) : w ∈ xTB := by
  unfold xwj at h
  split at h
  · simp only [Bool.and_eq_true, decide_eq_true_eq] at h
    exact List.mem_filter.mpr ⟨List.mem_of_getElem? h.1, h.2⟩
  · cases h
def xtg (pcs : List Nat) (pc : Nat) (off t : Int) : Bool := match xnth pcs t.toNat with
  | some q => decide ((pc : Int) + off = (q : Int))
  | none => false
def xtgs (pcs : List Nat) (pc : Nat) : List Int → List Int → Bool
  | [], [] => true
  | o :: os, t :: ts => xtg pcs pc o t && xtgs pcs pc os ts
  | _, _ => false
/-- the texts: class, pool number, text -/
abbrev XSt : Type := List (String × Nat × String)
abbrev XSg : Type := List (MethodName × Nat)
def xck (ss : XSt) (nw : List Jvm.Cond) (sg : XSg) (own : String) (ini : Bool) (pcs : List Nat) (pc : Nat) (ci : Instr) (len : Nat) (js : List Nat) (ai : Instr) : Bool := match ai with
  | .nop => true
  | .iconst m => match ci with
    | .iconst n => len == 1 && decide (Int32.ofInt n = Int32.ofInt m)
    | .bipush n => len == 2 && decide ((Int8.ofInt n).toInt32 = Int32.ofInt m)
    | .sipush n => len == 3 && decide ((Int16.ofInt n).toInt32 = Int32.ofInt m)
    | .ldc k => len == 2 && xwj (.constant own k (Int32.ofInt m)) js 0
    | .ldc_w k => len == 3 && xwj (.constant own k (Int32.ofInt m)) js 0
    | _ => false
  | .ldc2_w m => match ci with
    | .lconst n => len == 1 && decide (Int64.ofNat n.val = Int64.ofNat m)
    | .ldc2_w k => len == 3 && xwj (.constantLong own k (Int64.ofNat m)) js 0
    | _ => false
  | .ldc i => match ci with
    | .ldc k => len == 2 && (match xnth ss i with
      | some q => decide (q.1 = own) && decide (q.2.1 = k)
      | none => false)
    | _ => false
  | .iload k => match ci with
    | .iload_n n => len == 1 && decide (n.val = k)
    | .iload n => len == 2 && decide (n = k)
    | _ => false
  | .lload k => match ci with
    | .lload_n n => len == 1 && decide (n.val = k)
    | .lload n => len == 2 && decide (n = k)
    | _ => false
  | .aload k => match ci with
    | .aload_n n => len == 1 && decide (n.val = k)
    | .aload n => len == 2 && decide (n = k)
    | _ => false
  | .istore k => match ci with
    | .istore_n n => len == 1 && decide (n.val = k)
    | .istore n => len == 2 && decide (n = k)
    | _ => false
  | .lstore k => match ci with
    | .lstore_n n => len == 1 && decide (n.val = k)
    | .lstore n => len == 2 && decide (n = k)
    | _ => false
  | .astore k => match ci with
    | .astore_n n => len == 1 && decide (n.val = k)
    | .astore n => len == 2 && decide (n = k)
    | _ => false
  | .iinc k n => match ci with
    | .iinc k' n' => len == 3 && decide (k' = k) && decide (n' = n)
    | _ => false
  | .goto t => match ci with
    | .goto o => len == 3 && xtg pcs pc o t
    | _ => false
  | .ifCond c t => match ci with
    | .ifCond c' o => len == 3 && decide (c' = c) && xtg pcs pc o t
    | _ => false
  | .if_icmp c t => match ci with
    | .if_icmp c' o => len == 3 && decide (c' = c) && xtg pcs pc o t
    | _ => false
  | .tableswitch d lo hi ts => match ci with
    | .tableswitch d' lo' hi' os => decide (lo' = lo) && decide (hi' = hi) && decide (hi = lo + (ts.size : Int) - 1) && decide (-1000 < lo) && decide (hi < 1000) && xtg pcs pc d' d && xtgs pcs pc os.toList ts.toList
    | _ => false
  | .getfield ck => match ci with
    | .getfield k => len == 3 && (if ck = 6400 then xwj (.fieldLink own k "java/lang/String" "value" "[B") js 0 else if ck = 6401 then xwj (.fieldLink own k "java/lang/String" "coder" "B") js 0 else match xnth xcl (ck / 64) with
      | some q => decide (ck % 64 < q.2.2) && xwj (.fieldLink own k (q.2.1 (ck % 64)).1 (q.2.1 (ck % 64)).2.1 (q.2.1 (ck % 64)).2.2.1) js 0
      | none => false)
    | _ => false
  | .putfield ck => match ci with
    | .putfield k => len == 3 && (match xnth xcl (ck / 64) with
      | some q => decide (ck % 64 < q.2.2) && xwj (.fieldLink own k (q.2.1 (ck % 64)).1 (q.2.1 (ck % 64)).2.1 (q.2.1 (ck % 64)).2.2.1) js 0 && (decide ((q.2.1 (ck % 64)).2.2.2 = false) || (ini && decide ((q.2.1 (ck % 64)).1 = own)))
      | none => false)
    | _ => false
  | .getstatic q => match ci with
    | .getstatic k => len == 3 && (match q with
      | 0 => xwj (.fieldLink own k "java/lang/String" "COMPACT_STRINGS" "Z") js 0
      | _ + 1 => xwj (.fieldLink own k "jdk/internal/util/Preconditions" "SIOOBE_FORMATTER" "Ljava/util/function/BiFunction;") js 0)
    | _ => false
  | .new c => match ci with
    | .new k => len == 3 && (match xnth xcl c with
      | some q => xwj (.classLink own k q.1) js 0 && xwj (.instantiable q.1 q.2.2) js 1 && xwj (.initialized q.1) js 2
      | none => false)
    | _ => false
  | .newarray t => match ci with
    | .newarray t' => len == 2 && decide (t' = t) && xwj (.arrayClass (newarray.typeOf t)) js 0
    | _ => false
  | .anewarray c => match ci with
    | .anewarray k => len == 3 && (match c with
      | 0 => xwj (.classLink own k "GreenButtons$Crew") js 0
      | 4 => xwj (.classLink own k "GreenButtons$Log") js 0
      | _ => false)
    | _ => false
  | .pop => match ci with
    | .invokespecial k => len == 3 && xwj (.methodLink own k objectInit) js 0 && xwj (.instanceMethod objectInit) js 1
    | _ => false
  | .pop2 => match ci with
    | .pop => len == 1
    | _ => false
  | .monitorenter => match ci with
    | .invokestatic k => len == 3 && xwj (.methodLink own k arraycopyName) js 0 && xwj (.native arraycopyName) js 1 && xwj (.static arraycopyName) js 2 && xwj (.initialized "java/lang/System") js 3
    | _ => false
  | .invokedynamic _ => match ci with
    | .invokestatic k => len == 3 && xwj (.methodLink own k xyR) js 0 && xwj (.static xyR) js 1 && xwj (.initialized xyR.cls) js 2
    | _ => false
  | .fadd => match ci with
    | .invokestatic k => len == 3 && xwj (.methodLink own k Lib.Math.max.name) js 0 && xwj (.static Lib.Math.max.name) js 1 && xwj (.initialized "java/lang/Math") js 2
    | _ => false
  | .fsub => match ci with
    | .invokestatic k => len == 3 && xwj (.methodLink own k Lib.Math.min.name) js 0 && xwj (.static Lib.Math.min.name) js 1 && xwj (.initialized "java/lang/Math") js 2
    | _ => false
  | .fneg => match ci with
    | .invokestatic k => len == 3 && xwj (.methodLink own k Lib.Math.abs.name) js 0 && xwj (.static Lib.Math.abs.name) js 1 && xwj (.initialized "java/lang/Math") js 2
    | _ => false
  | .invokeinterface y cnt => match xnth sg y with
    | none => false
    | some g => match ci with
      | .invokevirtual k => len == 3 && decide (cnt % 64 = g.2 + 1) && (match cnt / 64 with
          | 0 => false
          | c + 1 => if c = 100 then decide (g.1.cls = "java/lang/String") else (match xnth xcl c with
            | some q => decide (g.1.cls = q.1)
            | none => false)) && xwj (.methodLink own k g.1) js 0 && xwj (.instanceMethod g.1) js 1 && xwj (.selects g.1.cls g.1 g.1) js 2 && xwj (.initialized g.1.cls) js 3
      | .invokestatic k => len == 3 && decide (cnt = g.2) && decide (cnt < 64) && xwj (.static g.1) js 1 && xwj (.initialized g.1.cls) js 2 && (xwj (.methodLink own k g.1) js 0 || decide (Jvm.Cond.methodLinkNest own k g.1 "GreenButtons" ∈ nw))
      | .invokespecial k => len == 3 && decide (cnt % 64 = g.2 + 1) && decide (0 < cnt / 64) && decide (g.1.name = "<init>") && xwj (.instanceMethod g.1) js 1 && xwj (.initialized g.1.cls) js 2 && (xwj (.methodLink own k g.1) js 0 || decide (Jvm.Cond.methodLinkNest own k g.1 "GreenButtons" ∈ nw))
      | _ => false
  | ai => decide (ci = ai) && len == 1
/-- the rows of a method: byte place, instruction, length, words' places -/
abbrev XRow : Type := Nat × Instr × Nat × List Nat
/-- name, parameters, bytes, rows -/
abbrev XI : Type := (MethodName × Nat) × ByteArray × List XRow
def xckR (ss : XSt) (nw : List Jvm.Cond) (sg : XSg) (own : String) (ini : Bool) (pcs : List Nat) : List XRow → List Instr → Nat → Bool
  | [], [], _ => true
  | r :: rs, a :: as, i => decide (xnth pcs i = some r.1) && decide (xnth pcs (i + 1) = some (r.1 + r.2.2.1)) && xck ss nw sg own ini pcs r.1 r.2.1 r.2.2.1 r.2.2.2 a && xckR ss nw sg own ini pcs rs as (i + 1)
  | _, _, _ => false
def xpcs : List XRow → Nat → List Nat
  | [], e => [e]
  | r :: rs, _ => r.1 :: xpcs rs (r.1 + r.2.2.1)
def xdec (b : ByteArray) : List XRow → Bool
  | [] => true
  | r :: rs => decide (decode b r.1 = .ok (r.2.1, r.2.2.1)) && xdec b rs
/-- a method's rows fit its bytes and its small program -/
def XOk (ss : XSt) (nw : List Jvm.Cond) (sg : XSg) (q : XI) (M : XM) : Prop :=
  (plainName q.1.1.cls = true ∧ q.1.1.cls ≠ "java/lang/invoke/MethodHandle" ∧ q.1.1.cls ≠ "java/lang/invoke/VarHandle" ∧ (parseMethodDescriptor q.1.1.desc).map (fun d => d.parameters.length) = some q.1.2) ∧ M.1 ≤ 20 ∧ xnth (xpcs q.2.2 0) 0 = some 0 ∧ xdec q.2.1 q.2.2 = true ∧ xckR ss nw sg q.1.1.cls (decide (q.1.1.name = "<init>")) (xpcs q.2.2 0) q.2.2 M.2.2 0 = true
theorem xdec_at {b : ByteArray} : ∀ {rs : List XRow} {i : Nat} {r : XRow}, xdec b rs = true → xnth rs i = some r → decode b r.1 = .ok (r.2.1, r.2.2.1)
  | [], i, r, _, h => by simp [xnth] at h
  | a :: rs, 0, r, hd, h => by
    simp only [xnth, Option.some.injEq] at h
    subst h
    simp only [xdec, Bool.and_eq_true, decide_eq_true_eq] at hd
    exact hd.1
  | a :: rs, i + 1, r, hd, h => by
    simp only [xdec, Bool.and_eq_true] at hd
    exact xdec_at hd.2 h
theorem xckR_at {ss : XSt} {nw : List Jvm.Cond} {sg : XSg} {own : String} {ini : Bool} {pcs : List Nat} : ∀ {rs : List XRow} {as : List Instr} {k i : Nat} {a : Instr}, xckR ss nw sg own ini pcs rs as k = true → xnth as i = some a →
    ∃ r, xnth rs i = some r ∧ xnth pcs (k + i) = some r.1 ∧ xnth pcs (k + i + 1) = some (r.1 + r.2.2.1) ∧ xck ss nw sg own ini pcs r.1 r.2.1 r.2.2.1 r.2.2.2 a = true
  | [], [], k, i, a, _, h => by simp [xnth] at h
  | [], b :: as, k, i, a, h0, h => by simp [xckR] at h0
  | r :: rs, [], k, i, a, _, h => by simp [xnth] at h
  | r :: rs, b :: as, k, 0, a, h0, h => by
    simp only [xnth, Option.some.injEq] at h
    subst h
    simp only [xckR, Bool.and_eq_true, decide_eq_true_eq] at h0
    exact ⟨r, rfl, h0.1.1.1, h0.1.1.2, h0.1.2⟩
  | r :: rs, b :: as, k, i + 1, a, h0, h => by
    simp only [xckR, Bool.and_eq_true, decide_eq_true_eq] at h0
    obtain ⟨r', h1, h2, h3, h4⟩ := xckR_at (i := i) h0.2 h
    exact ⟨r', h1, by rw [show k + (i + 1) = k + 1 + i by omega]; exact h2, by rw [show k + (i + 1) + 1 = k + 1 + i + 1 by omega]; exact h3, h4⟩
