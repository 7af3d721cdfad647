/-! THE SMALL MACHINE: the same bytecode over a small world: cells in a list (a reference is a place in it), locals by place, no tables. A method's program is a list of instructions whose pool numbers are resolved: getfield (64 * class + slot), invokeinterface (method) (arguments + 64 * (1 + receiver's class)), branches by place in the list, .iconst any int constant, .ldc2_w any long constant, .ldc i the i-th text, .new class, .pop also Object's constructor, .monitorenter System.arraycopy, .fadd .fsub .fneg Math's max, min, abs, .invokedynamic the law's own method rests (999). -/
abbrev XE : Type := (FieldType × vp_A) ⊕ (Nat × List Value)
abbrev XWd : Type := List XE
abbrev XL : Type := List (Option Value)
abbrev XKt : Type := Nat → XL → List Value → XWd → Prop
abbrev XQt : Type := Option Value → XWd → Prop
abbrev XCt : Type := Nat → List Value → XWd → XQt → Prop
def xnth {α : Type} : List α → Nat → Option α
  | [], _ => none
  | a :: _, 0 => some a
  | _ :: l, n + 1 => xnth l n
def xset {α : Type} : List α → Nat → α → List α
  | [], _, _ => []
  | _ :: l, 0, b => b :: l
  | a :: l, n + 1, b => a :: xset l n b
/-- the foreign cells: the script, the texts, their bytes -/
def xSCR : Nat := 1000000
def xSTR : Nat := 1000001
def xBYT : Nat := 1000101
def xSIO : Nat := 1000099
def xint (ty : FieldType) (n : Nat) (f : Nat → Int32) : XE := .inl (ty, n, .inl f)
def xlng (n : Nat) (f : Nat → Int64) : XE := .inl (.long, n, .inr (.inl f))
def xref (C : String) (n : Nat) (f : Nat → Option Nat) : XE := .inl (.object C, n, .inr (.inr (.inr (.inr f))))
def xobj (ci : Nat) (fs : List Value) : XE := .inr (ci, fs)
def x1 (st : List Value) (f : Int32 → List Value → Prop) : Prop := match st with
  | .int x :: r => f x r
  | _ => False
def x2 (st : List Value) (f : Int32 → Int32 → List Value → Prop) : Prop := match st with
  | .int y :: .int x :: r => f x y r
  | _ => False
def x1l (st : List Value) (f : Int64 → List Value → Prop) : Prop := match st with
  | .long x :: r => f x r
  | _ => False
def x2l (st : List Value) (f : Int64 → Int64 → List Value → Prop) : Prop := match st with
  | .long y :: .long x :: r => f x y r
  | _ => False
def xli (st : List Value) (f : Int64 → Int32 → List Value → Prop) : Prop := match st with
  | .int y :: .long x :: r => f x y r
  | _ => False
def x1r (st : List Value) (f : Nat → List Value → Prop) : Prop := match st with
  | .ref a :: r => f a r
  | _ => False
def xir (st : List Value) (f : Nat → Int32 → List Value → Prop) : Prop := match st with
  | .int i :: .ref a :: r => f a i r
  | _ => False
def xld (loc : XL) (i : Nat) (f : Value → Prop) : Prop := match xnth loc i with
  | some (some v) => f v
  | _ => False
/-- a value of one slot at i: a long just ahead of it is gone -/
def xst (loc : XL) (i : Nat) (v : Value) : XL := match i with
  | 0 => xset loc 0 (some v)
  | j + 1 => match xnth loc j with
    | some (some (.long _)) => xset (xset loc j none) (j + 1) (some v)
    | some (some (.double _)) => xset (xset loc j none) (j + 1) (some v)
    | _ => xset loc (j + 1) (some v)
def xst2 (loc : XL) (i : Nat) (v : Value) : XL := xset (xst loc i v) (i + 1) none
def xcnd (c : ClassFile.Cond) (x y : Int32) : Prop := match c with
  | .eq => x = y
  | .ne => ¬ x = y
  | .lt => x < y
  | .ge => y ≤ x
  | .gt => y < x
  | .le => x ≤ y
def xsw (x : Int32) (f : Nat → Prop) (d : Prop) : Int → List Int → Prop
  | _, [] => d
  | lo, t :: ts => (x = Int32.ofInt lo → f t.toNat) ∧ (¬ x = Int32.ofInt lo → xsw x f d (lo + 1) ts)
/-- a value kept in a field of this type -/
def xkp (ty : FieldType) (v : Value) (k : Prop) : Prop := match ty, v with
  | .int, .int _ => k
  | .long, .long _ => k
  | .object _, .ref _ => k
  | .array _, .ref _ => k
  | ty, v => (narrow ty v = v ∧ fits ty v = true) ∧ k
/-- a value that a method of this type returns -/
def xrt (rt : Option FieldType) (v : Value) (k : Prop) : Prop := match rt, v with
  | some .int, .int _ => k
  | some .long, .long _ => k
  | some ty, .int x => narrow ty (.int x) = .int x ∧ k
  | _, _ => False
def xsz (e : XE) : Nat := match e with
  | .inl a => a.2.1
  | .inr o => o.2.length
def xsl (w : XWd) : Nat := (w.map xsz).sum
/-- the classes: fields' types; default values -/
abbrev XTy : Type := List (List FieldType)
def xdv (ty : FieldType) : Value := defaultValue ty
/-- what is fixed: the script's length and ints; the texts' bytes; the classes' field types -/
abbrev XF : Type := Nat × (Nat → Int32) × List (List Int32) × XTy
/-- what lies in a static field of the library, of which nothing is asked -/
def xsio (F : XF) : Value := if F.2.1 F.1 = 0 then .null else .ref xSIO
/-- one instruction -/
def xi (F : XF) (rt : Option FieldType) (K : XKt) (C : XCt) (Q : XQt) (ins : Option Instr) (i : Nat) (loc : XL) (st : List Value) (w : XWd) : Prop := match ins with
  | none => False
  | some ins => match ins with
    | .iconst n => K (i + 1) loc (.int (Int32.ofInt n) :: st) w
    | .ldc2_w n => K (i + 1) loc (.long (Int64.ofNat n) :: st) w
    | .ldc n => K (i + 1) loc (.ref (xSTR + n) :: st) w
    | .iload k => xld loc k fun v => match v with
      | .int x => K (i + 1) loc (.int x :: st) w
      | _ => False
    | .lload k => xld loc k fun v => match v with
      | .long x => K (i + 1) loc (.long x :: st) w
      | _ => False
    | .aload k => xld loc k fun v => match v with
      | .ref x => K (i + 1) loc (.ref x :: st) w
      | _ => False
    | .istore k => x1 st fun x r => k < loc.length ∧ K (i + 1) (xst loc k (.int x)) r w
    | .lstore k => x1l st fun x r => k + 1 < loc.length ∧ K (i + 1) (xst2 loc k (.long x)) r w
    | .astore k => x1r st fun x r => k < loc.length ∧ K (i + 1) (xst loc k (.ref x)) r w
    | .iinc k n => xld loc k fun v => match v with
      | .int x => K (i + 1) (xst loc k (.int (x + Int32.ofInt n))) st w
      | _ => False
    | .iadd => x2 st fun x y r => K (i + 1) loc (.int (x + y) :: r) w
    | .isub => x2 st fun x y r => K (i + 1) loc (.int (x - y) :: r) w
    | .imul => x2 st fun x y r => K (i + 1) loc (.int (x * y) :: r) w
    | .iand => x2 st fun x y r => K (i + 1) loc (.int (x &&& y) :: r) w
    | .ior => x2 st fun x y r => K (i + 1) loc (.int (x ||| y) :: r) w
    | .ixor => x2 st fun x y r => K (i + 1) loc (.int (x ^^^ y) :: r) w
    | .idiv => x2 st fun x y r => ¬ y = 0 ∧ K (i + 1) loc (.int (x / y) :: r) w
    | .irem => x2 st fun x y r => ¬ y = 0 ∧ K (i + 1) loc (.int (x - x / y * y) :: r) w
    | .ineg => x1 st fun x r => K (i + 1) loc (.int (-x) :: r) w
    | .ishl => x2 st fun x y r => K (i + 1) loc (.int (x <<< (y &&& 31)) :: r) w
    | .ishr => x2 st fun x y r => K (i + 1) loc (.int (x >>> (y &&& 31)) :: r) w
    | .iushr => x2 st fun x y r => K (i + 1) loc (.int (x.toUInt32 >>> (y.toUInt32 &&& Int32.toUInt32 31)).toInt32 :: r) w
    | .i2l => x1 st fun x r => K (i + 1) loc (.long x.toInt64 :: r) w
    | .i2b => x1 st fun x r => K (i + 1) loc (.int x.toInt8.toInt32 :: r) w
    | .i2c => x1 st fun x r => K (i + 1) loc (.int (x.toUInt32 % 65536).toInt32 :: r) w
    | .l2i => x1l st fun x r => K (i + 1) loc (.int x.toInt32 :: r) w
    | .ladd => x2l st fun x y r => K (i + 1) loc (.long (x + y) :: r) w
    | .lsub => x2l st fun x y r => K (i + 1) loc (.long (x - y) :: r) w
    | .lmul => x2l st fun x y r => K (i + 1) loc (.long (x * y) :: r) w
    | .land => x2l st fun x y r => K (i + 1) loc (.long (x &&& y) :: r) w
    | .lor => x2l st fun x y r => K (i + 1) loc (.long (x ||| y) :: r) w
    | .ldiv => x2l st fun x y r => ¬ y = 0 ∧ K (i + 1) loc (.long (x / y) :: r) w
    | .lrem => x2l st fun x y r => ¬ y = 0 ∧ K (i + 1) loc (.long (x - x / y * y) :: r) w
    | .lcmp => x2l st fun x y r => K (i + 1) loc (.int (lg_cmp x y) :: r) w
    | .lshl => xli st fun x y r => K (i + 1) loc (.long (x <<< (y.toInt64 &&& 63)) :: r) w
    | .lshr => xli st fun x y r => K (i + 1) loc (.long (x >>> (y.toInt64 &&& 63)) :: r) w
    | .lushr => xli st fun x y r => K (i + 1) loc (.long (x.toUInt64 >>> (y.toInt64.toUInt64 &&& Int64.toUInt64 63)).toInt64 :: r) w
    | .dup => match st with
      | .int x :: r => K (i + 1) loc (.int x :: .int x :: r) w
      | .ref x :: r => K (i + 1) loc (.ref x :: .ref x :: r) w
      | _ => False
    | .dup2 => match st with
      | .int y :: .ref x :: r => K (i + 1) loc (.int y :: .ref x :: .int y :: .ref x :: r) w
      | .long x :: r => K (i + 1) loc (.long x :: .long x :: r) w
      | _ => False
    | .dup_x1 => match st with
      | .int x :: .ref y :: r => K (i + 1) loc (.int x :: .ref y :: .int x :: r) w
      | _ => False
    | .pop2 => match st with
      | .int _ :: r => K (i + 1) loc r w
      | _ => False
    | .pop => x1r st fun _ r => (r.map fun v => v.category).sum ≤ 8 ∧ K (i + 1) loc r w
    | .goto t => K t.toNat loc st w
    | .ifCond c t => x1 st fun x r => (xcnd c x 0 → K t.toNat loc r w) ∧ (¬ xcnd c x 0 → K (i + 1) loc r w)
    | .if_icmp c t => x2 st fun x y r => (xcnd c x y → K t.toNat loc r w) ∧ (¬ xcnd c x y → K (i + 1) loc r w)
    | .tableswitch d lo _ ts => x1 st fun x r => xsw x (fun t => K t loc r w) (K d.toNat loc r w) lo ts.toList
    | .getfield ck => x1r st fun a r => match xnth w a with
      | some (.inr (ci, fs)) => if ci = ck / 64 then (match xnth fs (ck % 64) with
        | some v => K (i + 1) loc (v :: r) w
        | none => False) else False
      | some (.inl _) => False
      | none => match xnth F.2.2.1 (a - xSTR) with
        | some _ => if xSTR ≤ a then (if ck = 6400 then K (i + 1) loc (.ref (a + 100) :: r) w else if ck = 6401 then K (i + 1) loc (.int 0 :: r) w else False) else False
        | none => False
    | .putfield ck => match st with
      | v :: .ref a :: r => match xnth w a with
        | some (.inr (ci, fs)) => if ci = ck / 64 then (match xnth F.2.2.2 ci with
          | some tys => match xnth tys (ck % 64), xnth fs (ck % 64) with
            | some ty, some _ => xkp ty v (K (i + 1) loc r (xset w a (.inr (ci, xset fs (ck % 64) v))))
            | _, _ => False
          | none => False) else False
        | _ => False
      | _ => False
    | .getstatic k => match k with
      | 0 => K (i + 1) loc (.int 1 :: st) w
      | _ + 1 => K (i + 1) loc (xsio F :: st) w
    | .new ci => match xnth F.2.2.2 ci with
      | some tys => K (i + 1) loc (.ref w.length :: st) (w ++ [.inr (ci, tys.map xdv)])
      | none => False
    | .newarray t => x1 st fun x r => ¬ x < 0 ∧ x.toNatClampNeg ≤ 10000 ∧ (match t with
      | .int => K (i + 1) loc (.ref w.length :: r) (w ++ [xint .int x.toNatClampNeg (fun _ => 0)])
      | .byte => K (i + 1) loc (.ref w.length :: r) (w ++ [xint .byte x.toNatClampNeg (fun _ => 0)])
      | .boolean => K (i + 1) loc (.ref w.length :: r) (w ++ [xint .boolean x.toNatClampNeg (fun _ => 0)])
      | .long => K (i + 1) loc (.ref w.length :: r) (w ++ [xlng x.toNatClampNeg (fun _ => 0)])
      | _ => False)
    | .anewarray ci => x1 st fun x r => ¬ x < 0 ∧ x.toNatClampNeg ≤ 10000 ∧ (match ci with
      | 0 => K (i + 1) loc (.ref w.length :: r) (w ++ [xref "GreenButtons$Crew" x.toNatClampNeg (fun _ => none)])
      | 4 => K (i + 1) loc (.ref w.length :: r) (w ++ [xref "GreenButtons$Log" x.toNatClampNeg (fun _ => none)])
      | _ => False)
    | .arraylength => x1r st fun a r => match xnth w a with
      | some (.inl (.int, n, .inl _)) => K (i + 1) loc (.int (Int32.ofNat n) :: r) w
      | some _ => False
      | none => if a = xSCR then K (i + 1) loc (.int (Int32.ofNat F.1) :: r) w else match xnth F.2.2.1 (a - xBYT) with
        | some b => if xBYT ≤ a then K (i + 1) loc (.int (Int32.ofNat b.length) :: r) w else False
        | none => False
    | .iaload => xir st fun a j r => match xnth w a with
      | some (.inl (.int, n, .inl f)) => vp_in j n ∧ K (i + 1) loc (.int (f j.toNatClampNeg) :: r) w
      | some _ => False
      | none => a = xSCR ∧ vp_in j F.1 ∧ K (i + 1) loc (.int (F.2.1 j.toNatClampNeg) :: r) w
    | .laload => xir st fun a j r => match xnth w a with
      | some (.inl (.long, n, .inr (.inl f))) => vp_in j n ∧ K (i + 1) loc (.long (f j.toNatClampNeg) :: r) w
      | _ => False
    | .aaload => xir st fun a j r => match xnth w a with
      | some (.inl (.object C0, n, .inr (.inr (.inr (.inr f))))) => (C0 = "GreenButtons$Crew" ∨ C0 = "GreenButtons$Log") ∧ vp_in j n ∧ (match f j.toNatClampNeg with
        | some b => K (i + 1) loc (.ref b :: r) w
        | none => False)
      | _ => False
    | .baload => xir st fun a j r => match xnth w a with
      | some (.inl (.byte, n, .inl f)) => vp_in j n ∧ K (i + 1) loc (.int (f j.toNatClampNeg) :: r) w
      | some (.inl (.boolean, n, .inl f)) => vp_in j n ∧ K (i + 1) loc (.int (f j.toNatClampNeg) :: r) w
      | some _ => False
      | none => match xnth F.2.2.1 (a - xBYT) with
        | some b => xBYT ≤ a ∧ vp_in j b.length ∧ K (i + 1) loc (.int (b.getD j.toNatClampNeg 0) :: r) w
        | none => False
    | .iastore => x1 st fun x r => xir r fun a j r => match xnth w a with
      | some (.inl (.int, n, .inl f)) => vp_in j n ∧ K (i + 1) loc r (xset w a (xint .int n (upd f j.toNatClampNeg x)))
      | _ => False
    | .lastore => x1l st fun x r => xir r fun a j r => match xnth w a with
      | some (.inl (.long, n, .inr (.inl f))) => vp_in j n ∧ K (i + 1) loc r (xset w a (xlng n (vp_updL f j.toNatClampNeg x)))
      | _ => False
    | .bastore => x1 st fun x r => xir r fun a j r => match xnth w a with
      | some (.inl (.byte, n, .inl f)) => vp_in j n ∧ K (i + 1) loc r (xset w a (xint .byte n (upd f j.toNatClampNeg (vp_nar .byte x))))
      | some (.inl (.boolean, n, .inl f)) => vp_in j n ∧ K (i + 1) loc r (xset w a (xint .boolean n (upd f j.toNatClampNeg (vp_nar .boolean x))))
      | _ => False
    | .aastore => x1r st fun b r => xir r fun a j r => match xnth w a with
      | some (.inl (.object C, n, .inr (.inr (.inr (.inr f))))) => match xnth w b with
        | some (.inr (ci, _)) => (if ci = 0 then C = "GreenButtons$Crew" else if ci = 4 then C = "GreenButtons$Log" else False) ∧ vp_in j n ∧ K (i + 1) loc r (xset w a (xref C n (va_up f j.toNatClampNeg (some b))))
        | _ => False
      | _ => False
    | .monitorenter => match st with
      | .int n :: .int dp :: .ref d :: .int sp :: .ref s :: r => (r.map fun v => v.category).sum ≤ 8 ∧ (match xnth w s, xnth w d with
        | some (.inl (.int, n0, .inl f)), some (.inl (.int, n1, .inl g)) => (¬ sp < 0 ∧ ¬ dp < 0 ∧ ¬ n < 0 ∧ sp.toNatClampNeg + n.toNatClampNeg ≤ n0 ∧ dp.toNatClampNeg + n.toNatClampNeg ≤ n1) ∧ K (i + 1) loc r (xset w d (xint .int n1 (va_cpy f g sp.toNatClampNeg dp.toNatClampNeg n.toNatClampNeg)))
        | some (.inl (.long, n0, .inr (.inl f))), some (.inl (.long, n1, .inr (.inl g))) => (¬ sp < 0 ∧ ¬ dp < 0 ∧ ¬ n < 0 ∧ sp.toNatClampNeg + n.toNatClampNeg ≤ n0 ∧ dp.toNatClampNeg + n.toNatClampNeg ≤ n1) ∧ K (i + 1) loc r (xset w d (xlng n1 (va_cpy f g sp.toNatClampNeg dp.toNatClampNeg n.toNatClampNeg)))
        | _, _ => False)
      | _ => False
    | .invokeinterface y cnt => (st.drop (cnt % 64)).length + cnt % 64 = st.length ∧ ((st.drop (cnt % 64)).map fun v => v.category).sum ≤ 8 ∧ (match cnt / 64 with
      | 0 => C y (st.take (cnt % 64)).reverse w fun v w' => K (i + 1) loc (v.toList ++ st.drop (cnt % 64)) w'
      | ci + 1 => match (st.take (cnt % 64)).reverse with
        | .ref a :: _ => (match xnth w a with
          | some (.inr (cj, _)) => if cj = ci then C y (st.take (cnt % 64)).reverse w fun v w' => K (i + 1) loc (v.toList ++ st.drop (cnt % 64)) w' else False
          | some (.inl _) => False
          | none => match xnth F.2.2.1 (a - xSTR) with
            | some _ => if xSTR ≤ a ∧ ci = 100 then C y (st.take (cnt % 64)).reverse w fun v w' => K (i + 1) loc (v.toList ++ st.drop (cnt % 64)) w' else False
            | none => False)
        | _ => False)
    | .invokedynamic _ => match st with
      | .ref o :: .int p3 :: .int p2 :: .int p1 :: .int p0 :: .ref x :: r => (r.map fun v => v.category).sum ≤ 8 ∧ C 999 [.ref x, .int p0, .int p1, .int p2, .int p3, .ref o] w fun v w' => K (i + 1) loc (v.toList ++ r) w'
      | _ => False
    | .fadd => x2 st fun x y r => (r.map fun v => v.category).sum ≤ 8 ∧ K (i + 1) loc (.int (if x < y then y else x) :: r) w
    | .fsub => x2 st fun x y r => (r.map fun v => v.category).sum ≤ 8 ∧ K (i + 1) loc (.int (if y < x then y else x) :: r) w
    | .fneg => x1 st fun x r => (r.map fun v => v.category).sum ≤ 8 ∧ K (i + 1) loc (.int (if 0 ≤ x then x else 0 - x) :: r) w
    | .return_ => match st with
      | [] => rt = none ∧ Q none w
      | _ => False
    | .ireturn => match st with
      | .int x :: [] => xrt rt (.int x) (Q (some (.int x)) w)
      | _ => False
    | .lreturn => match st with
      | .long x :: [] => xrt rt (.long x) (Q (some (.long x)) w)
      | _ => False
    | _ => False
/-- it comes to an end, with Q: the least set of points closed under one instruction -/
def XWp (F : XF) (rt : Option FieldType) (P : List Instr) (C : XCt) (Q : XQt) : XKt := fun i loc st w => ∀ R : XKt, (∀ i loc st w, xi F rt R C Q (xnth P i) i loc st w → R i loc st w) → R i loc st w
def xargs : List Value → XL
  | [] => []
  | .long x :: vs => some (.long x) :: none :: xargs vs
  | .double x :: vs => some (.double x) :: none :: xargs vs
  | v :: vs => some v :: xargs vs
def xent (n : Nat) (args : List Value) : XL := xargs args ++ List.replicate (n - (xargs args).length) none
abbrev XM : Type := Nat × Option FieldType × List Instr
/-- a call, at most d deep -/
def XC (F : XF) (M : List XM) : Nat → XCt
  | 0 => fun _ _ _ _ => False
  | d + 1 => fun y args w Q => match xnth M y with
    | some (n, rt, P) => (xargs args).length ≤ n ∧ XWp F rt P (XC F M d) Q 0 (xent n args) [] w
    | none => False
def xin : List Nat → Nat → Bool
  | [], _ => false
  | a :: l, n => match Nat.beq a n with
    | true => true
    | false => xin l n
/-- what is to be shown: n instructions on, or as far as a place of S -/
def xvc (F : XF) (rt : Option FieldType) (P : List Instr) (C : XCt) (Q : XQt) (S : List Nat) : Nat → XKt
  | 0 => XWp F rt P C Q
  | n + 1 => fun i loc st w => xi F rt (fun j l s w' => match xin S j with
    | true => XWp F rt P C Q j l s w'
    | false => xvc F rt P C Q S n j l s w') C Q (xnth P i) i loc st w
theorem xnth_eq {α : Type} : ∀ (l : List α) (n : Nat), xnth l n = l[n]?
  | [], n => by simp [xnth]
  | a :: l, 0 => by simp [xnth]
  | a :: l, n + 1 => by simp [xnth, xnth_eq l n]
theorem xset_eq {α : Type} : ∀ (l : List α) (n : Nat) (b : α), xset l n b = l.set n b
  | [], n, b => by simp [xset]
  | a :: l, 0, b => by simp [xset]
  | a :: l, n + 1, b => by simp [xset, xset_eq l n b]
theorem xset_len {α : Type} (l : List α) (n : Nat) (b : α) : (xset l n b).length = l.length := by rw [xset_eq, List.length_set]
theorem xset_sl : ∀ (w : XWd) (n : Nat) (e0 e : XE), xnth w n = some e0 → xsz e = xsz e0 → xsl (xset w n e) = xsl w
  | [], n, e0, e, h, _ => by simp [xnth] at h
  | a :: l, 0, e0, e, h, hz => by
    simp only [xnth, Option.some.injEq] at h
    subst h
    simp [xset, xsl, hz]
  | a :: l, n + 1, e0, e, h, hz => by
    have ih := xset_sl l n e0 e h hz
    simp only [xsl] at ih
    simp [xset, xsl, ih]
theorem xsl_app (w : XWd) (e : XE) : xsl (w ++ [e]) = xsl w + xsz e := by simp [xsl]
theorem x1_of {st : List Value} {f : Int32 → List Value → Prop} (h : x1 st f) : ∃ x r, st = .int x :: r ∧ f x r := by
  unfold x1 at h; split at h
  · exact ⟨_, _, rfl, h⟩
  · exact h.elim
theorem x2_of {st : List Value} {f : Int32 → Int32 → List Value → Prop} (h : x2 st f) : ∃ x y r, st = .int y :: .int x :: r ∧ f x y r := by
  unfold x2 at h; split at h
  · exact ⟨_, _, _, rfl, h⟩
  · exact h.elim
theorem x1l_of {st : List Value} {f : Int64 → List Value → Prop} (h : x1l st f) : ∃ x r, st = .long x :: r ∧ f x r := by
  unfold x1l at h; split at h
  · exact ⟨_, _, rfl, h⟩
  · exact h.elim
theorem x2l_of {st : List Value} {f : Int64 → Int64 → List Value → Prop} (h : x2l st f) : ∃ x y r, st = .long y :: .long x :: r ∧ f x y r := by
  unfold x2l at h; split at h
  · exact ⟨_, _, _, rfl, h⟩
  · exact h.elim
theorem xli_of {st : List Value} {f : Int64 → Int32 → List Value → Prop} (h : xli st f) : ∃ x y r, st = .int y :: .long x :: r ∧ f x y r := by
  unfold xli at h; split at h
  · exact ⟨_, _, _, rfl, h⟩
  · exact h.elim
theorem x1r_of {st : List Value} {f : Nat → List Value → Prop} (h : x1r st f) : ∃ a r, st = .ref a :: r ∧ f a r := by
  unfold x1r at h; split at h
  · exact ⟨_, _, rfl, h⟩
  · exact h.elim
theorem xir_of {st : List Value} {f : Nat → Int32 → List Value → Prop} (h : xir st f) : ∃ a j r, st = .int j :: .ref a :: r ∧ f a j r := by
  unfold xir at h; split at h
  · exact ⟨_, _, _, rfl, h⟩
  · exact h.elim
theorem xld_of {loc : XL} {i : Nat} {f : Value → Prop} (h : xld loc i f) : ∃ v, xnth loc i = some (some v) ∧ f v := by
  unfold xld at h; split at h
  · exact ⟨_, by assumption, h⟩
  · exact h.elim
theorem xld_mk {loc : XL} {i : Nat} {f : Value → Prop} {v : Value} (h : xnth loc i = some (some v)) (hf : f v) : xld loc i f := by
  unfold xld; rw [h]; exact hf
theorem xsw_of {x : Int32} {f : Nat → Prop} {d : Prop} : ∀ {ts : List Int} {lo : Int}, xsw x f d lo ts → (∃ t, f t ∧ ∀ (g : Nat → Prop) (e : Prop), g t → xsw x g e lo ts) ∨ (d ∧ ∀ (g : Nat → Prop) (e : Prop), e → xsw x g e lo ts)
  | [], lo, h => Or.inr ⟨h, fun _ _ he => he⟩
  | t :: ts, lo, h => by
    by_cases hx : x = Int32.ofInt lo
    · exact Or.inl ⟨t.toNat, h.1 hx, fun g e hg => ⟨fun _ => hg, fun hn => absurd hx hn⟩⟩
    · rcases xsw_of (h.2 hx) with ⟨t', h1, h2⟩ | ⟨h1, h2⟩
      · exact Or.inl ⟨t', h1, fun g e hg => ⟨fun hp => absurd hp hx, fun _ => h2 g e hg⟩⟩
      · exact Or.inr ⟨h1, fun g e he => ⟨fun hp => absurd hp hx, fun _ => h2 g e he⟩⟩
theorem xkp_of {ty : FieldType} {v : Value} {k : Prop} (h : xkp ty v k) : k ∧ ∀ k' : Prop, k' → xkp ty v k' := by
  unfold xkp at h
  split at h
  · exact ⟨h, fun k' hk => by unfold xkp; exact hk⟩
  · exact ⟨h, fun k' hk => by unfold xkp; exact hk⟩
  · exact ⟨h, fun k' hk => by unfold xkp; exact hk⟩
  · exact ⟨h, fun k' hk => by unfold xkp; exact hk⟩
  · refine ⟨h.2, fun k' hk => ?_⟩
    unfold xkp
    split
    · exact hk
    · exact hk
    · exact hk
    · exact hk
    · exact ⟨h.1, hk⟩
theorem xrt_of {rt : Option FieldType} {v : Value} {k : Prop} (h : xrt rt v k) : k ∧ ∀ k' : Prop, k' → xrt rt v k' := by
  unfold xrt at h
  split at h
  · exact ⟨h, fun k' hk => by unfold xrt; exact hk⟩
  · exact ⟨h, fun k' hk => by unfold xrt; exact hk⟩
  · refine ⟨h.2, fun k' hk => ?_⟩
    unfold xrt
    split
    · exact hk
    · exact hk
    · rename_i e1 e2
      cases e1; cases e2
      exact ⟨h.1, hk⟩
    · rename_i n1 n2
      exact (n2 _ _ rfl rfl).elim
  · exact h.elim
