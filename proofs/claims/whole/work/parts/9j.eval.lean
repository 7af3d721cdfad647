/-! worlds as data: what constructors do is reckoned -/
abbrev AE : Type := (Nat × Nat × Option Int32 × List (Nat × Int32) × List (Nat × Nat)) ⊕ (Nat × List Value)
abbrev AWd : Type := List AE
def ain (fb : Option Int32) (n : Nat) (us : List (Nat × Int32)) : Fn := us.foldr (fun q f => upd f q.1 q.2) (match fb with
  | none => fun _ => 0
  | some x => fil (fun _ => 0) x n)
def arf (rs : List (Nat × Nat)) : Nat → Option Nat := rs.foldr (fun q f => va_up f q.1 (some q.2)) (fun _ => none)
def ace : AE → XE
  | .inl (0, n, fb, us, _) => xint .int n (ain fb n us)
  | .inl (1, n, fb, us, _) => xint .byte n (ain fb n us)
  | .inl (2, n, fb, us, _) => xint .boolean n (ain fb n us)
  | .inl (3, n, _, _, _) => xlng n (fun _ => 0)
  | .inl (4, n, _, _, rs) => xref "GreenButtons$Crew" n (arf rs)
  | .inl (_, n, _, _, rs) => xref "GreenButtons$Log" n (arf rs)
  | .inr o => .inr o
def wd (w : AWd) : XWd := w.map ace
theorem wd_nth : ∀ (w : AWd) (a : Nat), xnth (wd w) a = (xnth w a).map ace
  | [], a => by cases a <;> rfl
  | e :: w, 0 => rfl
  | e :: w, a + 1 => wd_nth w a
theorem wd_set : ∀ (w : AWd) (a : Nat) (e : AE), wd (xset w a e) = xset (wd w) a (ace e)
  | [], a, e => by cases a <;> rfl
  | x :: w, 0, e => rfl
  | x :: w, a + 1, e => congrArg (List.cons (ace x)) (wd_set w a e)
theorem wd_app (w : AWd) (e : AE) : wd (w ++ [e]) = wd w ++ [ace e] := by simp [wd]
theorem wd_len (w : AWd) : (wd w).length = w.length := by simp [wd]
theorem wd_at {w : AWd} {a : Nat} {e : AE} (h : xnth w a = some e) : xnth (wd w) a = some (ace e) := by
  rw [wd_nth, h]
  rfl
def akp (ty : FieldType) (v : Value) : Bool := match ty, v with
  | .int, .int _ => true
  | .long, .long _ => true
  | .object _, .ref _ => true
  | .array _, .ref _ => true
  | ty, v => decide (narrow ty v = v ∧ fits ty v = true)
theorem akp_ok {ty : FieldType} {v : Value} {k : Prop} (h : akp ty v = true) (hk : k) : xkp ty v k := by
  unfold akp at h
  unfold xkp
  split
  · exact hk
  · exact hk
  · exact hk
  · exact hk
  · rename_i n1 n2 n3 n4
    split at h
    · exact (n1 _ rfl rfl).elim
    · exact (n2 _ rfl rfl).elim
    · exact (n3 _ _ rfl rfl).elim
    · exact (n4 _ _ rfl rfl).elim
    · exact ⟨of_decide_eq_true h, hk⟩
abbrev ASt : Type := Nat × XL × List Value × AWd
def aLd (i : Nat) (loc : XL) (st : List Value) (w : AWd) (k : Nat) : Option ASt := match xnth loc k with
  | some (some (.int x)) => some (i + 1, loc, .int x :: st, w)
  | _ => none
def aLa (i : Nat) (loc : XL) (st : List Value) (w : AWd) (k : Nat) : Option ASt := match xnth loc k with
  | some (some (.ref x)) => some (i + 1, loc, .ref x :: st, w)
  | _ => none
def aSt (i : Nat) (loc : XL) (st : List Value) (w : AWd) (k : Nat) : Option ASt := match st with
  | .int x :: r => if k < loc.length then some (i + 1, xst loc k (.int x), r, w) else none
  | _ => none
def aInc (i : Nat) (loc : XL) (st : List Value) (w : AWd) (k : Nat) (n : Int) : Option ASt := match xnth loc k with
  | some (some (.int x)) => some (i + 1, xst loc k (.int (x + Int32.ofInt n)), st, w)
  | _ => none
def aBin (op : Int32 → Int32 → Int32) (i : Nat) (loc : XL) (st : List Value) (w : AWd) : Option ASt := match st with
  | .int y :: .int x :: r => some (i + 1, loc, .int (op x y) :: r, w)
  | _ => none
def aDup (i : Nat) (loc : XL) (st : List Value) (w : AWd) : Option ASt := match st with
  | .ref x :: r => some (i + 1, loc, .ref x :: .ref x :: r, w)
  | _ => none
def aPop (i : Nat) (loc : XL) (st : List Value) (w : AWd) : Option ASt := match st with
  | .ref _ :: r => if (r.map fun v => v.category).sum ≤ 8 then some (i + 1, loc, r, w) else none
  | _ => none
def aCmp (c : ClassFile.Cond) (t : Int) (i : Nat) (loc : XL) (st : List Value) (w : AWd) : Option ASt := match st with
  | .int y :: .int x :: r => if xcb c x y = true then some (t.toNat, loc, r, w) else some (i + 1, loc, r, w)
  | _ => none
def aGet (ck : Nat) (i : Nat) (loc : XL) (st : List Value) (w : AWd) : Option ASt := match st with
  | .ref a :: r => match xnth w a with
    | some (.inr (ci, fs)) => if ci = ck / 64 then (match xnth fs (ck % 64) with
      | some v => some (i + 1, loc, v :: r, w)
      | none => none) else none
    | _ => none
  | _ => none
def aPut (ck : Nat) (i : Nat) (loc : XL) (st : List Value) (w : AWd) : Option ASt := match st with
  | v :: .ref a :: r => match xnth w a with
    | some (.inr (ci, fs)) => if ci = ck / 64 then (match xnth xtys ci with
      | some tys => match xnth tys (ck % 64), xnth fs (ck % 64) with
        | some ty, some _ => if akp ty v = true then some (i + 1, loc, r, xset w a (.inr (ci, xset fs (ck % 64) v))) else none
        | _, _ => none
      | none => none) else none
    | _ => none
  | _ => none
def aNew (ci : Nat) (i : Nat) (loc : XL) (st : List Value) (w : AWd) : Option ASt := match xnth xtys ci with
  | some tys => some (i + 1, loc, .ref w.length :: st, w ++ [.inr (ci, tys.map xdv)])
  | none => none
def aArr (k : Nat) (i : Nat) (loc : XL) (st : List Value) (w : AWd) : Option ASt := match st with
  | .int x :: r => if ¬ x < 0 ∧ x.toNatClampNeg ≤ 10000 then some (i + 1, loc, .ref w.length :: r, w ++ [.inl (k, x.toNatClampNeg, none, [], [])]) else none
  | _ => none
def aIas (i : Nat) (loc : XL) (st : List Value) (w : AWd) : Option ASt := match st with
  | .int x :: .int j :: .ref a :: r => match xnth w a with
    | some (.inl (0, n, fb, us, rs)) => if ¬ (j < 0 ∨ n ≤ j.toNatClampNeg) then some (i + 1, loc, r, xset w a (.inl (0, n, fb, (j.toNatClampNeg, x) :: us, rs))) else none
    | _ => none
  | _ => none
def aAas (i : Nat) (loc : XL) (st : List Value) (w : AWd) : Option ASt := match st with
  | .ref b :: .int j :: .ref a :: r => match xnth w a, xnth w b with
    | some (.inl (4, n, fb, us, rs)), some (.inr (0, _)) => if ¬ (j < 0 ∨ n ≤ j.toNatClampNeg) then some (i + 1, loc, r, xset w a (.inl (4, n, fb, us, (j.toNatClampNeg, b) :: rs))) else none
    | some (.inl (5, n, fb, us, rs)), some (.inr (4, _)) => if ¬ (j < 0 ∨ n ≤ j.toNatClampNeg) then some (i + 1, loc, r, xset w a (.inl (5, n, fb, us, (j.toNatClampNeg, b) :: rs))) else none
    | _, _ => none
  | _ => none
def aex (ins : Instr) (i : Nat) (loc : XL) (st : List Value) (w : AWd) : Option ASt := match ins with
  | .iconst n => some (i + 1, loc, .int (Int32.ofInt n) :: st, w)
  | .iload k => aLd i loc st w k
  | .aload k => aLa i loc st w k
  | .istore k => aSt i loc st w k
  | .iinc k n => aInc i loc st w k n
  | .iadd => aBin (fun x y => x + y) i loc st w
  | .imul => aBin (fun x y => x * y) i loc st w
  | .dup => aDup i loc st w
  | .pop => aPop i loc st w
  | .goto t => some (t.toNat, loc, st, w)
  | .if_icmp c t => aCmp c t i loc st w
  | .getfield ck => aGet ck i loc st w
  | .putfield ck => aPut ck i loc st w
  | .new ci => aNew ci i loc st w
  | .newarray .int => aArr 0 i loc st w
  | .newarray .byte => aArr 1 i loc st w
  | .newarray .boolean => aArr 2 i loc st w
  | .newarray .long => aArr 3 i loc st w
  | .anewarray 0 => aArr 4 i loc st w
  | .anewarray 4 => aArr 5 i loc st w
  | .iastore => aIas i loc st w
  | .aastore => aAas i loc st w
  | _ => none
section XAE
variable {L : Nat} {xs : Nat → Int32} {rt : Option FieldType} {K : XKt} {C : XCt} {Q : XQt} {i : Nat} {loc : XL} {st : List Value} {w : AWd} {s' : ASt}
theorem ok_ld {k : Nat} (h : aLd i loc st w k = some s') (hK : K s'.1 s'.2.1 s'.2.2.1 (wd s'.2.2.2)) : xi (xF L xs) rt K C Q (some (.iload k)) i loc st (wd w) := by
  unfold aLd at h
  split at h
  · rename_i x e
    cases h
    unfold xi
    simp only [xld, e]
    exact hK
  · cases h
theorem ok_la {k : Nat} (h : aLa i loc st w k = some s') (hK : K s'.1 s'.2.1 s'.2.2.1 (wd s'.2.2.2)) : xi (xF L xs) rt K C Q (some (.aload k)) i loc st (wd w) := by
  unfold aLa at h
  split at h
  · rename_i x e
    cases h
    unfold xi
    simp only [xld, e]
    exact hK
  · cases h
theorem ok_st {k : Nat} (h : aSt i loc st w k = some s') (hK : K s'.1 s'.2.1 s'.2.2.1 (wd s'.2.2.2)) : xi (xF L xs) rt K C Q (some (.istore k)) i loc st (wd w) := by
  unfold aSt at h
  split at h
  · split at h
    · rename_i q
      cases h
      exact ⟨q, hK⟩
    · cases h
  · cases h
theorem ok_inc {k : Nat} {n : Int} (h : aInc i loc st w k n = some s') (hK : K s'.1 s'.2.1 s'.2.2.1 (wd s'.2.2.2)) : xi (xF L xs) rt K C Q (some (.iinc k n)) i loc st (wd w) := by
  unfold aInc at h
  split at h
  · rename_i x e
    cases h
    unfold xi
    simp only [xld, e]
    exact hK
  · cases h
theorem ok_add (h : aBin (fun x y => x + y) i loc st w = some s') (hK : K s'.1 s'.2.1 s'.2.2.1 (wd s'.2.2.2)) : xi (xF L xs) rt K C Q (some .iadd) i loc st (wd w) := by
  unfold aBin at h
  split at h
  · cases h
    exact hK
  · cases h
theorem ok_mul (h : aBin (fun x y => x * y) i loc st w = some s') (hK : K s'.1 s'.2.1 s'.2.2.1 (wd s'.2.2.2)) : xi (xF L xs) rt K C Q (some .imul) i loc st (wd w) := by
  unfold aBin at h
  split at h
  · cases h
    exact hK
  · cases h
theorem ok_dup (h : aDup i loc st w = some s') (hK : K s'.1 s'.2.1 s'.2.2.1 (wd s'.2.2.2)) : xi (xF L xs) rt K C Q (some .dup) i loc st (wd w) := by
  unfold aDup at h
  split at h
  · cases h
    exact hK
  · cases h
theorem ok_pop (h : aPop i loc st w = some s') (hK : K s'.1 s'.2.1 s'.2.2.1 (wd s'.2.2.2)) : xi (xF L xs) rt K C Q (some .pop) i loc st (wd w) := by
  unfold aPop at h
  split at h
  · split at h
    · rename_i q
      cases h
      exact ⟨q, hK⟩
    · cases h
  · cases h
theorem ok_cmp {c : ClassFile.Cond} {t : Int} (h : aCmp c t i loc st w = some s') (hK : K s'.1 s'.2.1 s'.2.2.1 (wd s'.2.2.2)) : xi (xF L xs) rt K C Q (some (.if_icmp c t)) i loc st (wd w) := by
  unfold aCmp at h
  split at h
  · split at h
    · rename_i q
      cases h
      exact ⟨fun _ => hK, fun y => absurd ((xcb_iff ..).mp q) y⟩
    · rename_i q
      cases h
      exact ⟨fun y => absurd ((xcb_iff ..).mpr y) q, fun _ => hK⟩
  · cases h
theorem ok_get {ck : Nat} (h : aGet ck i loc st w = some s') (hK : K s'.1 s'.2.1 s'.2.2.1 (wd s'.2.2.2)) : xi (xF L xs) rt K C Q (some (.getfield ck)) i loc st (wd w) := by
  unfold aGet at h
  split at h
  · split at h
    · rename_i ci fs e
      split at h
      · rename_i q
        split at h
        · rename_i v ev
          cases h
          have e1 := wd_at e
          unfold xi
          simp only [x1r, e1, ace, if_pos q, ev]
          exact hK
        · cases h
      · cases h
    · cases h
  · cases h
theorem ok_put {ck : Nat} (h : aPut ck i loc st w = some s') (hK : K s'.1 s'.2.1 s'.2.2.1 (wd s'.2.2.2)) : xi (xF L xs) rt K C Q (some (.putfield ck)) i loc st (wd w) := by
  unfold aPut at h
  split at h
  · split at h
    · rename_i ci fs e
      split at h
      · rename_i q
        split at h
        · rename_i tys et
          split at h
          · rename_i ty v0 e1 e2
            split at h
            · rename_i qk
              cases h
              have e3 := wd_at e
              unfold xi
              simp only [e3, ace, if_pos q, et, e1, e2]
              refine akp_ok qk ?_
              have hK2 := hK
              simp only [wd_set, ace] at hK2
              exact hK2
            · cases h
          · cases h
        · cases h
      · cases h
    · cases h
  · cases h
theorem ok_new {ci : Nat} (h : aNew ci i loc st w = some s') (hK : K s'.1 s'.2.1 s'.2.2.1 (wd s'.2.2.2)) : xi (xF L xs) rt K C Q (some (.new ci)) i loc st (wd w) := by
  unfold aNew at h
  split at h
  · rename_i tys et
    cases h
    unfold xi
    rw [show (xF L xs).2.2.2 = xtys from rfl]
    simp only [et]
    have hK2 := hK
    simp only [wd_app, ace] at hK2
    rw [wd_len]
    exact hK2
  · cases h
theorem ok_arr0 (h : aArr 0 i loc st w = some s') (hK : K s'.1 s'.2.1 s'.2.2.1 (wd s'.2.2.2)) : xi (xF L xs) rt K C Q (some (.newarray .int)) i loc st (wd w) := by
  unfold aArr at h
  split at h
  · split at h
    · rename_i q
      cases h
      refine ⟨q.1, q.2, ?_⟩
      have hK2 := hK
      simp only [wd_app, ace] at hK2
      rw [wd_len]
      exact hK2
    · cases h
  · cases h
theorem ok_arr1 (h : aArr 1 i loc st w = some s') (hK : K s'.1 s'.2.1 s'.2.2.1 (wd s'.2.2.2)) : xi (xF L xs) rt K C Q (some (.newarray .byte)) i loc st (wd w) := by
  unfold aArr at h
  split at h
  · split at h
    · rename_i q
      cases h
      refine ⟨q.1, q.2, ?_⟩
      have hK2 := hK
      simp only [wd_app, ace] at hK2
      rw [wd_len]
      exact hK2
    · cases h
  · cases h
theorem ok_arr2 (h : aArr 2 i loc st w = some s') (hK : K s'.1 s'.2.1 s'.2.2.1 (wd s'.2.2.2)) : xi (xF L xs) rt K C Q (some (.newarray .boolean)) i loc st (wd w) := by
  unfold aArr at h
  split at h
  · split at h
    · rename_i q
      cases h
      refine ⟨q.1, q.2, ?_⟩
      have hK2 := hK
      simp only [wd_app, ace] at hK2
      rw [wd_len]
      exact hK2
    · cases h
  · cases h
theorem ok_arr3 (h : aArr 3 i loc st w = some s') (hK : K s'.1 s'.2.1 s'.2.2.1 (wd s'.2.2.2)) : xi (xF L xs) rt K C Q (some (.newarray .long)) i loc st (wd w) := by
  unfold aArr at h
  split at h
  · split at h
    · rename_i q
      cases h
      refine ⟨q.1, q.2, ?_⟩
      have hK2 := hK
      simp only [wd_app, ace] at hK2
      rw [wd_len]
      exact hK2
    · cases h
  · cases h
theorem ok_arr4 (h : aArr 4 i loc st w = some s') (hK : K s'.1 s'.2.1 s'.2.2.1 (wd s'.2.2.2)) : xi (xF L xs) rt K C Q (some (.anewarray 0)) i loc st (wd w) := by
  unfold aArr at h
  split at h
  · split at h
    · rename_i q
      cases h
      refine ⟨q.1, q.2, ?_⟩
      have hK2 := hK
      simp only [wd_app, ace] at hK2
      rw [wd_len]
      exact hK2
    · cases h
  · cases h
theorem ok_arr5 (h : aArr 5 i loc st w = some s') (hK : K s'.1 s'.2.1 s'.2.2.1 (wd s'.2.2.2)) : xi (xF L xs) rt K C Q (some (.anewarray 4)) i loc st (wd w) := by
  unfold aArr at h
  split at h
  · split at h
    · rename_i q
      cases h
      refine ⟨q.1, q.2, ?_⟩
      have hK2 := hK
      simp only [wd_app, ace] at hK2
      rw [wd_len]
      exact hK2
    · cases h
  · cases h

theorem ok_ias (h : aIas i loc st w = some s') (hK : K s'.1 s'.2.1 s'.2.2.1 (wd s'.2.2.2)) : xi (xF L xs) rt K C Q (some .iastore) i loc st (wd w) := by
  unfold aIas at h
  split at h
  · split at h
    · rename_i n fb us rs e
      split at h
      · rename_i q
        cases h
        have e1 := wd_at e
        unfold xi
        simp only [x1, xir, e1, ace, xint]
        refine ⟨q, ?_⟩
        have hK2 := hK
        simp only [wd_set, ace] at hK2
        exact hK2
      · cases h
    · cases h
  · cases h
theorem ok_aas (h : aAas i loc st w = some s') (hK : K s'.1 s'.2.1 s'.2.2.1 (wd s'.2.2.2)) : xi (xF L xs) rt K C Q (some .aastore) i loc st (wd w) := by
  unfold aAas at h
  split at h
  · split at h
    · rename_i n fb us rs fs e2 e
      split at h
      · rename_i q
        cases h
        have e1 := wd_at e
        have e3 := wd_at e2
        unfold xi
        simp only [x1r, xir, e1, e3, ace, xref]
        refine ⟨by simp, q, ?_⟩
        have hK2 := hK
        simp only [wd_set, ace] at hK2
        exact hK2
      · cases h
    · rename_i n fb us rs fs e2 e
      split at h
      · rename_i q
        cases h
        have e1 := wd_at e
        have e3 := wd_at e2
        unfold xi
        simp only [x1r, xir, e1, e3, ace, xref]
        refine ⟨by simp, q, ?_⟩
        have hK2 := hK
        simp only [wd_set, ace] at hK2
        exact hK2
      · cases h
    · cases h
  · cases h
theorem aex_ok {ins : Instr} (h : aex ins i loc st w = some s') (hK : K s'.1 s'.2.1 s'.2.2.1 (wd s'.2.2.2)) : xi (xF L xs) rt K C Q (some ins) i loc st (wd w) := by
  unfold aex at h
  split at h
  · cases h; exact hK
  · exact ok_ld h hK
  · exact ok_la h hK
  · exact ok_st h hK
  · exact ok_inc h hK
  · exact ok_add h hK
  · exact ok_mul h hK
  · exact ok_dup h hK
  · exact ok_pop h hK
  · cases h; exact hK
  · exact ok_cmp h hK
  · exact ok_get h hK
  · exact ok_put h hK
  · exact ok_new h hK
  · exact ok_arr0 h hK
  · exact ok_arr1 h hK
  · exact ok_arr2 h hK
  · exact ok_arr3 h hK
  · exact ok_arr4 h hK
  · exact ok_arr5 h hK
  · exact ok_ias h hK
  · exact ok_aas h hK
  · cases h
end XAE
