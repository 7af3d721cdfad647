/-! one law, two ways to work it: steps on a stack, codes by levels -/
abbrev TW.ke (W : TW) : Fn := W.1
abbrev TW.kb (W : TW) : Fn := W.2.1
abbrev TW.ah (W : TW) : Fn := W.2.2.1
abbrev TW.ag (W : TW) : Fn := W.2.2.2.1
abbrev TW.su (W : TW) : Fn := W.2.2.2.2.1
abbrev TW.sb (W : TW) : Fn := W.2.2.2.2.2.1
abbrev TW.te (W : TW) : Fn := W.2.2.2.2.2.2.1
abbrev TW.tb (W : TW) : Fn := W.2.2.2.2.2.2.2.1
abbrev TW.bn (W : TW) : Fn := W.2.2.2.2.2.2.2.2
def vsL (fv : Int32 → Int32) (x : Fn × Nat) (st : List Int32) : Fn × Nat := st.foldl (fun x s => vStep fv x.1 x.2 s) x
def wkL (vo : Fn) (x : TW × Nat) (cd : List Int32) : TW × Nat := cd.foldl (fun x c => wkStep vo x.1 x.2 c) x
def okL (vo : Fn) : TW × Nat → List Int32 → Prop
  | _, [] => True
  | x, c :: cs => wkOk x.2 c ∧ okL vo (wkStep vo x.1 x.2 c) cs
theorem wkL_app (vo : Fn) (x : TW × Nat) (a b : List Int32) : wkL vo x (a ++ b) = wkL vo (wkL vo x a) b := List.foldl_append ..
theorem vsL_app (fv : Int32 → Int32) (x : Fn × Nat) (a b : List Int32) : vsL fv x (a ++ b) = vsL fv (vsL fv x a) b := List.foldl_append ..
theorem okL_app (vo : Fn) : ∀ (a b : List Int32) (x : TW × Nat), okL vo x a → okL vo (wkL vo x a) b → okL vo x (a ++ b)
  | [], b, x, _, h => h
  | c :: a, b, x, h, h2 => ⟨h.1, okL_app vo a b _ h.2 h2⟩
/-- the class's stack: one value more -/
def CV (fv : Int32 → Int32) (need : Nat) (st : List Int32) (v : Int32) : Prop := ∀ f t, t + need ≤ 32 → ∃ f', vsL fv (f, t) st = (f', t + 1) ∧ f' t = v ∧ ∀ k, k < t → f' k = f k
theorem CV.mono {fv : Int32 → Int32} {a b : Nat} {st : List Int32} {v : Int32} (h : CV fv a st v) (hab : a ≤ b) : CV fv b st v := fun f t ht => h f t (by omega)
theorem CV_one {fv : Int32 → Int32} {x : Int32} (h : x &&& 15 ≤ 4) : CV fv 1 [x] (fv x) := by
  intro f t ht
  refine ⟨upd f t (fv x), ?_, pk_us .., fun k hk => pk_un (by omega)⟩
  show vStep fv f t x = _
  rw [vStep, if_pos ⟨h, by omega⟩]
theorem CV_not {fv : Int32 → Int32} {n : Nat} {st : List Int32} {v : Int32} (h : CV fv n st v) : CV fv n (st ++ [5]) (b2i (v = 0)) := by
  intro f t ht
  obtain ⟨f', e, ev, ek⟩ := h f t ht
  refine ⟨upd f' t (b2i (v = 0)), ?_, pk_us .., fun k hk => (pk_un (by omega)).trans (ek k hk)⟩
  rw [vsL_app, e]
  show vStep fv f' (t + 1) 5 = _
  rw [vStep, if_neg (fun y => absurd y.1 (by decide)), if_pos ⟨by decide, by omega⟩, Nat.add_sub_cancel, ev]
theorem CV_op {fv : Int32 → Int32} {n : Nat} {st st2 : List Int32} {v v2 k : Int32} (h : CV fv (n + 1) st v) (h2 : CV fv n st2 v2) (k1 : ¬ k &&& 15 ≤ 4) (k2 : ¬ k &&& 15 = 5) (k3 : k &&& 15 = k) : CV fv (n + 1) (st ++ (st2 ++ [k])) (jnV k v v2) := by
  intro f t ht
  obtain ⟨f1, e1, ev1, ek1⟩ := h f t ht
  obtain ⟨f2, e2, ev2, ek2⟩ := h2 f1 (t + 1) (by omega)
  refine ⟨upd f2 t (jnV k v v2), ?_, pk_us .., fun j hj => (pk_un (by omega)).trans ((ek2 j (by omega)).trans (ek1 j hj))⟩
  rw [vsL_app, e1, vsL_app, e2]
  show vStep fv f2 (t + 1 + 1) k = _
  rw [vStep, if_neg (fun y => k1 y.1), if_neg (fun y => k2 y.1), if_pos (by omega), k3]
  have x1 : f2 t = v := (ek2 t (by omega)).trans ev1
  rw [show t + 1 + 1 - 2 = t by omega, show t + 1 + 1 - 1 = t + 1 by omega, x1, ev2]
/-- below a level nothing changes -/
def AgW (n : Nat) (W W' : TW) : Prop := ∀ k, k < n → W'.ke k = W.ke k ∧ W'.kb k = W.kb k ∧ W'.ah k = W.ah k ∧ W'.ag k = W.ag k ∧ W'.su k = W.su k ∧ W'.sb k = W.sb k ∧ W'.te k = W.te k ∧ W'.tb k = W.tb k ∧ W'.bn k = W.bn k
theorem AgW.refl (n : Nat) (W : TW) : AgW n W W := fun _ _ => ⟨rfl, rfl, rfl, rfl, rfl, rfl, rfl, rfl, rfl⟩
theorem AgW.trans {n : Nat} {A B C : TW} (h : AgW n A B) (g : AgW n B C) : AgW n A C := fun k hk => by
  have ⟨a1, a2, a3, a4, a5, a6, a7, a8, a9⟩ := h k hk
  have ⟨b1, b2, b3, b4, b5, b6, b7, b8, b9⟩ := g k hk
  exact ⟨b1.trans a1, b2.trans a2, b3.trans a3, b4.trans a4, b5.trans a5, b6.trans a6, b7.trans a7, b8.trans a8, b9.trans a9⟩
theorem AgW.le {n m : Nat} {A B : TW} (h : AgW n A B) (hm : m ≤ n) : AgW m A B := fun k hk => h k (by omega)
abbrev NPd (d : Nat) (W : TW) : Prop := d = 0 ∨ ¬ W.bn d = 1
theorem wkNots_np {bn : Fn} {v : Int32} : ∀ d, (d = 0 ∨ ¬ bn d = 1) → wkNots bn d v = (d, v)
  | 0, _ => rfl
  | d + 1, h => by rw [wkNots, if_neg (h.elim (fun y => by omega) id)]
section XEV
variable {C : Nat → Nat} {l d : Nat} {fv : Int32 → Int32} {vo : Fn}
def EvR (fv : Int32 → Int32) (vo : Fn) (d need : Nat) (T : Int32 → TW → TW → Prop) (sub : Nat → RL) : Prop := ∀ s s' st cd, sub s = .inr (s', st, cd) → ((4 : Int32) ∈ st → fv 4 = vo 4) → ∃ v, CV fv need st v ∧ ∀ W, NPd d W → ∃ W', wkL vo (W, d) cd = (W', d) ∧ T v W W' ∧ W'.bn d = W.bn d ∧ okL vo (W, d) cd
theorem st_pre {opf : Nat → Nat} {sub : Nat → RL} : ∀ {m s st cd s' st' cd'}, lpP C l opf sub m s st cd = .inr (s', st', cd') → ∃ z, st' = st ++ z
  | 0, s, st, cd, s', st', cd', h => by
    simp only [lpP, Sum.inr.injEq, Prod.mk.injEq] at h
    exact ⟨[], by rw [List.append_nil, h.2.1]⟩
  | m + 1, s, st, cd, s', st', cd', h => by
    rw [lpP] at h
    split at h
    · simp only [Sum.inr.injEq, Prod.mk.injEq] at h
      exact ⟨[], by rw [List.append_nil, h.2.1]⟩
    · cases e : sub (tkX C l s) with
      | inl g => rw [e] at h; exact (inl_ne h).elim
      | inr r =>
        rcases r with ⟨s2, st2, cd2⟩
        rw [e] at h
        obtain ⟨z, e3⟩ := st_pre h
        exact ⟨st2 ++ [nI (opS (opf s))] ++ z, by rw [e3]; simp⟩
theorem lev_ev {T1 T2 : Int32 → TW → TW → Prop} {n m : Nat} {op : Nat → Nat} {sub : Nat → RL} (h : EvR fv vo d n T1 sub) (ha : ∀ v W W', T1 v W W' → T2 v W W') (hb : ∀ s, ¬ op s = 0 → ∀ v1 v2 W W1, T2 v1 W W1 → ∃ W2, wkStep vo W1 d (nI (op s)) = (W2, d) ∧ wkOk d (nI (op s)) ∧ W2.bn d = W1.bn d ∧ ∀ W3, T1 v2 W2 W3 → T2 (jnV (nI (opS (op s))) v1 v2) W W3) (hk : ∀ s, ¬ op s = 0 → ¬ nI (opS (op s)) &&& 15 ≤ 4 ∧ ¬ nI (opS (op s)) &&& 15 = 5 ∧ nI (opS (op s)) &&& 15 = nI (opS (op s))) : EvR fv vo d (n + 1) T2 (levP C l op sub m) := by
  have loop : ∀ m s st cd v1, CV fv (n + 1) st v1 → (∀ W, NPd d W → ∃ W', wkL vo (W, d) cd = (W', d) ∧ T2 v1 W W' ∧ W'.bn d = W.bn d ∧ okL vo (W, d) cd) → ∀ s' st' cd', lpP C l op sub m s st cd = .inr (s', st', cd') → ((4 : Int32) ∈ st' → fv 4 = vo 4) → ∃ v, CV fv (n + 1) st' v ∧ ∀ W, NPd d W → ∃ W', wkL vo (W, d) cd' = (W', d) ∧ T2 v W W' ∧ W'.bn d = W.bn d ∧ okL vo (W, d) cd' := by
    intro m
    induction m with
    | zero =>
      intro s st cd v1 c1 w1 s' st' cd' e g4
      simp only [lpP, Sum.inr.injEq, Prod.mk.injEq] at e
      obtain ⟨rfl, rfl, rfl⟩ := e
      exact ⟨v1, c1, w1⟩
    | succ m ih =>
      intro s st cd v1 c1 w1 s' st' cd' e g4
      rw [lpP] at e
      split at e
      · simp only [Sum.inr.injEq, Prod.mk.injEq] at e
        obtain ⟨rfl, rfl, rfl⟩ := e
        exact ⟨v1, c1, w1⟩
      · rename_i q
        cases e2 : sub (tkX C l s) with
        | inl f => rw [e2] at e; exact (inl_ne e).elim
        | inr r =>
          rcases r with ⟨s2, st2, cd2⟩
          rw [e2] at e
          have pre : ∃ z, st' = (st ++ (st2 ++ [nI (opS (op s))])) ++ z := st_pre e
          have m4 : (4 : Int32) ∈ st2 → fv 4 = vo 4 := fun y => g4 (by
            obtain ⟨z, ez⟩ := pre
            rw [ez]
            simp [y])
          obtain ⟨v2, c2, w2⟩ := h _ _ _ _ e2 m4
          have ⟨k1, k2, k3⟩ := hk s q
          refine ih s2 _ _ (jnV (nI (opS (op s))) v1 v2) (CV_op c1 c2 k1 k2 k3) (fun W np => ?_) s' st' cd' e g4
          obtain ⟨W1, a1, a2, a3, a4⟩ := w1 W np
          obtain ⟨W2, b1, b2, b3, b4⟩ := hb s q v1 v2 W W1 a2
          have np2 : NPd d W2 := by
            show d = 0 ∨ ¬ W2.bn d = 1
            rw [b3, a3]
            exact np
          obtain ⟨W3, d1, d2, d3, d4⟩ := w2 W2 np2
          have eW : wkL vo (W, d) (cd ++ (nI (op s) :: cd2)) = (W3, d) := by
            rw [wkL_app, a1]
            show wkL vo (wkStep vo W1 d (nI (op s))) cd2 = _
            rw [b1, d1]
          refine ⟨W3, eW, b4 W3 d2, by rw [d3, b3, a3], ?_⟩
          refine okL_app vo _ _ _ a4 ?_
          rw [a1]
          refine ⟨b2, ?_⟩
          show okL vo (wkStep vo W1 d (nI (op s))) cd2
          rw [b1]
          exact d4
  intro s s' st cd e g4
  unfold levP at e
  cases e2 : sub s with
  | inl f => rw [e2] at e; exact (inl_ne e).elim
  | inr r =>
    rcases r with ⟨s1, st1, cd1⟩
    rw [e2] at e
    have pre : ∃ z, st = st1 ++ z := st_pre e
    have m4 : (4 : Int32) ∈ st1 → fv 4 = vo 4 := fun y => g4 (by
      obtain ⟨z, ez⟩ := pre
      rw [ez]
      simp [y])
    obtain ⟨v1, c1, w1⟩ := h _ _ _ _ e2 m4
    exact loop m s1 st1 cd1 v1 (c1.mono (by omega)) (fun W np => by
      obtain ⟨W', a1, a2, a3, a4⟩ := w1 W np
      exact ⟨W', a1, ha _ _ _ a2, a3, a4⟩) s' st cd e g4
end XEV
