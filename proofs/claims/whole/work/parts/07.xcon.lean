/-! what the small world says of the machine's heap: place r is the cell B + r; foreign places are the script, the texts, their bytes -/
def xphi (B : Nat) (fo : Nat → Nat) (r : Nat) : Nat := if r < 1000000 then B + r else fo r
def xv (f : Nat → Nat) : Value → Value
  | .ref a => .ref (f a)
  | v => v
def xva (f : Nat → Nat) : vp_A → vp_A
  | (n, .inr (.inr (.inr (.inr g)))) => (n, .inr (.inr (.inr (.inr (fun j => (g j).map f)))))
  | a => a
def xe (f : Nat → Nat) (ka : FieldType → ClassId) : XE → va_E
  | .inl (ty, a) => .inl (ka ty, xva f a)
  | .inr (ci, fs) => .inr (ci, fs.map (xv f))
def xwsF (f : Nat → Nat) (ka : FieldType → ClassId) : Nat → XWd → va_W
  | _, [] => []
  | k, e :: w => (f k, xe f ka e) :: xwsF f ka (k + 1) w
abbrev xws (f : Nat → Nat) (ka : FieldType → ClassId) (w : XWd) : va_W := xwsF f ka 0 w
theorem xwsF_at (f : Nat → Nat) (ka : FieldType → ClassId) : ∀ (w : XWd) (k j : Nat), (xwsF f ka k w)[j]? = (xnth w j).map (fun e => (f (k + j), xe f ka e))
  | [], k, j => by simp [xwsF, xnth]
  | e :: w, k, 0 => by simp [xwsF, xnth]
  | e :: w, k, j + 1 => by
    simp only [xwsF, xnth, List.getElem?_cons_succ]
    rw [xwsF_at f ka w (k + 1) j]
    rw [show k + 1 + j = k + (j + 1) by omega]
theorem xws_at {f : Nat → Nat} {ka : FieldType → ClassId} {w : XWd} {j : Nat} {e : XE} (h : xnth w j = some e) : (xws f ka w)[j]? = some (f j, xe f ka e) := by
  rw [xwsF_at, h]
  simp
theorem xwsF_set (f : Nat → Nat) (ka : FieldType → ClassId) : ∀ (w : XWd) (k j : Nat) (e : XE), (xwsF f ka k w).set j (f (k + j), xe f ka e) = xwsF f ka k (xset w j e)
  | [], k, j, e => by simp [xwsF, xset]
  | a :: w, k, 0, e => by simp [xwsF, xset]
  | a :: w, k, j + 1, e => by
    simp only [xwsF, xset, List.set_cons_succ]
    rw [← xwsF_set f ka w (k + 1) j e, show k + 1 + j = k + (j + 1) by omega]
theorem xws_set {f : Nat → Nat} {ka : FieldType → ClassId} {w : XWd} {j : Nat} {e : XE} : (xws f ka w).set j (f j, xe f ka e) = xws f ka (xset w j e) := by
  have h := xwsF_set f ka w 0 j e
  rwa [Nat.zero_add] at h
theorem xwsF_app (f : Nat → Nat) (ka : FieldType → ClassId) : ∀ (w : XWd) (k : Nat) (e : XE), xwsF f ka k (w ++ [e]) = xwsF f ka k w ++ [(f (k + w.length), xe f ka e)]
  | [], k, e => by simp [xwsF]
  | a :: w, k, e => by
    simp only [List.cons_append, xwsF, List.length_cons]
    rw [xwsF_app f ka w (k + 1) e, show k + 1 + w.length = k + (w.length + 1) by omega]
theorem xws_app (f : Nat → Nat) (ka : FieldType → ClassId) (w : XWd) (e : XE) : xws f ka (w ++ [e]) = xws f ka w ++ [(f w.length, xe f ka e)] := by
  have h := xwsF_app f ka w 0 e
  rwa [Nat.zero_add] at h
theorem xws_in {f : Nat → Nat} {ka : FieldType → ClassId} {w : XWd} {j : Nat} {q : Nat × va_E} (h : (xws f ka w)[j]? = some q) : ∃ e, xnth w j = some e ∧ q = (f j, xe f ka e) := by
  rw [xwsF_at] at h
  cases hx : xnth w j with
  | none => rw [hx] at h; cases h
  | some e =>
    rw [hx] at h
    simp at h
    exact ⟨e, rfl, h.symm⟩
theorem xnth_lt {α : Type} {l : List α} {j : Nat} {e : α} (h : xnth l j = some e) : j < l.length := by
  rw [xnth_eq] at h
  exact (List.getElem?_eq_some_iff.mp h).1
theorem xnth_some {α : Type} {l : List α} {j : Nat} (h : j < l.length) : ∃ e, xnth l j = some e := ⟨l[j], by rw [xnth_eq]; exact List.getElem?_eq_getElem h⟩
/-- the cells are apart and lie from B on -/
theorem xws_D {B : Nat} {fo : Nat → Nat} {ka : FieldType → ClassId} {w : XWd} (hw : w.length ≤ 1000000) : va_D (fun q : Nat => B ≤ q) (xws (xphi B fo) ka w) := by
  refine ⟨fun i j x y hi hj hxy => ?_, fun k q hk => ?_⟩
  · obtain ⟨e1, h1, rfl⟩ := xws_in hi
    obtain ⟨e2, h2, rfl⟩ := xws_in hj
    have l1 := xnth_lt h1
    have l2 := xnth_lt h2
    have z : xphi B fo i = xphi B fo j := hxy
    rw [xphi, xphi, if_pos (by omega), if_pos (by omega)] at z
    omega
  · obtain ⟨e1, h1, rfl⟩ := xws_in hk
    have l1 := xnth_lt h1
    show B ≤ xphi B fo k
    rw [xphi, if_pos (by omega)]
    omega
/-- locals -/
def xlr (f : Nat → Nat) (nL : Nat) (loc : XL) (ls : Array Slot) : Prop := ls.size = nL ∧ lv_wf ls ∧ loc.length = nL ∧ ∀ (i : Nat) (v : Value), xnth loc i = some (some v) → ls[i]? = some (.val (xv f v))
def xll (f : Nat → Nat) (loc : XL) : Nat → List (Nat × Value)
  | 0 => []
  | n + 1 => match xnth loc n with
    | some (some v) => (n, xv f v) :: xll f loc n
    | _ => xll f loc n
theorem xll_mem (f : Nat → Nat) (loc : XL) : ∀ (n : Nat) (i : Nat) (v : Value), i < n → xnth loc i = some (some v) → (i, xv f v) ∈ xll f loc n
  | 0, i, v, h, _ => absurd h (Nat.not_lt_zero i)
  | n + 1, i, v, h, hv => by
    rcases Nat.lt_or_ge i n with hl | hl
    · have ih := xll_mem f loc n i v hl hv
      unfold xll
      split
      · exact List.mem_cons_of_mem _ ih
      · exact ih
    · have e : i = n := by omega
      subst e
      unfold xll
      rw [hv]
      exact List.mem_cons_self
theorem xll_of (f : Nat → Nat) (loc : XL) : ∀ (n : Nat) (q : Nat × Value), q ∈ xll f loc n → ∃ v, xnth loc q.1 = some (some v) ∧ q.2 = xv f v
  | 0, q, h => by simp [xll] at h
  | n + 1, q, h => by
    unfold xll at h
    split at h
    · rename_i v hv
      rcases List.mem_cons.mp h with rfl | h
      · exact ⟨v, hv, rfl⟩
      · exact xll_of f loc n q h
    · exact xll_of f loc n q h
theorem xlr_has {f : Nat → Nat} {nL : Nat} {loc : XL} {ls : Array Slot} (h : xlr f nL loc ls) : lv_has ls nL (xll f loc nL) := by
  refine ⟨h.1, h.2.1, fun q hq => ?_⟩
  obtain ⟨v, h1, h2⟩ := xll_of f loc nL q hq
  rw [h2]
  exact h.2.2.2 _ _ h1
theorem xv_cat (f : Nat → Nat) (v : Value) : (xv f v).category = v.category := by cases v <;> rfl
theorem xnth_set {α : Type} (l : List α) (i j : Nat) (a : α) : xnth (xset l i a) j = if i = j then (if i < l.length then some a else none) else xnth l j := by
  rw [xnth_eq, xset_eq, xnth_eq, List.getElem?_set]
theorem xset_at {α : Type} {l : List α} {i : Nat} {a : α} (h : i < l.length) : xnth (xset l i a) i = some a := by rw [xnth_set, if_pos rfl, if_pos h]
theorem xset_ne {α : Type} {l : List α} {i j : Nat} {a : α} (h : i ≠ j) : xnth (xset l i a) j = xnth l j := by rw [xnth_set, if_neg h]
/-- what a store of one slot leaves -/
theorem xst_spec {loc : XL} {i : Nat} {v : Value} (hi : i < loc.length) : (xst loc i v).length = loc.length ∧ ∀ (j : Nat) (u : Value), xnth (xst loc i v) j = some (some u) → (j = i ∧ u = v) ∨ (j ≠ i ∧ xnth loc j = some (some u) ∧ ¬ (j + 1 = i ∧ u.category = 2)) := by
  cases i with
  | zero =>
    refine ⟨by simp [xst, xset_len], fun j u h => ?_⟩
    simp only [xst] at h
    by_cases hj : j = 0
    · subst hj
      rw [xset_at hi] at h
      cases h
      exact Or.inl ⟨rfl, rfl⟩
    · rw [xset_ne (Ne.symm hj)] at h
      exact Or.inr ⟨hj, h, fun q => by omega⟩
  | succ i =>
    have key : ∀ (l0 : XL), l0.length = loc.length → (∀ (j : Nat) (u : Value), xnth l0 j = some (some u) → xnth loc j = some (some u) ∧ ¬ (j = i ∧ u.category = 2)) → ∀ (j : Nat) (u : Value), xnth (xset l0 (i + 1) (some v)) j = some (some u) → (j = i + 1 ∧ u = v) ∨ (j ≠ i + 1 ∧ xnth loc j = some (some u) ∧ ¬ (j + 1 = i + 1 ∧ u.category = 2)) := by
      intro l0 hl h0 j u h
      by_cases hj : j = i + 1
      · subst hj
        rw [xset_at (by rw [hl]; exact hi)] at h
        cases h
        exact Or.inl ⟨rfl, rfl⟩
      · rw [xset_ne (Ne.symm hj)] at h
        obtain ⟨h1, h2⟩ := h0 j u h
        exact Or.inr ⟨hj, h1, fun q => h2 ⟨by omega, q.2⟩⟩
    have kill : ∀ (j : Nat) (u : Value), xnth (xset loc i none) j = some (some u) → xnth loc j = some (some u) ∧ ¬ (j = i ∧ u.category = 2) := by
      intro j u h
      by_cases hj : j = i
      · subst hj
        rw [xset_at (by omega)] at h
        cases h
      · rw [xset_ne (Ne.symm hj)] at h
        exact ⟨h, fun q => hj q.1⟩
    simp only [xst]
    split
    · exact ⟨by simp [xset_len], key _ (by simp [xset_len]) kill⟩
    · exact ⟨by simp [xset_len], key _ (by simp [xset_len]) kill⟩
    · rename_i n1 n2
      refine ⟨by simp [xset_len], key _ rfl (fun j u h => ⟨h, fun q => ?_⟩)⟩
      obtain ⟨rfl, hc⟩ := q
      cases u with
      | long x => exact n1 x h
      | double x => exact n2 x h
      | _ => simp [Value.category] at hc
theorem xlr_store {f : Nat → Nat} {nL : Nat} {loc : XL} {ls ls' : Array Slot} {i : Nat} {v : Value} (h : xlr f nL loc ls) (hi : i < loc.length) (h' : lv_has ls' nL ((i, xv f v) :: (xll f loc nL).filter (fun q => !(q.1 == i) && !(q.1 + 1 == i && q.2.category == 2)))) : xlr f nL (xst loc i v) ls' := by
  obtain ⟨z, hs⟩ := xst_spec (v := v) hi
  refine ⟨h'.1, h'.2.1, by rw [z]; exact h.2.2.1, fun j u hu => ?_⟩
  rcases hs j u hu with ⟨rfl, rfl⟩ | ⟨h1, h2, h3⟩
  · exact h'.2.2 _ List.mem_cons_self
  · have hl := xnth_lt h2
    refine h'.2.2 (j, xv f u) (List.mem_cons_of_mem _ (List.mem_filter.mpr ⟨xll_mem f loc nL j u (by rw [← h.2.2.1]; exact hl) h2, ?_⟩))
    have : ¬ (j + 1 = i ∧ (xv f u).category = 2) := by rw [xv_cat]; exact h3
    simp only [Bool.and_eq_true, Bool.not_eq_true', beq_eq_false_iff_ne, ne_eq, Bool.and_eq_false_iff]
    refine ⟨h1, ?_⟩
    by_cases q : j + 1 = i
    · exact Or.inr (fun e => this ⟨q, e⟩)
    · exact Or.inl q
theorem xlr_store2 {f : Nat → Nat} {nL : Nat} {loc : XL} {ls ls' : Array Slot} {i : Nat} {v : Value} (h : xlr f nL loc ls) (hi : i + 1 < loc.length) (h' : lv_has ls' nL ((i, xv f v) :: (xll f loc nL).filter (fun q => !(q.1 == i) && (!(q.1 == i + 1) && !(q.1 + 1 == i && q.2.category == 2))))) : xlr f nL (xst2 loc i v) ls' := by
  obtain ⟨z, hs⟩ := xst_spec (loc := loc) (i := i) (v := v) (by omega)
  refine ⟨h'.1, h'.2.1, by rw [xst2, xset_len, z]; exact h.2.2.1, fun j u hu => ?_⟩
  rw [xst2] at hu
  by_cases hj : j = i + 1
  · subst hj
    rw [xset_at (by rw [z]; exact hi)] at hu
    cases hu
  · rw [xset_ne (Ne.symm hj)] at hu
    rcases hs j u hu with ⟨rfl, rfl⟩ | ⟨h1, h2, h3⟩
    · exact h'.2.2 _ List.mem_cons_self
    · have hl := xnth_lt h2
      refine h'.2.2 (j, xv f u) (List.mem_cons_of_mem _ (List.mem_filter.mpr ⟨xll_mem f loc nL j u (by rw [← h.2.2.1]; exact hl) h2, ?_⟩))
      have : ¬ (j + 1 = i ∧ (xv f u).category = 2) := by rw [xv_cat]; exact h3
      simp only [Bool.and_eq_true, Bool.not_eq_true', beq_eq_false_iff_ne, ne_eq, Bool.and_eq_false_iff]
      refine ⟨h1, hj, ?_⟩
      by_cases q : j + 1 = i
      · exact Or.inr (fun e => this ⟨q, e⟩)
      · exact Or.inl q
/-- the entry -/
theorem xargs_at (f : Nat → Nat) : ∀ (vs : List Value) (k i : Nat) (v : Value), xnth (xargs vs) i = some (some v) → (k + i, xv f v) ∈ lv_args k (vs.map (xv f))
  | [], k, i, v, h => by simp [xargs, xnth] at h
  | a :: vs, k, i, v, h => by
    have two : ∀ (b : Value), b.category = 2 → xnth (some b :: none :: xargs vs) i = some (some v) → (k + i, xv f v) ∈ lv_args k ((b :: vs).map (xv f)) := by
      intro b hb h
      match i, h with
      | 0, h =>
        simp [xnth] at h
        subst h
        simp [lv_args]
      | 1, h => simp [xnth] at h
      | i + 2, h =>
        simp only [xnth] at h
        have ih := xargs_at f vs (k + 2) i v h
        simp only [List.map_cons, lv_args]
        rw [xv_cat, if_pos hb, show k + (i + 2) = k + 2 + i by omega]
        exact List.mem_cons_of_mem _ ih
    have one : ∀ (b : Value), ¬ b.category = 2 → xnth (some b :: xargs vs) i = some (some v) → (k + i, xv f v) ∈ lv_args k ((b :: vs).map (xv f)) := by
      intro b hb h
      match i, h with
      | 0, h =>
        simp [xnth] at h
        subst h
        simp [lv_args]
      | i + 1, h =>
        simp only [xnth] at h
        have ih := xargs_at f vs (k + 1) i v h
        simp only [List.map_cons, lv_args]
        rw [xv_cat, if_neg hb, show k + (i + 1) = k + 1 + i by omega]
        exact List.mem_cons_of_mem _ ih
    cases a with
    | long x => exact two _ rfl h
    | double x => exact two _ rfl h
    | _ => exact one _ (by simp [Value.category]) h
theorem xargs_len (f : Nat → Nat) : ∀ (vs : List Value), (xargs vs).length = (lg_sl (vs.map (xv f))).length
  | [] => rfl
  | a :: vs => by
    have ih := xargs_len f vs
    cases a <;> simp [xargs, lg_sl, xv, Value.category] at ih ⊢ <;> omega
theorem xnth_rep (n i : Nat) (v : Value) : ¬ xnth (List.replicate n (none : Option Value)) i = some (some v) := by
  rw [xnth_eq]
  intro h
  have := List.mem_of_getElem? h
  simp at this
theorem xnth_appL {α : Type} (a b : List α) (i : Nat) : xnth (a ++ b) i = if i < a.length then xnth a i else xnth b (i - a.length) := by
  rw [xnth_eq, xnth_eq, xnth_eq, List.getElem?_append]
theorem xlr_entry (f : Nat → Nat) (vs : List Value) {n : Nat} (h : (xargs vs).length ≤ n) : xlr f n (xent n vs) ((lg_sl (vs.map (xv f)) ++ List.replicate (n - (lg_sl (vs.map (xv f))).length) Slot.unset).toArray) := by
  have h0 := lv_entry (vs.map (xv f)) (n := n) (by rw [← xargs_len]; exact h)
  refine ⟨h0.1, h0.2.1, by simp [xent]; omega, fun i v hv => ?_⟩
  rw [xent, xnth_appL] at hv
  split at hv
  · have := xargs_at f vs 0 i v hv
    rw [Nat.zero_add] at this
    exact h0.2.2 _ this
  · exact absurd hv (xnth_rep _ _ _)
