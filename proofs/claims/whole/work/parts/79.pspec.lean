/-! what a told ship is, without machines -/
def FtP (l : Nat) (sub : Nat → RL) : Prop := ∀ s, s ≤ l → ∀ f, sub s = .inl f → 0 < f ∧ f ≤ 5 + 16 * l
theorem lp_ft {C : Nat → Nat} {l : Nat} {op : Nat → Nat} {sub : Nat → RL} (hs : FwP l sub) (hf : FtP l sub) : ∀ m s st cd, s ≤ l → ∀ f, lpP C l op sub m s st cd = .inl f → 0 < f ∧ f ≤ 5 + 16 * l
  | 0, s, st, cd, h1, f, h => by
    rw [lpP] at h
    cases h
  | m + 1, s, st, cd, h1, f, h => by
    rw [lpP] at h
    split at h
    · cases h
    · have hx := tkX_le (C := C) h1
      cases e : sub (tkX C l s) with
      | inl g =>
        rw [e] at h
        have hg := hf _ hx.2.1 _ e
        have h : Sum.inl g = Sum.inl f := h
        cases h
        exact hg
      | inr r =>
        rcases r with ⟨s2, st2, cd2⟩
        rw [e] at h
        exact lp_ft hs hf m s2 _ _ (hs _ hx.2.1 _ _ _ e).2.1 f h
theorem lev_ft {C : Nat → Nat} {l : Nat} {op : Nat → Nat} {sub : Nat → RL} {m : Nat} (hs : FwP l sub) (hf : FtP l sub) : FtP l (levP C l op sub m) := by
  intro s hsl f h
  unfold levP at h
  cases e : sub s with
  | inl g =>
    rw [e] at h
    have hg := hf _ hsl _ e
    have h : Sum.inl g = Sum.inl f := h
    cases h
    exact hg
  | inr r =>
    rcases r with ⟨s2, st2, cd2⟩
    rw [e] at h
    exact lp_ft hs hf m s2 _ _ (hs _ hsl _ _ _ e).2.1 f h
theorem all_ft {C : Nat → Nat} {l : Nat} {part : Nat → RL} (h : FwP l part) (hf : FtP l part) : FtP l (allP C l part) :=
  lev_ft (lev_fw (fun _ => op3_lt) (lev_fw (fun _ => op2_lt) (lev_fw (fun _ => op1_lt) h))) (lev_ft (lev_fw (fun _ => op2_lt) (lev_fw (fun _ => op1_lt) h)) (lev_ft (lev_fw (fun _ => op1_lt) h) (lev_ft h hf)))
theorem par_ft {C : Nat → Nat} {l : Nat} : ∀ e, FtP l (parP C l e)
  | 0, s, hsl, f, h => by
    rw [parP] at h
    split at h <;> cases h <;> omega
  | e + 1, s, hsl, f, h => by
    have hx := tkX_le (C := C) hsl
    rw [parP] at h
    split at h
    · cases h
    · split at h
      · cases e2 : parP C l e (tkX C l s) with
        | inl g =>
          rw [e2] at h
          have hg := par_ft e _ hx.2.1 _ e2
          have h : Sum.inl g = Sum.inl f := h
          cases h
          exact hg
        | inr r =>
          rw [e2] at h
          rcases r with ⟨s2, st2, cd2⟩
          simp only [ntP] at h
          cases h
      · split at h
        · cases e2 : allP C l (parP C l e) (tkX C l s) with
          | inl g =>
            rw [e2] at h
            have hg := all_ft (par_fw e) (par_ft e) _ hx.2.1 _ e2
            have h : Sum.inl g = Sum.inl f := h
            cases h
            exact hg
          | inr r =>
            rw [e2] at h
            rcases r with ⟨s2, st2, cd2⟩
            have z := all_fw (par_fw e) _ hx.2.1 _ _ _ e2
            simp only [prP] at h
            split at h
            · cases h
            · cases h; omega
        · cases h; omega
/-- the law's steps as they were told -/
def LwI (C : Nat → Nat) (l : Nat) (L : TLaw) (cd : List Int32) : Prop :=
  (cd = [] ∧ L.steps 0 = 3 ∧ L.steps 1 = 2 ∧ L.steps 2 = 10 ∧ L.size = 3 ∧ L.looks = 0) ∨ ∃ s s' st, s ≤ l ∧ allP C l (parP C l 5) s = .inr (s', st, cd) ∧ ∃ L0 : TLaw, L0.size = 0 ∧ L0.looks = 0 ∧ L = lwA L0 st
abbrev DrOk (C : Nat → Nat) (l : Nat) (D : TShip) (n p z : Nat) (tf : Nat → Bool) (cd : List Int32) : Prop := (D.men = nI n) ∧ (n ≤ 6) ∧ (D.posts = nI p) ∧ (p ≤ 4) ∧ (∀ k, k < n → rng (D.kind k) 3) ∧ (∀ k, k < n → rng (D.green k) 60) ∧ (∀ k, k < n → rng (D.hands k) 5) ∧ (∀ b, b < p → rng (D.spray b) 9) ∧ (∀ b, b < p → rng (D.holds b) 6) ∧ (z ≤ 12) ∧ (D.seas = nI (if z = 0 then 1 else z)) ∧ (∀ i, i < z → rng (D.sea i) 3) ∧ (z = 0 → D.sea 0 = 1) ∧ (tf 2 = true ↔ 0 < z) ∧ (∃ h, 1 ≤ h ∧ h ≤ 9 ∧ D.shade = nI h) ∧ (rng D.lemon 20) ∧ (rng D.harbour 9) ∧ (tf 6 = true ↔ 0 < cd.length) ∧ (LwI C l D.law cd)
theorem DrOk.men {C : Nat → Nat} {l : Nat} {D : TShip} {n p z : Nat} {tf : Nat → Bool} {cd : List Int32} (h : DrOk C l D n p z tf cd) : D.men = nI n := h.1
theorem DrOk.n6 {C : Nat → Nat} {l : Nat} {D : TShip} {n p z : Nat} {tf : Nat → Bool} {cd : List Int32} (h : DrOk C l D n p z tf cd) : n ≤ 6 := h.2.1
theorem DrOk.posts {C : Nat → Nat} {l : Nat} {D : TShip} {n p z : Nat} {tf : Nat → Bool} {cd : List Int32} (h : DrOk C l D n p z tf cd) : D.posts = nI p := h.2.2.1
theorem DrOk.p4 {C : Nat → Nat} {l : Nat} {D : TShip} {n p z : Nat} {tf : Nat → Bool} {cd : List Int32} (h : DrOk C l D n p z tf cd) : p ≤ 4 := h.2.2.2.1
theorem DrOk.kind {C : Nat → Nat} {l : Nat} {D : TShip} {n p z : Nat} {tf : Nat → Bool} {cd : List Int32} (h : DrOk C l D n p z tf cd) : ∀ k, k < n → rng (D.kind k) 3 := h.2.2.2.2.1
theorem DrOk.green {C : Nat → Nat} {l : Nat} {D : TShip} {n p z : Nat} {tf : Nat → Bool} {cd : List Int32} (h : DrOk C l D n p z tf cd) : ∀ k, k < n → rng (D.green k) 60 := h.2.2.2.2.2.1
theorem DrOk.hands {C : Nat → Nat} {l : Nat} {D : TShip} {n p z : Nat} {tf : Nat → Bool} {cd : List Int32} (h : DrOk C l D n p z tf cd) : ∀ k, k < n → rng (D.hands k) 5 := h.2.2.2.2.2.2.1
theorem DrOk.spray {C : Nat → Nat} {l : Nat} {D : TShip} {n p z : Nat} {tf : Nat → Bool} {cd : List Int32} (h : DrOk C l D n p z tf cd) : ∀ b, b < p → rng (D.spray b) 9 := h.2.2.2.2.2.2.2.1
theorem DrOk.holds {C : Nat → Nat} {l : Nat} {D : TShip} {n p z : Nat} {tf : Nat → Bool} {cd : List Int32} (h : DrOk C l D n p z tf cd) : ∀ b, b < p → rng (D.holds b) 6 := h.2.2.2.2.2.2.2.2.1
theorem DrOk.z12 {C : Nat → Nat} {l : Nat} {D : TShip} {n p z : Nat} {tf : Nat → Bool} {cd : List Int32} (h : DrOk C l D n p z tf cd) : z ≤ 12 := h.2.2.2.2.2.2.2.2.2.1
theorem DrOk.seas {C : Nat → Nat} {l : Nat} {D : TShip} {n p z : Nat} {tf : Nat → Bool} {cd : List Int32} (h : DrOk C l D n p z tf cd) : D.seas = nI (if z = 0 then 1 else z) := h.2.2.2.2.2.2.2.2.2.2.1
theorem DrOk.sea {C : Nat → Nat} {l : Nat} {D : TShip} {n p z : Nat} {tf : Nat → Bool} {cd : List Int32} (h : DrOk C l D n p z tf cd) : ∀ i, i < z → rng (D.sea i) 3 := h.2.2.2.2.2.2.2.2.2.2.2.1
theorem DrOk.sea0 {C : Nat → Nat} {l : Nat} {D : TShip} {n p z : Nat} {tf : Nat → Bool} {cd : List Int32} (h : DrOk C l D n p z tf cd) : z = 0 → D.sea 0 = 1 := h.2.2.2.2.2.2.2.2.2.2.2.2.1
theorem DrOk.tf2 {C : Nat → Nat} {l : Nat} {D : TShip} {n p z : Nat} {tf : Nat → Bool} {cd : List Int32} (h : DrOk C l D n p z tf cd) : tf 2 = true ↔ 0 < z := h.2.2.2.2.2.2.2.2.2.2.2.2.2.1
theorem DrOk.shade {C : Nat → Nat} {l : Nat} {D : TShip} {n p z : Nat} {tf : Nat → Bool} {cd : List Int32} (h : DrOk C l D n p z tf cd) : ∃ h, 1 ≤ h ∧ h ≤ 9 ∧ D.shade = nI h := h.2.2.2.2.2.2.2.2.2.2.2.2.2.2.1
theorem DrOk.lemon {C : Nat → Nat} {l : Nat} {D : TShip} {n p z : Nat} {tf : Nat → Bool} {cd : List Int32} (h : DrOk C l D n p z tf cd) : rng D.lemon 20 := h.2.2.2.2.2.2.2.2.2.2.2.2.2.2.2.1
theorem DrOk.harbour {C : Nat → Nat} {l : Nat} {D : TShip} {n p z : Nat} {tf : Nat → Bool} {cd : List Int32} (h : DrOk C l D n p z tf cd) : rng D.harbour 9 := h.2.2.2.2.2.2.2.2.2.2.2.2.2.2.2.2.1
theorem DrOk.tf6 {C : Nat → Nat} {l : Nat} {D : TShip} {n p z : Nat} {tf : Nat → Bool} {cd : List Int32} (h : DrOk C l D n p z tf cd) : tf 6 = true ↔ 0 < cd.length := h.2.2.2.2.2.2.2.2.2.2.2.2.2.2.2.2.2.1
theorem DrOk.law {C : Nat → Nat} {l : Nat} {D : TShip} {n p z : Nat} {tf : Nat → Bool} {cd : List Int32} (h : DrOk C l D n p z tf cd) : LwI C l D.law cd := h.2.2.2.2.2.2.2.2.2.2.2.2.2.2.2.2.2.2
theorem rng_nI {x m : Nat} (h : x ≤ m) : rng (nI x) m := ⟨x, h, rfl⟩
theorem upd_rng {f : Fn} {n m : Nat} {x : Int32} (h : ∀ k, k < n → rng (f k) m) (hx : rng x m) : ∀ k, k < n + 1 → rng (upd f n x k) m := by
  intro k hk
  by_cases q : k = n
  · rw [q, pk_us]; exact hx
  · rw [pk_un q]; exact h k (by omega)
section XPS
variable {C : Nat → Nat} {l s n p z : Nat} {tf : Nat → Bool} {cd : List Int32} {P : RSt → Prop} {D : TShip}
theorem clo_el {k : Nat → RSt} (sl : s ≤ l) (hf : ∀ f, 0 < f → f ≤ 5 + 16 * l → P (.inl f)) (hk : ∀ s', s < s' → s' ≤ l → P (k s')) : P (cloP C l s k) := by
  unfold cloP
  have hx := tkX_le (C := C) sl
  split
  · rename_i q
    exact hk _ (hx.2.2 (tkK_lt (by rw [q.1]; decide))) hx.2.1
  · exact hf _ (by omega) (by omega)
theorem num_el {k : Nat → Nat → RSt} {lo hi : Nat} (sl : s ≤ l) (hf : ∀ f, 0 < f → f ≤ 5 + 16 * l → P (.inl f)) (hk : ∀ v s', lo ≤ v → v ≤ hi → s < s' → s' ≤ l → P (k v s')) : P (numP C l lo hi s k) := by
  unfold numP
  have hx := tkX_le (C := C) sl
  split
  · rename_i q
    split
    · rename_i w
      exact hk _ _ w.1 w.2 (hx.2.2 (tkK_lt (by rw [q]; decide))) hx.2.1
    · exact hf _ (by omega) (by omega)
  · exact hf _ (by omega) (by omega)
theorem both_el {k : Nat → Nat → RSt} {w lo hi : Nat} (sl : s ≤ l) (hf : ∀ f, 0 < f → f ≤ 5 + 16 * l → P (.inl f)) (hk : ∀ v s', lo ≤ v → v ≤ hi → s < s' → s' ≤ l → P (k v s')) : P (bothP C l w lo hi s k) := by
  unfold bothP
  have hx := tkX_le (C := C) sl
  split
  · exact num_el hx.2.1 hf (fun v s' a1 a2 a3 a4 => hk v s' a1 a2 (by omega) a4)
  · exact hf _ (by omega) (by omega)
theorem new_el {k : Int64 → Nat → RSt} (sl : s ≤ l) (hf : ∀ f, 0 < f → f ≤ 5 + 16 * l → P (.inl f)) (hk : ∀ v s', s < s' → s' ≤ l → P (k v s')) : P (newP C l D n p s k) := by
  unfold newP
  have hx := tkX_le (C := C) sl
  split
  · rename_i q
    split
    · exact hk _ _ (hx.2.2 (tkK_lt (by rw [q.1]; decide))) hx.2.1
    · exact hf _ (by omega) (by omega)
  · exact hf _ (by omega) (by omega)
theorem kdV_rng (h : ¬ kdV C l s = -1) : rng (kdV C l s) 3 := by
  unfold kdV at h ⊢
  split at h
  · rename_i q
    rw [if_pos q]
    simp only [vl3, plN] at h ⊢
    split
    · exact rng_nI (x := 0) (by omega)
    · rename_i a; rw [if_neg a] at h
      split
      · exact rng_nI (x := 1) (by omega)
      · rename_i a; rw [if_neg a] at h
        split
        · exact rng_nI (x := 2) (by omega)
        · rename_i a; rw [if_neg a] at h
          split
          · exact rng_nI (x := 3) (by omega)
          · rename_i a; rw [if_neg a] at h
            exact absurd rfl h
  · exact absurd rfl h
theorem kd_el {k : Int32 → Nat → RSt} (sl : s ≤ l) (hf : ∀ f, 0 < f → f ≤ 5 + 16 * l → P (.inl f)) (hk : ∀ v s', rng v 3 → s ≤ s' → s' ≤ l → P (k v s')) : P (kdP C l s k) := by
  unfold kdP
  have hx := tkX_le (C := C) sl
  split
  · exact hf _ (by omega) (by omega)
  · rename_i q
    exact hk _ _ (kdV_rng q) hx.1 hx.2.1
theorem sea_el {k : Nat → Nat → TShip → RSt} (hf : ∀ f, 0 < f → f ≤ 5 + 16 * l → P (.inl f)) (hk : ∀ i s' D, 0 < i → s ≤ s' → s' ≤ l → DrOk C l D n p i (bup tf 2) cd → P (k i s' D)) : ∀ m i s' (D : TShip), i + m = 12 → s ≤ s' → s' ≤ l → (0 < i → DrOk C l D n p i (bup tf 2) cd) → (i = 0 → DrOk C l D n p 0 tf cd) → P (seaP C l k m i s' D) := by
  intro m
  induction m with
  | zero =>
    intro i s' D hi ss sl h1 h2
    rw [seaP]
    split
    · split
      · exact hf _ (by omega) (by omega)
      · exact hf _ (by omega) (by omega)
    · exact hk i s' D (by omega) ss sl (h1 (by omega))
  | succ m ih =>
    intro i s' D hi ss sl h1 h2
    rw [seaP]
    split
    · rename_i q
      exact hk i s' D q.1 ss sl (h1 q.1)
    · refine num_el sl hf (fun v s2 a1 a2 a3 a4 => ih (i + 1) s2 _ (by omega) (by omega) a4 (fun _ => ?_) (fun y => by omega))
      by_cases q : i = 0
      · have h := h2 q
        subst q
        exact ⟨h.men, h.n6, h.posts, h.p4, h.kind, h.green, h.hands, h.spray, h.holds, by omega, rfl, fun k hk => upd_rng (n := 0) (fun k hk => by omega) (rng_nI a2) k (by omega), fun y => by omega, by simp [bup], h.shade, h.lemon, h.harbour, by simpa [bup] using h.tf6, h.law⟩
      · have h := h1 (by omega)
        exact ⟨h.men, h.n6, h.posts, h.p4, h.kind, h.green, h.hands, h.spray, h.holds, by omega, by rw [if_neg (by omega)], upd_rng h.sea (rng_nI a2), fun y => by omega, by simp [bup], h.shade, h.lemon, h.harbour, h.tf6, h.law⟩
theorem man_el {k : Nat → TShip → RSt} (sl : s < l) (I : DrOk C l D n p z tf cd) (hf : ∀ f, 0 < f → f ≤ 5 + 16 * l → P (.inl f)) (hk : ∀ s' D, s < s' → s' ≤ l → DrOk C l D (n + 1) p z tf cd → P (k s' D)) : P (manP C l s D n p k) := by
  unfold manP
  have hx := tkX_le (C := C) (Nat.le_of_lt sl)
  split
  · rename_i q
    refine new_el hx.2.1 hf (fun nm s1 b1 b2 => kd_el b2 hf (fun kv s2 c1 c2 c3 => both_el c3 hf (fun g s3 d1 d2 d3 d4 => both_el d4 hf (fun hd s4 e1 e2 e3 e4 => hk s4 _ (by omega) e4 ?_))))
    exact ⟨by show D.men + 1 = _; rw [I.men, nI_succ], by omega, I.posts, I.p4, upd_rng I.kind c1, upd_rng I.green (rng_nI d2), upd_rng I.hands (rng_nI e2), I.spray, I.holds, I.z12, I.seas, I.sea, I.sea0, I.tf2, I.shade, I.lemon, I.harbour, I.tf6, I.law⟩
  · exact hf _ (by omega) (by omega)
theorem pst_el {k : Nat → TShip → RSt} (sl : s < l) (I : DrOk C l D n p z tf cd) (hf : ∀ f, 0 < f → f ≤ 5 + 16 * l → P (.inl f)) (hk : ∀ s' D, s < s' → s' ≤ l → DrOk C l D n (p + 1) z tf cd → P (k s' D)) : P (pstP C l s D n p k) := by
  unfold pstP
  have hx := tkX_le (C := C) (Nat.le_of_lt sl)
  split
  · rename_i q
    refine new_el hx.2.1 hf (fun nm s1 b1 b2 => both_el b2 hf (fun g s3 d1 d2 d3 d4 => both_el d4 hf (fun hd s4 e1 e2 e3 e4 => hk s4 _ (by omega) e4 ?_)))
    exact ⟨I.men, I.n6, by show D.posts + 1 = _; rw [I.posts, nI_succ], by omega, I.kind, I.green, I.hands, upd_rng I.spray (rng_nI d2), upd_rng I.holds (rng_nI e2), I.z12, I.seas, I.sea, I.sea0, I.tf2, I.shade, I.lemon, I.harbour, I.tf6, I.law⟩
  · exact hf _ (by omega) (by omega)
theorem law_el {k : Nat → TShip → List Int32 → RSt} (sl : s ≤ l) (I : DrOk C l D n p z tf cd) (hf : ∀ f, 0 < f → f ≤ 5 + 16 * l → P (.inl f)) (hk : ∀ s' D cd, s < s' → s' ≤ l → DrOk C l D n p z (bup tf 6) cd → P (k s' D cd)) : P (lawP C l s D k) := by
  unfold lawP
  cases e : allP C l (parP C l 5) s with
  | inl f =>
    have := all_ft (par_fw 5) (par_ft 5) _ sl _ e
    exact hf f this.1 this.2
  | inr r =>
    rcases r with ⟨s', st, cd'⟩
    have w := all_fw (par_fw 5) _ sl _ _ _ e
    refine hk s' _ cd' w.1 w.2.1 ?_
    exact ⟨I.men, I.n6, I.posts, I.p4, I.kind, I.green, I.hands, I.spray, I.holds, I.z12, I.seas, I.sea, I.sea0, by simpa [bup] using I.tf2, I.shade, I.lemon, I.harbour, by simpa [bup] using w.2.2.2.2, Or.inr ⟨s, s', st, sl, e, _, rfl, rfl, rfl⟩⟩
theorem on_el {x : RSt} {j : Nat} (sl : s ≤ l) (hf : ∀ f, 0 < f → f ≤ 5 + 16 * l → P (.inl f)) (hk : ¬ tf j = true → P x) : P (onP tf j s x) := by
  unfold onP
  split
  · exact hf _ (by omega) (by omega)
  · rename_i q
    exact hk q
theorem lin_el {k : KSt} (sl : s ≤ l) (I : DrOk C l D n p z tf cd) (hf : ∀ f, 0 < f → f ≤ 5 + 16 * l → P (.inl f)) (hk : ∀ s' D n p z tf cd, s < s' → s' ≤ l → DrOk C l D n p z tf cd → P (k s' D n p z tf cd)) : P (linP C l s D n p z tf cd k) := by
  have hx := tkX_le (C := C) sl
  have lt : ∀ {w}, isW C l s w → s < l := fun q => tkK_lt (by rw [q.1]; decide)
  unfold linP
  split
  · rename_i q
    exact man_el (lt q) I hf (fun s' D a1 a2 a3 => clo_el a2 hf (fun s2 b1 b2 => hk s2 _ _ _ _ _ _ (by omega) b2 a3))
  split
  · rename_i q
    exact pst_el (lt q) I hf (fun s' D a1 a2 a3 => clo_el a2 hf (fun s2 b1 b2 => hk s2 _ _ _ _ _ _ (by omega) b2 a3))
  split
  · rename_i q
    have := lt q
    refine on_el sl hf (fun q2 => sea_el (s := tkX C l s) (n := n) (p := p) (tf := tf) (cd := cd) hf (fun i s' D a1 a2 a3 a4 => clo_el a3 hf (fun s2 b1 b2 => hk s2 _ _ _ _ _ _ (by omega) b2 a4)) 12 0 _ D rfl (Nat.le_refl _) hx.2.1 (fun y => by omega) (fun _ => ?_))
    have ez : z = 0 := Classical.byContradiction (fun y => q2 (I.tf2.mpr (by omega)))
    rw [← ez]
    exact I
  split
  · rename_i q
    have := lt q
    refine on_el sl hf (fun q2 => num_el hx.2.1 hf (fun v s' a1 a2 a3 a4 => clo_el a4 hf (fun s2 b1 b2 => hk s2 _ _ _ _ _ _ (by omega) b2 ?_)))
    exact ⟨I.men, I.n6, I.posts, I.p4, I.kind, I.green, I.hands, I.spray, I.holds, I.z12, I.seas, I.sea, I.sea0, by simpa [bup] using I.tf2, by first | exact ⟨v, a1, a2, rfl⟩ | exact I.shade, by first | exact I.lemon | exact rng_nI a2, I.harbour, by simpa [bup] using I.tf6, I.law⟩
  split
  · rename_i q
    have := lt q
    refine on_el sl hf (fun q2 => num_el hx.2.1 hf (fun v s' a1 a2 a3 a4 => clo_el a4 hf (fun s2 b1 b2 => hk s2 _ _ _ _ _ _ (by omega) b2 ?_)))
    exact ⟨I.men, I.n6, I.posts, I.p4, I.kind, I.green, I.hands, I.spray, I.holds, I.z12, I.seas, I.sea, I.sea0, by simpa [bup] using I.tf2, by first | exact ⟨v, a1, a2, rfl⟩ | exact I.shade, by first | exact I.lemon | exact rng_nI a2, I.harbour, by simpa [bup] using I.tf6, I.law⟩

  split
  · rename_i q
    have := lt q
    refine on_el sl hf (fun q2 => num_el hx.2.1 hf (fun v s' a1 a2 a3 a4 => clo_el a4 hf (fun s2 b1 b2 => hk s2 _ _ _ _ _ _ (by omega) b2 ?_)))
    exact ⟨I.men, I.n6, I.posts, I.p4, I.kind, I.green, I.hands, I.spray, I.holds, I.z12, I.seas, I.sea, I.sea0, by simpa [bup] using I.tf2, I.shade, I.lemon, rng_nI a2, by simpa [bup] using I.tf6, I.law⟩
  split
  · rename_i q
    have := lt q
    refine on_el sl hf (fun q2 => law_el hx.2.1 I hf (fun s' D cd a1 a2 a3 => clo_el a2 hf (fun s2 b1 b2 => hk s2 _ _ _ _ _ _ (by omega) b2 a3)))
  · exact hf _ (by omega) (by omega)
theorem all_el (hf : ∀ f, 0 < f → f ≤ 5 + 16 * l → P (.inl f)) (hk : ∀ s' D n p z tf cd, s' ≤ l → DrOk C l D n p z tf cd → P (.inr (s', D, n, p, z, tf, cd))) : ∀ m s D n p z tf cd, s ≤ l → DrOk C l D n p z tf cd → P (allL C l m s D n p z tf cd) := by
  intro m
  induction m with
  | zero =>
    intro s D n p z tf cd sl I
    exact hk s D n p z tf cd sl I
  | succ m ih =>
    intro s D n p z tf cd sl I
    rw [allL]
    split
    · exact hk s D n p z tf cd sl I
    · exact lin_el sl I hf (fun s' D n p z tf cd a1 a2 a3 => ih s' D n p z tf cd a2 a3)
theorem clr_ok (D : TShip) : DrOk C l (clrS D) 0 0 0 (fun _ => false) [] :=
  ⟨rfl, by omega, rfl, by omega, fun k hk => by omega, fun k hk => by omega, fun k hk => by omega, fun k hk => by omega, fun k hk => by omega, by omega, rfl, fun k hk => by omega, fun _ => rfl, by simp, ⟨3, by omega, by omega, rfl⟩, rng_nI (x := 5) (by omega), rng_nI (x := 2) (by omega), by simp, Or.inl ⟨rfl, rfl, rfl, rfl, rfl, rfl⟩⟩
theorem shp_el (D0 : TShip) : (∀ f, allL C l 1000 (tkS C l 0) (clrS D0) 0 0 0 (fun _ => false) [] = .inl f → 0 < f ∧ f ≤ 5 + 16 * l) ∧ (∀ s' D n p z tf cd, allL C l 1000 (tkS C l 0) (clrS D0) 0 0 0 (fun _ => false) [] = .inr (s', D, n, p, z, tf, cd) → DrOk C l D n p z tf cd) := by
  have h := all_el (C := C) (l := l) (P := fun r => (∀ f, r = .inl f → 0 < f ∧ f ≤ 5 + 16 * l) ∧ (∀ s' D n p z tf cd, r = .inr (s', D, n, p, z, tf, cd) → DrOk C l D n p z tf cd)) (fun f a b => ⟨fun g e => by cases e; exact ⟨a, b⟩, fun _ _ _ _ _ _ _ e => by cases e⟩) (fun s' D n p z tf cd a b => ⟨fun g e => (by cases e), fun _ _ _ _ _ _ _ e => by cases e; exact b⟩) 1000 (tkS C l 0) (clrS D0) 0 0 0 (fun _ => false) [] (tkS_le (Nat.zero_le _)).2 (clr_ok D0)
  exact h
end XPS
