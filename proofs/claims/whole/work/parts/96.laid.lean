/-! a ship laid: what class and reference hold of it -/
theorem cpI {α : Type} {f g : Nat → α} {N k : Nat} (h : k < N) : va_cpy f g 0 0 N k = f k := by
  rw [pk_cpy_in (Nat.zero_le _) (by omega)]
  simp
theorem laid_ok {C : Nat → Nat} {l n p z : Nat} {S D : TShip} {tf : Nat → Bool} {cd : List Int32} {kn : Fn} {a_ship a_kind a_green a_hands a_spray a_holds a_sea a_from a_to a_codes : Fn} {a_man a_post : Fl} (l1 : l ≤ 1000) (I : DrOk C l D n p z tf cd) (hk : ∀ k, k < 4096 → kn k = -1) (R : RowOk D n p z cd a_ship a_kind a_green a_hands a_man a_spray a_holds a_post a_sea a_from a_to a_codes) : ∃ z', ShOk (lauS S D kn) n p z' ∧ MS (lauS S D kn) n p z' a_ship a_kind a_green a_hands a_spray a_holds a_sea a_from a_to a_codes a_man a_post := by
  have n6 := I.n6
  have p4 := I.p4
  have z12 := I.z12
  have e1 : ∀ k, k < n → (lauS S D kn).kind k = D.kind k := fun k hk => cpI (by omega)
  have e2 : ∀ k, k < n → (lauS S D kn).green k = D.green k := fun k hk => cpI (by omega)
  have e3 : ∀ k, k < n → (lauS S D kn).hands k = D.hands k := fun k hk => cpI (by omega)
  have e4 : ∀ k, k < n → (lauS S D kn).manName k = D.manName k := fun k hk => cpI (by omega)
  have e5 : ∀ k, k < p → (lauS S D kn).spray k = D.spray k := fun k hk => cpI (by omega)
  have e6 : ∀ k, k < p → (lauS S D kn).holds k = D.holds k := fun k hk => cpI (by omega)
  have e7 : ∀ k, k < p → (lauS S D kn).postName k = D.postName k := fun k hk => cpI (by omega)
  have e8 : ∀ k, k < 12 → (lauS S D kn).sea k = D.sea k := fun k hk => cpI (by omega)
  have e9 : ∀ k, k < 1000 → (lauS S D kn).law.steps k = D.law.steps k := fun k hk => cpI (by omega)
  have sz : rng D.law.size 1000 := by
    rcases I.law with ⟨_, _, _, _, h, _⟩ | ⟨s, s', st, sl, ha, L0, h0, h1, hL⟩
    · exact ⟨3, by omega, h⟩
    · have fw := all_fw (par_fw (C := C) (l := l) 5) s sl s' st cd ha
      rw [hL]
      exact ⟨st.length, by omega, by rw [lwA_size st L0 0 h0, Nat.zero_add]⟩
  have zz : 0 < (if z = 0 then 1 else z) ∧ (if z = 0 then 1 else z) ≤ 12 := by
    split <;> omega
  refine ⟨if z = 0 then 1 else z, ⟨I.men, n6, I.posts, p4, I.seas, zz.1, zz.2, fun k h => by rw [e1 k h]; exact I.kind k h, fun k h => by rw [e2 k h]; exact I.green k h, fun k h => by rw [e3 k h]; exact I.hands k h, fun k h => by rw [e5 k h]; exact I.spray k h, fun k h => by rw [e6 k h]; exact I.holds k h, fun i h => ?_, I.shade, I.lemon, I.harbour, sz, fun s hs => Or.inl (hk s hs)⟩, ⟨R.men, R.posts, R.shade, R.lemon, R.harbour, ?_, fun k h => (R.kind k h).trans (e1 k h).symm, fun k h => (R.green k h).trans (e2 k h).symm, fun k h => (R.hands k h).trans (e3 k h).symm, fun k h => (R.man k h).trans (e4 k h).symm, fun k h => (R.spray k h).trans (e5 k h).symm, fun k h => (R.holds k h).trans (e6 k h).symm, fun k h => (R.post k h).trans (e7 k h).symm, ⟨0, cd.length, R.lf, R.lt, by omega, R.len, ?_⟩⟩⟩
  · have i12 : i < 12 := by omega
    rw [e8 i i12]
    by_cases q : z = 0
    · rw [if_pos q] at h
      have : i = 0 := by omega
      rw [this, I.sea0 q]
      exact ⟨1, by omega, rfl⟩
    · rw [if_neg q] at h
      exact I.sea i h
  · by_cases q : z = 0
    · refine Or.inr ⟨by rw [R.seas, q]; rfl, if_pos q, ?_⟩
      rw [e8 0 (by omega)]
      exact I.sea0 q
    · rw [if_neg q]
      exact Or.inl ⟨R.seas, fun i h => (R.sea i h).trans (e8 i (by omega)).symm⟩
  · rcases I.law with ⟨hcd, h0, h1, h2, h3, _⟩ | ⟨s, s', st, sl, ha, L0, h0, h1, hL⟩
    · refine Or.inl ⟨by rw [hcd]; exact Nat.le_refl 0, law_usual ?_ ?_ ?_ h3⟩
      · rw [e9 0 (by omega)]; exact h0
      · rw [e9 1 (by omega)]; exact h1
      · rw [e9 2 (by omega)]; exact h2
    · have fw := all_fw (par_fw (C := C) (l := l) 5) s sl s' st cd ha
      refine Or.inr ⟨fw.2.2.2.2, law_told l1 sl ha (fun i hi => ?_) ?_ (fun y => ?_) R.codes⟩
      · rw [e9 i (by omega), hL]
        have := (lwA_steps st L0 0 h0 (by omega)).2 i hi
        rw [Nat.zero_add] at this
        exact this
      · show D.law.size = _
        rw [hL, lwA_size st L0 0 h0, Nat.zero_add]
      · show ¬ D.law.looks = 0
        rw [hL, lwA_look1 st L0 (Or.inl y)]
        decide
