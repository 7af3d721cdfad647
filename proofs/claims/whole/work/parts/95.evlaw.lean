/-! a part of a law, worked; the whole law -/
section XEX
variable {C : Nat → Nat} {l : Nat} {fv : Int32 → Int32} {vo : Fn}
def PtR (C : Nat → Nat) (l : Nat) (fv : Int32 → Int32) (vo : Fn) (e : Nat) : Prop := ∀ d s s' st cd, d + e = 5 → parP C l e s = .inr (s', st, cd) → ((4 : Int32) ∈ st → fv 4 = vo 4) → ∃ v, CV fv (1 + 4 * e) st v ∧ ∀ W, ∃ W', wkL vo (W, d) cd = wkEnd W' d v ∧ AgW (d + 1) W W' ∧ okL vo (W, d) cd
theorem pt_ev {d e : Nat} (hd : d + e = 5) (hp : PtR C l fv vo e) : EvR fv vo d (1 + 4 * e) (Tprt d) (parP C l e) := by
  intro s s' st cd h g4
  obtain ⟨v, c, w⟩ := hp d s s' st cd hd h g4
  refine ⟨v, c, fun W np => ?_⟩
  obtain ⟨W', e1, a1, o1⟩ := w W
  have ⟨b1, b2, b3, b4, b5, b6, b7, b8, b9⟩ := a1 d (by omega)
  have np' : d = 0 ∨ ¬ W'.bn d = 1 := by rw [b9]; exact np
  rcases W' with ⟨ke, kb, ah, ag, su, sb, te, tb, bn⟩
  have en : wkNots bn d v = (d, v) := wkNots_np d np'
  refine ⟨(ke, kb, ah, ag, su, sb, upd te d (if tb d = 0 then v else te d * v), tb, bn), ?_, ⟨?_, ?_, b1, b2, b3, b4, b5, b6⟩, b9, o1⟩
  · rw [e1, wkEnd, en]
  · show upd te d (if tb d = 0 then v else te d * v) d = _
    rw [pk_us, show tb d = W.tb d from b8, show te d = W.te d from b7]
  · intro k hk
    have ⟨c1, c2, c3, c4, c5, c6, c7, c8, c9⟩ := a1 k (by omega)
    exact ⟨c1, c2, c3, c4, c5, c6, (pk_un (by omega)).trans c7, c8, c9⟩
theorem al_ev {d e : Nat} (hd : d + e = 5) (hp : PtR C l fv vo e) : EvR fv vo d (1 + 4 * e + 4) (Tall d) (allP C l (parP C l e)) :=
  all_ev (by omega) (tst_ev (by omega) (sum_ev (by omega) (prd_ev (by omega) (pt_ev hd hp))))
theorem wk_val {W : TW} {d c : Nat} (hc : c < 20 ∨ 100 ≤ c) (c2 : c < 2 ^ 31) : wkStep vo W d (nI c) = wkEnd W d (if 100 ≤ c then nI (c - 100) else vo c) := by
  have ne : ∀ k, 20 ≤ k → k ≤ 30 → ¬ nI c = nI k := fun k h1 h2 y => by
    have := (nI_eq (a := c) (b := k) c2 (by omega)).mp y
    omega
  have n28 : ¬ nI c = 28 := ne 28 (by omega) (by omega)
  have n30 : ¬ nI c = 30 := ne 30 (by omega) (by omega)
  have n20 : ¬ nI c = 20 := ne 20 (by omega) (by omega)
  have n21 : ¬ nI c = 21 := ne 21 (by omega) (by omega)
  have n22 : ¬ nI c = 22 := ne 22 (by omega) (by omega)
  have n24 : ¬ nI c = 24 := ne 24 (by omega) (by omega)
  have n25 : ¬ nI c = 25 := ne 25 (by omega) (by omega)
  have n26 : ¬ nI c = 26 := ne 26 (by omega) (by omega)
  have n27 : ¬ nI c = 27 := ne 27 (by omega) (by omega)
  have n29 : ¬ nI c = 29 := ne 29 (by omega) (by omega)
  unfold wkStep
  rw [if_neg (fun y => y.elim n28 n30), if_neg (fun y => y.elim n20 n21), if_neg n22, if_neg (fun y => y.elim n24 n25), if_neg (fun y => y.elim n26 n27), if_neg n29]
  by_cases q : 100 ≤ c
  · have z : (100 : Int32) ≤ nI c := (nI_leI (a := 100) (by omega) c2).mpr q
    rw [if_pos q, if_pos z, show (100 : Int32) = nI 100 from rfl, pk_sub q]
  · have z : ¬ (100 : Int32) ≤ nI c := fun y => q ((nI_leI (a := 100) (by omega) c2).mp y)
    have z2 : nI c < (20 : Int32) := (nI_ltI (b := 20) c2 (by omega)).mpr (by omega)
    rw [if_neg q, if_neg z, if_pos z2, nI_clamp c2]
theorem ok_val {d c : Nat} (hd : d ≤ 6) (hc : c < 20 ∨ 100 ≤ c) (c2 : c < 2 ^ 31) : wkOk d (nI c) := by
  have ne : ∀ k, 20 ≤ k → k ≤ 30 → ¬ nI c = nI k := fun k h1 h2 y => by
    have := (nI_eq (a := c) (b := k) c2 (by omega)).mp y
    omega
  exact ⟨hd, fun y => (y.elim (ne 28 (by omega) (by omega)) (ne 30 (by omega) (by omega))).elim, fun y => (ne 29 (by omega) (by omega) y).elim, fun _ => nI_pos' c2⟩
theorem wkEnd_not {W : TW} {d : Nat} {v : Int32} (h : W.bn (d + 1) = 1) : wkEnd W (d + 1) v = wkEnd W d (b2i (v = 0)) := by
  rcases W with ⟨ke, kb, ah, ag, su, sb, te, tb, bn⟩
  have e : wkNots bn (d + 1) v = wkNots bn d (b2i (v = 0)) := by
    rw [wkNots, if_pos h]
  simp only [wkEnd, e]
theorem new_ag {W : TW} {d : Nat} {x : Int32} : AgW (d + 1) W (wkNew W (d + 1) x) := by
  rcases W with ⟨ke, kb, ah, ag, su, sb, te, tb, bn⟩
  exact fun k hk => ⟨rfl, pk_un (by omega), rfl, pk_un (by omega), pk_un (by omega), pk_un (by omega), rfl, pk_un (by omega), pk_un (by omega)⟩
theorem new_bn {W : TW} {d : Nat} {x : Int32} : (wkNew W d x).bn d = x := by
  rcases W with ⟨ke, kb, ah, ag, su, sb, te, tb, bn⟩
  exact pk_us
theorem new_op {W : TW} {d : Nat} {x : Int32} : (wkNew W d x).tb d = 0 ∧ (wkNew W d x).su d = 0 ∧ (wkNew W d x).sb d = 20 ∧ (wkNew W d x).ag d = 0 ∧ (wkNew W d x).kb d = 0 := by
  rcases W with ⟨ke, kb, ah, ag, su, sb, te, tb, bn⟩
  exact ⟨pk_us, pk_us, pk_us, pk_us, pk_us⟩
theorem tests_ke {W : TW} {d : Nat} : (wkTests W d).1 d = kV d W := by
  rcases W with ⟨ke, kb, ah, ag, su, sb, te, tb, bn⟩
  show upd ke d (kpV (kb d) (ke d) (agV (ag d) (ah d) (upd su d (smV (sb d) (su d) (te d)) d))) d = _
  rw [pk_us, pk_us]
theorem tests_ag {W : TW} {d : Nat} : AgW d W (wkTests W d) := (ag_sums (d := d) (W := W)).trans (ag_t3 (d := d))
theorem cd_lt {s : Nat} (h : plP C l s) : cdN C l s < 20 ∨ 100 ≤ cdN C l s := by
  have := fc_le (C := C) (l := l) (s := s)
  unfold cdN
  split
  · omega
  · omega
theorem pt_all (hf1 : fv 1 = vo 1) (hf2 : fv 2 = vo 2) (hf3 : fv 3 = vo 3) (hn : ∀ v, v < 10000 → fv (nI (16 * v)) = nI v) : ∀ e, PtR C l fv vo e
  | 0 => by
    intro d s s' st cd hd h g4
    unfold parP at h
    split at h <;> exact (inl_ne h).elim
  | e + 1 => by
    have ih := pt_all hf1 hf2 hf3 hn e
    intro d s s' st cd hd h g4
    rw [parP] at h
    split at h
    · rename_i q
      simp only [Sum.inr.injEq, Prod.mk.injEq] at h
      obtain ⟨rfl, rfl, rfl⟩ := h
      have num : fcN C l s = 0 → nmV C l s < 10000 := fun y => tk_num (q.resolve_left (fun z => z y))
      have c31 : cdN C l s < 2 ^ 31 := by
        have := fc_le (C := C) (l := l) (s := s)
        unfold cdN
        split
        · have := num (by assumption)
          omega
        · omega
      refine ⟨fv (nI (stN C l s)), (CV_one ?_).mono (by omega), fun W => ⟨W, ?_, AgW.refl _ _, ⟨ok_val (by omega) (cd_lt q) c31, trivial⟩⟩⟩
      · unfold stN
        split
        · rw [Nat.mul_comm, show nmV C l s * 16 = nmV C l s * 16 + 0 from rfl, nI_and15 (by have := num (by assumption); omega) (by omega)]
          decide
        · have := fc_le (C := C) (l := l) (s := s)
          rcases (by omega : fcN C l s = 1 ∨ fcN C l s = 2 ∨ fcN C l s = 3 ∨ fcN C l s = 4) with y | y | y | y <;> rw [y] <;> decide
      · show wkStep vo W d (nI (cdN C l s)) = _
        rw [wk_val (cd_lt q) c31]
        have ev : (if 100 ≤ cdN C l s then nI (cdN C l s - 100) else vo (cdN C l s)) = fv (nI (stN C l s)) := by
          by_cases f0 : fcN C l s = 0
          · rw [show cdN C l s = 100 + nmV C l s from if_pos f0, show stN C l s = 16 * nmV C l s from if_pos f0, if_pos (by omega), hn _ (num f0), show 100 + nmV C l s - 100 = nmV C l s by omega]
          · have := fc_le (C := C) (l := l) (s := s)
            rw [show cdN C l s = fcN C l s from if_neg f0]
            have es : stN C l s = fcN C l s := if_neg f0
            rw [es] at g4
            rw [es, if_neg (by omega)]
            rcases (by omega : fcN C l s = 1 ∨ fcN C l s = 2 ∨ fcN C l s = 3 ∨ fcN C l s = 4) with y | y | y | y
            · rw [y]; exact hf1.symm
            · rw [y]; exact hf2.symm
            · rw [y]; exact hf3.symm
            · rw [y] at g4 ⊢
              exact (g4 (List.mem_singleton.mpr rfl)).symm
        rw [ev]
    · split at h
      · cases e2 : parP C l e (tkX C l s) with
        | inl f => rw [e2] at h; exact (inl_ne h).elim
        | inr r =>
          rcases r with ⟨s2, st2, cd2⟩
          rw [e2] at h
          simp only [ntP, Sum.inr.injEq, Prod.mk.injEq] at h
          obtain ⟨rfl, rfl, rfl⟩ := h
          obtain ⟨v, c1, w1⟩ := ih (d + 1) _ _ _ _ (by omega) e2 (fun y => g4 (List.mem_append.mpr (Or.inl y)))
          refine ⟨b2i (v = 0), (CV_not c1).mono (by omega), fun W => ?_⟩
          obtain ⟨W', x1, x2, x3⟩ := w1 (wkNew W (d + 1) 1)
          have eS : wkStep vo W d 30 = (wkNew W (d + 1) 1, d + 1) := rfl
          refine ⟨W', ?_, new_ag.trans (x2.le (by omega)), ?_, ?_⟩
          · show wkL vo (wkStep vo W d 30) cd2 = _
            rw [eS, x1, wkEnd_not]
            exact (x2 (d + 1) (by omega)).2.2.2.2.2.2.2.2.trans new_bn
          · exact ⟨by show d ≤ 6; omega, fun _ => by show d < 6; omega, fun y => absurd y (by decide), fun y => absurd y (by decide)⟩
          · show okL vo (wkStep vo W d 30) cd2
            rw [eS]
            exact x3
      · split at h
        · cases e2 : allP C l (parP C l e) (tkX C l s) with
          | inl f => rw [e2] at h; exact (inl_ne h).elim
          | inr r =>
            rcases r with ⟨s2, st2, cd2⟩
            rw [e2, prP] at h
            split at h
            · simp only [Sum.inr.injEq, Prod.mk.injEq] at h
              obtain ⟨rfl, rfl, rfl⟩ := h
              obtain ⟨v, c1, w1⟩ := al_ev (d := d + 1) (by omega) ih _ _ _ _ e2 g4
              refine ⟨v, c1.mono (by omega), fun W => ?_⟩
              obtain ⟨W', x1, x2, x3, x4⟩ := w1 (wkNew W (d + 1) 0) (Or.inr (by rw [new_bn]; decide))
              have eS : wkStep vo W d 28 = (wkNew W (d + 1) 0, d + 1) := rfl
              have eT : wkStep vo W' (d + 1) 29 = wkEnd (wkTests W' (d + 1)) d ((wkTests W' (d + 1)).1 (d + 1)) := rfl
              have o := new_op (W := W) (d := d + 1) (x := 0)
              have ev : (wkTests W' (d + 1)).1 (d + 1) = v := tests_ke.trans (x2.1 ⟨o.1, o.2.1, o.2.2.1, o.2.2.2.1, o.2.2.2.2⟩)
              refine ⟨wkTests W' (d + 1), ?_, (new_ag.trans x2.2).trans tests_ag, ?_, ?_⟩
              · show wkL vo (wkStep vo W d 28) (cd2 ++ [29]) = _
                rw [eS, wkL_app, x1]
                show wkStep vo W' (d + 1) 29 = _
                rw [eT, ev]
              · exact ⟨by show d ≤ 6; omega, fun _ => by show d < 6; omega, fun y => absurd y (by decide), fun y => absurd y (by decide)⟩
              · show okL vo (wkStep vo W d 28) (cd2 ++ [29])
                rw [eS]
                refine okL_app vo _ _ _ x4 ?_
                rw [x1]
                exact ⟨⟨by show d + 1 ≤ 6; omega, fun y => absurd y (by decide), fun _ => by show 0 < d + 1; omega, fun y => absurd y (by decide)⟩, trivial⟩
            · exact (inl_ne h).elim
        · exact (inl_ne h).elim
end XEX
/-- codes laid one behind another -/
theorem wkRun_L {vo cd : Fn} {f : Nat} {W : TW} : ∀ xs ys : List Int32, (∀ i, i < (ys ++ xs).length → cd (f + i) = (ys ++ xs).getD i 0) → wkRun vo cd f W ys.length = wkL vo (wkOpens W 0, 0) ys → wkRun vo cd f W (ys ++ xs).length = wkL vo (wkOpens W 0, 0) (ys ++ xs)
  | [], ys, _, h2 => by rw [List.append_nil]; exact h2
  | x :: xs, ys, h1, h2 => by
    have e : ys ++ x :: xs = (ys ++ [x]) ++ xs := by simp
    rw [e]
    refine wkRun_L xs (ys ++ [x]) (by rw [← e]; exact h1) ?_
    rw [List.length_append, List.length_singleton, wkRun, h2, wkL_app]
    have := h1 ys.length (by simp)
    rw [this]
    simp [wkL]
theorem ok_at {vo cd : Fn} {f : Nat} {W : TW} : ∀ xs ys : List Int32, (∀ i, i < (ys ++ xs).length → cd (f + i) = (ys ++ xs).getD i 0) → wkRun vo cd f W ys.length = wkL vo (wkOpens W 0, 0) ys → okL vo (wkL vo (wkOpens W 0, 0) ys) xs → ∀ j, ys.length ≤ j → j < (ys ++ xs).length → wkOk (wkRun vo cd f W j).2 (cd (f + j))
  | [], ys, _, _, _, j, h1, h2 => by rw [List.append_nil] at h2; omega
  | x :: xs, ys, h1, h2, h3, j, h4, h5 => by
    have e : ys ++ x :: xs = (ys ++ [x]) ++ xs := by simp
    have ex := h1 ys.length (by simp)
    have ex2 : (ys ++ x :: xs).getD ys.length 0 = x := by simp
    rw [ex2] at ex
    by_cases q : j = ys.length
    · rw [q, ex, h2]
      exact h3.1
    · refine ok_at xs (ys ++ [x]) (by rw [← e]; exact h1) ?_ ?_ j (by simp; omega) (by rw [← e]; exact h5)
      · rw [List.length_append, List.length_singleton, wkRun, h2, wkL_app, ex]
        rfl
      · rw [wkL_app]
        exact h3.2
theorem vRun_L {fv : Int32 → Int32} {steps f : Fn} : ∀ xs ys : List Int32, (∀ i, i < (ys ++ xs).length → steps i = (ys ++ xs).getD i 0) → vRun fv steps f ys.length = vsL fv (f, 0) ys → vRun fv steps f (ys ++ xs).length = vsL fv (f, 0) (ys ++ xs)
  | [], ys, _, h2 => by rw [List.append_nil]; exact h2
  | x :: xs, ys, h1, h2 => by
    have e : ys ++ x :: xs = (ys ++ [x]) ++ xs := by simp
    rw [e]
    refine vRun_L xs (ys ++ [x]) (by rw [← e]; exact h1) ?_
    rw [List.length_append, List.length_singleton, vRun, h2, vsL_app]
    have := h1 ys.length (by simp)
    rw [this]
    simp [vsL]
/-- steps laid are there -/
theorem lwA_steps : ∀ (st : List Int32) (L : TLaw) (z : Nat), L.size = nI z → z + st.length < 2 ^ 31 → (∀ i, i < z → (lwA L st).steps i = L.steps i) ∧ ∀ i, i < st.length → (lwA L st).steps (z + i) = st.getD i 0
  | [], L, z, _, _ => ⟨fun _ _ => rfl, fun i h => absurd h (Nat.not_lt_zero i)⟩
  | x :: st, L, z, h, h2 => by
    rw [List.length_cons] at h2
    have ih := lwA_steps st (lwS L x) (z + 1) (by show L.size + 1 = _; rw [h, nI_succ]) (by omega)
    have e : (lwS L x).steps = upd L.steps z x := by
      show upd L.steps L.size.toNatClampNeg x = _
      rw [h, nI_clamp (by omega)]
    rw [e] at ih
    refine ⟨fun i hi => (ih.1 i (by omega)).trans (pk_un (by omega)), fun i hi => ?_⟩
    cases i with
    | zero => exact (ih.1 z (by omega)).trans pk_us
    | succ i =>
      rw [List.length_cons] at hi
      have := ih.2 i (by omega)
      rw [show z + (i + 1) = z + 1 + i by omega]
      exact this
theorem lwA_look1 : ∀ (st : List Int32) (L : TLaw), (4 : Int32) ∈ st ∨ L.looks = 1 → (lwA L st).looks = 1
  | [], L, h => h.elim (fun y => absurd y (List.not_mem_nil)) id
  | x :: st, L, h => by
    refine lwA_look1 st (lwS L x) ?_
    by_cases q : x = 4
    · exact Or.inr (if_pos q)
    · refine h.elim (fun y => ?_) (fun y => Or.inr ((if_neg q).trans y))
      rcases List.mem_cons.mp y with z | z
      · exact absurd z.symm q
      · exact Or.inl z
theorem fct_num {a b c e : Int32} {v : Nat} (h : v < 10000) : fctV a b c e (nI (16 * v)) = nI v := by
  have h15 : nI (16 * v) &&& 15 = nI 0 := by
    rw [Nat.mul_comm, show v * 16 = v * 16 + 0 from rfl]
    exact nI_and15 (by omega) (by omega)
  unfold fctV
  rw [h15, if_neg (by decide), if_neg (by decide), if_neg (by decide), if_neg (by decide), Nat.mul_comm, show v * 16 = v * 16 + 0 from rfl]
  exact nI_shr4 (by omega) (by omega)
/-- a law told: the reference's codes and the class's steps say the same -/
theorem law_told {C : Nat → Nat} {l s s' : Nat} {st cd : List Int32} {L : TLaw} {a_codes : Fn} (l1 : l ≤ 1000) (sl : s ≤ l) (h : allP C l (parP C l 5) s = .inr (s', st, cd)) (hs : ∀ i, i < st.length → L.steps i = st.getD i 0) (hz : L.size = nI st.length) (hk : (4 : Int32) ∈ st → ¬ L.looks = 0) (hc : ∀ i, i < cd.length → a_codes i = cd.getD i 0) : LwR a_codes 0 cd.length L := by
  intro vo W
  have fw := all_fw (par_fw (C := C) (l := l) 5) s sl s' st cd h
  have fv4 : (4 : Int32) ∈ st → fctV (vo 1) (vo 2) (vo 3) (if L.looks = 0 then 0 else vo 4) 4 = vo 4 := fun y => by
    show (if L.looks = 0 then (0 : Int32) else vo 4) = vo 4
    rw [if_neg (hk y)]
  obtain ⟨v, c1, w1⟩ := al_ev (d := 0) (e := 5) rfl (pt_all (C := C) (l := l) (fv := fctV (vo 1) (vo 2) (vo 3) (if L.looks = 0 then 0 else vo 4)) (vo := vo) rfl rfl rfl (fun v hv => fct_num hv) 5) s s' st cd h fv4
  obtain ⟨W', x1, x2, x3, x4⟩ := w1 (wkOpens W 0) (Or.inl rfl)
  have hc' : ∀ i, i < ([] ++ cd).length → a_codes (0 + i) = ([] ++ cd).getD i 0 := fun i hi => by
    rw [Nat.zero_add]
    exact hc i hi
  have o : (wkOpens W 0).tb 0 = 0 ∧ (wkOpens W 0).su 0 = 0 ∧ (wkOpens W 0).sb 0 = 20 ∧ (wkOpens W 0).ag 0 = 0 ∧ (wkOpens W 0).kb 0 = 0 := by
    rcases W with ⟨ke, kb, ah, ag, su, sb, te, tb, bn⟩
    exact ⟨rfl, rfl, rfl, rfl, rfl⟩
  refine ⟨fun j hj => ok_at cd [] hc' rfl x4 j (Nat.zero_le _) (by simpa using hj), ?_⟩
  have r1 := wkRun_L (vo := vo) (cd := a_codes) (f := 0) (W := W) cd [] hc' rfl
  rw [List.nil_append] at r1
  rw [Nat.sub_zero, r1, x1]
  show (wkTests W' 0).1 0 = _
  rw [tests_ke, x2.1 o]
  have r2 := vRun_L (fv := fctV (vo 1) (vo 2) (vo 3) (if L.looks = 0 then 0 else vo 4)) (steps := L.steps) (f := fun _ => 0) st [] (fun i hi => hs i hi) rfl
  rw [List.nil_append] at r2
  obtain ⟨f', y1, y2, y3⟩ := c1 (fun _ => 0) 0 (by omega)
  unfold valV
  rw [hz, nI_clamp (by omega), r2, y1]
  show v = (if 0 < 0 + 1 then f' (0 + 1 - 1) else 0)
  rw [if_pos (by omega), ← y2]
/-- the usual law -/
theorem law_usual {L : TLaw} (h0 : L.steps 0 = 3) (h1 : L.steps 1 = 2) (h2 : L.steps 2 = 10) (h3 : L.size = 3) : ∀ a b c e, valV L a b c e = c + b := by
  intro a b c e
  unfold valV
  rw [h3]
  show vTop (vStep (fctV a b c e) (vStep (fctV a b c e) (vStep (fctV a b c e) (fun _ => 0) 0 (L.steps 0)).1 (vStep (fctV a b c e) (fun _ => 0) 0 (L.steps 0)).2 (L.steps 1)).1 (vStep (fctV a b c e) (vStep (fctV a b c e) (fun _ => 0) 0 (L.steps 0)).1 (vStep (fctV a b c e) (fun _ => 0) 0 (L.steps 0)).2 (L.steps 1)).2 (L.steps 2)) = _
  rw [h0, h1, h2]
  rfl
