/-! the reference: stations asked; what is seen, marks -/
def Cp (f g : Fn) (sz a b : Nat) : Prop := (∀ k, k < sz → g (sz * b + k) = f (sz * a + k)) ∧ ∀ k, ¬ (sz * b ≤ k ∧ k < sz * b + sz) → g k = f k
theorem Cp_cpy {f : Fn} {sz a b : Nat} : Cp f (va_cpy f f (sz * a) (sz * b) sz) sz a b := by
  refine ⟨fun k hk => ?_, fun k hk => ?_⟩
  · rw [pk_cpy_in (by omega) (by omega)]
    congr 1
    omega
  · simp only [va_cpy]
    rw [if_neg (fun y => hk ⟨y.1, y.2⟩)]
theorem cpy_read {f : Fn} {a b j : Nat} (h : ¬ (b ≤ a + j ∧ a + j < b + j)) : va_cpy f f a b j (a + j) = f (a + j) := by
  simp only [va_cpy]
  rw [if_neg h]
theorem row_ne {sz a b j : Nat} (h : ¬ a = b) (hj : j < sz) : ¬ (sz * b ≤ sz * a + j ∧ sz * a + j < sz * b + j) := by
  intro y
  rcases Nat.lt_or_gt_of_ne h with z | z
  · have := Nat.mul_le_mul_left sz (show a + 1 ≤ b by omega)
    rw [Nat.mul_add] at this
    omega
  · have := Nat.mul_le_mul_left sz (show b + 1 ≤ a by omega)
    rw [Nat.mul_add] at this
    omega
def cpB (f g : Fn) (a b n : Nat) : Fn := fun k => if b ≤ k ∧ k < b + n then vp_nar .boolean (f (a + (k - b))) else g k
theorem cpB_zero {f g : Fn} {a b : Nat} : cpB f g a b 0 = g := by
  funext k
  simp only [cpB]
  rw [if_neg (by omega)]
theorem cpB_succ {f g : Fn} {a b j : Nat} : cpB f g a b (j + 1) = upd (cpB f g a b j) (b + j) (vp_nar .boolean (f (a + j))) := by
  funext k
  simp only [cpB, upd]
  by_cases y : k = b + j
  · subst y
    rw [if_pos rfl, if_pos ⟨by omega, by omega⟩, show b + j - b = j by omega]
  · rw [if_neg y]
    by_cases y2 : b ≤ k ∧ k < b + j
    · rw [if_pos y2, if_pos ⟨y2.1, by omega⟩]
    · rw [if_neg y2, if_neg (fun z => y2 ⟨z.1, by omega⟩)]
def CpB (f g : Fn) (sz a b : Nat) : Prop := (∀ k, k < sz → g (sz * b + k) = vp_nar .boolean (f (sz * a + k))) ∧ ∀ k, ¬ (sz * b ≤ k ∧ k < sz * b + sz) → g k = f k
theorem CpB_cpy {f : Fn} {sz a b : Nat} : CpB f (cpB f f (sz * a) (sz * b) sz) sz a b := by
  refine ⟨fun k hk => ?_, fun k hk => ?_⟩
  · simp only [cpB]
    rw [if_pos ⟨by omega, by omega⟩, show sz * b + k - sz * b = k by omega]
  · simp only [cpB]
    rw [if_neg (fun y => hk ⟨y.1, y.2⟩)]
section XMK
variable {L : Nat} {xs : Nat → Int32} {d : Nat} {Q : XQt} {pn pc : Int32} {tok : TTok} {ship : TShip} {nn : Int64} {tl : Int32} {draft : TShip} {vd : TVoy} {log : TLog} {trial : TCrew} {sta : TSta} {says : Fn} {seed : Int64} {past : Nat → TCrew} {marks : Nat → TLog} {K : XWd}
variable {m_thrown : Int32} {m_taped : Int32} {m_size : Int32} {m_place : Int32} {m_begin : Int32} {m_token : Int32} {m_word : Int64} {m_told : Int32} {m_wrong : Int32} {m_code : Int32} {m_toldLines : Int32} {m_given : Int32} {m_fresh : Int64} {m_done : Int32} {m_odd : Int32} {m_bestRank : Int32} {m_leastSpray : Int32} {m_g : Int64} {m_tape : Fn} {m_ship : Fn} {m_manName : Fl} {m_postName : Fl} {m_kind : Fn} {m_greenTold : Fn} {m_hands : Fn} {m_spray : Fn} {m_holds : Fn} {m_sea : Fn} {m_lineFrom : Fn} {m_lineTo : Fn} {m_codes : Fn} {m_opened : Fn} {m_compared : Fn} {m_kept : Fn} {m_keptBy : Fn} {m_ahead : Fn} {m_against : Fn} {m_sum : Fn} {m_sumBy : Fn} {m_term : Fn} {m_termBy : Fn} {m_byNot : Fn} {m_valueOf : Fn} {m_lines : Fn} {m_lineWhat : Fn} {m_lineA : Fn} {m_lineB : Fn} {m_seens : Fn} {m_seenMan : Fn} {m_seenOther : Fn} {m_seenAt : Fn} {m_seenGreener : Fn} {m_s : Fn} {m_aside : Fn} {m_before : Fn} {m_marked : Fn} {m_undone : Fn} {m_isLaid : Fn} {m_more : Fn} {m_row : Fn} {m_bestRow : Fn} {m_greenerBy : Fl}
variable {n p z c w he : Nat} {A : TA}
theorem m_laysLines {f t : Nat} {xf xt : Int32} (ef : xf = nI f) (et : xt = nI t) (hf : f < 6) (ht : t < 6) (hne : ¬ f = t) (h : ∀ a_w a_a a_b, Cp m_lineWhat a_w 40 f t → Cp m_lineA a_a 40 f t → Cp m_lineB a_b 40 f t → Q none (clsW pn pc tok ship nn tl draft vd log trial sta says seed past marks (mdlX m_thrown m_taped m_size m_place m_begin m_token m_word m_told m_wrong m_code m_toldLines m_given m_fresh m_done m_odd m_bestRank m_leastSpray m_g m_tape m_ship m_manName m_postName m_kind m_greenTold m_hands m_spray m_holds m_sea m_lineFrom m_lineTo m_codes m_opened m_compared m_kept m_keptBy m_ahead m_against m_sum m_sumBy m_term m_termBy m_byNot m_valueOf (upd m_lines t (m_lines f)) a_w a_a a_b m_seens m_seenMan m_seenOther m_seenAt m_seenGreener m_s m_aside m_before m_marked m_undone m_isLaid m_more m_row m_bestRow m_greenerBy K))) : XC (xF L xs) xmeths (d + 1) 200 [.ref 169, .int xf, .int xt] (clsW pn pc tok ship nn tl draft vd log trial sta says seed past marks (mdlX m_thrown m_taped m_size m_place m_begin m_token m_word m_told m_wrong m_code m_toldLines m_given m_fresh m_done m_odd m_bestRank m_leastSpray m_g m_tape m_ship m_manName m_postName m_kind m_greenTold m_hands m_spray m_holds m_sea m_lineFrom m_lineTo m_codes m_opened m_compared m_kept m_keptBy m_ahead m_against m_sum m_sumBy m_term m_termBy m_byNot m_valueOf m_lines m_lineWhat m_lineA m_lineB m_seens m_seenMan m_seenOther m_seenAt m_seenGreener m_s m_aside m_before m_marked m_undone m_isLaid m_more m_row m_bestRow m_greenerBy K)) Q := by
  subst ef et
  refine ⟨nb rfl, xgo [10] 40 ⟨vp_in_nI (by omega) (by omega), vp_in_nI (by omega) (by omega), ?_⟩⟩
  rw [nI_clamp (by omega), nI_clamp (by omega), st_lines]
  refine ⟨nb rfl, ?_⟩
  have e40 : ∀ a j, Int32.ofInt 40 * nI a + nI j = nI (40 * a + j) := fun a j => by rw [show Int32.ofInt 40 = nI 40 from rfl, pk_mul, nI_add]
  have start := up_to (P := fun j => XWp (xF L xs) none xP200 (XC (xF L xs) xmeths d) Q 10 [orf 169, oi (nI f), oi (nI t), oi (nI j)] [] (clsW pn pc tok ship nn tl draft vd log trial sta says seed past marks (mdlX m_thrown m_taped m_size m_place m_begin m_token m_word m_told m_wrong m_code m_toldLines m_given m_fresh m_done m_odd m_bestRank m_leastSpray m_g m_tape m_ship m_manName m_postName m_kind m_greenTold m_hands m_spray m_holds m_sea m_lineFrom m_lineTo m_codes m_opened m_compared m_kept m_keptBy m_ahead m_against m_sum m_sumBy m_term m_termBy m_byNot m_valueOf (upd m_lines t (m_lines f)) (va_cpy m_lineWhat m_lineWhat (40 * f) (40 * t) j) (va_cpy m_lineA m_lineA (40 * f) (40 * t) j) (va_cpy m_lineB m_lineB (40 * f) (40 * t) j) m_seens m_seenMan m_seenOther m_seenAt m_seenGreener m_s m_aside m_before m_marked m_undone m_isLaid m_more m_row m_bestRow m_greenerBy K))) (n := 40) (fun j hj ih => xgo [10] 60 ?_)
  · rw [cpy_zero, cpy_zero, cpy_zero] at start
    exact start
  refine pk_le 40 j (fun q => ?_) (fun q => ?_) rfl rfl (by omega) (by omega)
  · have e : j = 40 := by omega
    subst e
    exact ⟨rfl, h _ _ _ Cp_cpy Cp_cpy Cp_cpy⟩
  · have ih := ih q
    have ne := row_ne (sz := 40) hne q
    rw [cpy_succ, cpy_succ, cpy_succ, ← cpy_read (f := m_lineWhat) ne, ← cpy_read (f := m_lineA) ne, ← cpy_read (f := m_lineB) ne, nI_succ] at ih
    refine ⟨show vp_in (Int32.ofInt 40 * nI f + nI j) 240 from e40 f j ▸ vp_in_nI (by omega) (by omega), show vp_in (Int32.ofInt 40 * nI t + nI j) 240 from e40 t j ▸ vp_in_nI (by omega) (by omega), ?_⟩
    rw [e40, e40, nI_clamp (by omega), nI_clamp (by omega), st_lineWhat]
    refine ⟨show vp_in (Int32.ofInt 40 * nI f + nI j) 240 from e40 f j ▸ vp_in_nI (by omega) (by omega), show vp_in (Int32.ofInt 40 * nI t + nI j) 240 from e40 t j ▸ vp_in_nI (by omega) (by omega), ?_⟩
    rw [e40, e40, nI_clamp (by omega), nI_clamp (by omega), st_lineA]
    refine ⟨show vp_in (Int32.ofInt 40 * nI f + nI j) 240 from e40 f j ▸ vp_in_nI (by omega) (by omega), show vp_in (Int32.ofInt 40 * nI t + nI j) 240 from e40 t j ▸ vp_in_nI (by omega) (by omega), ?_⟩
    rw [e40, e40, nI_clamp (by omega), nI_clamp (by omega), st_lineB]
    exact ih
theorem m_laysSeen {f t : Nat} {xf xt : Int32} (ef : xf = nI f) (et : xt = nI t) (hf : f < 5) (ht : t < 5) (hne : ¬ f = t) (h : ∀ a_m a_o a_w a_g, Cp m_seenMan a_m 8 f t → Cp m_seenOther a_o 8 f t → Cp m_seenAt a_w 8 f t → CpB m_seenGreener a_g 8 f t → Q none (clsW pn pc tok ship nn tl draft vd log trial sta says seed past marks (mdlX m_thrown m_taped m_size m_place m_begin m_token m_word m_told m_wrong m_code m_toldLines m_given m_fresh m_done m_odd m_bestRank m_leastSpray m_g m_tape m_ship m_manName m_postName m_kind m_greenTold m_hands m_spray m_holds m_sea m_lineFrom m_lineTo m_codes m_opened m_compared m_kept m_keptBy m_ahead m_against m_sum m_sumBy m_term m_termBy m_byNot m_valueOf m_lines m_lineWhat m_lineA m_lineB (upd m_seens t (m_seens f)) a_m a_o a_w a_g m_s m_aside m_before m_marked m_undone m_isLaid m_more m_row m_bestRow m_greenerBy K))) : XC (xF L xs) xmeths (d + 1) 264 [.ref 169, .int xf, .int xt] (clsW pn pc tok ship nn tl draft vd log trial sta says seed past marks (mdlX m_thrown m_taped m_size m_place m_begin m_token m_word m_told m_wrong m_code m_toldLines m_given m_fresh m_done m_odd m_bestRank m_leastSpray m_g m_tape m_ship m_manName m_postName m_kind m_greenTold m_hands m_spray m_holds m_sea m_lineFrom m_lineTo m_codes m_opened m_compared m_kept m_keptBy m_ahead m_against m_sum m_sumBy m_term m_termBy m_byNot m_valueOf m_lines m_lineWhat m_lineA m_lineB m_seens m_seenMan m_seenOther m_seenAt m_seenGreener m_s m_aside m_before m_marked m_undone m_isLaid m_more m_row m_bestRow m_greenerBy K)) Q := by
  subst ef et
  refine ⟨nb rfl, xgo [10] 40 ⟨vp_in_nI (by omega) (by omega), vp_in_nI (by omega) (by omega), ?_⟩⟩
  rw [nI_clamp (by omega), nI_clamp (by omega), st_seens]
  refine ⟨nb rfl, ?_⟩
  have e8 : ∀ a j, Int32.ofInt 8 * nI a + nI j = nI (8 * a + j) := fun a j => by rw [show Int32.ofInt 8 = nI 8 from rfl, pk_mul, nI_add]
  have start := up_to (P := fun j => XWp (xF L xs) none xP264 (XC (xF L xs) xmeths d) Q 10 [orf 169, oi (nI f), oi (nI t), oi (nI j)] [] (clsW pn pc tok ship nn tl draft vd log trial sta says seed past marks (mdlX m_thrown m_taped m_size m_place m_begin m_token m_word m_told m_wrong m_code m_toldLines m_given m_fresh m_done m_odd m_bestRank m_leastSpray m_g m_tape m_ship m_manName m_postName m_kind m_greenTold m_hands m_spray m_holds m_sea m_lineFrom m_lineTo m_codes m_opened m_compared m_kept m_keptBy m_ahead m_against m_sum m_sumBy m_term m_termBy m_byNot m_valueOf m_lines m_lineWhat m_lineA m_lineB (upd m_seens t (m_seens f)) (va_cpy m_seenMan m_seenMan (8 * f) (8 * t) j) (va_cpy m_seenOther m_seenOther (8 * f) (8 * t) j) (va_cpy m_seenAt m_seenAt (8 * f) (8 * t) j) (cpB m_seenGreener m_seenGreener (8 * f) (8 * t) j) m_s m_aside m_before m_marked m_undone m_isLaid m_more m_row m_bestRow m_greenerBy K))) (n := 8) (fun j hj ih => xgo [10] 80 ?_)
  · rw [cpy_zero, cpy_zero, cpy_zero, cpB_zero] at start
    exact start
  refine pk_le 8 j (fun q => ?_) (fun q => ?_) rfl rfl (by omega) (by omega)
  · have e : j = 8 := by omega
    subst e
    exact ⟨rfl, h _ _ _ _ Cp_cpy Cp_cpy Cp_cpy CpB_cpy⟩
  · have ih := ih q
    have ne := row_ne (sz := 8) hne q
    have eB : cpB m_seenGreener m_seenGreener (8 * f) (8 * t) j (8 * f + j) = m_seenGreener (8 * f + j) := by
      simp only [cpB]
      rw [if_neg ne]
    rw [cpy_succ, cpy_succ, cpy_succ, cpB_succ, ← cpy_read (f := m_seenMan) ne, ← cpy_read (f := m_seenOther) ne, ← cpy_read (f := m_seenAt) ne, ← eB, nI_succ] at ih
    refine ⟨show vp_in (Int32.ofInt 8 * nI f + nI j) 40 from e8 f j ▸ vp_in_nI (by omega) (by omega), show vp_in (Int32.ofInt 8 * nI t + nI j) 40 from e8 t j ▸ vp_in_nI (by omega) (by omega), ?_⟩
    rw [e8, e8, nI_clamp (by omega), nI_clamp (by omega), st_seenMan]
    refine ⟨show vp_in (Int32.ofInt 8 * nI f + nI j) 40 from e8 f j ▸ vp_in_nI (by omega) (by omega), show vp_in (Int32.ofInt 8 * nI t + nI j) 40 from e8 t j ▸ vp_in_nI (by omega) (by omega), ?_⟩
    rw [e8, e8, nI_clamp (by omega), nI_clamp (by omega), st_seenOther]
    refine ⟨show vp_in (Int32.ofInt 8 * nI f + nI j) 40 from e8 f j ▸ vp_in_nI (by omega) (by omega), show vp_in (Int32.ofInt 8 * nI t + nI j) 40 from e8 t j ▸ vp_in_nI (by omega) (by omega), ?_⟩
    rw [e8, e8, nI_clamp (by omega), nI_clamp (by omega), st_seenAt]
    refine ⟨show vp_in (Int32.ofInt 8 * nI f + nI j) 40 from e8 f j ▸ vp_in_nI (by omega) (by omega), show vp_in (Int32.ofInt 8 * nI t + nI j) 40 from e8 t j ▸ vp_in_nI (by omega) (by omega), ?_⟩
    rw [e8, e8, nI_clamp (by omega), nI_clamp (by omega), st_seenGreener]
    exact ih
theorem m_mark {mk back : Int32} {B : Nat → TA} (n6 : n ≤ 6) (rs : RS m_s n A) (rm : ∀ i, i < 4 → ¬ m_isLaid i = 0 → RS (fun k => m_marked (14 * i + k)) n (B i)) (hlay : ∀ i, i < 4 → mk = nI i → back = 0 → ∀ a_w a_a a_b b_m b_o b_w b_g a_k, Cp m_lineWhat a_w 40 0 (1 + i) → Cp m_lineA a_a 40 0 (1 + i) → Cp m_lineB a_b 40 0 (1 + i) → Cp m_seenMan b_m 8 0 (1 + i) → Cp m_seenOther b_o 8 0 (1 + i) → Cp m_seenAt b_w 8 0 (1 + i) → CpB m_seenGreener b_g 8 0 (1 + i) → RS (fun k => a_k (14 * i + k)) n A → (∀ k, ¬ (14 * i ≤ k ∧ k < 14 * i + 14) → a_k k = m_marked k) → Q (some (.int 1)) (clsW pn pc tok ship nn tl draft vd log trial sta says seed past marks (mdlX 0 m_taped m_size m_place m_begin m_token m_word m_told m_wrong m_code m_toldLines m_given m_fresh m_done m_odd m_bestRank m_leastSpray m_g m_tape m_ship m_manName m_postName m_kind m_greenTold m_hands m_spray m_holds m_sea m_lineFrom m_lineTo m_codes m_opened m_compared m_kept m_keptBy m_ahead m_against m_sum m_sumBy m_term m_termBy m_byNot m_valueOf (upd m_lines (1 + i) (m_lines 0)) a_w a_a a_b (upd m_seens (1 + i) (m_seens 0)) b_m b_o b_w b_g m_s m_aside m_before a_k m_undone (upd m_isLaid i 1) m_more m_row m_bestRow m_greenerBy K))) (hback : ∀ i, i < 4 → mk = nI i → ¬ back = 0 → ¬ m_isLaid i = 0 → ∀ a_w a_a a_b b_m b_o b_w b_g m_s, Cp m_lineWhat a_w 40 (1 + i) 0 → Cp m_lineA a_a 40 (1 + i) 0 → Cp m_lineB a_b 40 (1 + i) 0 → Cp m_seenMan b_m 8 (1 + i) 0 → Cp m_seenOther b_o 8 (1 + i) 0 → Cp m_seenAt b_w 8 (1 + i) 0 → CpB m_seenGreener b_g 8 (1 + i) 0 → RS m_s n (B i) → Q (some (.int 1)) (clsW pn pc tok ship nn tl draft vd log trial sta says seed past marks (mdlX 0 m_taped m_size m_place m_begin m_token m_word m_told m_wrong m_code m_toldLines m_given m_fresh 0 m_odd m_bestRank m_leastSpray m_g m_tape m_ship m_manName m_postName m_kind m_greenTold m_hands m_spray m_holds m_sea m_lineFrom m_lineTo m_codes m_opened m_compared m_kept m_keptBy m_ahead m_against m_sum m_sumBy m_term m_termBy m_byNot m_valueOf (upd m_lines 0 (m_lines (1 + i))) a_w a_a a_b (upd m_seens 0 (m_seens (1 + i))) b_m b_o b_w b_g m_s m_aside m_before m_marked m_undone (upd m_isLaid i 1) m_more m_row m_bestRow m_greenerBy K))) (h0 : ¬ (∃ i, i < 4 ∧ mk = nI i ∧ (¬ back = 0 → ¬ m_isLaid i = 0)) → Q (some (.int 0)) (clsW pn pc tok ship nn tl draft vd log trial sta says seed past marks (mdlX 0 m_taped m_size m_place m_begin m_token m_word m_told m_wrong m_code m_toldLines m_given m_fresh m_done m_odd m_bestRank m_leastSpray m_g m_tape m_ship m_manName m_postName m_kind m_greenTold m_hands m_spray m_holds m_sea m_lineFrom m_lineTo m_codes m_opened m_compared m_kept m_keptBy m_ahead m_against m_sum m_sumBy m_term m_termBy m_byNot m_valueOf m_lines m_lineWhat m_lineA m_lineB m_seens m_seenMan m_seenOther m_seenAt m_seenGreener m_s m_aside m_before m_marked m_undone m_isLaid m_more m_row m_bestRow m_greenerBy K))) : XC (xF L xs) xmeths (d + 2) 263 [.ref 169, .int mk, .int back] (clsW pn pc tok ship nn tl draft vd log trial sta says seed past marks (mdlX m_thrown m_taped m_size m_place m_begin m_token m_word m_told m_wrong m_code m_toldLines m_given m_fresh m_done m_odd m_bestRank m_leastSpray m_g m_tape m_ship m_manName m_postName m_kind m_greenTold m_hands m_spray m_holds m_sea m_lineFrom m_lineTo m_codes m_opened m_compared m_kept m_keptBy m_ahead m_against m_sum m_sumBy m_term m_termBy m_byNot m_valueOf m_lines m_lineWhat m_lineA m_lineB m_seens m_seenMan m_seenOther m_seenAt m_seenGreener m_s m_aside m_before m_marked m_undone m_isLaid m_more m_row m_bestRow m_greenerBy K)) Q := by
  have a15 : ¬ (∃ i, i < 4 ∧ mk = nI i ∧ (¬ back = 0 → ¬ m_isLaid i = 0)) → XWp (xF L xs) (some .boolean) xP263 (XC (xF L xs) xmeths (d + 1)) Q 15 [orf 169, oi mk, oi back, none, none] [] (clsW pn pc tok ship nn tl draft vd log trial sta says seed past marks (mdlX 0 m_taped m_size m_place m_begin m_token m_word m_told m_wrong m_code m_toldLines m_given m_fresh m_done m_odd m_bestRank m_leastSpray m_g m_tape m_ship m_manName m_postName m_kind m_greenTold m_hands m_spray m_holds m_sea m_lineFrom m_lineTo m_codes m_opened m_compared m_kept m_keptBy m_ahead m_against m_sum m_sumBy m_term m_termBy m_byNot m_valueOf m_lines m_lineWhat m_lineA m_lineB m_seens m_seenMan m_seenOther m_seenAt m_seenGreener m_s m_aside m_before m_marked m_undone m_isLaid m_more m_row m_bestRow m_greenerBy K)) := fun q => xgo [] 10 ⟨rfl, h0 q⟩
  refine ⟨nb rfl, xgo [2] 20 (xp_thrown rfl (xgo [15, 17] 60 ⟨rfl, nb rfl, m_within ?_⟩))⟩
  refine vB0 (fun q => a15 (fun ⟨i, hi, e, _⟩ => q (by rw [e]; exact ⟨nI_pos' (by omega), nI_le (b := 3) (by omega) (by omega)⟩))) (fun q => ?_)
  rcases wiN (m := 3) (by omega) q with ⟨i, hi, rfl⟩
  have e14 : Int32.ofInt 14 * nI i = nI (14 * i) := pk_mul 14 i
  have e1i : Int32.ofInt 1 + nI i = nI (1 + i) := nI_add 1 i
  have a17 : (¬ back = 0 → ¬ m_isLaid i = 0) → XWp (xF L xs) (some .boolean) xP263 (XC (xF L xs) xmeths (d + 1)) Q 17 [orf 169, oi (nI i), oi back, none, none] [] (clsW pn pc tok ship nn tl draft vd log trial sta says seed past marks (mdlX 0 m_taped m_size m_place m_begin m_token m_word m_told m_wrong m_code m_toldLines m_given m_fresh m_done m_odd m_bestRank m_leastSpray m_g m_tape m_ship m_manName m_postName m_kind m_greenTold m_hands m_spray m_holds m_sea m_lineFrom m_lineTo m_codes m_opened m_compared m_kept m_keptBy m_ahead m_against m_sum m_sumBy m_term m_termBy m_byNot m_valueOf m_lines m_lineWhat m_lineA m_lineB m_seens m_seenMan m_seenOther m_seenAt m_seenGreener m_s m_aside m_before m_marked m_undone m_isLaid m_more m_row m_bestRow m_greenerBy K)) := by
    intro ok
    refine xgo [29, 37] 60 ⟨vp_in_nI (by omega) (by omega), ?_⟩
    rw [nI_clamp (by omega), st_isLaid, show vp_nar .boolean (Int32.ofInt 1) = 1 by decide]
    refine And.intro (fun (q2 : back = 0) => ?_) (fun (q2 : ¬ back = 0) => ?_)
    · refine xgo [] 60 ⟨nb rfl, ?_⟩
      refine vT (show back = 0 from q2) ⟨nb rfl, rfl, nb rfl, m_laysLines (f := 0) (t := 1 + i) rfl e1i (by omega) (by omega) (by omega) (fun a_w a_a a_b c1 c2 c3 => ⟨rfl, nb rfl, m_laysSeen (f := 0) (t := 1 + i) rfl e1i (by omega) (by omega) (by omega) (fun b_m b_o b_w b_g c4 c5 c6 c7 => ?_)⟩)⟩
      refine vT (show back = 0 from q2) ⟨rfl, nb rfl, m_copies_204_207 (a := 0) (b := 14 * i) rfl e14 (by omega) (by omega) ⟨rfl, ?_⟩⟩
      refine hlay i (by omega) rfl q2 a_w a_a a_b b_m b_o b_w b_g _ c1 c2 c3 c4 c5 c6 c7 (RS.cpyTo rs n6) (fun k hk => ?_)
      simp only [va_cpy]
      rw [if_neg hk]
    · refine xgo [59] 60 ⟨nb rfl, ?_⟩
      refine vF (show ¬ back = 0 from q2) ⟨nb rfl, rfl, nb rfl, m_laysLines (f := 1 + i) (t := 0) e1i rfl (by omega) (by omega) (by omega) (fun a_w a_a a_b c1 c2 c3 => ⟨rfl, nb rfl, m_laysSeen (f := 1 + i) (t := 0) e1i rfl (by omega) (by omega) (by omega) (fun b_m b_o b_w b_g c4 c5 c6 c7 => ?_)⟩)⟩
      refine vF (show ¬ back = 0 from q2) ⟨rfl, nb rfl, m_copies_207_204 (a := 14 * i) (b := 0) e14 rfl (by omega) (by omega) ?_⟩
      refine xp_done rfl (xgo [] 20 ⟨rfl, ?_⟩)
      exact hback i (by omega) rfl q2 (ok q2) a_w a_a a_b b_m b_o b_w b_g _ c1 c2 c3 c4 c5 c6 c7 (RS.cpy (rm i (by omega) (ok q2)) n6)
  refine And.intro (fun (q2 : back = 0) => a17 (fun y => absurd q2 y)) (fun (q2 : ¬ back = 0) => ?_)
  refine ⟨vp_in_nI (by omega) (by omega), ?_⟩
  rw [nI_clamp (by omega)]
  refine And.intro (fun (q3 : ¬ m_isLaid i = 0) => a17 (fun _ => q3)) (fun (q3 : ¬ ¬ m_isLaid i = 0) => a15 (fun ⟨j, hj, e, y⟩ => ?_))
  have e := (nI_eq (by omega) (by omega)).mp e
  subst e
  exact q3 (y q2)
theorem m_see {man other wt gr : Int32} {c : Nat} (so : ShOk ship n p z) (ms : MS ship n p z m_ship m_kind m_greenTold m_hands m_spray m_holds m_sea m_lineFrom m_lineTo m_codes m_manName m_postName) (hc : m_seens 0 = nI c) (c8 : c ≤ 8) (h1 : ∀ m o w, m < n → o < n → ¬ m = o → w ≤ 20 → man = nI m → other = nI o → wt = nI w → c < 8 → Q (some (.int 1)) (clsW pn pc tok ship nn tl draft vd log trial sta says seed past marks (mdlX 0 m_taped m_size m_place m_begin m_token m_word m_told m_wrong m_code m_toldLines m_given m_fresh m_done m_odd m_bestRank m_leastSpray m_g m_tape m_ship m_manName m_postName m_kind m_greenTold m_hands m_spray m_holds m_sea m_lineFrom m_lineTo m_codes m_opened m_compared m_kept m_keptBy m_ahead m_against m_sum m_sumBy m_term m_termBy m_byNot m_valueOf m_lines m_lineWhat m_lineA m_lineB (upd m_seens 0 (nI (c + 1))) (upd m_seenMan c (nI m)) (upd m_seenOther c (nI o)) (upd m_seenAt c (nI w)) (upd m_seenGreener c (vp_nar .boolean gr)) m_s m_aside m_before m_marked m_undone m_isLaid m_more m_row m_bestRow m_greenerBy K))) (h0 : ¬ (((0 ≤ man ∧ man < nI n) ∧ (0 ≤ other ∧ other < nI n) ∧ ¬ man = other) ∧ (0 ≤ wt ∧ wt ≤ 20) ∧ c < 8) → Q (some (.int 0)) (clsW pn pc tok ship nn tl draft vd log trial sta says seed past marks (mdlX 0 m_taped m_size m_place m_begin m_token m_word m_told m_wrong m_code m_toldLines m_given m_fresh m_done m_odd m_bestRank m_leastSpray m_g m_tape m_ship m_manName m_postName m_kind m_greenTold m_hands m_spray m_holds m_sea m_lineFrom m_lineTo m_codes m_opened m_compared m_kept m_keptBy m_ahead m_against m_sum m_sumBy m_term m_termBy m_byNot m_valueOf m_lines m_lineWhat m_lineA m_lineB m_seens m_seenMan m_seenOther m_seenAt m_seenGreener m_s m_aside m_before m_marked m_undone m_isLaid m_more m_row m_bestRow m_greenerBy K))) : XC (xF L xs) xmeths (d + 2) 251 [.ref 169, .int man, .int other, .int wt, .int gr] (clsW pn pc tok ship nn tl draft vd log trial sta says seed past marks (mdlX m_thrown m_taped m_size m_place m_begin m_token m_word m_told m_wrong m_code m_toldLines m_given m_fresh m_done m_odd m_bestRank m_leastSpray m_g m_tape m_ship m_manName m_postName m_kind m_greenTold m_hands m_spray m_holds m_sea m_lineFrom m_lineTo m_codes m_opened m_compared m_kept m_keptBy m_ahead m_against m_sum m_sumBy m_term m_termBy m_byNot m_valueOf m_lines m_lineWhat m_lineA m_lineB m_seens m_seenMan m_seenOther m_seenAt m_seenGreener m_s m_aside m_before m_marked m_undone m_isLaid m_more m_row m_bestRow m_greenerBy K)) Q := by
  have n6 := so.n6
  have a25 : ¬ (((0 ≤ man ∧ man < nI n) ∧ (0 ≤ other ∧ other < nI n) ∧ ¬ man = other) ∧ (0 ≤ wt ∧ wt ≤ 20) ∧ c < 8) → XWp (xF L xs) (some .boolean) xP251 (XC (xF L xs) xmeths (d + 1)) Q 25 [orf 169, oi man, oi other, oi wt, oi gr] [] (clsW pn pc tok ship nn tl draft vd log trial sta says seed past marks (mdlX 0 m_taped m_size m_place m_begin m_token m_word m_told m_wrong m_code m_toldLines m_given m_fresh m_done m_odd m_bestRank m_leastSpray m_g m_tape m_ship m_manName m_postName m_kind m_greenTold m_hands m_spray m_holds m_sea m_lineFrom m_lineTo m_codes m_opened m_compared m_kept m_keptBy m_ahead m_against m_sum m_sumBy m_term m_termBy m_byNot m_valueOf m_lines m_lineWhat m_lineA m_lineB m_seens m_seenMan m_seenOther m_seenAt m_seenGreener m_s m_aside m_before m_marked m_undone m_isLaid m_more m_row m_bestRow m_greenerBy K)) := fun q => xgo [] 10 ⟨rfl, h0 q⟩
  refine ⟨nb rfl, xgo [2] 20 (xp_thrown rfl (xgo [25, 27] 60 ⟨rfl, nb rfl, m_isMan ms.men ?_⟩))⟩
  refine vB0 (fun q => a25 (fun y => q y.1.1)) (fun q1 => ⟨rfl, nb rfl, m_isMan ms.men ?_⟩)
  refine vB0 (fun q => a25 (fun y => q y.1.2.1)) (fun q2 => ?_)
  refine And.intro (fun (q3 : man = other) => a25 (fun y => y.1.2.2 q3)) (fun (q3 : ¬ man = other) => ⟨rfl, nb rfl, m_within ?_⟩)
  refine vB0 (fun q => a25 (fun y => q y.2.1)) (fun q4 => ⟨vp_in_nI (n := 0) (by decide) (by decide), ?_⟩)
  refine pk_ne c 8 (fun q5 => ?_) (fun q5 => a25 (fun y => by omega)) hc rfl (by omega) (by omega)
  rcases inI (by omega) q1 with ⟨m, hm, rfl⟩
  rcases inI (by omega) q2 with ⟨o, ho, rfl⟩
  rcases wiN (m := 20) (by omega) q4 with ⟨w, hw, rfl⟩
  have h := h1 m o w hm ho (fun y => q3 (by rw [y])) hw rfl rfl rfl (by omega)
  refine xgo [33] 40 ⟨vp_in_nI (n := 0) (by decide) (by decide), ?_⟩
  suffices a33 : ∀ xk, xk = nI c → XWp (xF L xs) (some .boolean) xP251 (XC (xF L xs) xmeths (d + 1)) Q 33 [orf 169, oi (nI m), oi (nI o), oi (nI w), oi gr] [.int xk, .ref 200] (clsW pn pc tok ship nn tl draft vd log trial sta says seed past marks (mdlX 0 m_taped m_size m_place m_begin m_token m_word m_told m_wrong m_code m_toldLines m_given m_fresh m_done m_odd m_bestRank m_leastSpray m_g m_tape m_ship m_manName m_postName m_kind m_greenTold m_hands m_spray m_holds m_sea m_lineFrom m_lineTo m_codes m_opened m_compared m_kept m_keptBy m_ahead m_against m_sum m_sumBy m_term m_termBy m_byNot m_valueOf m_lines m_lineWhat m_lineA m_lineB m_seens m_seenMan m_seenOther m_seenAt m_seenGreener m_s m_aside m_before m_marked m_undone m_isLaid m_more m_row m_bestRow m_greenerBy K)) from a33 _ hc
  intro xk hk
  subst hk
  refine xgo [41] 40 ⟨vp_in_nI (by omega) (by omega), ?_⟩
  rw [nI_clamp (by omega), st_seenMan]
  refine ⟨vp_in_nI (n := 0) (by decide) (by decide), ?_⟩
  suffices a41 : ∀ xk, xk = nI c → XWp (xF L xs) (some .boolean) xP251 (XC (xF L xs) xmeths (d + 1)) Q 41 [orf 169, oi (nI m), oi (nI o), oi (nI w), oi gr] [.int xk, .ref 201] (clsW pn pc tok ship nn tl draft vd log trial sta says seed past marks (mdlX 0 m_taped m_size m_place m_begin m_token m_word m_told m_wrong m_code m_toldLines m_given m_fresh m_done m_odd m_bestRank m_leastSpray m_g m_tape m_ship m_manName m_postName m_kind m_greenTold m_hands m_spray m_holds m_sea m_lineFrom m_lineTo m_codes m_opened m_compared m_kept m_keptBy m_ahead m_against m_sum m_sumBy m_term m_termBy m_byNot m_valueOf m_lines m_lineWhat m_lineA m_lineB m_seens (upd m_seenMan c (nI m)) m_seenOther m_seenAt m_seenGreener m_s m_aside m_before m_marked m_undone m_isLaid m_more m_row m_bestRow m_greenerBy K)) from a41 _ hc
  intro xk hk
  subst hk
  refine xgo [49] 40 ⟨vp_in_nI (by omega) (by omega), ?_⟩
  rw [nI_clamp (by omega), st_seenOther]
  refine ⟨vp_in_nI (n := 0) (by decide) (by decide), ?_⟩
  suffices a49 : ∀ xk, xk = nI c → XWp (xF L xs) (some .boolean) xP251 (XC (xF L xs) xmeths (d + 1)) Q 49 [orf 169, oi (nI m), oi (nI o), oi (nI w), oi gr] [.int xk, .ref 202] (clsW pn pc tok ship nn tl draft vd log trial sta says seed past marks (mdlX 0 m_taped m_size m_place m_begin m_token m_word m_told m_wrong m_code m_toldLines m_given m_fresh m_done m_odd m_bestRank m_leastSpray m_g m_tape m_ship m_manName m_postName m_kind m_greenTold m_hands m_spray m_holds m_sea m_lineFrom m_lineTo m_codes m_opened m_compared m_kept m_keptBy m_ahead m_against m_sum m_sumBy m_term m_termBy m_byNot m_valueOf m_lines m_lineWhat m_lineA m_lineB m_seens (upd m_seenMan c (nI m)) (upd m_seenOther c (nI o)) m_seenAt m_seenGreener m_s m_aside m_before m_marked m_undone m_isLaid m_more m_row m_bestRow m_greenerBy K)) from a49 _ hc
  intro xk hk
  subst hk
  refine xgo [57] 40 ⟨vp_in_nI (by omega) (by omega), ?_⟩
  rw [nI_clamp (by omega), st_seenAt]
  refine ⟨vp_in_nI (n := 0) (by decide) (by decide), ?_⟩
  suffices a57 : ∀ xk, xk = nI c → XWp (xF L xs) (some .boolean) xP251 (XC (xF L xs) xmeths (d + 1)) Q 57 [orf 169, oi (nI m), oi (nI o), oi (nI w), oi gr] [.int xk, .ref 203] (clsW pn pc tok ship nn tl draft vd log trial sta says seed past marks (mdlX 0 m_taped m_size m_place m_begin m_token m_word m_told m_wrong m_code m_toldLines m_given m_fresh m_done m_odd m_bestRank m_leastSpray m_g m_tape m_ship m_manName m_postName m_kind m_greenTold m_hands m_spray m_holds m_sea m_lineFrom m_lineTo m_codes m_opened m_compared m_kept m_keptBy m_ahead m_against m_sum m_sumBy m_term m_termBy m_byNot m_valueOf m_lines m_lineWhat m_lineA m_lineB m_seens (upd m_seenMan c (nI m)) (upd m_seenOther c (nI o)) (upd m_seenAt c (nI w)) m_seenGreener m_s m_aside m_before m_marked m_undone m_isLaid m_more m_row m_bestRow m_greenerBy K)) from a57 _ hc
  intro xk hk
  subst hk
  refine xgo [] 40 ⟨vp_in_nI (by omega) (by omega), ?_⟩
  rw [nI_clamp (by omega), st_seenGreener]
  refine ⟨vp_in_nI (n := 0) (by decide) (by decide), vp_in_nI (n := 0) (by decide) (by decide), ?_⟩
  rw [show (Int32.ofInt 0).toNatClampNeg = 0 from rfl, st_seens]
  rw [nI_succ, ← hc] at h
  exact ⟨rfl, h⟩
end XMK
