section XMB
variable {L : Nat} {xs : Nat → Int32} {d : Nat} {Q : XQt} {pn pc : Int32} {tok : TTok} {ship : TShip} {nn : Int64} {tl : Int32} {draft : TShip} {vd : TVoy} {log : TLog} {trial : TCrew} {sta : TSta} {says : Fn} {seed : Int64} {past : Nat → TCrew} {marks : Nat → TLog} {K : XWd}
variable {m_thrown : Int32} {m_taped : Int32} {m_size : Int32} {m_place : Int32} {m_begin : Int32} {m_token : Int32} {m_word : Int64} {m_told : Int32} {m_wrong : Int32} {m_code : Int32} {m_toldLines : Int32} {m_given : Int32} {m_fresh : Int64} {m_done : Int32} {m_odd : Int32} {m_bestRank : Int32} {m_leastSpray : Int32} {m_g : Int64} {m_tape : Fn} {m_ship : Fn} {m_manName : Fl} {m_postName : Fl} {m_kind : Fn} {m_greenTold : Fn} {m_hands : Fn} {m_spray : Fn} {m_holds : Fn} {m_sea : Fn} {m_lineFrom : Fn} {m_lineTo : Fn} {m_codes : Fn} {m_opened : Fn} {m_compared : Fn} {m_kept : Fn} {m_keptBy : Fn} {m_ahead : Fn} {m_against : Fn} {m_sum : Fn} {m_sumBy : Fn} {m_term : Fn} {m_termBy : Fn} {m_byNot : Fn} {m_valueOf : Fn} {m_lines : Fn} {m_lineWhat : Fn} {m_lineA : Fn} {m_lineB : Fn} {m_seens : Fn} {m_seenMan : Fn} {m_seenOther : Fn} {m_seenAt : Fn} {m_seenGreener : Fn} {m_s : Fn} {m_aside : Fn} {m_before : Fn} {m_marked : Fn} {m_undone : Fn} {m_isLaid : Fn} {m_more : Fn} {m_row : Fn} {m_bestRow : Fn} {m_greenerBy : Fl}
variable {n : Nat} {A : TA}
theorem m_within {w : XWd} {x a b : Int32} (h : Q (some (.int (b2i (a ≤ x ∧ x ≤ b)))) w) : XC (xF L xs) xmeths (d + 1) 184 [.int x, .int a, .int b] w Q := by
  refine ⟨nb rfl, xgo [] 20 ?_⟩
  have h := vR h
  refine And.intro (fun e => ?_) (fun e => ?_)
  · exact ⟨rfl, h.2 (fun q => absurd e (Int32.not_lt.mpr q.1))⟩
  · refine And.intro (fun e2 => ?_) (fun e2 => ?_)
    · exact ⟨rfl, h.2 (fun q => absurd e2 (Int32.not_lt.mpr q.2))⟩
    · exact ⟨rfl, h.1 ⟨Int32.not_lt.mp e, Int32.not_lt.mp e2⟩⟩
theorem m_isMan {man : Int32} (hm : m_ship 0 = nI n) (h : Q (some (.int (b2i (0 ≤ man ∧ man < nI n)))) (clsW pn pc tok ship nn tl draft vd log trial sta says seed past marks (mdlX m_thrown m_taped m_size m_place m_begin m_token m_word m_told m_wrong m_code m_toldLines m_given m_fresh m_done m_odd m_bestRank m_leastSpray m_g m_tape m_ship m_manName m_postName m_kind m_greenTold m_hands m_spray m_holds m_sea m_lineFrom m_lineTo m_codes m_opened m_compared m_kept m_keptBy m_ahead m_against m_sum m_sumBy m_term m_termBy m_byNot m_valueOf m_lines m_lineWhat m_lineA m_lineB m_seens m_seenMan m_seenOther m_seenAt m_seenGreener m_s m_aside m_before m_marked m_undone m_isLaid m_more m_row m_bestRow m_greenerBy K))) : XC (xF L xs) xmeths (d + 1) 202 [.ref 169, .int man] (clsW pn pc tok ship nn tl draft vd log trial sta says seed past marks (mdlX m_thrown m_taped m_size m_place m_begin m_token m_word m_told m_wrong m_code m_toldLines m_given m_fresh m_done m_odd m_bestRank m_leastSpray m_g m_tape m_ship m_manName m_postName m_kind m_greenTold m_hands m_spray m_holds m_sea m_lineFrom m_lineTo m_codes m_opened m_compared m_kept m_keptBy m_ahead m_against m_sum m_sumBy m_term m_termBy m_byNot m_valueOf m_lines m_lineWhat m_lineA m_lineB m_seens m_seenMan m_seenOther m_seenAt m_seenGreener m_s m_aside m_before m_marked m_undone m_isLaid m_more m_row m_bestRow m_greenerBy K)) Q := by
  have h := vR h
  refine ⟨nb rfl, xgo [] 20 ?_⟩
  refine And.intro (fun (e : man < 0) => ⟨rfl, h.2 (fun q => absurd e (Int32.not_lt.mpr q.1))⟩) (fun (e : ¬ man < 0) => ?_)
  refine ⟨vp_in_nI (n := 0) (by decide) (by decide), ?_⟩
  refine And.intro (fun (e2 : m_ship 0 ≤ man) => ?_) (fun (e2 : ¬ m_ship 0 ≤ man) => ?_)
  · rw [hm] at e2
    exact ⟨rfl, h.2 (fun q => absurd q.2 (Int32.not_lt.mpr e2))⟩
  · rw [hm] at e2
    exact ⟨rfl, h.1 ⟨Int32.not_lt.mp e, Int32.not_le.mp e2⟩⟩
theorem m_isPost {man : Int32} (hm : m_ship 1 = nI n) (h : Q (some (.int (b2i (0 ≤ man ∧ man < nI n)))) (clsW pn pc tok ship nn tl draft vd log trial sta says seed past marks (mdlX m_thrown m_taped m_size m_place m_begin m_token m_word m_told m_wrong m_code m_toldLines m_given m_fresh m_done m_odd m_bestRank m_leastSpray m_g m_tape m_ship m_manName m_postName m_kind m_greenTold m_hands m_spray m_holds m_sea m_lineFrom m_lineTo m_codes m_opened m_compared m_kept m_keptBy m_ahead m_against m_sum m_sumBy m_term m_termBy m_byNot m_valueOf m_lines m_lineWhat m_lineA m_lineB m_seens m_seenMan m_seenOther m_seenAt m_seenGreener m_s m_aside m_before m_marked m_undone m_isLaid m_more m_row m_bestRow m_greenerBy K))) : XC (xF L xs) xmeths (d + 1) 206 [.ref 169, .int man] (clsW pn pc tok ship nn tl draft vd log trial sta says seed past marks (mdlX m_thrown m_taped m_size m_place m_begin m_token m_word m_told m_wrong m_code m_toldLines m_given m_fresh m_done m_odd m_bestRank m_leastSpray m_g m_tape m_ship m_manName m_postName m_kind m_greenTold m_hands m_spray m_holds m_sea m_lineFrom m_lineTo m_codes m_opened m_compared m_kept m_keptBy m_ahead m_against m_sum m_sumBy m_term m_termBy m_byNot m_valueOf m_lines m_lineWhat m_lineA m_lineB m_seens m_seenMan m_seenOther m_seenAt m_seenGreener m_s m_aside m_before m_marked m_undone m_isLaid m_more m_row m_bestRow m_greenerBy K)) Q := by
  have h := vR h
  refine ⟨nb rfl, xgo [] 20 ?_⟩
  refine And.intro (fun (e : man < 0) => ⟨rfl, h.2 (fun q => absurd e (Int32.not_lt.mpr q.1))⟩) (fun (e : ¬ man < 0) => ?_)
  refine ⟨vp_in_nI (n := 1) (by decide) (by decide), ?_⟩
  refine And.intro (fun (e2 : m_ship 1 ≤ man) => ?_) (fun (e2 : ¬ m_ship 1 ≤ man) => ?_)
  · rw [hm] at e2
    exact ⟨rfl, h.2 (fun q => absurd q.2 (Int32.not_lt.mpr e2))⟩
  · rw [hm] at e2
    exact ⟨rfl, h.1 ⟨Int32.not_lt.mp e, Int32.not_le.mp e2⟩⟩
theorem m_bits {w : XWd} {a : Nat} (ha : a < 64) (h : Q (some (.int (nI (cnt (fun k => a.testBit k) 6)))) w) : XC (xF L xs) xmeths (d + 1) 204 [.int (nI a)] w Q := by
  refine ⟨nb rfl, xgo [4] 20 ⟨nb rfl, nb rfl, ?_⟩⟩
  refine up_to (P := fun j => XWp (xF L xs) (some .int) xP204 (XC (xF L xs) xmeths d) Q 4 [oi (nI a), oi (nI (cnt (fun k => a.testBit k) j)), oi (nI j)] [] w) (n := 6) (fun j hj ih => xgo [4] 40 ?_)
  refine pk_le 6 j (fun q => ?_) (fun q => ?_) rfl rfl (by omega) (by omega)
  · have e : j = 6 := by omega
    rw [← e] at h
    exact h
  · have ih := ih q
    refine ⟨nb rfl, ?_⟩
    have e1 : nI a >>> (nI j &&& 31) &&& Int32.ofInt 1 = nI (a / 2 ^ j % 2) := by
      rw [pk_shrN (by omega) _ j (smod_of j (by omega))]
      exact pk_andN (Nat.lt_of_le_of_lt (Nat.div_le_self _ _) (by omega)) 1 (by decide)
    rw [e1, nI_add]
    have e2 : cnt (fun k => a.testBit k) (j + 1) = cnt (fun k => a.testBit k) j + a / 2 ^ j % 2 := by
      simp only [cnt, Nat.testBit_eq_decide_div_mod_eq]
      have := Nat.mod_lt (a / 2 ^ j) (show 0 < 2 by decide)
      split
      · rename_i y
        have := of_decide_eq_true y
        omega
      · rename_i y
        have : ¬ a / 2 ^ j % 2 = 1 := fun z => y (decide_eq_true z)
        omega
    rw [e2, nI_succ] at ih
    exact ih
theorem m_bset {w : XWd} {f : Nat → Bool} (hn : n ≤ 6) (h : Q (some (.int (nI (cnt f n)))) w) : XC (xF L xs) xmeths (d + 1) 204 [.int (bset f n)] w Q := by
  have hl := bsN_lt f n
  have h2 : 2 ^ n ≤ 2 ^ 6 := Nat.pow_le_pow_right (by decide) hn
  rw [bset_N f n hn]
  refine m_bits (by omega) ?_
  rw [cnt_bsN f hn]
  exact h
theorem m_greenerThan {k : Nat} (hn : n ≤ 6) (hm : m_ship 0 = nI n) (rs : RS m_s n A) (hk : k < n) (h : Q (some (.int (bset (fun o => decide (A.g k < A.g o)) n))) (clsW pn pc tok ship nn tl draft vd log trial sta says seed past marks (mdlX m_thrown m_taped m_size m_place m_begin m_token m_word m_told m_wrong m_code m_toldLines m_given m_fresh m_done m_odd m_bestRank m_leastSpray m_g m_tape m_ship m_manName m_postName m_kind m_greenTold m_hands m_spray m_holds m_sea m_lineFrom m_lineTo m_codes m_opened m_compared m_kept m_keptBy m_ahead m_against m_sum m_sumBy m_term m_termBy m_byNot m_valueOf m_lines m_lineWhat m_lineA m_lineB m_seens m_seenMan m_seenOther m_seenAt m_seenGreener m_s m_aside m_before m_marked m_undone m_isLaid m_more m_row m_bestRow m_greenerBy K))) : XC (xF L xs) xmeths (d + 1) 203 [.ref 169, .int (nI k)] (clsW pn pc tok ship nn tl draft vd log trial sta says seed past marks (mdlX m_thrown m_taped m_size m_place m_begin m_token m_word m_told m_wrong m_code m_toldLines m_given m_fresh m_done m_odd m_bestRank m_leastSpray m_g m_tape m_ship m_manName m_postName m_kind m_greenTold m_hands m_spray m_holds m_sea m_lineFrom m_lineTo m_codes m_opened m_compared m_kept m_keptBy m_ahead m_against m_sum m_sumBy m_term m_termBy m_byNot m_valueOf m_lines m_lineWhat m_lineA m_lineB m_seens m_seenMan m_seenOther m_seenAt m_seenGreener m_s m_aside m_before m_marked m_undone m_isLaid m_more m_row m_bestRow m_greenerBy K)) Q := by
  refine ⟨nb rfl, xgo [4] 20 ⟨nb rfl, nb rfl, ?_⟩⟩
  refine up_to (P := fun j => XWp (xF L xs) (some .int) xP203 (XC (xF L xs) xmeths d) Q 4 [orf 169, oi (nI k), oi (bset (fun o => decide (A.g k < A.g o)) j), oi (nI j)] [] (clsW pn pc tok ship nn tl draft vd log trial sta says seed past marks (mdlX m_thrown m_taped m_size m_place m_begin m_token m_word m_told m_wrong m_code m_toldLines m_given m_fresh m_done m_odd m_bestRank m_leastSpray m_g m_tape m_ship m_manName m_postName m_kind m_greenTold m_hands m_spray m_holds m_sea m_lineFrom m_lineTo m_codes m_opened m_compared m_kept m_keptBy m_ahead m_against m_sum m_sumBy m_term m_termBy m_byNot m_valueOf m_lines m_lineWhat m_lineA m_lineB m_seens m_seenMan m_seenOther m_seenAt m_seenGreener m_s m_aside m_before m_marked m_undone m_isLaid m_more m_row m_bestRow m_greenerBy K))) (n := n) (fun j hj ih => xgo [4] 40 ⟨vp_in_nI (n := 0) (by decide) (by decide), ?_⟩)
  refine pk_le n j (fun q => ?_) (fun q => ?_) hm rfl (by omega) (by omega)
  · have e : j = n := by omega
    subst e
    exact h
  · have ih := ih q
    refine ⟨show vp_in (Int32.ofInt 2 + nI j) 14 from i2 j ▸ vp_in_nI (by omega) (by omega), show vp_in (Int32.ofInt 2 + nI k) 14 from i2 k ▸ vp_in_nI (by omega) (by omega), ?_⟩
    rw [i2, i2, nI_clamp (by omega), nI_clamp (by omega)]
    rw [bset, nI_succ] at ih
    refine And.intro (fun (q2 : m_s (2 + j) ≤ m_s (2 + k)) => ?_) (fun (q2 : ¬ m_s (2 + j) ≤ m_s (2 + k)) => ?_)
    · rw [rs.green j q, rs.green k hk] at q2
      rw [if_neg (by simpa using q2)] at ih
      refine ⟨nb rfl, ?_⟩
      rw [show Int32.ofInt 0 = 0 from rfl, or0]
      exact ih
    · rw [rs.green j q, rs.green k hk] at q2
      rw [if_pos (by simpa using q2)] at ih
      exact ⟨nb rfl, ih⟩
theorem m_captainNow (hn : n ≤ 6) (hm : m_ship 0 = nI n) (rs : RS m_s n A) (h : Q (some (.int (capt A.g n))) (clsW pn pc tok ship nn tl draft vd log trial sta says seed past marks (mdlX m_thrown m_taped m_size m_place m_begin m_token m_word m_told m_wrong m_code m_toldLines m_given m_fresh m_done m_odd m_bestRank m_leastSpray m_g m_tape m_ship m_manName m_postName m_kind m_greenTold m_hands m_spray m_holds m_sea m_lineFrom m_lineTo m_codes m_opened m_compared m_kept m_keptBy m_ahead m_against m_sum m_sumBy m_term m_termBy m_byNot m_valueOf m_lines m_lineWhat m_lineA m_lineB m_seens m_seenMan m_seenOther m_seenAt m_seenGreener m_s m_aside m_before m_marked m_undone m_isLaid m_more m_row m_bestRow m_greenerBy K))) : XC (xF L xs) xmeths (d + 1) 232 [.ref 169] (clsW pn pc tok ship nn tl draft vd log trial sta says seed past marks (mdlX m_thrown m_taped m_size m_place m_begin m_token m_word m_told m_wrong m_code m_toldLines m_given m_fresh m_done m_odd m_bestRank m_leastSpray m_g m_tape m_ship m_manName m_postName m_kind m_greenTold m_hands m_spray m_holds m_sea m_lineFrom m_lineTo m_codes m_opened m_compared m_kept m_keptBy m_ahead m_against m_sum m_sumBy m_term m_termBy m_byNot m_valueOf m_lines m_lineWhat m_lineA m_lineB m_seens m_seenMan m_seenOther m_seenAt m_seenGreener m_s m_aside m_before m_marked m_undone m_isLaid m_more m_row m_bestRow m_greenerBy K)) Q := by
  rw [← capt_str hn] at h
  refine ⟨nb rfl, xgo [2] 20 ⟨nb rfl, ?_⟩⟩
  refine up_to (P := fun j => ∀ x2 x3, Q (some (.int (fstI (strF A.g n) j (n - j)))) (clsW pn pc tok ship nn tl draft vd log trial sta says seed past marks (mdlX m_thrown m_taped m_size m_place m_begin m_token m_word m_told m_wrong m_code m_toldLines m_given m_fresh m_done m_odd m_bestRank m_leastSpray m_g m_tape m_ship m_manName m_postName m_kind m_greenTold m_hands m_spray m_holds m_sea m_lineFrom m_lineTo m_codes m_opened m_compared m_kept m_keptBy m_ahead m_against m_sum m_sumBy m_term m_termBy m_byNot m_valueOf m_lines m_lineWhat m_lineA m_lineB m_seens m_seenMan m_seenOther m_seenAt m_seenGreener m_s m_aside m_before m_marked m_undone m_isLaid m_more m_row m_bestRow m_greenerBy K)) → XWp (xF L xs) (some .int) xP232 (XC (xF L xs) xmeths d) Q 2 [orf 169, oi (nI j), x2, x3] [] (clsW pn pc tok ship nn tl draft vd log trial sta says seed past marks (mdlX m_thrown m_taped m_size m_place m_begin m_token m_word m_told m_wrong m_code m_toldLines m_given m_fresh m_done m_odd m_bestRank m_leastSpray m_g m_tape m_ship m_manName m_postName m_kind m_greenTold m_hands m_spray m_holds m_sea m_lineFrom m_lineTo m_codes m_opened m_compared m_kept m_keptBy m_ahead m_against m_sum m_sumBy m_term m_termBy m_byNot m_valueOf m_lines m_lineWhat m_lineA m_lineB m_seens m_seenMan m_seenOther m_seenAt m_seenGreener m_s m_aside m_before m_marked m_undone m_isLaid m_more m_row m_bestRow m_greenerBy K))) (n := n) (fun j hj ih x2 x3 h => xgo [2, 12] 60 ⟨vp_in_nI (n := 0) (by decide) (by decide), ?_⟩) none none h
  refine pk_le n j (fun q => ?_) (fun q => ?_) hm rfl (by omega) (by omega)
  · have e : n - j = 0 := by omega
    rw [e] at h
    exact h
  · have ih := ih q
    have e : n - j = (n - (j + 1)) + 1 := by omega
    rw [e, fstI] at h
    refine ⟨nb rfl, nb rfl, ?_⟩
    refine up_to (P := fun i => XWp (xF L xs) (some .int) xP232 (XC (xF L xs) xmeths d) Q 12 [orf 169, oi (nI j), oi (b2i (allB (fun o => decide (o = j ∨ A.g o < A.g j)) i = true)), oi (nI i)] [] (clsW pn pc tok ship nn tl draft vd log trial sta says seed past marks (mdlX m_thrown m_taped m_size m_place m_begin m_token m_word m_told m_wrong m_code m_toldLines m_given m_fresh m_done m_odd m_bestRank m_leastSpray m_g m_tape m_ship m_manName m_postName m_kind m_greenTold m_hands m_spray m_holds m_sea m_lineFrom m_lineTo m_codes m_opened m_compared m_kept m_keptBy m_ahead m_against m_sum m_sumBy m_term m_termBy m_byNot m_valueOf m_lines m_lineWhat m_lineA m_lineB m_seens m_seenMan m_seenOther m_seenAt m_seenGreener m_s m_aside m_before m_marked m_undone m_isLaid m_more m_row m_bestRow m_greenerBy K))) (n := n) (fun i hi ih2 => xgo [2, 12] 60 ⟨vp_in_nI (n := 0) (by decide) (by decide), ?_⟩)
    refine pk_le n i (fun q2 => ?_) (fun q2 => ?_) hm rfl (by omega) (by omega)
    · have e : i = n := by omega
      subst e
      refine vB0 (fun q3 => ?_) (fun q3 => ?_)
      · rw [if_neg (show ¬ strF A.g i j = true from q3)] at h
        have ih := ih (oi (b2i (allB (fun o => decide (o = j ∨ A.g o < A.g j)) i = true))) (oi (nI i)) h
        rw [nI_succ] at ih
        exact ih
      · rw [if_pos (show strF A.g i j = true from q3)] at h
        exact h
    · have ih2 := ih2 q2
      rw [allB, nI_succ] at ih2
      refine vB0 (fun q3 => ?_) (fun q3 => ?_)
      · rw [b2i_f (by rw [Bool.and_eq_true]; exact fun z => q3 z.1)] at ih2
        exact ⟨nb rfl, ih2⟩
      · refine pk_eq i j (fun q4 => ?_) (fun q4 => ?_) rfl rfl (by omega) (by omega)
        · rw [b2i_t (by rw [Bool.and_eq_true, decide_eq_true_eq]; exact ⟨q3, Or.inl q4⟩)] at ih2
          exact ⟨nb rfl, ih2⟩
        · refine ⟨show vp_in (Int32.ofInt 2 + nI j) 14 from i2 j ▸ vp_in_nI (by omega) (by omega), show vp_in (Int32.ofInt 2 + nI i) 14 from i2 i ▸ vp_in_nI (by omega) (by omega), ?_⟩
          rw [i2, i2, nI_clamp (by omega), nI_clamp (by omega)]
          refine And.intro (fun (q5 : m_s (2 + j) ≤ m_s (2 + i)) => ?_) (fun (q5 : ¬ m_s (2 + j) ≤ m_s (2 + i)) => ?_)
          · rw [rs.green j q, rs.green i q2] at q5
            rw [b2i_f (by rw [Bool.and_eq_true, decide_eq_true_eq]; exact fun z => z.2.elim q4 (fun z => absurd z (Int32.not_lt.mpr q5)))] at ih2
            exact ⟨nb rfl, ih2⟩
          · rw [rs.green j q, rs.green i q2] at q5
            rw [b2i_t (by rw [Bool.and_eq_true, decide_eq_true_eq]; exact ⟨q3, Or.inr (Int32.not_le.mp q5)⟩)] at ih2
            exact ⟨nb rfl, ih2⟩
theorem m_standing {b : Nat} (hn : n ≤ 6) (hm : m_ship 0 = nI n) (rs : RS m_s n A) (h : Q (some (.int (bset (fun o => decide (A.p o = nI b)) n))) (clsW pn pc tok ship nn tl draft vd log trial sta says seed past marks (mdlX m_thrown m_taped m_size m_place m_begin m_token m_word m_told m_wrong m_code m_toldLines m_given m_fresh m_done m_odd m_bestRank m_leastSpray m_g m_tape m_ship m_manName m_postName m_kind m_greenTold m_hands m_spray m_holds m_sea m_lineFrom m_lineTo m_codes m_opened m_compared m_kept m_keptBy m_ahead m_against m_sum m_sumBy m_term m_termBy m_byNot m_valueOf m_lines m_lineWhat m_lineA m_lineB m_seens m_seenMan m_seenOther m_seenAt m_seenGreener m_s m_aside m_before m_marked m_undone m_isLaid m_more m_row m_bestRow m_greenerBy K))) : XC (xF L xs) xmeths (d + 1) 207 [.ref 169, .int (nI b)] (clsW pn pc tok ship nn tl draft vd log trial sta says seed past marks (mdlX m_thrown m_taped m_size m_place m_begin m_token m_word m_told m_wrong m_code m_toldLines m_given m_fresh m_done m_odd m_bestRank m_leastSpray m_g m_tape m_ship m_manName m_postName m_kind m_greenTold m_hands m_spray m_holds m_sea m_lineFrom m_lineTo m_codes m_opened m_compared m_kept m_keptBy m_ahead m_against m_sum m_sumBy m_term m_termBy m_byNot m_valueOf m_lines m_lineWhat m_lineA m_lineB m_seens m_seenMan m_seenOther m_seenAt m_seenGreener m_s m_aside m_before m_marked m_undone m_isLaid m_more m_row m_bestRow m_greenerBy K)) Q := by
  refine ⟨nb rfl, xgo [4] 20 ⟨nb rfl, nb rfl, ?_⟩⟩
  refine up_to (P := fun j => XWp (xF L xs) (some .int) xP207 (XC (xF L xs) xmeths d) Q 4 [orf 169, oi (nI b), oi (bset (fun o => decide (A.p o = nI b)) j), oi (nI j)] [] (clsW pn pc tok ship nn tl draft vd log trial sta says seed past marks (mdlX m_thrown m_taped m_size m_place m_begin m_token m_word m_told m_wrong m_code m_toldLines m_given m_fresh m_done m_odd m_bestRank m_leastSpray m_g m_tape m_ship m_manName m_postName m_kind m_greenTold m_hands m_spray m_holds m_sea m_lineFrom m_lineTo m_codes m_opened m_compared m_kept m_keptBy m_ahead m_against m_sum m_sumBy m_term m_termBy m_byNot m_valueOf m_lines m_lineWhat m_lineA m_lineB m_seens m_seenMan m_seenOther m_seenAt m_seenGreener m_s m_aside m_before m_marked m_undone m_isLaid m_more m_row m_bestRow m_greenerBy K))) (n := n) (fun j hj ih => xgo [4] 40 ⟨vp_in_nI (n := 0) (by decide) (by decide), ?_⟩)
  refine pk_le n j (fun q => ?_) (fun q => ?_) hm rfl (by omega) (by omega)
  · have e : j = n := by omega
    subst e
    exact h
  · have ih := ih q
    refine ⟨show vp_in (Int32.ofInt 8 + nI j) 14 from i8 j ▸ vp_in_nI (by omega) (by omega), ?_⟩
    rw [i8, nI_clamp (by omega)]
    rw [bset, nI_succ] at ih
    refine And.intro (fun (q2 : ¬ m_s (8 + j) = nI b + 1) => ?_) (fun (q2 : ¬ ¬ m_s (8 + j) = nI b + 1) => ?_)
    · rw [rs.place j q] at q2
      rw [if_neg (by simp only [decide_eq_true_eq]; exact fun z => q2 (by rw [z]))] at ih
      refine ⟨nb rfl, ?_⟩
      rw [show Int32.ofInt 0 = 0 from rfl, or0]
      exact ih
    · have q2 := Classical.not_not.mp q2
      rw [rs.place j q] at q2
      rw [if_pos (by simp only [decide_eq_true_eq]; exact (Int32.add_left_inj 1).mp q2)] at ih
      exact ⟨nb rfl, ih⟩
theorem m_allBelow (hn : n ≤ 6) (hm : m_ship 0 = nI n) (rs : RS m_s n A) (h : Q (some (.int (bset (fun o => decide (A.p o = -1)) n))) (clsW pn pc tok ship nn tl draft vd log trial sta says seed past marks (mdlX m_thrown m_taped m_size m_place m_begin m_token m_word m_told m_wrong m_code m_toldLines m_given m_fresh m_done m_odd m_bestRank m_leastSpray m_g m_tape m_ship m_manName m_postName m_kind m_greenTold m_hands m_spray m_holds m_sea m_lineFrom m_lineTo m_codes m_opened m_compared m_kept m_keptBy m_ahead m_against m_sum m_sumBy m_term m_termBy m_byNot m_valueOf m_lines m_lineWhat m_lineA m_lineB m_seens m_seenMan m_seenOther m_seenAt m_seenGreener m_s m_aside m_before m_marked m_undone m_isLaid m_more m_row m_bestRow m_greenerBy K))) : XC (xF L xs) xmeths (d + 1) 266 [.ref 169] (clsW pn pc tok ship nn tl draft vd log trial sta says seed past marks (mdlX m_thrown m_taped m_size m_place m_begin m_token m_word m_told m_wrong m_code m_toldLines m_given m_fresh m_done m_odd m_bestRank m_leastSpray m_g m_tape m_ship m_manName m_postName m_kind m_greenTold m_hands m_spray m_holds m_sea m_lineFrom m_lineTo m_codes m_opened m_compared m_kept m_keptBy m_ahead m_against m_sum m_sumBy m_term m_termBy m_byNot m_valueOf m_lines m_lineWhat m_lineA m_lineB m_seens m_seenMan m_seenOther m_seenAt m_seenGreener m_s m_aside m_before m_marked m_undone m_isLaid m_more m_row m_bestRow m_greenerBy K)) Q := by
  refine ⟨nb rfl, xgo [4] 20 ⟨nb rfl, nb rfl, ?_⟩⟩
  refine up_to (P := fun j => XWp (xF L xs) (some .int) xP266 (XC (xF L xs) xmeths d) Q 4 [orf 169, oi (bset (fun o => decide (A.p o = -1)) j), oi (nI j)] [] (clsW pn pc tok ship nn tl draft vd log trial sta says seed past marks (mdlX m_thrown m_taped m_size m_place m_begin m_token m_word m_told m_wrong m_code m_toldLines m_given m_fresh m_done m_odd m_bestRank m_leastSpray m_g m_tape m_ship m_manName m_postName m_kind m_greenTold m_hands m_spray m_holds m_sea m_lineFrom m_lineTo m_codes m_opened m_compared m_kept m_keptBy m_ahead m_against m_sum m_sumBy m_term m_termBy m_byNot m_valueOf m_lines m_lineWhat m_lineA m_lineB m_seens m_seenMan m_seenOther m_seenAt m_seenGreener m_s m_aside m_before m_marked m_undone m_isLaid m_more m_row m_bestRow m_greenerBy K))) (n := n) (fun j hj ih => xgo [4] 40 ⟨vp_in_nI (n := 0) (by decide) (by decide), ?_⟩)
  refine pk_le n j (fun q => ?_) (fun q => ?_) hm rfl (by omega) (by omega)
  · have e : j = n := by omega
    subst e
    exact h
  · have ih := ih q
    refine ⟨show vp_in (Int32.ofInt 8 + nI j) 14 from i8 j ▸ vp_in_nI (by omega) (by omega), ?_⟩
    rw [i8, nI_clamp (by omega)]
    rw [bset, nI_succ] at ih
    refine And.intro (fun (q2 : ¬ m_s (8 + j) = 0) => ?_) (fun (q2 : ¬ ¬ m_s (8 + j) = 0) => ?_)
    · rw [rs.place j q] at q2
      rw [if_neg (by simp only [decide_eq_true_eq]; exact fun z => q2 (by rw [z]; decide))] at ih
      refine ⟨nb rfl, ?_⟩
      rw [show Int32.ofInt 0 = 0 from rfl, or0]
      exact ih
    · have q2 := Classical.not_not.mp q2
      rw [rs.place j q] at q2
      rw [if_pos (by simp only [decide_eq_true_eq]; exact (Int32.add_left_inj 1).mp (q2.trans (by decide)))] at ih
      exact ⟨nb rfl, ih⟩
theorem m_hasSucked {k : Nat} (hk : k < 6) (rs : RS m_s n A) (hsu : A.su < 64) (h : Q (some (.int (b2i (A.su.testBit k = true)))) (clsW pn pc tok ship nn tl draft vd log trial sta says seed past marks (mdlX m_thrown m_taped m_size m_place m_begin m_token m_word m_told m_wrong m_code m_toldLines m_given m_fresh m_done m_odd m_bestRank m_leastSpray m_g m_tape m_ship m_manName m_postName m_kind m_greenTold m_hands m_spray m_holds m_sea m_lineFrom m_lineTo m_codes m_opened m_compared m_kept m_keptBy m_ahead m_against m_sum m_sumBy m_term m_termBy m_byNot m_valueOf m_lines m_lineWhat m_lineA m_lineB m_seens m_seenMan m_seenOther m_seenAt m_seenGreener m_s m_aside m_before m_marked m_undone m_isLaid m_more m_row m_bestRow m_greenerBy K))) : XC (xF L xs) xmeths (d + 1) 214 [.ref 169, .int (nI k)] (clsW pn pc tok ship nn tl draft vd log trial sta says seed past marks (mdlX m_thrown m_taped m_size m_place m_begin m_token m_word m_told m_wrong m_code m_toldLines m_given m_fresh m_done m_odd m_bestRank m_leastSpray m_g m_tape m_ship m_manName m_postName m_kind m_greenTold m_hands m_spray m_holds m_sea m_lineFrom m_lineTo m_codes m_opened m_compared m_kept m_keptBy m_ahead m_against m_sum m_sumBy m_term m_termBy m_byNot m_valueOf m_lines m_lineWhat m_lineA m_lineB m_seens m_seenMan m_seenOther m_seenAt m_seenGreener m_s m_aside m_before m_marked m_undone m_isLaid m_more m_row m_bestRow m_greenerBy K)) Q := by
  have h := vR h
  have hb : bit (m_s 1) (nI k) ↔ A.su.testBit k = true := by rw [rs.sucked]; exact bit_iff (by omega) (by omega)
  refine ⟨nb rfl, xgo [] 20 ⟨vp_in_nI (n := 1) (by decide) (by decide), ?_⟩⟩
  exact And.intro (fun (q : ¬ bit (m_s 1) (nI k)) => ⟨rfl, h.2 (fun y => q (hb.mpr y))⟩) (fun (q : ¬ ¬ bit (m_s 1) (nI k)) => ⟨rfl, h.1 (hb.mp (Classical.not_not.mp q))⟩)
theorem m_canStand {k b : Nat} (hn : n ≤ 6) (hm : m_ship 0 = nI n) (rs : RS m_s n A) (hk : k < n) (hb : b < 4) (hh : m_holds b = ship.holds b) (h : Q (some (.int (b2i (stP ship A.p n k b)))) (clsW pn pc tok ship nn tl draft vd log trial sta says seed past marks (mdlX m_thrown m_taped m_size m_place m_begin m_token m_word m_told m_wrong m_code m_toldLines m_given m_fresh m_done m_odd m_bestRank m_leastSpray m_g m_tape m_ship m_manName m_postName m_kind m_greenTold m_hands m_spray m_holds m_sea m_lineFrom m_lineTo m_codes m_opened m_compared m_kept m_keptBy m_ahead m_against m_sum m_sumBy m_term m_termBy m_byNot m_valueOf m_lines m_lineWhat m_lineA m_lineB m_seens m_seenMan m_seenOther m_seenAt m_seenGreener m_s m_aside m_before m_marked m_undone m_isLaid m_more m_row m_bestRow m_greenerBy K))) : XC (xF L xs) xmeths (d + 2) 209 [.ref 169, .int (nI k), .int (nI b)] (clsW pn pc tok ship nn tl draft vd log trial sta says seed past marks (mdlX m_thrown m_taped m_size m_place m_begin m_token m_word m_told m_wrong m_code m_toldLines m_given m_fresh m_done m_odd m_bestRank m_leastSpray m_g m_tape m_ship m_manName m_postName m_kind m_greenTold m_hands m_spray m_holds m_sea m_lineFrom m_lineTo m_codes m_opened m_compared m_kept m_keptBy m_ahead m_against m_sum m_sumBy m_term m_termBy m_byNot m_valueOf m_lines m_lineWhat m_lineA m_lineB m_seens m_seenMan m_seenOther m_seenAt m_seenGreener m_s m_aside m_before m_marked m_undone m_isLaid m_more m_row m_bestRow m_greenerBy K)) Q := by
  have h := vR h
  refine ⟨nb rfl, xgo [] 40 ⟨show vp_in (Int32.ofInt 8 + nI k) 14 from i8 k ▸ vp_in_nI (by omega) (by omega), ?_⟩⟩
  rw [i8, nI_clamp (by omega)]
  refine And.intro (fun (q : m_s (8 + k) = nI b + 1) => ?_) (fun (q : ¬ m_s (8 + k) = nI b + 1) => ?_)
  · rw [rs.place k hk] at q
    exact ⟨rfl, h.2 (fun z => z.1 ((Int32.add_left_inj 1).mp q))⟩
  · rw [rs.place k hk] at q
    refine ⟨rfl, nb rfl, m_standing hn hm rs ⟨rfl, nb rfl, m_bset hn ⟨vp_in_nI (by omega) (by omega), ?_⟩⟩⟩
    rw [nI_clamp (by omega)]
    have e := bcnt_bset (fun o => decide (A.p o = nI b)) hn
    refine And.intro (fun (q2 : m_holds b ≤ nI (cnt (fun o => decide (A.p o = nI b)) n)) => ?_) (fun (q2 : ¬ m_holds b ≤ nI (cnt (fun o => decide (A.p o = nI b)) n)) => ?_)
    · rw [hh, ← e] at q2
      exact ⟨rfl, h.2 (fun z => absurd z.2 (Int32.not_lt.mpr q2))⟩
    · rw [hh, ← e] at q2
      exact ⟨rfl, h.1 ⟨fun z => q (by rw [z]), Int32.not_le.mp q2⟩⟩
theorem m_seaOf {t z : Nat} {x : Int32} (hx : x = nI t) (ht : t < 2 ^ 31) (hz1 : 0 < z) (hz2 : z ≤ 12) (hs : (m_ship 5 = nI z ∧ ∀ i, i < z → m_sea i = ship.sea i) ∨ (m_ship 5 = 0 ∧ z = 1 ∧ ship.sea 0 = 1)) (h : Q (some (.int (ship.sea (t % z)))) (clsW pn pc tok ship nn tl draft vd log trial sta says seed past marks (mdlX m_thrown m_taped m_size m_place m_begin m_token m_word m_told m_wrong m_code m_toldLines m_given m_fresh m_done m_odd m_bestRank m_leastSpray m_g m_tape m_ship m_manName m_postName m_kind m_greenTold m_hands m_spray m_holds m_sea m_lineFrom m_lineTo m_codes m_opened m_compared m_kept m_keptBy m_ahead m_against m_sum m_sumBy m_term m_termBy m_byNot m_valueOf m_lines m_lineWhat m_lineA m_lineB m_seens m_seenMan m_seenOther m_seenAt m_seenGreener m_s m_aside m_before m_marked m_undone m_isLaid m_more m_row m_bestRow m_greenerBy K))) : XC (xF L xs) xmeths (d + 1) 220 [.ref 169, .int x] (clsW pn pc tok ship nn tl draft vd log trial sta says seed past marks (mdlX m_thrown m_taped m_size m_place m_begin m_token m_word m_told m_wrong m_code m_toldLines m_given m_fresh m_done m_odd m_bestRank m_leastSpray m_g m_tape m_ship m_manName m_postName m_kind m_greenTold m_hands m_spray m_holds m_sea m_lineFrom m_lineTo m_codes m_opened m_compared m_kept m_keptBy m_ahead m_against m_sum m_sumBy m_term m_termBy m_byNot m_valueOf m_lines m_lineWhat m_lineA m_lineB m_seens m_seenMan m_seenOther m_seenAt m_seenGreener m_s m_aside m_before m_marked m_undone m_isLaid m_more m_row m_bestRow m_greenerBy K)) Q := by
  subst hx
  have hr := Nat.mod_lt t hz1
  refine ⟨nb rfl, xgo [] 40 ⟨vp_in_nI (n := 5) (by decide) (by decide), ?_⟩⟩
  rcases hs with ⟨e1, e2⟩ | ⟨e1, e2, e3⟩
  · refine And.intro (fun (q : ¬ m_ship 5 = 0) => ?_) (fun (q : ¬ ¬ m_ship 5 = 0) => ?_)
    · refine ⟨vp_in_nI (n := 5) (by decide) (by decide), (show ¬ m_ship 5 = 0 from q), ?_⟩
      have e : nI t - nI t / m_ship 5 * m_ship 5 = nI (t % z) := by rw [e1]; exact pk_rem ht hz1 (by omega)
      refine ⟨show vp_in (nI t - nI t / m_ship 5 * m_ship 5) 24 from e ▸ vp_in_nI (by omega) (by omega), ?_⟩
      have h2 : m_sea (nI t - nI t / m_ship 5 * m_ship 5).toNatClampNeg = ship.sea (t % z) := by rw [e, nI_clamp (by omega)]; exact e2 _ hr
      rw [← h2] at h
      exact h
    · exact absurd (Classical.not_not.mp q) (e1 ▸ nI_ne0 hz1 (by omega))
  · refine And.intro (fun (q : ¬ m_ship 5 = 0) => absurd e1 q) (fun (q : ¬ ¬ m_ship 5 = 0) => ?_)
    have e4 : t % z = 0 := by omega
    rw [e4, e3] at h
    exact h
end XMB
