/-! the reference: what comes -/
theorem prs_eq (g : Fn) : ∀ n, prsC g n n = prsR g n := by
  have st : ∀ n m, m ≤ n → prsC g (n + 1) m = prsC g n m + cnt (fun o => decide (g n = g o)) m := by
    intro n m
    induction m with
    | zero => exact fun _ => rfl
    | succ m ih =>
      intro hm
      simp only [prsC, ih (by omega), cnt]
      by_cases y : g m = g n
      · have e : prC g m n = true := by simp [prC, y]; omega
        rw [if_pos e, if_pos (by simpa using y.symm)]
        omega
      · have e : ¬ prC g m n = true := by simp [prC, y]
        rw [if_neg e, if_neg (by simpa using fun z => y z.symm)]
        omega
  intro n
  induction n with
  | zero => rfl
  | succ n ih =>
    have e : cnt (prC g n) (n + 1) = 0 := cnt_zero (n + 1) (fun o ho => by simp [prC]; omega)
    rw [prsC, st n n (Nat.le_refl n), ih, e, prsR, Nat.add_zero]
abbrev TA.run (s : TShip) (n z : Nat) (A : TA) (j : Nat) : TA := (runG s A.p n z A.t A.g j, A.p, A.su, A.t + j)
section XMN
variable {L : Nat} {xs : Nat → Int32} {d : Nat} {Q : XQt} {pn pc : Int32} {tok : TTok} {ship : TShip} {nn : Int64} {tl : Int32} {draft : TShip} {vd : TVoy} {log : TLog} {trial : TCrew} {sta : TSta} {says : Fn} {seed : Int64} {past : Nat → TCrew} {marks : Nat → TLog} {K : XWd}
variable {m_thrown : Int32} {m_taped : Int32} {m_size : Int32} {m_place : Int32} {m_begin : Int32} {m_token : Int32} {m_word : Int64} {m_told : Int32} {m_wrong : Int32} {m_code : Int32} {m_toldLines : Int32} {m_given : Int32} {m_fresh : Int64} {m_done : Int32} {m_odd : Int32} {m_bestRank : Int32} {m_leastSpray : Int32} {m_g : Int64} {m_tape : Fn} {m_ship : Fn} {m_manName : Fl} {m_postName : Fl} {m_kind : Fn} {m_greenTold : Fn} {m_hands : Fn} {m_spray : Fn} {m_holds : Fn} {m_sea : Fn} {m_lineFrom : Fn} {m_lineTo : Fn} {m_codes : Fn} {m_opened : Fn} {m_compared : Fn} {m_kept : Fn} {m_keptBy : Fn} {m_ahead : Fn} {m_against : Fn} {m_sum : Fn} {m_sumBy : Fn} {m_term : Fn} {m_termBy : Fn} {m_byNot : Fn} {m_valueOf : Fn} {m_lines : Fn} {m_lineWhat : Fn} {m_lineA : Fn} {m_lineB : Fn} {m_seens : Fn} {m_seenMan : Fn} {m_seenOther : Fn} {m_seenAt : Fn} {m_seenGreener : Fn} {m_s : Fn} {m_aside : Fn} {m_before : Fn} {m_marked : Fn} {m_undone : Fn} {m_isLaid : Fn} {m_more : Fn} {m_row : Fn} {m_bestRow : Fn} {m_greenerBy : Fl}
variable {n p z c : Nat} {A : TA}
theorem m_saveB (n6 : n ≤ 6) (rs : RS m_s n A) (h : ∀ m_before, RS m_before n A → Q none (clsW pn pc tok ship nn tl draft vd log trial sta says seed past marks (mdlX m_thrown m_taped m_size m_place m_begin m_token m_word m_told m_wrong m_code m_toldLines m_given m_fresh m_done m_odd m_bestRank m_leastSpray m_g m_tape m_ship m_manName m_postName m_kind m_greenTold m_hands m_spray m_holds m_sea m_lineFrom m_lineTo m_codes m_opened m_compared m_kept m_keptBy m_ahead m_against m_sum m_sumBy m_term m_termBy m_byNot m_valueOf m_lines m_lineWhat m_lineA m_lineB m_seens m_seenMan m_seenOther m_seenAt m_seenGreener m_s m_aside m_before m_marked m_undone m_isLaid m_more m_row m_bestRow m_greenerBy K))) : XC (xF L xs) xmeths (d + 1) 211 [.ref 204, .int 0, .ref 206, .int 0] (clsW pn pc tok ship nn tl draft vd log trial sta says seed past marks (mdlX m_thrown m_taped m_size m_place m_begin m_token m_word m_told m_wrong m_code m_toldLines m_given m_fresh m_done m_odd m_bestRank m_leastSpray m_g m_tape m_ship m_manName m_postName m_kind m_greenTold m_hands m_spray m_holds m_sea m_lineFrom m_lineTo m_codes m_opened m_compared m_kept m_keptBy m_ahead m_against m_sum m_sumBy m_term m_termBy m_byNot m_valueOf m_lines m_lineWhat m_lineA m_lineB m_seens m_seenMan m_seenOther m_seenAt m_seenGreener m_s m_aside m_before m_marked m_undone m_isLaid m_more m_row m_bestRow m_greenerBy K)) Q :=
  m_copies_204_206 (a := 0) (b := 0) rfl rfl (by omega) (by omega) (h _ (RS.cpy (a := 0) (rs.ext n6 (fun k hk => by rw [Nat.zero_add])) n6))
theorem m_loadB (n6 : n ≤ 6) (rs : RS m_before n A) (h : ∀ m_s, RS m_s n A → Q none (clsW pn pc tok ship nn tl draft vd log trial sta says seed past marks (mdlX m_thrown m_taped m_size m_place m_begin m_token m_word m_told m_wrong m_code m_toldLines m_given m_fresh m_done m_odd m_bestRank m_leastSpray m_g m_tape m_ship m_manName m_postName m_kind m_greenTold m_hands m_spray m_holds m_sea m_lineFrom m_lineTo m_codes m_opened m_compared m_kept m_keptBy m_ahead m_against m_sum m_sumBy m_term m_termBy m_byNot m_valueOf m_lines m_lineWhat m_lineA m_lineB m_seens m_seenMan m_seenOther m_seenAt m_seenGreener m_s m_aside m_before m_marked m_undone m_isLaid m_more m_row m_bestRow m_greenerBy K))) : XC (xF L xs) xmeths (d + 1) 211 [.ref 206, .int 0, .ref 204, .int 0] (clsW pn pc tok ship nn tl draft vd log trial sta says seed past marks (mdlX m_thrown m_taped m_size m_place m_begin m_token m_word m_told m_wrong m_code m_toldLines m_given m_fresh m_done m_odd m_bestRank m_leastSpray m_g m_tape m_ship m_manName m_postName m_kind m_greenTold m_hands m_spray m_holds m_sea m_lineFrom m_lineTo m_codes m_opened m_compared m_kept m_keptBy m_ahead m_against m_sum m_sumBy m_term m_termBy m_byNot m_valueOf m_lines m_lineWhat m_lineA m_lineB m_seens m_seenMan m_seenOther m_seenAt m_seenGreener m_s m_aside m_before m_marked m_undone m_isLaid m_more m_row m_bestRow m_greenerBy K)) Q :=
  m_copies_206_204 (a := 0) (b := 0) rfl rfl (by omega) (by omega) (h _ (RS.cpy (a := 0) (rs.ext n6 (fun k hk => by rw [Nat.zero_add])) n6))
theorem m_saveA (n6 : n ≤ 6) (rs : RS m_s n A) (h : ∀ m_aside, RS m_aside n A → Q none (clsW pn pc tok ship nn tl draft vd log trial sta says seed past marks (mdlX m_thrown m_taped m_size m_place m_begin m_token m_word m_told m_wrong m_code m_toldLines m_given m_fresh m_done m_odd m_bestRank m_leastSpray m_g m_tape m_ship m_manName m_postName m_kind m_greenTold m_hands m_spray m_holds m_sea m_lineFrom m_lineTo m_codes m_opened m_compared m_kept m_keptBy m_ahead m_against m_sum m_sumBy m_term m_termBy m_byNot m_valueOf m_lines m_lineWhat m_lineA m_lineB m_seens m_seenMan m_seenOther m_seenAt m_seenGreener m_s m_aside m_before m_marked m_undone m_isLaid m_more m_row m_bestRow m_greenerBy K))) : XC (xF L xs) xmeths (d + 1) 211 [.ref 204, .int 0, .ref 205, .int 0] (clsW pn pc tok ship nn tl draft vd log trial sta says seed past marks (mdlX m_thrown m_taped m_size m_place m_begin m_token m_word m_told m_wrong m_code m_toldLines m_given m_fresh m_done m_odd m_bestRank m_leastSpray m_g m_tape m_ship m_manName m_postName m_kind m_greenTold m_hands m_spray m_holds m_sea m_lineFrom m_lineTo m_codes m_opened m_compared m_kept m_keptBy m_ahead m_against m_sum m_sumBy m_term m_termBy m_byNot m_valueOf m_lines m_lineWhat m_lineA m_lineB m_seens m_seenMan m_seenOther m_seenAt m_seenGreener m_s m_aside m_before m_marked m_undone m_isLaid m_more m_row m_bestRow m_greenerBy K)) Q :=
  m_copies_204_205 (a := 0) (b := 0) rfl rfl (by omega) (by omega) (h _ (RS.cpy (a := 0) (rs.ext n6 (fun k hk => by rw [Nat.zero_add])) n6))
theorem m_loadA (n6 : n ≤ 6) (rs : RS m_aside n A) (h : ∀ m_s, RS m_s n A → Q none (clsW pn pc tok ship nn tl draft vd log trial sta says seed past marks (mdlX m_thrown m_taped m_size m_place m_begin m_token m_word m_told m_wrong m_code m_toldLines m_given m_fresh m_done m_odd m_bestRank m_leastSpray m_g m_tape m_ship m_manName m_postName m_kind m_greenTold m_hands m_spray m_holds m_sea m_lineFrom m_lineTo m_codes m_opened m_compared m_kept m_keptBy m_ahead m_against m_sum m_sumBy m_term m_termBy m_byNot m_valueOf m_lines m_lineWhat m_lineA m_lineB m_seens m_seenMan m_seenOther m_seenAt m_seenGreener m_s m_aside m_before m_marked m_undone m_isLaid m_more m_row m_bestRow m_greenerBy K))) : XC (xF L xs) xmeths (d + 1) 211 [.ref 205, .int 0, .ref 204, .int 0] (clsW pn pc tok ship nn tl draft vd log trial sta says seed past marks (mdlX m_thrown m_taped m_size m_place m_begin m_token m_word m_told m_wrong m_code m_toldLines m_given m_fresh m_done m_odd m_bestRank m_leastSpray m_g m_tape m_ship m_manName m_postName m_kind m_greenTold m_hands m_spray m_holds m_sea m_lineFrom m_lineTo m_codes m_opened m_compared m_kept m_keptBy m_ahead m_against m_sum m_sumBy m_term m_termBy m_byNot m_valueOf m_lines m_lineWhat m_lineA m_lineB m_seens m_seenMan m_seenOther m_seenAt m_seenGreener m_s m_aside m_before m_marked m_undone m_isLaid m_more m_row m_bestRow m_greenerBy K)) Q :=
  m_copies_205_204 (a := 0) (b := 0) rfl rfl (by omega) (by omega) (h _ (RS.cpy (a := 0) (rs.ext n6 (fun k hk => by rw [Nat.zero_add])) n6))

theorem m_passRun {j : Nat} (so : ShOk ship n p z) (ms : MS ship n p z m_ship m_kind m_greenTold m_hands m_spray m_holds m_sea m_lineFrom m_lineTo m_codes m_manName m_postName) (rs : RS m_s n (A.run ship n z j)) (gp : GP A.g A.p n p) (ht : A.t + j < 2 ^ 31) (ho : m_odd = -1) (h : ∀ m_s m_kept m_keptBy m_ahead m_against m_sum m_sumBy m_term m_termBy m_byNot m_valueOf m_more, RS m_s n (A.run ship n z (j + 1)) → Q none (clsW pn pc tok ship nn tl draft vd log trial sta says seed past marks (mdlX m_thrown m_taped m_size m_place m_begin m_token m_word m_told m_wrong m_code m_toldLines m_given m_fresh m_done m_odd m_bestRank m_leastSpray m_g m_tape m_ship m_manName m_postName m_kind m_greenTold m_hands m_spray m_holds m_sea m_lineFrom m_lineTo m_codes m_opened m_compared m_kept m_keptBy m_ahead m_against m_sum m_sumBy m_term m_termBy m_byNot m_valueOf m_lines m_lineWhat m_lineA m_lineB m_seens m_seenMan m_seenOther m_seenAt m_seenGreener m_s m_aside m_before m_marked m_undone m_isLaid m_more m_row m_bestRow m_greenerBy K))) : XC (xF L xs) xmeths (d + 5) 219 [.ref 169] (clsW pn pc tok ship nn tl draft vd log trial sta says seed past marks (mdlX m_thrown m_taped m_size m_place m_begin m_token m_word m_told m_wrong m_code m_toldLines m_given m_fresh m_done m_odd m_bestRank m_leastSpray m_g m_tape m_ship m_manName m_postName m_kind m_greenTold m_hands m_spray m_holds m_sea m_lineFrom m_lineTo m_codes m_opened m_compared m_kept m_keptBy m_ahead m_against m_sum m_sumBy m_term m_termBy m_byNot m_valueOf m_lines m_lineWhat m_lineA m_lineB m_seens m_seenMan m_seenOther m_seenAt m_seenGreener m_s m_aside m_before m_marked m_undone m_isLaid m_more m_row m_bestRow m_greenerBy K)) Q :=
  m_passesWatch so ms rs (runG_ok gp j) ht (Or.inl ⟨ho, rfl⟩) (so.sea _ (Nat.mod_lt _ so.z1)) h
theorem m_whenOf {man : Int32} (so : ShOk ship n p z) (ms : MS ship n p z m_ship m_kind m_greenTold m_hands m_spray m_holds m_sea m_lineFrom m_lineTo m_codes m_manName m_postName) (rs : RS m_s n A) (gp : GP A.g A.p n p) (ht : A.t < 2 ^ 30) (ho : m_odd = -1) (h : ∀ m_s m_before m_kept m_keptBy m_ahead m_against m_sum m_sumBy m_term m_termBy m_byNot m_valueOf m_more, RS m_s n A → Q (some (.int (fstI (fun j => decide (capt (runG ship A.p n z A.t A.g j) n = man)) 0 61))) (clsW pn pc tok ship nn tl draft vd log trial sta says seed past marks (mdlX m_thrown m_taped m_size m_place m_begin m_token m_word m_told m_wrong m_code m_toldLines m_given m_fresh m_done m_odd m_bestRank m_leastSpray m_g m_tape m_ship m_manName m_postName m_kind m_greenTold m_hands m_spray m_holds m_sea m_lineFrom m_lineTo m_codes m_opened m_compared m_kept m_keptBy m_ahead m_against m_sum m_sumBy m_term m_termBy m_byNot m_valueOf m_lines m_lineWhat m_lineA m_lineB m_seens m_seenMan m_seenOther m_seenAt m_seenGreener m_s m_aside m_before m_marked m_undone m_isLaid m_more m_row m_bestRow m_greenerBy K))) : XC (xF L xs) xmeths (d + 6) 239 [.ref 169, .int man] (clsW pn pc tok ship nn tl draft vd log trial sta says seed past marks (mdlX m_thrown m_taped m_size m_place m_begin m_token m_word m_told m_wrong m_code m_toldLines m_given m_fresh m_done m_odd m_bestRank m_leastSpray m_g m_tape m_ship m_manName m_postName m_kind m_greenTold m_hands m_spray m_holds m_sea m_lineFrom m_lineTo m_codes m_opened m_compared m_kept m_keptBy m_ahead m_against m_sum m_sumBy m_term m_termBy m_byNot m_valueOf m_lines m_lineWhat m_lineA m_lineB m_seens m_seenMan m_seenOther m_seenAt m_seenGreener m_s m_aside m_before m_marked m_undone m_isLaid m_more m_row m_bestRow m_greenerBy K)) Q := by
  have n6 := so.n6
  refine ⟨nb rfl, xgo [9] 20 ⟨rfl, nb rfl, m_saveB n6 rs (fun m_before rb => ⟨nb rfl, ?_⟩)⟩⟩
  have a20 : ∀ m_s m_kept m_keptBy m_ahead m_against m_sum m_sumBy m_term m_termBy m_byNot m_valueOf m_more, ∀ j, j ≤ 61 → (∀ m_s m_before m_kept m_keptBy m_ahead m_against m_sum m_sumBy m_term m_termBy m_byNot m_valueOf m_more, RS m_s n A → Q (some (.int (if j ≤ 60 then nI j else -1))) (clsW pn pc tok ship nn tl draft vd log trial sta says seed past marks (mdlX m_thrown m_taped m_size m_place m_begin m_token m_word m_told m_wrong m_code m_toldLines m_given m_fresh m_done m_odd m_bestRank m_leastSpray m_g m_tape m_ship m_manName m_postName m_kind m_greenTold m_hands m_spray m_holds m_sea m_lineFrom m_lineTo m_codes m_opened m_compared m_kept m_keptBy m_ahead m_against m_sum m_sumBy m_term m_termBy m_byNot m_valueOf m_lines m_lineWhat m_lineA m_lineB m_seens m_seenMan m_seenOther m_seenAt m_seenGreener m_s m_aside m_before m_marked m_undone m_isLaid m_more m_row m_bestRow m_greenerBy K))) → XWp (xF L xs) (some .int) xP239 (XC (xF L xs) xmeths (d + 5)) Q 20 [orf 169, oi man, oi (nI j)] [] (clsW pn pc tok ship nn tl draft vd log trial sta says seed past marks (mdlX m_thrown m_taped m_size m_place m_begin m_token m_word m_told m_wrong m_code m_toldLines m_given m_fresh m_done m_odd m_bestRank m_leastSpray m_g m_tape m_ship m_manName m_postName m_kind m_greenTold m_hands m_spray m_holds m_sea m_lineFrom m_lineTo m_codes m_opened m_compared m_kept m_keptBy m_ahead m_against m_sum m_sumBy m_term m_termBy m_byNot m_valueOf m_lines m_lineWhat m_lineA m_lineB m_seens m_seenMan m_seenOther m_seenAt m_seenGreener m_s m_aside m_before m_marked m_undone m_isLaid m_more m_row m_bestRow m_greenerBy K)) := by
    intro m_s m_kept m_keptBy m_ahead m_against m_sum m_sumBy m_term m_termBy m_byNot m_valueOf m_more j hj h
    refine xgo [] 20 ⟨rfl, nb rfl, m_loadB n6 rb (fun m_s rs => ?_)⟩
    refine pk_le j 60 (fun q => ?_) (fun q => ?_) rfl rfl (by omega) (by omega)
    · have h := h m_s m_before m_kept m_keptBy m_ahead m_against m_sum m_sumBy m_term m_termBy m_byNot m_valueOf m_more rs
      rw [if_pos q] at h
      exact h
    · have h := h m_s m_before m_kept m_keptBy m_ahead m_against m_sum m_sumBy m_term m_termBy m_byNot m_valueOf m_more rs
      rw [if_neg (by omega)] at h
      exact h
  refine up_to (P := fun j => ∀ m_s m_kept m_keptBy m_ahead m_against m_sum m_sumBy m_term m_termBy m_byNot m_valueOf m_more, RS m_s n (A.run ship n z j) → (∀ m_s m_before m_kept m_keptBy m_ahead m_against m_sum m_sumBy m_term m_termBy m_byNot m_valueOf m_more, RS m_s n A → Q (some (.int (fstI (fun j => decide (capt (runG ship A.p n z A.t A.g j) n = man)) j (61 - j)))) (clsW pn pc tok ship nn tl draft vd log trial sta says seed past marks (mdlX m_thrown m_taped m_size m_place m_begin m_token m_word m_told m_wrong m_code m_toldLines m_given m_fresh m_done m_odd m_bestRank m_leastSpray m_g m_tape m_ship m_manName m_postName m_kind m_greenTold m_hands m_spray m_holds m_sea m_lineFrom m_lineTo m_codes m_opened m_compared m_kept m_keptBy m_ahead m_against m_sum m_sumBy m_term m_termBy m_byNot m_valueOf m_lines m_lineWhat m_lineA m_lineB m_seens m_seenMan m_seenOther m_seenAt m_seenGreener m_s m_aside m_before m_marked m_undone m_isLaid m_more m_row m_bestRow m_greenerBy K))) → XWp (xF L xs) (some .int) xP239 (XC (xF L xs) xmeths (d + 5)) Q 9 [orf 169, oi man, oi (nI j)] [] (clsW pn pc tok ship nn tl draft vd log trial sta says seed past marks (mdlX m_thrown m_taped m_size m_place m_begin m_token m_word m_told m_wrong m_code m_toldLines m_given m_fresh m_done m_odd m_bestRank m_leastSpray m_g m_tape m_ship m_manName m_postName m_kind m_greenTold m_hands m_spray m_holds m_sea m_lineFrom m_lineTo m_codes m_opened m_compared m_kept m_keptBy m_ahead m_against m_sum m_sumBy m_term m_termBy m_byNot m_valueOf m_lines m_lineWhat m_lineA m_lineB m_seens m_seenMan m_seenOther m_seenAt m_seenGreener m_s m_aside m_before m_marked m_undone m_isLaid m_more m_row m_bestRow m_greenerBy K))) (n := 61) (fun j hj ih m_s m_kept m_keptBy m_ahead m_against m_sum m_sumBy m_term m_termBy m_byNot m_valueOf m_more rs h => xgo [9, 20] 40 ?_) m_s m_kept m_keptBy m_ahead m_against m_sum m_sumBy m_term m_termBy m_byNot m_valueOf m_more rs h
  refine pk_lt 60 j (fun q => ?_) (fun q => ?_) rfl rfl (by omega) (by omega)
  · have e : j = 61 := by omega
    subst e
    refine a20 m_s m_kept m_keptBy m_ahead m_against m_sum m_sumBy m_term m_termBy m_byNot m_valueOf m_more 61 (by omega) (fun m_s m_before m_kept m_keptBy m_ahead m_against m_sum m_sumBy m_term m_termBy m_byNot m_valueOf m_more rs => ?_)
    rw [if_neg (by omega)]
    exact h m_s m_before m_kept m_keptBy m_ahead m_against m_sum m_sumBy m_term m_termBy m_byNot m_valueOf m_more rs
  · have ih := ih (by omega)
    have e : 61 - j = (61 - (j + 1)) + 1 := by omega
    rw [e] at h
    simp only [fstI] at h
    refine ⟨rfl, nb rfl, m_captainNow n6 ms.men rs ?_⟩
    refine And.intro (fun (q2 : capt (runG ship A.p n z A.t A.g j) n = man) => ?_) (fun (q2 : ¬ capt (runG ship A.p n z A.t A.g j) n = man) => ?_)
    · refine a20 m_s m_kept m_keptBy m_ahead m_against m_sum m_sumBy m_term m_termBy m_byNot m_valueOf m_more j (by omega) (fun m_s m_before m_kept m_keptBy m_ahead m_against m_sum m_sumBy m_term m_termBy m_byNot m_valueOf m_more rs => ?_)
      have h := h m_s m_before m_kept m_keptBy m_ahead m_against m_sum m_sumBy m_term m_termBy m_byNot m_valueOf m_more rs
      rw [if_pos (by simpa using q2)] at h
      rw [if_pos (by omega)]
      exact h
    · refine ⟨rfl, nb rfl, m_passRun so ms rs gp (by omega) ho (fun m_s m_kept m_keptBy m_ahead m_against m_sum m_sumBy m_term m_termBy m_byNot m_valueOf m_more rs => ?_)⟩
      have ih := ih m_s m_kept m_keptBy m_ahead m_against m_sum m_sumBy m_term m_termBy m_byNot m_valueOf m_more rs (fun m_s m_before m_kept m_keptBy m_ahead m_against m_sum m_sumBy m_term m_termBy m_byNot m_valueOf m_more rs => by
        have h := h m_s m_before m_kept m_keptBy m_ahead m_against m_sum m_sumBy m_term m_termBy m_byNot m_valueOf m_more rs
        rw [if_neg (by simpa using q2)] at h
        exact h)
      rw [nI_succ] at ih
      exact ih
theorem m_when {man : Int32} (so : ShOk ship n p z) (ms : MS ship n p z m_ship m_kind m_greenTold m_hands m_spray m_holds m_sea m_lineFrom m_lineTo m_codes m_manName m_postName) (rs : RS m_s n A) (gp : GP A.g A.p n p) (ht : A.t < 2 ^ 30) (ho : m_odd = -1) (h1 : 0 ≤ man ∧ man < nI n → ∀ m_s m_before m_kept m_keptBy m_ahead m_against m_sum m_sumBy m_term m_termBy m_byNot m_valueOf m_more, RS m_s n A → Q (some (.int (fstI (fun j => decide (capt (runG ship A.p n z A.t A.g j) n = man)) 0 61))) (clsW pn pc tok ship nn tl draft vd log trial sta says seed past marks (mdlX 0 m_taped m_size m_place m_begin m_token m_word m_told m_wrong m_code m_toldLines m_given m_fresh m_done m_odd m_bestRank m_leastSpray m_g m_tape m_ship m_manName m_postName m_kind m_greenTold m_hands m_spray m_holds m_sea m_lineFrom m_lineTo m_codes m_opened m_compared m_kept m_keptBy m_ahead m_against m_sum m_sumBy m_term m_termBy m_byNot m_valueOf m_lines m_lineWhat m_lineA m_lineB m_seens m_seenMan m_seenOther m_seenAt m_seenGreener m_s m_aside m_before m_marked m_undone m_isLaid m_more m_row m_bestRow m_greenerBy K))) (h0 : ¬ (0 ≤ man ∧ man < nI n) → Q (some (.int (-1))) (clsW pn pc tok ship nn tl draft vd log trial sta says seed past marks (mdlX 0 m_taped m_size m_place m_begin m_token m_word m_told m_wrong m_code m_toldLines m_given m_fresh m_done m_odd m_bestRank m_leastSpray m_g m_tape m_ship m_manName m_postName m_kind m_greenTold m_hands m_spray m_holds m_sea m_lineFrom m_lineTo m_codes m_opened m_compared m_kept m_keptBy m_ahead m_against m_sum m_sumBy m_term m_termBy m_byNot m_valueOf m_lines m_lineWhat m_lineA m_lineB m_seens m_seenMan m_seenOther m_seenAt m_seenGreener m_s m_aside m_before m_marked m_undone m_isLaid m_more m_row m_bestRow m_greenerBy K))) : XC (xF L xs) xmeths (d + 7) 238 [.ref 169, .int man] (clsW pn pc tok ship nn tl draft vd log trial sta says seed past marks (mdlX m_thrown m_taped m_size m_place m_begin m_token m_word m_told m_wrong m_code m_toldLines m_given m_fresh m_done m_odd m_bestRank m_leastSpray m_g m_tape m_ship m_manName m_postName m_kind m_greenTold m_hands m_spray m_holds m_sea m_lineFrom m_lineTo m_codes m_opened m_compared m_kept m_keptBy m_ahead m_against m_sum m_sumBy m_term m_termBy m_byNot m_valueOf m_lines m_lineWhat m_lineA m_lineB m_seens m_seenMan m_seenOther m_seenAt m_seenGreener m_s m_aside m_before m_marked m_undone m_isLaid m_more m_row m_bestRow m_greenerBy K)) Q := by
  refine ⟨nb rfl, xgo [2] 20 (xp_thrown rfl (xgo [] 60 ⟨rfl, nb rfl, m_isMan ms.men ?_⟩))⟩
  refine vB0 (fun q => h0 q) (fun q => ⟨rfl, nb rfl, m_whenOf so ms rs gp ht ho (h1 q)⟩)
theorem m_first {man other : Int32} (so : ShOk ship n p z) (ms : MS ship n p z m_ship m_kind m_greenTold m_hands m_spray m_holds m_sea m_lineFrom m_lineTo m_codes m_manName m_postName) (rs : RS m_s n A) (gp : GP A.g A.p n p) (ht : A.t < 2 ^ 30) (ho : m_odd = -1) {a b : Int32} (ha : fstI (fun j => decide (capt (runG ship A.p n z A.t A.g j) n = man)) 0 61 = a) (hb : fstI (fun j => decide (capt (runG ship A.p n z A.t A.g j) n = other)) 0 61 = b) (ha2 : a = -1 ∨ 0 ≤ a) (hb2 : b = -1 ∨ 0 ≤ b) (h1 : ((0 ≤ man ∧ man < nI n) ∧ (0 ≤ other ∧ other < nI n) ∧ ¬ man = other) → ∀ m_s m_before m_kept m_keptBy m_ahead m_against m_sum m_sumBy m_term m_termBy m_byNot m_valueOf m_more, RS m_s n A → Q (some (.int (if a = b then -1 else if b = -1 ∨ (¬ a = -1 ∧ a < b) then man else other))) (clsW pn pc tok ship nn tl draft vd log trial sta says seed past marks (mdlX 0 m_taped m_size m_place m_begin m_token m_word m_told m_wrong m_code m_toldLines m_given m_fresh m_done m_odd m_bestRank m_leastSpray m_g m_tape m_ship m_manName m_postName m_kind m_greenTold m_hands m_spray m_holds m_sea m_lineFrom m_lineTo m_codes m_opened m_compared m_kept m_keptBy m_ahead m_against m_sum m_sumBy m_term m_termBy m_byNot m_valueOf m_lines m_lineWhat m_lineA m_lineB m_seens m_seenMan m_seenOther m_seenAt m_seenGreener m_s m_aside m_before m_marked m_undone m_isLaid m_more m_row m_bestRow m_greenerBy K))) (h0 : ¬ ((0 ≤ man ∧ man < nI n) ∧ (0 ≤ other ∧ other < nI n) ∧ ¬ man = other) → Q (some (.int (-1))) (clsW pn pc tok ship nn tl draft vd log trial sta says seed past marks (mdlX 0 m_taped m_size m_place m_begin m_token m_word m_told m_wrong m_code m_toldLines m_given m_fresh m_done m_odd m_bestRank m_leastSpray m_g m_tape m_ship m_manName m_postName m_kind m_greenTold m_hands m_spray m_holds m_sea m_lineFrom m_lineTo m_codes m_opened m_compared m_kept m_keptBy m_ahead m_against m_sum m_sumBy m_term m_termBy m_byNot m_valueOf m_lines m_lineWhat m_lineA m_lineB m_seens m_seenMan m_seenOther m_seenAt m_seenGreener m_s m_aside m_before m_marked m_undone m_isLaid m_more m_row m_bestRow m_greenerBy K))) : XC (xF L xs) xmeths (d + 7) 242 [.ref 169, .int man, .int other] (clsW pn pc tok ship nn tl draft vd log trial sta says seed past marks (mdlX m_thrown m_taped m_size m_place m_begin m_token m_word m_told m_wrong m_code m_toldLines m_given m_fresh m_done m_odd m_bestRank m_leastSpray m_g m_tape m_ship m_manName m_postName m_kind m_greenTold m_hands m_spray m_holds m_sea m_lineFrom m_lineTo m_codes m_opened m_compared m_kept m_keptBy m_ahead m_against m_sum m_sumBy m_term m_termBy m_byNot m_valueOf m_lines m_lineWhat m_lineA m_lineB m_seens m_seenMan m_seenOther m_seenAt m_seenGreener m_s m_aside m_before m_marked m_undone m_isLaid m_more m_row m_bestRow m_greenerBy K)) Q := by
  have a14 : ¬ ((0 ≤ man ∧ man < nI n) ∧ (0 ≤ other ∧ other < nI n) ∧ ¬ man = other) → XWp (xF L xs) (some .int) xP242 (XC (xF L xs) xmeths (d + 6)) Q 14 [orf 169, oi man, oi other, none, none] [] (clsW pn pc tok ship nn tl draft vd log trial sta says seed past marks (mdlX 0 m_taped m_size m_place m_begin m_token m_word m_told m_wrong m_code m_toldLines m_given m_fresh m_done m_odd m_bestRank m_leastSpray m_g m_tape m_ship m_manName m_postName m_kind m_greenTold m_hands m_spray m_holds m_sea m_lineFrom m_lineTo m_codes m_opened m_compared m_kept m_keptBy m_ahead m_against m_sum m_sumBy m_term m_termBy m_byNot m_valueOf m_lines m_lineWhat m_lineA m_lineB m_seens m_seenMan m_seenOther m_seenAt m_seenGreener m_s m_aside m_before m_marked m_undone m_isLaid m_more m_row m_bestRow m_greenerBy K)) := fun q => xgo [] 10 (h0 q)
  refine ⟨nb rfl, xgo [2] 20 (xp_thrown rfl (xgo [14] 60 ⟨rfl, nb rfl, m_isMan ms.men ?_⟩))⟩
  refine vB0 (fun q => a14 (fun y => q y.1)) (fun q1 => ⟨rfl, nb rfl, m_isMan ms.men ?_⟩)
  refine vB0 (fun q => a14 (fun y => q y.2.1)) (fun q2 => ?_)
  refine And.intro (fun (q3 : ¬ man = other) => ?_) (fun (q3 : ¬ ¬ man = other) => a14 (fun y => q3 y.2.2))
  have h := h1 ⟨q1, q2, q3⟩
  refine ⟨rfl, nb rfl, m_whenOf so ms rs gp ht ho (fun m_s m_before m_kept m_keptBy m_ahead m_against m_sum m_sumBy m_term m_termBy m_byNot m_valueOf m_more rs => ⟨nb rfl, rfl, nb rfl, m_whenOf so ms rs gp ht ho (fun m_s m_before m_kept m_keptBy m_ahead m_against m_sum m_sumBy m_term m_termBy m_byNot m_valueOf m_more rs => ⟨nb rfl, ?_⟩)⟩)⟩
  have h := h m_s m_before m_kept m_keptBy m_ahead m_against m_sum m_sumBy m_term m_termBy m_byNot m_valueOf m_more rs
  rw [ha, hb]
  have na : ¬ a = -1 ↔ 0 ≤ a := ⟨fun y => ha2.elim (fun z => absurd z y) id, fun y z => absurd y (by rw [z]; decide)⟩
  have nb' : b = -1 ↔ b < 0 := ⟨fun y => by rw [y]; decide, fun y => hb2.elim id (fun z => absurd y (Int32.not_lt.mpr z))⟩
  refine And.intro (fun (q4 : ¬ a = b) => ?_) (fun (q4 : ¬ ¬ a = b) => ?_)
  · rw [if_neg q4] at h
    refine And.intro (fun (q5 : b < 0) => ?_) (fun (q5 : ¬ b < 0) => ?_)
    · rw [if_pos (Or.inl (nb'.mpr q5))] at h
      exact h
    · refine And.intro (fun (q6 : a < 0) => ?_) (fun (q6 : ¬ a < 0) => ?_)
      · rw [if_neg (fun y => y.elim (fun y => q5 (nb'.mp y)) (fun y => absurd q6 (Int32.not_lt.mpr (na.mp y.1))))] at h
        exact h
      · refine And.intro (fun (q7 : b ≤ a) => ?_) (fun (q7 : ¬ b ≤ a) => ?_)
        · rw [if_neg (fun y => y.elim (fun y => q5 (nb'.mp y)) (fun y => absurd y.2 (Int32.not_lt.mpr q7)))] at h
          exact h
        · rw [if_pos (Or.inr ⟨na.mpr (Int32.not_lt.mp q6), Int32.not_le.mp q7⟩)] at h
          exact h
  · rw [if_pos (Classical.not_not.mp q4)] at h
    exact h
theorem m_passes {man other : Int32} (so : ShOk ship n p z) (ms : MS ship n p z m_ship m_kind m_greenTold m_hands m_spray m_holds m_sea m_lineFrom m_lineTo m_codes m_manName m_postName) (rs : RS m_s n A) (gp : GP A.g A.p n p) (ht : A.t < 2 ^ 30) (ho : m_odd = -1) (h1 : ∀ m o, m < n → o < n → man = nI m → other = nI o → ¬ m = o → ∀ m_s m_before m_kept m_keptBy m_ahead m_against m_sum m_sumBy m_term m_termBy m_byNot m_valueOf m_more, RS m_s n A → Q (some (.int (fstI (fun j => decide (runG ship A.p n z A.t A.g j o < runG ship A.p n z A.t A.g j m)) 0 61))) (clsW pn pc tok ship nn tl draft vd log trial sta says seed past marks (mdlX 0 m_taped m_size m_place m_begin m_token m_word m_told m_wrong m_code m_toldLines m_given m_fresh m_done m_odd m_bestRank m_leastSpray m_g m_tape m_ship m_manName m_postName m_kind m_greenTold m_hands m_spray m_holds m_sea m_lineFrom m_lineTo m_codes m_opened m_compared m_kept m_keptBy m_ahead m_against m_sum m_sumBy m_term m_termBy m_byNot m_valueOf m_lines m_lineWhat m_lineA m_lineB m_seens m_seenMan m_seenOther m_seenAt m_seenGreener m_s m_aside m_before m_marked m_undone m_isLaid m_more m_row m_bestRow m_greenerBy K))) (h0 : ¬ ((0 ≤ man ∧ man < nI n) ∧ (0 ≤ other ∧ other < nI n) ∧ ¬ man = other) → Q (some (.int (-1))) (clsW pn pc tok ship nn tl draft vd log trial sta says seed past marks (mdlX 0 m_taped m_size m_place m_begin m_token m_word m_told m_wrong m_code m_toldLines m_given m_fresh m_done m_odd m_bestRank m_leastSpray m_g m_tape m_ship m_manName m_postName m_kind m_greenTold m_hands m_spray m_holds m_sea m_lineFrom m_lineTo m_codes m_opened m_compared m_kept m_keptBy m_ahead m_against m_sum m_sumBy m_term m_termBy m_byNot m_valueOf m_lines m_lineWhat m_lineA m_lineB m_seens m_seenMan m_seenOther m_seenAt m_seenGreener m_s m_aside m_before m_marked m_undone m_isLaid m_more m_row m_bestRow m_greenerBy K))) : XC (xF L xs) xmeths (d + 6) 240 [.ref 169, .int man, .int other] (clsW pn pc tok ship nn tl draft vd log trial sta says seed past marks (mdlX m_thrown m_taped m_size m_place m_begin m_token m_word m_told m_wrong m_code m_toldLines m_given m_fresh m_done m_odd m_bestRank m_leastSpray m_g m_tape m_ship m_manName m_postName m_kind m_greenTold m_hands m_spray m_holds m_sea m_lineFrom m_lineTo m_codes m_opened m_compared m_kept m_keptBy m_ahead m_against m_sum m_sumBy m_term m_termBy m_byNot m_valueOf m_lines m_lineWhat m_lineA m_lineB m_seens m_seenMan m_seenOther m_seenAt m_seenGreener m_s m_aside m_before m_marked m_undone m_isLaid m_more m_row m_bestRow m_greenerBy K)) Q := by
  have n6 := so.n6
  have a14 : ¬ ((0 ≤ man ∧ man < nI n) ∧ (0 ≤ other ∧ other < nI n) ∧ ¬ man = other) → XWp (xF L xs) (some .int) xP240 (XC (xF L xs) xmeths (d + 5)) Q 14 [orf 169, oi man, oi other, none] [] (clsW pn pc tok ship nn tl draft vd log trial sta says seed past marks (mdlX 0 m_taped m_size m_place m_begin m_token m_word m_told m_wrong m_code m_toldLines m_given m_fresh m_done m_odd m_bestRank m_leastSpray m_g m_tape m_ship m_manName m_postName m_kind m_greenTold m_hands m_spray m_holds m_sea m_lineFrom m_lineTo m_codes m_opened m_compared m_kept m_keptBy m_ahead m_against m_sum m_sumBy m_term m_termBy m_byNot m_valueOf m_lines m_lineWhat m_lineA m_lineB m_seens m_seenMan m_seenOther m_seenAt m_seenGreener m_s m_aside m_before m_marked m_undone m_isLaid m_more m_row m_bestRow m_greenerBy K)) := fun q => xgo [] 10 (h0 q)
  refine ⟨nb rfl, xgo [2] 20 (xp_thrown rfl (xgo [14, 25] 60 ⟨rfl, nb rfl, m_isMan ms.men ?_⟩))⟩
  refine vB0 (fun q => a14 (fun y => q y.1)) (fun q1 => ⟨rfl, nb rfl, m_isMan ms.men ?_⟩)
  refine vB0 (fun q => a14 (fun y => q y.2.1)) (fun q2 => ?_)
  refine And.intro (fun (q3 : ¬ man = other) => ?_) (fun (q3 : ¬ ¬ man = other) => a14 (fun y => q3 y.2.2))
  rcases inI (by omega) q1 with ⟨m, hm, rfl⟩
  rcases inI (by omega) q2 with ⟨o, ho', rfl⟩
  have h := h1 m o hm ho' rfl rfl (fun y => q3 (by rw [y]))
  refine ⟨rfl, nb rfl, m_saveB n6 rs (fun m_before rb => ⟨nb rfl, ?_⟩)⟩
  have a45 : ∀ m_s m_kept m_keptBy m_ahead m_against m_sum m_sumBy m_term m_termBy m_byNot m_valueOf m_more, ∀ j, j ≤ 61 → (∀ m_s m_before m_kept m_keptBy m_ahead m_against m_sum m_sumBy m_term m_termBy m_byNot m_valueOf m_more, RS m_s n A → Q (some (.int (if j ≤ 60 then nI j else -1))) (clsW pn pc tok ship nn tl draft vd log trial sta says seed past marks (mdlX 0 m_taped m_size m_place m_begin m_token m_word m_told m_wrong m_code m_toldLines m_given m_fresh m_done m_odd m_bestRank m_leastSpray m_g m_tape m_ship m_manName m_postName m_kind m_greenTold m_hands m_spray m_holds m_sea m_lineFrom m_lineTo m_codes m_opened m_compared m_kept m_keptBy m_ahead m_against m_sum m_sumBy m_term m_termBy m_byNot m_valueOf m_lines m_lineWhat m_lineA m_lineB m_seens m_seenMan m_seenOther m_seenAt m_seenGreener m_s m_aside m_before m_marked m_undone m_isLaid m_more m_row m_bestRow m_greenerBy K))) → XWp (xF L xs) (some .int) xP240 (XC (xF L xs) xmeths (d + 5)) Q 45 [orf 169, oi (nI m), oi (nI o), oi (nI j)] [] (clsW pn pc tok ship nn tl draft vd log trial sta says seed past marks (mdlX 0 m_taped m_size m_place m_begin m_token m_word m_told m_wrong m_code m_toldLines m_given m_fresh m_done m_odd m_bestRank m_leastSpray m_g m_tape m_ship m_manName m_postName m_kind m_greenTold m_hands m_spray m_holds m_sea m_lineFrom m_lineTo m_codes m_opened m_compared m_kept m_keptBy m_ahead m_against m_sum m_sumBy m_term m_termBy m_byNot m_valueOf m_lines m_lineWhat m_lineA m_lineB m_seens m_seenMan m_seenOther m_seenAt m_seenGreener m_s m_aside m_before m_marked m_undone m_isLaid m_more m_row m_bestRow m_greenerBy K)) := by
    intro m_s m_kept m_keptBy m_ahead m_against m_sum m_sumBy m_term m_termBy m_byNot m_valueOf m_more j hj h
    refine xgo [] 20 ⟨rfl, nb rfl, m_loadB n6 rb (fun m_s rs => ?_)⟩
    refine pk_le j 60 (fun q => ?_) (fun q => ?_) rfl rfl (by omega) (by omega)
    · have h := h m_s m_before m_kept m_keptBy m_ahead m_against m_sum m_sumBy m_term m_termBy m_byNot m_valueOf m_more rs
      rw [if_pos q] at h
      exact h
    · have h := h m_s m_before m_kept m_keptBy m_ahead m_against m_sum m_sumBy m_term m_termBy m_byNot m_valueOf m_more rs
      rw [if_neg (by omega)] at h
      exact h
  refine up_to (P := fun j => ∀ m_s m_kept m_keptBy m_ahead m_against m_sum m_sumBy m_term m_termBy m_byNot m_valueOf m_more, RS m_s n (A.run ship n z j) → (∀ m_s m_before m_kept m_keptBy m_ahead m_against m_sum m_sumBy m_term m_termBy m_byNot m_valueOf m_more, RS m_s n A → Q (some (.int (fstI (fun j => decide (runG ship A.p n z A.t A.g j o < runG ship A.p n z A.t A.g j m)) j (61 - j)))) (clsW pn pc tok ship nn tl draft vd log trial sta says seed past marks (mdlX 0 m_taped m_size m_place m_begin m_token m_word m_told m_wrong m_code m_toldLines m_given m_fresh m_done m_odd m_bestRank m_leastSpray m_g m_tape m_ship m_manName m_postName m_kind m_greenTold m_hands m_spray m_holds m_sea m_lineFrom m_lineTo m_codes m_opened m_compared m_kept m_keptBy m_ahead m_against m_sum m_sumBy m_term m_termBy m_byNot m_valueOf m_lines m_lineWhat m_lineA m_lineB m_seens m_seenMan m_seenOther m_seenAt m_seenGreener m_s m_aside m_before m_marked m_undone m_isLaid m_more m_row m_bestRow m_greenerBy K))) → XWp (xF L xs) (some .int) xP240 (XC (xF L xs) xmeths (d + 5)) Q 25 [orf 169, oi (nI m), oi (nI o), oi (nI j)] [] (clsW pn pc tok ship nn tl draft vd log trial sta says seed past marks (mdlX 0 m_taped m_size m_place m_begin m_token m_word m_told m_wrong m_code m_toldLines m_given m_fresh m_done m_odd m_bestRank m_leastSpray m_g m_tape m_ship m_manName m_postName m_kind m_greenTold m_hands m_spray m_holds m_sea m_lineFrom m_lineTo m_codes m_opened m_compared m_kept m_keptBy m_ahead m_against m_sum m_sumBy m_term m_termBy m_byNot m_valueOf m_lines m_lineWhat m_lineA m_lineB m_seens m_seenMan m_seenOther m_seenAt m_seenGreener m_s m_aside m_before m_marked m_undone m_isLaid m_more m_row m_bestRow m_greenerBy K))) (n := 61) (fun j hj ih m_s m_kept m_keptBy m_ahead m_against m_sum m_sumBy m_term m_termBy m_byNot m_valueOf m_more rs h => xgo [25, 45] 40 ?_) m_s m_kept m_keptBy m_ahead m_against m_sum m_sumBy m_term m_termBy m_byNot m_valueOf m_more rs h
  refine pk_lt 60 j (fun q => ?_) (fun q => ?_) rfl rfl (by omega) (by omega)
  · have e : j = 61 := by omega
    subst e
    refine a45 m_s m_kept m_keptBy m_ahead m_against m_sum m_sumBy m_term m_termBy m_byNot m_valueOf m_more 61 (by omega) (fun m_s m_before m_kept m_keptBy m_ahead m_against m_sum m_sumBy m_term m_termBy m_byNot m_valueOf m_more rs => ?_)
    rw [if_neg (by omega)]
    exact h m_s m_before m_kept m_keptBy m_ahead m_against m_sum m_sumBy m_term m_termBy m_byNot m_valueOf m_more rs
  · have ih := ih (by omega)
    have e : 61 - j = (61 - (j + 1)) + 1 := by omega
    rw [e] at h
    simp only [fstI] at h
    refine ⟨show vp_in (Int32.ofInt 2 + nI m) 14 from i2 m ▸ vp_in_nI (by omega) (by omega), show vp_in (Int32.ofInt 2 + nI o) 14 from i2 o ▸ vp_in_nI (by omega) (by omega), ?_⟩
    rw [i2, i2, nI_clamp (by omega), nI_clamp (by omega)]
    have e1 := rs.green m hm
    have e2 := rs.green o ho'
    refine And.intro (fun (q2 : m_s (2 + o) < m_s (2 + m)) => ?_) (fun (q2 : ¬ m_s (2 + o) < m_s (2 + m)) => ?_)
    · rw [e1, e2] at q2
      refine a45 m_s m_kept m_keptBy m_ahead m_against m_sum m_sumBy m_term m_termBy m_byNot m_valueOf m_more j (by omega) (fun m_s m_before m_kept m_keptBy m_ahead m_against m_sum m_sumBy m_term m_termBy m_byNot m_valueOf m_more rs => ?_)
      have h := h m_s m_before m_kept m_keptBy m_ahead m_against m_sum m_sumBy m_term m_termBy m_byNot m_valueOf m_more rs
      rw [if_pos (by simpa using q2)] at h
      rw [if_pos (by omega)]
      exact h
    · rw [e1, e2] at q2
      refine ⟨rfl, nb rfl, m_passRun so ms rs gp (by omega) ho (fun m_s m_kept m_keptBy m_ahead m_against m_sum m_sumBy m_term m_termBy m_byNot m_valueOf m_more rs => ?_)⟩
      have ih := ih m_s m_kept m_keptBy m_ahead m_against m_sum m_sumBy m_term m_termBy m_byNot m_valueOf m_more rs (fun m_s m_before m_kept m_keptBy m_ahead m_against m_sum m_sumBy m_term m_termBy m_byNot m_valueOf m_more rs => by
        have h := h m_s m_before m_kept m_keptBy m_ahead m_against m_sum m_sumBy m_term m_termBy m_byNot m_valueOf m_more rs
        rw [if_neg (by simpa using q2)] at h
        exact h)
      rw [nI_succ] at ih
      exact ih
theorem m_changes {w : Int32} (so : ShOk ship n p z) (ms : MS ship n p z m_ship m_kind m_greenTold m_hands m_spray m_holds m_sea m_lineFrom m_lineTo m_codes m_manName m_postName) (rs : RS m_s n A) (gp : GP A.g A.p n p) (ht : A.t < 2 ^ 30) (ho : m_odd = -1) (h1 : ∀ m, 1 ≤ m → m ≤ 60 → w = nI m → ∀ m_s m_before m_kept m_keptBy m_ahead m_against m_sum m_sumBy m_term m_termBy m_byNot m_valueOf m_more, RS m_s n A → Q (some (.int (nI (turnsI (fun j => capt (runG ship A.p n z A.t A.g j) n) m)))) (clsW pn pc tok ship nn tl draft vd log trial sta says seed past marks (mdlX 0 m_taped m_size m_place m_begin m_token m_word m_told m_wrong m_code m_toldLines m_given m_fresh m_done m_odd m_bestRank m_leastSpray m_g m_tape m_ship m_manName m_postName m_kind m_greenTold m_hands m_spray m_holds m_sea m_lineFrom m_lineTo m_codes m_opened m_compared m_kept m_keptBy m_ahead m_against m_sum m_sumBy m_term m_termBy m_byNot m_valueOf m_lines m_lineWhat m_lineA m_lineB m_seens m_seenMan m_seenOther m_seenAt m_seenGreener m_s m_aside m_before m_marked m_undone m_isLaid m_more m_row m_bestRow m_greenerBy K))) (h0 : ¬ (1 ≤ w ∧ w ≤ 60) → Q (some (.int (-1))) (clsW pn pc tok ship nn tl draft vd log trial sta says seed past marks (mdlX 0 m_taped m_size m_place m_begin m_token m_word m_told m_wrong m_code m_toldLines m_given m_fresh m_done m_odd m_bestRank m_leastSpray m_g m_tape m_ship m_manName m_postName m_kind m_greenTold m_hands m_spray m_holds m_sea m_lineFrom m_lineTo m_codes m_opened m_compared m_kept m_keptBy m_ahead m_against m_sum m_sumBy m_term m_termBy m_byNot m_valueOf m_lines m_lineWhat m_lineA m_lineB m_seens m_seenMan m_seenOther m_seenAt m_seenGreener m_s m_aside m_before m_marked m_undone m_isLaid m_more m_row m_bestRow m_greenerBy K))) : XC (xF L xs) xmeths (d + 6) 241 [.ref 169, .int w] (clsW pn pc tok ship nn tl draft vd log trial sta says seed past marks (mdlX m_thrown m_taped m_size m_place m_begin m_token m_word m_told m_wrong m_code m_toldLines m_given m_fresh m_done m_odd m_bestRank m_leastSpray m_g m_tape m_ship m_manName m_postName m_kind m_greenTold m_hands m_spray m_holds m_sea m_lineFrom m_lineTo m_codes m_opened m_compared m_kept m_keptBy m_ahead m_against m_sum m_sumBy m_term m_termBy m_byNot m_valueOf m_lines m_lineWhat m_lineA m_lineB m_seens m_seenMan m_seenOther m_seenAt m_seenGreener m_s m_aside m_before m_marked m_undone m_isLaid m_more m_row m_bestRow m_greenerBy K)) Q := by
  have n6 := so.n6
  refine ⟨nb rfl, xgo [2] 20 (xp_thrown rfl (xgo [21] 60 ⟨rfl, nb rfl, m_within ?_⟩))⟩
  refine vB1 (fun q => ?_) (fun q => h0 q)
  rcases wiN (m := 60) (by omega) ⟨Int32.le_trans (by decide) q.1, q.2⟩ with ⟨m, hm, rfl⟩
  have hm1 : 1 ≤ m := by
    rcases Nat.eq_zero_or_pos m with rfl | y
    · exact absurd q.1 (by decide)
    · exact y
  have h := h1 m hm1 hm rfl
  refine ⟨rfl, nb rfl, m_saveB n6 rs (fun m_before rb => ⟨nb rfl, nb rfl, ?_⟩)⟩
  refine up_to (P := fun j => ∀ m_s m_kept m_keptBy m_ahead m_against m_sum m_sumBy m_term m_termBy m_byNot m_valueOf m_more, ∀ x4, RS m_s n (A.run ship n z j) → XWp (xF L xs) (some .int) xP241 (XC (xF L xs) xmeths (d + 5)) Q 21 [orf 169, oi (nI m), oi (nI (turnsI (fun j => capt (runG ship A.p n z A.t A.g j) n) j)), oi (nI j), x4] [] (clsW pn pc tok ship nn tl draft vd log trial sta says seed past marks (mdlX 0 m_taped m_size m_place m_begin m_token m_word m_told m_wrong m_code m_toldLines m_given m_fresh m_done m_odd m_bestRank m_leastSpray m_g m_tape m_ship m_manName m_postName m_kind m_greenTold m_hands m_spray m_holds m_sea m_lineFrom m_lineTo m_codes m_opened m_compared m_kept m_keptBy m_ahead m_against m_sum m_sumBy m_term m_termBy m_byNot m_valueOf m_lines m_lineWhat m_lineA m_lineB m_seens m_seenMan m_seenOther m_seenAt m_seenGreener m_s m_aside m_before m_marked m_undone m_isLaid m_more m_row m_bestRow m_greenerBy K))) (n := m) (fun j hj ih m_s m_kept m_keptBy m_ahead m_against m_sum m_sumBy m_term m_termBy m_byNot m_valueOf m_more x4 rs => xgo [21] 60 ?_) m_s m_kept m_keptBy m_ahead m_against m_sum m_sumBy m_term m_termBy m_byNot m_valueOf m_more none rs
  refine pk_le m j (fun q => ?_) (fun q => ?_) rfl rfl (by omega) (by omega)
  · have e : j = m := by omega
    subst e
    exact ⟨rfl, nb rfl, m_loadB n6 rb (fun m_s rs => h m_s m_before m_kept m_keptBy m_ahead m_against m_sum m_sumBy m_term m_termBy m_byNot m_valueOf m_more rs)⟩
  · have ih := ih q
    refine ⟨rfl, nb rfl, m_captainNow n6 ms.men rs ⟨nb rfl, rfl, nb rfl, m_passRun so ms rs gp (by omega) ho (fun m_s m_kept m_keptBy m_ahead m_against m_sum m_sumBy m_term m_termBy m_byNot m_valueOf m_more rs => ⟨rfl, nb rfl, m_captainNow n6 ms.men rs ?_⟩)⟩⟩
    have ih := ih m_s m_kept m_keptBy m_ahead m_against m_sum m_sumBy m_term m_termBy m_byNot m_valueOf m_more (oi (capt (runG ship A.p n z A.t A.g j) n)) rs
    rw [turnsI, nI_succ] at ih
    refine And.intro (fun (q2 : capt (runG ship A.p n z A.t A.g (j + 1)) n = capt (runG ship A.p n z A.t A.g j) n) => ?_) (fun (q2 : ¬ capt (runG ship A.p n z A.t A.g (j + 1)) n = capt (runG ship A.p n z A.t A.g j) n) => ?_)
    · rw [if_pos q2] at ih
      refine ⟨nb rfl, ?_⟩
      rw [show Int32.ofInt 0 = 0 from rfl, Int32.add_zero]
      exact ih
    · rw [if_neg q2, nI_succ] at ih
      exact ⟨nb rfl, ih⟩
theorem m_docks {man : Int32} (so : ShOk ship n p z) (ms : MS ship n p z m_ship m_kind m_greenTold m_hands m_spray m_holds m_sea m_lineFrom m_lineTo m_codes m_manName m_postName) (rs : RS m_s n A) (h1 : 0 ≤ man ∧ man < nI n → ∀ m_s m_before, RS m_s n A → Q (some (.int (fstI (fun j => decide (¬ b2i (capt (harbR ship n A.g j) n = man) = b2i (capt A.g n = man))) 1 50))) (clsW pn pc tok ship nn tl draft vd log trial sta says seed past marks (mdlX 0 m_taped m_size m_place m_begin m_token m_word m_told m_wrong m_code m_toldLines m_given m_fresh m_done m_odd m_bestRank m_leastSpray m_g m_tape m_ship m_manName m_postName m_kind m_greenTold m_hands m_spray m_holds m_sea m_lineFrom m_lineTo m_codes m_opened m_compared m_kept m_keptBy m_ahead m_against m_sum m_sumBy m_term m_termBy m_byNot m_valueOf m_lines m_lineWhat m_lineA m_lineB m_seens m_seenMan m_seenOther m_seenAt m_seenGreener m_s m_aside m_before m_marked m_undone m_isLaid m_more m_row m_bestRow m_greenerBy K))) (h0 : ¬ (0 ≤ man ∧ man < nI n) → Q (some (.int (-1))) (clsW pn pc tok ship nn tl draft vd log trial sta says seed past marks (mdlX 0 m_taped m_size m_place m_begin m_token m_word m_told m_wrong m_code m_toldLines m_given m_fresh m_done m_odd m_bestRank m_leastSpray m_g m_tape m_ship m_manName m_postName m_kind m_greenTold m_hands m_spray m_holds m_sea m_lineFrom m_lineTo m_codes m_opened m_compared m_kept m_keptBy m_ahead m_against m_sum m_sumBy m_term m_termBy m_byNot m_valueOf m_lines m_lineWhat m_lineA m_lineB m_seens m_seenMan m_seenOther m_seenAt m_seenGreener m_s m_aside m_before m_marked m_undone m_isLaid m_more m_row m_bestRow m_greenerBy K))) : XC (xF L xs) xmeths (d + 2) 248 [.ref 169, .int man] (clsW pn pc tok ship nn tl draft vd log trial sta says seed past marks (mdlX m_thrown m_taped m_size m_place m_begin m_token m_word m_told m_wrong m_code m_toldLines m_given m_fresh m_done m_odd m_bestRank m_leastSpray m_g m_tape m_ship m_manName m_postName m_kind m_greenTold m_hands m_spray m_holds m_sea m_lineFrom m_lineTo m_codes m_opened m_compared m_kept m_keptBy m_ahead m_against m_sum m_sumBy m_term m_termBy m_byNot m_valueOf m_lines m_lineWhat m_lineA m_lineB m_seens m_seenMan m_seenOther m_seenAt m_seenGreener m_s m_aside m_before m_marked m_undone m_isLaid m_more m_row m_bestRow m_greenerBy K)) Q := by
  have n6 := so.n6
  refine ⟨nb rfl, xgo [2] 20 (xp_thrown rfl (xgo [23] 60 ⟨rfl, nb rfl, m_isMan ms.men ?_⟩))⟩
  refine vB1 (fun q => ?_) (fun q => h0 q)
  have h := h1 q
  refine ⟨rfl, nb rfl, m_saveB n6 rs (fun m_before rb => ⟨rfl, nb rfl, m_captainNow n6 ms.men rs ?_⟩)⟩
  have fin : ∀ m_s (is : Int32) (x3 r : Int32), (is = 0 → r = -1) → (is = 1 → r = x3) → (is = 0 ∨ is = 1) → (∀ m_s m_before, RS m_s n A → Q (some (.int r)) (clsW pn pc tok ship nn tl draft vd log trial sta says seed past marks (mdlX 0 m_taped m_size m_place m_begin m_token m_word m_told m_wrong m_code m_toldLines m_given m_fresh m_done m_odd m_bestRank m_leastSpray m_g m_tape m_ship m_manName m_postName m_kind m_greenTold m_hands m_spray m_holds m_sea m_lineFrom m_lineTo m_codes m_opened m_compared m_kept m_keptBy m_ahead m_against m_sum m_sumBy m_term m_termBy m_byNot m_valueOf m_lines m_lineWhat m_lineA m_lineB m_seens m_seenMan m_seenOther m_seenAt m_seenGreener m_s m_aside m_before m_marked m_undone m_isLaid m_more m_row m_bestRow m_greenerBy K))) → XWp (xF L xs) (some .int) xP248 (XC (xF L xs) xmeths (d + 1)) Q 50 [orf 169, oi man, oi (b2i (capt A.g n = man)), oi x3, oi is] [] (clsW pn pc tok ship nn tl draft vd log trial sta says seed past marks (mdlX 0 m_taped m_size m_place m_begin m_token m_word m_told m_wrong m_code m_toldLines m_given m_fresh m_done m_odd m_bestRank m_leastSpray m_g m_tape m_ship m_manName m_postName m_kind m_greenTold m_hands m_spray m_holds m_sea m_lineFrom m_lineTo m_codes m_opened m_compared m_kept m_keptBy m_ahead m_against m_sum m_sumBy m_term m_termBy m_byNot m_valueOf m_lines m_lineWhat m_lineA m_lineB m_seens m_seenMan m_seenOther m_seenAt m_seenGreener m_s m_aside m_before m_marked m_undone m_isLaid m_more m_row m_bestRow m_greenerBy K)) := by
    intro m_s is x3 r g1 g2 g3 h
    refine xgo [] 40 ⟨rfl, nb rfl, m_loadB n6 rb (fun m_s rs => ?_)⟩
    have h := h m_s m_before rs
    refine And.intro (fun (q : is = 0) => ?_) (fun (q : ¬ is = 0) => ?_)
    · rw [g1 q] at h
      exact h
    · rw [g2 (g3.elim (fun y => absurd y q) id)] at h
      exact h
  have body : XWp (xF L xs) (some .int) xP248 (XC (xF L xs) xmeths (d + 1)) Q 23 [orf 169, oi man, none, none, none] [.int (b2i (capt A.g n = man))] (clsW pn pc tok ship nn tl draft vd log trial sta says seed past marks (mdlX 0 m_taped m_size m_place m_begin m_token m_word m_told m_wrong m_code m_toldLines m_given m_fresh m_done m_odd m_bestRank m_leastSpray m_g m_tape m_ship m_manName m_postName m_kind m_greenTold m_hands m_spray m_holds m_sea m_lineFrom m_lineTo m_codes m_opened m_compared m_kept m_keptBy m_ahead m_against m_sum m_sumBy m_term m_termBy m_byNot m_valueOf m_lines m_lineWhat m_lineA m_lineB m_seens m_seenMan m_seenOther m_seenAt m_seenGreener m_s m_aside m_before m_marked m_undone m_isLaid m_more m_row m_bestRow m_greenerBy K)) := by
    refine xgo [28] 40 ⟨nb rfl, nb rfl, nb rfl, ?_⟩
    refine up_to (P := fun j => ∀ m_s pl, RS m_s n (harbR ship n A.g j, pl, A.su, A.t) → (∀ m_s m_before, RS m_s n A → Q (some (.int (fstI (fun j => decide (¬ b2i (capt (harbR ship n A.g j) n = man) = b2i (capt A.g n = man))) (j + 1) (50 - j)))) (clsW pn pc tok ship nn tl draft vd log trial sta says seed past marks (mdlX 0 m_taped m_size m_place m_begin m_token m_word m_told m_wrong m_code m_toldLines m_given m_fresh m_done m_odd m_bestRank m_leastSpray m_g m_tape m_ship m_manName m_postName m_kind m_greenTold m_hands m_spray m_holds m_sea m_lineFrom m_lineTo m_codes m_opened m_compared m_kept m_keptBy m_ahead m_against m_sum m_sumBy m_term m_termBy m_byNot m_valueOf m_lines m_lineWhat m_lineA m_lineB m_seens m_seenMan m_seenOther m_seenAt m_seenGreener m_s m_aside m_before m_marked m_undone m_isLaid m_more m_row m_bestRow m_greenerBy K))) → XWp (xF L xs) (some .int) xP248 (XC (xF L xs) xmeths (d + 1)) Q 28 [orf 169, oi man, oi (b2i (capt A.g n = man)), oi (nI j), oi 0] [] (clsW pn pc tok ship nn tl draft vd log trial sta says seed past marks (mdlX 0 m_taped m_size m_place m_begin m_token m_word m_told m_wrong m_code m_toldLines m_given m_fresh m_done m_odd m_bestRank m_leastSpray m_g m_tape m_ship m_manName m_postName m_kind m_greenTold m_hands m_spray m_holds m_sea m_lineFrom m_lineTo m_codes m_opened m_compared m_kept m_keptBy m_ahead m_against m_sum m_sumBy m_term m_termBy m_byNot m_valueOf m_lines m_lineWhat m_lineA m_lineB m_seens m_seenMan m_seenOther m_seenAt m_seenGreener m_s m_aside m_before m_marked m_undone m_isLaid m_more m_row m_bestRow m_greenerBy K))) (n := 50) (fun j hj ih m_s pl rs h => xgo [28, 43, 48, 50] 60 ?_) m_s A.p rs h
    refine pk_le 50 j (fun q => ?_) (fun q => ?_) rfl rfl (by omega) (by omega)
    · have e : 50 - j = 0 := by omega
      rw [e] at h
      exact fin m_s 0 _ (-1) (fun _ => rfl) (fun y => absurd y (by decide)) (Or.inl rfl) h
    · have ih := ih q
      have e : 50 - j = (50 - (j + 1)) + 1 := by omega
      rw [e] at h
      simp only [fstI] at h
      refine vFd rfl ⟨rfl, nb rfl, m_docks0 n6 ms.men rs ms.kind ms.harbour (fun m_s rs => ⟨rfl, nb rfl, m_captainNow n6 ms.men rs ?_⟩)⟩
      have a43 : ∀ x : Int32, x = b2i (capt (harbR ship n A.g (j + 1)) n = man) → XWp (xF L xs) (some .int) xP248 (XC (xF L xs) xmeths (d + 1)) Q 43 [orf 169, oi man, oi (b2i (capt A.g n = man)), oi (nI j + 1), oi 0] [.int x] (clsW pn pc tok ship nn tl draft vd log trial sta says seed past marks (mdlX 0 m_taped m_size m_place m_begin m_token m_word m_told m_wrong m_code m_toldLines m_given m_fresh m_done m_odd m_bestRank m_leastSpray m_g m_tape m_ship m_manName m_postName m_kind m_greenTold m_hands m_spray m_holds m_sea m_lineFrom m_lineTo m_codes m_opened m_compared m_kept m_keptBy m_ahead m_against m_sum m_sumBy m_term m_termBy m_byNot m_valueOf m_lines m_lineWhat m_lineA m_lineB m_seens m_seenMan m_seenOther m_seenAt m_seenGreener m_s m_aside m_before m_marked m_undone m_isLaid m_more m_row m_bestRow m_greenerBy K)) := by
        intro x hx
        subst hx
        refine xgo [28, 50] 40 ?_
        refine And.intro (fun (q2 : b2i (capt (harbR ship n A.g (j + 1)) n = man) = b2i (capt A.g n = man)) => ?_) (fun (q2 : ¬ b2i (capt (harbR ship n A.g (j + 1)) n = man) = b2i (capt A.g n = man)) => ?_)
        · have ih := ih m_s _ rs (fun m_s m_before rs => by
            have h := h m_s m_before rs
            rw [if_neg (by simpa using q2)] at h
            exact h)
          rw [nI_succ] at ih
          exact ⟨nb rfl, ih⟩
        · refine ⟨nb rfl, ?_⟩
          have go : XWp (xF L xs) (some .int) xP248 (XC (xF L xs) xmeths (d + 1)) Q 50 [orf 169, oi man, oi (b2i (capt A.g n = man)), oi (nI j + 1), oi 1] [] (clsW pn pc tok ship nn tl draft vd log trial sta says seed past marks (mdlX 0 m_taped m_size m_place m_begin m_token m_word m_told m_wrong m_code m_toldLines m_given m_fresh m_done m_odd m_bestRank m_leastSpray m_g m_tape m_ship m_manName m_postName m_kind m_greenTold m_hands m_spray m_holds m_sea m_lineFrom m_lineTo m_codes m_opened m_compared m_kept m_keptBy m_ahead m_against m_sum m_sumBy m_term m_termBy m_byNot m_valueOf m_lines m_lineWhat m_lineA m_lineB m_seens m_seenMan m_seenOther m_seenAt m_seenGreener m_s m_aside m_before m_marked m_undone m_isLaid m_more m_row m_bestRow m_greenerBy K)) := by
            refine fin m_s 1 _ (nI (j + 1)) (fun y => absurd y (by decide)) (fun _ => nI_succ j) (Or.inr rfl) (fun m_s m_before rs => ?_)
            have h := h m_s m_before rs
            rw [if_pos (by simpa using q2)] at h
            exact h
          refine xgo [50] 40 ?_
          refine And.intro (fun (_ : (50 : Int32) ≤ nI j + 1) => go) (fun (_ : ¬ (50 : Int32) ≤ nI j + 1) => ?_)
          exact vTd rfl go
      refine And.intro (fun (q2 : ¬ capt (harbR ship n A.g (j + 1)) n = man) => ?_) (fun (q2 : ¬ ¬ capt (harbR ship n A.g (j + 1)) n = man) => ?_)
      · exact a43 0 (b2i_f q2).symm
      · exact a43 1 (b2i_t (Classical.not_not.mp q2)).symm
  refine And.intro (fun (q : ¬ capt A.g n = man) => ?_) (fun (q : ¬ ¬ capt A.g n = man) => ?_)
  · rw [b2i_f q] at body
    exact body
  · rw [b2i_t (Classical.not_not.mp q)] at body
    exact body
theorem m_twins (so : ShOk ship n p z) (ms : MS ship n p z m_ship m_kind m_greenTold m_hands m_spray m_holds m_sea m_lineFrom m_lineTo m_codes m_manName m_postName) (rs : RS m_s n A) (h : Q (some (.int (nI (prsC A.g n n)))) (clsW pn pc tok ship nn tl draft vd log trial sta says seed past marks (mdlX 0 m_taped m_size m_place m_begin m_token m_word m_told m_wrong m_code m_toldLines m_given m_fresh m_done m_odd m_bestRank m_leastSpray m_g m_tape m_ship m_manName m_postName m_kind m_greenTold m_hands m_spray m_holds m_sea m_lineFrom m_lineTo m_codes m_opened m_compared m_kept m_keptBy m_ahead m_against m_sum m_sumBy m_term m_termBy m_byNot m_valueOf m_lines m_lineWhat m_lineA m_lineB m_seens m_seenMan m_seenOther m_seenAt m_seenGreener m_s m_aside m_before m_marked m_undone m_isLaid m_more m_row m_bestRow m_greenerBy K))) : XC (xF L xs) xmeths (d + 1) 249 [.ref 169] (clsW pn pc tok ship nn tl draft vd log trial sta says seed past marks (mdlX m_thrown m_taped m_size m_place m_begin m_token m_word m_told m_wrong m_code m_toldLines m_given m_fresh m_done m_odd m_bestRank m_leastSpray m_g m_tape m_ship m_manName m_postName m_kind m_greenTold m_hands m_spray m_holds m_sea m_lineFrom m_lineTo m_codes m_opened m_compared m_kept m_keptBy m_ahead m_against m_sum m_sumBy m_term m_termBy m_byNot m_valueOf m_lines m_lineWhat m_lineA m_lineB m_seens m_seenMan m_seenOther m_seenAt m_seenGreener m_s m_aside m_before m_marked m_undone m_isLaid m_more m_row m_bestRow m_greenerBy K)) Q := by
  have n6 := so.n6
  rw [prs_eq] at h
  refine ⟨nb rfl, xgo [2] 20 (xp_thrown rfl (xgo [7] 60 ⟨nb rfl, nb rfl, ?_⟩))⟩
  refine up_to (P := fun j => ∀ x3, XWp (xF L xs) (some .int) xP249 (XC (xF L xs) xmeths d) Q 7 [orf 169, oi (nI (prsR A.g j)), oi (nI j), x3] [] (clsW pn pc tok ship nn tl draft vd log trial sta says seed past marks (mdlX 0 m_taped m_size m_place m_begin m_token m_word m_told m_wrong m_code m_toldLines m_given m_fresh m_done m_odd m_bestRank m_leastSpray m_g m_tape m_ship m_manName m_postName m_kind m_greenTold m_hands m_spray m_holds m_sea m_lineFrom m_lineTo m_codes m_opened m_compared m_kept m_keptBy m_ahead m_against m_sum m_sumBy m_term m_termBy m_byNot m_valueOf m_lines m_lineWhat m_lineA m_lineB m_seens m_seenMan m_seenOther m_seenAt m_seenGreener m_s m_aside m_before m_marked m_undone m_isLaid m_more m_row m_bestRow m_greenerBy K))) (n := n) (fun j hj ih x3 => xgo [7, 15] 60 ⟨vp_in_nI (n := 0) (by decide) (by decide), ?_⟩) none
  refine pk_le n j (fun q => ?_) (fun q => ?_) ms.men rfl (by omega) (by omega)
  · have e : j = n := by omega
    subst e
    exact h
  · have ih := ih q
    refine ⟨nb rfl, ?_⟩
    refine up_to (P := fun i => XWp (xF L xs) (some .int) xP249 (XC (xF L xs) xmeths d) Q 15 [orf 169, oi (nI (prsR A.g j + cnt (fun o => decide (A.g j = A.g o)) i)), oi (nI j), oi (nI i)] [] (clsW pn pc tok ship nn tl draft vd log trial sta says seed past marks (mdlX 0 m_taped m_size m_place m_begin m_token m_word m_told m_wrong m_code m_toldLines m_given m_fresh m_done m_odd m_bestRank m_leastSpray m_g m_tape m_ship m_manName m_postName m_kind m_greenTold m_hands m_spray m_holds m_sea m_lineFrom m_lineTo m_codes m_opened m_compared m_kept m_keptBy m_ahead m_against m_sum m_sumBy m_term m_termBy m_byNot m_valueOf m_lines m_lineWhat m_lineA m_lineB m_seens m_seenMan m_seenOther m_seenAt m_seenGreener m_s m_aside m_before m_marked m_undone m_isLaid m_more m_row m_bestRow m_greenerBy K))) (n := j) (fun i hi ih2 => xgo [7, 15] 60 ?_)
    refine pk_le j i (fun q2 => ?_) (fun q2 => ?_) rfl rfl (by omega) (by omega)
    · have e : i = j := by omega
      subst e
      have ih := ih (oi (nI i))
      rw [prsR, nI_succ] at ih
      exact ih
    · have ih2 := ih2 q2
      refine ⟨show vp_in (Int32.ofInt 2 + nI j) 14 from i2 j ▸ vp_in_nI (by omega) (by omega), show vp_in (Int32.ofInt 2 + nI i) 14 from i2 i ▸ vp_in_nI (by omega) (by omega), ?_⟩
      rw [i2, i2, nI_clamp (by omega), nI_clamp (by omega)]
      rw [cnt, nI_succ] at ih2
      refine And.intro (fun (q3 : ¬ m_s (2 + j) = m_s (2 + i)) => ?_) (fun (q3 : ¬ ¬ m_s (2 + j) = m_s (2 + i)) => ?_)
      · rw [rs.green j q, rs.green i (by omega)] at q3
        rw [if_neg (by simpa using q3)] at ih2
        refine ⟨nb rfl, ?_⟩
        rw [show Int32.ofInt 0 = 0 from rfl, Int32.add_zero]
        exact ih2
      · have q3 := Classical.not_not.mp q3
        rw [rs.green j q, rs.green i (by omega)] at q3
        rw [if_pos (by simpa using q3), ← Nat.add_assoc, nI_succ] at ih2
        exact ⟨nb rfl, ih2⟩
theorem m_shades {sh : Nat} (so : ShOk ship n p z) (ms : MS ship n p z m_ship m_kind m_greenTold m_hands m_spray m_holds m_sea m_lineFrom m_lineTo m_codes m_manName m_postName) (rs : RS m_s n A) (h : Q (some (.int (nI (cnt (shF A.g ship.shade) n)))) (clsW pn pc tok ship nn tl draft vd log trial sta says seed past marks (mdlX 0 m_taped m_size m_place m_begin m_token m_word m_told m_wrong m_code m_toldLines m_given m_fresh m_done m_odd m_bestRank m_leastSpray m_g m_tape m_ship m_manName m_postName m_kind m_greenTold m_hands m_spray m_holds m_sea m_lineFrom m_lineTo m_codes m_opened m_compared m_kept m_keptBy m_ahead m_against m_sum m_sumBy m_term m_termBy m_byNot m_valueOf m_lines m_lineWhat m_lineA m_lineB m_seens m_seenMan m_seenOther m_seenAt m_seenGreener m_s m_aside m_before m_marked m_undone m_isLaid m_more m_row m_bestRow m_greenerBy K))) : XC (xF L xs) xmeths (d + 1) 250 [.ref 169] (clsW pn pc tok ship nn tl draft vd log trial sta says seed past marks (mdlX m_thrown m_taped m_size m_place m_begin m_token m_word m_told m_wrong m_code m_toldLines m_given m_fresh m_done m_odd m_bestRank m_leastSpray m_g m_tape m_ship m_manName m_postName m_kind m_greenTold m_hands m_spray m_holds m_sea m_lineFrom m_lineTo m_codes m_opened m_compared m_kept m_keptBy m_ahead m_against m_sum m_sumBy m_term m_termBy m_byNot m_valueOf m_lines m_lineWhat m_lineA m_lineB m_seens m_seenMan m_seenOther m_seenAt m_seenGreener m_s m_aside m_before m_marked m_undone m_isLaid m_more m_row m_bestRow m_greenerBy K)) Q := by
  have n6 := so.n6
  rcases so.shade with ⟨sh, hs1, hs2, hs⟩
  have hs0 : ¬ m_ship 2 = 0 := by rw [ms.shade, hs]; exact nI_ne0 (by omega) (by omega)
  refine ⟨nb rfl, xgo [2] 20 (xp_thrown rfl (xgo [7] 60 ⟨nb rfl, nb rfl, ?_⟩))⟩
  refine up_to (P := fun j => ∀ x3 x4, XWp (xF L xs) (some .int) xP250 (XC (xF L xs) xmeths d) Q 7 [orf 169, oi (nI (cnt (shF A.g ship.shade) j)), oi (nI j), x3, x4] [] (clsW pn pc tok ship nn tl draft vd log trial sta says seed past marks (mdlX 0 m_taped m_size m_place m_begin m_token m_word m_told m_wrong m_code m_toldLines m_given m_fresh m_done m_odd m_bestRank m_leastSpray m_g m_tape m_ship m_manName m_postName m_kind m_greenTold m_hands m_spray m_holds m_sea m_lineFrom m_lineTo m_codes m_opened m_compared m_kept m_keptBy m_ahead m_against m_sum m_sumBy m_term m_termBy m_byNot m_valueOf m_lines m_lineWhat m_lineA m_lineB m_seens m_seenMan m_seenOther m_seenAt m_seenGreener m_s m_aside m_before m_marked m_undone m_isLaid m_more m_row m_bestRow m_greenerBy K))) (n := n) (fun j hj ih x3 x4 => xgo [7, 17] 60 ⟨vp_in_nI (n := 0) (by decide) (by decide), ?_⟩) none none
  refine pk_le n j (fun q => ?_) (fun q => ?_) ms.men rfl (by omega) (by omega)
  · have e : j = n := by omega
    subst e
    exact h
  · have ih := ih q
    refine ⟨nb rfl, nb rfl, ?_⟩
    refine up_to (P := fun i => XWp (xF L xs) (some .int) xP250 (XC (xF L xs) xmeths d) Q 17 [orf 169, oi (nI (cnt (shF A.g ship.shade) j)), oi (nI j), oi (b2i (allB (fun o => decide (¬ A.g o / ship.shade = A.g j / ship.shade)) i = true)), oi (nI i)] [] (clsW pn pc tok ship nn tl draft vd log trial sta says seed past marks (mdlX 0 m_taped m_size m_place m_begin m_token m_word m_told m_wrong m_code m_toldLines m_given m_fresh m_done m_odd m_bestRank m_leastSpray m_g m_tape m_ship m_manName m_postName m_kind m_greenTold m_hands m_spray m_holds m_sea m_lineFrom m_lineTo m_codes m_opened m_compared m_kept m_keptBy m_ahead m_against m_sum m_sumBy m_term m_termBy m_byNot m_valueOf m_lines m_lineWhat m_lineA m_lineB m_seens m_seenMan m_seenOther m_seenAt m_seenGreener m_s m_aside m_before m_marked m_undone m_isLaid m_more m_row m_bestRow m_greenerBy K))) (n := j) (fun i hi ih2 => xgo [7, 17, 47] 60 ?_)
    refine pk_le j i (fun q2 => ?_) (fun q2 => ?_) rfl rfl (by omega) (by omega)
    · have e : i = j := by omega
      subst e
      have ih := ih (oi (b2i (allB (fun o => decide (¬ A.g o / ship.shade = A.g i / ship.shade)) i = true))) (oi (nI i))
      rw [cnt, nI_succ] at ih
      refine vB0 (fun q3 => ?_) (fun q3 => ?_)
      · rw [if_neg (show ¬ shF A.g ship.shade i = true from q3)] at ih
        refine ⟨nb rfl, ?_⟩
        rw [show Int32.ofInt 0 = 0 from rfl, Int32.add_zero]
        exact ih
      · rw [if_pos (show shF A.g ship.shade i = true from q3), nI_succ] at ih
        exact ⟨nb rfl, ih⟩
    · have ih2 := ih2 q2
      rw [allB, nI_succ] at ih2
      have a47 : ¬ ((allB (fun o => decide (¬ A.g o / ship.shade = A.g j / ship.shade)) i && decide (¬ A.g i / ship.shade = A.g j / ship.shade)) = true) → XWp (xF L xs) (some .int) xP250 (XC (xF L xs) xmeths d) Q 47 [orf 169, oi (nI (cnt (shF A.g ship.shade) j)), oi (nI j), oi (b2i (allB (fun o => decide (¬ A.g o / ship.shade = A.g j / ship.shade)) i = true)), oi (nI i)] [] (clsW pn pc tok ship nn tl draft vd log trial sta says seed past marks (mdlX 0 m_taped m_size m_place m_begin m_token m_word m_told m_wrong m_code m_toldLines m_given m_fresh m_done m_odd m_bestRank m_leastSpray m_g m_tape m_ship m_manName m_postName m_kind m_greenTold m_hands m_spray m_holds m_sea m_lineFrom m_lineTo m_codes m_opened m_compared m_kept m_keptBy m_ahead m_against m_sum m_sumBy m_term m_termBy m_byNot m_valueOf m_lines m_lineWhat m_lineA m_lineB m_seens m_seenMan m_seenOther m_seenAt m_seenGreener m_s m_aside m_before m_marked m_undone m_isLaid m_more m_row m_bestRow m_greenerBy K)) := by
        intro y
        rw [b2i_f y] at ih2
        exact xgo [17] 20 ⟨nb rfl, ih2⟩
      refine vB0 (fun q3 => ?_) (fun q3 => ?_)
      · exact a47 (by rw [Bool.and_eq_true]; exact fun y => q3 y.1)
      · refine ⟨show vp_in (Int32.ofInt 2 + nI i) 14 from i2 i ▸ vp_in_nI (by omega) (by omega), vp_in_nI (n := 2) (by decide) (by decide), hs0, show vp_in (Int32.ofInt 2 + nI j) 14 from i2 j ▸ vp_in_nI (by omega) (by omega), vp_in_nI (n := 2) (by decide) (by decide), hs0, ?_⟩
        rw [i2, i2, nI_clamp (by omega), nI_clamp (by omega)]
        refine And.intro (fun (q4 : m_s (2 + i) / m_ship 2 = m_s (2 + j) / m_ship 2) => ?_) (fun (q4 : ¬ m_s (2 + i) / m_ship 2 = m_s (2 + j) / m_ship 2) => ?_)
        · rw [rs.green j q, rs.green i (by omega), ms.shade] at q4
          exact a47 (by rw [Bool.and_eq_true, decide_eq_true_eq]; exact fun y => y.2 q4)
        · rw [rs.green j q, rs.green i (by omega), ms.shade] at q4
          rw [b2i_t (by rw [Bool.and_eq_true, decide_eq_true_eq]; exact ⟨q3, q4⟩)] at ih2
          exact ⟨nb rfl, ih2⟩
theorem m_argues {man : Int32} (so : ShOk ship n p z) (ms : MS ship n p z m_ship m_kind m_greenTold m_hands m_spray m_holds m_sea m_lineFrom m_lineTo m_codes m_manName m_postName) (rs : RS m_s n A) (h1 : ∀ k, k < n → man = nI k → Q (some (.int (bset (quaF A.g ship.shade k) n))) (clsW pn pc tok ship nn tl draft vd log trial sta says seed past marks (mdlX 0 m_taped m_size m_place m_begin m_token m_word m_told m_wrong m_code m_toldLines m_given m_fresh m_done m_odd m_bestRank m_leastSpray m_g m_tape m_ship m_manName m_postName m_kind m_greenTold m_hands m_spray m_holds m_sea m_lineFrom m_lineTo m_codes m_opened m_compared m_kept m_keptBy m_ahead m_against m_sum m_sumBy m_term m_termBy m_byNot m_valueOf m_lines m_lineWhat m_lineA m_lineB m_seens m_seenMan m_seenOther m_seenAt m_seenGreener m_s m_aside m_before m_marked m_undone m_isLaid m_more m_row m_bestRow m_greenerBy K))) (h0 : ¬ (0 ≤ man ∧ man < nI n) → Q (some (.int (-1))) (clsW pn pc tok ship nn tl draft vd log trial sta says seed past marks (mdlX 0 m_taped m_size m_place m_begin m_token m_word m_told m_wrong m_code m_toldLines m_given m_fresh m_done m_odd m_bestRank m_leastSpray m_g m_tape m_ship m_manName m_postName m_kind m_greenTold m_hands m_spray m_holds m_sea m_lineFrom m_lineTo m_codes m_opened m_compared m_kept m_keptBy m_ahead m_against m_sum m_sumBy m_term m_termBy m_byNot m_valueOf m_lines m_lineWhat m_lineA m_lineB m_seens m_seenMan m_seenOther m_seenAt m_seenGreener m_s m_aside m_before m_marked m_undone m_isLaid m_more m_row m_bestRow m_greenerBy K))) : XC (xF L xs) xmeths (d + 2) 236 [.ref 169, .int man] (clsW pn pc tok ship nn tl draft vd log trial sta says seed past marks (mdlX m_thrown m_taped m_size m_place m_begin m_token m_word m_told m_wrong m_code m_toldLines m_given m_fresh m_done m_odd m_bestRank m_leastSpray m_g m_tape m_ship m_manName m_postName m_kind m_greenTold m_hands m_spray m_holds m_sea m_lineFrom m_lineTo m_codes m_opened m_compared m_kept m_keptBy m_ahead m_against m_sum m_sumBy m_term m_termBy m_byNot m_valueOf m_lines m_lineWhat m_lineA m_lineB m_seens m_seenMan m_seenOther m_seenAt m_seenGreener m_s m_aside m_before m_marked m_undone m_isLaid m_more m_row m_bestRow m_greenerBy K)) Q := by
  have n6 := so.n6
  refine ⟨nb rfl, xgo [2] 20 (xp_thrown rfl (xgo [13] 60 ⟨rfl, nb rfl, m_isMan ms.men ?_⟩))⟩
  refine vB1 (fun q => ?_) (fun q => h0 q)
  rcases inI (by omega) q with ⟨k, hk, rfl⟩
  have h := h1 k hk rfl
  refine ⟨nb rfl, nb rfl, ?_⟩
  refine up_to (P := fun j => XWp (xF L xs) (some .int) xP236 (XC (xF L xs) xmeths (d + 1)) Q 13 [orf 169, oi (nI k), oi (bset (quaF A.g ship.shade k) j), oi (nI j)] [] (clsW pn pc tok ship nn tl draft vd log trial sta says seed past marks (mdlX 0 m_taped m_size m_place m_begin m_token m_word m_told m_wrong m_code m_toldLines m_given m_fresh m_done m_odd m_bestRank m_leastSpray m_g m_tape m_ship m_manName m_postName m_kind m_greenTold m_hands m_spray m_holds m_sea m_lineFrom m_lineTo m_codes m_opened m_compared m_kept m_keptBy m_ahead m_against m_sum m_sumBy m_term m_termBy m_byNot m_valueOf m_lines m_lineWhat m_lineA m_lineB m_seens m_seenMan m_seenOther m_seenAt m_seenGreener m_s m_aside m_before m_marked m_undone m_isLaid m_more m_row m_bestRow m_greenerBy K))) (n := n) (fun j hj ih => xgo [13, 46] 60 ⟨vp_in_nI (n := 0) (by decide) (by decide), ?_⟩)
  refine pk_le n j (fun q => ?_) (fun q => ?_) ms.men rfl (by omega) (by omega)
  · have e : j = n := by omega
    subst e
    exact h
  · have ih := ih q
    rw [bset, nI_succ] at ih
    have a46 : ¬ quaF A.g ship.shade k j = true → XWp (xF L xs) (some .int) xP236 (XC (xF L xs) xmeths (d + 1)) Q 46 [orf 169, oi (nI k), oi (bset (quaF A.g ship.shade k) j), oi (nI j)] [.int (bset (quaF A.g ship.shade k) j)] (clsW pn pc tok ship nn tl draft vd log trial sta says seed past marks (mdlX 0 m_taped m_size m_place m_begin m_token m_word m_told m_wrong m_code m_toldLines m_given m_fresh m_done m_odd m_bestRank m_leastSpray m_g m_tape m_ship m_manName m_postName m_kind m_greenTold m_hands m_spray m_holds m_sea m_lineFrom m_lineTo m_codes m_opened m_compared m_kept m_keptBy m_ahead m_against m_sum m_sumBy m_term m_termBy m_byNot m_valueOf m_lines m_lineWhat m_lineA m_lineB m_seens m_seenMan m_seenOther m_seenAt m_seenGreener m_s m_aside m_before m_marked m_undone m_isLaid m_more m_row m_bestRow m_greenerBy K)) := by
      intro y
      rw [if_neg y] at ih
      refine xgo [13] 20 ⟨nb rfl, ?_⟩
      rw [show Int32.ofInt 0 = 0 from rfl, or0]
      exact ih
    refine And.intro (fun (q2 : nI j = nI k) => a46 (by simp [q2])) (fun (q2 : ¬ nI j = nI k) => ?_)
    refine ⟨show vp_in (Int32.ofInt 2 + nI j) 14 from i2 j ▸ vp_in_nI (by omega) (by omega), show vp_in (Int32.ofInt 2 + nI k) 14 from i2 k ▸ vp_in_nI (by omega) (by omega), nb rfl, vp_in_nI (n := 2) (by decide) (by decide), ?_⟩
    rw [i2, i2, nI_clamp (by omega), nI_clamp (by omega)]
    refine And.intro (fun (q3 : m_ship 2 ≤ ab (m_s (2 + j) - m_s (2 + k))) => ?_) (fun (q3 : ¬ m_ship 2 ≤ ab (m_s (2 + j) - m_s (2 + k))) => ?_)
    · rw [rs.green j q, rs.green k hk, ms.shade] at q3
      refine a46 ?_
      simp only [quaF, Bool.and_eq_true, decide_eq_true_eq]
      exact fun y => absurd y.2 (Int32.not_lt.mpr q3)
    · rw [rs.green j q, rs.green k hk, ms.shade] at q3
      rw [if_pos (by simp only [quaF, Bool.and_eq_true, decide_eq_true_eq]; exact ⟨q2, Int32.not_le.mp q3⟩)] at ih
      exact ⟨nb rfl, ih⟩
theorem m_salutes {man : Int32} (so : ShOk ship n p z) (ms : MS ship n p z m_ship m_kind m_greenTold m_hands m_spray m_holds m_sea m_lineFrom m_lineTo m_codes m_manName m_postName) (rs : RS m_s n A) (h1 : ∀ k, k < n → man = nI k → Q (some (.int (bset (salF A.g ship.shade k) n))) (clsW pn pc tok ship nn tl draft vd log trial sta says seed past marks (mdlX 0 m_taped m_size m_place m_begin m_token m_word m_told m_wrong m_code m_toldLines m_given m_fresh m_done m_odd m_bestRank m_leastSpray m_g m_tape m_ship m_manName m_postName m_kind m_greenTold m_hands m_spray m_holds m_sea m_lineFrom m_lineTo m_codes m_opened m_compared m_kept m_keptBy m_ahead m_against m_sum m_sumBy m_term m_termBy m_byNot m_valueOf m_lines m_lineWhat m_lineA m_lineB m_seens m_seenMan m_seenOther m_seenAt m_seenGreener m_s m_aside m_before m_marked m_undone m_isLaid m_more m_row m_bestRow m_greenerBy K))) (h0 : ¬ (0 ≤ man ∧ man < nI n) → Q (some (.int (-1))) (clsW pn pc tok ship nn tl draft vd log trial sta says seed past marks (mdlX 0 m_taped m_size m_place m_begin m_token m_word m_told m_wrong m_code m_toldLines m_given m_fresh m_done m_odd m_bestRank m_leastSpray m_g m_tape m_ship m_manName m_postName m_kind m_greenTold m_hands m_spray m_holds m_sea m_lineFrom m_lineTo m_codes m_opened m_compared m_kept m_keptBy m_ahead m_against m_sum m_sumBy m_term m_termBy m_byNot m_valueOf m_lines m_lineWhat m_lineA m_lineB m_seens m_seenMan m_seenOther m_seenAt m_seenGreener m_s m_aside m_before m_marked m_undone m_isLaid m_more m_row m_bestRow m_greenerBy K))) : XC (xF L xs) xmeths (d + 2) 237 [.ref 169, .int man] (clsW pn pc tok ship nn tl draft vd log trial sta says seed past marks (mdlX m_thrown m_taped m_size m_place m_begin m_token m_word m_told m_wrong m_code m_toldLines m_given m_fresh m_done m_odd m_bestRank m_leastSpray m_g m_tape m_ship m_manName m_postName m_kind m_greenTold m_hands m_spray m_holds m_sea m_lineFrom m_lineTo m_codes m_opened m_compared m_kept m_keptBy m_ahead m_against m_sum m_sumBy m_term m_termBy m_byNot m_valueOf m_lines m_lineWhat m_lineA m_lineB m_seens m_seenMan m_seenOther m_seenAt m_seenGreener m_s m_aside m_before m_marked m_undone m_isLaid m_more m_row m_bestRow m_greenerBy K)) Q := by
  have n6 := so.n6
  refine ⟨nb rfl, xgo [2] 20 (xp_thrown rfl (xgo [13] 60 ⟨rfl, nb rfl, m_isMan ms.men ?_⟩))⟩
  refine vB1 (fun q => ?_) (fun q => h0 q)
  rcases inI (by omega) q with ⟨k, hk, rfl⟩
  have h := h1 k hk rfl
  refine ⟨nb rfl, nb rfl, ?_⟩
  refine up_to (P := fun j => XWp (xF L xs) (some .int) xP237 (XC (xF L xs) xmeths (d + 1)) Q 13 [orf 169, oi (nI k), oi (bset (salF A.g ship.shade k) j), oi (nI j)] [] (clsW pn pc tok ship nn tl draft vd log trial sta says seed past marks (mdlX 0 m_taped m_size m_place m_begin m_token m_word m_told m_wrong m_code m_toldLines m_given m_fresh m_done m_odd m_bestRank m_leastSpray m_g m_tape m_ship m_manName m_postName m_kind m_greenTold m_hands m_spray m_holds m_sea m_lineFrom m_lineTo m_codes m_opened m_compared m_kept m_keptBy m_ahead m_against m_sum m_sumBy m_term m_termBy m_byNot m_valueOf m_lines m_lineWhat m_lineA m_lineB m_seens m_seenMan m_seenOther m_seenAt m_seenGreener m_s m_aside m_before m_marked m_undone m_isLaid m_more m_row m_bestRow m_greenerBy K))) (n := n) (fun j hj ih => xgo [13] 60 ⟨vp_in_nI (n := 0) (by decide) (by decide), ?_⟩)
  refine pk_le n j (fun q => ?_) (fun q => ?_) ms.men rfl (by omega) (by omega)
  · have e : j = n := by omega
    subst e
    exact h
  · have ih := ih q
    rw [bset, nI_succ] at ih
    refine ⟨show vp_in (Int32.ofInt 2 + nI j) 14 from i2 j ▸ vp_in_nI (by omega) (by omega), show vp_in (Int32.ofInt 2 + nI k) 14 from i2 k ▸ vp_in_nI (by omega) (by omega), vp_in_nI (n := 2) (by decide) (by decide), ?_⟩
    rw [i2, i2, nI_clamp (by omega), nI_clamp (by omega)]
    refine And.intro (fun (q3 : m_s (2 + j) - m_s (2 + k) < 2 * m_ship 2) => ?_) (fun (q3 : ¬ m_s (2 + j) - m_s (2 + k) < 2 * m_ship 2) => ?_)
    · rw [rs.green j q, rs.green k hk, ms.shade] at q3
      rw [if_neg (by simp only [salF, decide_eq_true_eq]; exact Int32.not_le.mpr q3)] at ih
      refine ⟨nb rfl, ?_⟩
      rw [show Int32.ofInt 0 = 0 from rfl, or0]
      exact ih
    · rw [rs.green j q, rs.green k hk, ms.shade] at q3
      rw [if_pos (by simp only [salF, decide_eq_true_eq]; exact Int32.not_lt.mp q3)] at ih
      exact ⟨nb rfl, ih⟩
end XMN
