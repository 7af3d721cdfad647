/-! the law's loop, all of it -/
section XFN
variable {L : Nat} {xs : Nat → Int32} {d : Nat} {Q : XQt} {pn pc : Int32} {tok : TTok} {ship : TShip} {nn : Int64} {tl : Int32} {draft : TShip} {vd : TVoy} {log : TLog} {trial : TCrew} {sta : TSta} {says : Fn} {seed : Int64} {past : Nat → TCrew} {marks : Nat → TLog} {K : XWd}
variable {m_thrown : Int32} {m_taped : Int32} {m_size : Int32} {m_place : Int32} {m_begin : Int32} {m_token : Int32} {m_word : Int64} {m_told : Int32} {m_wrong : Int32} {m_code : Int32} {m_toldLines : Int32} {m_given : Int32} {m_fresh : Int64} {m_done : Int32} {m_odd : Int32} {m_bestRank : Int32} {m_leastSpray : Int32} {m_g : Int64} {m_tape : Fn} {m_ship : Fn} {m_manName : Fl} {m_postName : Fl} {m_kind : Fn} {m_greenTold : Fn} {m_hands : Fn} {m_spray : Fn} {m_holds : Fn} {m_sea : Fn} {m_lineFrom : Fn} {m_lineTo : Fn} {m_codes : Fn} {m_opened : Fn} {m_compared : Fn} {m_kept : Fn} {m_keptBy : Fn} {m_ahead : Fn} {m_against : Fn} {m_sum : Fn} {m_sumBy : Fn} {m_term : Fn} {m_termBy : Fn} {m_byNot : Fn} {m_valueOf : Fn} {m_lines : Fn} {m_lineWhat : Fn} {m_lineA : Fn} {m_lineB : Fn} {m_seens : Fn} {m_seenMan : Fn} {m_seenOther : Fn} {m_seenAt : Fn} {m_seenGreener : Fn} {m_s : Fn} {m_aside : Fn} {m_before : Fn} {m_marked : Fn} {m_undone : Fn} {m_isLaid : Fn} {m_more : Fn} {m_row : Fn} {m_bestRow : Fn} {m_greenerBy : Fl}
variable {stk kn : Fn} {H : Nat → TA} {j n p z a t q c l li e : Nat}
variable {w : XWd}
theorem xsl_cons' {e : XE} {k : XWd} : xsl (e :: k) = xsz e + xsl k := by simp [xsl]
set_option maxRecDepth 20000 in
theorem xslC : xsl (clsW pn pc tok ship nn tl draft vd log trial sta says seed past marks (mdlX m_thrown m_taped m_size m_place m_begin m_token m_word m_told m_wrong m_code m_toldLines m_given m_fresh m_done m_odd m_bestRank m_leastSpray m_g m_tape m_ship m_manName m_postName m_kind m_greenTold m_hands m_spray m_holds m_sea m_lineFrom m_lineTo m_codes m_opened m_compared m_kept m_keptBy m_ahead m_against m_sum m_sumBy m_term m_termBy m_byNot m_valueOf m_lines m_lineWhat m_lineA m_lineB m_seens m_seenMan m_seenOther m_seenAt m_seenGreener m_s m_aside m_before m_marked m_undone m_isLaid m_more m_row m_bestRow m_greenerBy K)) = xsl (clsW pn pc tok ship nn tl draft vd log trial sta says seed past marks (mdlX m_thrown m_taped m_size m_place m_begin m_token m_word m_told m_wrong m_code m_toldLines m_given m_fresh m_done m_odd m_bestRank m_leastSpray m_g m_tape m_ship m_manName m_postName m_kind m_greenTold m_hands m_spray m_holds m_sea m_lineFrom m_lineTo m_codes m_opened m_compared m_kept m_keptBy m_ahead m_against m_sum m_sumBy m_term m_termBy m_byNot m_valueOf m_lines m_lineWhat m_lineA m_lineB m_seens m_seenMan m_seenOther m_seenAt m_seenGreener m_s m_aside m_before m_marked m_undone m_isLaid m_more m_row m_bestRow m_greenerBy ([]))) + xsl K := by
  have h := clsW_app (pn := pn) (pc := pc) (tok := tok) (ship := ship) (nn := nn) (tl := tl) (draft := draft) (vd := vd) (log := log) (trial := trial) (sta := sta) (says := says) (seed := seed) (past := past) (marks := marks) (K := (mdlX m_thrown m_taped m_size m_place m_begin m_token m_word m_told m_wrong m_code m_toldLines m_given m_fresh m_done m_odd m_bestRank m_leastSpray m_g m_tape m_ship m_manName m_postName m_kind m_greenTold m_hands m_spray m_holds m_sea m_lineFrom m_lineTo m_codes m_opened m_compared m_kept m_keptBy m_ahead m_against m_sum m_sumBy m_term m_termBy m_byNot m_valueOf m_lines m_lineWhat m_lineA m_lineB m_seens m_seenMan m_seenOther m_seenAt m_seenGreener m_s m_aside m_before m_marked m_undone m_isLaid m_more m_row m_bestRow m_greenerBy K))
  have h2 := clsW_app (pn := pn) (pc := pc) (tok := tok) (ship := ship) (nn := nn) (tl := tl) (draft := draft) (vd := vd) (log := log) (trial := trial) (sta := sta) (says := says) (seed := seed) (past := past) (marks := marks) (K := (mdlX m_thrown m_taped m_size m_place m_begin m_token m_word m_told m_wrong m_code m_toldLines m_given m_fresh m_done m_odd m_bestRank m_leastSpray m_g m_tape m_ship m_manName m_postName m_kind m_greenTold m_hands m_spray m_holds m_sea m_lineFrom m_lineTo m_codes m_opened m_compared m_kept m_keptBy m_ahead m_against m_sum m_sumBy m_term m_termBy m_byNot m_valueOf m_lines m_lineWhat m_lineA m_lineB m_seens m_seenMan m_seenOther m_seenAt m_seenGreener m_s m_aside m_before m_marked m_undone m_isLaid m_more m_row m_bestRow m_greenerBy ([])))
  have e : ∀ a b : XWd, xsl (a ++ b) = xsl a + xsl b := fun a b => by simp [xsl]
  rw [h, h2, mdl_app, e, e, e, Nat.add_assoc]
set_option maxRecDepth 20000 in
theorem xslN : xsl (clsW pn pc tok ship nn tl draft vd log trial sta says seed past marks (mdlX m_thrown m_taped m_size m_place m_begin m_token m_word m_told m_wrong m_code m_toldLines m_given m_fresh m_done m_odd m_bestRank m_leastSpray m_g m_tape m_ship m_manName m_postName m_kind m_greenTold m_hands m_spray m_holds m_sea m_lineFrom m_lineTo m_codes m_opened m_compared m_kept m_keptBy m_ahead m_against m_sum m_sumBy m_term m_termBy m_byNot m_valueOf m_lines m_lineWhat m_lineA m_lineB m_seens m_seenMan m_seenOther m_seenAt m_seenGreener m_s m_aside m_before m_marked m_undone m_isLaid m_more m_row m_bestRow m_greenerBy ([]))) ≤ 100000 := by
  simp only [clsW, gTop, gTok, gShip3, gRd, gShip17, gVoy30, gLog32, gCrew44, gFor48, gSta49, gSus53, gPast, gMarks, gPastA, gP0, gP1, gP2, gP3, gP4, gP5, gP6, gP7, gP8, gP9, gP10, gP11, gP12, gP13, gP14, gP15, gMarkA, gM0, gM1, gM2, gM3, mdlX, mdlW, gMo, gMa, gMb, xsl_cons', xsz, xint, xlng, xref, xobj, List.length_cons, List.length_nil]
  decide
theorem Inv.fin (h : (Inv j n p z a t q c l li e H pn pc tok ship kn log past marks m_taped m_done m_odd m_tape m_ship m_kind m_greenTold m_hands m_spray m_holds m_sea m_lineFrom m_lineTo m_codes m_manName m_postName m_lines m_lineWhat m_lineA m_lineB m_seens m_seenMan m_seenOther m_seenAt m_seenGreener m_s m_marked m_undone m_isLaid K)) (hj : j ≤ 512) : (clsW pn pc tok (ship.wlaw (ship.law.wm stk kn)) nn tl draft vd log trial sta says seed past marks (mdlX m_thrown m_taped m_size m_place m_begin m_token m_word m_told m_wrong m_code m_toldLines m_given m_fresh m_done m_odd m_bestRank m_leastSpray m_g m_tape m_ship m_manName m_postName m_kind m_greenTold m_hands m_spray m_holds m_sea m_lineFrom m_lineTo m_codes m_opened m_compared m_kept m_keptBy m_ahead m_against m_sum m_sumBy m_term m_termBy m_byNot m_valueOf m_lines m_lineWhat m_lineA m_lineB m_seens m_seenMan m_seenOther m_seenAt m_seenGreener m_s m_aside m_before m_marked m_undone m_isLaid m_more m_row m_bestRow m_greenerBy K)).length ≤ 601024 ∧ xsl (clsW pn pc tok (ship.wlaw (ship.law.wm stk kn)) nn tl draft vd log trial sta says seed past marks (mdlX m_thrown m_taped m_size m_place m_begin m_token m_word m_told m_wrong m_code m_toldLines m_given m_fresh m_done m_odd m_bestRank m_leastSpray m_g m_tape m_ship m_manName m_postName m_kind m_greenTold m_hands m_spray m_holds m_sea m_lineFrom m_lineTo m_codes m_opened m_compared m_kept m_keptBy m_ahead m_against m_sum m_sumBy m_term m_termBy m_byNot m_valueOf m_lines m_lineWhat m_lineA m_lineB m_seens m_seenMan m_seenOther m_seenAt m_seenGreener m_s m_aside m_before m_marked m_undone m_isLaid m_more m_row m_bestRow m_greenerBy K)) ≤ 7293034 := by
  obtain ⟨f, T, rfl, h1, h2⟩ := h.kl
  refine ⟨?_, ?_⟩
  · have e2 := congrArg List.length (clsW_app (pn := pn) (pc := pc) (tok := tok) (ship := ship.wlaw (ship.law.wm stk kn)) (nn := nn) (tl := tl) (draft := draft) (vd := vd) (log := log) (trial := trial) (sta := sta) (says := says) (seed := seed) (past := past) (marks := marks) (K := (mdlX m_thrown m_taped m_size m_place m_begin m_token m_word m_told m_wrong m_code m_toldLines m_given m_fresh m_done m_odd m_bestRank m_leastSpray m_g m_tape m_ship m_manName m_postName m_kind m_greenTold m_hands m_spray m_holds m_sea m_lineFrom m_lineTo m_codes m_opened m_compared m_kept m_keptBy m_ahead m_against m_sum m_sumBy m_term m_termBy m_byNot m_valueOf m_lines m_lineWhat m_lineA m_lineB m_seens m_seenMan m_seenOther m_seenAt m_seenGreener m_s m_aside m_before m_marked m_undone m_isLaid m_more m_row m_bestRow m_greenerBy (xlng 1 f :: T))))
    rw [List.length_append, clsW_len, mdl_len, List.length_cons] at e2
    rw [e2]
    omega
  · rw [xslC]
    have := xslN (pn := pn) (pc := pc) (tok := tok) (ship := ship.wlaw (ship.law.wm stk kn)) (nn := nn) (tl := tl) (draft := draft) (vd := vd) (log := log) (trial := trial) (sta := sta) (says := says) (seed := seed) (past := past) (marks := marks) (m_thrown := m_thrown) (m_taped := m_taped) (m_size := m_size) (m_place := m_place) (m_begin := m_begin) (m_token := m_token) (m_word := m_word) (m_told := m_told) (m_wrong := m_wrong) (m_code := m_code) (m_toldLines := m_toldLines) (m_given := m_given) (m_fresh := m_fresh) (m_done := m_done) (m_odd := m_odd) (m_bestRank := m_bestRank) (m_leastSpray := m_leastSpray) (m_g := m_g) (m_tape := m_tape) (m_ship := m_ship) (m_manName := m_manName) (m_postName := m_postName) (m_kind := m_kind) (m_greenTold := m_greenTold) (m_hands := m_hands) (m_spray := m_spray) (m_holds := m_holds) (m_sea := m_sea) (m_lineFrom := m_lineFrom) (m_lineTo := m_lineTo) (m_codes := m_codes) (m_opened := m_opened) (m_compared := m_compared) (m_kept := m_kept) (m_keptBy := m_keptBy) (m_ahead := m_ahead) (m_against := m_against) (m_sum := m_sum) (m_sumBy := m_sumBy) (m_term := m_term) (m_termBy := m_termBy) (m_byNot := m_byNot) (m_valueOf := m_valueOf) (m_lines := m_lines) (m_lineWhat := m_lineWhat) (m_lineA := m_lineA) (m_lineB := m_lineB) (m_seens := m_seens) (m_seenMan := m_seenMan) (m_seenOther := m_seenOther) (m_seenAt := m_seenAt) (m_seenGreener := m_seenGreener) (m_s := m_s) (m_aside := m_aside) (m_before := m_before) (m_marked := m_marked) (m_undone := m_undone) (m_isLaid := m_isLaid) (m_more := m_more) (m_row := m_row) (m_bestRow := m_bestRow) (m_greenerBy := m_greenerBy)
    have e1 : xsl (xlng 1 f :: T) = 1 + xsl T := xsl_cons'
    omega
theorem IW.fin (h : IW j w) (hj : j ≤ 512) : w.length ≤ 601024 ∧ xsl w ≤ 7293034 := h (fun w => w.length ≤ 601024 ∧ xsl w ≤ 7293034) (fun h => h.fin hj)
end XFN
section XLP
variable {L : Nat} {xs : Nat → Int32} {j : Nat} {x5 x6 : Option Value} {w : XWd} {nx : Nat → Nat} {vl : Nat → Nat → Nat}
abbrev LV (L : Nat) (xs : Nat → Int32) : XKt := LW L xs restV
theorem IW.next (h : IW j w) : IW (j + 1) w := h (IW (j + 1)) (fun h => IW_of h.mono)
theorem xsl_cons {e : XE} {k : XWd} : xsl (e :: k) = xsz e + xsl k := by simp [xsl]
theorem xsl_two {a b : XWd} : xsl (a ++ b) = xsl a + xsl b := by simp [xsl]
theorem lv_head (hL : L ≤ 3584) (h : IW j w) (h0 : ¬ 7 * j + 7 ≤ L → LV L xs 824 (lcs (nI (7 * j)) x5 x6) [] w) (h1 : 7 * j + 7 ≤ L → LV L xs 19 (lcs (nI (7 * j)) x5 x6) [] w) (hj : j ≤ 512 := by omega) : LV L xs 13 (lcs (nI (7 * j)) x5 x6) [] w := by
  have hw := (h.ok hj).1
  refine lw_fold ?_
  rw [show xnth xPL 13 = some (.iload 4) by decide +kernel]
  show LV L xs 14 (lcs (nI (7 * j)) x5 x6) [.int (nI (7 * j))] w
  refine lw_ld (k := 0) (r := xSCR) (by decide +kernel) rfl ?_
  refine lw_fold ?_
  rw [show xnth xPL (14 + 1) = some .arraylength by decide +kernel, xi_lenS (xnth_none w xSCR (by have : xSCR = 1000000 := rfl; omega))]
  show LV L xs 16 (lcs (nI (7 * j)) x5 x6) [.int (nI L), .int (nI (7 * j))] w
  refine lw_fold ?_
  rw [show xnth xPL 16 = some (.iconst 7) by decide +kernel]
  show LV L xs 17 (lcs (nI (7 * j)) x5 x6) [.int (nI 7), .int (nI L), .int (nI (7 * j))] w
  refine lw_fold ?_
  rw [show xnth xPL 17 = some .isub by decide +kernel]
  show LV L xs 18 (lcs (nI (7 * j)) x5 x6) [.int (nI L - nI 7), .int (nI (7 * j))] w
  refine lw_fold ?_
  rw [show xnth xPL 18 = some (.if_icmp .gt 824) by decide +kernel]
  refine ⟨fun q => h0 (fun y => ?_), fun q => h1 ?_⟩
  · have q : nI L - nI 7 < nI (7 * j) := q
    rw [pk_sub (by omega)] at q
    exact nI_nlt (by omega) (by omega) q
  · have q : ¬ nI L - nI 7 < nI (7 * j) := q
    rcases Nat.lt_or_ge L 7 with l7 | l7
    · exact absurd (Int32.lt_of_lt_of_le (pk_sneg (a := L) (b := 7) (by decide) l7) (nI_pos' (by omega))) q
    · rw [pk_sub l7] at q
      rcases Nat.lt_or_ge (L - 7) (7 * j) with y | y
      · exact absurd (nI_lt y (by omega)) q
      · omega
theorem lv_feed (h : IW j w) (hj : 7 * j + 7 ≤ L) (hL : L ≤ 3584) (hn : ∀ x5 x6 w2, IW (j + 1) w2 → LV L xs 822 (lcs (nI (7 * j)) x5 x6) [] w2) : LV L xs 25 (lcs (nI (7 * j)) x5 x6) [] w := lw_feed (h.ok (by omega)) hj hL (fun _ _ _ => pw_feed h (by omega)) (hn x5 x6)
theorem lv_ship (h : IW j w) (hj : 7 * j + 7 ≤ L) (hL : L ≤ 3584) (hn : ∀ x5 x6 w2, IW (j + 1) w2 → LV L xs 822 (lcs (nI (7 * j)) x5 x6) [] w2) : LV L xs 134 (lcs (nI (7 * j)) x5 x6) [] w := lw_case (mc := 20) (mm := 170) (cs := []) (by decide +kernel) (by decide) (by decide) (h.ok (by omega)) hj hL (pw_ship h (by omega)) (hn x5 x6)
theorem lv_voyage (h : IW j w) (hj : 7 * j + 7 ≤ L) (hL : L ≤ 3584) (hn : ∀ x5 x6 w2, IW (j + 1) w2 → LV L xs 822 (lcs (nI (7 * j)) x5 x6) [] w2) : LV L xs 141 (lcs (nI (7 * j)) x5 x6) [] w := lw_case (mc := 69) (mm := 198) (cs := []) (by decide +kernel) (by decide) (by decide) (h.ok (by omega)) hj hL (pw_voyage h (by omega)) (hn x5 x6)
theorem lv_man (h : IW j w) (hj : 7 * j + 7 ≤ L) (hL : L ≤ 3584) (hn : ∀ x5 x6 w2, IW (j + 1) w2 → LV L xs 822 (lcs (nI (7 * j)) x5 x6) [] w2) : LV L xs 148 (lcs (nI (7 * j)) x5 x6) [] w := lw_case (mc := 74) (mm := 201) (cs := [1, 2]) (by decide +kernel) (by decide) (by decide) (h.ok (by omega)) hj hL (pw_man h (by omega)) (hn x5 x6)
theorem lv_post (h : IW j w) (hj : 7 * j + 7 ≤ L) (hL : L ≤ 3584) (hn : ∀ x5 x6 w2, IW (j + 1) w2 → LV L xs 822 (lcs (nI (7 * j)) x5 x6) [] w2) : LV L xs 175 (lcs (nI (7 * j)) x5 x6) [] w := lw_case (mc := 78) (mm := 205) (cs := [1, 2]) (by decide +kernel) (by decide) (by decide) (h.ok (by omega)) hj hL (pw_post h (by omega)) (hn x5 x6)
theorem lv_stand (h : IW j w) (hj : 7 * j + 7 ≤ L) (hL : L ≤ 3584) (hn : ∀ x5 x6 w2, IW (j + 1) w2 → LV L xs 822 (lcs (nI (7 * j)) x5 x6) [] w2) : LV L xs 202 (lcs (nI (7 * j)) x5 x6) [] w := lw_case (mc := 81) (mm := 208) (cs := [1, 2]) (by decide +kernel) (by decide) (by decide) (h.ok (by omega)) hj hL (pw_stand h (by omega)) (hn x5 x6)
theorem lv_below (h : IW j w) (hj : 7 * j + 7 ≤ L) (hL : L ≤ 3584) (hn : ∀ x5 x6 w2, IW (j + 1) w2 → LV L xs 822 (lcs (nI (7 * j)) x5 x6) [] w2) : LV L xs 229 (lcs (nI (7 * j)) x5 x6) [] w := lw_case (mc := 87) (mm := 212) (cs := [1]) (by decide +kernel) (by decide) (by decide) (h.ok (by omega)) hj hL (pw_below h (by omega)) (hn x5 x6)
theorem lv_suck (h : IW j w) (hj : 7 * j + 7 ≤ L) (hL : L ≤ 3584) (hn : ∀ x5 x6 w2, IW (j + 1) w2 → LV L xs 822 (lcs (nI (7 * j)) x5 x6) [] w2) : LV L xs 246 (lcs (nI (7 * j)) x5 x6) [] w := lw_case (mc := 90) (mm := 213) (cs := [1]) (by decide +kernel) (by decide) (by decide) (h.ok (by omega)) hj hL (pw_suck h (by omega)) (hn x5 x6)
theorem lv_fall (h : IW j w) (hj : 7 * j + 7 ≤ L) (hL : L ≤ 3584) (hn : ∀ x5 x6 w2, IW (j + 1) w2 → LV L xs 822 (lcs (nI (7 * j)) x5 x6) [] w2) : LV L xs 263 (lcs (nI (7 * j)) x5 x6) [] w := lw_case (mc := 93) (mm := 216) (cs := [1]) (by decide +kernel) (by decide) (by decide) (h.ok (by omega)) hj hL (pw_fall h (by omega)) (hn x5 x6)
theorem lv_watch (h : IW j w) (hj : 7 * j + 7 ≤ L) (hL : L ≤ 3584) (hn : ∀ x5 x6 w2, IW (j + 1) w2 → LV L xs 822 (lcs (nI (7 * j)) x5 x6) [] w2) : LV L xs 280 (lcs (nI (7 * j)) x5 x6) [] w := lw_case (mc := 96) (mm := 218) (cs := []) (by decide +kernel) (by decide) (by decide) (h.ok (by omega)) hj hL (pw_watch h (by omega)) (hn x5 x6)
theorem lv_dock (h : IW j w) (hj : 7 * j + 7 ≤ L) (hL : L ≤ 3584) (hn : ∀ x5 x6 w2, IW (j + 1) w2 → LV L xs 822 (lcs (nI (7 * j)) x5 x6) [] w2) : LV L xs 287 (lcs (nI (7 * j)) x5 x6) [] w := lw_case (mc := 106) (mm := 227) (cs := []) (by decide +kernel) (by decide) (by decide) (h.ok (by omega)) hj hL (pw_dock h (by omega)) (hn x5 x6)
theorem lv_undo (h : IW j w) (hj : 7 * j + 7 ≤ L) (hL : L ≤ 3584) (hn : ∀ x5 x6 w2, IW (j + 1) w2 → LV L xs 822 (lcs (nI (7 * j)) x5 x6) [] w2) : LV L xs 294 (lcs (nI (7 * j)) x5 x6) [] w := lw_case (mc := 109) (mm := 230) (cs := []) (by decide +kernel) (by decide) (by decide) (h.ok (by omega)) hj hL (pw_undo h (by omega)) (hn x5 x6)
theorem lv_judged (h : IW j w) (hj : 7 * j + 7 ≤ L) (hL : L ≤ 3584) (hn : ∀ x5 x6 w2, IW (j + 1) w2 → LV L xs 822 (lcs (nI (7 * j)) x5 x6) [] w2) : LV L xs 301 (lcs (nI (7 * j)) x5 x6) [] w := lw_case (mc := 110) (mm := 231) (cs := [1]) (by decide +kernel) (by decide) (by decide) (h.ok (by omega)) hj hL (pw_judged h (by omega)) (hn x5 x6)
theorem lv_captain (h : IW j w) (hj : 7 * j + 7 ≤ L) (hL : L ≤ 3584) (hn : ∀ x5 x6 w2, IW (j + 1) w2 → LV L xs 822 (lcs (nI (7 * j)) x5 x6) [] w2) : LV L xs 318 (lcs (nI (7 * j)) x5 x6) [] w := lw_case (mc := 114) (mm := 235) (cs := []) (by decide +kernel) (by decide) (by decide) (h.ok (by omega)) hj hL (pw_captain h (by omega)) (hn x5 x6)
theorem lv_argues (h : IW j w) (hj : 7 * j + 7 ≤ L) (hL : L ≤ 3584) (hn : ∀ x5 x6 w2, IW (j + 1) w2 → LV L xs 822 (lcs (nI (7 * j)) x5 x6) [] w2) : LV L xs 325 (lcs (nI (7 * j)) x5 x6) [] w := lw_case (mc := 115) (mm := 236) (cs := [1]) (by decide +kernel) (by decide) (by decide) (h.ok (by omega)) hj hL (pw_argues h (by omega)) (hn x5 x6)
theorem lv_salutes (h : IW j w) (hj : 7 * j + 7 ≤ L) (hL : L ≤ 3584) (hn : ∀ x5 x6 w2, IW (j + 1) w2 → LV L xs 822 (lcs (nI (7 * j)) x5 x6) [] w2) : LV L xs 342 (lcs (nI (7 * j)) x5 x6) [] w := lw_case (mc := 117) (mm := 237) (cs := [1]) (by decide +kernel) (by decide) (by decide) (h.ok (by omega)) hj hL (pw_salutes h (by omega)) (hn x5 x6)
theorem lv_when (h : IW j w) (hj : 7 * j + 7 ≤ L) (hL : L ≤ 3584) (hn : ∀ x5 x6 w2, IW (j + 1) w2 → LV L xs 822 (lcs (nI (7 * j)) x5 x6) [] w2) : LV L xs 359 (lcs (nI (7 * j)) x5 x6) [] w := lw_case (mc := 119) (mm := 238) (cs := [1]) (by decide +kernel) (by decide) (by decide) (h.ok (by omega)) hj hL (pw_when h (by omega)) (hn x5 x6)
theorem lv_passes (h : IW j w) (hj : 7 * j + 7 ≤ L) (hL : L ≤ 3584) (hn : ∀ x5 x6 w2, IW (j + 1) w2 → LV L xs 822 (lcs (nI (7 * j)) x5 x6) [] w2) : LV L xs 376 (lcs (nI (7 * j)) x5 x6) [] w := lw_case (mc := 121) (mm := 240) (cs := [1, 2]) (by decide +kernel) (by decide) (by decide) (h.ok (by omega)) hj hL (pw_passes h (by omega)) (hn x5 x6)
theorem lv_changes (h : IW j w) (hj : 7 * j + 7 ≤ L) (hL : L ≤ 3584) (hn : ∀ x5 x6 w2, IW (j + 1) w2 → LV L xs 822 (lcs (nI (7 * j)) x5 x6) [] w2) : LV L xs 403 (lcs (nI (7 * j)) x5 x6) [] w := lw_case (mc := 124) (mm := 241) (cs := [1]) (by decide +kernel) (by decide) (by decide) (h.ok (by omega)) hj hL (pw_changes h (by omega)) (hn x5 x6)
theorem lv_stations (h : IW j w) (hj : 7 * j + 7 ≤ L) (hL : L ≤ 3584) (hn : ∀ x5 x6 w2, IW (j + 1) w2 → LV L xs 822 (lcs (nI (7 * j)) x5 x6) [] w2) : LV L xs 420 (lcs (nI (7 * j)) x5 x6) [] w := lw_case (mc := 126) (mm := 243) (cs := [1, 2, 3]) (by decide +kernel) (by decide) (by decide) (h.ok (by omega)) hj hL (pw_stations h (by omega)) (hn x5 x6)
theorem lv_lemons (h : IW j w) (hj : 7 * j + 7 ≤ L) (hL : L ≤ 3584) (hn : ∀ x5 x6 w2, IW (j + 1) w2 → LV L xs 822 (lcs (nI (7 * j)) x5 x6) [] w2) : LV L xs 457 (lcs (nI (7 * j)) x5 x6) [] w := lw_case (mc := 130) (mm := 245) (cs := [1, 2]) (by decide +kernel) (by decide) (by decide) (h.ok (by omega)) hj hL (pw_lemons h (by omega)) (hn x5 x6)
theorem lv_docks (h : IW j w) (hj : 7 * j + 7 ≤ L) (hL : L ≤ 3584) (hn : ∀ x5 x6 w2, IW (j + 1) w2 → LV L xs 822 (lcs (nI (7 * j)) x5 x6) [] w2) : LV L xs 484 (lcs (nI (7 * j)) x5 x6) [] w := lw_case (mc := 134) (mm := 248) (cs := [1]) (by decide +kernel) (by decide) (by decide) (h.ok (by omega)) hj hL (pw_docks h (by omega)) (hn x5 x6)
theorem lv_twins (h : IW j w) (hj : 7 * j + 7 ≤ L) (hL : L ≤ 3584) (hn : ∀ x5 x6 w2, IW (j + 1) w2 → LV L xs 822 (lcs (nI (7 * j)) x5 x6) [] w2) : LV L xs 501 (lcs (nI (7 * j)) x5 x6) [] w := lw_case (mc := 136) (mm := 249) (cs := []) (by decide +kernel) (by decide) (by decide) (h.ok (by omega)) hj hL (pw_twins h (by omega)) (hn x5 x6)
theorem lv_shades (h : IW j w) (hj : 7 * j + 7 ≤ L) (hL : L ≤ 3584) (hn : ∀ x5 x6 w2, IW (j + 1) w2 → LV L xs 822 (lcs (nI (7 * j)) x5 x6) [] w2) : LV L xs 508 (lcs (nI (7 * j)) x5 x6) [] w := lw_case (mc := 138) (mm := 250) (cs := []) (by decide +kernel) (by decide) (by decide) (h.ok (by omega)) hj hL (pw_shades h (by omega)) (hn x5 x6)
theorem lv_first (h : IW j w) (hj : 7 * j + 7 ≤ L) (hL : L ≤ 3584) (hn : ∀ x5 x6 w2, IW (j + 1) w2 → LV L xs 822 (lcs (nI (7 * j)) x5 x6) [] w2) : LV L xs 515 (lcs (nI (7 * j)) x5 x6) [] w := lw_case (mc := 141) (mm := 242) (cs := [1, 2]) (by decide +kernel) (by decide) (by decide) (h.ok (by omega)) hj hL (pw_first h (by omega)) (hn x5 x6)
theorem lv_see (h : IW j w) (hj : 7 * j + 7 ≤ L) (hL : L ≤ 3584) (hn : ∀ x5 x6 w2, IW (j + 1) w2 → LV L xs 822 (lcs (nI (7 * j)) x5 x6) [] w2) : LV L xs 542 (lcs (nI (7 * j)) x5 x6) [] w := lw_see (h.ok (by omega)) hj hL (fun _ _ _ _ hg => pw_see hg h (by omega)) (hn x5 x6)
theorem lv_sets (h : IW j w) (hj : 7 * j + 7 ≤ L) (hL : L ≤ 3584) (hn : ∀ x5 x6 w2, IW (j + 1) w2 → LV L xs 822 (lcs (nI (7 * j)) x5 x6) [] w2) : LV L xs 597 (lcs (nI (7 * j)) x5 x6) [] w := lw_case (mc := 145) (mm := 252) (cs := [1]) (by decide +kernel) (by decide) (by decide) (h.ok (by omega)) hj hL (pw_sets h (by omega)) (hn x5 x6)
theorem lv_ask (h : IW j w) (hj : 7 * j + 7 ≤ L) (hL : L ≤ 3584) (hn : ∀ x5 x6 w2, IW (j + 1) w2 → LV L xs 822 (lcs (nI (7 * j)) x5 x6) [] w2) : LV L xs 614 (lcs (nI (7 * j)) x5 x6) [] w := lw_case (mc := 150) (mm := 256) (cs := [1]) (by decide +kernel) (by decide) (by decide) (h.ok (by omega)) hj hL (pw_ask h (by omega)) (hn x5 x6)
theorem lv_chance (h : IW j w) (hj : 7 * j + 7 ≤ L) (hL : L ≤ 3584) (hn : ∀ x5 x6 w2, IW (j + 1) w2 → LV L xs 822 (lcs (nI (7 * j)) x5 x6) [] w2) : LV L xs 631 (lcs (nI (7 * j)) x5 x6) [] w := lw_case (mc := 153) (mm := 257) (cs := [1, 2, 3]) (by decide +kernel) (by decide) (by decide) (h.ok (by omega)) hj hL (pw_chance h (by omega)) (hn x5 x6)
theorem lv_rests (h : IW j w) (hj : 7 * j + 7 ≤ L) (hL : L ≤ 3584) (hn : ∀ x5 x6 w2, IW (j + 1) w2 → LV L xs 822 (lcs (nI (7 * j)) x5 x6) [] w2) : LV L xs 668 (lcs (nI (7 * j)) x5 x6) [] w := lw_rests (h.ok (by omega)) hj hL (fun _ _ _ _ => pw_rests h (by omega)) hn
theorem lv_voyages (nv : NX nx vl) (h : IW j w) (hj : 7 * j + 7 ≤ L) (hL : L ≤ 3584) (hn : ∀ x5 x6 w2, IW (j + 1) w2 → LV L xs 822 (lcs (nI (7 * j)) x5 x6) [] w2) : LV L xs 733 (lcs (nI (7 * j)) x5 x6) [] w := lw_case (mc := 155) (mm := 260) (cs := [1, 2, 3]) (by decide +kernel) (by decide) (by decide) (h.ok (by omega)) hj hL (pw_voyages nv h (by omega)) (hn x5 x6)
theorem lv_mark (h : IW j w) (hj : 7 * j + 7 ≤ L) (hL : L ≤ 3584) (hn : ∀ x5 x6 w2, IW (j + 1) w2 → LV L xs 822 (lcs (nI (7 * j)) x5 x6) [] w2) : LV L xs 770 (lcs (nI (7 * j)) x5 x6) [] w := lw_mark (h.ok (by omega)) hj hL (fun _ _ => pw_mark h (by omega)) (hn x5 x6)
theorem lv_count (h : IW j w) (hj : 7 * j + 7 ≤ L) (hL : L ≤ 3584) (hn : ∀ x5 x6 w2, IW (j + 1) w2 → LV L xs 822 (lcs (nI (7 * j)) x5 x6) [] w2) : LV L xs 805 (lcs (nI (7 * j)) x5 x6) [] w := lw_case (mc := 162) (mm := 265) (cs := [1]) (by decide +kernel) (by decide) (by decide) (h.ok (by omega)) hj hL (pw_count h (by omega)) (hn x5 x6)
theorem lv_step (nv : NX nx vl) (h : IW j w) (hj : 7 * j + 7 ≤ L) (hL : L ≤ 3584) (hn : ∀ x5 x6 w2, IW (j + 1) w2 → LV L xs 822 (lcs (nI (7 * j)) x5 x6) [] w2) : LV L xs 19 (lcs (nI (7 * j)) x5 x6) [] w := by
  have hw := (h.ok (by omega)).1
  have hd : LV L xs 822 (lcs (nI (7 * j)) x5 x6) [] w := hn x5 x6 w h.next
  refine lw_ld (k := 0) (r := xSCR) (by decide +kernel) rfl ?_
  refine lw_fold ?_
  rw [show xnth xPL (19 + 1) = some (.iload 4) by decide +kernel]
  show LV L xs 21 (lcs (nI (7 * j)) x5 x6) [.int (nI (7 * j)), .ref xSCR] w
  refine lw_scr (by decide +kernel) hw rfl (by omega) hL ?_
  refine lw_fold ?_
  rw [show xnth xPL (21 + 1) = some (.iconst 63) by decide +kernel]
  show LV L xs 23 (lcs (nI (7 * j)) x5 x6) [.int (Int32.ofInt 63), .int (xs (7 * j))] w
  refine lw_fold ?_
  rw [show xnth xPL 23 = some .iand by decide +kernel]
  show LV L xs 24 (lcs (nI (7 * j)) x5 x6) [.int (xs (7 * j) &&& Int32.ofInt 63)] w
  refine lw_fold ?_
  rw [show xnth xPL 24 = some (.tableswitch 822 0 32 #[25, 134, 141, 148, 175, 202, 229, 246, 263, 280, 287, 294, 301, 318, 325, 342, 359, 376, 403, 420, 457, 484, 501, 508, 515, 542, 597, 614, 631, 668, 733, 770, 805]) by decide +kernel]
  generalize xs (7 * j) &&& Int32.ofInt 63 = x
  exact ⟨fun _ => lv_feed h hj hL hn, fun _ => ⟨fun _ => lv_ship h hj hL hn, fun _ => ⟨fun _ => lv_voyage h hj hL hn, fun _ => ⟨fun _ => lv_man h hj hL hn, fun _ => ⟨fun _ => lv_post h hj hL hn, fun _ => ⟨fun _ => lv_stand h hj hL hn, fun _ => ⟨fun _ => lv_below h hj hL hn, fun _ => ⟨fun _ => lv_suck h hj hL hn, fun _ => ⟨fun _ => lv_fall h hj hL hn, fun _ => ⟨fun _ => lv_watch h hj hL hn, fun _ => ⟨fun _ => lv_dock h hj hL hn, fun _ => ⟨fun _ => lv_undo h hj hL hn, fun _ => ⟨fun _ => lv_judged h hj hL hn, fun _ => ⟨fun _ => lv_captain h hj hL hn, fun _ => ⟨fun _ => lv_argues h hj hL hn, fun _ => ⟨fun _ => lv_salutes h hj hL hn, fun _ => ⟨fun _ => lv_when h hj hL hn, fun _ => ⟨fun _ => lv_passes h hj hL hn, fun _ => ⟨fun _ => lv_changes h hj hL hn, fun _ => ⟨fun _ => lv_stations h hj hL hn, fun _ => ⟨fun _ => lv_lemons h hj hL hn, fun _ => ⟨fun _ => lv_docks h hj hL hn, fun _ => ⟨fun _ => lv_twins h hj hL hn, fun _ => ⟨fun _ => lv_shades h hj hL hn, fun _ => ⟨fun _ => lv_first h hj hL hn, fun _ => ⟨fun _ => lv_see h hj hL hn, fun _ => ⟨fun _ => lv_sets h hj hL hn, fun _ => ⟨fun _ => lv_ask h hj hL hn, fun _ => ⟨fun _ => lv_chance h hj hL hn, fun _ => ⟨fun _ => lv_rests h hj hL hn, fun _ => ⟨fun _ => lv_voyages nv h hj hL hn, fun _ => ⟨fun _ => lv_mark h hj hL hn, fun _ => ⟨fun _ => lv_count h hj hL hn, fun _ => hd⟩⟩⟩⟩⟩⟩⟩⟩⟩⟩⟩⟩⟩⟩⟩⟩⟩⟩⟩⟩⟩⟩⟩⟩⟩⟩⟩⟩⟩⟩⟩⟩⟩
theorem lv_loop (nv : NX nx vl) (hL : L ≤ 3584) : ∀ m j, j + m = L / 7 → ∀ w x5 x6, IW j w → LV L xs 13 (lcs (nI (7 * j)) x5 x6) [] w := by
  intro m
  induction m with
  | zero =>
    intro j ej w x5 x6 h
    have hw := (h.ok (by omega)).1
    refine lv_head hL h ?_ (fun y => absurd y (by omega))
    intro _
    refine lw_fold ?_
    rw [show xnth xPL 824 = some (.iconst 1) by decide +kernel]
    show LV L xs 825 (lcs (nI (7 * j)) x5 x6) [.int 1] w
    refine lw_fold ?_
    rw [show xnth xPL 825 = some .ireturn by decide +kernel]
    exact ⟨rfl, rfl, h.fin (by omega)⟩
  | succ m ih =>
    intro j ej w x5 x6 h
    refine lv_head hL h (fun y => absurd y (by omega)) (fun _ => lv_step nv h (by omega) hL (fun x5 x6 w2 h2 => ?_))
    refine lw_fold ?_
    rw [show xnth xPL 822 = some (.iinc 4 7) by decide +kernel]
    show LV L xs 823 (lcs (nI (7 * j) + nI 7) x5 x6) [] w2
    rw [nI_add, show 7 * j + 7 = 7 * (j + 1) by omega]
    refine lw_fold ?_
    rw [show xnth xPL 823 = some (.goto 13) by decide +kernel]
    exact ih (j + 1) (by omega) w2 x5 x6 h2
end XLP
