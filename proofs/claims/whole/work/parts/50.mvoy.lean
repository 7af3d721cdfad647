/-! the reference: voyages told and drawn -/
abbrev VR (v : TVoy) (c : Nat) (a_n a_w a_a a_b : Fn) : Prop := (a_n 0 = nI c) ∧ (∀ i, i < c → a_w i = nI (lnV v i)) ∧ (∀ i, i < c → lnV v i < 4 → a_a i = nI (lnM v i)) ∧ (∀ i, i < c → lnV v i = 0 → a_b i = nI (lnB v i))
theorem VR.size {v : TVoy} {c : Nat} {a_n a_w a_a a_b : Fn} (h : VR v c a_n a_w a_a a_b) : a_n 0 = nI c := h.1
theorem VR.what {v : TVoy} {c : Nat} {a_n a_w a_a a_b : Fn} (h : VR v c a_n a_w a_a a_b) : ∀ i, i < c → a_w i = nI (lnV v i) := h.2.1
theorem VR.man {v : TVoy} {c : Nat} {a_n a_w a_a a_b : Fn} (h : VR v c a_n a_w a_a a_b) : ∀ i, i < c → lnV v i < 4 → a_a i = nI (lnM v i) := h.2.2.1
theorem VR.post {v : TVoy} {c : Nat} {a_n a_w a_a a_b : Fn} (h : VR v c a_n a_w a_a a_b) : ∀ i, i < c → lnV v i = 0 → a_b i = nI (lnB v i) := h.2.2.2
section XMV
variable {L : Nat} {xs : Nat → Int32} {d : Nat} {Q : XQt} {pn pc : Int32} {tok : TTok} {ship : TShip} {nn : Int64} {tl : Int32} {draft : TShip} {vd : TVoy} {log : TLog} {trial : TCrew} {sta : TSta} {says : Fn} {seed : Int64} {past : Nat → TCrew} {marks : Nat → TLog} {K : XWd}
variable {m_thrown : Int32} {m_taped : Int32} {m_size : Int32} {m_place : Int32} {m_begin : Int32} {m_token : Int32} {m_word : Int64} {m_told : Int32} {m_wrong : Int32} {m_code : Int32} {m_toldLines : Int32} {m_given : Int32} {m_fresh : Int64} {m_done : Int32} {m_odd : Int32} {m_bestRank : Int32} {m_leastSpray : Int32} {m_g : Int64} {m_tape : Fn} {m_ship : Fn} {m_manName : Fl} {m_postName : Fl} {m_kind : Fn} {m_greenTold : Fn} {m_hands : Fn} {m_spray : Fn} {m_holds : Fn} {m_sea : Fn} {m_lineFrom : Fn} {m_lineTo : Fn} {m_codes : Fn} {m_opened : Fn} {m_compared : Fn} {m_kept : Fn} {m_keptBy : Fn} {m_ahead : Fn} {m_against : Fn} {m_sum : Fn} {m_sumBy : Fn} {m_term : Fn} {m_termBy : Fn} {m_byNot : Fn} {m_valueOf : Fn} {m_lines : Fn} {m_lineWhat : Fn} {m_lineA : Fn} {m_lineB : Fn} {m_seens : Fn} {m_seenMan : Fn} {m_seenOther : Fn} {m_seenAt : Fn} {m_seenGreener : Fn} {m_s : Fn} {m_aside : Fn} {m_before : Fn} {m_marked : Fn} {m_undone : Fn} {m_isLaid : Fn} {m_more : Fn} {m_row : Fn} {m_bestRow : Fn} {m_greenerBy : Fl}
variable {n p z c : Nat} {A : TA} {v : TVoy} {nx : Nat → Nat} {vl : Nat → Nat → Nat}
theorem m_goes {i vb m b : Nat} (so : ShOk ship n p z) (ms : MS ship n p z m_ship m_kind m_greenTold m_hands m_spray m_holds m_sea m_lineFrom m_lineTo m_codes m_manName m_postName) (rs : RS m_s n A) (ao : AOk A n p) (ht : A.t < 2 ^ 31) (hod : m_odd = -1) (hi : i < 40) (hv : vb ≤ 5) (ew : m_lineWhat i = nI vb) (em : vb < 4 → m_lineA i = nI m ∧ m < n) (eb : vb = 0 → m_lineB i = nI b ∧ b < p) (h : ∀ m_s m_kept m_keptBy m_ahead m_against m_sum m_sumBy m_term m_termBy m_byNot m_valueOf m_more, RS m_s n (folA ship n z vb m b A).2 → Q (some (.int (b2i ((folA ship n z vb m b A).1 = true)))) (clsW pn pc tok ship nn tl draft vd log trial sta says seed past marks (mdlX m_thrown m_taped m_size m_place m_begin m_token m_word m_told m_wrong m_code m_toldLines m_given m_fresh m_done m_odd m_bestRank m_leastSpray m_g m_tape m_ship m_manName m_postName m_kind m_greenTold m_hands m_spray m_holds m_sea m_lineFrom m_lineTo m_codes m_opened m_compared m_kept m_keptBy m_ahead m_against m_sum m_sumBy m_term m_termBy m_byNot m_valueOf m_lines m_lineWhat m_lineA m_lineB m_seens m_seenMan m_seenOther m_seenAt m_seenGreener m_s m_aside m_before m_marked m_undone m_isLaid m_more m_row m_bestRow m_greenerBy K))) : XC (xF L xs) xmeths (d + 6) 233 [.ref 169, .int (nI i)] (clsW pn pc tok ship nn tl draft vd log trial sta says seed past marks (mdlX m_thrown m_taped m_size m_place m_begin m_token m_word m_told m_wrong m_code m_toldLines m_given m_fresh m_done m_odd m_bestRank m_leastSpray m_g m_tape m_ship m_manName m_postName m_kind m_greenTold m_hands m_spray m_holds m_sea m_lineFrom m_lineTo m_codes m_opened m_compared m_kept m_keptBy m_ahead m_against m_sum m_sumBy m_term m_termBy m_byNot m_valueOf m_lines m_lineWhat m_lineA m_lineB m_seens m_seenMan m_seenOther m_seenAt m_seenGreener m_s m_aside m_before m_marked m_undone m_isLaid m_more m_row m_bestRow m_greenerBy K)) Q := by
  have n6 := so.n6
  have p4 := so.p4
  refine ⟨nb rfl, xgo [10] 40 ⟨vp_in_nI (by omega) (by omega), nb rfl, vp_in_nI (by omega) (by omega), nb rfl, ?_⟩⟩
  rw [nI_clamp (by omega)]
  suffices a10 : ∀ xa xw, xa = m_lineA i → xw = nI vb → XWp (xF L xs) (some .boolean) xP233 (XC (xF L xs) xmeths (d + 5)) Q 10 [orf 169, oi (nI i), oi xa, oi xw] [] (clsW pn pc tok ship nn tl draft vd log trial sta says seed past marks (mdlX m_thrown m_taped m_size m_place m_begin m_token m_word m_told m_wrong m_code m_toldLines m_given m_fresh m_done m_odd m_bestRank m_leastSpray m_g m_tape m_ship m_manName m_postName m_kind m_greenTold m_hands m_spray m_holds m_sea m_lineFrom m_lineTo m_codes m_opened m_compared m_kept m_keptBy m_ahead m_against m_sum m_sumBy m_term m_termBy m_byNot m_valueOf m_lines m_lineWhat m_lineA m_lineB m_seens m_seenMan m_seenOther m_seenAt m_seenGreener m_s m_aside m_before m_marked m_undone m_isLaid m_more m_row m_bestRow m_greenerBy K)) from a10 _ _ rfl ew
  intro xa xw ea exw
  subst exw
  have hvv : vb = 0 ∨ vb = 1 ∨ vb = 2 ∨ vb = 3 ∨ vb = 4 ∨ vb = 5 := by omega
  rcases hvv with rfl | rfl | rfl | rfl | rfl | rfl
  · have ⟨em, hm⟩ := em (by omega)
    have ⟨eb, hb⟩ := eb rfl
    rw [em] at ea
    subst ea
    refine xgo [18] 40 (vFd rfl ⟨vp_in_nI (by omega) (by omega), ?_⟩)
    rw [nI_clamp (by omega)]
    suffices a18 : ∀ xb, xb = nI b → XWp (xF L xs) (some .boolean) xP233 (XC (xF L xs) xmeths (d + 5)) Q 18 [orf 169, oi (nI i), oi (nI m), oi (nI 0)] [.int xb, .int (nI m), .ref 169] (clsW pn pc tok ship nn tl draft vd log trial sta says seed past marks (mdlX m_thrown m_taped m_size m_place m_begin m_token m_word m_told m_wrong m_code m_toldLines m_given m_fresh m_done m_odd m_bestRank m_leastSpray m_g m_tape m_ship m_manName m_postName m_kind m_greenTold m_hands m_spray m_holds m_sea m_lineFrom m_lineTo m_codes m_opened m_compared m_kept m_keptBy m_ahead m_against m_sum m_sumBy m_term m_termBy m_byNot m_valueOf m_lines m_lineWhat m_lineA m_lineB m_seens m_seenMan m_seenOther m_seenAt m_seenGreener m_s m_aside m_before m_marked m_undone m_isLaid m_more m_row m_bestRow m_greenerBy K)) from a18 _ eb
    intro xb exb
    subst exb
    refine xgo [] 60 ⟨rfl, nb rfl, m_canStand n6 ms.men rs hm (by omega) (ms.holds b hb) ?_⟩
    refine vB1 (fun q => ?_) (fun q => ?_)
    · refine ⟨vp_in_nI (by omega) (by omega), show vp_in (Int32.ofInt 8 + nI m) 14 from i8 m ▸ vp_in_nI (by omega) (by omega), ?_⟩
      rw [i8, nI_clamp (by omega), nI_clamp (by omega), st_s]
      have e : folA ship n z 0 m b A = (true, (A.g, upd A.p m (nI b), A.su, A.t)) := by rw [folA, if_pos rfl, if_pos q]
      rw [e] at h
      exact ⟨rfl, h _ m_kept m_keptBy m_ahead m_against m_sum m_sumBy m_term m_termBy m_byNot m_valueOf m_more (RS.setP rs hm n6 (by rw [← eb]; rfl))⟩
    · have e : folA ship n z 0 m b A = (false, A) := by rw [folA, if_pos rfl, if_neg q]
      rw [e] at h
      exact ⟨rfl, h m_s m_kept m_keptBy m_ahead m_against m_sum m_sumBy m_term m_termBy m_byNot m_valueOf m_more rs⟩
  · have ⟨em, hm⟩ := em (by omega)
    rw [em] at ea
    subst ea
    refine xgo [] 60 (vTd rfl (vFd rfl ⟨show vp_in (Int32.ofInt 8 + nI m) 14 from i8 m ▸ vp_in_nI (by omega) (by omega), ?_⟩))
    rw [i8, nI_clamp (by omega)]
    have e1 : m_s (8 + m) = 0 ↔ A.p m = -1 := by
      rw [rs.place m hm]
      exact ⟨fun y => (Int32.add_left_inj 1).mp (y.trans (by decide)), fun y => by rw [y]; decide⟩
    refine And.intro (fun (q : ¬ m_s (8 + m) = 0) => ?_) (fun (q : ¬ ¬ m_s (8 + m) = 0) => ?_)
    · refine ⟨show vp_in (Int32.ofInt 8 + nI m) 14 from i8 m ▸ vp_in_nI (by omega) (by omega), ?_⟩
      rw [i8, nI_clamp (by omega), st_s]
      have e : folA ship n z 1 m b A = (true, (A.g, upd A.p m (-1), A.su, A.t)) := by rw [folA, if_neg (by decide), if_pos rfl, if_neg (fun y => q (e1.mpr y))]
      rw [e] at h
      exact ⟨rfl, h _ m_kept m_keptBy m_ahead m_against m_sum m_sumBy m_term m_termBy m_byNot m_valueOf m_more (RS.setP rs hm n6 (by decide))⟩
    · have e : folA ship n z 1 m b A = (false, A) := by rw [folA, if_neg (by decide), if_pos rfl, if_pos (e1.mp (Classical.not_not.mp q))]
      rw [e] at h
      exact ⟨rfl, h m_s m_kept m_keptBy m_ahead m_against m_sum m_sumBy m_term m_termBy m_byNot m_valueOf m_more rs⟩
  · have ⟨em, hm⟩ := em (by omega)
    rw [em] at ea
    subst ea
    refine xgo [] 60 (vTd rfl (vTd rfl (vFd rfl ⟨rfl, nb rfl, m_hasSucked (by omega) rs ao.su ?_⟩)))
    refine vB0 (fun q => ?_) (fun q => ?_)
    · refine ⟨rfl, nb rfl, m_sucks n6 rs hm ms.lemon (fun m_s rs => ?_)⟩
      have e : folA ship n z 2 m b A = (true, (upd A.g m (mx 0 (A.g m - ship.lemon)), A.p, A.su ||| 2 ^ m, A.t)) := by rw [folA, if_neg (by decide), if_neg (by decide), if_pos rfl, if_neg q]
      rw [e] at h
      exact ⟨rfl, h m_s m_kept m_keptBy m_ahead m_against m_sum m_sumBy m_term m_termBy m_byNot m_valueOf m_more rs⟩
    · have e : folA ship n z 2 m b A = (false, A) := by rw [folA, if_neg (by decide), if_neg (by decide), if_pos rfl, if_pos q]
      rw [e] at h
      exact ⟨rfl, h m_s m_kept m_keptBy m_ahead m_against m_sum m_sumBy m_term m_termBy m_byNot m_valueOf m_more rs⟩
  · have ⟨em, hm⟩ := em (by omega)
    rw [em] at ea
    subst ea
    refine xgo [] 60 (vTd rfl (vTd rfl (vTd rfl (vFd rfl ⟨rfl, nb rfl, m_falls n6 ms.men rs ao.gp hm ms.shade (fun m_s rs => ?_)⟩))))
    exact ⟨rfl, h m_s m_kept m_keptBy m_ahead m_against m_sum m_sumBy m_term m_termBy m_byNot m_valueOf m_more rs⟩
  · refine xgo [] 60 (vTd rfl (vTd rfl (vTd rfl (vTd rfl (vFd rfl ⟨rfl, nb rfl, m_passesWatch so ms rs ao.gp ht (Or.inl ⟨hod, rfl⟩) (so.sea _ (Nat.mod_lt _ so.z1)) (fun m_s m_kept m_keptBy m_ahead m_against m_sum m_sumBy m_term m_termBy m_byNot m_valueOf m_more rs => ?_)⟩)))))
    exact ⟨rfl, h m_s m_kept m_keptBy m_ahead m_against m_sum m_sumBy m_term m_termBy m_byNot m_valueOf m_more rs⟩
  · refine xgo [] 60 (vTd rfl (vTd rfl (vTd rfl (vTd rfl (vTd rfl ⟨rfl, nb rfl, m_docks0 n6 ms.men rs ms.kind ms.harbour (fun m_s rs => ?_)⟩)))))
    exact ⟨rfl, h m_s m_kept m_keptBy m_ahead m_against m_sum m_sumBy m_term m_termBy m_byNot m_valueOf m_more rs⟩
theorem bd_ok {s : TShip} (so : ShOk s n p z) : AOk (bdA s) n p := ⟨⟨fun k hk => by
    rcases so.green k hk with ⟨x, hx, e⟩
    exact ⟨x, by omega, e⟩, fun k hk => Or.inl rfl⟩, show (0 : Nat) < 64 by decide⟩
theorem vd_in {s : TShip} {B : TA} : ∀ i, ((vdA s n z v B i).2.1 = -1 ∨ ∃ k, k < i ∧ (vdA s n z v B i).2.1 = nI k) ∧ ((vdA s n z v B i).2.2 = -1 ∨ ∃ k, k < i ∧ (vdA s n z v B i).2.2 = nI k)
  | 0 => ⟨Or.inl rfl, Or.inl rfl⟩
  | i + 1 => by
    have ⟨h1, h2⟩ := vd_in (s := s) (B := B) i
    simp only [vdA]
    refine ⟨?_, ?_⟩
    · split
      · exact Or.inr ⟨i, by omega, rfl⟩
      · exact h1.imp id (fun ⟨k, hk, e⟩ => ⟨k, by omega, e⟩)
    · split
      · exact Or.inr ⟨i, by omega, rfl⟩
      · exact h2.imp id (fun ⟨k, hk, e⟩ => ⟨k, by omega, e⟩)
theorem m_judged {what : Int32} (so : ShOk ship n p z) (ms : MS ship n p z m_ship m_kind m_greenTold m_hands m_spray m_holds m_sea m_lineFrom m_lineTo m_codes m_manName m_postName) (rs : RS m_s n A) (hod : m_odd = -1) (vo : VoOk v n p c) (vr : VR v c m_lines m_lineWhat m_lineA m_lineB) (h1 : 0 ≤ what ∧ what ≤ 2 → ∀ m_s m_aside m_kept m_keptBy m_ahead m_against m_sum m_sumBy m_term m_termBy m_byNot m_valueOf m_more, RS m_s n A → Q (some (.int (if what = 0 then (vdA ship n z v (bdA ship) c).2.1 else if what = 1 then (vdA ship n z v (bdA ship) c).2.2 else bst (vdA ship n z v (bdA ship) c).1.g n))) (clsW pn pc tok ship nn tl draft vd log trial sta says seed past marks (mdlX 0 m_taped m_size m_place m_begin m_token m_word m_told m_wrong m_code m_toldLines m_given m_fresh m_done m_odd m_bestRank m_leastSpray m_g m_tape m_ship m_manName m_postName m_kind m_greenTold m_hands m_spray m_holds m_sea m_lineFrom m_lineTo m_codes m_opened m_compared m_kept m_keptBy m_ahead m_against m_sum m_sumBy m_term m_termBy m_byNot m_valueOf m_lines m_lineWhat m_lineA m_lineB m_seens m_seenMan m_seenOther m_seenAt m_seenGreener m_s m_aside m_before m_marked m_undone m_isLaid m_more m_row m_bestRow m_greenerBy K))) (h0 : ¬ (0 ≤ what ∧ what ≤ 2) → Q (some (.int (-2))) (clsW pn pc tok ship nn tl draft vd log trial sta says seed past marks (mdlX 0 m_taped m_size m_place m_begin m_token m_word m_told m_wrong m_code m_toldLines m_given m_fresh m_done m_odd m_bestRank m_leastSpray m_g m_tape m_ship m_manName m_postName m_kind m_greenTold m_hands m_spray m_holds m_sea m_lineFrom m_lineTo m_codes m_opened m_compared m_kept m_keptBy m_ahead m_against m_sum m_sumBy m_term m_termBy m_byNot m_valueOf m_lines m_lineWhat m_lineA m_lineB m_seens m_seenMan m_seenOther m_seenAt m_seenGreener m_s m_aside m_before m_marked m_undone m_isLaid m_more m_row m_bestRow m_greenerBy K))) : XC (xF L xs) xmeths (d + 7) 231 [.ref 169, .int what] (clsW pn pc tok ship nn tl draft vd log trial sta says seed past marks (mdlX m_thrown m_taped m_size m_place m_begin m_token m_word m_told m_wrong m_code m_toldLines m_given m_fresh m_done m_odd m_bestRank m_leastSpray m_g m_tape m_ship m_manName m_postName m_kind m_greenTold m_hands m_spray m_holds m_sea m_lineFrom m_lineTo m_codes m_opened m_compared m_kept m_keptBy m_ahead m_against m_sum m_sumBy m_term m_termBy m_byNot m_valueOf m_lines m_lineWhat m_lineA m_lineB m_seens m_seenMan m_seenOther m_seenAt m_seenGreener m_s m_aside m_before m_marked m_undone m_isLaid m_more m_row m_bestRow m_greenerBy K)) Q := by
  have n6 := so.n6
  have c40 := vo.c40
  refine ⟨nb rfl, xgo [2] 20 (xp_thrown rfl (xgo [25] 60 ⟨rfl, nb rfl, m_within ?_⟩))⟩
  refine vB1 (fun q => ?_) (fun q => h0 q)
  have h := h1 q
  refine ⟨rfl, nb rfl, m_saveA n6 rs (fun m_aside ra => ⟨rfl, nb rfl, m_fresh0 so ms (fun m_s rs => ⟨nb rfl, nb rfl, nb rfl, ?_⟩)⟩)⟩
  refine up_to (P := fun i => ∀ m_s m_kept m_keptBy m_ahead m_against m_sum m_sumBy m_term m_termBy m_byNot m_valueOf m_more, ∀ x5, RS m_s n (vdA ship n z v (bdA ship) i).1 → XWp (xF L xs) (some .int) xP231 (XC (xF L xs) xmeths (d + 6)) Q 25 [orf 169, oi what, oi (vdA ship n z v (bdA ship) i).2.1, oi (vdA ship n z v (bdA ship) i).2.2, oi (nI i), x5] [] (clsW pn pc tok ship nn tl draft vd log trial sta says seed past marks (mdlX 0 m_taped m_size m_place m_begin m_token m_word m_told m_wrong m_code m_toldLines m_given m_fresh m_done m_odd m_bestRank m_leastSpray m_g m_tape m_ship m_manName m_postName m_kind m_greenTold m_hands m_spray m_holds m_sea m_lineFrom m_lineTo m_codes m_opened m_compared m_kept m_keptBy m_ahead m_against m_sum m_sumBy m_term m_termBy m_byNot m_valueOf m_lines m_lineWhat m_lineA m_lineB m_seens m_seenMan m_seenOther m_seenAt m_seenGreener m_s m_aside m_before m_marked m_undone m_isLaid m_more m_row m_bestRow m_greenerBy K))) (n := c) (fun i hi ih m_s m_kept m_keptBy m_ahead m_against m_sum m_sumBy m_term m_termBy m_byNot m_valueOf m_more x5 rs => xgo [25, 42, 50] 60 ⟨vp_in_nI (n := 0) (by decide) (by decide), ?_⟩) m_s m_kept m_keptBy m_ahead m_against m_sum m_sumBy m_term m_termBy m_byNot m_valueOf m_more none rs
  refine pk_le c i (fun q2 => ?_) (fun q2 => ?_) vr.size rfl (by omega) (by omega)
  · have e : i = c := by omega
    subst e
    refine ⟨rfl, nb rfl, m_greenest n6 ms.men rs ⟨nb rfl, rfl, nb rfl, m_loadA n6 ra (fun m_s rs => ?_)⟩⟩
    have h := h m_s m_aside m_kept m_keptBy m_ahead m_against m_sum m_sumBy m_term m_termBy m_byNot m_valueOf m_more rs
    refine And.intro (fun (q3 : ¬ what = 0) => ?_) (fun (q3 : ¬ ¬ what = 0) => ?_)
    · rw [if_neg q3] at h
      refine And.intro (fun (q4 : ¬ what = 1) => ?_) (fun (q4 : ¬ ¬ what = 1) => ?_)
      · rw [if_neg q4] at h
        exact h
      · rw [if_pos (Classical.not_not.mp q4)] at h
        exact h
    · rw [if_pos (Classical.not_not.mp q3)] at h
      exact h
  · have ih := ih q2
    have ⟨v1, v2, v3, v4, v5, v6⟩ := vo.at q2
    have ⟨in1, in2⟩ := vd_in (n := n) (z := z) (v := v) (s := ship) (B := bdA ship) i
    have hao := vd_ok so vo (bd_ok so) i (by omega)
    have htt := vd_t (s := ship) (n := n) (z := z) (v := v) (A := bdA ship) i
    have htt : (vdA ship n z v (bdA ship) i).1.t ≤ 0 + i := htt
    rw [nI_succ] at ih
    simp only [vdA] at ih
    generalize hX : vdA ship n z v (bdA ship) i = X at *
    rcases X with ⟨B, x1, x2⟩
    simp only at in1 in2 hao htt ih rs ⊢
    have neg1 : ∀ {y : Int32}, (y = -1 ∨ ∃ k, k < i ∧ y = nI k) → (0 ≤ y ↔ ¬ y = -1) := by
      intro y hy
      rcases hy with e | ⟨k, hk, e⟩
      · rw [e]; decide
      · rw [e]; exact ⟨fun _ => nIm (by omega), fun _ => nI_pos' (by omega)⟩
    refine ⟨rfl, nb rfl, m_captainNow n6 ms.men rs ⟨nb rfl, rfl, nb rfl, m_goes (m := lnM v i) (b := lnB v i) so ms rs hao (by omega) hod (by omega) v1 (vr.what i q2) (fun y => ⟨vr.man i q2 y, v2 y⟩) (fun y => ⟨vr.post i q2 y, v3 y⟩) (fun m_s m_kept m_keptBy m_ahead m_against m_sum m_sumBy m_term m_termBy m_byNot m_valueOf m_more rs => ?_)⟩⟩
    generalize hF : folA ship n z (lnV v i) (lnM v i) (lnB v i) B = fo at *
    rcases fo with ⟨f1, B2⟩
    simp only at ih rs ⊢
    have ih := ih m_s m_kept m_keptBy m_ahead m_against m_sum m_sumBy m_term m_termBy m_byNot m_valueOf m_more (oi (capt B.g n)) rs
    have a42 : ∀ y, y = (if f1 = false ∧ x1 = -1 then nI i else x1) → XWp (xF L xs) (some .int) xP231 (XC (xF L xs) xmeths (d + 6)) Q 42 [orf 169, oi what, oi y, oi x2, oi (nI i), oi (capt B.g n)] [] (clsW pn pc tok ship nn tl draft vd log trial sta says seed past marks (mdlX 0 m_taped m_size m_place m_begin m_token m_word m_told m_wrong m_code m_toldLines m_given m_fresh m_done m_odd m_bestRank m_leastSpray m_g m_tape m_ship m_manName m_postName m_kind m_greenTold m_hands m_spray m_holds m_sea m_lineFrom m_lineTo m_codes m_opened m_compared m_kept m_keptBy m_ahead m_against m_sum m_sumBy m_term m_termBy m_byNot m_valueOf m_lines m_lineWhat m_lineA m_lineB m_seens m_seenMan m_seenOther m_seenAt m_seenGreener m_s m_aside m_before m_marked m_undone m_isLaid m_more m_row m_bestRow m_greenerBy K)) := by
      intro y hy
      subst hy
      have a50 : ∀ w, w = (if x2 = -1 ∧ ¬ capt B2.g n = capt B.g n then nI i else x2) → XWp (xF L xs) (some .int) xP231 (XC (xF L xs) xmeths (d + 6)) Q 50 [orf 169, oi what, oi (if f1 = false ∧ x1 = -1 then nI i else x1), oi w, oi (nI i), oi (capt B.g n)] [] (clsW pn pc tok ship nn tl draft vd log trial sta says seed past marks (mdlX 0 m_taped m_size m_place m_begin m_token m_word m_told m_wrong m_code m_toldLines m_given m_fresh m_done m_odd m_bestRank m_leastSpray m_g m_tape m_ship m_manName m_postName m_kind m_greenTold m_hands m_spray m_holds m_sea m_lineFrom m_lineTo m_codes m_opened m_compared m_kept m_keptBy m_ahead m_against m_sum m_sumBy m_term m_termBy m_byNot m_valueOf m_lines m_lineWhat m_lineA m_lineB m_seens m_seenMan m_seenOther m_seenAt m_seenGreener m_s m_aside m_before m_marked m_undone m_isLaid m_more m_row m_bestRow m_greenerBy K)) := by
        intro w hw
        subst hw
        exact xgo [25] 20 ih
      refine xgo [50] 40 ⟨rfl, nb rfl, m_captainNow n6 ms.men rs ?_⟩
      refine And.intro (fun (q3 : capt B2.g n = capt B.g n) => a50 _ (by rw [if_neg (fun y => y.2 q3)])) (fun (q3 : ¬ capt B2.g n = capt B.g n) => ?_)
      refine And.intro (fun (q4 : 0 ≤ x2) => a50 _ (by rw [if_neg (fun y => (neg1 in2).mp q4 y.1)])) (fun (q4 : ¬ 0 ≤ x2) => ⟨nb rfl, a50 _ ?_⟩)
      rw [if_pos ⟨Classical.byContradiction (fun y => q4 ((neg1 in2).mpr y)), q3⟩]
    refine vB1 (fun q3 => a42 _ (by rw [if_neg (fun y => by rw [q3] at y; exact absurd y.1 (by decide))])) (fun q3 => ?_)
    refine And.intro (fun (q4 : 0 ≤ x1) => a42 _ (by rw [if_neg (fun y => (neg1 in1).mp q4 y.2)])) (fun (q4 : ¬ 0 ≤ x1) => ⟨nb rfl, a42 _ ?_⟩)
    rw [if_pos ⟨by simpa using q3, Classical.byContradiction (fun y => q4 ((neg1 in1).mpr y))⟩]
theorem m_draws {sd m : Nat} {x : Int32} (nv : NX nx vl) (hx : x = nI m) (hsd : sd < 2147483648) (hs : m_g = lN sd) (hm0 : 0 < m) (hm : m ≤ 100) (h : ∀ m_g, m_g = lN (nx sd) → Q (some (.int (nI (vl (nx sd) m)))) (clsW pn pc tok ship nn tl draft vd log trial sta says seed past marks (mdlX m_thrown m_taped m_size m_place m_begin m_token m_word m_told m_wrong m_code m_toldLines m_given m_fresh m_done m_odd m_bestRank m_leastSpray m_g m_tape m_ship m_manName m_postName m_kind m_greenTold m_hands m_spray m_holds m_sea m_lineFrom m_lineTo m_codes m_opened m_compared m_kept m_keptBy m_ahead m_against m_sum m_sumBy m_term m_termBy m_byNot m_valueOf m_lines m_lineWhat m_lineA m_lineB m_seens m_seenMan m_seenOther m_seenAt m_seenGreener m_s m_aside m_before m_marked m_undone m_isLaid m_more m_row m_bestRow m_greenerBy K))) : XC (xF L xs) xmeths (d + 1) 262 [.ref 169, .int x] (clsW pn pc tok ship nn tl draft vd log trial sta says seed past marks (mdlX m_thrown m_taped m_size m_place m_begin m_token m_word m_told m_wrong m_code m_toldLines m_given m_fresh m_done m_odd m_bestRank m_leastSpray m_g m_tape m_ship m_manName m_postName m_kind m_greenTold m_hands m_spray m_holds m_sea m_lineFrom m_lineTo m_codes m_opened m_compared m_kept m_keptBy m_ahead m_against m_sum m_sumBy m_term m_termBy m_byNot m_valueOf m_lines m_lineWhat m_lineA m_lineB m_seens m_seenMan m_seenOther m_seenAt m_seenGreener m_s m_aside m_before m_marked m_undone m_isLaid m_more m_row m_bestRow m_greenerBy K)) Q := by
  subst hx
  have e1 : m_g * Int64.ofNat 1103515245 + Int64.ofNat 12345 - (m_g * Int64.ofNat 1103515245 + Int64.ofNat 12345) / Int64.ofNat 2147483648 * Int64.ofNat 2147483648 = lN (nx sd) := by
    rw [hs, nv.nx, show Int64.ofNat 1103515245 = lN 1103515245 from rfl, show Int64.ofNat 12345 = lN 12345 from rfl, show Int64.ofNat 2147483648 = lN 2147483648 from rfl, lN_mul, lN_add]
    exact pk_lRem (by omega) (by decide) (by decide)
  have hl := nv.lt sd
  have hv := nv.vl (nx sd) m
  have e2 : lN (nx sd) / Int64.ofNat 65536 - lN (nx sd) / Int64.ofNat 65536 / (nI m).toInt64 * (nI m).toInt64 = lN (vl (nx sd) m) := by
    rw [hv, nI_l (by omega), show Int64.ofNat 65536 = lN 65536 from rfl, pk_lDiv (by omega) (by decide) (by decide)]
    exact pk_lRem (Nat.lt_of_le_of_lt (Nat.div_le_self _ _) (by omega)) hm0 (by omega)
  refine ⟨nb rfl, xgo [9] 60 ⟨(show ¬ Int64.ofNat 2147483648 = 0 by decide), ?_⟩⟩
  refine xp_g rfl ?_
  rw [e1]
  refine xgo [] 40 ⟨(show ¬ Int64.ofNat 65536 = 0 by decide), ?_⟩
  refine ⟨(show ¬ (nI m).toInt64 = 0 by rw [nI_l (by omega)]; intro y; have := (lN_eq (b := 0) (by omega) (by omega)).mp y; omega), ?_⟩
  have h := h (lN (nx sd)) rfl
  rw [← lN_i, ← e2] at h
  exact h
end XMV
