/-! the reference: voyages by draws -/
section XMZ
variable {L : Nat} {xs : Nat → Int32} {d : Nat} {Q : XQt} {pn pc : Int32} {tok : TTok} {ship : TShip} {nn : Int64} {tl : Int32} {draft : TShip} {vd : TVoy} {log : TLog} {trial : TCrew} {sta : TSta} {says : Fn} {seed : Int64} {past : Nat → TCrew} {marks : Nat → TLog} {K : XWd}
variable {m_thrown : Int32} {m_taped : Int32} {m_size : Int32} {m_place : Int32} {m_begin : Int32} {m_token : Int32} {m_word : Int64} {m_told : Int32} {m_wrong : Int32} {m_code : Int32} {m_toldLines : Int32} {m_given : Int32} {m_fresh : Int64} {m_done : Int32} {m_odd : Int32} {m_bestRank : Int32} {m_leastSpray : Int32} {m_g : Int64} {m_tape : Fn} {m_ship : Fn} {m_manName : Fl} {m_postName : Fl} {m_kind : Fn} {m_greenTold : Fn} {m_hands : Fn} {m_spray : Fn} {m_holds : Fn} {m_sea : Fn} {m_lineFrom : Fn} {m_lineTo : Fn} {m_codes : Fn} {m_opened : Fn} {m_compared : Fn} {m_kept : Fn} {m_keptBy : Fn} {m_ahead : Fn} {m_against : Fn} {m_sum : Fn} {m_sumBy : Fn} {m_term : Fn} {m_termBy : Fn} {m_byNot : Fn} {m_valueOf : Fn} {m_lines : Fn} {m_lineWhat : Fn} {m_lineA : Fn} {m_lineB : Fn} {m_seens : Fn} {m_seenMan : Fn} {m_seenOther : Fn} {m_seenAt : Fn} {m_seenGreener : Fn} {m_s : Fn} {m_aside : Fn} {m_before : Fn} {m_marked : Fn} {m_undone : Fn} {m_isLaid : Fn} {m_more : Fn} {m_row : Fn} {m_bestRow : Fn} {m_greenerBy : Fl}
variable {n p z c : Nat} {A : TA} {nx : Nat → Nat} {vl : Nat → Nat → Nat}
theorem m_livesWatch {sd : Nat} (nv : NX nx vl) (hsd : sd < 2147483648) (hs : m_g = lN sd) (so : ShOk ship n p z) (ms : MS ship n p z m_ship m_kind m_greenTold m_hands m_spray m_holds m_sea m_lineFrom m_lineTo m_codes m_manName m_postName) (rs : RS m_s n A) (ao : AOk A n p) (ht : A.t < 2 ^ 31) (hod : m_odd = -1) (h : ∀ m_s m_g m_kept m_keptBy m_ahead m_against m_sum m_sumBy m_term m_termBy m_byNot m_valueOf m_more, RS m_s n (folA ship n z 4 0 0 (if 0 < n then ordA nx vl ship n p z A sd else A)).2 → m_g = lN (if 0 < n then nx (nx (nx sd)) else sd) → Q none (clsW pn pc tok ship nn tl draft vd log trial sta says seed past marks (mdlX m_thrown m_taped m_size m_place m_begin m_token m_word m_told m_wrong m_code m_toldLines m_given m_fresh m_done m_odd m_bestRank m_leastSpray m_g m_tape m_ship m_manName m_postName m_kind m_greenTold m_hands m_spray m_holds m_sea m_lineFrom m_lineTo m_codes m_opened m_compared m_kept m_keptBy m_ahead m_against m_sum m_sumBy m_term m_termBy m_byNot m_valueOf m_lines m_lineWhat m_lineA m_lineB m_seens m_seenMan m_seenOther m_seenAt m_seenGreener m_s m_aside m_before m_marked m_undone m_isLaid m_more m_row m_bestRow m_greenerBy K))) : XC (xF L xs) xmeths (d + 6) 261 [.ref 169] (clsW pn pc tok ship nn tl draft vd log trial sta says seed past marks (mdlX m_thrown m_taped m_size m_place m_begin m_token m_word m_told m_wrong m_code m_toldLines m_given m_fresh m_done m_odd m_bestRank m_leastSpray m_g m_tape m_ship m_manName m_postName m_kind m_greenTold m_hands m_spray m_holds m_sea m_lineFrom m_lineTo m_codes m_opened m_compared m_kept m_keptBy m_ahead m_against m_sum m_sumBy m_term m_termBy m_byNot m_valueOf m_lines m_lineWhat m_lineA m_lineB m_seens m_seenMan m_seenOther m_seenAt m_seenGreener m_s m_aside m_before m_marked m_undone m_isLaid m_more m_row m_bestRow m_greenerBy K)) Q := by
  have n6 := so.n6
  have p4 := so.p4
  have a63 : ∀ m_s m_g, ∀ (B : TA) x1 x2 x3, RS m_s n B → AOk B n p → B.t < 2 ^ 31 → (if 0 < n then ordA nx vl ship n p z A sd else A) = B → m_g = lN (if 0 < n then nx (nx (nx sd)) else sd) → XWp (xF L xs) none xP261 (XC (xF L xs) xmeths (d + 5)) Q 63 [orf 169, x1, x2, x3] [] (clsW pn pc tok ship nn tl draft vd log trial sta says seed past marks (mdlX m_thrown m_taped m_size m_place m_begin m_token m_word m_told m_wrong m_code m_toldLines m_given m_fresh m_done m_odd m_bestRank m_leastSpray m_g m_tape m_ship m_manName m_postName m_kind m_greenTold m_hands m_spray m_holds m_sea m_lineFrom m_lineTo m_codes m_opened m_compared m_kept m_keptBy m_ahead m_against m_sum m_sumBy m_term m_termBy m_byNot m_valueOf m_lines m_lineWhat m_lineA m_lineB m_seens m_seenMan m_seenOther m_seenAt m_seenGreener m_s m_aside m_before m_marked m_undone m_isLaid m_more m_row m_bestRow m_greenerBy K)) := by
    intro m_s m_g B x1 x2 x3 rs ao ht eB eg
    refine xgo [] 20 ⟨rfl, nb rfl, m_passesWatch so ms rs ao.gp ht (Or.inl ⟨hod, rfl⟩) (so.sea _ (Nat.mod_lt _ so.z1)) (fun m_s m_kept m_keptBy m_ahead m_against m_sum m_sumBy m_term m_termBy m_byNot m_valueOf m_more rs => ⟨rfl, ?_⟩)⟩
    exact h m_s m_g m_kept m_keptBy m_ahead m_against m_sum m_sumBy m_term m_termBy m_byNot m_valueOf m_more (by rw [eB]; exact rs) eg
  refine ⟨nb rfl, xgo [10, 63] 60 ⟨vp_in_nI (n := 0) (by decide) (by decide), ?_⟩⟩
  refine pk_le n 0 (fun q => ?_) (fun q => ?_) ms.men nI_0.symm (by omega) (by omega)
  · exact a63 m_s m_g A _ _ _ rs ao ht (by rw [if_neg (by omega)]) (by rw [if_neg (by omega)]; exact hs)
  · rw [if_pos q] at a63
    have hm : vl (nx sd) n < n := nv.vlt _ _ q
    have hb : vl (nx (nx sd)) (p + 1) < p + 1 := nv.vlt _ _ (by omega)
    have hc : vl (nx (nx (nx sd))) 20 < 20 := nv.vlt _ _ (by decide)
    refine ⟨vp_in_nI (n := 0) (by decide) (by decide), ?_⟩
    suffices a10 : ∀ x, x = nI n → XWp (xF L xs) none xP261 (XC (xF L xs) xmeths (d + 5)) Q 10 [orf 169, none, none, none] [.int x, .ref 169] (clsW pn pc tok ship nn tl draft vd log trial sta says seed past marks (mdlX m_thrown m_taped m_size m_place m_begin m_token m_word m_told m_wrong m_code m_toldLines m_given m_fresh m_done m_odd m_bestRank m_leastSpray m_g m_tape m_ship m_manName m_postName m_kind m_greenTold m_hands m_spray m_holds m_sea m_lineFrom m_lineTo m_codes m_opened m_compared m_kept m_keptBy m_ahead m_against m_sum m_sumBy m_term m_termBy m_byNot m_valueOf m_lines m_lineWhat m_lineA m_lineB m_seens m_seenMan m_seenOther m_seenAt m_seenGreener m_s m_aside m_before m_marked m_undone m_isLaid m_more m_row m_bestRow m_greenerBy K)) from a10 _ ms.men
    intro x hx
    refine xgo [19] 40 ⟨rfl, nb rfl, m_draws nv hx hsd hs q (by omega) (fun m_g hs => ⟨nb rfl, vp_in_nI (n := 1) (by decide) (by decide), ?_⟩)⟩
    suffices a19 : ∀ y, y = nI (p + 1) → XWp (xF L xs) none xP261 (XC (xF L xs) xmeths (d + 5)) Q 19 [orf 169, oi (nI (vl (nx sd) n)), none, none] [.int y, .ref 169] (clsW pn pc tok ship nn tl draft vd log trial sta says seed past marks (mdlX m_thrown m_taped m_size m_place m_begin m_token m_word m_told m_wrong m_code m_toldLines m_given m_fresh m_done m_odd m_bestRank m_leastSpray m_g m_tape m_ship m_manName m_postName m_kind m_greenTold m_hands m_spray m_holds m_sea m_lineFrom m_lineTo m_codes m_opened m_compared m_kept m_keptBy m_ahead m_against m_sum m_sumBy m_term m_termBy m_byNot m_valueOf m_lines m_lineWhat m_lineA m_lineB m_seens m_seenMan m_seenOther m_seenAt m_seenGreener m_s m_aside m_before m_marked m_undone m_isLaid m_more m_row m_bestRow m_greenerBy K)) from a19 _ (by rw [nI_succ, ← ms.posts]; rfl)
    intro y hy
    refine xgo [49] 60 ⟨rfl, nb rfl, m_draws nv hy (nv.lt _) hs (by omega) (by omega) (fun m_g hs => ⟨nb rfl, vp_in_nI (n := 1) (by decide) (by decide), ?_⟩)⟩
    have a49 : ∀ m_s, ∀ B : TA, RS m_s n B → AOk B n p → B.t = A.t → (if vl (nx (nx sd)) (p + 1) < p then (folA ship n z 0 (vl (nx sd) n) (vl (nx (nx sd)) (p + 1)) A).2 else (folA ship n z 1 (vl (nx sd) n) 0 A).2) = B → XWp (xF L xs) none xP261 (XC (xF L xs) xmeths (d + 5)) Q 49 [orf 169, oi (nI (vl (nx sd) n)), oi (nI (vl (nx (nx sd)) (p + 1))), none] [] (clsW pn pc tok ship nn tl draft vd log trial sta says seed past marks (mdlX m_thrown m_taped m_size m_place m_begin m_token m_word m_told m_wrong m_code m_toldLines m_given m_fresh m_done m_odd m_bestRank m_leastSpray m_g m_tape m_ship m_manName m_postName m_kind m_greenTold m_hands m_spray m_holds m_sea m_lineFrom m_lineTo m_codes m_opened m_compared m_kept m_keptBy m_ahead m_against m_sum m_sumBy m_term m_termBy m_byNot m_valueOf m_lines m_lineWhat m_lineA m_lineB m_seens m_seenMan m_seenOther m_seenAt m_seenGreener m_s m_aside m_before m_marked m_undone m_isLaid m_more m_row m_bestRow m_greenerBy K)) := by
      intro m_s B rs ao' ht' eB
      have eO : ordA nx vl ship n p z A sd = if vl (nx (nx (nx sd))) 20 = 0 then (folA ship n z 5 0 0 B).2 else if vl (nx (nx (nx sd))) 20 = 1 then (folA ship n z 3 (vl (nx sd) n) 0 B).2 else B := by
        rw [← eB]
        rfl
      rw [eO, if_pos q] at a63
      refine xgo [57, 63] 40 ⟨rfl, nb rfl, m_draws (m := 20) nv rfl (nv.lt _) hs (by omega) (by omega) (fun m_g hs => ⟨nb rfl, ?_⟩)⟩
      refine pk_ne (vl (nx (nx (nx sd))) 20) 0 (fun q2 => ?_) (fun q2 => ?_) rfl nI_0.symm (by omega) (by omega)
      · rw [if_neg q2] at a63
        refine xgo [63] 40 ?_
        refine pk_ne (vl (nx (nx (nx sd))) 20) 1 (fun q3 => ?_) (fun q3 => ?_) rfl rfl (by omega) (by omega)
        · rw [if_neg q3] at a63
          exact a63 m_s m_g B _ _ _ rs ao' (by omega) rfl hs
        · rw [if_pos q3] at a63
          refine ⟨rfl, nb rfl, m_falls n6 ms.men rs ao'.gp hm ms.shade (fun m_s rs => ?_)⟩
          exact a63 m_s m_g _ _ _ _ rs (fol_ok (z := z) (vb := 3) (b := 0) so (fun _ => hm) (fun y => absurd y (by decide)) ao') (by show B.t < 2 ^ 31; omega) rfl hs
      · rw [if_pos q2] at a63
        refine ⟨rfl, nb rfl, m_docks0 n6 ms.men rs ms.kind ms.harbour (fun m_s rs => ?_)⟩
        refine xgo [63] 40 ?_
        refine pk_ne (vl (nx (nx (nx sd))) 20) 1 (fun q3 => ?_) (fun q3 => by omega) rfl rfl (by omega) (by omega)
        exact a63 m_s m_g _ _ _ _ rs (fol_ok (z := z) (vb := 5) (m := 0) (b := 0) so (fun y => absurd y (by decide)) (fun y => absurd y (by decide)) ao') (by show B.t < 2 ^ 31; omega) rfl hs
    refine pk_ne (vl (nx (nx sd)) (p + 1)) p (fun q2 => ?_) (fun q2 => ?_) rfl ms.posts (by omega) (by omega)
    · have q2 : vl (nx (nx sd)) (p + 1) < p := by omega
      rw [if_pos q2] at a49
      refine ⟨rfl, nb rfl, m_canStand n6 ms.men rs hm (by omega) (ms.holds _ q2) ?_⟩
      refine vB0 (fun q3 => ?_) (fun q3 => ?_)
      · exact a49 m_s A rs ao rfl (by rw [folA, if_pos rfl, if_neg q3])
      · refine ⟨show vp_in (Int32.ofInt 8 + nI (vl (nx sd) n)) 14 from i8 _ ▸ vp_in_nI (by omega) (by omega), ?_⟩
        rw [i8, nI_clamp (by omega), st_s]
        have e : (folA ship n z 0 (vl (nx sd) n) (vl (nx (nx sd)) (p + 1)) A).2 = (A.g, upd A.p (vl (nx sd) n) (nI (vl (nx (nx sd)) (p + 1))), A.su, A.t) := by rw [folA, if_pos rfl, if_pos q3]
        refine a49 _ _ (RS.setP rs hm n6 rfl) ?_ rfl e
        rw [← e]
        exact fol_ok so (fun _ => hm) (fun _ => q2) ao
    · rw [if_neg (by omega)] at a49
      refine ⟨show vp_in (Int32.ofInt 8 + nI (vl (nx sd) n)) 14 from i8 _ ▸ vp_in_nI (by omega) (by omega), ?_⟩
      rw [i8, nI_clamp (by omega), st_s]
      have r := RS.setP (x := Int32.ofInt 0) (y := -1) rs hm n6 (by decide)
      by_cases y : A.p (vl (nx sd) n) = -1
      · refine a49 _ A (r.congr (fun k hk => rfl) (fun k hk => ?_) rfl rfl) ao rfl (by rw [folA, if_neg (by decide), if_pos rfl, if_pos y])
        show upd A.p (vl (nx sd) n) (-1) k = A.p k
        by_cases y2 : k = vl (nx sd) n
        · rw [y2, pk_us, y]
        · rw [pk_un y2]
      · have e : (folA ship n z 1 (vl (nx sd) n) 0 A).2 = (A.g, upd A.p (vl (nx sd) n) (-1), A.su, A.t) := by rw [folA, if_neg (by decide), if_pos rfl, if_neg y]
        refine a49 _ _ r ?_ rfl e
        rw [← e]
        exact fol_ok so (fun _ => hm) (fun y => absurd y (by decide)) ao
theorem m_voyages {xs' xw what : Int32} (nv : NX nx vl) (so : ShOk ship n p z) (ms : MS ship n p z m_ship m_kind m_greenTold m_hands m_spray m_holds m_sea m_lineFrom m_lineTo m_codes m_manName m_postName) (rs : RS m_s n A) (ao : AOk A n p) (ht : A.t < 2 ^ 30) (hod : m_odd = -1) (h1 : ∀ sd w, sd ≤ 9999 → 1 ≤ w → w ≤ 99 → xs' = nI sd → xw = nI w → 0 ≤ what ∧ what ≤ 2 → ∀ m_s m_aside m_g m_kept m_keptBy m_ahead m_against m_sum m_sumBy m_term m_termBy m_byNot m_valueOf m_more, RS m_s n A → Q (some (.int (if what = 0 then nI (turnsI (fun j => capt (saiA nx vl ship n p z A sd j).1.g n) w) else if what = 1 then capt (saiA nx vl ship n p z A sd w).1.g n else sumF (saiA nx vl ship n p z A sd w).1.g n))) (clsW pn pc tok ship nn tl draft vd log trial sta says seed past marks (mdlX 0 m_taped m_size m_place m_begin m_token m_word m_told m_wrong m_code m_toldLines m_given m_fresh m_done m_odd m_bestRank m_leastSpray m_g m_tape m_ship m_manName m_postName m_kind m_greenTold m_hands m_spray m_holds m_sea m_lineFrom m_lineTo m_codes m_opened m_compared m_kept m_keptBy m_ahead m_against m_sum m_sumBy m_term m_termBy m_byNot m_valueOf m_lines m_lineWhat m_lineA m_lineB m_seens m_seenMan m_seenOther m_seenAt m_seenGreener m_s m_aside m_before m_marked m_undone m_isLaid m_more m_row m_bestRow m_greenerBy K))) (h0 : ¬ ((0 ≤ xs' ∧ xs' ≤ 9999) ∧ (1 ≤ xw ∧ xw ≤ 99) ∧ 0 ≤ what ∧ what ≤ 2) → Q (some (.int (-2))) (clsW pn pc tok ship nn tl draft vd log trial sta says seed past marks (mdlX 0 m_taped m_size m_place m_begin m_token m_word m_told m_wrong m_code m_toldLines m_given m_fresh m_done m_odd m_bestRank m_leastSpray m_g m_tape m_ship m_manName m_postName m_kind m_greenTold m_hands m_spray m_holds m_sea m_lineFrom m_lineTo m_codes m_opened m_compared m_kept m_keptBy m_ahead m_against m_sum m_sumBy m_term m_termBy m_byNot m_valueOf m_lines m_lineWhat m_lineA m_lineB m_seens m_seenMan m_seenOther m_seenAt m_seenGreener m_s m_aside m_before m_marked m_undone m_isLaid m_more m_row m_bestRow m_greenerBy K))) : XC (xF L xs) xmeths (d + 7) 260 [.ref 169, .int xs', .int xw, .int what] (clsW pn pc tok ship nn tl draft vd log trial sta says seed past marks (mdlX m_thrown m_taped m_size m_place m_begin m_token m_word m_told m_wrong m_code m_toldLines m_given m_fresh m_done m_odd m_bestRank m_leastSpray m_g m_tape m_ship m_manName m_postName m_kind m_greenTold m_hands m_spray m_holds m_sea m_lineFrom m_lineTo m_codes m_opened m_compared m_kept m_keptBy m_ahead m_against m_sum m_sumBy m_term m_termBy m_byNot m_valueOf m_lines m_lineWhat m_lineA m_lineB m_seens m_seenMan m_seenOther m_seenAt m_seenGreener m_s m_aside m_before m_marked m_undone m_isLaid m_more m_row m_bestRow m_greenerBy K)) Q := by
  have n6 := so.n6
  have a18 : ¬ ((0 ≤ xs' ∧ xs' ≤ 9999) ∧ (1 ≤ xw ∧ xw ≤ 99) ∧ 0 ≤ what ∧ what ≤ 2) → XWp (xF L xs) (some .int) xP260 (XC (xF L xs) xmeths (d + 6)) Q 18 [orf 169, oi xs', oi xw, oi what, none, none, none] [] (clsW pn pc tok ship nn tl draft vd log trial sta says seed past marks (mdlX 0 m_taped m_size m_place m_begin m_token m_word m_told m_wrong m_code m_toldLines m_given m_fresh m_done m_odd m_bestRank m_leastSpray m_g m_tape m_ship m_manName m_postName m_kind m_greenTold m_hands m_spray m_holds m_sea m_lineFrom m_lineTo m_codes m_opened m_compared m_kept m_keptBy m_ahead m_against m_sum m_sumBy m_term m_termBy m_byNot m_valueOf m_lines m_lineWhat m_lineA m_lineB m_seens m_seenMan m_seenOther m_seenAt m_seenGreener m_s m_aside m_before m_marked m_undone m_isLaid m_more m_row m_bestRow m_greenerBy K)) := fun q => xgo [] 10 (h0 q)
  refine ⟨nb rfl, xgo [2] 20 (xp_thrown rfl (xgo [18, 23] 60 ⟨rfl, nb rfl, m_within ?_⟩))⟩
  refine vB0 (fun q => a18 (fun y => q y.1)) (fun q1 => ⟨rfl, nb rfl, m_within ?_⟩)
  refine vB0 (fun q => a18 (fun y => q y.2.1)) (fun q2 => ⟨rfl, nb rfl, m_within ?_⟩)
  refine vB1 (fun q3 => ?_) (fun q => a18 (fun y => q y.2.2))
  rcases wiN (m := 9999) (by omega) q1 with ⟨sd, hsd, rfl⟩
  rcases wiN (m := 99) (by omega) ⟨Int32.le_trans (by decide) q2.1, q2.2⟩ with ⟨w, hw, rfl⟩
  have hw1 : 1 ≤ w := by
    rcases Nat.eq_zero_or_pos w with rfl | y
    · exact absurd q2.1 (by decide)
    · exact y
  have h := h1 sd w hsd hw1 hw rfl rfl q3
  refine xp_g rfl ?_
  rw [nI_l (by omega)]
  refine xgo [38] 60 ⟨rfl, nb rfl, m_saveA n6 rs (fun m_aside ra => ⟨nb rfl, rfl, nb rfl, m_captainNow n6 ms.men rs ⟨nb rfl, nb rfl, ?_⟩⟩)⟩
  refine up_to (P := fun j => ∀ m_s m_g m_kept m_keptBy m_ahead m_against m_sum m_sumBy m_term m_termBy m_byNot m_valueOf m_more, RS m_s n (saiA nx vl ship n p z A sd j).1 → m_g = lN (saiA nx vl ship n p z A sd j).2 → XWp (xF L xs) (some .int) xP260 (XC (xF L xs) xmeths (d + 6)) Q 38 [orf 169, oi (nI sd), oi (nI w), oi what, oi (nI (turnsI (fun j => capt (saiA nx vl ship n p z A sd j).1.g n) j)), oi (capt (saiA nx vl ship n p z A sd j).1.g n), oi (nI j)] [] (clsW pn pc tok ship nn tl draft vd log trial sta says seed past marks (mdlX 0 m_taped m_size m_place m_begin m_token m_word m_told m_wrong m_code m_toldLines m_given m_fresh m_done m_odd m_bestRank m_leastSpray m_g m_tape m_ship m_manName m_postName m_kind m_greenTold m_hands m_spray m_holds m_sea m_lineFrom m_lineTo m_codes m_opened m_compared m_kept m_keptBy m_ahead m_against m_sum m_sumBy m_term m_termBy m_byNot m_valueOf m_lines m_lineWhat m_lineA m_lineB m_seens m_seenMan m_seenOther m_seenAt m_seenGreener m_s m_aside m_before m_marked m_undone m_isLaid m_more m_row m_bestRow m_greenerBy K))) (n := w) (fun j hj ih m_s m_g m_kept m_keptBy m_ahead m_against m_sum m_sumBy m_term m_termBy m_byNot m_valueOf m_more rs hg => xgo [38] 60 ?_) m_s (lN sd) m_kept m_keptBy m_ahead m_against m_sum m_sumBy m_term m_termBy m_byNot m_valueOf m_more rs rfl
  refine pk_le w j (fun q => ?_) (fun q => ?_) rfl rfl (by omega) (by omega)
  · have e : j = w := by omega
    subst e
    refine ⟨rfl, nb rfl, m_allGreens n6 rs ⟨nb rfl, rfl, nb rfl, m_loadA n6 ra (fun m_s rs => ?_)⟩⟩
    have h := h m_s m_aside m_g m_kept m_keptBy m_ahead m_against m_sum m_sumBy m_term m_termBy m_byNot m_valueOf m_more rs
    refine And.intro (fun (q3 : ¬ what = 0) => ?_) (fun (q3 : ¬ ¬ what = 0) => ?_)
    · rw [if_neg q3] at h
      refine And.intro (fun (q4 : ¬ what = 1) => ?_) (fun (q4 : ¬ ¬ what = 1) => ?_)
      · rw [if_neg q4] at h
        exact h
      · rw [if_pos (Classical.not_not.mp q4)] at h
        exact h
    · rw [if_pos (Classical.not_not.mp q3)] at h
      exact h
  · have ih := ih q
    have ⟨s1, s2, s3⟩ := sai_ok nv (sd := sd) so ao (by omega) j
    have eA : (folA ship n z 4 0 0 (if 0 < n then ordA nx vl ship n p z (saiA nx vl ship n p z A sd j).1 (saiA nx vl ship n p z A sd j).2 else (saiA nx vl ship n p z A sd j).1)).2 = (saiA nx vl ship n p z A sd (j + 1)).1 := by
      simp only [saiA]
      by_cases y : 0 < n
      · rw [if_pos y, if_pos y]
      · rw [if_neg y, if_neg y]
    have eS : (if 0 < n then nx (nx (nx (saiA nx vl ship n p z A sd j).2)) else (saiA nx vl ship n p z A sd j).2) = (saiA nx vl ship n p z A sd (j + 1)).2 := by
      simp only [saiA]
      by_cases y : 0 < n
      · rw [if_pos y, if_pos y]
      · rw [if_neg y, if_neg y]
    refine ⟨rfl, nb rfl, m_livesWatch nv s2 hg so ms rs s1 (by omega) hod (fun m_s m_g m_kept m_keptBy m_ahead m_against m_sum m_sumBy m_term m_termBy m_byNot m_valueOf m_more rs hg => ?_)⟩
    rw [eA] at rs
    rw [eS] at hg
    have ih := ih m_s m_g m_kept m_keptBy m_ahead m_against m_sum m_sumBy m_term m_termBy m_byNot m_valueOf m_more rs hg
    rw [turnsI, nI_succ] at ih
    refine ⟨rfl, nb rfl, m_captainNow n6 ms.men rs ?_⟩
    refine And.intro (fun (q2 : capt (saiA nx vl ship n p z A sd (j + 1)).1.g n = capt (saiA nx vl ship n p z A sd j).1.g n) => ?_) (fun (q2 : ¬ capt (saiA nx vl ship n p z A sd (j + 1)).1.g n = capt (saiA nx vl ship n p z A sd j).1.g n) => ?_)
    · rw [if_pos q2] at ih
      refine ⟨nb rfl, ?_⟩
      rw [show Int32.ofInt 0 = 0 from rfl, Int32.add_zero]
      exact ⟨rfl, nb rfl, m_captainNow n6 ms.men rs ⟨nb rfl, ih⟩⟩
    · rw [if_neg q2, nI_succ] at ih
      exact ⟨nb rfl, rfl, nb rfl, m_captainNow n6 ms.men rs ⟨nb rfl, ih⟩⟩
end XMZ
