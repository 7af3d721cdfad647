/-! the reference: tokens -/
abbrev MkR (a_token a_begin a_place a_told : Int32) (a_word : Int64) (C : Nat → Nat) (l s : Nat) : Prop := (a_token = nI (tkK C l s)) ∧ (a_begin = nI s) ∧ (a_place = nI (tkE C l s)) ∧ (tkK C l s = 2 → a_told = nI (numN C s (tkE C l s - s))) ∧ (tkK C l s = 1 → a_word = lN (wrd C s (tkE C l s - s)))
theorem MkR.token {a_token a_begin a_place a_told : Int32} {a_word : Int64} {C : Nat → Nat} {l s : Nat} (h : MkR a_token a_begin a_place a_told a_word C l s) : a_token = nI (tkK C l s) := h.1
theorem MkR.begin {a_token a_begin a_place a_told : Int32} {a_word : Int64} {C : Nat → Nat} {l s : Nat} (h : MkR a_token a_begin a_place a_told a_word C l s) : a_begin = nI s := h.2.1
theorem MkR.place {a_token a_begin a_place a_told : Int32} {a_word : Int64} {C : Nat → Nat} {l s : Nat} (h : MkR a_token a_begin a_place a_told a_word C l s) : a_place = nI (tkE C l s) := h.2.2.1
theorem MkR.told {a_token a_begin a_place a_told : Int32} {a_word : Int64} {C : Nat → Nat} {l s : Nat} (h : MkR a_token a_begin a_place a_told a_word C l s) : tkK C l s = 2 → a_told = nI (numN C s (tkE C l s - s)) := h.2.2.2.1
theorem MkR.word {a_token a_begin a_place a_told : Int32} {a_word : Int64} {C : Nat → Nat} {l s : Nat} (h : MkR a_token a_begin a_place a_told a_word C l s) : tkK C l s = 1 → a_word = lN (wrd C s (tkE C l s - s)) := h.2.2.2.2
section XMX
variable {L : Nat} {xs : Nat → Int32} {d : Nat} {Q : XQt} {pn pc : Int32} {tok : TTok} {ship : TShip} {nn : Int64} {tl : Int32} {draft : TShip} {vd : TVoy} {log : TLog} {trial : TCrew} {sta : TSta} {says : Fn} {seed : Int64} {past : Nat → TCrew} {marks : Nat → TLog} {K : XWd}
variable {m_thrown : Int32} {m_taped : Int32} {m_size : Int32} {m_place : Int32} {m_begin : Int32} {m_token : Int32} {m_word : Int64} {m_told : Int32} {m_wrong : Int32} {m_code : Int32} {m_toldLines : Int32} {m_given : Int32} {m_fresh : Int64} {m_done : Int32} {m_odd : Int32} {m_bestRank : Int32} {m_leastSpray : Int32} {m_g : Int64} {m_tape : Fn} {m_ship : Fn} {m_manName : Fl} {m_postName : Fl} {m_kind : Fn} {m_greenTold : Fn} {m_hands : Fn} {m_spray : Fn} {m_holds : Fn} {m_sea : Fn} {m_lineFrom : Fn} {m_lineTo : Fn} {m_codes : Fn} {m_opened : Fn} {m_compared : Fn} {m_kept : Fn} {m_keptBy : Fn} {m_ahead : Fn} {m_against : Fn} {m_sum : Fn} {m_sumBy : Fn} {m_term : Fn} {m_termBy : Fn} {m_byNot : Fn} {m_valueOf : Fn} {m_lines : Fn} {m_lineWhat : Fn} {m_lineA : Fn} {m_lineB : Fn} {m_seens : Fn} {m_seenMan : Fn} {m_seenOther : Fn} {m_seenAt : Fn} {m_seenGreener : Fn} {m_s : Fn} {m_aside : Fn} {m_before : Fn} {m_marked : Fn} {m_undone : Fn} {m_isLaid : Fn} {m_more : Fn} {m_row : Fn} {m_bestRow : Fn} {m_greenerBy : Fl}
variable {C : Nat → Nat} {l s : Nat}
theorem m_signAt {i : Nat} {x : Int32} (hx : x = nI i) (hs : m_size = nI l) (l1 : l ≤ 1000) (rp : RpC m_tape C l) (hi : i ≤ l) (h : Q (some (.int (nI (if i < l then C i else 0)))) (clsW pn pc tok ship nn tl draft vd log trial sta says seed past marks (mdlX m_thrown m_taped m_size m_place m_begin m_token m_word m_told m_wrong m_code m_toldLines m_given m_fresh m_done m_odd m_bestRank m_leastSpray m_g m_tape m_ship m_manName m_postName m_kind m_greenTold m_hands m_spray m_holds m_sea m_lineFrom m_lineTo m_codes m_opened m_compared m_kept m_keptBy m_ahead m_against m_sum m_sumBy m_term m_termBy m_byNot m_valueOf m_lines m_lineWhat m_lineA m_lineB m_seens m_seenMan m_seenOther m_seenAt m_seenGreener m_s m_aside m_before m_marked m_undone m_isLaid m_more m_row m_bestRow m_greenerBy K))) : XC (xF L xs) xmeths (d + 1) 174 [.ref 169, .int x] (clsW pn pc tok ship nn tl draft vd log trial sta says seed past marks (mdlX m_thrown m_taped m_size m_place m_begin m_token m_word m_told m_wrong m_code m_toldLines m_given m_fresh m_done m_odd m_bestRank m_leastSpray m_g m_tape m_ship m_manName m_postName m_kind m_greenTold m_hands m_spray m_holds m_sea m_lineFrom m_lineTo m_codes m_opened m_compared m_kept m_keptBy m_ahead m_against m_sum m_sumBy m_term m_termBy m_byNot m_valueOf m_lines m_lineWhat m_lineA m_lineB m_seens m_seenMan m_seenOther m_seenAt m_seenGreener m_s m_aside m_before m_marked m_undone m_isLaid m_more m_row m_bestRow m_greenerBy K)) Q := by
  subst hx
  refine ⟨nb rfl, xgo [] 20 ?_⟩
  refine pk_le l i (fun q => ?_) (fun q => ?_) hs rfl (by omega) (by omega)
  · rw [if_neg (by omega)] at h
    exact h
  · rw [if_pos q, ← (rp i q).1] at h
    refine ⟨vp_in_nI (by omega) (by omega), ?_⟩
    rw [nI_clamp (by omega)]
    exact h
theorem m_nextToken {pp : Nat} (hs : m_size = nI l) (l1 : l ≤ 1000) (rp : RpC m_tape C l) (hp : m_place = nI pp) (pl : pp ≤ l) (h : ∀ m_place m_begin m_token m_word m_told, MkR m_token m_begin m_place m_told m_word C l (tkS C l pp) → Q none (clsW pn pc tok ship nn tl draft vd log trial sta says seed past marks (mdlX m_thrown m_taped m_size m_place m_begin m_token m_word m_told m_wrong m_code m_toldLines m_given m_fresh m_done m_odd m_bestRank m_leastSpray m_g m_tape m_ship m_manName m_postName m_kind m_greenTold m_hands m_spray m_holds m_sea m_lineFrom m_lineTo m_codes m_opened m_compared m_kept m_keptBy m_ahead m_against m_sum m_sumBy m_term m_termBy m_byNot m_valueOf m_lines m_lineWhat m_lineA m_lineB m_seens m_seenMan m_seenOther m_seenAt m_seenGreener m_s m_aside m_before m_marked m_undone m_isLaid m_more m_row m_bestRow m_greenerBy K))) : XC (xF L xs) xmeths (d + 2) 173 [.ref 169] (clsW pn pc tok ship nn tl draft vd log trial sta says seed past marks (mdlX m_thrown m_taped m_size m_place m_begin m_token m_word m_told m_wrong m_code m_toldLines m_given m_fresh m_done m_odd m_bestRank m_leastSpray m_g m_tape m_ship m_manName m_postName m_kind m_greenTold m_hands m_spray m_holds m_sea m_lineFrom m_lineTo m_codes m_opened m_compared m_kept m_keptBy m_ahead m_against m_sum m_sumBy m_term m_termBy m_byNot m_valueOf m_lines m_lineWhat m_lineA m_lineB m_seens m_seenMan m_seenOther m_seenAt m_seenGreener m_s m_aside m_before m_marked m_undone m_isLaid m_more m_row m_bestRow m_greenerBy K)) Q := by
  have fin : ∀ m_place s, m_place = nI s → s ≤ l → tkS C l pp = s → XWp (xF L xs) none xP173 (XC (xF L xs) xmeths (d + 1)) Q 26 [orf 169, none] [] (clsW pn pc tok ship nn tl draft vd log trial sta says seed past marks (mdlX m_thrown m_taped m_size m_place m_begin m_token m_word m_told m_wrong m_code m_toldLines m_given m_fresh m_done m_odd m_bestRank m_leastSpray m_g m_tape m_ship m_manName m_postName m_kind m_greenTold m_hands m_spray m_holds m_sea m_lineFrom m_lineTo m_codes m_opened m_compared m_kept m_keptBy m_ahead m_against m_sum m_sumBy m_term m_termBy m_byNot m_valueOf m_lines m_lineWhat m_lineA m_lineB m_seens m_seenMan m_seenOther m_seenAt m_seenGreener m_s m_aside m_before m_marked m_undone m_isLaid m_more m_row m_bestRow m_greenerBy K)) := by
    intro m_place s ep hsl hS
    subst ep
    rw [hS] at h
    refine xgo [29] 20 (xp_begin rfl (xgo [32] 20 (xp_word rfl (xgo [35] 20 (xp_told rfl (xgo [43, 45] 20 ?_))))))
    refine pk_ne s l (fun q => ?_) (fun q => ?_) rfl hs (by omega) (by omega)
    rotate_left
    · have eE : tkE C l s = s := by rw [tkE, if_pos (by omega)]
      have eK : tkK C l s = 0 := by rw [tkK, if_pos (by omega)]
      refine xp_token rfl (xgo [] 20 ⟨rfl, ?_⟩)
      exact h _ _ _ _ _ ⟨by rw [eK]; rfl, rfl, by rw [eE], fun z => by omega, fun z => by omega⟩
    have hsl : s < l := by omega
    have ⟨eT, h128⟩ := rp s hsl
    refine xgo [50] 20 ⟨vp_in_nI (by omega) (by omega), ?_⟩
    rw [nI_clamp (by omega)]
    suffices a50 : ∀ x, x = nI (C s) → XWp (xF L xs) none xP173 (XC (xF L xs) xmeths (d + 1)) Q 50 [orf 169, none] [.int x] (clsW pn pc tok ship nn tl draft vd log trial sta says seed past marks (mdlX m_thrown m_taped m_size (nI s) (nI s) m_token (Int64.ofNat 0) (Int32.ofInt 0) m_wrong m_code m_toldLines m_given m_fresh m_done m_odd m_bestRank m_leastSpray m_g m_tape m_ship m_manName m_postName m_kind m_greenTold m_hands m_spray m_holds m_sea m_lineFrom m_lineTo m_codes m_opened m_compared m_kept m_keptBy m_ahead m_against m_sum m_sumBy m_term m_termBy m_byNot m_valueOf m_lines m_lineWhat m_lineA m_lineB m_seens m_seenMan m_seenOther m_seenAt m_seenGreener m_s m_aside m_before m_marked m_undone m_isLaid m_more m_row m_bestRow m_greenerBy K)) from a50 _ eT
    intro x hx
    subst hx
    have a168 : ¬ ltN (C s) → ¬ dgN (C s) → XWp (xF L xs) none xP173 (XC (xF L xs) xmeths (d + 1)) Q 168 [orf 169, oi (nI (C s))] [] (clsW pn pc tok ship nn tl draft vd log trial sta says seed past marks (mdlX m_thrown m_taped m_size (nI s) (nI s) m_token (Int64.ofNat 0) (Int32.ofInt 0) m_wrong m_code m_toldLines m_given m_fresh m_done m_odd m_bestRank m_leastSpray m_g m_tape m_ship m_manName m_postName m_kind m_greenTold m_hands m_spray m_holds m_sea m_lineFrom m_lineTo m_codes m_opened m_compared m_kept m_keptBy m_ahead m_against m_sum m_sumBy m_term m_termBy m_byNot m_valueOf m_lines m_lineWhat m_lineA m_lineB m_seens m_seenMan m_seenOther m_seenAt m_seenGreener m_s m_aside m_before m_marked m_undone m_isLaid m_more m_row m_bestRow m_greenerBy K)) := by
      intro y1 y2
      have eE : tkE C l s = s + 1 := by rw [tkE, if_neg (by omega), if_neg y1, if_neg y2]
      have eK : tkK C l s = if sgN (C s) then 3 else 4 := by rw [tkK, if_neg (by omega), if_neg y1, if_neg y2]
      have hk34 : tkK C l s = 3 ∨ tkK C l s = 4 := by rw [eK]; split <;> omega
      refine xgo [173] 20 (xp_place rfl (xgo [181, 190, 192, 193] 40 ?_))
      have a193 : ∀ kd : Nat, kd = tkK C l s → XWp (xF L xs) none xP173 (XC (xF L xs) xmeths (d + 1)) Q 193 [orf 169, oi (nI (C s))] [.int (nI kd), .ref 169] (clsW pn pc tok ship nn tl draft vd log trial sta says seed past marks (mdlX m_thrown m_taped m_size (nI s + Int32.ofInt 1) (nI s) m_token (Int64.ofNat 0) (Int32.ofInt 0) m_wrong m_code m_toldLines m_given m_fresh m_done m_odd m_bestRank m_leastSpray m_g m_tape m_ship m_manName m_postName m_kind m_greenTold m_hands m_spray m_holds m_sea m_lineFrom m_lineTo m_codes m_opened m_compared m_kept m_keptBy m_ahead m_against m_sum m_sumBy m_term m_termBy m_byNot m_valueOf m_lines m_lineWhat m_lineA m_lineB m_seens m_seenMan m_seenOther m_seenAt m_seenGreener m_s m_aside m_before m_marked m_undone m_isLaid m_more m_row m_bestRow m_greenerBy K)) := by
        intro kd hkd
        refine xp_token rfl (xgo [] 20 ⟨rfl, ?_⟩)
        exact h _ _ _ _ _ ⟨by rw [hkd], rfl, by rw [eE, nI_succ]; rfl, fun z => by omega, fun z => by omega⟩
      have a190 : sgN (C s) → XWp (xF L xs) none xP173 (XC (xF L xs) xmeths (d + 1)) Q 190 [orf 169, oi (nI (C s))] [.ref 169] (clsW pn pc tok ship nn tl draft vd log trial sta says seed past marks (mdlX m_thrown m_taped m_size (nI s + Int32.ofInt 1) (nI s) m_token (Int64.ofNat 0) (Int32.ofInt 0) m_wrong m_code m_toldLines m_given m_fresh m_done m_odd m_bestRank m_leastSpray m_g m_tape m_ship m_manName m_postName m_kind m_greenTold m_hands m_spray m_holds m_sea m_lineFrom m_lineTo m_codes m_opened m_compared m_kept m_keptBy m_ahead m_against m_sum m_sumBy m_term m_termBy m_byNot m_valueOf m_lines m_lineWhat m_lineA m_lineB m_seens m_seenMan m_seenOther m_seenAt m_seenGreener m_s m_aside m_before m_marked m_undone m_isLaid m_more m_row m_bestRow m_greenerBy K)) := fun y => xgo [193] 20 (a193 3 (by rw [eK, if_pos y]))
      have a192 : ¬ sgN (C s) → XWp (xF L xs) none xP173 (XC (xF L xs) xmeths (d + 1)) Q 192 [orf 169, oi (nI (C s))] [.ref 169] (clsW pn pc tok ship nn tl draft vd log trial sta says seed past marks (mdlX m_thrown m_taped m_size (nI s + Int32.ofInt 1) (nI s) m_token (Int64.ofNat 0) (Int32.ofInt 0) m_wrong m_code m_toldLines m_given m_fresh m_done m_odd m_bestRank m_leastSpray m_g m_tape m_ship m_manName m_postName m_kind m_greenTold m_hands m_spray m_holds m_sea m_lineFrom m_lineTo m_codes m_opened m_compared m_kept m_keptBy m_ahead m_against m_sum m_sumBy m_term m_termBy m_byNot m_valueOf m_lines m_lineWhat m_lineA m_lineB m_seens m_seenMan m_seenOther m_seenAt m_seenGreener m_s m_aside m_before m_marked m_undone m_isLaid m_more m_row m_bestRow m_greenerBy K)) := fun y => xgo [193] 20 (a193 4 (by rw [eK, if_neg y]))
      have a181 : ¬ (40 ≤ C s ∧ C s ≤ 43) → XWp (xF L xs) none xP173 (XC (xF L xs) xmeths (d + 1)) Q 181 [orf 169, oi (nI (C s))] [.ref 169] (clsW pn pc tok ship nn tl draft vd log trial sta says seed past marks (mdlX m_thrown m_taped m_size (nI s + Int32.ofInt 1) (nI s) m_token (Int64.ofNat 0) (Int32.ofInt 0) m_wrong m_code m_toldLines m_given m_fresh m_done m_odd m_bestRank m_leastSpray m_g m_tape m_ship m_manName m_postName m_kind m_greenTold m_hands m_spray m_holds m_sea m_lineFrom m_lineTo m_codes m_opened m_compared m_kept m_keptBy m_ahead m_against m_sum m_sumBy m_term m_termBy m_byNot m_valueOf m_lines m_lineWhat m_lineA m_lineB m_seens m_seenMan m_seenOther m_seenAt m_seenGreener m_s m_aside m_before m_marked m_undone m_isLaid m_more m_row m_bestRow m_greenerBy K)) := by
        intro y3
        refine xgo [190, 192] 20 ?_
        refine pk_eq (C s) 45 (fun z => a190 (Or.inr (Or.inl z))) (fun z => ?_) rfl rfl (by omega) (by omega)
        refine pk_lt (C s) 59 (fun z2 => a192 (fun w => by omega)) (fun z2 => ?_) rfl rfl (by omega) (by omega)
        exact pk_lt 61 (C s) (fun z3 => a192 (fun w => by omega)) (fun z3 => a190 (Or.inr (Or.inr ⟨z2, z3⟩))) rfl rfl (by omega) (by omega)
      refine pk_lt (C s) 40 (fun z => a181 (fun w => by omega)) (fun z => ?_) rfl rfl (by omega) (by omega)
      exact pk_le (C s) 43 (fun z2 => a190 (Or.inl ⟨z, z2⟩)) (fun z2 => a181 (fun w => by omega)) rfl rfl (by omega) (by omega)
    have a110 : ¬ ltN (C s) → XWp (xF L xs) none xP173 (XC (xF L xs) xmeths (d + 1)) Q 110 [orf 169, oi (nI (C s))] [] (clsW pn pc tok ship nn tl draft vd log trial sta says seed past marks (mdlX m_thrown m_taped m_size (nI s) (nI s) m_token (Int64.ofNat 0) (Int32.ofInt 0) m_wrong m_code m_toldLines m_given m_fresh m_done m_odd m_bestRank m_leastSpray m_g m_tape m_ship m_manName m_postName m_kind m_greenTold m_hands m_spray m_holds m_sea m_lineFrom m_lineTo m_codes m_opened m_compared m_kept m_keptBy m_ahead m_against m_sum m_sumBy m_term m_termBy m_byNot m_valueOf m_lines m_lineWhat m_lineA m_lineB m_seens m_seenMan m_seenOther m_seenAt m_seenGreener m_s m_aside m_before m_marked m_undone m_isLaid m_more m_row m_bestRow m_greenerBy K)) := by
      intro y1
      refine xgo [116, 168] 20 ?_
      refine pk_lt (C s) 48 (fun q2 => a168 y1 (fun y => by omega)) (fun q2 => ?_) rfl rfl (by omega) (by omega)
      refine pk_lt 57 (C s) (fun q3 => a168 y1 (fun y => by omega)) (fun q3 => ?_) rfl rfl (by omega) (by omega)
      have y2 : dgN (C s) := ⟨q2, q3⟩
      have eE : tkE C l s = rnE (fun k => decide (dgN (C k))) (l - s) s := by rw [tkE, if_neg (by omega), if_neg y1, if_pos y2]
      have eK : tkK C l s = if rnE (fun k => decide (dgN (C k))) (l - s) s - s ≤ 4 then 2 else 4 := by rw [tkK, if_neg (by omega), if_neg y1, if_pos y2, eE]
      have out : ∀ i td, s ≤ i → i ≤ l → rnE (fun k => decide (dgN (C k))) (l - s) s = i → td = nI (numN C s (min (i - s) 4)) → XWp (xF L xs) none xP173 (XC (xF L xs) xmeths (d + 1)) Q 155 [orf 169, oi (nI (C s))] [] (clsW pn pc tok ship nn tl draft vd log trial sta says seed past marks (mdlX m_thrown m_taped m_size (nI i) (nI s) m_token (Int64.ofNat 0) td m_wrong m_code m_toldLines m_given m_fresh m_done m_odd m_bestRank m_leastSpray m_g m_tape m_ship m_manName m_postName m_kind m_greenTold m_hands m_spray m_holds m_sea m_lineFrom m_lineTo m_codes m_opened m_compared m_kept m_keptBy m_ahead m_against m_sum m_sumBy m_term m_termBy m_byNot m_valueOf m_lines m_lineWhat m_lineA m_lineB m_seens m_seenMan m_seenOther m_seenAt m_seenGreener m_s m_aside m_before m_marked m_undone m_isLaid m_more m_row m_bestRow m_greenerBy K)) := by
        intro i td hsi hil hE ht
        subst ht
        have e : nI i - nI s = nI (i - s) := pk_sub hsi
        rw [hE] at eE eK
        refine xgo [166] 40 ?_
        refine pk_le (i - s) 4 (fun z => ?_) (fun z => ?_) e rfl (by omega) (by omega)
        · refine xp_token rfl (xgo [] 20 ⟨rfl, ?_⟩)
          refine h _ _ _ _ _ ⟨by rw [eK, if_pos z]; rfl, rfl, by rw [eE], fun _ => by rw [eE, show min (i - s) 4 = i - s by omega], fun w => by rw [eK, if_pos z] at w; omega⟩
        · refine xp_token rfl (xgo [] 20 ⟨rfl, ?_⟩)
          refine h _ _ _ _ _ ⟨by rw [eK, if_neg (by omega)]; rfl, rfl, by rw [eE], fun w => by rw [eK, if_neg (by omega)] at w; omega, fun w => by rw [eK, if_neg (by omega)] at w; omega⟩
      have key : ∀ m i td, i + m = l → s ≤ i → rnE (fun k => decide (dgN (C k))) (l - s) s = rnE (fun k => decide (dgN (C k))) m i → td = nI (numN C s (min (i - s) 4)) → XWp (xF L xs) none xP173 (XC (xF L xs) xmeths (d + 1)) Q 116 [orf 169, oi (nI (C s))] [] (clsW pn pc tok ship nn tl draft vd log trial sta says seed past marks (mdlX m_thrown m_taped m_size (nI i) (nI s) m_token (Int64.ofNat 0) td m_wrong m_code m_toldLines m_given m_fresh m_done m_odd m_bestRank m_leastSpray m_g m_tape m_ship m_manName m_postName m_kind m_greenTold m_hands m_spray m_holds m_sea m_lineFrom m_lineTo m_codes m_opened m_compared m_kept m_keptBy m_ahead m_against m_sum m_sumBy m_term m_termBy m_byNot m_valueOf m_lines m_lineWhat m_lineA m_lineB m_seens m_seenMan m_seenOther m_seenAt m_seenGreener m_s m_aside m_before m_marked m_undone m_isLaid m_more m_row m_bestRow m_greenerBy K)) := by
        intro m
        induction m with
        | zero =>
          intro i td him hsi hE ht
          rw [rnE] at hE
          refine xgo [155] 20 ⟨rfl, nb rfl, m_signAt rfl hs l1 rp (by omega) ?_⟩
          rw [if_neg (by omega)]
          exact vTd rfl (out i td hsi (by omega) hE ht)
        | succ m ih =>
          intro i td him hsi hE ht
          have ⟨eT, h128⟩ := rp i (by omega)
          have no : ¬ dgN (C i) → XWp (xF L xs) none xP173 (XC (xF L xs) xmeths (d + 1)) Q 155 [orf 169, oi (nI (C s))] [] (clsW pn pc tok ship nn tl draft vd log trial sta says seed past marks (mdlX m_thrown m_taped m_size (nI i) (nI s) m_token (Int64.ofNat 0) td m_wrong m_code m_toldLines m_given m_fresh m_done m_odd m_bestRank m_leastSpray m_g m_tape m_ship m_manName m_postName m_kind m_greenTold m_hands m_spray m_holds m_sea m_lineFrom m_lineTo m_codes m_opened m_compared m_kept m_keptBy m_ahead m_against m_sum m_sumBy m_term m_termBy m_byNot m_valueOf m_lines m_lineWhat m_lineA m_lineB m_seens m_seenMan m_seenOther m_seenAt m_seenGreener m_s m_aside m_before m_marked m_undone m_isLaid m_more m_row m_bestRow m_greenerBy K)) := by
            intro y
            rw [rnE, if_neg (by simpa using y)] at hE
            exact out i td hsi (by omega) hE ht
          refine xgo [147, 148, 155] 60 ⟨rfl, nb rfl, m_signAt rfl hs l1 rp (by omega) ?_⟩
          rw [if_pos (by omega)]
          refine pk_lt (C i) 48 (fun z => no (fun y => by omega)) (fun z => ⟨rfl, nb rfl, m_signAt rfl hs l1 rp (by omega) ?_⟩) rfl rfl (by omega) (by omega)
          rw [if_pos (by omega)]
          refine pk_lt 57 (C i) (fun z2 => no (fun y => by omega)) (fun z2 => ?_) rfl rfl (by omega) (by omega)
          have nx : ∀ td', td' = nI (numN C s (min (i + 1 - s) 4)) → XWp (xF L xs) none xP173 (XC (xF L xs) xmeths (d + 1)) Q 148 [orf 169, oi (nI (C s))] [] (clsW pn pc tok ship nn tl draft vd log trial sta says seed past marks (mdlX m_thrown m_taped m_size (nI i) (nI s) m_token (Int64.ofNat 0) td' m_wrong m_code m_toldLines m_given m_fresh m_done m_odd m_bestRank m_leastSpray m_g m_tape m_ship m_manName m_postName m_kind m_greenTold m_hands m_spray m_holds m_sea m_lineFrom m_lineTo m_codes m_opened m_compared m_kept m_keptBy m_ahead m_against m_sum m_sumBy m_term m_termBy m_byNot m_valueOf m_lines m_lineWhat m_lineA m_lineB m_seens m_seenMan m_seenOther m_seenAt m_seenGreener m_s m_aside m_before m_marked m_undone m_isLaid m_more m_row m_bestRow m_greenerBy K)) := by
            intro td' ht'
            refine xgo [153] 20 (xp_place rfl (xgo [116] 20 ?_))
            have ih := ih (i + 1) td' (by omega) (by omega) (by rw [hE, rnE, if_pos (by simpa using ⟨z, z2⟩)]) ht'
            rw [nI_succ] at ih
            exact ih
          have e : nI i - nI s = nI (i - s) := pk_sub hsi
          refine pk_le 4 (i - s) (fun z3 => nx td (by rw [ht, show min (i - s) 4 = 4 by omega, show min (i + 1 - s) 4 = 4 by omega])) (fun z3 => ?_) rfl e (by omega) (by omega)
          refine ⟨rfl, nb rfl, m_signAt rfl hs l1 rp (by omega) ?_⟩
          rw [if_pos (by omega)]
          refine xp_told rfl (nx _ ?_)
          rw [ht, show min (i - s) 4 = i - s by omega, show min (i + 1 - s) 4 = (i - s) + 1 by omega, numN, show s + (i - s) = i by omega, show Int32.ofInt 10 = nI 10 from rfl, show Int32.ofInt 48 = nI 48 from rfl, pk_mul, nI_add, pk_sub (by omega)]
          congr 1
          omega
      exact key (l - s) s (Int32.ofInt 0) (by omega) (Nat.le_refl s) rfl (by rw [Nat.sub_self]; rfl)
    refine xgo [57, 110] 20 ⟨nb rfl, ?_⟩
    refine pk_lt (C s) 97 (fun q2 => a110 (fun y => by omega)) (fun q2 => ?_) rfl rfl (by omega) (by omega)
    refine pk_lt 122 (C s) (fun q3 => a110 (fun y => by omega)) (fun q3 => ?_) rfl rfl (by omega) (by omega)
    have y2 : ltN (C s) := ⟨q2, q3⟩
    have eE : tkE C l s = rnE (fun k => decide (ltN (C k))) (l - s) s := by rw [tkE, if_neg (by omega), if_pos y2]
    have eK : tkK C l s = if rnE (fun k => decide (ltN (C k))) (l - s) s - s ≤ 8 then 1 else 4 := by rw [tkK, if_neg (by omega), if_pos y2, eE]
    have out : ∀ i td, s ≤ i → i ≤ l → rnE (fun k => decide (ltN (C k))) (l - s) s = i → td = lN (wrd C s (min (i - s) 8)) → XWp (xF L xs) none xP173 (XC (xF L xs) xmeths (d + 1)) Q 97 [orf 169, oi (nI (C s))] [] (clsW pn pc tok ship nn tl draft vd log trial sta says seed past marks (mdlX m_thrown m_taped m_size (nI i) (nI s) m_token td (Int32.ofInt 0) m_wrong m_code m_toldLines m_given m_fresh m_done m_odd m_bestRank m_leastSpray m_g m_tape m_ship m_manName m_postName m_kind m_greenTold m_hands m_spray m_holds m_sea m_lineFrom m_lineTo m_codes m_opened m_compared m_kept m_keptBy m_ahead m_against m_sum m_sumBy m_term m_termBy m_byNot m_valueOf m_lines m_lineWhat m_lineA m_lineB m_seens m_seenMan m_seenOther m_seenAt m_seenGreener m_s m_aside m_before m_marked m_undone m_isLaid m_more m_row m_bestRow m_greenerBy K)) := by
      intro i td hsi hil hE ht
      subst ht
      have e : nI i - nI s = nI (i - s) := pk_sub hsi
      rw [hE] at eE eK
      refine xgo [108] 40 ?_
      refine pk_le (i - s) 8 (fun z => ?_) (fun z => ?_) e rfl (by omega) (by omega)
      · refine xp_token rfl (xgo [] 20 ⟨rfl, ?_⟩)
        refine h _ _ _ _ _ ⟨by rw [eK, if_pos z]; rfl, rfl, by rw [eE], fun w => by rw [eK, if_pos z] at w; omega, fun _ => by rw [eE, show min (i - s) 8 = i - s by omega]⟩
      · refine xp_token rfl (xgo [] 20 ⟨rfl, ?_⟩)
        refine h _ _ _ _ _ ⟨by rw [eK, if_neg (by omega)]; rfl, rfl, by rw [eE], fun w => by rw [eK, if_neg (by omega)] at w; omega, fun w => by rw [eK, if_neg (by omega)] at w; omega⟩
    have key : ∀ m i td, i + m = l → s ≤ i → rnE (fun k => decide (ltN (C k))) (l - s) s = rnE (fun k => decide (ltN (C k))) m i → td = lN (wrd C s (min (i - s) 8)) → XWp (xF L xs) none xP173 (XC (xF L xs) xmeths (d + 1)) Q 57 [orf 169, oi (nI (C s))] [] (clsW pn pc tok ship nn tl draft vd log trial sta says seed past marks (mdlX m_thrown m_taped m_size (nI i) (nI s) m_token td (Int32.ofInt 0) m_wrong m_code m_toldLines m_given m_fresh m_done m_odd m_bestRank m_leastSpray m_g m_tape m_ship m_manName m_postName m_kind m_greenTold m_hands m_spray m_holds m_sea m_lineFrom m_lineTo m_codes m_opened m_compared m_kept m_keptBy m_ahead m_against m_sum m_sumBy m_term m_termBy m_byNot m_valueOf m_lines m_lineWhat m_lineA m_lineB m_seens m_seenMan m_seenOther m_seenAt m_seenGreener m_s m_aside m_before m_marked m_undone m_isLaid m_more m_row m_bestRow m_greenerBy K)) := by
      intro m
      induction m with
      | zero =>
        intro i td him hsi hE ht
        rw [rnE] at hE
        refine xgo [97] 20 ⟨rfl, nb rfl, m_signAt rfl hs l1 rp (by omega) ?_⟩
        rw [if_neg (by omega)]
        exact vTd rfl (out i td hsi (by omega) hE ht)
      | succ m ih =>
        intro i td him hsi hE ht
        have ⟨eT, h128⟩ := rp i (by omega)
        have no : ¬ ltN (C i) → XWp (xF L xs) none xP173 (XC (xF L xs) xmeths (d + 1)) Q 97 [orf 169, oi (nI (C s))] [] (clsW pn pc tok ship nn tl draft vd log trial sta says seed past marks (mdlX m_thrown m_taped m_size (nI i) (nI s) m_token td (Int32.ofInt 0) m_wrong m_code m_toldLines m_given m_fresh m_done m_odd m_bestRank m_leastSpray m_g m_tape m_ship m_manName m_postName m_kind m_greenTold m_hands m_spray m_holds m_sea m_lineFrom m_lineTo m_codes m_opened m_compared m_kept m_keptBy m_ahead m_against m_sum m_sumBy m_term m_termBy m_byNot m_valueOf m_lines m_lineWhat m_lineA m_lineB m_seens m_seenMan m_seenOther m_seenAt m_seenGreener m_s m_aside m_before m_marked m_undone m_isLaid m_more m_row m_bestRow m_greenerBy K)) := by
          intro y
          rw [rnE, if_neg (by simpa using y)] at hE
          exact out i td hsi (by omega) hE ht
        refine xgo [89, 90, 97] 60 ⟨rfl, nb rfl, m_signAt rfl hs l1 rp (by omega) ?_⟩
        rw [if_pos (by omega)]
        refine pk_lt (C i) 97 (fun z => no (fun y => by omega)) (fun z => ⟨rfl, nb rfl, m_signAt rfl hs l1 rp (by omega) ?_⟩) rfl rfl (by omega) (by omega)
        rw [if_pos (by omega)]
        refine pk_lt 122 (C i) (fun z2 => no (fun y => by omega)) (fun z2 => ?_) rfl rfl (by omega) (by omega)
        have nx : ∀ td', td' = lN (wrd C s (min (i + 1 - s) 8)) → XWp (xF L xs) none xP173 (XC (xF L xs) xmeths (d + 1)) Q 90 [orf 169, oi (nI (C s))] [] (clsW pn pc tok ship nn tl draft vd log trial sta says seed past marks (mdlX m_thrown m_taped m_size (nI i) (nI s) m_token td' (Int32.ofInt 0) m_wrong m_code m_toldLines m_given m_fresh m_done m_odd m_bestRank m_leastSpray m_g m_tape m_ship m_manName m_postName m_kind m_greenTold m_hands m_spray m_holds m_sea m_lineFrom m_lineTo m_codes m_opened m_compared m_kept m_keptBy m_ahead m_against m_sum m_sumBy m_term m_termBy m_byNot m_valueOf m_lines m_lineWhat m_lineA m_lineB m_seens m_seenMan m_seenOther m_seenAt m_seenGreener m_s m_aside m_before m_marked m_undone m_isLaid m_more m_row m_bestRow m_greenerBy K)) := by
          intro td' ht'
          refine xgo [95] 20 (xp_place rfl (xgo [57] 20 ?_))
          have ih := ih (i + 1) td' (by omega) (by omega) (by rw [hE, rnE, if_pos (by simpa using ⟨z, z2⟩)]) ht'
          rw [nI_succ] at ih
          exact ih
        have e : nI i - nI s = nI (i - s) := pk_sub hsi
        refine pk_le 8 (i - s) (fun z3 => nx td (by rw [ht, show min (i - s) 8 = 8 by omega, show min (i + 1 - s) 8 = 8 by omega])) (fun z3 => ?_) rfl e (by omega) (by omega)
        refine ⟨rfl, nb rfl, m_signAt rfl hs l1 rp (by omega) ?_⟩
        rw [if_pos (by omega)]
        refine xp_word rfl (nx _ ?_)
        rw [ht, show min (i - s) 8 = i - s by omega, show min (i + 1 - s) 8 = (i - s) + 1 by omega, wrd, show s + (i - s) = i by omega, show Int64.ofNat 27 = lN 27 from rfl, show Int64.ofNat 96 = lN 96 from rfl, lN_mul, nI_l (by omega), lN_add, lN_sub (by omega)]
        congr 1
        omega
    exact key (l - s) s (Int64.ofNat 0) (by omega) (Nat.le_refl s) rfl (by rw [Nat.sub_self]; rfl)
  have key : ∀ m i m_place, m_place = nI i → i + m = l → tkS C l pp = rnE (fun k => decide (wsN (C k))) m i → XWp (xF L xs) none xP173 (XC (xF L xs) xmeths (d + 1)) Q 0 [orf 169, none] [] (clsW pn pc tok ship nn tl draft vd log trial sta says seed past marks (mdlX m_thrown m_taped m_size m_place m_begin m_token m_word m_told m_wrong m_code m_toldLines m_given m_fresh m_done m_odd m_bestRank m_leastSpray m_g m_tape m_ship m_manName m_postName m_kind m_greenTold m_hands m_spray m_holds m_sea m_lineFrom m_lineTo m_codes m_opened m_compared m_kept m_keptBy m_ahead m_against m_sum m_sumBy m_term m_termBy m_byNot m_valueOf m_lines m_lineWhat m_lineA m_lineB m_seens m_seenMan m_seenOther m_seenAt m_seenGreener m_s m_aside m_before m_marked m_undone m_isLaid m_more m_row m_bestRow m_greenerBy K)) := by
    intro m
    induction m with
    | zero =>
      intro i m_place ei him hS
      rw [rnE] at hS
      refine xgo [26] 40 ?_
      exact pk_le l i (fun _ => fin m_place i ei (by omega) hS) (fun y => by omega) hs ei (by omega) (by omega)
    | succ m ih =>
      intro i m_place ei him hS
      subst ei
      have ⟨eT, h128⟩ := rp i (by omega)
      have a19 : wsN (C i) → XWp (xF L xs) none xP173 (XC (xF L xs) xmeths (d + 1)) Q 19 [orf 169, none] [] (clsW pn pc tok ship nn tl draft vd log trial sta says seed past marks (mdlX m_thrown m_taped m_size (nI i) m_begin m_token m_word m_told m_wrong m_code m_toldLines m_given m_fresh m_done m_odd m_bestRank m_leastSpray m_g m_tape m_ship m_manName m_postName m_kind m_greenTold m_hands m_spray m_holds m_sea m_lineFrom m_lineTo m_codes m_opened m_compared m_kept m_keptBy m_ahead m_against m_sum m_sumBy m_term m_termBy m_byNot m_valueOf m_lines m_lineWhat m_lineA m_lineB m_seens m_seenMan m_seenOther m_seenAt m_seenGreener m_s m_aside m_before m_marked m_undone m_isLaid m_more m_row m_bestRow m_greenerBy K)) := by
        intro y
        refine xgo [24] 20 (xp_place rfl (xgo [0] 20 ?_))
        exact ih (i + 1) (nI i + Int32.ofInt 1) (nI_succ i).symm (by omega) (by rw [hS, rnE, if_pos (by simpa using y)])
      refine xgo [0, 19, 26] 60 ?_
      refine pk_le l i (fun y => by omega) (fun _ => ?_) hs rfl (by omega) (by omega)
      refine ⟨vp_in_nI (by omega) (by omega), ?_⟩
      rw [nI_clamp (by omega)]
      refine pk_eq (C i) 32 (fun q => a19 (Or.inr q)) (fun q => ?_) eT rfl (by omega) (by omega)
      refine ⟨vp_in_nI (by omega) (by omega), ?_⟩
      rw [nI_clamp (by omega)]
      refine pk_ne (C i) 10 (fun q2 => ?_) (fun q2 => a19 (Or.inl q2)) eT rfl (by omega) (by omega)
      rw [rnE, if_neg (by simp only [decide_eq_true_eq]; exact fun y => y.elim q2 q)] at hS
      exact fin (nI i) i rfl (by omega) hS
  exact ⟨nb rfl, key (l - pp) pp m_place hp (by omega) rfl⟩
end XMX
