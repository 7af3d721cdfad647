/-! the reference: how much one greens, a watch passed, a fresh row -/
theorem riseV_val {s : TShip} {g pl : Fn} {w : Int32} {n p z k : Nat} (so : ShOk s n p z) (gp : GP g pl n p) (hk : k < n) (hk3 : ¬ s.kind k = 3) (hw : rng w 3) : riseV s g pl w n k = mx 0 (mn 9 (valV s.law (g k) (swtV s k) (wetV s pl k w) (if s.law.looks = 0 then 0 else nI (cnt (fun o => decide (g k < g o)) n)))) := by
  have n6 := so.n6
  have a1 := (rng_clamp (gp.green k hk) (by omega)).1
  have b1 := (rng_clamp (swt_rng (so.hands k hk)) (by omega)).1
  rcases hw with ⟨w', hw', rfl⟩
  have c1 := (rng_clamp (wet_rng (s := s) (pl := pl) (k := k) so.posts so.p4 so.spray hw') (by omega)).1
  rw [riseV, if_neg hk3]
  have e : (nI (if s.law.looks = 0 then 0 else cnt (fun o => decide (g k < g o)) n)) = (if s.law.looks = 0 then 0 else nI (cnt (fun o => decide (g k < g o)) n)) := by
    split <;> rfl
  rw [RV, ← (cl09 _).1, ← a1, ← b1, ← c1, e]
section XMP
variable {L : Nat} {xs : Nat → Int32} {d : Nat} {Q : XQt} {pn pc : Int32} {tok : TTok} {ship : TShip} {nn : Int64} {tl : Int32} {draft : TShip} {vd : TVoy} {log : TLog} {trial : TCrew} {sta : TSta} {says : Fn} {seed : Int64} {past : Nat → TCrew} {marks : Nat → TLog} {K : XWd}
variable {m_thrown : Int32} {m_taped : Int32} {m_size : Int32} {m_place : Int32} {m_begin : Int32} {m_token : Int32} {m_word : Int64} {m_told : Int32} {m_wrong : Int32} {m_code : Int32} {m_toldLines : Int32} {m_given : Int32} {m_fresh : Int64} {m_done : Int32} {m_odd : Int32} {m_bestRank : Int32} {m_leastSpray : Int32} {m_g : Int64} {m_tape : Fn} {m_ship : Fn} {m_manName : Fl} {m_postName : Fl} {m_kind : Fn} {m_greenTold : Fn} {m_hands : Fn} {m_spray : Fn} {m_holds : Fn} {m_sea : Fn} {m_lineFrom : Fn} {m_lineTo : Fn} {m_codes : Fn} {m_opened : Fn} {m_compared : Fn} {m_kept : Fn} {m_keptBy : Fn} {m_ahead : Fn} {m_against : Fn} {m_sum : Fn} {m_sumBy : Fn} {m_term : Fn} {m_termBy : Fn} {m_byNot : Fn} {m_valueOf : Fn} {m_lines : Fn} {m_lineWhat : Fn} {m_lineA : Fn} {m_lineB : Fn} {m_seens : Fn} {m_seenMan : Fn} {m_seenOther : Fn} {m_seenAt : Fn} {m_seenGreener : Fn} {m_s : Fn} {m_aside : Fn} {m_before : Fn} {m_marked : Fn} {m_undone : Fn} {m_isLaid : Fn} {m_more : Fn} {m_row : Fn} {m_bestRow : Fn} {m_greenerBy : Fl}
variable {n p z : Nat} {A : TA}
theorem m_moreFor {k : Nat} {w : Int32} (so : ShOk ship n p z) (ms : MS ship n p z m_ship m_kind m_greenTold m_hands m_spray m_holds m_sea m_lineFrom m_lineTo m_codes m_manName m_postName) (rs : RS m_s n A) (gp : GP A.g A.p n p) (hk : k < n) (hk3 : ¬ ship.kind k = 3) (hw : rng w 3) (h : ∀ m_kept m_keptBy m_ahead m_against m_sum m_sumBy m_term m_termBy m_byNot m_valueOf, Q (some (.int (riseV ship A.g A.p w n k))) (clsW pn pc tok ship nn tl draft vd log trial sta says seed past marks (mdlX m_thrown m_taped m_size m_place m_begin m_token m_word m_told m_wrong m_code m_toldLines m_given m_fresh m_done m_odd m_bestRank m_leastSpray m_g m_tape m_ship m_manName m_postName m_kind m_greenTold m_hands m_spray m_holds m_sea m_lineFrom m_lineTo m_codes m_opened m_compared m_kept m_keptBy m_ahead m_against m_sum m_sumBy m_term m_termBy m_byNot m_valueOf m_lines m_lineWhat m_lineA m_lineB m_seens m_seenMan m_seenOther m_seenAt m_seenGreener m_s m_aside m_before m_marked m_undone m_isLaid m_more m_row m_bestRow m_greenerBy K))) : XC (xF L xs) xmeths (d + 4) 221 [.ref 169, .int (nI k), .int w] (clsW pn pc tok ship nn tl draft vd log trial sta says seed past marks (mdlX m_thrown m_taped m_size m_place m_begin m_token m_word m_told m_wrong m_code m_toldLines m_given m_fresh m_done m_odd m_bestRank m_leastSpray m_g m_tape m_ship m_manName m_postName m_kind m_greenTold m_hands m_spray m_holds m_sea m_lineFrom m_lineTo m_codes m_opened m_compared m_kept m_keptBy m_ahead m_against m_sum m_sumBy m_term m_termBy m_byNot m_valueOf m_lines m_lineWhat m_lineA m_lineB m_seens m_seenMan m_seenOther m_seenAt m_seenGreener m_s m_aside m_before m_marked m_undone m_isLaid m_more m_row m_bestRow m_greenerBy K)) Q := by
  have n6 := so.n6
  have p4 := so.p4
  have ek := nI_clamp (show k < 2 ^ 31 by omega)
  have a92 : ∀ m_kept m_keptBy m_ahead m_against m_sum m_sumBy m_term m_termBy m_byNot m_valueOf, ∀ (v : Int32) (x3 x4 : Option Value), mx 0 (mn 9 v) = riseV ship A.g A.p w n k → XWp (xF L xs) (some .int) xP221 (XC (xF L xs) xmeths (d + 3)) Q 92 [orf 169, oi (nI k), oi w, x3, x4, oi v] [] (clsW pn pc tok ship nn tl draft vd log trial sta says seed past marks (mdlX m_thrown m_taped m_size m_place m_begin m_token m_word m_told m_wrong m_code m_toldLines m_given m_fresh m_done m_odd m_bestRank m_leastSpray m_g m_tape m_ship m_manName m_postName m_kind m_greenTold m_hands m_spray m_holds m_sea m_lineFrom m_lineTo m_codes m_opened m_compared m_kept m_keptBy m_ahead m_against m_sum m_sumBy m_term m_termBy m_byNot m_valueOf m_lines m_lineWhat m_lineA m_lineB m_seens m_seenMan m_seenOther m_seenAt m_seenGreener m_s m_aside m_before m_marked m_undone m_isLaid m_more m_row m_bestRow m_greenerBy K)) := by
    intro m_kept m_keptBy m_ahead m_against m_sum m_sumBy m_term m_termBy m_byNot m_valueOf v x3 x4 hv
    refine xgo [] 20 ⟨rfl, nb rfl, m_between ?_⟩
    rw [hv]
    exact h m_kept m_keptBy m_ahead m_against m_sum m_sumBy m_term m_termBy m_byNot m_valueOf
  have a46 : ∀ y, y = wetV ship A.p k w → XWp (xF L xs) (some .int) xP221 (XC (xF L xs) xmeths (d + 3)) Q 46 [orf 169, oi (nI k), oi w, oi (swtV ship k), none, none] [.int y] (clsW pn pc tok ship nn tl draft vd log trial sta says seed past marks (mdlX m_thrown m_taped m_size m_place m_begin m_token m_word m_told m_wrong m_code m_toldLines m_given m_fresh m_done m_odd m_bestRank m_leastSpray m_g m_tape m_ship m_manName m_postName m_kind m_greenTold m_hands m_spray m_holds m_sea m_lineFrom m_lineTo m_codes m_opened m_compared m_kept m_keptBy m_ahead m_against m_sum m_sumBy m_term m_termBy m_byNot m_valueOf m_lines m_lineWhat m_lineA m_lineB m_seens m_seenMan m_seenOther m_seenAt m_seenGreener m_s m_aside m_before m_marked m_undone m_isLaid m_more m_row m_bestRow m_greenerBy K)) := by
    intro y hy
    subst hy
    refine xgo [92] 60 ⟨nb rfl, nb rfl, vp_in_nI (n := 0) (by decide) (by decide), vp_in_nI (n := 0) (by decide) (by decide), ?_⟩
    rcases ms.law with ⟨f, t, hf, ht, hf2, ht2, hl⟩
    refine pk_le t f (fun q => ?_) (fun q => ?_) ht hf (by omega) (by omega)
    · rcases hl with ⟨_, hl⟩ | ⟨y, _⟩
      · exact a92 m_kept m_keptBy m_ahead m_against m_sum m_sumBy m_term m_termBy m_byNot m_valueOf _ _ _ (by rw [riseV_val so gp hk hk3 hw, hl])
      · omega
    · rcases hl with ⟨y, _⟩ | ⟨_, hl⟩
      · omega
      · refine ⟨show vp_in (Int32.ofInt 2 + nI k) 14 from i2 k ▸ vp_in_nI (by omega) (by omega), vp_in_nI (n := 1) (by decide) (by decide), ?_⟩
        rw [i2, nI_clamp (by omega), show (Int32.ofInt 1).toNatClampNeg = 1 from rfl, st_valueOf]
        refine ⟨vp_in_nI (n := 2) (by decide) (by decide), ?_⟩
        rw [show (Int32.ofInt 2).toNatClampNeg = 2 from rfl, st_valueOf]
        refine ⟨vp_in_nI (n := 3) (by decide) (by decide), ?_⟩
        rw [show (Int32.ofInt 3).toNatClampNeg = 3 from rfl, st_valueOf]
        refine ⟨rfl, nb rfl, m_greenerThan n6 ms.men rs hk ⟨rfl, nb rfl, m_bset n6 ⟨vp_in_nI (n := 4) (by decide) (by decide), ?_⟩⟩⟩
        rw [show (Int32.ofInt 4).toNatClampNeg = 4 from rfl, st_valueOf]
        have ⟨ok, hV⟩ := hl (upd (upd (upd (upd m_valueOf 1 (m_s (2 + k))) 2 (swtV ship k)) 3 (wetV ship A.p k w)) 4 (nI (cnt (fun o => decide (A.g k < A.g o)) n))) (m_kept, m_keptBy, m_ahead, m_against, m_sum, m_sumBy, m_term, m_termBy, m_byNot)
        refine ⟨rfl, nb rfl, m_worked hf ht (by omega) ht2 ok hV (fun m_kept m_keptBy m_ahead m_against m_sum m_sumBy m_term m_termBy m_byNot => ⟨nb rfl, ?_⟩)⟩
        refine a92 m_kept m_keptBy m_ahead m_against m_sum m_sumBy m_term m_termBy m_byNot _ _ _ _ ?_
        rw [riseV_val so gp hk hk3 hw]
        have f1 : upd (upd (upd (upd m_valueOf 1 (m_s (2 + k))) 2 (swtV ship k)) 3 (wetV ship A.p k w)) 4 (nI (cnt (fun o => decide (A.g k < A.g o)) n)) 1 = A.g k := by rw [← rs.green k hk]; simp [upd]
        have f2 : upd (upd (upd (upd m_valueOf 1 (m_s (2 + k))) 2 (swtV ship k)) 3 (wetV ship A.p k w)) 4 (nI (cnt (fun o => decide (A.g k < A.g o)) n)) 2 = swtV ship k := by simp [upd]
        have f3 : upd (upd (upd (upd m_valueOf 1 (m_s (2 + k))) 2 (swtV ship k)) 3 (wetV ship A.p k w)) 4 (nI (cnt (fun o => decide (A.g k < A.g o)) n)) 3 = wetV ship A.p k w := by simp [upd]
        have f4 : upd (upd (upd (upd m_valueOf 1 (m_s (2 + k))) 2 (swtV ship k)) 3 (wetV ship A.p k w)) 4 (nI (cnt (fun o => decide (A.g k < A.g o)) n)) 4 = nI (cnt (fun o => decide (A.g k < A.g o)) n) := by simp [upd]
        rw [f1, f2, f3, f4]
  have a31 : wetV ship A.p k w = 0 → XWp (xF L xs) (some .int) xP221 (XC (xF L xs) xmeths (d + 3)) Q 31 [orf 169, oi (nI k), oi w, oi (swtV ship k), none, none] [] (clsW pn pc tok ship nn tl draft vd log trial sta says seed past marks (mdlX m_thrown m_taped m_size m_place m_begin m_token m_word m_told m_wrong m_code m_toldLines m_given m_fresh m_done m_odd m_bestRank m_leastSpray m_g m_tape m_ship m_manName m_postName m_kind m_greenTold m_hands m_spray m_holds m_sea m_lineFrom m_lineTo m_codes m_opened m_compared m_kept m_keptBy m_ahead m_against m_sum m_sumBy m_term m_termBy m_byNot m_valueOf m_lines m_lineWhat m_lineA m_lineB m_seens m_seenMan m_seenOther m_seenAt m_seenGreener m_s m_aside m_before m_marked m_undone m_isLaid m_more m_row m_bestRow m_greenerBy K)) := by
    intro e
    exact xgo [46] 60 (a46 0 e.symm)
  have a17 : ∀ x, x = swtV ship k → XWp (xF L xs) (some .int) xP221 (XC (xF L xs) xmeths (d + 3)) Q 17 [orf 169, oi (nI k), oi w, none, none, none] [.int x] (clsW pn pc tok ship nn tl draft vd log trial sta says seed past marks (mdlX m_thrown m_taped m_size m_place m_begin m_token m_word m_told m_wrong m_code m_toldLines m_given m_fresh m_done m_odd m_bestRank m_leastSpray m_g m_tape m_ship m_manName m_postName m_kind m_greenTold m_hands m_spray m_holds m_sea m_lineFrom m_lineTo m_codes m_opened m_compared m_kept m_keptBy m_ahead m_against m_sum m_sumBy m_term m_termBy m_byNot m_valueOf m_lines m_lineWhat m_lineA m_lineB m_seens m_seenMan m_seenOther m_seenAt m_seenGreener m_s m_aside m_before m_marked m_undone m_isLaid m_more m_row m_bestRow m_greenerBy K)) := by
    intro x hx
    subst hx
    refine xgo [31, 46] 60 ⟨nb rfl, vp_in_nI (by omega) (by omega), ?_⟩
    rw [ek]
    refine And.intro (fun (q : m_kind k = 1) => ?_) (fun (q : ¬ m_kind k = 1) => ?_)
    · rw [ms.kind k hk] at q
      exact a31 (by rw [wetV, if_neg (fun y => y.1 q)])
    · rw [ms.kind k hk] at q
      refine ⟨show vp_in (Int32.ofInt 8 + nI k) 14 from i8 k ▸ vp_in_nI (by omega) (by omega), ?_⟩
      rw [i8, nI_clamp (show 8 + k < 2 ^ 31 by omega)]
      refine And.intro (fun (q2 : ¬ m_s (8 + k) = 0) => ?_) (fun (q2 : ¬ ¬ m_s (8 + k) = 0) => ?_)
      · rcases gp.place k hk with y | ⟨b, hb, y⟩
        · exact absurd (by rw [rs.place k hk, y]; decide) q2
        · have e : m_s (8 + k) - Int32.ofInt 1 = nI b := by
            rw [rs.place k hk, y]
            exact Int32.add_sub_cancel _ _
          refine ⟨show vp_in (Int32.ofInt 8 + nI k) 14 from i8 k ▸ vp_in_nI (by omega) (by omega), ?_⟩
          rw [i8, nI_clamp (show 8 + k < 2 ^ 31 by omega)]
          refine ⟨show vp_in (m_s (8 + k) - Int32.ofInt 1) 8 from e ▸ vp_in_nI (by omega) (by omega), ?_⟩
          rw [e, nI_clamp (by omega)]
          have ee : wetV ship A.p k w = m_spray b * w := by
            rw [wetV, if_pos ⟨q, by rw [y]; exact nI_pos' (by omega), by rw [y, so.posts]; exact (nI_ltI (by omega) (by omega)).mpr hb⟩, y, nI_clamp (by omega), ms.spray b hb]
          exact a46 _ ee.symm
      · refine a31 ?_
        have q2 := Classical.not_not.mp q2
        rw [rs.place k hk] at q2
        have q3 : A.p k = -1 := (Int32.add_left_inj 1).mp (q2.trans (by decide))
        rw [wetV, if_neg (fun y => absurd y.2.1 (by rw [q3]; decide))]
  refine ⟨nb rfl, xgo [17] 60 ⟨vp_in_nI (by omega) (by omega), ?_⟩⟩
  rw [ek]
  refine And.intro (fun (q : ¬ m_kind k = 2) => ?_) (fun (q : ¬ ¬ m_kind k = 2) => ?_)
  · rw [ms.kind k hk] at q
    refine ⟨vp_in_nI (by omega) (by omega), a17 _ ?_⟩
    rw [swtV, if_neg q, ← ms.hands k hk, ek]
  · have q := Classical.not_not.mp q
    rw [ms.kind k hk] at q
    refine ⟨vp_in_nI (by omega) (by omega), a17 _ ?_⟩
    rw [swtV, if_pos q, ← ms.hands k hk, ek]
    rfl
theorem m_passesWatch {w : Int32} (so : ShOk ship n p z) (ms : MS ship n p z m_ship m_kind m_greenTold m_hands m_spray m_holds m_sea m_lineFrom m_lineTo m_codes m_manName m_postName) (rs : RS m_s n A) (gp : GP A.g A.p n p) (ht : A.t < 2 ^ 31) (hod : (m_odd = -1 ∧ w = ship.sea (A.t % z)) ∨ (¬ m_odd < 0 ∧ w = m_odd)) (hw : rng w 3) (h : ∀ m_s m_kept m_keptBy m_ahead m_against m_sum m_sumBy m_term m_termBy m_byNot m_valueOf m_more, RS m_s n (newG ship A.g A.p w n, A.p, A.su, A.t + 1) → Q none (clsW pn pc tok ship nn tl draft vd log trial sta says seed past marks (mdlX m_thrown m_taped m_size m_place m_begin m_token m_word m_told m_wrong m_code m_toldLines m_given m_fresh m_done m_odd m_bestRank m_leastSpray m_g m_tape m_ship m_manName m_postName m_kind m_greenTold m_hands m_spray m_holds m_sea m_lineFrom m_lineTo m_codes m_opened m_compared m_kept m_keptBy m_ahead m_against m_sum m_sumBy m_term m_termBy m_byNot m_valueOf m_lines m_lineWhat m_lineA m_lineB m_seens m_seenMan m_seenOther m_seenAt m_seenGreener m_s m_aside m_before m_marked m_undone m_isLaid m_more m_row m_bestRow m_greenerBy K))) : XC (xF L xs) xmeths (d + 5) 219 [.ref 169] (clsW pn pc tok ship nn tl draft vd log trial sta says seed past marks (mdlX m_thrown m_taped m_size m_place m_begin m_token m_word m_told m_wrong m_code m_toldLines m_given m_fresh m_done m_odd m_bestRank m_leastSpray m_g m_tape m_ship m_manName m_postName m_kind m_greenTold m_hands m_spray m_holds m_sea m_lineFrom m_lineTo m_codes m_opened m_compared m_kept m_keptBy m_ahead m_against m_sum m_sumBy m_term m_termBy m_byNot m_valueOf m_lines m_lineWhat m_lineA m_lineB m_seens m_seenMan m_seenOther m_seenAt m_seenGreener m_s m_aside m_before m_marked m_undone m_isLaid m_more m_row m_bestRow m_greenerBy K)) Q := by
  have n6 := so.n6
  have fin : ∀ m_s m_kept m_keptBy m_ahead m_against m_sum m_sumBy m_term m_termBy m_byNot m_valueOf m_more, (∀ k, k < n → m_more k = riseV ship A.g A.p w n k) → ∀ i, i ≤ n → RS m_s n ((fun k => if k < i then newG ship A.g A.p w n k else A.g k), A.p, A.su, A.t) → XWp (xF L xs) none xP219 (XC (xF L xs) xmeths (d + 4)) Q 41 [orf 169, oi w, oi (nI i)] [] (clsW pn pc tok ship nn tl draft vd log trial sta says seed past marks (mdlX m_thrown m_taped m_size m_place m_begin m_token m_word m_told m_wrong m_code m_toldLines m_given m_fresh m_done m_odd m_bestRank m_leastSpray m_g m_tape m_ship m_manName m_postName m_kind m_greenTold m_hands m_spray m_holds m_sea m_lineFrom m_lineTo m_codes m_opened m_compared m_kept m_keptBy m_ahead m_against m_sum m_sumBy m_term m_termBy m_byNot m_valueOf m_lines m_lineWhat m_lineA m_lineB m_seens m_seenMan m_seenOther m_seenAt m_seenGreener m_s m_aside m_before m_marked m_undone m_isLaid m_more m_row m_bestRow m_greenerBy K)) := by
    intro m_s m_kept m_keptBy m_ahead m_against m_sum m_sumBy m_term m_termBy m_byNot m_valueOf m_more hmo i hi rs
    have key := up_to (P := fun j => ∀ m_s, RS m_s n ((fun k => if k < i + j then newG ship A.g A.p w n k else A.g k), A.p, A.su, A.t) → XWp (xF L xs) none xP219 (XC (xF L xs) xmeths (d + 4)) Q 41 [orf 169, oi w, oi (nI (i + j))] [] (clsW pn pc tok ship nn tl draft vd log trial sta says seed past marks (mdlX m_thrown m_taped m_size m_place m_begin m_token m_word m_told m_wrong m_code m_toldLines m_given m_fresh m_done m_odd m_bestRank m_leastSpray m_g m_tape m_ship m_manName m_postName m_kind m_greenTold m_hands m_spray m_holds m_sea m_lineFrom m_lineTo m_codes m_opened m_compared m_kept m_keptBy m_ahead m_against m_sum m_sumBy m_term m_termBy m_byNot m_valueOf m_lines m_lineWhat m_lineA m_lineB m_seens m_seenMan m_seenOther m_seenAt m_seenGreener m_s m_aside m_before m_marked m_undone m_isLaid m_more m_row m_bestRow m_greenerBy K))) (n := n - i) (fun j hj ih m_s rs => xgo [41] 60 ⟨vp_in_nI (n := 0) (by decide) (by decide), ?_⟩)
    · exact key m_s rs
    refine pk_le n (i + j) (fun q => ?_) (fun q => ?_) ms.men rfl (by omega) (by omega)
    · refine ⟨vp_in_nI (n := 0) (by decide) (by decide), vp_in_nI (n := 0) (by decide) (by decide), ?_⟩
      rw [show (Int32.ofInt 0).toNatClampNeg = 0 from rfl, st_s]
      refine ⟨rfl, h _ m_kept m_keptBy m_ahead m_against m_sum m_sumBy m_term m_termBy m_byNot m_valueOf m_more ?_⟩
      have e : i + j = n := by omega
      have r := RS.setT (x := m_s 0 + 1) (a := A.t + 1) rs n6 (by rw [rs.over, nI_succ])
      refine RS.congr r (fun k hk => ?_) (fun k hk => rfl) rfl rfl
      show (if k < i + j then newG ship A.g A.p w n k else A.g k) = newG ship A.g A.p w n k
      rw [if_pos (by omega)]
    · have ih := ih (by omega)
      refine ⟨show vp_in (Int32.ofInt 2 + nI (i + j)) 14 from i2 (i + j) ▸ vp_in_nI (by omega) (by omega), vp_in_nI (by omega) (by omega), nb rfl, show vp_in (Int32.ofInt 2 + nI (i + j)) 14 from i2 (i + j) ▸ vp_in_nI (by omega) (by omega), ?_⟩
      rw [i2, nI_clamp (by omega), nI_clamp (by omega), st_s]
      have eg : m_s (2 + (i + j)) = A.g (i + j) := by
        have := rs.green (i + j) q
        rw [this]
        show (if i + j < i + j then _ else _) = _
        rw [if_neg (Nat.lt_irrefl _)]
      have r := RS.setG (x := mn 99 (m_s (2 + (i + j)) + m_more (i + j))) rs q n6
      have ih := ih (upd m_s (2 + (i + j)) (mn 99 (m_s (2 + (i + j)) + m_more (i + j)))) (by
        refine RS.congr r (fun k hk => ?_) (fun k hk => rfl) rfl rfl
        show upd (fun k => if k < i + j then newG ship A.g A.p w n k else A.g k) (i + j) _ k = if k < i + (j + 1) then newG ship A.g A.p w n k else A.g k
        by_cases y : k = i + j
        · subst y
          rw [pk_us, if_pos (by omega), newG, if_pos q, eg, hmo (i + j) q]
        · rw [pk_un y]
          by_cases y2 : k < i + j
          · rw [if_pos y2, if_pos (by omega)]
          · rw [if_neg y2, if_neg (by omega)])
      rw [show i + (j + 1) = (i + j) + 1 by omega, nI_succ] at ih
      exact ih
  have a12 : ∀ x, x = w → XWp (xF L xs) none xP219 (XC (xF L xs) xmeths (d + 4)) Q 12 [orf 169, none, none] [.int x] (clsW pn pc tok ship nn tl draft vd log trial sta says seed past marks (mdlX m_thrown m_taped m_size m_place m_begin m_token m_word m_told m_wrong m_code m_toldLines m_given m_fresh m_done m_odd m_bestRank m_leastSpray m_g m_tape m_ship m_manName m_postName m_kind m_greenTold m_hands m_spray m_holds m_sea m_lineFrom m_lineTo m_codes m_opened m_compared m_kept m_keptBy m_ahead m_against m_sum m_sumBy m_term m_termBy m_byNot m_valueOf m_lines m_lineWhat m_lineA m_lineB m_seens m_seenMan m_seenOther m_seenAt m_seenGreener m_s m_aside m_before m_marked m_undone m_isLaid m_more m_row m_bestRow m_greenerBy K)) := by
    intro x hx
    subst hx
    refine xgo [15] 60 ⟨nb rfl, nb rfl, ?_⟩
    refine up_to (P := fun j => ∀ m_kept m_keptBy m_ahead m_against m_sum m_sumBy m_term m_termBy m_byNot m_valueOf m_more, (∀ k, k < j → m_more k = riseV ship A.g A.p x n k) → XWp (xF L xs) none xP219 (XC (xF L xs) xmeths (d + 4)) Q 15 [orf 169, oi x, oi (nI j)] [] (clsW pn pc tok ship nn tl draft vd log trial sta says seed past marks (mdlX m_thrown m_taped m_size m_place m_begin m_token m_word m_told m_wrong m_code m_toldLines m_given m_fresh m_done m_odd m_bestRank m_leastSpray m_g m_tape m_ship m_manName m_postName m_kind m_greenTold m_hands m_spray m_holds m_sea m_lineFrom m_lineTo m_codes m_opened m_compared m_kept m_keptBy m_ahead m_against m_sum m_sumBy m_term m_termBy m_byNot m_valueOf m_lines m_lineWhat m_lineA m_lineB m_seens m_seenMan m_seenOther m_seenAt m_seenGreener m_s m_aside m_before m_marked m_undone m_isLaid m_more m_row m_bestRow m_greenerBy K))) (n := n) (fun j hj ih m_kept m_keptBy m_ahead m_against m_sum m_sumBy m_term m_termBy m_byNot m_valueOf m_more hmo => xgo [15, 36, 41] 60 ⟨vp_in_nI (n := 0) (by decide) (by decide), ?_⟩) m_kept m_keptBy m_ahead m_against m_sum m_sumBy m_term m_termBy m_byNot m_valueOf m_more (fun k hk => absurd hk (Nat.not_lt_zero k))
    refine pk_le n j (fun q => ?_) (fun q => ?_) ms.men rfl (by omega) (by omega)
    · have e : j = n := by omega
      subst e
      refine ⟨nb rfl, fin m_s m_kept m_keptBy m_ahead m_against m_sum m_sumBy m_term m_termBy m_byNot m_valueOf m_more hmo 0 (by omega) ?_⟩
      exact RS.congr rs (fun k hk => by show A.g k = if k < 0 then newG ship A.g A.p x j k else A.g k; rw [if_neg (by omega)]) (fun k hk => rfl) rfl rfl
    · have ih := ih q
      have a36 : ∀ m_kept m_keptBy m_ahead m_against m_sum m_sumBy m_term m_termBy m_byNot m_valueOf m_more, ∀ v, (∀ k, k < j → m_more k = riseV ship A.g A.p x n k) → v = riseV ship A.g A.p x n j → XWp (xF L xs) none xP219 (XC (xF L xs) xmeths (d + 4)) Q 36 [orf 169, oi x, oi (nI j)] [.int v, .int (nI j), .ref 210] (clsW pn pc tok ship nn tl draft vd log trial sta says seed past marks (mdlX m_thrown m_taped m_size m_place m_begin m_token m_word m_told m_wrong m_code m_toldLines m_given m_fresh m_done m_odd m_bestRank m_leastSpray m_g m_tape m_ship m_manName m_postName m_kind m_greenTold m_hands m_spray m_holds m_sea m_lineFrom m_lineTo m_codes m_opened m_compared m_kept m_keptBy m_ahead m_against m_sum m_sumBy m_term m_termBy m_byNot m_valueOf m_lines m_lineWhat m_lineA m_lineB m_seens m_seenMan m_seenOther m_seenAt m_seenGreener m_s m_aside m_before m_marked m_undone m_isLaid m_more m_row m_bestRow m_greenerBy K)) := by
        intro m_kept m_keptBy m_ahead m_against m_sum m_sumBy m_term m_termBy m_byNot m_valueOf m_more v hmo hv
        refine xgo [15] 60 ⟨vp_in_nI (by omega) (by omega), ?_⟩
        rw [nI_clamp (by omega), st_more]
        have ih := ih m_kept m_keptBy m_ahead m_against m_sum m_sumBy m_term m_termBy m_byNot m_valueOf (upd m_more j v) (fun k hk => by
          by_cases y : k = j
          · subst y; rw [pk_us, hv]
          · rw [pk_un y]; exact hmo k (by omega))
        rw [nI_succ] at ih
        exact ih
      refine ⟨vp_in_nI (by omega) (by omega), ?_⟩
      rw [nI_clamp (by omega)]
      refine And.intro (fun (q2 : ¬ m_kind j = 3) => ?_) (fun (q2 : ¬ ¬ m_kind j = 3) => ?_)
      · rw [ms.kind j q] at q2
        refine ⟨rfl, nb rfl, m_moreFor so ms rs gp q q2 hw (fun m_kept m_keptBy m_ahead m_against m_sum m_sumBy m_term m_termBy m_byNot m_valueOf => ?_)⟩
        exact a36 m_kept m_keptBy m_ahead m_against m_sum m_sumBy m_term m_termBy m_byNot m_valueOf m_more _ hmo rfl
      · have q2 := Classical.not_not.mp q2
        rw [ms.kind j q] at q2
        exact a36 m_kept m_keptBy m_ahead m_against m_sum m_sumBy m_term m_termBy m_byNot m_valueOf m_more _ hmo (by rw [riseV, if_pos q2]; rfl)
  refine ⟨nb rfl, xgo [12] 60 ?_⟩
  refine And.intro (fun (q : 0 ≤ m_odd) => ?_) (fun (q : ¬ 0 ≤ m_odd) => ?_)
  · rcases hod with ⟨y, _⟩ | ⟨_, y⟩
    · exact absurd q (by rw [y]; decide)
    · exact a12 _ y.symm
  · rcases hod with ⟨_, y⟩ | ⟨y, _⟩
    · refine ⟨vp_in_nI (n := 0) (by decide) (by decide), ⟨rfl, nb rfl, m_seaOf (t := A.t) rs.over ht so.z1 so.z12 ms.seas (a12 _ y.symm)⟩⟩
    · exact absurd (Int32.not_le.mp q) y
theorem m_fresh0 (so : ShOk ship n p z) (ms : MS ship n p z m_ship m_kind m_greenTold m_hands m_spray m_holds m_sea m_lineFrom m_lineTo m_codes m_manName m_postName) (h : ∀ m_s, RS m_s n (bdA ship) → Q none (clsW pn pc tok ship nn tl draft vd log trial sta says seed past marks (mdlX m_thrown m_taped m_size m_place m_begin m_token m_word m_told m_wrong m_code m_toldLines m_given m_fresh m_done m_odd m_bestRank m_leastSpray m_g m_tape m_ship m_manName m_postName m_kind m_greenTold m_hands m_spray m_holds m_sea m_lineFrom m_lineTo m_codes m_opened m_compared m_kept m_keptBy m_ahead m_against m_sum m_sumBy m_term m_termBy m_byNot m_valueOf m_lines m_lineWhat m_lineA m_lineB m_seens m_seenMan m_seenOther m_seenAt m_seenGreener m_s m_aside m_before m_marked m_undone m_isLaid m_more m_row m_bestRow m_greenerBy K))) : XC (xF L xs) xmeths (d + 1) 197 [.ref 169] (clsW pn pc tok ship nn tl draft vd log trial sta says seed past marks (mdlX m_thrown m_taped m_size m_place m_begin m_token m_word m_told m_wrong m_code m_toldLines m_given m_fresh m_done m_odd m_bestRank m_leastSpray m_g m_tape m_ship m_manName m_postName m_kind m_greenTold m_hands m_spray m_holds m_sea m_lineFrom m_lineTo m_codes m_opened m_compared m_kept m_keptBy m_ahead m_against m_sum m_sumBy m_term m_termBy m_byNot m_valueOf m_lines m_lineWhat m_lineA m_lineB m_seens m_seenMan m_seenOther m_seenAt m_seenGreener m_s m_aside m_before m_marked m_undone m_isLaid m_more m_row m_bestRow m_greenerBy K)) Q := by
  have n6 := so.n6
  refine ⟨nb rfl, xgo [2] 20 ⟨nb rfl, ?_⟩⟩
  have start := up_to (P := fun j => XWp (xF L xs) none xP197 (XC (xF L xs) xmeths d) Q 2 [orf 169, oi (nI j)] [] (clsW pn pc tok ship nn tl draft vd log trial sta says seed past marks (mdlX m_thrown m_taped m_size m_place m_begin m_token m_word m_told m_wrong m_code m_toldLines m_given m_fresh m_done m_odd m_bestRank m_leastSpray m_g m_tape m_ship m_manName m_postName m_kind m_greenTold m_hands m_spray m_holds m_sea m_lineFrom m_lineTo m_codes m_opened m_compared m_kept m_keptBy m_ahead m_against m_sum m_sumBy m_term m_termBy m_byNot m_valueOf m_lines m_lineWhat m_lineA m_lineB m_seens m_seenMan m_seenOther m_seenAt m_seenGreener (fil m_s 0 j) m_aside m_before m_marked m_undone m_isLaid m_more m_row m_bestRow m_greenerBy K))) (n := 14) (fun j hj ih => xgo [2, 14] 40 ?_)
  · rw [fil_zero] at start
    exact start
  refine pk_le 14 j (fun q => ?_) (fun q => ?_) rfl rfl (by omega) (by omega)
  · have e : j = 14 := by omega
    subst e
    refine ⟨nb rfl, ?_⟩
    refine up_to (P := fun i => ∀ m_s, (∀ k, k < 14 → m_s k = if 2 ≤ k ∧ k < 2 + i then ship.green (k - 2) else 0) → XWp (xF L xs) none xP197 (XC (xF L xs) xmeths d) Q 14 [orf 169, oi (nI i)] [] (clsW pn pc tok ship nn tl draft vd log trial sta says seed past marks (mdlX m_thrown m_taped m_size m_place m_begin m_token m_word m_told m_wrong m_code m_toldLines m_given m_fresh m_done m_odd m_bestRank m_leastSpray m_g m_tape m_ship m_manName m_postName m_kind m_greenTold m_hands m_spray m_holds m_sea m_lineFrom m_lineTo m_codes m_opened m_compared m_kept m_keptBy m_ahead m_against m_sum m_sumBy m_term m_termBy m_byNot m_valueOf m_lines m_lineWhat m_lineA m_lineB m_seens m_seenMan m_seenOther m_seenAt m_seenGreener m_s m_aside m_before m_marked m_undone m_isLaid m_more m_row m_bestRow m_greenerBy K))) (n := n) (fun i hi ih m_s hs => xgo [14] 40 ⟨vp_in_nI (n := 0) (by decide) (by decide), ?_⟩) (fil m_s 0 14) (fun k hk => by rw [if_neg (by omega)]; show (if k < 14 then _ else _) = _; rw [if_pos hk])
    refine pk_le n i (fun q => ?_) (fun q => ?_) ms.men rfl (by omega) (by omega)
    · have e : i = n := by omega
      subst e
      refine ⟨rfl, h m_s ⟨?_, ?_, fun k hk => ?_, fun k hk => ?_, fun k h1 h2 => ?_⟩⟩
      · rw [hs 0 (by omega), if_neg (by omega)]; rfl
      · rw [hs 1 (by omega), if_neg (by omega)]; rfl
      · rw [hs (2 + k) (by omega), if_pos (by omega), show 2 + k - 2 = k by omega]
      · rw [hs (8 + k) (by omega), if_neg (by omega)]; show (0 : Int32) = -1 + 1; decide
      · rw [hs (2 + k) (by omega), if_neg (by omega)]
    · have ih := ih q
      refine ⟨vp_in_nI (by omega) (by omega), show vp_in (Int32.ofInt 2 + nI i) 14 from i2 i ▸ vp_in_nI (by omega) (by omega), ?_⟩
      rw [i2, nI_clamp (by omega), nI_clamp (by omega), st_s]
      have ih := ih (upd m_s (2 + i) (m_greenTold i)) (fun k hk => by
        by_cases y : k = 2 + i
        · subst y
          rw [pk_us, if_pos (by omega), ms.green i q, show 2 + i - 2 = i by omega]
        · rw [pk_un y, hs k hk]
          by_cases y2 : 2 ≤ k ∧ k < 2 + i
          · rw [if_pos y2, if_pos (by omega)]
          · rw [if_neg y2, if_neg (by omega)])
      rw [nI_succ] at ih
      exact ih
  · have ih := ih q
    refine ⟨vp_in_nI (by omega) (by omega), ?_⟩
    rw [nI_clamp (by omega), st_s]
    rw [fil_succ, nI_succ] at ih
    exact ih
end XMP
