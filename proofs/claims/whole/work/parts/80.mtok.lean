/-! the reference: what is asked of a token -/
theorem wrd8 {C : Nat → Nat} {o : Nat} : ∀ j, (∀ k, k < j → C (o + k) - 96 ≤ 26) → wrd C o j < 27 ^ j
  | 0, _ => by simp [wrd]
  | j + 1, h => by
    have := wrd8 (C := C) (o := o) j (fun k hk => h k (by omega))
    have h2 := h j (by omega)
    rw [wrd, Nat.pow_succ]
    omega
theorem tk_wrd {C : Nat → Nat} {l s : Nat} (h : tkK C l s = 1) : wdV C l s < 282429536482 := by
  unfold tkK at h
  split at h
  · omega
  · rename_i q
    split at h
    · rename_i q2
      split at h
      · rename_i q4
        have e : tkE C l s = rnE (fun k => decide (ltN (C k))) (l - s) s := by rw [tkE, if_neg q, if_pos q2]
        have h1 := wrd8 (C := C) (o := s) (tkE C l s - s) (fun k hk => by
          have := rnE_in (P := fun k => decide (ltN (C k))) (l - s) s (s + k) (by omega) (by omega)
          have := of_decide_eq_true this
          omega)
        have h2 : 27 ^ (tkE C l s - s) ≤ 27 ^ 8 := Nat.pow_le_pow_right (by decide) q4
        show wrd C s (tkE C l s - s) < 282429536482
        omega
      · omega
    · split at h
      · split at h <;> omega
      · split at h <;> omega
def nin (v : Nat) : List Nat → Prop
  | [] => True
  | x :: xs => ¬ v = x ∧ nin v xs
theorem plN_nin {v : Nat} : ∀ xs k, k + xs.length < 1000 → (nin v xs ↔ plN v k xs = -1)
  | [], k, _ => ⟨fun _ => rfl, fun _ => trivial⟩
  | x :: xs, k, h => by
    simp only [List.length_cons] at h
    have ih := plN_nin (v := v) xs (k + 1) (by omega)
    rw [nin, plN]
    by_cases q : x = v
    · rw [if_pos q]
      refine ⟨fun y => absurd q.symm y.1, fun y => absurd y (nIm (by omega))⟩
    · rw [if_neg q]
      exact ⟨fun y => ih.mp y.2, fun y => ⟨fun z => q z.symm, ih.mpr y⟩⟩
theorem vLE {x y : Int64} {A B : Prop} (f : x = y → A) (g : ¬ x = y → B) : (xcnd .eq (lg_cmp x y) 0 → A) ∧ (¬ xcnd .eq (lg_cmp x y) 0 → B) :=
  ⟨fun (q : lg_cmp x y = 0) => f ((lg_cmp_eq x y).mp q), fun (q : ¬ lg_cmp x y = 0) => g (fun w => q ((lg_cmp_eq x y).mpr w))⟩
theorem lN_eq6 {a b : Nat} (ha : a < 2 ^ 64) (hb : b < 2 ^ 64) : lN a = lN b ↔ a = b := by
  refine ⟨fun h => ?_, fun h => by rw [h]⟩
  have h2 : (BitVec.ofNat 64 a).toNat = (BitVec.ofNat 64 b).toNat := congrArg (fun x : Int64 => x.toBitVec.toNat) h
  rw [BitVec.toNat_ofNat, BitVec.toNat_ofNat, Nat.mod_eq_of_lt ha, Nat.mod_eq_of_lt hb] at h2
  exact h2
section XMQ
variable {L : Nat} {xs : Nat → Int32} {d : Nat} {Q : XQt} {pn pc : Int32} {tok : TTok} {ship : TShip} {nn : Int64} {tl : Int32} {draft : TShip} {vd : TVoy} {log : TLog} {trial : TCrew} {sta : TSta} {says : Fn} {seed : Int64} {past : Nat → TCrew} {marks : Nat → TLog} {K : XWd}
variable {m_thrown : Int32} {m_taped : Int32} {m_size : Int32} {m_place : Int32} {m_begin : Int32} {m_token : Int32} {m_word : Int64} {m_told : Int32} {m_wrong : Int32} {m_code : Int32} {m_toldLines : Int32} {m_given : Int32} {m_fresh : Int64} {m_done : Int32} {m_odd : Int32} {m_bestRank : Int32} {m_leastSpray : Int32} {m_g : Int64} {m_tape : Fn} {m_ship : Fn} {m_manName : Fl} {m_postName : Fl} {m_kind : Fn} {m_greenTold : Fn} {m_hands : Fn} {m_spray : Fn} {m_holds : Fn} {m_sea : Fn} {m_lineFrom : Fn} {m_lineTo : Fn} {m_codes : Fn} {m_opened : Fn} {m_compared : Fn} {m_kept : Fn} {m_keptBy : Fn} {m_ahead : Fn} {m_against : Fn} {m_sum : Fn} {m_sumBy : Fn} {m_term : Fn} {m_termBy : Fn} {m_byNot : Fn} {m_valueOf : Fn} {m_lines : Fn} {m_lineWhat : Fn} {m_lineA : Fn} {m_lineB : Fn} {m_seens : Fn} {m_seenMan : Fn} {m_seenOther : Fn} {m_seenAt : Fn} {m_seenGreener : Fn} {m_s : Fn} {m_aside : Fn} {m_before : Fn} {m_marked : Fn} {m_undone : Fn} {m_isLaid : Fn} {m_more : Fn} {m_row : Fn} {m_bestRow : Fn} {m_greenerBy : Fl}
variable {C : Nat → Nat} {l s : Nat}
theorem m_isWord {w : Nat} (mk : MkR m_token m_begin m_place m_told m_word C l s) (hw : w < 2 ^ 62) (h : Q (some (.int (b2i (isW C l s w)))) (clsW pn pc tok ship nn tl draft vd log trial sta says seed past marks (mdlX m_thrown m_taped m_size m_place m_begin m_token m_word m_told m_wrong m_code m_toldLines m_given m_fresh m_done m_odd m_bestRank m_leastSpray m_g m_tape m_ship m_manName m_postName m_kind m_greenTold m_hands m_spray m_holds m_sea m_lineFrom m_lineTo m_codes m_opened m_compared m_kept m_keptBy m_ahead m_against m_sum m_sumBy m_term m_termBy m_byNot m_valueOf m_lines m_lineWhat m_lineA m_lineB m_seens m_seenMan m_seenOther m_seenAt m_seenGreener m_s m_aside m_before m_marked m_undone m_isLaid m_more m_row m_bestRow m_greenerBy K))) : XC (xF L xs) xmeths (d + 1) 175 [.ref 169, .long (lN w)] (clsW pn pc tok ship nn tl draft vd log trial sta says seed past marks (mdlX m_thrown m_taped m_size m_place m_begin m_token m_word m_told m_wrong m_code m_toldLines m_given m_fresh m_done m_odd m_bestRank m_leastSpray m_g m_tape m_ship m_manName m_postName m_kind m_greenTold m_hands m_spray m_holds m_sea m_lineFrom m_lineTo m_codes m_opened m_compared m_kept m_keptBy m_ahead m_against m_sum m_sumBy m_term m_termBy m_byNot m_valueOf m_lines m_lineWhat m_lineA m_lineB m_seens m_seenMan m_seenOther m_seenAt m_seenGreener m_s m_aside m_before m_marked m_undone m_isLaid m_more m_row m_bestRow m_greenerBy K)) Q := by
  have k4 := tkK_le C l s
  have h := vR h
  have out : ¬ isW C l s w → XWp (xF L xs) (some .boolean) xP175 (XC (xF L xs) xmeths d) Q 11 [orf 169, ol (lN w), none] [] (clsW pn pc tok ship nn tl draft vd log trial sta says seed past marks (mdlX m_thrown m_taped m_size m_place m_begin m_token m_word m_told m_wrong m_code m_toldLines m_given m_fresh m_done m_odd m_bestRank m_leastSpray m_g m_tape m_ship m_manName m_postName m_kind m_greenTold m_hands m_spray m_holds m_sea m_lineFrom m_lineTo m_codes m_opened m_compared m_kept m_keptBy m_ahead m_against m_sum m_sumBy m_term m_termBy m_byNot m_valueOf m_lines m_lineWhat m_lineA m_lineB m_seens m_seenMan m_seenOther m_seenAt m_seenGreener m_s m_aside m_before m_marked m_undone m_isLaid m_more m_row m_bestRow m_greenerBy K)) := fun y => xgo [] 20 ⟨rfl, h.2 y⟩
  refine ⟨nb rfl, xgo [11] 40 ?_⟩
  refine pk_ne (tkK C l s) 1 (fun q => out (fun y => q y.1)) (fun q => ?_) mk.token rfl (by omega) (by omega)
  have b := tk_wrd q
  have e : m_word = lN (wdV C l s) := mk.word q
  refine vL (fun y => out (fun z => y (by rw [e, z.2]))) (fun y => ⟨rfl, h.1 ⟨q, ?_⟩⟩)
  rw [e] at y
  exact (lN_eq6 (by omega) (by omega)).mp y
theorem m_isSign {c : Nat} (hs : m_size = nI l) (l1 : l ≤ 1000) (rp : RpC m_tape C l) (mk : MkR m_token m_begin m_place m_told m_word C l s) (hc : c < 128) (h : Q (some (.int (b2i (isG C l s c)))) (clsW pn pc tok ship nn tl draft vd log trial sta says seed past marks (mdlX m_thrown m_taped m_size m_place m_begin m_token m_word m_told m_wrong m_code m_toldLines m_given m_fresh m_done m_odd m_bestRank m_leastSpray m_g m_tape m_ship m_manName m_postName m_kind m_greenTold m_hands m_spray m_holds m_sea m_lineFrom m_lineTo m_codes m_opened m_compared m_kept m_keptBy m_ahead m_against m_sum m_sumBy m_term m_termBy m_byNot m_valueOf m_lines m_lineWhat m_lineA m_lineB m_seens m_seenMan m_seenOther m_seenAt m_seenGreener m_s m_aside m_before m_marked m_undone m_isLaid m_more m_row m_bestRow m_greenerBy K))) : XC (xF L xs) xmeths (d + 1) 186 [.ref 169, .int (nI c)] (clsW pn pc tok ship nn tl draft vd log trial sta says seed past marks (mdlX m_thrown m_taped m_size m_place m_begin m_token m_word m_told m_wrong m_code m_toldLines m_given m_fresh m_done m_odd m_bestRank m_leastSpray m_g m_tape m_ship m_manName m_postName m_kind m_greenTold m_hands m_spray m_holds m_sea m_lineFrom m_lineTo m_codes m_opened m_compared m_kept m_keptBy m_ahead m_against m_sum m_sumBy m_term m_termBy m_byNot m_valueOf m_lines m_lineWhat m_lineA m_lineB m_seens m_seenMan m_seenOther m_seenAt m_seenGreener m_s m_aside m_before m_marked m_undone m_isLaid m_more m_row m_bestRow m_greenerBy K)) Q := by
  have k4 := tkK_le C l s
  have h := vR h
  have out : ¬ isG C l s c → XWp (xF L xs) (some .boolean) xP186 (XC (xF L xs) xmeths d) Q 13 [orf 169, oi (nI c)] [] (clsW pn pc tok ship nn tl draft vd log trial sta says seed past marks (mdlX m_thrown m_taped m_size m_place m_begin m_token m_word m_told m_wrong m_code m_toldLines m_given m_fresh m_done m_odd m_bestRank m_leastSpray m_g m_tape m_ship m_manName m_postName m_kind m_greenTold m_hands m_spray m_holds m_sea m_lineFrom m_lineTo m_codes m_opened m_compared m_kept m_keptBy m_ahead m_against m_sum m_sumBy m_term m_termBy m_byNot m_valueOf m_lines m_lineWhat m_lineA m_lineB m_seens m_seenMan m_seenOther m_seenAt m_seenGreener m_s m_aside m_before m_marked m_undone m_isLaid m_more m_row m_bestRow m_greenerBy K)) := fun y => xgo [] 20 ⟨rfl, h.2 y⟩
  refine ⟨nb rfl, xgo [13] 40 ?_⟩
  refine pk_ne (tkK C l s) 3 (fun q => out (fun y => q y.1)) (fun q => ?_) mk.token rfl (by omega) (by omega)
  have hl := tkK_lt (C := C) (l := l) (s := s) (by omega)
  have ⟨eT, h128⟩ := rp s hl
  have eb := mk.begin
  subst eb
  refine ⟨vp_in_nI (by omega) (by omega), ?_⟩
  rw [nI_clamp (by omega)]
  exact pk_ne (C s) c (fun z => out (fun y => z y.2)) (fun z => ⟨rfl, h.1 ⟨q, z⟩⟩) eT rfl (by omega) (by omega)
theorem m_fails {k : Nat} (mk : MkR m_token m_begin m_place m_told m_word C l s) (h : Q (some (.int 0)) (clsW pn pc tok ship nn tl draft vd log trial sta says seed past marks (mdlX m_thrown m_taped m_size m_place m_begin m_token m_word m_told (nI (k + 16 * s)) m_code m_toldLines m_given m_fresh m_done m_odd m_bestRank m_leastSpray m_g m_tape m_ship m_manName m_postName m_kind m_greenTold m_hands m_spray m_holds m_sea m_lineFrom m_lineTo m_codes m_opened m_compared m_kept m_keptBy m_ahead m_against m_sum m_sumBy m_term m_termBy m_byNot m_valueOf m_lines m_lineWhat m_lineA m_lineB m_seens m_seenMan m_seenOther m_seenAt m_seenGreener m_s m_aside m_before m_marked m_undone m_isLaid m_more m_row m_bestRow m_greenerBy K))) : XC (xF L xs) xmeths (d + 1) 177 [.ref 169, .int (nI k)] (clsW pn pc tok ship nn tl draft vd log trial sta says seed past marks (mdlX m_thrown m_taped m_size m_place m_begin m_token m_word m_told m_wrong m_code m_toldLines m_given m_fresh m_done m_odd m_bestRank m_leastSpray m_g m_tape m_ship m_manName m_postName m_kind m_greenTold m_hands m_spray m_holds m_sea m_lineFrom m_lineTo m_codes m_opened m_compared m_kept m_keptBy m_ahead m_against m_sum m_sumBy m_term m_termBy m_byNot m_valueOf m_lines m_lineWhat m_lineA m_lineB m_seens m_seenMan m_seenOther m_seenAt m_seenGreener m_s m_aside m_before m_marked m_undone m_isLaid m_more m_row m_bestRow m_greenerBy K)) Q := by
  have e : nI k + Int32.ofInt 16 * m_begin = nI (k + 16 * s) := by
    rw [mk.begin, show Int32.ofInt 16 = nI 16 from rfl, pk_mul, nI_add]
  rw [← e] at h
  exact ⟨nb rfl, xgo [7] 20 (xp_wrong rfl (xgo [] 20 ⟨rfl, h⟩))⟩
theorem m_next (hs : m_size = nI l) (l1 : l ≤ 1000) (rp : RpC m_tape C l) (mk : MkR m_token m_begin m_place m_told m_word C l s) (sl : s ≤ l) (h : ∀ m_place m_begin m_token m_word m_told, MkR m_token m_begin m_place m_told m_word C l (tkX C l s) → Q none (clsW pn pc tok ship nn tl draft vd log trial sta says seed past marks (mdlX m_thrown m_taped m_size m_place m_begin m_token m_word m_told m_wrong m_code m_toldLines m_given m_fresh m_done m_odd m_bestRank m_leastSpray m_g m_tape m_ship m_manName m_postName m_kind m_greenTold m_hands m_spray m_holds m_sea m_lineFrom m_lineTo m_codes m_opened m_compared m_kept m_keptBy m_ahead m_against m_sum m_sumBy m_term m_termBy m_byNot m_valueOf m_lines m_lineWhat m_lineA m_lineB m_seens m_seenMan m_seenOther m_seenAt m_seenGreener m_s m_aside m_before m_marked m_undone m_isLaid m_more m_row m_bestRow m_greenerBy K))) : XC (xF L xs) xmeths (d + 2) 173 [.ref 169] (clsW pn pc tok ship nn tl draft vd log trial sta says seed past marks (mdlX m_thrown m_taped m_size m_place m_begin m_token m_word m_told m_wrong m_code m_toldLines m_given m_fresh m_done m_odd m_bestRank m_leastSpray m_g m_tape m_ship m_manName m_postName m_kind m_greenTold m_hands m_spray m_holds m_sea m_lineFrom m_lineTo m_codes m_opened m_compared m_kept m_keptBy m_ahead m_against m_sum m_sumBy m_term m_termBy m_byNot m_valueOf m_lines m_lineWhat m_lineA m_lineB m_seens m_seenMan m_seenOther m_seenAt m_seenGreener m_s m_aside m_before m_marked m_undone m_isLaid m_more m_row m_bestRow m_greenerBy K)) Q :=
  m_nextToken hs l1 rp mk.place (tkE_le sl).2.1 h
theorem m_fact (mk : MkR m_token m_begin m_place m_told m_word C l s) (h : Q (some (.int (nI (fcN C l s)))) (clsW pn pc tok ship nn tl draft vd log trial sta says seed past marks (mdlX m_thrown m_taped m_size m_place m_begin m_token m_word m_told m_wrong m_code m_toldLines m_given m_fresh m_done m_odd m_bestRank m_leastSpray m_g m_tape m_ship m_manName m_postName m_kind m_greenTold m_hands m_spray m_holds m_sea m_lineFrom m_lineTo m_codes m_opened m_compared m_kept m_keptBy m_ahead m_against m_sum m_sumBy m_term m_termBy m_byNot m_valueOf m_lines m_lineWhat m_lineA m_lineB m_seens m_seenMan m_seenOther m_seenAt m_seenGreener m_s m_aside m_before m_marked m_undone m_isLaid m_more m_row m_bestRow m_greenerBy K))) : XC (xF L xs) xmeths (d + 1) 192 [.ref 169] (clsW pn pc tok ship nn tl draft vd log trial sta says seed past marks (mdlX m_thrown m_taped m_size m_place m_begin m_token m_word m_told m_wrong m_code m_toldLines m_given m_fresh m_done m_odd m_bestRank m_leastSpray m_g m_tape m_ship m_manName m_postName m_kind m_greenTold m_hands m_spray m_holds m_sea m_lineFrom m_lineTo m_codes m_opened m_compared m_kept m_keptBy m_ahead m_against m_sum m_sumBy m_term m_termBy m_byNot m_valueOf m_lines m_lineWhat m_lineA m_lineB m_seens m_seenMan m_seenOther m_seenAt m_seenGreener m_s m_aside m_before m_marked m_undone m_isLaid m_more m_row m_bestRow m_greenerBy K)) Q := by
  have k4 := tkK_le C l s
  refine ⟨nb rfl, xgo [] 60 ?_⟩
  refine pk_eq (tkK C l s) 1 (fun q => ?_) (fun q => ?_) mk.token rfl (by omega) (by omega)
  rotate_left
  · have e : fcN C l s = 0 := Classical.byContradiction (fun y => q (fc_lt y))
    rw [e] at h
    exact h
  have b := tk_wrd q
  have e : m_word = lN (wdV C l s) := mk.word q
  have ne : ∀ w, w < 2 ^ 62 → (m_word = lN w ↔ wdV C l s = w) := fun w hw => by rw [e]; exact lN_eq6 (by omega) (by omega)
  simp only [fcN, isW, q, true_and] at h
  refine vL (fun y => ?_) (fun y => ?_)
  rotate_left
  · rw [if_pos ((ne 10634 (by decide)).mp y)] at h
    exact h
  rw [if_neg (fun z => y ((ne 10634 (by decide)).mpr z))] at h
  refine vL (fun y => ?_) (fun y => ?_)
  rotate_left
  · rw [if_pos ((ne 10553780 (by decide)).mp y)] at h
    exact h
  rw [if_neg (fun z => y ((ne 10553780 (by decide)).mpr z))] at h
  refine vL (fun y => ?_) (fun y => ?_)
  rotate_left
  · rw [if_pos ((ne 16922 (by decide)).mp y)] at h
    exact h
  rw [if_neg (fun z => y ((ne 16922 (by decide)).mpr z))] at h
  refine vL (fun y => ?_) (fun y => ?_)
  rotate_left
  · rw [if_pos ((ne 582341 (by decide)).mp y)] at h
    exact h
  rw [if_neg (fun z => y ((ne 582341 (by decide)).mpr z))] at h
  exact h
theorem m_isKept (mk : MkR m_token m_begin m_place m_told m_word C l s) (h : Q (some (.int (b2i (¬ isNm C l s)))) (clsW pn pc tok ship nn tl draft vd log trial sta says seed past marks (mdlX m_thrown m_taped m_size m_place m_begin m_token m_word m_told m_wrong m_code m_toldLines m_given m_fresh m_done m_odd m_bestRank m_leastSpray m_g m_tape m_ship m_manName m_postName m_kind m_greenTold m_hands m_spray m_holds m_sea m_lineFrom m_lineTo m_codes m_opened m_compared m_kept m_keptBy m_ahead m_against m_sum m_sumBy m_term m_termBy m_byNot m_valueOf m_lines m_lineWhat m_lineA m_lineB m_seens m_seenMan m_seenOther m_seenAt m_seenGreener m_s m_aside m_before m_marked m_undone m_isLaid m_more m_row m_bestRow m_greenerBy K))) : XC (xF L xs) xmeths (d + 1) 179 [.ref 169] (clsW pn pc tok ship nn tl draft vd log trial sta says seed past marks (mdlX m_thrown m_taped m_size m_place m_begin m_token m_word m_told m_wrong m_code m_toldLines m_given m_fresh m_done m_odd m_bestRank m_leastSpray m_g m_tape m_ship m_manName m_postName m_kind m_greenTold m_hands m_spray m_holds m_sea m_lineFrom m_lineTo m_codes m_opened m_compared m_kept m_keptBy m_ahead m_against m_sum m_sumBy m_term m_termBy m_byNot m_valueOf m_lines m_lineWhat m_lineA m_lineB m_seens m_seenMan m_seenOther m_seenAt m_seenGreener m_s m_aside m_before m_marked m_undone m_isLaid m_more m_row m_bestRow m_greenerBy K)) Q := by
  have k4 := tkK_le C l s
  have h := vR h
  refine ⟨nb rfl, xgo [6] 60 ?_⟩
  refine pk_eq (tkK C l s) 1 (fun q => ?_) (fun q => ?_) mk.token rfl (by omega) (by omega)
  rotate_left
  · exact ⟨rfl, h.1 (fun y => q y.1)⟩
  have b := tk_wrd q
  have e : m_word = lN (wdV C l s) := mk.word q
  have ne : ∀ w, w < 2 ^ 62 → (m_word = lN w ↔ wdV C l s = w) := fun w hw => by rw [e]; exact lN_eq6 (by omega) (by omega)
  have hp := plN_nin (v := wdV C l s) vl2 0 (by decide)
  have out : ¬ nin (wdV C l s) vl2 → XWp (xF L xs) (some .boolean) xP179 (XC (xF L xs) xmeths d) Q 126 [orf 169] [] (clsW pn pc tok ship nn tl draft vd log trial sta says seed past marks (mdlX m_thrown m_taped m_size m_place m_begin m_token m_word m_told m_wrong m_code m_toldLines m_given m_fresh m_done m_odd m_bestRank m_leastSpray m_g m_tape m_ship m_manName m_postName m_kind m_greenTold m_hands m_spray m_holds m_sea m_lineFrom m_lineTo m_codes m_opened m_compared m_kept m_keptBy m_ahead m_against m_sum m_sumBy m_term m_termBy m_byNot m_valueOf m_lines m_lineWhat m_lineA m_lineB m_seens m_seenMan m_seenOther m_seenAt m_seenGreener m_s m_aside m_before m_marked m_undone m_isLaid m_more m_row m_bestRow m_greenerBy K)) := fun y => xgo [] 20 ⟨rfl, h.1 (fun z => y (hp.mpr z.2))⟩
  simp only [vl2, nin] at out
  refine xgo [11, 126] 20 (vLE (fun y => out (fun z => z.1 ((ne 9518 (by decide)).mp y))) (fun q0 => ?_))
  refine xgo [16, 126] 20 (vLE (fun y => out (fun z => z.2.1 ((ne 4078175 (by decide)).mp y))) (fun q1 => ?_))
  refine xgo [21, 126] 20 (vLE (fun y => out (fun z => z.2.2.1 ((ne 4281544 (by decide)).mp y))) (fun q2 => ?_))
  refine xgo [26, 126] 20 (vLE (fun y => out (fun z => z.2.2.2.1 ((ne 326396 (by decide)).mp y))) (fun q3 => ?_))
  refine xgo [31, 126] 20 (vLE (fun y => out (fun z => z.2.2.2.2.1 ((ne 10425481 (by decide)).mp y))) (fun q4 => ?_))
  refine xgo [36, 126] 20 (vLE (fun y => out (fun z => z.2.2.2.2.2.1 ((ne 4555648 (by decide)).mp y))) (fun q5 => ?_))
  refine xgo [41, 126] 20 (vLE (fun y => out (fun z => z.2.2.2.2.2.2.1 ((ne 13987 (by decide)).mp y))) (fun q6 => ?_))
  refine xgo [46, 126] 20 (vLE (fun y => out (fun z => z.2.2.2.2.2.2.2.1 ((ne 10255685 (by decide)).mp y))) (fun q7 => ?_))
  refine xgo [51, 126] 20 (vLE (fun y => out (fun z => z.2.2.2.2.2.2.2.2.1 ((ne 6485603 (by decide)).mp y))) (fun q8 => ?_))
  refine xgo [56, 126] 20 (vLE (fun y => out (fun z => z.2.2.2.2.2.2.2.2.2.1 ((ne 3123329643 (by decide)).mp y))) (fun q9 => ?_))
  refine xgo [61, 126] 20 (vLE (fun y => out (fun z => z.2.2.2.2.2.2.2.2.2.2.1 ((ne 110110744 (by decide)).mp y))) (fun q10 => ?_))
  refine xgo [66, 126] 20 (vLE (fun y => out (fun z => z.2.2.2.2.2.2.2.2.2.2.2.1 ((ne 10492150 (by decide)).mp y))) (fun q11 => ?_))
  refine xgo [71, 126] 20 (vLE (fun y => out (fun z => z.2.2.2.2.2.2.2.2.2.2.2.2.1 ((ne 1170473 (by decide)).mp y))) (fun q12 => ?_))
  refine xgo [76, 126] 20 (vLE (fun y => out (fun z => z.2.2.2.2.2.2.2.2.2.2.2.2.2.1 ((ne 389378 (by decide)).mp y))) (fun q13 => ?_))
  refine xgo [81, 126] 20 (vLE (fun y => out (fun z => z.2.2.2.2.2.2.2.2.2.2.2.2.2.2.1 ((ne 119163 (by decide)).mp y))) (fun q14 => ?_))
  refine xgo [86, 126] 20 (vLE (fun y => out (fun z => z.2.2.2.2.2.2.2.2.2.2.2.2.2.2.2.1 ((ne 12257495 (by decide)).mp y))) (fun q15 => ?_))
  refine xgo [91, 126] 20 (vLE (fun y => out (fun z => z.2.2.2.2.2.2.2.2.2.2.2.2.2.2.2.2.1 ((ne 89759 (by decide)).mp y))) (fun q16 => ?_))
  refine xgo [96, 126] 20 (vLE (fun y => out (fun z => z.2.2.2.2.2.2.2.2.2.2.2.2.2.2.2.2.2.1 ((ne 8740238 (by decide)).mp y))) (fun q17 => ?_))
  refine xgo [101, 126] 20 (vLE (fun y => out (fun z => z.2.2.2.2.2.2.2.2.2.2.2.2.2.2.2.2.2.2.1 ((ne 70400 (by decide)).mp y))) (fun q18 => ?_))
  refine xgo [106, 126] 20 (vLE (fun y => out (fun z => z.2.2.2.2.2.2.2.2.2.2.2.2.2.2.2.2.2.2.2.1 ((ne 1888 (by decide)).mp y))) (fun q19 => ?_))
  refine xgo [111, 126] 20 (vLE (fun y => out (fun z => z.2.2.2.2.2.2.2.2.2.2.2.2.2.2.2.2.2.2.2.2.1 ((ne 149044 (by decide)).mp y))) (fun q20 => ?_))
  refine xgo [116, 126] 20 (vLE (fun y => out (fun z => z.2.2.2.2.2.2.2.2.2.2.2.2.2.2.2.2.2.2.2.2.2.1 ((ne 10631 (by decide)).mp y))) (fun q21 => ?_))
  refine xgo [121, 126] 20 (vLE (fun y => out (fun z => z.2.2.2.2.2.2.2.2.2.2.2.2.2.2.2.2.2.2.2.2.2.2.1 ((ne 1111 (by decide)).mp y))) (fun q22 => ?_))
  refine xgo [126] 20 (vL (fun y => ⟨rfl, h.2 (fun z => z ⟨q, hp.mp ?_⟩)⟩) (fun y => out (fun z => z.2.2.2.2.2.2.2.2.2.2.2.2.2.2.2.2.2.2.2.2.2.2.2.1 ((ne 423 (by decide)).mp y))))
  exact ⟨fun z => q0 ((ne 9518 (by decide)).mpr z), fun z => q1 ((ne 4078175 (by decide)).mpr z), fun z => q2 ((ne 4281544 (by decide)).mpr z), fun z => q3 ((ne 326396 (by decide)).mpr z), fun z => q4 ((ne 10425481 (by decide)).mpr z), fun z => q5 ((ne 4555648 (by decide)).mpr z), fun z => q6 ((ne 13987 (by decide)).mpr z), fun z => q7 ((ne 10255685 (by decide)).mpr z), fun z => q8 ((ne 6485603 (by decide)).mpr z), fun z => q9 ((ne 3123329643 (by decide)).mpr z), fun z => q10 ((ne 110110744 (by decide)).mpr z), fun z => q11 ((ne 10492150 (by decide)).mpr z), fun z => q12 ((ne 1170473 (by decide)).mpr z), fun z => q13 ((ne 389378 (by decide)).mpr z), fun z => q14 ((ne 119163 (by decide)).mpr z), fun z => q15 ((ne 12257495 (by decide)).mpr z), fun z => q16 ((ne 89759 (by decide)).mpr z), fun z => q17 ((ne 8740238 (by decide)).mpr z), fun z => q18 ((ne 70400 (by decide)).mpr z), fun z => q19 ((ne 1888 (by decide)).mpr z), fun z => q20 ((ne 149044 (by decide)).mpr z), fun z => q21 ((ne 10631 (by decide)).mpr z), fun z => q22 ((ne 1111 (by decide)).mpr z), fun z => y ((ne 423 (by decide)).mpr z), trivial⟩
theorem m_manNamed_0 {n : Nat} (hn : n ≤ 6) (hm : m_ship 0 = nI n) (h : Q (some (.int (lkN (fun k => m_manName (0 + k)) m_word n 0))) (clsW pn pc tok ship nn tl draft vd log trial sta says seed past marks (mdlX m_thrown m_taped m_size m_place m_begin m_token m_word m_told m_wrong m_code m_toldLines m_given m_fresh m_done m_odd m_bestRank m_leastSpray m_g m_tape m_ship m_manName m_postName m_kind m_greenTold m_hands m_spray m_holds m_sea m_lineFrom m_lineTo m_codes m_opened m_compared m_kept m_keptBy m_ahead m_against m_sum m_sumBy m_term m_termBy m_byNot m_valueOf m_lines m_lineWhat m_lineA m_lineB m_seens m_seenMan m_seenOther m_seenAt m_seenGreener m_s m_aside m_before m_marked m_undone m_isLaid m_more m_row m_bestRow m_greenerBy K))) : XC (xF L xs) xmeths (d + 1) 180 [.ref 169, .int 0] (clsW pn pc tok ship nn tl draft vd log trial sta says seed past marks (mdlX m_thrown m_taped m_size m_place m_begin m_token m_word m_told m_wrong m_code m_toldLines m_given m_fresh m_done m_odd m_bestRank m_leastSpray m_g m_tape m_ship m_manName m_postName m_kind m_greenTold m_hands m_spray m_holds m_sea m_lineFrom m_lineTo m_codes m_opened m_compared m_kept m_keptBy m_ahead m_against m_sum m_sumBy m_term m_termBy m_byNot m_valueOf m_lines m_lineWhat m_lineA m_lineB m_seens m_seenMan m_seenOther m_seenAt m_seenGreener m_s m_aside m_before m_marked m_undone m_isLaid m_more m_row m_bestRow m_greenerBy K)) Q := by
  refine ⟨nb rfl, xgo [4] 20 ⟨nb rfl, ?_⟩⟩
  have key : ∀ m k, k + m = n → Q (some (.int (lkN (fun k => m_manName (0 + k)) m_word m k))) (clsW pn pc tok ship nn tl draft vd log trial sta says seed past marks (mdlX m_thrown m_taped m_size m_place m_begin m_token m_word m_told m_wrong m_code m_toldLines m_given m_fresh m_done m_odd m_bestRank m_leastSpray m_g m_tape m_ship m_manName m_postName m_kind m_greenTold m_hands m_spray m_holds m_sea m_lineFrom m_lineTo m_codes m_opened m_compared m_kept m_keptBy m_ahead m_against m_sum m_sumBy m_term m_termBy m_byNot m_valueOf m_lines m_lineWhat m_lineA m_lineB m_seens m_seenMan m_seenOther m_seenAt m_seenGreener m_s m_aside m_before m_marked m_undone m_isLaid m_more m_row m_bestRow m_greenerBy K)) → XWp (xF L xs) (some .int) xP180 (XC (xF L xs) xmeths d) Q 4 [orf 169, oi 0, oi (nI (0 + k))] [] (clsW pn pc tok ship nn tl draft vd log trial sta says seed past marks (mdlX m_thrown m_taped m_size m_place m_begin m_token m_word m_told m_wrong m_code m_toldLines m_given m_fresh m_done m_odd m_bestRank m_leastSpray m_g m_tape m_ship m_manName m_postName m_kind m_greenTold m_hands m_spray m_holds m_sea m_lineFrom m_lineTo m_codes m_opened m_compared m_kept m_keptBy m_ahead m_against m_sum m_sumBy m_term m_termBy m_byNot m_valueOf m_lines m_lineWhat m_lineA m_lineB m_seens m_seenMan m_seenOther m_seenAt m_seenGreener m_s m_aside m_before m_marked m_undone m_isLaid m_more m_row m_bestRow m_greenerBy K)) := by
    intro m
    induction m with
    | zero =>
      intro k hk h
      refine xgo [] 40 ⟨vp_in_nI (n := 0) (by decide) (by decide), ?_⟩
      exact pk_le (0 + n) (0 + k) (fun _ => h) (fun y => by omega) (by show Int32.ofInt 6 * Int32.ofInt 0 + m_ship 0 = _; rw [hm, ← nI_add]; rfl) rfl (by omega) (by omega)
    | succ m ih =>
      intro k hk h
      refine xgo [4] 40 ⟨vp_in_nI (n := 0) (by decide) (by decide), ?_⟩
      refine pk_le (0 + n) (0 + k) (fun y => by omega) (fun _ => ?_) (by show Int32.ofInt 6 * Int32.ofInt 0 + m_ship 0 = _; rw [hm, ← nI_add]; rfl) rfl (by omega) (by omega)
      refine ⟨vp_in_nI (by omega) (by omega), ?_⟩
      rw [nI_clamp (by omega)]
      rw [lkN] at h
      refine vL (fun q => ?_) (fun q => ?_)
      · rw [if_neg q] at h
        have ih := ih (k + 1) (by omega) h
        rw [← Nat.add_assoc, nI_succ] at ih
        exact ih
      · rw [if_pos q] at h
        have e : nI (0 + k) - Int32.ofInt 6 * Int32.ofInt 0 = nI k := by
          rw [show Int32.ofInt 6 * Int32.ofInt 0 = nI 0 from rfl, pk_sub (by omega), show 0 + k - 0 = k by omega]
        rw [← e] at h
        exact h
  exact key n 0 (by omega) h
theorem m_manNamed_1 {n : Nat} (hn : n ≤ 6) (hm : m_ship 6 = nI n) (h : Q (some (.int (lkN (fun k => m_manName (6 + k)) m_word n 0))) (clsW pn pc tok ship nn tl draft vd log trial sta says seed past marks (mdlX m_thrown m_taped m_size m_place m_begin m_token m_word m_told m_wrong m_code m_toldLines m_given m_fresh m_done m_odd m_bestRank m_leastSpray m_g m_tape m_ship m_manName m_postName m_kind m_greenTold m_hands m_spray m_holds m_sea m_lineFrom m_lineTo m_codes m_opened m_compared m_kept m_keptBy m_ahead m_against m_sum m_sumBy m_term m_termBy m_byNot m_valueOf m_lines m_lineWhat m_lineA m_lineB m_seens m_seenMan m_seenOther m_seenAt m_seenGreener m_s m_aside m_before m_marked m_undone m_isLaid m_more m_row m_bestRow m_greenerBy K))) : XC (xF L xs) xmeths (d + 1) 180 [.ref 169, .int 1] (clsW pn pc tok ship nn tl draft vd log trial sta says seed past marks (mdlX m_thrown m_taped m_size m_place m_begin m_token m_word m_told m_wrong m_code m_toldLines m_given m_fresh m_done m_odd m_bestRank m_leastSpray m_g m_tape m_ship m_manName m_postName m_kind m_greenTold m_hands m_spray m_holds m_sea m_lineFrom m_lineTo m_codes m_opened m_compared m_kept m_keptBy m_ahead m_against m_sum m_sumBy m_term m_termBy m_byNot m_valueOf m_lines m_lineWhat m_lineA m_lineB m_seens m_seenMan m_seenOther m_seenAt m_seenGreener m_s m_aside m_before m_marked m_undone m_isLaid m_more m_row m_bestRow m_greenerBy K)) Q := by
  refine ⟨nb rfl, xgo [4] 20 ⟨nb rfl, ?_⟩⟩
  have key : ∀ m k, k + m = n → Q (some (.int (lkN (fun k => m_manName (6 + k)) m_word m k))) (clsW pn pc tok ship nn tl draft vd log trial sta says seed past marks (mdlX m_thrown m_taped m_size m_place m_begin m_token m_word m_told m_wrong m_code m_toldLines m_given m_fresh m_done m_odd m_bestRank m_leastSpray m_g m_tape m_ship m_manName m_postName m_kind m_greenTold m_hands m_spray m_holds m_sea m_lineFrom m_lineTo m_codes m_opened m_compared m_kept m_keptBy m_ahead m_against m_sum m_sumBy m_term m_termBy m_byNot m_valueOf m_lines m_lineWhat m_lineA m_lineB m_seens m_seenMan m_seenOther m_seenAt m_seenGreener m_s m_aside m_before m_marked m_undone m_isLaid m_more m_row m_bestRow m_greenerBy K)) → XWp (xF L xs) (some .int) xP180 (XC (xF L xs) xmeths d) Q 4 [orf 169, oi 1, oi (nI (6 + k))] [] (clsW pn pc tok ship nn tl draft vd log trial sta says seed past marks (mdlX m_thrown m_taped m_size m_place m_begin m_token m_word m_told m_wrong m_code m_toldLines m_given m_fresh m_done m_odd m_bestRank m_leastSpray m_g m_tape m_ship m_manName m_postName m_kind m_greenTold m_hands m_spray m_holds m_sea m_lineFrom m_lineTo m_codes m_opened m_compared m_kept m_keptBy m_ahead m_against m_sum m_sumBy m_term m_termBy m_byNot m_valueOf m_lines m_lineWhat m_lineA m_lineB m_seens m_seenMan m_seenOther m_seenAt m_seenGreener m_s m_aside m_before m_marked m_undone m_isLaid m_more m_row m_bestRow m_greenerBy K)) := by
    intro m
    induction m with
    | zero =>
      intro k hk h
      refine xgo [] 40 ⟨vp_in_nI (n := 6) (by decide) (by decide), ?_⟩
      exact pk_le (6 + n) (6 + k) (fun _ => h) (fun y => by omega) (by show Int32.ofInt 6 * Int32.ofInt 1 + m_ship 6 = _; rw [hm, ← nI_add]; rfl) rfl (by omega) (by omega)
    | succ m ih =>
      intro k hk h
      refine xgo [4] 40 ⟨vp_in_nI (n := 6) (by decide) (by decide), ?_⟩
      refine pk_le (6 + n) (6 + k) (fun y => by omega) (fun _ => ?_) (by show Int32.ofInt 6 * Int32.ofInt 1 + m_ship 6 = _; rw [hm, ← nI_add]; rfl) rfl (by omega) (by omega)
      refine ⟨vp_in_nI (by omega) (by omega), ?_⟩
      rw [nI_clamp (by omega)]
      rw [lkN] at h
      refine vL (fun q => ?_) (fun q => ?_)
      · rw [if_neg q] at h
        have ih := ih (k + 1) (by omega) h
        rw [← Nat.add_assoc, nI_succ] at ih
        exact ih
      · rw [if_pos q] at h
        have e : nI (6 + k) - Int32.ofInt 6 * Int32.ofInt 1 = nI k := by
          rw [show Int32.ofInt 6 * Int32.ofInt 1 = nI 6 from rfl, pk_sub (by omega), show 6 + k - 6 = k by omega]
        rw [← e] at h
        exact h
  exact key n 0 (by omega) h
theorem m_postNamed_0 {n : Nat} (hn : n ≤ 4) (hm : m_ship 1 = nI n) (h : Q (some (.int (lkN (fun k => m_postName (0 + k)) m_word n 0))) (clsW pn pc tok ship nn tl draft vd log trial sta says seed past marks (mdlX m_thrown m_taped m_size m_place m_begin m_token m_word m_told m_wrong m_code m_toldLines m_given m_fresh m_done m_odd m_bestRank m_leastSpray m_g m_tape m_ship m_manName m_postName m_kind m_greenTold m_hands m_spray m_holds m_sea m_lineFrom m_lineTo m_codes m_opened m_compared m_kept m_keptBy m_ahead m_against m_sum m_sumBy m_term m_termBy m_byNot m_valueOf m_lines m_lineWhat m_lineA m_lineB m_seens m_seenMan m_seenOther m_seenAt m_seenGreener m_s m_aside m_before m_marked m_undone m_isLaid m_more m_row m_bestRow m_greenerBy K))) : XC (xF L xs) xmeths (d + 1) 181 [.ref 169, .int 0] (clsW pn pc tok ship nn tl draft vd log trial sta says seed past marks (mdlX m_thrown m_taped m_size m_place m_begin m_token m_word m_told m_wrong m_code m_toldLines m_given m_fresh m_done m_odd m_bestRank m_leastSpray m_g m_tape m_ship m_manName m_postName m_kind m_greenTold m_hands m_spray m_holds m_sea m_lineFrom m_lineTo m_codes m_opened m_compared m_kept m_keptBy m_ahead m_against m_sum m_sumBy m_term m_termBy m_byNot m_valueOf m_lines m_lineWhat m_lineA m_lineB m_seens m_seenMan m_seenOther m_seenAt m_seenGreener m_s m_aside m_before m_marked m_undone m_isLaid m_more m_row m_bestRow m_greenerBy K)) Q := by
  refine ⟨nb rfl, xgo [4] 20 ⟨nb rfl, ?_⟩⟩
  have key : ∀ m k, k + m = n → Q (some (.int (lkN (fun k => m_postName (0 + k)) m_word m k))) (clsW pn pc tok ship nn tl draft vd log trial sta says seed past marks (mdlX m_thrown m_taped m_size m_place m_begin m_token m_word m_told m_wrong m_code m_toldLines m_given m_fresh m_done m_odd m_bestRank m_leastSpray m_g m_tape m_ship m_manName m_postName m_kind m_greenTold m_hands m_spray m_holds m_sea m_lineFrom m_lineTo m_codes m_opened m_compared m_kept m_keptBy m_ahead m_against m_sum m_sumBy m_term m_termBy m_byNot m_valueOf m_lines m_lineWhat m_lineA m_lineB m_seens m_seenMan m_seenOther m_seenAt m_seenGreener m_s m_aside m_before m_marked m_undone m_isLaid m_more m_row m_bestRow m_greenerBy K)) → XWp (xF L xs) (some .int) xP181 (XC (xF L xs) xmeths d) Q 4 [orf 169, oi 0, oi (nI (0 + k))] [] (clsW pn pc tok ship nn tl draft vd log trial sta says seed past marks (mdlX m_thrown m_taped m_size m_place m_begin m_token m_word m_told m_wrong m_code m_toldLines m_given m_fresh m_done m_odd m_bestRank m_leastSpray m_g m_tape m_ship m_manName m_postName m_kind m_greenTold m_hands m_spray m_holds m_sea m_lineFrom m_lineTo m_codes m_opened m_compared m_kept m_keptBy m_ahead m_against m_sum m_sumBy m_term m_termBy m_byNot m_valueOf m_lines m_lineWhat m_lineA m_lineB m_seens m_seenMan m_seenOther m_seenAt m_seenGreener m_s m_aside m_before m_marked m_undone m_isLaid m_more m_row m_bestRow m_greenerBy K)) := by
    intro m
    induction m with
    | zero =>
      intro k hk h
      refine xgo [] 40 ⟨vp_in_nI (n := 1) (by decide) (by decide), ?_⟩
      exact pk_le (0 + n) (0 + k) (fun _ => h) (fun y => by omega) (by show Int32.ofInt 4 * Int32.ofInt 0 + m_ship 1 = _; rw [hm, ← nI_add]; rfl) rfl (by omega) (by omega)
    | succ m ih =>
      intro k hk h
      refine xgo [4] 40 ⟨vp_in_nI (n := 1) (by decide) (by decide), ?_⟩
      refine pk_le (0 + n) (0 + k) (fun y => by omega) (fun _ => ?_) (by show Int32.ofInt 4 * Int32.ofInt 0 + m_ship 1 = _; rw [hm, ← nI_add]; rfl) rfl (by omega) (by omega)
      refine ⟨vp_in_nI (by omega) (by omega), ?_⟩
      rw [nI_clamp (by omega)]
      rw [lkN] at h
      refine vL (fun q => ?_) (fun q => ?_)
      · rw [if_neg q] at h
        have ih := ih (k + 1) (by omega) h
        rw [← Nat.add_assoc, nI_succ] at ih
        exact ih
      · rw [if_pos q] at h
        have e : nI (0 + k) - Int32.ofInt 4 * Int32.ofInt 0 = nI k := by
          rw [show Int32.ofInt 4 * Int32.ofInt 0 = nI 0 from rfl, pk_sub (by omega), show 0 + k - 0 = k by omega]
        rw [← e] at h
        exact h
  exact key n 0 (by omega) h
theorem m_postNamed_1 {n : Nat} (hn : n ≤ 4) (hm : m_ship 7 = nI n) (h : Q (some (.int (lkN (fun k => m_postName (4 + k)) m_word n 0))) (clsW pn pc tok ship nn tl draft vd log trial sta says seed past marks (mdlX m_thrown m_taped m_size m_place m_begin m_token m_word m_told m_wrong m_code m_toldLines m_given m_fresh m_done m_odd m_bestRank m_leastSpray m_g m_tape m_ship m_manName m_postName m_kind m_greenTold m_hands m_spray m_holds m_sea m_lineFrom m_lineTo m_codes m_opened m_compared m_kept m_keptBy m_ahead m_against m_sum m_sumBy m_term m_termBy m_byNot m_valueOf m_lines m_lineWhat m_lineA m_lineB m_seens m_seenMan m_seenOther m_seenAt m_seenGreener m_s m_aside m_before m_marked m_undone m_isLaid m_more m_row m_bestRow m_greenerBy K))) : XC (xF L xs) xmeths (d + 1) 181 [.ref 169, .int 1] (clsW pn pc tok ship nn tl draft vd log trial sta says seed past marks (mdlX m_thrown m_taped m_size m_place m_begin m_token m_word m_told m_wrong m_code m_toldLines m_given m_fresh m_done m_odd m_bestRank m_leastSpray m_g m_tape m_ship m_manName m_postName m_kind m_greenTold m_hands m_spray m_holds m_sea m_lineFrom m_lineTo m_codes m_opened m_compared m_kept m_keptBy m_ahead m_against m_sum m_sumBy m_term m_termBy m_byNot m_valueOf m_lines m_lineWhat m_lineA m_lineB m_seens m_seenMan m_seenOther m_seenAt m_seenGreener m_s m_aside m_before m_marked m_undone m_isLaid m_more m_row m_bestRow m_greenerBy K)) Q := by
  refine ⟨nb rfl, xgo [4] 20 ⟨nb rfl, ?_⟩⟩
  have key : ∀ m k, k + m = n → Q (some (.int (lkN (fun k => m_postName (4 + k)) m_word m k))) (clsW pn pc tok ship nn tl draft vd log trial sta says seed past marks (mdlX m_thrown m_taped m_size m_place m_begin m_token m_word m_told m_wrong m_code m_toldLines m_given m_fresh m_done m_odd m_bestRank m_leastSpray m_g m_tape m_ship m_manName m_postName m_kind m_greenTold m_hands m_spray m_holds m_sea m_lineFrom m_lineTo m_codes m_opened m_compared m_kept m_keptBy m_ahead m_against m_sum m_sumBy m_term m_termBy m_byNot m_valueOf m_lines m_lineWhat m_lineA m_lineB m_seens m_seenMan m_seenOther m_seenAt m_seenGreener m_s m_aside m_before m_marked m_undone m_isLaid m_more m_row m_bestRow m_greenerBy K)) → XWp (xF L xs) (some .int) xP181 (XC (xF L xs) xmeths d) Q 4 [orf 169, oi 1, oi (nI (4 + k))] [] (clsW pn pc tok ship nn tl draft vd log trial sta says seed past marks (mdlX m_thrown m_taped m_size m_place m_begin m_token m_word m_told m_wrong m_code m_toldLines m_given m_fresh m_done m_odd m_bestRank m_leastSpray m_g m_tape m_ship m_manName m_postName m_kind m_greenTold m_hands m_spray m_holds m_sea m_lineFrom m_lineTo m_codes m_opened m_compared m_kept m_keptBy m_ahead m_against m_sum m_sumBy m_term m_termBy m_byNot m_valueOf m_lines m_lineWhat m_lineA m_lineB m_seens m_seenMan m_seenOther m_seenAt m_seenGreener m_s m_aside m_before m_marked m_undone m_isLaid m_more m_row m_bestRow m_greenerBy K)) := by
    intro m
    induction m with
    | zero =>
      intro k hk h
      refine xgo [] 40 ⟨vp_in_nI (n := 7) (by decide) (by decide), ?_⟩
      exact pk_le (4 + n) (4 + k) (fun _ => h) (fun y => by omega) (by show Int32.ofInt 4 * Int32.ofInt 1 + m_ship 7 = _; rw [hm, ← nI_add]; rfl) rfl (by omega) (by omega)
    | succ m ih =>
      intro k hk h
      refine xgo [4] 40 ⟨vp_in_nI (n := 7) (by decide) (by decide), ?_⟩
      refine pk_le (4 + n) (4 + k) (fun y => by omega) (fun _ => ?_) (by show Int32.ofInt 4 * Int32.ofInt 1 + m_ship 7 = _; rw [hm, ← nI_add]; rfl) rfl (by omega) (by omega)
      refine ⟨vp_in_nI (by omega) (by omega), ?_⟩
      rw [nI_clamp (by omega)]
      rw [lkN] at h
      refine vL (fun q => ?_) (fun q => ?_)
      · rw [if_neg q] at h
        have ih := ih (k + 1) (by omega) h
        rw [← Nat.add_assoc, nI_succ] at ih
        exact ih
      · rw [if_pos q] at h
        have e : nI (4 + k) - Int32.ofInt 4 * Int32.ofInt 1 = nI k := by
          rw [show Int32.ofInt 4 * Int32.ofInt 1 = nI 4 from rfl, pk_sub (by omega), show 4 + k - 4 = k by omega]
        rw [← e] at h
        exact h
  exact key n 0 (by omega) h
theorem m_needsNumber {lo hi : Nat} (hs : m_size = nI l) (l1 : l ≤ 1000) (rp : RpC m_tape C l) (mk : MkR m_token m_begin m_place m_told m_word C l s) (sl : s ≤ l) (hlo : lo < 10000) (hh : hi < 10000) (h1 : tkK C l s = 2 → lo ≤ nmV C l s → nmV C l s ≤ hi → ∀ m_place m_begin m_token m_word m_told, MkR m_token m_begin m_place m_told m_word C l (tkX C l s) → Q (some (.int 1)) (clsW pn pc tok ship nn tl draft vd log trial sta says seed past marks (mdlX m_thrown m_taped m_size m_place m_begin m_token m_word m_told m_wrong m_code m_toldLines (nI (nmV C l s)) m_fresh m_done m_odd m_bestRank m_leastSpray m_g m_tape m_ship m_manName m_postName m_kind m_greenTold m_hands m_spray m_holds m_sea m_lineFrom m_lineTo m_codes m_opened m_compared m_kept m_keptBy m_ahead m_against m_sum m_sumBy m_term m_termBy m_byNot m_valueOf m_lines m_lineWhat m_lineA m_lineB m_seens m_seenMan m_seenOther m_seenAt m_seenGreener m_s m_aside m_before m_marked m_undone m_isLaid m_more m_row m_bestRow m_greenerBy K))) (h0 : ∀ k, (¬ tkK C l s = 2 ∧ k = 1 ∨ tkK C l s = 2 ∧ ¬ (lo ≤ nmV C l s ∧ nmV C l s ≤ hi) ∧ k = 4) → Q (some (.int 0)) (clsW pn pc tok ship nn tl draft vd log trial sta says seed past marks (mdlX m_thrown m_taped m_size m_place m_begin m_token m_word m_told (nI (k + 16 * s)) m_code m_toldLines m_given m_fresh m_done m_odd m_bestRank m_leastSpray m_g m_tape m_ship m_manName m_postName m_kind m_greenTold m_hands m_spray m_holds m_sea m_lineFrom m_lineTo m_codes m_opened m_compared m_kept m_keptBy m_ahead m_against m_sum m_sumBy m_term m_termBy m_byNot m_valueOf m_lines m_lineWhat m_lineA m_lineB m_seens m_seenMan m_seenOther m_seenAt m_seenGreener m_s m_aside m_before m_marked m_undone m_isLaid m_more m_row m_bestRow m_greenerBy K))) : XC (xF L xs) xmeths (d + 3) 183 [.ref 169, .int (nI lo), .int (nI hi)] (clsW pn pc tok ship nn tl draft vd log trial sta says seed past marks (mdlX m_thrown m_taped m_size m_place m_begin m_token m_word m_told m_wrong m_code m_toldLines m_given m_fresh m_done m_odd m_bestRank m_leastSpray m_g m_tape m_ship m_manName m_postName m_kind m_greenTold m_hands m_spray m_holds m_sea m_lineFrom m_lineTo m_codes m_opened m_compared m_kept m_keptBy m_ahead m_against m_sum m_sumBy m_term m_termBy m_byNot m_valueOf m_lines m_lineWhat m_lineA m_lineB m_seens m_seenMan m_seenOther m_seenAt m_seenGreener m_s m_aside m_before m_marked m_undone m_isLaid m_more m_row m_bestRow m_greenerBy K)) Q := by
  have k4 := tkK_le C l s
  refine ⟨nb rfl, xgo [8] 40 ?_⟩
  refine pk_eq (tkK C l s) 2 (fun q => ?_) (fun q => ?_) mk.token rfl (by omega) (by omega)
  rotate_left
  · exact ⟨rfl, nb rfl, m_fails (k := 1) mk ⟨rfl, h0 1 (Or.inl ⟨q, rfl⟩)⟩⟩
  have en : m_told = nI (nmV C l s) := mk.told q
  have hn := tk_num q
  refine xgo [18] 60 ⟨rfl, nb rfl, m_within ?_⟩
  have hiff : (nI lo ≤ m_told ∧ m_told ≤ nI hi) ↔ (lo ≤ nmV C l s ∧ nmV C l s ≤ hi) := by
    rw [en]
    constructor
    · intro y
      exact ⟨Nat.le_of_not_lt (fun z => nI_ge z (by omega) y.1), Nat.le_of_not_lt (fun z => nI_ge z (by omega) y.2)⟩
    · exact fun y => ⟨nI_le y.1 (by omega), nI_le y.2 (by omega)⟩
  refine vB1 (fun q2 => ?_) (fun q2 => ?_)
  · have q3 := hiff.mp q2
    have h1 := h1 q q3.1 q3.2
    rw [← en] at h1
    exact xgo [21] 20 (xp_given rfl (xgo [] 20 ⟨rfl, nb rfl, m_next hs l1 rp mk sl (fun a1 a2 a3 a4 a5 mk' => ⟨rfl, h1 a1 a2 a3 a4 a5 mk'⟩)⟩))
  · exact ⟨rfl, nb rfl, m_fails (k := 4) mk ⟨rfl, h0 4 (Or.inr ⟨q, fun y => q2 (hiff.mpr y), rfl⟩)⟩⟩
end XMQ
