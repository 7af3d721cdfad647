/-! the reference reads a law: the whole way -/
theorem op1_of {C : Nat → Nat} {l s : Nat} (h : ¬ op1 C l s = 0) : isG C l s 42 ∧ op1 C l s = 22 := by
  unfold op1 at h ⊢
  split at h
  · rename_i q; exact ⟨q, if_pos q⟩
  · exact absurd rfl h
theorem op2_of {C : Nat → Nat} {l s : Nat} (h : ¬ op2 C l s = 0) : (isG C l s 43 ∨ isG C l s 45) ∧ op2 C l s = (if isG C l s 43 then 20 else 21) := by
  unfold op2 at h ⊢
  split at h
  · rename_i q; exact ⟨Or.inl q, by rw [if_pos q, if_pos q]⟩
  · rename_i q
    split at h
    · rename_i q2; exact ⟨Or.inr q2, by rw [if_neg q, if_neg q, if_pos q2]⟩
    · exact absurd rfl h
theorem op3_of {C : Nat → Nat} {l s : Nat} (h : ¬ op3 C l s = 0) : (isG C l s 60 ∨ isG C l s 61) ∧ op3 C l s = (if isG C l s 60 then 24 else 25) := by
  unfold op3 at h ⊢
  split at h
  · rename_i q; exact ⟨Or.inl q, by rw [if_pos q, if_pos q]⟩
  · rename_i q
    split at h
    · rename_i q2; exact ⟨Or.inr q2, by rw [if_neg q, if_neg q, if_pos q2]⟩
    · exact absurd rfl h
theorem op4_of {C : Nat → Nat} {l s : Nat} (h : ¬ op4 C l s = 0) : (isW C l s 1111 ∨ isW C l s 423) ∧ op4 C l s = (if isW C l s 1111 then 26 else 27) := by
  unfold op4 at h ⊢
  split at h
  · rename_i q; exact ⟨Or.inl q, by rw [if_pos q, if_pos q]⟩
  · rename_i q
    split at h
    · rename_i q2; exact ⟨Or.inr q2, by rw [if_neg q, if_neg q, if_pos q2]⟩
    · exact absurd rfl h
theorem op1_no {C : Nat → Nat} {l s : Nat} (h : op1 C l s = 0) : ¬ isG C l s 42 := fun y => by
  rw [op1, if_pos y] at h
  omega
theorem op2_no {C : Nat → Nat} {l s : Nat} (h : op2 C l s = 0) : ¬ isG C l s 43 ∧ ¬ isG C l s 45 := by
  unfold op2 at h
  split at h
  · omega
  · rename_i q
    split at h
    · omega
    · rename_i q2; exact ⟨q, q2⟩
theorem op3_no {C : Nat → Nat} {l s : Nat} (h : op3 C l s = 0) : ¬ isG C l s 60 ∧ ¬ isG C l s 61 := by
  unfold op3 at h
  split at h
  · omega
  · rename_i q
    split at h
    · omega
    · rename_i q2; exact ⟨q, q2⟩
theorem op4_no {C : Nat → Nat} {l s : Nat} (h : op4 C l s = 0) : ¬ isW C l s 1111 ∧ ¬ isW C l s 423 := by
  unfold op4 at h
  split at h
  · omega
  · rename_i q
    split at h
    · omega
    · rename_i q2; exact ⟨q, q2⟩
theorem gNe {C : Nat → Nat} {l s a b : Nat} (h : isG C l s a) (n : ¬ a = b) : ¬ isG C l s b := fun y => n (h.2.symm.trans y.2)
theorem gNw {C : Nat → Nat} {l s a b : Nat} (h : isG C l s a) : ¬ isW C l s b := fun y => by have := h.1; have := y.1; omega
theorem wNg {C : Nat → Nat} {l s a b : Nat} (h : isW C l s a) : ¬ isG C l s b := fun y => by have := h.1; have := y.1; omega
section XML
variable {L : Nat} {xs : Nat → Int32} {d : Nat} {Q : XQt} {pn pc : Int32} {tok : TTok} {ship : TShip} {nn : Int64} {tl : Int32} {draft : TShip} {vd : TVoy} {log : TLog} {trial : TCrew} {sta : TSta} {says : Fn} {seed : Int64} {past : Nat → TCrew} {marks : Nat → TLog} {K : XWd}
variable {m_thrown : Int32} {m_taped : Int32} {m_size : Int32} {m_place : Int32} {m_begin : Int32} {m_token : Int32} {m_word : Int64} {m_told : Int32} {m_wrong : Int32} {m_code : Int32} {m_toldLines : Int32} {m_given : Int32} {m_fresh : Int64} {m_done : Int32} {m_odd : Int32} {m_bestRank : Int32} {m_leastSpray : Int32} {m_g : Int64} {m_tape : Fn} {m_ship : Fn} {m_manName : Fl} {m_postName : Fl} {m_kind : Fn} {m_greenTold : Fn} {m_hands : Fn} {m_spray : Fn} {m_holds : Fn} {m_sea : Fn} {m_lineFrom : Fn} {m_lineTo : Fn} {m_codes : Fn} {m_opened : Fn} {m_compared : Fn} {m_kept : Fn} {m_keptBy : Fn} {m_ahead : Fn} {m_against : Fn} {m_sum : Fn} {m_sumBy : Fn} {m_term : Fn} {m_termBy : Fn} {m_byNot : Fn} {m_valueOf : Fn} {m_lines : Fn} {m_lineWhat : Fn} {m_lineA : Fn} {m_lineB : Fn} {m_seens : Fn} {m_seenMan : Fn} {m_seenOther : Fn} {m_seenAt : Fn} {m_seenGreener : Fn} {m_s : Fn} {m_aside : Fn} {m_before : Fn} {m_marked : Fn} {m_undone : Fn} {m_isLaid : Fn} {m_more : Fn} {m_row : Fn} {m_bestRow : Fn} {m_greenerBy : Fl}
variable {C : Nat → Nat} {l s c dp : Nat} {op cm cs cs0 : Fn} {x3 x4 x5 : Option Value}
theorem rd_aut (hs : m_size = nI l) (l1 : l ≤ 1000) (rp : RpC m_tape C l) : Aut C l (fun dp s op cm cs c => 1000 ≤ c → (∀ k, k < 1000 → cs k = cs0 k) → ∀ x3 x4 x5 m_place m_begin m_token m_word m_told, MkR m_token m_begin m_place m_told m_word C l s → XWp (xF L xs) (some .boolean) xP191 (XC (xF L xs) xmeths (d + 2)) Q 9 [orf 169, oi (nI dp), oi 1, x3, x4, x5] [] (clsW pn pc tok ship nn tl draft vd log trial sta says seed past marks (mdlX m_thrown m_taped m_size m_place m_begin m_token m_word m_told m_wrong (nI c) m_toldLines m_given m_fresh m_done m_odd m_bestRank m_leastSpray m_g m_tape m_ship m_manName m_postName m_kind m_greenTold m_hands m_spray m_holds m_sea m_lineFrom m_lineTo cs op cm m_kept m_keptBy m_ahead m_against m_sum m_sumBy m_term m_termBy m_byNot m_valueOf m_lines m_lineWhat m_lineA m_lineB m_seens m_seenMan m_seenOther m_seenAt m_seenGreener m_s m_aside m_before m_marked m_undone m_isLaid m_more m_row m_bestRow m_greenerBy K))) (fun dp s op cm cs c => 1000 ≤ c → (∀ k, k < 1000 → cs k = cs0 k) → ∀ x3 x4 x5 m_place m_begin m_token m_word m_told, MkR m_token m_begin m_place m_told m_word C l s → XWp (xF L xs) (some .boolean) xP191 (XC (xF L xs) xmeths (d + 2)) Q 9 [orf 169, oi (nI dp), oi 0, x3, x4, x5] [] (clsW pn pc tok ship nn tl draft vd log trial sta says seed past marks (mdlX m_thrown m_taped m_size m_place m_begin m_token m_word m_told m_wrong (nI c) m_toldLines m_given m_fresh m_done m_odd m_bestRank m_leastSpray m_g m_tape m_ship m_manName m_postName m_kind m_greenTold m_hands m_spray m_holds m_sea m_lineFrom m_lineTo cs op cm m_kept m_keptBy m_ahead m_against m_sum m_sumBy m_term m_termBy m_byNot m_valueOf m_lines m_lineWhat m_lineA m_lineB m_seens m_seenMan m_seenOther m_seenAt m_seenGreener m_s m_aside m_before m_marked m_undone m_isLaid m_more m_row m_bestRow m_greenerBy K))) (fun f => ∀ m_opened m_compared m_codes m_code m_place m_begin m_token m_word m_told, (∀ k, k < 1000 → m_codes k = cs0 k) → Q (some (.int 0)) (clsW pn pc tok ship nn tl draft vd log trial sta says seed past marks (mdlX m_thrown m_taped m_size m_place m_begin m_token m_word m_told (nI f) m_code m_toldLines m_given m_fresh m_done m_odd m_bestRank m_leastSpray m_g m_tape m_ship m_manName m_postName m_kind m_greenTold m_hands m_spray m_holds m_sea m_lineFrom m_lineTo m_codes m_opened m_compared m_kept m_keptBy m_ahead m_against m_sum m_sumBy m_term m_termBy m_byNot m_valueOf m_lines m_lineWhat m_lineA m_lineB m_seens m_seenMan m_seenOther m_seenAt m_seenGreener m_s m_aside m_before m_marked m_undone m_isLaid m_more m_row m_bestRow m_greenerBy K))) := by
  refine ⟨?_, ?_, ?_, ?_, ?_, ?_, ?_, ?_, ?_, ?_, ?_⟩
  · intro dp s op cm cs c hd sl cb q fl c0 lo x3 x4 x5 t1 t2 t3 t4 t5 mk
    exact rd_want hs l1 rp mk (fun _ => fl op cm cs (nI c) t1 t2 t3 t4 t5 lo) (fun y => absurd q y)
  · intro s op cm cs c sl cb q fl c0 lo x3 x4 x5 t1 t2 t3 t4 t5 mk
    exact rd_deep hs l1 rp mk q (fl op cm cs (nI c) t1 t2 t3 t4 t5 lo)
  · intro dp s op cm cs c hd sl cb q k c0 lo x3 x4 x5 t1 t2 t3 t4 t5 mk
    exact rd_plain hs l1 rp mk sl hd (by omega) q (k (by omega) (low_upd c0 lo))
  · intro dp s op cm cs c hd sl cb q k c0 lo x3 x4 x5 t1 t2 t3 t4 t5 mk
    exact rd_nots hs l1 rp mk sl hd (by omega) q (k (by omega) (low_upd c0 lo))
  · intro dp s op cm cs c hd sl cb q k c0 lo x3 x4 x5 t1 t2 t3 t4 t5 mk
    exact rd_opens hs l1 rp mk sl hd (by omega) q (k (by omega) (low_upd c0 lo))
  · intro dp s op cm cs c hd sl cb q k c0 lo x3 x4 x5 t1 t2 t3 t4 t5 mk
    have ⟨q1, e1⟩ := op1_of q
    exact rd_bin hs l1 rp mk sl (by omega) (Or.inr (Or.inr q1)) (by rw [e1, if_neg (gNe q1 (by decide)), if_neg (gNe q1 (by decide))]) (k (by omega) (low_upd c0 lo) x3 x4 x5)
  · intro dp s op cm cs c hd sl cb q k c0 lo x3 x4 x5 t1 t2 t3 t4 t5 mk
    have ⟨q1, e1⟩ := op2_of q
    refine rd_bin hs l1 rp mk sl (by omega) (q1.elim Or.inl (fun y => Or.inr (Or.inl y))) ?_ (k (by omega) (low_upd c0 lo) x3 x4 x5)
    rw [e1]
    by_cases y : isG C l s 43
    · rw [if_pos y, if_pos y]
    · rw [if_neg y, if_neg y, if_pos (q1.elim (fun z => absurd z y) id)]
  · intro dp s op cm cs c hd sl cb q z k c0 lo x3 x4 x5 t1 t2 t3 t4 t5 mk
    have ⟨q1, e1⟩ := op3_of q
    refine rd_no1 hs l1 rp mk ?_ (rd_cmp hs l1 rp mk sl (by omega) (by omega) q1 z e1 (k (by omega) (low_upd c0 lo) x3 x4 x5))
    rcases q1 with y | y <;> exact ⟨gNe y (by decide), gNe y (by decide), gNe y (by decide)⟩
  · intro dp s op cm cs c hd sl cb q k c0 lo x3 x4 x5 t1 t2 t3 t4 t5 mk
    have ⟨q1, e1⟩ := op4_of q
    refine rd_no1 hs l1 rp mk ?_ (rd_no2 hs l1 rp mk (by omega) (Or.inl ?_) (rd_con hs l1 rp mk sl (by omega) (by omega) q1 e1 (k (by omega) (low_upd c0 lo) x3 x4 x5)))
    · rcases q1 with y | y <;> exact ⟨wNg y, wNg y, wNg y⟩
    · rcases q1 with y | y <;> exact ⟨wNg y, wNg y⟩
  · intro dp s op cm cs c hd sl cb q k c0 lo x3 x4 x5 t1 t2 t3 t4 t5 mk
    refine rd_no1 hs l1 rp mk ⟨gNe q (by decide), gNe q (by decide), gNe q (by decide)⟩ (rd_no2 hs l1 rp mk (by omega) (Or.inl ⟨gNe q (by decide), gNe q (by decide)⟩) (rd_no3 hs l1 rp mk ⟨gNw q, gNw q⟩ ?_))
    exact rd_clo hs l1 rp mk sl (by omega) (by omega) q (k (by omega) (low_upd c0 lo) x3 x4 x5)
  · intro dp s op cm cs c hd sl cb e1 e2 e4 e3 q1 q2 fl c0 lo x3 x4 x5 t1 t2 t3 t4 t5 mk
    refine rd_no1 hs l1 rp mk ⟨(op2_no e2).1, (op2_no e2).2, op1_no e1⟩ (rd_no2 hs l1 rp mk (by omega) (e3.elim (fun y => Or.inl (op3_no y)) Or.inr) (rd_no3 hs l1 rp mk (op4_no e4) ?_))
    exact rd_bad hs l1 rp mk (by omega) q1 q2 (fl op cm cs (nI c) t1 t2 t3 t4 t5 lo)
/-- the law is read, and what ends it -/
theorem m_reads (hs : m_size = nI l) (l1 : l ≤ 1000) (rp : RpC m_tape C l) (mk : MkR m_token m_begin m_place m_told m_word C l s) (sl : s ≤ l) (hc : m_code = nI 1000) (hlo : ∀ k, k < 1000 → m_codes k = cs0 k) (h0 : ∀ f, (allP C l (parP C l 5) s = .inl f ∨ ∃ s' st cd, allP C l (parP C l 5) s = .inr (s', st, cd) ∧ ¬ isG C l s' 59 ∧ f = 1 + 16 * s') → ∀ m_opened m_compared m_codes m_code m_place m_begin m_token m_word m_told, (∀ k, k < 1000 → m_codes k = cs0 k) → Q (some (.int 0)) (clsW pn pc tok ship nn tl draft vd log trial sta says seed past marks (mdlX m_thrown m_taped m_size m_place m_begin m_token m_word m_told (nI f) m_code m_toldLines m_given m_fresh m_done m_odd m_bestRank m_leastSpray m_g m_tape m_ship m_manName m_postName m_kind m_greenTold m_hands m_spray m_holds m_sea m_lineFrom m_lineTo m_codes m_opened m_compared m_kept m_keptBy m_ahead m_against m_sum m_sumBy m_term m_termBy m_byNot m_valueOf m_lines m_lineWhat m_lineA m_lineB m_seens m_seenMan m_seenOther m_seenAt m_seenGreener m_s m_aside m_before m_marked m_undone m_isLaid m_more m_row m_bestRow m_greenerBy K))) (h1 : ∀ s' st cd, allP C l (parP C l 5) s = .inr (s', st, cd) → isG C l s' 59 → ∀ m_opened m_compared m_place m_begin m_token m_word m_told, MkR m_token m_begin m_place m_told m_word C l (tkX C l s') → (∀ k, k < 1000 → layF m_codes 1000 cd k = cs0 k) → Q (some (.int 1)) (clsW pn pc tok ship nn tl draft vd log trial sta says seed past marks (mdlX m_thrown m_taped m_size m_place m_begin m_token m_word m_told m_wrong (nI (1000 + cd.length)) m_toldLines m_given m_fresh m_done m_odd m_bestRank m_leastSpray m_g m_tape m_ship m_manName m_postName m_kind m_greenTold m_hands m_spray m_holds m_sea m_lineFrom m_lineTo (layF m_codes 1000 cd) m_opened m_compared m_kept m_keptBy m_ahead m_against m_sum m_sumBy m_term m_termBy m_byNot m_valueOf m_lines m_lineWhat m_lineA m_lineB m_seens m_seenMan m_seenOther m_seenAt m_seenGreener m_s m_aside m_before m_marked m_undone m_isLaid m_more m_row m_bestRow m_greenerBy K))) : XC (xF L xs) xmeths (d + 3) 191 [.ref 169] (clsW pn pc tok ship nn tl draft vd log trial sta says seed past marks (mdlX m_thrown m_taped m_size m_place m_begin m_token m_word m_told m_wrong m_code m_toldLines m_given m_fresh m_done m_odd m_bestRank m_leastSpray m_g m_tape m_ship m_manName m_postName m_kind m_greenTold m_hands m_spray m_holds m_sea m_lineFrom m_lineTo m_codes m_opened m_compared m_kept m_keptBy m_ahead m_against m_sum m_sumBy m_term m_termBy m_byNot m_valueOf m_lines m_lineWhat m_lineA m_lineB m_seens m_seenMan m_seenOther m_seenAt m_seenGreener m_s m_aside m_before m_marked m_undone m_isLaid m_more m_row m_bestRow m_greenerBy K)) Q := by
  subst hc
  refine ⟨nb rfl, xgo [9] 20 ⟨nb rfl, nb rfl, vp_in_nI (n := 0) (by decide) (by decide), ?_⟩⟩
  have A := rd_aut (cs0 := cs0) (Q := Q) (d := d) (pn := pn) (pc := pc) (tok := tok) (ship := ship) (nn := nn) (tl := tl) (draft := draft) (vd := vd) (log := log) (trial := trial) (sta := sta) (says := says) (seed := seed) (past := past) (marks := marks) (K := K) (L := L) (xs := xs) (m_thrown := m_thrown) (m_taped := m_taped) (m_wrong := m_wrong) (m_toldLines := m_toldLines) (m_given := m_given) (m_fresh := m_fresh) (m_done := m_done) (m_odd := m_odd) (m_bestRank := m_bestRank) (m_leastSpray := m_leastSpray) (m_g := m_g) (m_ship := m_ship) (m_manName := m_manName) (m_postName := m_postName) (m_kind := m_kind) (m_greenTold := m_greenTold) (m_hands := m_hands) (m_spray := m_spray) (m_holds := m_holds) (m_sea := m_sea) (m_lineFrom := m_lineFrom) (m_lineTo := m_lineTo) (m_kept := m_kept) (m_keptBy := m_keptBy) (m_ahead := m_ahead) (m_against := m_against) (m_sum := m_sum) (m_sumBy := m_sumBy) (m_term := m_term) (m_termBy := m_termBy) (m_byNot := m_byNot) (m_valueOf := m_valueOf) (m_lines := m_lines) (m_lineWhat := m_lineWhat) (m_lineA := m_lineA) (m_lineB := m_lineB) (m_seens := m_seens) (m_seenMan := m_seenMan) (m_seenOther := m_seenOther) (m_seenAt := m_seenAt) (m_seenGreener := m_seenGreener) (m_s := m_s) (m_aside := m_aside) (m_before := m_before) (m_marked := m_marked) (m_undone := m_undone) (m_isLaid := m_isLaid) (m_more := m_more) (m_row := m_row) (m_bestRow := m_bestRow) (m_greenerBy := m_greenerBy) hs l1 rp
  have R := law_run l1 A s m_opened (upd m_compared 0 0) m_codes 1000 sl (by omega) (Or.inl rfl) (pk_us ..)
  refine (congrArg (XWp (xF L xs) (some .boolean) xP191 (XC (xF L xs) xmeths (d + 2)) Q 9 [orf 169, oi (nI 0), oi 1, none, none, none] []) (st_compared (x := upd m_compared 0 0))).mpr ?_
  cases e : allP C l (parP C l 5) s with
  | inl f =>
    exact R.1 f e (h0 f (Or.inl e)) (Nat.le_refl _) hlo none none none _ _ _ _ _ mk
  | inr r =>
    rcases r with ⟨s', st, cd⟩
    have fw := all_fw (par_fw 5) _ sl _ _ _ e
    refine R.2 s' st cd e (fun op' cm' a1 a2 a3 c0 lo x3 x4 x5 t1 t2 t3 t4 t5 mk' => ?_) (Nat.le_refl _) hlo none none none _ _ _ _ _ mk
    by_cases q : isG C l s' 59
    · have hsl : s' < l := tkK_lt (by rw [q.1]; decide)
      refine rd_no1 hs l1 rp mk' ⟨gNe q (by decide), gNe q (by decide), gNe q (by decide)⟩ (rd_no2 hs l1 rp mk' (by omega) (Or.inl ⟨gNe q (by decide), gNe q (by decide)⟩) (rd_no3 hs l1 rp mk' ⟨gNw q, gNw q⟩ ?_))
      exact rd_fin hs l1 rp mk' hsl q (fun b1 b2 b3 b4 b5 mk2 => h1 s' st cd e q op' cm' b1 b2 b3 b4 b5 mk2 lo)
    · exact A.bad 0 s' op' cm' _ _ (by omega) fw.2.1 (by omega) a3.1.1 a3.1.2.1 a3.2 a3.1.2.2 (fun _ => rfl) (fun y => absurd y q) (h0 (1 + 16 * s') (Or.inr ⟨s', st, cd, e, q, rfl⟩)) c0 lo x3 x4 x5 t1 t2 t3 t4 t5 mk'
end XML
