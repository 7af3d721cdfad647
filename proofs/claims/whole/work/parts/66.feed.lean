/-! signs fed -/
def okS (s : Nat) : Prop := s = 10 ∨ (32 ≤ s ∧ s ≤ 126)
def push1 (s : Nat) (x : Nat × Fn) : Nat × Fn := if (s = 10 ∨ (32 ≤ s ∧ s ≤ 126)) ∧ x.1 < 1000 then (x.1 + 1, upd x.2 x.1 (nI s)) else x
def bytN (e j : Nat) : Nat := e / 2 ^ (56 - 8 * j) % 256
def psh (e : Nat) (x : Nat × Fn) : Nat → Nat × Fn
  | 0 => x
  | j + 1 => push1 (bytN e j) (psh e x j)
def fd3 (a b c : Nat) (x : Nat × Fn) : Nat → Nat × Fn
  | 0 => x
  | k + 1 => push1 (bytN (if k < 8 then a else if k < 16 then b else c) (k % 8)) (fd3 a b c x k)
theorem fd3_eq {a b c : Nat} {x : Nat × Fn} : fd3 a b c x 24 = psh c (psh b (psh a x 8) 8) 8 := by
  simp only [fd3, psh]
  rfl
theorem push1_le {s : Nat} {x : Nat × Fn} (h : x.1 ≤ 1000) : (push1 s x).1 ≤ 1000 := by
  simp only [push1]
  split
  · rename_i q
    show x.1 + 1 ≤ 1000
    omega
  · exact h
theorem psh_le {e : Nat} {x : Nat × Fn} (h : x.1 ≤ 1000) : ∀ j, (psh e x j).1 ≤ 1000
  | 0 => h
  | j + 1 => push1_le (psh_le h j)
theorem fd3_le {a b c : Nat} {x : Nat × Fn} (h : x.1 ≤ 1000) : ∀ j, (fd3 a b c x j).1 ≤ 1000
  | 0 => h
  | j + 1 => push1_le (fd3_le h j)
/-- two tapes of one text -/
def TpE (x y : Nat × Fn) : Prop := x.1 = y.1 ∧ ∀ k, k < x.1 → x.2 k = y.2 k
theorem push1_e {s : Nat} {x y : Nat × Fn} (h : TpE x y) : TpE (push1 s x) (push1 s y) := by
  have ⟨h1, h2⟩ := h
  simp only [push1]
  rw [← h1]
  split
  · refine ⟨rfl, fun k hk => ?_⟩
    show upd x.2 x.1 (nI s) k = upd y.2 x.1 (nI s) k
    by_cases q : k = x.1
    · rw [q, pk_us, pk_us]
    · rw [pk_un q, pk_un q]
      have hk : k < x.1 + 1 := hk
      exact h2 k (by omega)
  · exact ⟨h1, h2⟩
theorem psh_e {e : Nat} {x y : Nat × Fn} (h : TpE x y) : ∀ j, TpE (psh e x j) (psh e y j)
  | 0 => h
  | j + 1 => push1_e (psh_e h j)
def TpOk (x : Nat × Fn) : Prop := ∀ k, k < x.1 → ∃ s, okS s ∧ x.2 k = nI s
theorem push1_ok {s : Nat} {x : Nat × Fn} (h : TpOk x) : TpOk (push1 s x) := by
  simp only [push1]
  split
  · rename_i q
    intro k hk
    show ∃ s', okS s' ∧ upd x.2 x.1 (nI s) k = nI s'
    by_cases y : k = x.1
    · exact ⟨s, q.1, by rw [y, pk_us]⟩
    · rw [pk_un y]
      have hk : k < x.1 + 1 := hk
      exact h k (by omega)
  · exact h
theorem psh_ok {e : Nat} {x : Nat × Fn} (h : TpOk x) : ∀ j, TpOk (psh e x j)
  | 0 => h
  | j + 1 => push1_ok (psh_ok h j)
theorem nar_b : ∀ s, s < 127 → vp_nar .byte ((nI s).toInt8.toInt32) = nI s := by decide +kernel
theorem and255 (a : Nat) : nI a &&& 255 = nI (a % 256) := by
  rw [show (255 : Int32) = nI 255 from rfl, nI_and, show (255 : Nat) = 2 ^ 8 - 1 by decide, Nat.and_two_pow_sub_one_eq_mod]
theorem and255l (a : Nat) : lN a &&& lN 255 = lN (a % 256) := by
  rw [l_and, show (255 : Nat) = 2 ^ 8 - 1 by decide, Nat.and_two_pow_sub_one_eq_mod]
abbrev TTok.tp (t : TTok) (x : Nat × Fn) : TTok := (x.2, t.kind, t.start, t.next, nI x.1, t.number, t.taken, t.name, t.fault)
section XFD
variable {L : Nat} {xs : Nat → Int32} {d : Nat} {Q : XQt} {pn pc : Int32} {tok : TTok} {ship : TShip} {nn : Int64} {tl : Int32} {draft : TShip} {vd : TVoy} {log : TLog} {trial : TCrew} {sta : TSta} {says : Fn} {seed : Int64} {past : Nat → TCrew} {marks : Nat → TLog} {K : XWd}
variable {m_thrown : Int32} {m_taped : Int32} {m_size : Int32} {m_place : Int32} {m_begin : Int32} {m_token : Int32} {m_word : Int64} {m_told : Int32} {m_wrong : Int32} {m_code : Int32} {m_toldLines : Int32} {m_given : Int32} {m_fresh : Int64} {m_done : Int32} {m_odd : Int32} {m_bestRank : Int32} {m_leastSpray : Int32} {m_g : Int64} {m_tape : Fn} {m_ship : Fn} {m_manName : Fl} {m_postName : Fl} {m_kind : Fn} {m_greenTold : Fn} {m_hands : Fn} {m_spray : Fn} {m_holds : Fn} {m_sea : Fn} {m_lineFrom : Fn} {m_lineTo : Fn} {m_codes : Fn} {m_opened : Fn} {m_compared : Fn} {m_kept : Fn} {m_keptBy : Fn} {m_ahead : Fn} {m_against : Fn} {m_sum : Fn} {m_sumBy : Fn} {m_term : Fn} {m_termBy : Fn} {m_byNot : Fn} {m_valueOf : Fn} {m_lines : Fn} {m_lineWhat : Fn} {m_lineA : Fn} {m_lineB : Fn} {m_seens : Fn} {m_seenMan : Fn} {m_seenOther : Fn} {m_seenAt : Fn} {m_seenGreener : Fn} {m_s : Fn} {m_aside : Fn} {m_before : Fn} {m_marked : Fn} {m_undone : Fn} {m_isLaid : Fn} {m_more : Fn} {m_row : Fn} {m_bestRow : Fn} {m_greenerBy : Fl}
theorem c_addSigns {e l : Nat} (he : e < 2 ^ 64) (hl : tok.length = nI l) (l1 : l ≤ 1000) (h : Q none (clsW pn pc (tok.tp (psh e (l, tok.signs) 8)) ship nn tl draft vd log trial sta says seed past marks K)) : XC (xF L xs) xmeths (d + 1) 19 [.ref 1, .long (lN e)] (clsW pn pc tok ship nn tl draft vd log trial sta says seed past marks K) Q := by
  refine ⟨nb rfl, xgo [2] 20 ⟨nb rfl, ?_⟩⟩
  have start := up_to (P := fun j => ∀ (tok' : TTok) (x3 : Int32) x4 x5, tok' = tok.tp (psh e (l, tok.signs) j) → x3 = (if j = 8 then -8 else nI (56 - 8 * j)) → XWp (xF L xs) none xP19 (XC (xF L xs) xmeths d) Q 2 [orf 1, ol (lN e), none, oi x3, x4, x5] [] (clsW pn pc tok' ship nn tl draft vd log trial sta says seed past marks K)) (n := 8) (fun j hj ih tok' x3 x4 x5 et ex => ?_) tok (nI 56) none none (by rw [psh, TTok.tp, ← hl]) rfl
  · exact start
  by_cases hj8 : j = 8
  · subst hj8
    rw [if_pos rfl] at ex
    subst ex et
    exact xgo [2] 20 (vTd rfl ⟨rfl, h⟩)
  rw [if_neg hj8] at ex
  subst ex
  have ih := ih (by omega)
  have hle := psh_le (e := e) (x := (l, tok.signs)) l1 j
  rw [psh] at ih
  generalize hX : psh e (l, tok.signs) j = X at *
  rcases X with ⟨lk, Tk⟩
  simp only at hle
  subst et
  have es : ((lN e).toUInt64 >>> ((nI (56 - 8 * j)).toInt64.toUInt64 &&& Int64.toUInt64 63)).toInt64.toInt32 &&& Int32.ofInt 255 = nI (bytN e j) := by
    rw [l_ushr he (by omega), lN_i]
    exact and255 _
  have hb256 : bytN e j < 256 := Nat.mod_lt _ (by decide)
  have ex : nI (56 - 8 * j) + Int32.ofInt (-8) = (if j + 1 = 8 then -8 else nI (56 - 8 * (j + 1))) := by
    have : j = 0 ∨ j = 1 ∨ j = 2 ∨ j = 3 ∨ j = 4 ∨ j = 5 ∨ j = 6 ∨ j = 7 := by omega
    rcases this with rfl | rfl | rfl | rfl | rfl | rfl | rfl | rfl <;> decide
  refine xgo [2, 23, 43] 60 (vF (show ¬ nI (56 - 8 * j) < 0 from nI_pos (by omega)) ⟨nb rfl, ?_⟩)
  rw [es]
  generalize hs : bytN e j = s at ih hb256 ⊢
  have a43 : ∀ (tok' : TTok) x5, tok' = tok.tp (push1 s (lk, Tk)) → XWp (xF L xs) none xP19 (XC (xF L xs) xmeths d) Q 43 [orf 1, ol (lN e), none, oi (nI (56 - 8 * j)), oi (nI s), x5] [] (clsW pn pc tok' ship nn tl draft vd log trial sta says seed past marks K) := by
    intro tok' x5 et
    exact xgo [2] 20 (ih tok' (nI (56 - 8 * j) + Int32.ofInt (-8)) (oi (nI s)) x5 et ex)
  have a23 : ∀ v : Int32, (s = 10 ∨ (32 ≤ s ∧ s ≤ 126)) ∧ v = 1 ∨ ¬ (s = 10 ∨ (32 ≤ s ∧ s ≤ 126)) ∧ v = 0 → XWp (xF L xs) none xP19 (XC (xF L xs) xmeths d) Q 23 [orf 1, ol (lN e), none, oi (nI (56 - 8 * j)), oi (nI s), x5] [.int v] (clsW pn pc (tok.tp (lk, Tk)) ship nn tl draft vd log trial sta says seed past marks K) := by
    intro v hv
    rcases hv with ⟨hv, rfl⟩ | ⟨hv, rfl⟩
    · refine xgo [43] 40 ⟨nb rfl, vFd rfl ?_⟩
      refine pk_le 1000 lk (fun q2 => a43 _ _ (by rw [push1, if_neg (fun y => by omega)])) (fun q2 => ?_) rfl rfl (by omega) (by omega)
      refine ⟨vp_in_nI (by omega) (by omega), ?_⟩
      rw [nI_clamp (by omega), nar_b s (by omega)]
      refine a43 (upd Tk lk (nI s), tok.kind, tok.start, tok.next, nI lk + 1, tok.number, tok.taken, tok.name, tok.fault) _ ?_
      rw [push1, if_pos ⟨hv, q2⟩, TTok.tp, nI_succ]
    · exact xgo [43] 40 ⟨nb rfl, vTd rfl (a43 _ _ (by rw [push1, if_neg (fun y => hv y.1)]))⟩
  refine pk_eq s 10 (fun q3 => a23 1 (Or.inl ⟨Or.inl q3, rfl⟩)) (fun q3 => ?_) rfl rfl (by omega) (by omega)
  refine pk_lt s 32 (fun q4 => a23 0 (Or.inr ⟨fun y => by omega, rfl⟩)) (fun q4 => ?_) rfl rfl (by omega) (by omega)
  refine pk_lt 126 s (fun q5 => a23 0 (Or.inr ⟨fun y => by omega, rfl⟩)) (fun q5 => a23 1 (Or.inl ⟨Or.inr ⟨q4, q5⟩, rfl⟩)) rfl rfl (by omega) (by omega)
theorem c_feed {xa xb xc : Int64} {a b c l : Nat} (ea : xa = lN a) (eb : xb = lN b) (ec : xc = lN c) (ha : a < 2 ^ 64) (hb : b < 2 ^ 64) (hc : c < 2 ^ 64) (hl : tok.length = nI l) (l1 : l ≤ 1000) (h : Q (some (.int (nI (psh c (psh b (psh a (l, tok.signs) 8) 8) 8).1))) (clsW pn pc (tok.tp (psh c (psh b (psh a (l, tok.signs) 8) 8) 8)) ship nn tl draft vd log trial sta says seed past marks K)) : XC (xF L xs) xmeths (d + 2) 18 [.ref 0, .long xa, .long xb, .long xc] (clsW pn pc tok ship nn tl draft vd log trial sta says seed past marks K) Q := by
  subst ea eb ec
  exact ⟨nb rfl, xgo [] 40 ⟨rfl, nb rfl, c_addSigns ha hl l1 ⟨rfl, nb rfl, c_addSigns hb rfl (psh_le l1 8) ⟨rfl, nb rfl, c_addSigns hc rfl (psh_le (psh_le l1 8) 8) h⟩⟩⟩⟩
theorem m_feed {xa xb xc : Int64} {a b c l : Nat} (ea : xa = lN a) (eb : xb = lN b) (ec : xc = lN c) (ha : a < 2 ^ 64) (hb : b < 2 ^ 64) (hc : c < 2 ^ 64) (hl : m_taped = nI l) (l1 : l ≤ 1000) (h : Q (some (.int (nI (psh c (psh b (psh a (l, m_tape) 8) 8) 8).1))) (clsW pn pc tok ship nn tl draft vd log trial sta says seed past marks (mdlX 0 (nI (psh c (psh b (psh a (l, m_tape) 8) 8) 8).1) m_size m_place m_begin m_token m_word m_told m_wrong m_code m_toldLines m_given m_fresh m_done m_odd m_bestRank m_leastSpray m_g ((psh c (psh b (psh a (l, m_tape) 8) 8) 8).2) m_ship m_manName m_postName m_kind m_greenTold m_hands m_spray m_holds m_sea m_lineFrom m_lineTo m_codes m_opened m_compared m_kept m_keptBy m_ahead m_against m_sum m_sumBy m_term m_termBy m_byNot m_valueOf m_lines m_lineWhat m_lineA m_lineB m_seens m_seenMan m_seenOther m_seenAt m_seenGreener m_s m_aside m_before m_marked m_undone m_isLaid m_more m_row m_bestRow m_greenerBy K))) : XC (xF L xs) xmeths (d + 1) 169 [.ref 169, .long xa, .long xb, .long xc] (clsW pn pc tok ship nn tl draft vd log trial sta says seed past marks (mdlX m_thrown m_taped m_size m_place m_begin m_token m_word m_told m_wrong m_code m_toldLines m_given m_fresh m_done m_odd m_bestRank m_leastSpray m_g m_tape m_ship m_manName m_postName m_kind m_greenTold m_hands m_spray m_holds m_sea m_lineFrom m_lineTo m_codes m_opened m_compared m_kept m_keptBy m_ahead m_against m_sum m_sumBy m_term m_termBy m_byNot m_valueOf m_lines m_lineWhat m_lineA m_lineB m_seens m_seenMan m_seenOther m_seenAt m_seenGreener m_s m_aside m_before m_marked m_undone m_isLaid m_more m_row m_bestRow m_greenerBy K)) Q := by
  subst ea eb ec
  rw [← fd3_eq] at h
  refine ⟨nb rfl, xgo [2] 20 (xp_thrown rfl (xgo [5] 20 ⟨nb rfl, ?_⟩))⟩
  refine up_to (P := fun k => ∀ m_taped m_tape' x8 x10, m_taped = nI (fd3 a b c (l, m_tape) k).1 → m_tape' = (fd3 a b c (l, m_tape) k).2 → XWp (xF L xs) (some .int) xP169 (XC (xF L xs) xmeths d) Q 5 [orf 169, ol (lN a), none, ol (lN b), none, ol (lN c), none, oi (nI k), x8, none, x10] [] (clsW pn pc tok ship nn tl draft vd log trial sta says seed past marks (mdlX 0 m_taped m_size m_place m_begin m_token m_word m_told m_wrong m_code m_toldLines m_given m_fresh m_done m_odd m_bestRank m_leastSpray m_g m_tape' m_ship m_manName m_postName m_kind m_greenTold m_hands m_spray m_holds m_sea m_lineFrom m_lineTo m_codes m_opened m_compared m_kept m_keptBy m_ahead m_against m_sum m_sumBy m_term m_termBy m_byNot m_valueOf m_lines m_lineWhat m_lineA m_lineB m_seens m_seenMan m_seenOther m_seenAt m_seenGreener m_s m_aside m_before m_marked m_undone m_isLaid m_more m_row m_bestRow m_greenerBy K))) (n := 24) (fun k hk ih m_taped m_tape' x8 x10 et em => xgo [5, 19, 57, 58] 60 ?_) m_taped m_tape none none hl rfl
  refine pk_le 24 k (fun q => ?_) (fun q => ?_) rfl rfl (by omega) (by omega)
  · have e : k = 24 := by omega
    subst e
    rw [← et, ← em] at h
    exact h
  · have ih := ih q
    have hle := fd3_le (a := a) (b := b) (c := c) (x := (l, m_tape)) l1 k
    rw [fd3] at ih
    generalize hX : fd3 a b c (l, m_tape) k = X at *
    rcases X with ⟨lk, Tk⟩
    simp only at et em hle
    subst et em
    have a19 : ∀ e : Nat, e < 2 ^ 64 → e = (if k < 8 then a else if k < 16 then b else c) → XWp (xF L xs) (some .int) xP169 (XC (xF L xs) xmeths d) Q 19 [orf 169, ol (lN a), none, ol (lN b), none, ol (lN c), none, oi (nI k), x8, none, x10] [.long (lN e)] (clsW pn pc tok ship nn tl draft vd log trial sta says seed past marks (mdlX 0 (nI lk) m_size m_place m_begin m_token m_word m_told m_wrong m_code m_toldLines m_given m_fresh m_done m_odd m_bestRank m_leastSpray m_g m_tape' m_ship m_manName m_postName m_kind m_greenTold m_hands m_spray m_holds m_sea m_lineFrom m_lineTo m_codes m_opened m_compared m_kept m_keptBy m_ahead m_against m_sum m_sumBy m_term m_termBy m_byNot m_valueOf m_lines m_lineWhat m_lineA m_lineB m_seens m_seenMan m_seenOther m_seenAt m_seenGreener m_s m_aside m_before m_marked m_undone m_isLaid m_more m_row m_bestRow m_greenerBy K)) := by
      intro e he hee
      rw [← hee] at ih
      have e7 : nI k &&& Int32.ofInt 7 = nI (k % 8) := pk_andN (by omega) 3 (by decide)
      have e8 : Int32.ofInt 56 - Int32.ofInt 8 * (nI k &&& Int32.ofInt 7) = nI (56 - 8 * (k % 8)) := by
        rw [e7, show Int32.ofInt 8 = nI 8 from rfl, pk_mul]
        exact pk_sub (a := 56) (by omega)
      have es : (((lN e).toUInt64 >>> ((Int32.ofInt 56 - Int32.ofInt 8 * (nI k &&& Int32.ofInt 7)).toInt64.toUInt64 &&& Int64.toUInt64 63)).toInt64 &&& Int64.ofNat 255).toInt32 = nI (bytN e (k % 8)) := by
        rw [e8, l_ushr he (by omega), show Int64.ofNat 255 = lN 255 from rfl, and255l, lN_i]
        rfl
      have hb256 : bytN e (k % 8) < 256 := Nat.mod_lt _ (by decide)
      refine xgo [46, 58] 60 ⟨nb rfl, nb rfl, ?_⟩
      rw [es]
      generalize hs : bytN e (k % 8) = s at ih hb256 ⊢
      have a58 : ¬ ((s = 10 ∨ (32 ≤ s ∧ s ≤ 126)) ∧ lk < 1000) → XWp (xF L xs) (some .int) xP169 (XC (xF L xs) xmeths d) Q 58 [orf 169, ol (lN a), none, ol (lN b), none, ol (lN c), none, oi (nI k), ol (lN e), none, oi (nI s)] [] (clsW pn pc tok ship nn tl draft vd log trial sta says seed past marks (mdlX 0 (nI lk) m_size m_place m_begin m_token m_word m_told m_wrong m_code m_toldLines m_given m_fresh m_done m_odd m_bestRank m_leastSpray m_g m_tape' m_ship m_manName m_postName m_kind m_greenTold m_hands m_spray m_holds m_sea m_lineFrom m_lineTo m_codes m_opened m_compared m_kept m_keptBy m_ahead m_against m_sum m_sumBy m_term m_termBy m_byNot m_valueOf m_lines m_lineWhat m_lineA m_lineB m_seens m_seenMan m_seenOther m_seenAt m_seenGreener m_s m_aside m_before m_marked m_undone m_isLaid m_more m_row m_bestRow m_greenerBy K)) := by
        intro y
        have ih := ih (nI lk) m_tape' (ol (lN e)) (oi (nI s)) (by rw [push1, if_neg y]) (by rw [push1, if_neg y])
        rw [nI_succ] at ih
        exact xgo [5] 20 ih
      refine pk_le 1000 lk (fun q2 => a58 (fun y => by omega)) (fun q2 => ?_) rfl rfl (by omega) (by omega)
      have a46 : (s = 10 ∨ (32 ≤ s ∧ s ≤ 126)) → XWp (xF L xs) (some .int) xP169 (XC (xF L xs) xmeths d) Q 46 [orf 169, ol (lN a), none, ol (lN b), none, ol (lN c), none, oi (nI k), ol (lN e), none, oi (nI s)] [] (clsW pn pc tok ship nn tl draft vd log trial sta says seed past marks (mdlX 0 (nI lk) m_size m_place m_begin m_token m_word m_told m_wrong m_code m_toldLines m_given m_fresh m_done m_odd m_bestRank m_leastSpray m_g m_tape' m_ship m_manName m_postName m_kind m_greenTold m_hands m_spray m_holds m_sea m_lineFrom m_lineTo m_codes m_opened m_compared m_kept m_keptBy m_ahead m_against m_sum m_sumBy m_term m_termBy m_byNot m_valueOf m_lines m_lineWhat m_lineA m_lineB m_seens m_seenMan m_seenOther m_seenAt m_seenGreener m_s m_aside m_before m_marked m_undone m_isLaid m_more m_row m_bestRow m_greenerBy K)) := by
        intro y
        refine xgo [57] 40 ⟨vp_in_nI (by omega) (by omega), ?_⟩
        rw [nI_clamp (by omega), st_tape]
        refine xp_taped rfl (xgo [5] 20 ?_)
        have ih := ih (nI lk + 1) (upd m_tape' lk (nI s)) (ol (lN e)) (oi (nI s)) (by rw [push1, if_pos ⟨y, q2⟩]; exact (nI_succ lk).symm) (by rw [push1, if_pos ⟨y, q2⟩])
        rw [nI_succ] at ih
        exact ih
      refine pk_eq s 10 (fun q3 => a46 (Or.inl q3)) (fun q3 => ?_) rfl rfl (by omega) (by omega)
      refine pk_lt s 32 (fun q4 => a58 (fun y => by omega)) (fun q4 => ?_) rfl rfl (by omega) (by omega)
      refine pk_lt 126 s (fun q5 => a58 (fun y => by omega)) (fun q5 => a46 (Or.inr ⟨q4, q5⟩)) rfl rfl (by omega) (by omega)
    refine pk_le 8 k (fun q2 => ?_) (fun q2 => a19 a ha (by rw [if_pos q2])) rfl rfl (by omega) (by omega)
    refine pk_le 16 k (fun q3 => a19 c hc (by rw [if_neg (by omega), if_neg (by omega)])) (fun q3 => a19 b hb (by rw [if_neg (by omega), if_pos q3])) rfl rfl (by omega) (by omega)
end XFD
