/-! the reference: lemons -/
theorem nIm {k : Nat} (h : k < 2 ^ 31) : ¬ nI k = -1 := fun e => absurd (nI_pos h) (by rw [e]; decide)
def mayN (n a : Nat) : Nat := (2 ^ n - 1) &&& (63 ^^^ a)
theorem mayN_I : ∀ n, n < 7 → ∀ a, a < 64 → ((nI (2 ^ n) - 1) &&& (nI a ^^^ -1)) = nI (mayN n a) := by decide +kernel
theorem mayN_lt : ∀ n, n < 7 → ∀ a, a < 64 → mayN n a < 2 ^ n := by decide +kernel
theorem may_sub : ∀ b, b < 64 → ∀ m, m < 64 → ((nI b &&& (nI m ^^^ -1)) = 0 ↔ b &&& m = b) := by decide +kernel
theorem may_iff {n a b : Nat} (ha : a < 64) (hn : n ≤ 6) (hb : b < 2 ^ n) : b &&& a = 0 ↔ b &&& mayN n a = b := by
  have e : ∀ k, (mayN n a).testBit k = (decide (k < n) && !(a.testBit k)) := by
    intro k
    rw [mayN, Nat.testBit_and, Nat.testBit_two_pow_sub_one, Nat.testBit_xor, show (63 : Nat) = 2 ^ 6 - 1 by decide, Nat.testBit_two_pow_sub_one]
    by_cases y : k < n
    · simp [y, show k < 6 by omega]
    · simp [y]
  have hlt : ∀ k, n ≤ k → b.testBit k = false := fun k hk => Nat.testBit_lt_two_pow (Nat.lt_of_lt_of_le hb (Nat.pow_le_pow_right (by decide) hk))
  constructor
  · intro h
    apply Nat.eq_of_testBit_eq
    intro k
    have h := congrArg (fun x => x.testBit k) h
    simp only [Nat.testBit_and, Nat.zero_testBit] at h
    rw [Nat.testBit_and, e]
    rcases Nat.lt_or_ge k n with y | y
    · cases hb : b.testBit k
      · simp
      · rw [hb] at h
        simp at h
        simp [y, h]
    · rw [hlt k y]; simp
  · intro h
    apply Nat.eq_of_testBit_eq
    intro k
    have h := congrArg (fun x => x.testBit k) h
    simp only [Nat.testBit_and, e] at h
    rw [Nat.testBit_and, Nat.zero_testBit]
    cases hb : b.testBit k
    · simp
    · rw [hb] at h
      simp at h
      simp [h.2]
theorem may_le {b m : Nat} (h : b &&& m = b) : b ≤ m := by
  have := Nat.and_le_right (n := b) (m := m)
  omega
theorem fewV_in {L : Nat → Bool} {a : Nat} : ∀ b, fewV L a b = -1 ∨ ∃ c, c < b ∧ fewV L a b = nI c
  | 0 => Or.inl rfl
  | b + 1 => by
    rw [fewV]
    split
    · exact Or.inr ⟨b, by omega, rfl⟩
    · rcases fewV_in (L := L) (a := a) b with h | ⟨c, h, e⟩
      · exact Or.inl h
      · exact Or.inr ⟨c, by omega, e⟩
theorem fewV_stop {L : Nat → Bool} {a M : Nat} : ∀ e, (∀ b, M < b → b < M + 1 + e → ¬ b &&& a = 0) → fewV L a (M + 1 + e) = fewV L a (M + 1)
  | 0, _ => rfl
  | e + 1, h => by
    rw [show M + 1 + (e + 1) = (M + 1 + e) + 1 by omega, fewV, if_neg (fun y => h (M + 1 + e) (by omega) (by omega) y.1)]
    exact fewV_stop e (fun b h1 h2 => h b h1 (by omega))
section XML
variable {L : Nat} {xs : Nat → Int32} {d : Nat} {Q : XQt} {pn pc : Int32} {tok : TTok} {ship : TShip} {nn : Int64} {tl : Int32} {draft : TShip} {vd : TVoy} {log : TLog} {trial : TCrew} {sta : TSta} {says : Fn} {seed : Int64} {past : Nat → TCrew} {marks : Nat → TLog} {K : XWd}
variable {m_thrown : Int32} {m_taped : Int32} {m_size : Int32} {m_place : Int32} {m_begin : Int32} {m_token : Int32} {m_word : Int64} {m_told : Int32} {m_wrong : Int32} {m_code : Int32} {m_toldLines : Int32} {m_given : Int32} {m_fresh : Int64} {m_done : Int32} {m_odd : Int32} {m_bestRank : Int32} {m_leastSpray : Int32} {m_g : Int64} {m_tape : Fn} {m_ship : Fn} {m_manName : Fl} {m_postName : Fl} {m_kind : Fn} {m_greenTold : Fn} {m_hands : Fn} {m_spray : Fn} {m_holds : Fn} {m_sea : Fn} {m_lineFrom : Fn} {m_lineTo : Fn} {m_codes : Fn} {m_opened : Fn} {m_compared : Fn} {m_kept : Fn} {m_keptBy : Fn} {m_ahead : Fn} {m_against : Fn} {m_sum : Fn} {m_sumBy : Fn} {m_term : Fn} {m_termBy : Fn} {m_byNot : Fn} {m_valueOf : Fn} {m_lines : Fn} {m_lineWhat : Fn} {m_lineA : Fn} {m_lineB : Fn} {m_seens : Fn} {m_seenMan : Fn} {m_seenOther : Fn} {m_seenAt : Fn} {m_seenGreener : Fn} {m_s : Fn} {m_aside : Fn} {m_before : Fn} {m_marked : Fn} {m_undone : Fn} {m_isLaid : Fn} {m_more : Fn} {m_row : Fn} {m_bestRow : Fn} {m_greenerBy : Fl}
variable {n p z c : Nat} {A : TA}
theorem m_maySuck (n6 : n ≤ 6) (hm : m_ship 0 = nI n) (rs : RS m_s n A) (hsu : A.su < 64) (h : Q (some (.int (nI (mayN n A.su)))) (clsW pn pc tok ship nn tl draft vd log trial sta says seed past marks (mdlX m_thrown m_taped m_size m_place m_begin m_token m_word m_told m_wrong m_code m_toldLines m_given m_fresh m_done m_odd m_bestRank m_leastSpray m_g m_tape m_ship m_manName m_postName m_kind m_greenTold m_hands m_spray m_holds m_sea m_lineFrom m_lineTo m_codes m_opened m_compared m_kept m_keptBy m_ahead m_against m_sum m_sumBy m_term m_termBy m_byNot m_valueOf m_lines m_lineWhat m_lineA m_lineB m_seens m_seenMan m_seenOther m_seenAt m_seenGreener m_s m_aside m_before m_marked m_undone m_isLaid m_more m_row m_bestRow m_greenerBy K))) : XC (xF L xs) xmeths (d + 1) 246 [.ref 169] (clsW pn pc tok ship nn tl draft vd log trial sta says seed past marks (mdlX m_thrown m_taped m_size m_place m_begin m_token m_word m_told m_wrong m_code m_toldLines m_given m_fresh m_done m_odd m_bestRank m_leastSpray m_g m_tape m_ship m_manName m_postName m_kind m_greenTold m_hands m_spray m_holds m_sea m_lineFrom m_lineTo m_codes m_opened m_compared m_kept m_keptBy m_ahead m_against m_sum m_sumBy m_term m_termBy m_byNot m_valueOf m_lines m_lineWhat m_lineA m_lineB m_seens m_seenMan m_seenOther m_seenAt m_seenGreener m_s m_aside m_before m_marked m_undone m_isLaid m_more m_row m_bestRow m_greenerBy K)) Q := by
  refine ⟨nb rfl, xgo [] 40 ⟨vp_in_nI (n := 0) (by decide) (by decide), vp_in_nI (n := 1) (by decide) (by decide), ?_⟩⟩
  have e : ((Int32.ofInt 1 <<< (m_ship 0 &&& 31)) - Int32.ofInt 1) &&& (m_s 1 ^^^ Int32.ofInt (-1)) = nI (mayN n A.su) := by
    rw [hm, rs.sucked, ← mayN_I n (by omega) A.su hsu]
    congr 2
    exact shl_of n (by omega)
  rw [← e] at h
  exact h
theorem m_suckAll {b : Nat} (n6 : n ≤ 6) (hm : m_ship 0 = nI n) (hl : m_ship 3 = ship.lemon) (rs : RS m_s n A) (hb : b < 64) (h : ∀ m_s su, RS m_s n (skG ship.lemon b A.g, A.p, su, A.t) → Q none (clsW pn pc tok ship nn tl draft vd log trial sta says seed past marks (mdlX m_thrown m_taped m_size m_place m_begin m_token m_word m_told m_wrong m_code m_toldLines m_given m_fresh m_done m_odd m_bestRank m_leastSpray m_g m_tape m_ship m_manName m_postName m_kind m_greenTold m_hands m_spray m_holds m_sea m_lineFrom m_lineTo m_codes m_opened m_compared m_kept m_keptBy m_ahead m_against m_sum m_sumBy m_term m_termBy m_byNot m_valueOf m_lines m_lineWhat m_lineA m_lineB m_seens m_seenMan m_seenOther m_seenAt m_seenGreener m_s m_aside m_before m_marked m_undone m_isLaid m_more m_row m_bestRow m_greenerBy K))) : XC (xF L xs) xmeths (d + 2) 247 [.ref 169, .int (nI b)] (clsW pn pc tok ship nn tl draft vd log trial sta says seed past marks (mdlX m_thrown m_taped m_size m_place m_begin m_token m_word m_told m_wrong m_code m_toldLines m_given m_fresh m_done m_odd m_bestRank m_leastSpray m_g m_tape m_ship m_manName m_postName m_kind m_greenTold m_hands m_spray m_holds m_sea m_lineFrom m_lineTo m_codes m_opened m_compared m_kept m_keptBy m_ahead m_against m_sum m_sumBy m_term m_termBy m_byNot m_valueOf m_lines m_lineWhat m_lineA m_lineB m_seens m_seenMan m_seenOther m_seenAt m_seenGreener m_s m_aside m_before m_marked m_undone m_isLaid m_more m_row m_bestRow m_greenerBy K)) Q := by
  refine ⟨nb rfl, xgo [2] 20 ⟨nb rfl, ?_⟩⟩
  refine up_to (P := fun j => ∀ m_s su, RS m_s n ((fun k => if k < j then skG ship.lemon b A.g k else A.g k), A.p, su, A.t) → XWp (xF L xs) none xP247 (XC (xF L xs) xmeths (d + 1)) Q 2 [orf 169, oi (nI b), oi (nI j)] [] (clsW pn pc tok ship nn tl draft vd log trial sta says seed past marks (mdlX m_thrown m_taped m_size m_place m_begin m_token m_word m_told m_wrong m_code m_toldLines m_given m_fresh m_done m_odd m_bestRank m_leastSpray m_g m_tape m_ship m_manName m_postName m_kind m_greenTold m_hands m_spray m_holds m_sea m_lineFrom m_lineTo m_codes m_opened m_compared m_kept m_keptBy m_ahead m_against m_sum m_sumBy m_term m_termBy m_byNot m_valueOf m_lines m_lineWhat m_lineA m_lineB m_seens m_seenMan m_seenOther m_seenAt m_seenGreener m_s m_aside m_before m_marked m_undone m_isLaid m_more m_row m_bestRow m_greenerBy K))) (n := n) (fun j hj ih m_s su rs => xgo [2] 60 ⟨vp_in_nI (n := 0) (by decide) (by decide), ?_⟩) m_s A.su (rs.congr (fun k hk => by show A.g k = if k < 0 then skG ship.lemon b A.g k else A.g k; rw [if_neg (by omega)]) (fun k hk => rfl) rfl rfl)
  refine pk_le n j (fun q => ?_) (fun q => ?_) hm rfl (by omega) (by omega)
  · have e : j = n := by omega
    subst e
    refine ⟨rfl, h m_s su (rs.congr (fun k hk => ?_) (fun k hk => rfl) rfl rfl)⟩
    show (if k < j then skG ship.lemon b A.g k else A.g k) = skG ship.lemon b A.g k
    rw [if_pos hk]
  · have ih := ih q
    have hb2 : bit (nI b) (nI j) ↔ b.testBit j = true := bit_iff (by omega) (by omega)
    have step : ∀ k, k < n → ∀ x, (k = j → x = skG ship.lemon b A.g j) → (¬ k = j → x = (if k < j then skG ship.lemon b A.g k else A.g k)) → x = (if k < j + 1 then skG ship.lemon b A.g k else A.g k) := by
      intro k hk x h1 h2
      by_cases y : k = j
      · rw [h1 y, y, if_pos (by omega)]
      · rw [h2 y]
        by_cases y2 : k < j
        · rw [if_pos y2, if_pos (by omega)]
        · rw [if_neg y2, if_neg (by omega)]
    refine And.intro (fun (q2 : ¬ bit (nI b) (nI j)) => ?_) (fun (q2 : ¬ ¬ bit (nI b) (nI j)) => ?_)
    · have ih := ih m_s su (rs.congr (fun k hk => step k hk _ (fun y => by
          subst y
          show (if k < k then skG ship.lemon b A.g k else A.g k) = skG ship.lemon b A.g k
          rw [if_neg (Nat.lt_irrefl k), skG, if_neg (fun y => q2 (hb2.mpr y))]) (fun y => rfl)) (fun k hk => rfl) rfl rfl)
      rw [nI_succ] at ih
      exact ih
    · have q2 := hb2.mp (Classical.not_not.mp q2)
      refine ⟨rfl, nb rfl, m_sucks n6 rs q hl (fun m_s rs => ?_)⟩
      have ih := ih m_s _ (rs.congr (fun k hk => step k hk _ (fun y => by
          subst y
          show upd (fun k => if k < k then skG ship.lemon b A.g k else A.g k) k _ k = skG ship.lemon b A.g k
          rw [pk_us]
          show mx 0 ((if k < k then skG ship.lemon b A.g k else A.g k) - ship.lemon) = _
          rw [if_neg (Nat.lt_irrefl k), skG, if_pos q2]) (fun y => by
          show upd _ j _ k = _
          rw [pk_un y])) (fun k hk => rfl) rfl rfl)
      rw [nI_succ] at ih
      exact ih
theorem m_lemons {man wt : Int32} (so : ShOk ship n p z) (ms : MS ship n p z m_ship m_kind m_greenTold m_hands m_spray m_holds m_sea m_lineFrom m_lineTo m_codes m_manName m_postName) (rs : RS m_s n A) (gp : GP A.g A.p n p) (ht : A.t < 2 ^ 30) (hsu : A.su < 64) (ho : m_odd = -1) (h1 : ∀ w, 1 ≤ w → w ≤ 12 → wt = nI w → 0 ≤ man ∧ man < nI n → ∀ m_s m_before m_kept m_keptBy m_ahead m_against m_sum m_sumBy m_term m_termBy m_byNot m_valueOf m_more, RS m_s n A → Q (some (.int (fewV (ldA ship A.g A.p n z A.t w man) A.su (2 ^ n)))) (clsW pn pc tok ship nn tl draft vd log trial sta says seed past marks (mdlX 0 m_taped m_size m_place m_begin m_token m_word m_told m_wrong m_code m_toldLines m_given m_fresh m_done m_odd m_bestRank m_leastSpray m_g m_tape m_ship m_manName m_postName m_kind m_greenTold m_hands m_spray m_holds m_sea m_lineFrom m_lineTo m_codes m_opened m_compared m_kept m_keptBy m_ahead m_against m_sum m_sumBy m_term m_termBy m_byNot m_valueOf m_lines m_lineWhat m_lineA m_lineB m_seens m_seenMan m_seenOther m_seenAt m_seenGreener m_s m_aside m_before m_marked m_undone m_isLaid m_more m_row m_bestRow m_greenerBy K))) (h0 : ¬ ((0 ≤ man ∧ man < nI n) ∧ 1 ≤ wt ∧ wt ≤ 12) → Q (some (.int (-1))) (clsW pn pc tok ship nn tl draft vd log trial sta says seed past marks (mdlX 0 m_taped m_size m_place m_begin m_token m_word m_told m_wrong m_code m_toldLines m_given m_fresh m_done m_odd m_bestRank m_leastSpray m_g m_tape m_ship m_manName m_postName m_kind m_greenTold m_hands m_spray m_holds m_sea m_lineFrom m_lineTo m_codes m_opened m_compared m_kept m_keptBy m_ahead m_against m_sum m_sumBy m_term m_termBy m_byNot m_valueOf m_lines m_lineWhat m_lineA m_lineB m_seens m_seenMan m_seenOther m_seenAt m_seenGreener m_s m_aside m_before m_marked m_undone m_isLaid m_more m_row m_bestRow m_greenerBy K))) : XC (xF L xs) xmeths (d + 6) 245 [.ref 169, .int man, .int wt] (clsW pn pc tok ship nn tl draft vd log trial sta says seed past marks (mdlX m_thrown m_taped m_size m_place m_begin m_token m_word m_told m_wrong m_code m_toldLines m_given m_fresh m_done m_odd m_bestRank m_leastSpray m_g m_tape m_ship m_manName m_postName m_kind m_greenTold m_hands m_spray m_holds m_sea m_lineFrom m_lineTo m_codes m_opened m_compared m_kept m_keptBy m_ahead m_against m_sum m_sumBy m_term m_termBy m_byNot m_valueOf m_lines m_lineWhat m_lineA m_lineB m_seens m_seenMan m_seenOther m_seenAt m_seenGreener m_s m_aside m_before m_marked m_undone m_isLaid m_more m_row m_bestRow m_greenerBy K)) Q := by
  have n6 := so.n6
  have h64 : 2 ^ n ≤ 2 ^ 6 := Nat.pow_le_pow_right (by decide) n6
  have hM := mayN_lt n (by omega) A.su hsu
  have a12 : ¬ ((0 ≤ man ∧ man < nI n) ∧ 1 ≤ wt ∧ wt ≤ 12) → XWp (xF L xs) (some .int) xP245 (XC (xF L xs) xmeths (d + 5)) Q 12 [orf 169, oi man, oi wt, none, none, none, none] [] (clsW pn pc tok ship nn tl draft vd log trial sta says seed past marks (mdlX 0 m_taped m_size m_place m_begin m_token m_word m_told m_wrong m_code m_toldLines m_given m_fresh m_done m_odd m_bestRank m_leastSpray m_g m_tape m_ship m_manName m_postName m_kind m_greenTold m_hands m_spray m_holds m_sea m_lineFrom m_lineTo m_codes m_opened m_compared m_kept m_keptBy m_ahead m_against m_sum m_sumBy m_term m_termBy m_byNot m_valueOf m_lines m_lineWhat m_lineA m_lineB m_seens m_seenMan m_seenOther m_seenAt m_seenGreener m_s m_aside m_before m_marked m_undone m_isLaid m_more m_row m_bestRow m_greenerBy K)) := fun q => xgo [] 10 (h0 q)
  refine ⟨nb rfl, xgo [2] 20 (xp_thrown rfl (xgo [12, 28] 60 ⟨rfl, nb rfl, m_isMan ms.men ?_⟩))⟩
  refine vB0 (fun q => a12 (fun y => q y.1)) (fun q1 => ⟨rfl, nb rfl, m_within ?_⟩)
  refine vB1 (fun q => ?_) (fun q => a12 (fun y => q y.2))
  rcases wiN (m := 12) (by omega) ⟨Int32.le_trans (by decide) q.1, q.2⟩ with ⟨w, hw, rfl⟩
  have hw1 : 1 ≤ w := by
    rcases Nat.eq_zero_or_pos w with rfl | y
    · exact absurd q.1 (by decide)
    · exact y
  have h := h1 w hw1 hw rfl q1
  refine ⟨rfl, nb rfl, m_maySuck n6 ms.men rs hsu ⟨nb rfl, nb rfl, rfl, nb rfl, m_saveB n6 rs (fun m_before rb => ⟨nb rfl, ?_⟩)⟩⟩
  have eS : fewV (ldA ship A.g A.p n z A.t w man) A.su (2 ^ n) = fewV (ldA ship A.g A.p n z A.t w man) A.su (mayN n A.su + 1) := by
    have := fewV_stop (L := ldA ship A.g A.p n z A.t w man) (a := A.su) (M := mayN n A.su) (2 ^ n - (mayN n A.su + 1)) (fun b h1 h2 y => by
      have y := (may_iff hsu n6 (by omega)).mp y
      have := may_le y
      omega)
    rw [show mayN n A.su + 1 + (2 ^ n - (mayN n A.su + 1)) = 2 ^ n by omega] at this
    exact this
  rw [eS] at h
  refine up_to (P := fun b => ∀ m_s m_kept m_keptBy m_ahead m_against m_sum m_sumBy m_term m_termBy m_byNot m_valueOf m_more, ∀ x6, RS m_s n A → XWp (xF L xs) (some .int) xP245 (XC (xF L xs) xmeths (d + 5)) Q 28 [orf 169, oi man, oi (nI w), oi (nI (mayN n A.su)), oi (fewV (ldA ship A.g A.p n z A.t w man) A.su b), oi (nI b), x6] [] (clsW pn pc tok ship nn tl draft vd log trial sta says seed past marks (mdlX 0 m_taped m_size m_place m_begin m_token m_word m_told m_wrong m_code m_toldLines m_given m_fresh m_done m_odd m_bestRank m_leastSpray m_g m_tape m_ship m_manName m_postName m_kind m_greenTold m_hands m_spray m_holds m_sea m_lineFrom m_lineTo m_codes m_opened m_compared m_kept m_keptBy m_ahead m_against m_sum m_sumBy m_term m_termBy m_byNot m_valueOf m_lines m_lineWhat m_lineA m_lineB m_seens m_seenMan m_seenOther m_seenAt m_seenGreener m_s m_aside m_before m_marked m_undone m_isLaid m_more m_row m_bestRow m_greenerBy K))) (n := mayN n A.su + 1) (fun b hb ih m_s m_kept m_keptBy m_ahead m_against m_sum m_sumBy m_term m_termBy m_byNot m_valueOf m_more x6 rs => xgo [28, 45, 50, 63, 70] 60 ?_) m_s m_kept m_keptBy m_ahead m_against m_sum m_sumBy m_term m_termBy m_byNot m_valueOf m_more none rs
  refine pk_lt (mayN n A.su) b (fun q2 => ?_) (fun q2 => ?_) rfl rfl (by omega) (by omega)
  · have e : b = mayN n A.su + 1 := by omega
    rw [← e] at h
    exact h m_s m_before m_kept m_keptBy m_ahead m_against m_sum m_sumBy m_term m_termBy m_byNot m_valueOf m_more rs
  · have ih := ih (by omega)
    rw [fewV, nI_succ] at ih
    generalize hv : fewV (ldA ship A.g A.p n z A.t w man) A.su b = v at ih ⊢
    have hvi : v = -1 ∨ ∃ e, e < b ∧ v = nI e := hv ▸ fewV_in b
    have fr : b &&& A.su = 0 ↔ (nI b &&& (nI (mayN n A.su) ^^^ -1)) = 0 := by
      rw [may_sub b (by omega) (mayN n A.su) (by omega)]
      exact may_iff hsu n6 (by omega)
    have a70 : ∀ m_s m_kept m_keptBy m_ahead m_against m_sum m_sumBy m_term m_termBy m_byNot m_valueOf m_more, ∀ x6, RS m_s n A → ¬ (b &&& A.su = 0 ∧ (v = -1 ∨ bcnt (nI b) < bcnt v) ∧ ldA ship A.g A.p n z A.t w man b = true) → XWp (xF L xs) (some .int) xP245 (XC (xF L xs) xmeths (d + 5)) Q 70 [orf 169, oi man, oi (nI w), oi (nI (mayN n A.su)), oi v, oi (nI b), x6] [] (clsW pn pc tok ship nn tl draft vd log trial sta says seed past marks (mdlX 0 m_taped m_size m_place m_begin m_token m_word m_told m_wrong m_code m_toldLines m_given m_fresh m_done m_odd m_bestRank m_leastSpray m_g m_tape m_ship m_manName m_postName m_kind m_greenTold m_hands m_spray m_holds m_sea m_lineFrom m_lineTo m_codes m_opened m_compared m_kept m_keptBy m_ahead m_against m_sum m_sumBy m_term m_termBy m_byNot m_valueOf m_lines m_lineWhat m_lineA m_lineB m_seens m_seenMan m_seenOther m_seenAt m_seenGreener m_s m_aside m_before m_marked m_undone m_isLaid m_more m_row m_bestRow m_greenerBy K)) := by
      intro m_s m_kept m_keptBy m_ahead m_against m_sum m_sumBy m_term m_termBy m_byNot m_valueOf m_more x6 rs hn
      have ih := ih m_s m_kept m_keptBy m_ahead m_against m_sum m_sumBy m_term m_termBy m_byNot m_valueOf m_more x6 rs
      rw [if_neg hn] at ih
      exact xgo [28] 20 ih
    have a45 : b &&& A.su = 0 → (v = -1 ∨ bcnt (nI b) < bcnt v) → XWp (xF L xs) (some .int) xP245 (XC (xF L xs) xmeths (d + 5)) Q 45 [orf 169, oi man, oi (nI w), oi (nI (mayN n A.su)), oi v, oi (nI b), x6] [] (clsW pn pc tok ship nn tl draft vd log trial sta says seed past marks (mdlX 0 m_taped m_size m_place m_begin m_token m_word m_told m_wrong m_code m_toldLines m_given m_fresh m_done m_odd m_bestRank m_leastSpray m_g m_tape m_ship m_manName m_postName m_kind m_greenTold m_hands m_spray m_holds m_sea m_lineFrom m_lineTo m_codes m_opened m_compared m_kept m_keptBy m_ahead m_against m_sum m_sumBy m_term m_termBy m_byNot m_valueOf m_lines m_lineWhat m_lineA m_lineB m_seens m_seenMan m_seenOther m_seenAt m_seenGreener m_s m_aside m_before m_marked m_undone m_isLaid m_more m_row m_bestRow m_greenerBy K)) := by
      intro g1 g2
      refine xgo [50] 40 ⟨rfl, nb rfl, m_suckAll n6 ms.men ms.lemon rs (by omega) (fun m_s su rs => ⟨nb rfl, ?_⟩)⟩
      refine up_to (P := fun j => ∀ m_s m_kept m_keptBy m_ahead m_against m_sum m_sumBy m_term m_termBy m_byNot m_valueOf m_more, RS m_s n (runG ship A.p n z A.t (skG ship.lemon b A.g) j, A.p, su, A.t + j) → XWp (xF L xs) (some .int) xP245 (XC (xF L xs) xmeths (d + 5)) Q 50 [orf 169, oi man, oi (nI w), oi (nI (mayN n A.su)), oi v, oi (nI b), oi (nI j)] [] (clsW pn pc tok ship nn tl draft vd log trial sta says seed past marks (mdlX 0 m_taped m_size m_place m_begin m_token m_word m_told m_wrong m_code m_toldLines m_given m_fresh m_done m_odd m_bestRank m_leastSpray m_g m_tape m_ship m_manName m_postName m_kind m_greenTold m_hands m_spray m_holds m_sea m_lineFrom m_lineTo m_codes m_opened m_compared m_kept m_keptBy m_ahead m_against m_sum m_sumBy m_term m_termBy m_byNot m_valueOf m_lines m_lineWhat m_lineA m_lineB m_seens m_seenMan m_seenOther m_seenAt m_seenGreener m_s m_aside m_before m_marked m_undone m_isLaid m_more m_row m_bestRow m_greenerBy K))) (n := w) (fun j hj ih2 m_s m_kept m_keptBy m_ahead m_against m_sum m_sumBy m_term m_termBy m_byNot m_valueOf m_more rs => xgo [50, 63, 70] 60 ?_) m_s m_kept m_keptBy m_ahead m_against m_sum m_sumBy m_term m_termBy m_byNot m_valueOf m_more rs
      refine pk_le w j (fun q3 => ?_) (fun q3 => ?_) rfl rfl (by omega) (by omega)
      · have e : j = w := by omega
        subst e
        refine ⟨rfl, nb rfl, m_captainNow n6 ms.men rs ?_⟩
        refine And.intro (fun (q4 : ¬ capt (runG ship A.p n z A.t (skG ship.lemon b A.g) j) n = man) => ?_) (fun (q4 : ¬ ¬ capt (runG ship A.p n z A.t (skG ship.lemon b A.g) j) n = man) => ?_)
        · refine xgo [70] 20 ⟨rfl, nb rfl, m_loadB n6 rb (fun m_s rs => ?_)⟩
          exact a70 m_s m_kept m_keptBy m_ahead m_against m_sum m_sumBy m_term m_termBy m_byNot m_valueOf m_more _ rs (fun y => q4 (of_decide_eq_true y.2.2))
        · refine ⟨nb rfl, xgo [70] 20 ⟨rfl, nb rfl, m_loadB n6 rb (fun m_s rs => ?_)⟩⟩
          have ih := ih m_s m_kept m_keptBy m_ahead m_against m_sum m_sumBy m_term m_termBy m_byNot m_valueOf m_more (oi (nI j)) rs
          rw [if_pos ⟨g1, g2, decide_eq_true (Classical.not_not.mp q4)⟩] at ih
          exact xgo [28] 20 ih
      · have ih2 := ih2 q3
        refine ⟨rfl, nb rfl, m_passRun (A := (skG ship.lemon b A.g, A.p, su, A.t)) (j := j) so ms rs (skG_ok so.lemon gp) (by show A.t + j < 2 ^ 31; omega) ho (fun m_s m_kept m_keptBy m_ahead m_against m_sum m_sumBy m_term m_termBy m_byNot m_valueOf m_more rs => ?_)⟩
        have ih2 := ih2 m_s m_kept m_keptBy m_ahead m_against m_sum m_sumBy m_term m_termBy m_byNot m_valueOf m_more rs
        rw [nI_succ] at ih2
        exact ih2
    refine And.intro (fun (q3 : ¬ (nI b &&& (nI (mayN n A.su) ^^^ -1)) = 0) => a70 m_s m_kept m_keptBy m_ahead m_against m_sum m_sumBy m_term m_termBy m_byNot m_valueOf m_more _ rs (fun y => q3 (fr.mp y.1))) (fun (q3 : ¬ ¬ (nI b &&& (nI (mayN n A.su) ^^^ -1)) = 0) => ?_)
    have g1 := fr.mpr (Classical.not_not.mp q3)
    refine And.intro (fun (q4 : v < 0) => ?_) (fun (q4 : ¬ v < 0) => ?_)
    · refine a45 g1 (Or.inl ?_)
      rcases hvi with y | ⟨e, he, y⟩
      · exact y
      · exact absurd q4 (by rw [y]; exact nI_pos (by omega))
    · rcases hvi with y | ⟨e, he, y⟩
      · exact absurd (by rw [y]; decide) q4
      · subst y
        refine ⟨rfl, nb rfl, m_bits (by omega) ⟨rfl, nb rfl, m_bits (by omega) ?_⟩⟩
        rw [← bcnt_small b (by omega), ← bcnt_small e (by omega)]
        refine And.intro (fun (q5 : bcnt (nI b) < bcnt (nI e)) => a45 g1 (Or.inr q5)) (fun (q5 : ¬ bcnt (nI b) < bcnt (nI e)) => a70 m_s m_kept m_keptBy m_ahead m_against m_sum m_sumBy m_term m_termBy m_byNot m_valueOf m_more _ rs (fun y => y.2.1.elim (nIm (by omega)) q5))
end XML
