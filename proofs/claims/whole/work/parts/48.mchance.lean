/-! the reference: the chance -/
def prdN (o b : Nat) : Nat → Nat
  | 0 => 1
  | j + 1 => prdN o b j * (if b.testBit j then o else 10 - o)
def allN (P : Nat → Bool) (o w : Nat) : Nat → Nat
  | 0 => 0
  | b + 1 => if P b then allN P o w b + prdN o b w else allN P o w b
theorem prdN_le {o b : Nat} (ho : o ≤ 10) : ∀ j, prdN o b j ≤ 10 ^ j
  | 0 => Nat.le_refl _
  | j + 1 => by
    rw [prdN, Nat.pow_succ]
    refine Nat.mul_le_mul (prdN_le ho j) ?_
    split <;> omega
theorem allN_le {P : Nat → Bool} {o w : Nat} (ho : o ≤ 10) : ∀ b, allN P o w b ≤ b * 10 ^ w
  | 0 => Nat.zero_le _
  | b + 1 => by
    have h1 := allN_le (P := P) (w := w) ho b
    have h2 := prdN_le (b := b) ho w
    rw [allN, Nat.add_mul, Nat.one_mul]
    split <;> omega
theorem wgt_eq {o b : Nat} (ho : o ≤ 10) : ∀ j, j ≤ 6 → wgtV (nI o) b j = nI (10 ^ (6 - j) * prdN o b j)
  | 0, _ => rfl
  | j + 1, hj => by
    have ih := wgt_eq (b := b) ho j (by omega)
    have h1 := prdN_le (b := b) ho j
    have e : 10 ^ (6 - j) = 10 * 10 ^ (6 - (j + 1)) := by
      rw [show 6 - j = (6 - (j + 1)) + 1 by omega, Nat.pow_succ, Nat.mul_comm]
    have hb : 10 ^ (6 - j) * prdN o b j ≤ 10 ^ 6 := by
      have : 10 ^ (6 - j) * prdN o b j ≤ 10 ^ (6 - j) * 10 ^ j := Nat.mul_le_mul_left _ h1
      rw [← Nat.pow_add, show 6 - j + j = 6 by omega] at this
      exact this
    have e2 : nI (10 ^ (6 - j) * prdN o b j) / 10 = nI (10 ^ (6 - (j + 1)) * prdN o b j) := by
      have := pk_div (a := 10 ^ (6 - j) * prdN o b j) (d := 10) (by omega) (by omega) (by omega)
      rw [show (10 : Int32) = nI 10 from rfl, this, e, Nat.mul_assoc, Nat.mul_div_cancel_left _ (by decide)]
    have e3 : (if b.testBit j = true then nI o else 10 - nI o) = nI (if b.testBit j = true then o else 10 - o) := by
      split
      · rfl
      · exact pk_sub (a := 10) ho
    rw [wgtV, ih, e2, prdN, e3, pk_mul, Nat.mul_assoc]
theorem chn_eq {s : TShip} {g pl : Fn} {n w o : Nat} {man : Int32} (ho : o ≤ 10) (hw : w ≤ 6) : ∀ b, chnV s g pl n w (nI o) man b = nI (10 ^ (6 - w) * allN (fun b => decide (capt (runS s pl n b g w) n = man)) o w b)
  | 0 => rfl
  | b + 1 => by
    rw [chnV, allN, chn_eq ho hw b, wgt_eq ho w hw]
    by_cases y : capt (runS s pl n b g w) n = man
    · rw [if_pos y, if_pos (decide_eq_true y), nI_add, Nat.mul_add]
    · rw [if_neg y, if_neg (by simpa using y)]
section XMH
variable {L : Nat} {xs : Nat → Int32} {d : Nat} {Q : XQt} {pn pc : Int32} {tok : TTok} {ship : TShip} {nn : Int64} {tl : Int32} {draft : TShip} {vd : TVoy} {log : TLog} {trial : TCrew} {sta : TSta} {says : Fn} {seed : Int64} {past : Nat → TCrew} {marks : Nat → TLog} {K : XWd}
variable {m_thrown : Int32} {m_taped : Int32} {m_size : Int32} {m_place : Int32} {m_begin : Int32} {m_token : Int32} {m_word : Int64} {m_told : Int32} {m_wrong : Int32} {m_code : Int32} {m_toldLines : Int32} {m_given : Int32} {m_fresh : Int64} {m_done : Int32} {m_odd : Int32} {m_bestRank : Int32} {m_leastSpray : Int32} {m_g : Int64} {m_tape : Fn} {m_ship : Fn} {m_manName : Fl} {m_postName : Fl} {m_kind : Fn} {m_greenTold : Fn} {m_hands : Fn} {m_spray : Fn} {m_holds : Fn} {m_sea : Fn} {m_lineFrom : Fn} {m_lineTo : Fn} {m_codes : Fn} {m_opened : Fn} {m_compared : Fn} {m_kept : Fn} {m_keptBy : Fn} {m_ahead : Fn} {m_against : Fn} {m_sum : Fn} {m_sumBy : Fn} {m_term : Fn} {m_termBy : Fn} {m_byNot : Fn} {m_valueOf : Fn} {m_lines : Fn} {m_lineWhat : Fn} {m_lineA : Fn} {m_lineB : Fn} {m_seens : Fn} {m_seenMan : Fn} {m_seenOther : Fn} {m_seenAt : Fn} {m_seenGreener : Fn} {m_s : Fn} {m_aside : Fn} {m_before : Fn} {m_marked : Fn} {m_undone : Fn} {m_isLaid : Fn} {m_more : Fn} {m_row : Fn} {m_bestRow : Fn} {m_greenerBy : Fl}
variable {n p z c : Nat} {A : TA}
theorem m_chance {man wt od : Int32} (so : ShOk ship n p z) (ms : MS ship n p z m_ship m_kind m_greenTold m_hands m_spray m_holds m_sea m_lineFrom m_lineTo m_codes m_manName m_postName) (rs : RS m_s n A) (gp : GP A.g A.p n p) (ht : A.t < 2 ^ 30) (h1 : ∀ w o, 1 ≤ w → w ≤ 6 → o ≤ 10 → wt = nI w → od = nI o → 0 ≤ man ∧ man < nI n → ∀ m_s m_before m_kept m_keptBy m_ahead m_against m_sum m_sumBy m_term m_termBy m_byNot m_valueOf m_more, RS m_s n A → Q (some (.int (chnV ship A.g A.p n w (nI o) man (2 ^ w)))) (clsW pn pc tok ship nn tl draft vd log trial sta says seed past marks (mdlX 0 m_taped m_size m_place m_begin m_token m_word m_told m_wrong m_code m_toldLines m_given m_fresh m_done (-1) m_bestRank m_leastSpray m_g m_tape m_ship m_manName m_postName m_kind m_greenTold m_hands m_spray m_holds m_sea m_lineFrom m_lineTo m_codes m_opened m_compared m_kept m_keptBy m_ahead m_against m_sum m_sumBy m_term m_termBy m_byNot m_valueOf m_lines m_lineWhat m_lineA m_lineB m_seens m_seenMan m_seenOther m_seenAt m_seenGreener m_s m_aside m_before m_marked m_undone m_isLaid m_more m_row m_bestRow m_greenerBy K))) (h0 : ¬ ((0 ≤ man ∧ man < nI n) ∧ (1 ≤ wt ∧ wt ≤ 6) ∧ 0 ≤ od ∧ od ≤ 10) → Q (some (.int (-1))) (clsW pn pc tok ship nn tl draft vd log trial sta says seed past marks (mdlX 0 m_taped m_size m_place m_begin m_token m_word m_told m_wrong m_code m_toldLines m_given m_fresh m_done m_odd m_bestRank m_leastSpray m_g m_tape m_ship m_manName m_postName m_kind m_greenTold m_hands m_spray m_holds m_sea m_lineFrom m_lineTo m_codes m_opened m_compared m_kept m_keptBy m_ahead m_against m_sum m_sumBy m_term m_termBy m_byNot m_valueOf m_lines m_lineWhat m_lineA m_lineB m_seens m_seenMan m_seenOther m_seenAt m_seenGreener m_s m_aside m_before m_marked m_undone m_isLaid m_more m_row m_bestRow m_greenerBy K))) : XC (xF L xs) xmeths (d + 6) 257 [.ref 169, .int man, .int wt, .int od] (clsW pn pc tok ship nn tl draft vd log trial sta says seed past marks (mdlX m_thrown m_taped m_size m_place m_begin m_token m_word m_told m_wrong m_code m_toldLines m_given m_fresh m_done m_odd m_bestRank m_leastSpray m_g m_tape m_ship m_manName m_postName m_kind m_greenTold m_hands m_spray m_holds m_sea m_lineFrom m_lineTo m_codes m_opened m_compared m_kept m_keptBy m_ahead m_against m_sum m_sumBy m_term m_termBy m_byNot m_valueOf m_lines m_lineWhat m_lineA m_lineB m_seens m_seenMan m_seenOther m_seenAt m_seenGreener m_s m_aside m_before m_marked m_undone m_isLaid m_more m_row m_bestRow m_greenerBy K)) Q := by
  have n6 := so.n6
  have a17 : ¬ ((0 ≤ man ∧ man < nI n) ∧ (1 ≤ wt ∧ wt ≤ 6) ∧ 0 ≤ od ∧ od ≤ 10) → XWp (xF L xs) (some .int) xP257 (XC (xF L xs) xmeths (d + 5)) Q 17 [orf 169, oi man, oi wt, oi od, none, none, none, none, none, none, none, none, none] [] (clsW pn pc tok ship nn tl draft vd log trial sta says seed past marks (mdlX 0 m_taped m_size m_place m_begin m_token m_word m_told m_wrong m_code m_toldLines m_given m_fresh m_done m_odd m_bestRank m_leastSpray m_g m_tape m_ship m_manName m_postName m_kind m_greenTold m_hands m_spray m_holds m_sea m_lineFrom m_lineTo m_codes m_opened m_compared m_kept m_keptBy m_ahead m_against m_sum m_sumBy m_term m_termBy m_byNot m_valueOf m_lines m_lineWhat m_lineA m_lineB m_seens m_seenMan m_seenOther m_seenAt m_seenGreener m_s m_aside m_before m_marked m_undone m_isLaid m_more m_row m_bestRow m_greenerBy K)) := fun q => xgo [] 10 (h0 q)
  refine ⟨nb rfl, xgo [2] 20 (xp_thrown rfl (xgo [17, 25] 60 ⟨rfl, nb rfl, m_isMan ms.men ?_⟩))⟩
  refine vB0 (fun q => a17 (fun y => q y.1)) (fun q1 => ⟨rfl, nb rfl, m_within ?_⟩)
  refine vB0 (fun q => a17 (fun y => q y.2.1)) (fun q2 => ⟨rfl, nb rfl, m_within ?_⟩)
  refine vB1 (fun q3 => ?_) (fun q => a17 (fun y => q y.2.2))
  rcases wiN (m := 6) (by omega) ⟨Int32.le_trans (by decide) q2.1, q2.2⟩ with ⟨w, hw, rfl⟩
  rcases wiN (m := 10) (by omega) q3 with ⟨o, ho, rfl⟩
  have hw1 : 1 ≤ w := by
    rcases Nat.eq_zero_or_pos w with rfl | y
    · exact absurd q2.1 (by decide)
    · exact y
  have h := h1 w o hw1 hw ho rfl rfl q1
  have h64 : 2 ^ w ≤ 2 ^ 6 := Nat.pow_le_pow_right (by decide) hw
  have h10 : 10 ^ w ≤ 10 ^ 6 := Nat.pow_le_pow_right (by decide) hw
  have eM : (Int32.ofInt 1) <<< (nI w &&& 31) = nI (2 ^ w) := shl_of w (by omega)
  rw [chn_eq ho hw] at h
  generalize hL : (fun b => decide (capt (runS ship A.p n b A.g w) n = man)) = L' at h
  have hL' : ∀ b, L' b = decide (capt (runS ship A.p n b A.g w) n = man) := fun b => by rw [← hL]
  refine ⟨nb rfl, nb rfl, nb rfl, ?_⟩
  refine up_to (P := fun j => XWp (xF L xs) (some .int) xP257 (XC (xF L xs) xmeths (d + 5)) Q 25 [orf 169, oi man, oi (nI w), oi (nI o), ol (lN 0), none, ol (lN (10 ^ j)), none, oi (nI j), none, none, none, none] [] (clsW pn pc tok ship nn tl draft vd log trial sta says seed past marks (mdlX 0 m_taped m_size m_place m_begin m_token m_word m_told m_wrong m_code m_toldLines m_given m_fresh m_done m_odd m_bestRank m_leastSpray m_g m_tape m_ship m_manName m_postName m_kind m_greenTold m_hands m_spray m_holds m_sea m_lineFrom m_lineTo m_codes m_opened m_compared m_kept m_keptBy m_ahead m_against m_sum m_sumBy m_term m_termBy m_byNot m_valueOf m_lines m_lineWhat m_lineA m_lineB m_seens m_seenMan m_seenOther m_seenAt m_seenGreener m_s m_aside m_before m_marked m_undone m_isLaid m_more m_row m_bestRow m_greenerBy K))) (n := w) (fun j hj ih => xgo [25, 43] 60 ?_)
  refine pk_le w j (fun q => ?_) (fun q => ?_) rfl rfl (by omega) (by omega)
  rotate_left
  · have ih := ih q
    rw [Nat.pow_succ, ← lN_mul, nI_succ] at ih
    exact ⟨nb rfl, ih⟩
  have e : j = w := by omega
  subst e
  refine ⟨rfl, nb rfl, m_saveB n6 rs (fun m_before rb => ⟨nb rfl, ?_⟩)⟩
  refine up_to (P := fun b => ∀ m_s m_odd m_kept m_keptBy m_ahead m_against m_sum m_sumBy m_term m_termBy m_byNot m_valueOf m_more, ∀ x9 x10 x11 x12, RS m_s n A → XWp (xF L xs) (some .int) xP257 (XC (xF L xs) xmeths (d + 5)) Q 43 [orf 169, oi man, oi (nI j), oi (nI o), ol (lN (allN L' o j b)), none, ol (lN (10 ^ j)), none, oi (nI b), x9, x10, x11, x12] [] (clsW pn pc tok ship nn tl draft vd log trial sta says seed past marks (mdlX 0 m_taped m_size m_place m_begin m_token m_word m_told m_wrong m_code m_toldLines m_given m_fresh m_done m_odd m_bestRank m_leastSpray m_g m_tape m_ship m_manName m_postName m_kind m_greenTold m_hands m_spray m_holds m_sea m_lineFrom m_lineTo m_codes m_opened m_compared m_kept m_keptBy m_ahead m_against m_sum m_sumBy m_term m_termBy m_byNot m_valueOf m_lines m_lineWhat m_lineA m_lineB m_seens m_seenMan m_seenOther m_seenAt m_seenGreener m_s m_aside m_before m_marked m_undone m_isLaid m_more m_row m_bestRow m_greenerBy K))) (n := 2 ^ j) (fun b hb ih m_s m_odd m_kept m_keptBy m_ahead m_against m_sum m_sumBy m_term m_termBy m_byNot m_valueOf m_more x9 x10 x11 x12 rs => xgo [43, 52, 97, 108] 60 ?_) m_s m_odd m_kept m_keptBy m_ahead m_against m_sum m_sumBy m_term m_termBy m_byNot m_valueOf m_more none none none none rs
  refine pk_le (2 ^ j) b (fun q => ?_) (fun q => ?_) eM rfl (by omega) (by omega)
  · have e : b = 2 ^ j := by omega
    rw [← e] at h
    refine xp_odd rfl (xgo [] 40 ⟨?_, ?_⟩)
    · show ¬ lN (10 ^ j) = 0
      intro y
      have := (pk_lEQ (a := 10 ^ j) (b := 0) (by omega) (by omega)).mp y
      have : 0 < 10 ^ j := Nat.pow_pos (by decide)
      omega
    · have hall : allN L' o j b ≤ 64 * 1000000 := Nat.le_trans (allN_le ho b) (Nat.mul_le_mul (by omega) h10)
      have e1 : (lN (allN L' o j b) * Int64.ofNat 1000000 / lN (10 ^ j)).toInt32 = nI (10 ^ (6 - j) * allN L' o j b) := by
        rw [show Int64.ofNat 1000000 = lN 1000000 from rfl, lN_mul, pk_lDiv (by omega) (Nat.pow_pos (by decide)) (by omega), lN_i]
        congr 1
        have : (1000000 : Nat) = 10 ^ (6 - j) * 10 ^ j := by rw [← Nat.pow_add, show 6 - j + j = 6 by omega]
        rw [this, ← Nat.mul_assoc, Nat.mul_div_cancel _ (Nat.pow_pos (by decide)), Nat.mul_comm]
      have h := h m_s m_before m_kept m_keptBy m_ahead m_against m_sum m_sumBy m_term m_termBy m_byNot m_valueOf m_more rs
      rw [← e1] at h
      exact h
  · have ih := ih q
    rw [allN, nI_succ] at ih
    refine ⟨nb rfl, nb rfl, ?_⟩
    refine up_to (P := fun i => ∀ m_s m_odd m_kept m_keptBy m_ahead m_against m_sum m_sumBy m_term m_termBy m_byNot m_valueOf m_more, ∀ x12, RS m_s n (runS ship A.p n b A.g i, A.p, A.su, A.t + i) → XWp (xF L xs) (some .int) xP257 (XC (xF L xs) xmeths (d + 5)) Q 52 [orf 169, oi man, oi (nI j), oi (nI o), ol (lN (allN L' o j b)), none, ol (lN (10 ^ j)), none, oi (nI b), ol (lN (prdN o b i)), none, oi (nI i), x12] [] (clsW pn pc tok ship nn tl draft vd log trial sta says seed past marks (mdlX 0 m_taped m_size m_place m_begin m_token m_word m_told m_wrong m_code m_toldLines m_given m_fresh m_done m_odd m_bestRank m_leastSpray m_g m_tape m_ship m_manName m_postName m_kind m_greenTold m_hands m_spray m_holds m_sea m_lineFrom m_lineTo m_codes m_opened m_compared m_kept m_keptBy m_ahead m_against m_sum m_sumBy m_term m_termBy m_byNot m_valueOf m_lines m_lineWhat m_lineA m_lineB m_seens m_seenMan m_seenOther m_seenAt m_seenGreener m_s m_aside m_before m_marked m_undone m_isLaid m_more m_row m_bestRow m_greenerBy K))) (n := j) (fun i hi ih2 m_s m_odd m_kept m_keptBy m_ahead m_against m_sum m_sumBy m_term m_termBy m_byNot m_valueOf m_more x12 rs => xgo [52, 65, 84, 97] 60 ?_) m_s m_odd m_kept m_keptBy m_ahead m_against m_sum m_sumBy m_term m_termBy m_byNot m_valueOf m_more x12 rs
    refine pk_le j i (fun q2 => ?_) (fun q2 => ?_) rfl rfl (by omega) (by omega)
    · have e : i = j := by omega
      subst e
      have a97 : ∀ x : Nat, x = (if L' b = true then allN L' o i b + prdN o b i else allN L' o i b) → XWp (xF L xs) (some .int) xP257 (XC (xF L xs) xmeths (d + 5)) Q 97 [orf 169, oi man, oi (nI i), oi (nI o), ol (lN x), none, ol (lN (10 ^ i)), none, oi (nI b), ol (lN (prdN o b i)), none, oi (nI i), x12] [] (clsW pn pc tok ship nn tl draft vd log trial sta says seed past marks (mdlX 0 m_taped m_size m_place m_begin m_token m_word m_told m_wrong m_code m_toldLines m_given m_fresh m_done m_odd m_bestRank m_leastSpray m_g m_tape m_ship m_manName m_postName m_kind m_greenTold m_hands m_spray m_holds m_sea m_lineFrom m_lineTo m_codes m_opened m_compared m_kept m_keptBy m_ahead m_against m_sum m_sumBy m_term m_termBy m_byNot m_valueOf m_lines m_lineWhat m_lineA m_lineB m_seens m_seenMan m_seenOther m_seenAt m_seenGreener m_s m_aside m_before m_marked m_undone m_isLaid m_more m_row m_bestRow m_greenerBy K)) := by
        intro x hx
        subst hx
        refine xgo [43] 40 ⟨rfl, nb rfl, m_loadB n6 rb (fun m_s rs => ?_)⟩
        exact ih m_s m_odd m_kept m_keptBy m_ahead m_against m_sum m_sumBy m_term m_termBy m_byNot m_valueOf m_more _ _ _ _ rs
      refine ⟨rfl, nb rfl, m_captainNow n6 ms.men rs ?_⟩
      refine And.intro (fun (q3 : ¬ capt (runS ship A.p n b A.g i) n = man) => ?_) (fun (q3 : ¬ ¬ capt (runS ship A.p n b A.g i) n = man) => ?_)
      · exact a97 _ (by rw [if_neg (by rw [hL']; simpa using q3)])
      · have q3 := Classical.not_not.mp q3
        have a97 := a97 (allN L' o i b + prdN o b i) (by rw [if_pos (by rw [hL']; simpa using q3)])
        rw [← lN_add] at a97
        exact ⟨nb rfl, a97⟩
    · have ih2 := ih2 q2
      have hbit : bit (nI b) (nI i) ↔ b.testBit i = true := bit_iff (by omega) (by omega)
      have go : ∀ (x wv : Int32) (f : Nat) (fl : Int64), fl = lN f → f = (if b.testBit i = true then o else 10 - o) → wv = (if b.testBit i = true then 2 else 0) → ∀ m_odd, m_odd = wv → XWp (xF L xs) (some .int) xP257 (XC (xF L xs) xmeths (d + 5)) Q 85 [orf 169, oi man, oi (nI j), oi (nI o), ol (lN (allN L' o j b)), none, ol (lN (10 ^ j)), none, oi (nI b), ol (lN (prdN o b i) * fl), none, oi (nI i), oi x] [] (clsW pn pc tok ship nn tl draft vd log trial sta says seed past marks (mdlX 0 m_taped m_size m_place m_begin m_token m_word m_told m_wrong m_code m_toldLines m_given m_fresh m_done m_odd m_bestRank m_leastSpray m_g m_tape m_ship m_manName m_postName m_kind m_greenTold m_hands m_spray m_holds m_sea m_lineFrom m_lineTo m_codes m_opened m_compared m_kept m_keptBy m_ahead m_against m_sum m_sumBy m_term m_termBy m_byNot m_valueOf m_lines m_lineWhat m_lineA m_lineB m_seens m_seenMan m_seenOther m_seenAt m_seenGreener m_s m_aside m_before m_marked m_undone m_isLaid m_more m_row m_bestRow m_greenerBy K)) := by
        intro x wv f fl hfl hf hwv m_odd hod
        subst hod
        refine xgo [52] 20 ⟨rfl, nb rfl, m_passesWatch (w := m_odd) (A := (runS ship A.p n b A.g i, A.p, A.su, A.t + i)) so ms rs (runS_ok gp i) (by show A.t + i < 2 ^ 31; omega) (Or.inr ⟨by rw [hwv]; split <;> decide, rfl⟩) (by rw [hwv]; split; exact ⟨2, by omega, rfl⟩; exact ⟨0, by omega, rfl⟩) (fun m_s m_kept m_keptBy m_ahead m_against m_sum m_sumBy m_term m_termBy m_byNot m_valueOf m_more rs => ?_)⟩
        have ih2 := ih2 m_s m_odd m_kept m_keptBy m_ahead m_against m_sum m_sumBy m_term m_termBy m_byNot m_valueOf m_more (oi x) (by rw [runS, ← hwv]; exact rs)
        rw [prdN, ← hf, ← lN_mul, ← hfl, nI_succ] at ih2
        exact ih2
      refine And.intro (fun (q3 : ¬ bit (nI b) (nI i)) => ?_) (fun (q3 : ¬ ¬ bit (nI b) (nI i)) => ?_)
      · have q4 : ¬ b.testBit i = true := fun y => q3 (hbit.mpr y)
        refine xgo [84] 40 ⟨nb rfl, vTd rfl ⟨nb rfl, vTd rfl ?_⟩⟩
        refine xp_odd rfl ?_
        refine go 0 0 (10 - o) _ ?_ (by rw [if_neg q4]) (by rw [if_neg q4]) _ rfl
        rw [show Int32.ofInt 10 - nI o = nI (10 - o) from pk_sub (a := 10) ho, nI_l (by omega)]
      · have q4 : b.testBit i = true := hbit.mp (Classical.not_not.mp q3)
        refine xgo [84] 40 ⟨nb rfl, vFd rfl ⟨nb rfl, vFd rfl ?_⟩⟩
        refine xp_odd rfl ?_
        refine go 1 2 o _ ?_ (by rw [if_pos q4]) (by rw [if_pos q4]) _ rfl
        rw [nI_l (by omega)]
end XMH
