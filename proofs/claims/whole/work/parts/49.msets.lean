/-! the reference: who may have used a lemon -/
abbrev SR (se : TSeen) (c : Nat) (a_n a_m a_o a_w a_g : Fn) : Prop := (a_n 0 = nI c) ∧ (∀ i, i < c → a_m i = se.man i) ∧ (∀ i, i < c → a_o i = se.other i) ∧ (∀ i, i < c → a_w i = se.watches i) ∧ (∀ i, i < c → a_g i = se.greener i)
theorem SR.size {se : TSeen} {c : Nat} {a_n a_m a_o a_w a_g : Fn} (h : SR se c a_n a_m a_o a_w a_g) : a_n 0 = nI c := h.1
theorem SR.man {se : TSeen} {c : Nat} {a_n a_m a_o a_w a_g : Fn} (h : SR se c a_n a_m a_o a_w a_g) : ∀ i, i < c → a_m i = se.man i := h.2.1
theorem SR.other {se : TSeen} {c : Nat} {a_n a_m a_o a_w a_g : Fn} (h : SR se c a_n a_m a_o a_w a_g) : ∀ i, i < c → a_o i = se.other i := h.2.2.1
theorem SR.watches {se : TSeen} {c : Nat} {a_n a_m a_o a_w a_g : Fn} (h : SR se c a_n a_m a_o a_w a_g) : ∀ i, i < c → a_w i = se.watches i := h.2.2.2.1
theorem SR.greener {se : TSeen} {c : Nat} {a_n a_m a_o a_w a_g : Fn} (h : SR se c a_n a_m a_o a_w a_g) : ∀ i, i < c → a_g i = se.greener i := h.2.2.2.2
def GBt (gb : Fl) (s : TShip) (A : TA) (n z M B : Nat) : Prop := ∀ b, b < B → b &&& M = b → ∀ w, w < 21 → gb (21 * b + w) = lN (rN (setG s A.g A.p n z A.t b w) n n)
theorem vstop {f : Nat → Prop} [DecidablePred f] {M : Nat} : ∀ e, (∀ b, M < b → b < M + 1 + e → ¬ f b) → fndV f (M + 1 + e) = fndV f (M + 1) ∧ (∀ x, allV f x (M + 1 + e) = allV f x (M + 1)) ∧ someV f (M + 1 + e) = someV f (M + 1) ∧ ∀ G m o, sayV f G m o (M + 1 + e) = sayV f G m o (M + 1)
  | 0, _ => ⟨rfl, fun _ => rfl, rfl, fun _ _ _ => rfl⟩
  | e + 1, h => by
    have ⟨i1, i2, i3, i4⟩ := vstop e (fun b h1 h2 => h b h1 (by omega))
    have hn := h (M + 1 + e) (by omega) (by omega)
    rw [show M + 1 + (e + 1) = (M + 1 + e) + 1 by omega]
    refine ⟨by rw [fndV, if_neg hn]; exact i1, fun x => by rw [allV, if_neg hn]; exact i2 x, by rw [someV, if_neg hn]; exact i3, fun G m o => by rw [sayV, if_neg (fun y => hn y.1)]; exact i4 G m o⟩
theorem all_xy {f : Nat → Prop} [DecidablePred f] {x y : Nat} : ∀ B, (∀ b, b < B → f b → x &&& b = y &&& b) → (fndV f B = 0 → allV f x B = x ∧ allV f y B = y) ∧ (¬ fndV f B = 0 → allV f x B = allV f y B)
  | 0, _ => ⟨fun _ => ⟨rfl, rfl⟩, fun h => absurd rfl h⟩
  | b + 1, h => by
    have ⟨i1, i2⟩ := all_xy b (fun c hc => h c (by omega))
    simp only [fndV, allV]
    by_cases q : f b
    · rw [if_pos q, if_pos q, if_pos q]
      refine ⟨fun z => by omega, fun _ => ?_⟩
      by_cases z : fndV f b = 0
      · rw [(i1 z).1, (i1 z).2]
        exact h b (by omega) q
      · rw [i2 z]
    · rw [if_neg q, if_neg q, if_neg q]
      exact ⟨i1, i2⟩
theorem fnd_le {f : Nat → Prop} [DecidablePred f] : ∀ B, fndV f B ≤ B
  | 0 => Nat.le_refl 0
  | b + 1 => by
    have := fnd_le (f := f) b
    simp only [fndV]
    split <;> omega
section XMS
variable {L : Nat} {xs : Nat → Int32} {d : Nat} {Q : XQt} {pn pc : Int32} {tok : TTok} {ship : TShip} {nn : Int64} {tl : Int32} {draft : TShip} {vd : TVoy} {log : TLog} {trial : TCrew} {sta : TSta} {says : Fn} {seed : Int64} {past : Nat → TCrew} {marks : Nat → TLog} {K : XWd}
variable {m_thrown : Int32} {m_taped : Int32} {m_size : Int32} {m_place : Int32} {m_begin : Int32} {m_token : Int32} {m_word : Int64} {m_told : Int32} {m_wrong : Int32} {m_code : Int32} {m_toldLines : Int32} {m_given : Int32} {m_fresh : Int64} {m_done : Int32} {m_odd : Int32} {m_bestRank : Int32} {m_leastSpray : Int32} {m_g : Int64} {m_tape : Fn} {m_ship : Fn} {m_manName : Fl} {m_postName : Fl} {m_kind : Fn} {m_greenTold : Fn} {m_hands : Fn} {m_spray : Fn} {m_holds : Fn} {m_sea : Fn} {m_lineFrom : Fn} {m_lineTo : Fn} {m_codes : Fn} {m_opened : Fn} {m_compared : Fn} {m_kept : Fn} {m_keptBy : Fn} {m_ahead : Fn} {m_against : Fn} {m_sum : Fn} {m_sumBy : Fn} {m_term : Fn} {m_termBy : Fn} {m_byNot : Fn} {m_valueOf : Fn} {m_lines : Fn} {m_lineWhat : Fn} {m_lineA : Fn} {m_lineB : Fn} {m_seens : Fn} {m_seenMan : Fn} {m_seenOther : Fn} {m_seenAt : Fn} {m_seenGreener : Fn} {m_s : Fn} {m_aside : Fn} {m_before : Fn} {m_marked : Fn} {m_undone : Fn} {m_isLaid : Fn} {m_more : Fn} {m_row : Fn} {m_bestRow : Fn} {m_greenerBy : Fl}
variable {n p z c : Nat} {A : TA} {se : TSeen}
theorem m_isGreenerBy {b w m o : Nat} {xw xm xo : Int32} {R : Nat} (ew : xw = nI w) (em : xm = nI m) (eo : xo = nI o) (hb : b < 64) (hw : w < 21) (hm : m < 6) (ho : o < 6) (hR : R < 2 ^ 36) (hg : m_greenerBy (21 * b + w) = lN R) (h : Q (some (.int (b2i (R.testBit (6 * o + m) = true)))) (clsW pn pc tok ship nn tl draft vd log trial sta says seed past marks (mdlX m_thrown m_taped m_size m_place m_begin m_token m_word m_told m_wrong m_code m_toldLines m_given m_fresh m_done m_odd m_bestRank m_leastSpray m_g m_tape m_ship m_manName m_postName m_kind m_greenTold m_hands m_spray m_holds m_sea m_lineFrom m_lineTo m_codes m_opened m_compared m_kept m_keptBy m_ahead m_against m_sum m_sumBy m_term m_termBy m_byNot m_valueOf m_lines m_lineWhat m_lineA m_lineB m_seens m_seenMan m_seenOther m_seenAt m_seenGreener m_s m_aside m_before m_marked m_undone m_isLaid m_more m_row m_bestRow m_greenerBy K))) : XC (xF L xs) xmeths (d + 1) 255 [.ref 169, .int (nI b), .int xw, .int xm, .int xo] (clsW pn pc tok ship nn tl draft vd log trial sta says seed past marks (mdlX m_thrown m_taped m_size m_place m_begin m_token m_word m_told m_wrong m_code m_toldLines m_given m_fresh m_done m_odd m_bestRank m_leastSpray m_g m_tape m_ship m_manName m_postName m_kind m_greenTold m_hands m_spray m_holds m_sea m_lineFrom m_lineTo m_codes m_opened m_compared m_kept m_keptBy m_ahead m_against m_sum m_sumBy m_term m_termBy m_byNot m_valueOf m_lines m_lineWhat m_lineA m_lineB m_seens m_seenMan m_seenOther m_seenAt m_seenGreener m_s m_aside m_before m_marked m_undone m_isLaid m_more m_row m_bestRow m_greenerBy K)) Q := by
  subst ew em eo
  have h := vR h
  have e1 : Int32.ofInt 21 * nI b + nI w = nI (21 * b + w) := by
    rw [show Int32.ofInt 21 = nI 21 from rfl, pk_mul, nI_add]
  have e2 : Int32.ofInt 6 * nI o + nI m = nI (6 * o + m) := by
    rw [show Int32.ofInt 6 = nI 6 from rfl, pk_mul, nI_add]
  refine ⟨nb rfl, xgo [] 60 ⟨show vp_in (Int32.ofInt 21 * nI b + nI w) 1344 from e1 ▸ vp_in_nI (by omega) (by omega), ?_⟩⟩
  rw [e1, nI_clamp (by omega)]
  have e3 : m_greenerBy (21 * b + w) >>> ((Int32.ofInt 6 * nI o + nI m).toInt64 &&& 63) &&& Int64.ofNat 1 = lN (R / 2 ^ (6 * o + m) % 2) := by
    rw [e2, hg, l_shr (by omega) (by omega)]
    exact l_and1 _
  have hlt := Nat.mod_lt (R / 2 ^ (6 * o + m)) (show 0 < 2 by decide)
  have key : ∀ v, v = lN (R / 2 ^ (6 * o + m) % 2) → (¬ lg_cmp v (Int64.ofNat 1) = 0 → ¬ R.testBit (6 * o + m) = true) ∧ (¬ ¬ lg_cmp v (Int64.ofNat 1) = 0 → R.testBit (6 * o + m) = true) := by
    intro v hv
    rw [Nat.testBit_eq_decide_div_mod_eq, decide_eq_true_eq]
    rcases (show R / 2 ^ (6 * o + m) % 2 = 0 ∨ R / 2 ^ (6 * o + m) % 2 = 1 by omega) with y | y
    · rw [y] at hv ⊢
      subst hv
      exact ⟨fun _ => by decide, fun q => absurd (by decide +kernel) q⟩
    · rw [y] at hv ⊢
      subst hv
      exact ⟨fun q => absurd (by decide +kernel) q, fun _ => rfl⟩
  have k := key _ e3
  exact And.intro (fun q => ⟨rfl, h.2 (k.1 q)⟩) (fun q => ⟨rfl, h.1 (k.2 q)⟩)
theorem m_isAsSeen {b : Nat} (n6 : n ≤ 6) (so : SeOk se n c) (sr : SR se c m_seens m_seenMan m_seenOther m_seenAt m_seenGreener) (hb : b < 64) (hg : ∀ w, w < 21 → m_greenerBy (21 * b + w) = lN (rN (setG ship A.g A.p n z A.t b w) n n)) (h : Q (some (.int (b2i (fitV ship A.g A.p se n z A.t c b = true)))) (clsW pn pc tok ship nn tl draft vd log trial sta says seed past marks (mdlX m_thrown m_taped m_size m_place m_begin m_token m_word m_told m_wrong m_code m_toldLines m_given m_fresh m_done m_odd m_bestRank m_leastSpray m_g m_tape m_ship m_manName m_postName m_kind m_greenTold m_hands m_spray m_holds m_sea m_lineFrom m_lineTo m_codes m_opened m_compared m_kept m_keptBy m_ahead m_against m_sum m_sumBy m_term m_termBy m_byNot m_valueOf m_lines m_lineWhat m_lineA m_lineB m_seens m_seenMan m_seenOther m_seenAt m_seenGreener m_s m_aside m_before m_marked m_undone m_isLaid m_more m_row m_bestRow m_greenerBy K))) : XC (xF L xs) xmeths (d + 2) 254 [.ref 169, .int (nI b)] (clsW pn pc tok ship nn tl draft vd log trial sta says seed past marks (mdlX m_thrown m_taped m_size m_place m_begin m_token m_word m_told m_wrong m_code m_toldLines m_given m_fresh m_done m_odd m_bestRank m_leastSpray m_g m_tape m_ship m_manName m_postName m_kind m_greenTold m_hands m_spray m_holds m_sea m_lineFrom m_lineTo m_codes m_opened m_compared m_kept m_keptBy m_ahead m_against m_sum m_sumBy m_term m_termBy m_byNot m_valueOf m_lines m_lineWhat m_lineA m_lineB m_seens m_seenMan m_seenOther m_seenAt m_seenGreener m_s m_aside m_before m_marked m_undone m_isLaid m_more m_row m_bestRow m_greenerBy K)) Q := by
  have c8 := so.c8
  have h := vR h
  refine ⟨nb rfl, xgo [2] 20 ⟨nb rfl, ?_⟩⟩
  refine up_to (P := fun j => (∀ i, i < j → seeA se (setG ship A.g A.p n z A.t b) i = true) → XWp (xF L xs) (some .boolean) xP254 (XC (xF L xs) xmeths (d + 1)) Q 2 [orf 169, oi (nI b), oi (nI j)] [] (clsW pn pc tok ship nn tl draft vd log trial sta says seed past marks (mdlX m_thrown m_taped m_size m_place m_begin m_token m_word m_told m_wrong m_code m_toldLines m_given m_fresh m_done m_odd m_bestRank m_leastSpray m_g m_tape m_ship m_manName m_postName m_kind m_greenTold m_hands m_spray m_holds m_sea m_lineFrom m_lineTo m_codes m_opened m_compared m_kept m_keptBy m_ahead m_against m_sum m_sumBy m_term m_termBy m_byNot m_valueOf m_lines m_lineWhat m_lineA m_lineB m_seens m_seenMan m_seenOther m_seenAt m_seenGreener m_s m_aside m_before m_marked m_undone m_isLaid m_more m_row m_bestRow m_greenerBy K))) (n := c) (fun j hj ih hall => xgo [2] 60 ⟨vp_in_nI (n := 0) (by decide) (by decide), ?_⟩) (fun i hi => absurd hi (Nat.not_lt_zero i))
  refine pk_le c j (fun q => ?_) (fun q => ?_) sr.size rfl (by omega) (by omega)
  · exact ⟨rfl, h.1 (by rw [fitV, allB_iff]; exact fun k hk => hall k (by omega))⟩
  · have ih := ih q
    refine ⟨vp_in_nI (by omega) (by omega), vp_in_nI (by omega) (by omega), vp_in_nI (by omega) (by omega), ?_⟩
    rw [nI_clamp (by omega)]
    rcases so.man j q with ⟨m, hm, em⟩
    rcases so.other j q with ⟨o, ho, eo⟩
    rcases so.watches j q with ⟨w, hw, ew⟩
    have hr := rN_lt (setG ship A.g A.p n z A.t b w) n6 n
    have hp : 2 ^ (6 * n) ≤ 2 ^ 36 := Nat.pow_le_pow_right (by decide) (by omega)
    refine ⟨rfl, nb rfl, m_isGreenerBy (w := w) (m := m) (o := o) ((sr.watches j q).trans ew) ((sr.man j q).trans em) ((sr.other j q).trans eo) hb (by omega) (by omega) (by omega) (by omega) (hg w (by omega)) ?_⟩
    refine ⟨vp_in_nI (by omega) (by omega), ?_⟩
    rw [nI_clamp (by omega)]
    have e1 : (rN (setG ship A.g A.p n z A.t b w) n n).testBit (6 * o + m) = true ↔ setG ship A.g A.p n z A.t b w o < setG ship A.g A.p n z A.t b w m := by
      rw [rN_bit _ n6 o m (by omega)]
      simp [ho, hm]
    have e2 : seeA se (setG ship A.g A.p n z A.t b) j = decide (b2i (setG ship A.g A.p n z A.t b w o < setG ship A.g A.p n z A.t b w m) = se.greener j) := by
      rw [seeA, em, eo, ew, nI_clamp (by omega), nI_clamp (by omega), nI_clamp (by omega)]
    have e3 : b2i ((rN (setG ship A.g A.p n z A.t b w) n n).testBit (6 * o + m) = true) = b2i (setG ship A.g A.p n z A.t b w o < setG ship A.g A.p n z A.t b w m) := by
      by_cases y : setG ship A.g A.p n z A.t b w o < setG ship A.g A.p n z A.t b w m
      · rw [b2i_t y, b2i_t (e1.mpr y)]
      · rw [b2i_f y, b2i_f (fun z => y (e1.mp z))]
    refine And.intro (fun (q2 : b2i ((rN (setG ship A.g A.p n z A.t b w) n n).testBit (6 * o + m) = true) = m_seenGreener j) => ?_) (fun (q2 : ¬ b2i ((rN (setG ship A.g A.p n z A.t b w) n n).testBit (6 * o + m) = true) = m_seenGreener j) => ?_)
    · rw [e3, sr.greener j q] at q2
      have ih := ih (fun i hi => by
        rcases Nat.lt_or_ge i j with y | y
        · exact hall i y
        · have e : i = j := by omega
          rw [e, e2]
          exact decide_eq_true q2)
      rw [nI_succ] at ih
      exact ih
    · rw [e3, sr.greener j q] at q2
      refine ⟨rfl, h.2 ?_⟩
      rw [fitV, allB_iff]
      intro y
      have y := y j q
      rw [e2] at y
      exact q2 (of_decide_eq_true y)
theorem m_laysGreener {M : Nat} (so : ShOk ship n p z) (ms : MS ship n p z m_ship m_kind m_greenTold m_hands m_spray m_holds m_sea m_lineFrom m_lineTo m_codes m_manName m_postName) (rs : RS m_s n A) (gp : GP A.g A.p n p) (ht : A.t < 2 ^ 30) (ho : m_odd = -1) (hM : M < 64) (h : ∀ m_s m_before m_greenerBy m_kept m_keptBy m_ahead m_against m_sum m_sumBy m_term m_termBy m_byNot m_valueOf m_more, RS m_s n A → GBt m_greenerBy ship A n z M (M + 1) → Q none (clsW pn pc tok ship nn tl draft vd log trial sta says seed past marks (mdlX m_thrown m_taped m_size m_place m_begin m_token m_word m_told m_wrong m_code m_toldLines m_given m_fresh m_done m_odd m_bestRank m_leastSpray m_g m_tape m_ship m_manName m_postName m_kind m_greenTold m_hands m_spray m_holds m_sea m_lineFrom m_lineTo m_codes m_opened m_compared m_kept m_keptBy m_ahead m_against m_sum m_sumBy m_term m_termBy m_byNot m_valueOf m_lines m_lineWhat m_lineA m_lineB m_seens m_seenMan m_seenOther m_seenAt m_seenGreener m_s m_aside m_before m_marked m_undone m_isLaid m_more m_row m_bestRow m_greenerBy K))) : XC (xF L xs) xmeths (d + 6) 253 [.ref 169, .int (nI M)] (clsW pn pc tok ship nn tl draft vd log trial sta says seed past marks (mdlX m_thrown m_taped m_size m_place m_begin m_token m_word m_told m_wrong m_code m_toldLines m_given m_fresh m_done m_odd m_bestRank m_leastSpray m_g m_tape m_ship m_manName m_postName m_kind m_greenTold m_hands m_spray m_holds m_sea m_lineFrom m_lineTo m_codes m_opened m_compared m_kept m_keptBy m_ahead m_against m_sum m_sumBy m_term m_termBy m_byNot m_valueOf m_lines m_lineWhat m_lineA m_lineB m_seens m_seenMan m_seenOther m_seenAt m_seenGreener m_s m_aside m_before m_marked m_undone m_isLaid m_more m_row m_bestRow m_greenerBy K)) Q := by
  have n6 := so.n6
  refine ⟨nb rfl, xgo [9] 20 ⟨rfl, nb rfl, m_saveB n6 rs (fun m_before rb => ⟨nb rfl, ?_⟩)⟩⟩
  refine up_to (P := fun b => ∀ m_s m_greenerBy m_kept m_keptBy m_ahead m_against m_sum m_sumBy m_term m_termBy m_byNot m_valueOf m_more, ∀ x3 x4 x5 x6, RS m_s n A → GBt m_greenerBy ship A n z M b → XWp (xF L xs) none xP253 (XC (xF L xs) xmeths (d + 5)) Q 9 [orf 169, oi (nI M), oi (nI b), x3, x4, x5, x6] [] (clsW pn pc tok ship nn tl draft vd log trial sta says seed past marks (mdlX m_thrown m_taped m_size m_place m_begin m_token m_word m_told m_wrong m_code m_toldLines m_given m_fresh m_done m_odd m_bestRank m_leastSpray m_g m_tape m_ship m_manName m_postName m_kind m_greenTold m_hands m_spray m_holds m_sea m_lineFrom m_lineTo m_codes m_opened m_compared m_kept m_keptBy m_ahead m_against m_sum m_sumBy m_term m_termBy m_byNot m_valueOf m_lines m_lineWhat m_lineA m_lineB m_seens m_seenMan m_seenOther m_seenAt m_seenGreener m_s m_aside m_before m_marked m_undone m_isLaid m_more m_row m_bestRow m_greenerBy K))) (n := M + 1) (fun b hb ih m_s m_greenerBy m_kept m_keptBy m_ahead m_against m_sum m_sumBy m_term m_termBy m_byNot m_valueOf m_more x3 x4 x5 x6 rs hg => xgo [9, 24, 70] 60 ?_) m_s m_greenerBy m_kept m_keptBy m_ahead m_against m_sum m_sumBy m_term m_termBy m_byNot m_valueOf m_more none none none none rs (fun b hb => absurd hb (Nat.not_lt_zero b))
  refine pk_lt M b (fun q => ?_) (fun q => ?_) rfl rfl (by omega) (by omega)
  · have e : b = M + 1 := by omega
    subst e
    exact ⟨rfl, h m_s m_before m_greenerBy m_kept m_keptBy m_ahead m_against m_sum m_sumBy m_term m_termBy m_byNot m_valueOf m_more rs hg⟩
  · have ih := ih (by omega)
    have sub := may_sub b (by omega) M hM
    refine And.intro (fun (q2 : (nI b &&& (nI M ^^^ -1)) = 0) => ?_) (fun (q2 : ¬ (nI b &&& (nI M ^^^ -1)) = 0) => ?_)
    rotate_left
    · have ih := ih m_s m_greenerBy m_kept m_keptBy m_ahead m_against m_sum m_sumBy m_term m_termBy m_byNot m_valueOf m_more x3 x4 x5 x6 rs (fun b' hb' hs => by
        rcases Nat.lt_or_ge b' b with y | y
        · exact hg b' y hs
        · have e : b' = b := by omega
          subst e
          exact absurd (sub.mpr hs) q2)
      rw [nI_succ] at ih
      exact xgo [9] 20 ih
    have q2 := sub.mp q2
    refine ⟨rfl, nb rfl, m_suckAll n6 ms.men ms.lemon rs (by omega) (fun m_s su rs => ⟨nb rfl, ?_⟩)⟩
    refine up_to (P := fun j => ∀ m_s m_greenerBy m_kept m_keptBy m_ahead m_against m_sum m_sumBy m_term m_termBy m_byNot m_valueOf m_more, ∀ x4 x5 x6, RS m_s n (setG ship A.g A.p n z A.t b j, A.p, su, A.t + j) → GBt m_greenerBy ship A n z M b → (∀ w, w < j → m_greenerBy (21 * b + w) = lN (rN (setG ship A.g A.p n z A.t b w) n n)) → XWp (xF L xs) none xP253 (XC (xF L xs) xmeths (d + 5)) Q 24 [orf 169, oi (nI M), oi (nI b), oi (nI j), x4, x5, x6] [] (clsW pn pc tok ship nn tl draft vd log trial sta says seed past marks (mdlX m_thrown m_taped m_size m_place m_begin m_token m_word m_told m_wrong m_code m_toldLines m_given m_fresh m_done m_odd m_bestRank m_leastSpray m_g m_tape m_ship m_manName m_postName m_kind m_greenTold m_hands m_spray m_holds m_sea m_lineFrom m_lineTo m_codes m_opened m_compared m_kept m_keptBy m_ahead m_against m_sum m_sumBy m_term m_termBy m_byNot m_valueOf m_lines m_lineWhat m_lineA m_lineB m_seens m_seenMan m_seenOther m_seenAt m_seenGreener m_s m_aside m_before m_marked m_undone m_isLaid m_more m_row m_bestRow m_greenerBy K))) (n := 21) (fun j hj ih2 m_s m_greenerBy m_kept m_keptBy m_ahead m_against m_sum m_sumBy m_term m_termBy m_byNot m_valueOf m_more x4 x5 x6 rs hg hj' => xgo [9, 24, 31, 70] 60 ?_) m_s m_greenerBy m_kept m_keptBy m_ahead m_against m_sum m_sumBy m_term m_termBy m_byNot m_valueOf m_more x4 x5 x6 rs hg (fun w hw => absurd hw (Nat.not_lt_zero w))
    refine pk_le 21 j (fun q3 => ?_) (fun q3 => ?_) rfl rfl (by omega) (by omega)
    · refine ⟨rfl, nb rfl, m_loadB n6 rb (fun m_s rs => ?_)⟩
      have ih := ih m_s m_greenerBy m_kept m_keptBy m_ahead m_against m_sum m_sumBy m_term m_termBy m_byNot m_valueOf m_more (oi (nI j)) x4 x5 x6 rs (fun b' hb' hs => by
        rcases Nat.lt_or_ge b' b with y | y
        · exact hg b' y hs
        · have e : b' = b := by omega
          subst e
          exact fun w hw => hj' w (by omega))
      rw [nI_succ] at ih
      exact xgo [9] 20 ih
    · have ih2 := ih2 (by omega)
      refine ⟨nb rfl, nb rfl, ?_⟩
      refine up_to (P := fun i => XWp (xF L xs) none xP253 (XC (xF L xs) xmeths (d + 5)) Q 31 [orf 169, oi (nI M), oi (nI b), oi (nI j), ol (lN (rN (setG ship A.g A.p n z A.t b j) n i)), none, oi (nI i)] [] (clsW pn pc tok ship nn tl draft vd log trial sta says seed past marks (mdlX m_thrown m_taped m_size m_place m_begin m_token m_word m_told m_wrong m_code m_toldLines m_given m_fresh m_done m_odd m_bestRank m_leastSpray m_g m_tape m_ship m_manName m_postName m_kind m_greenTold m_hands m_spray m_holds m_sea m_lineFrom m_lineTo m_codes m_opened m_compared m_kept m_keptBy m_ahead m_against m_sum m_sumBy m_term m_termBy m_byNot m_valueOf m_lines m_lineWhat m_lineA m_lineB m_seens m_seenMan m_seenOther m_seenAt m_seenGreener m_s m_aside m_before m_marked m_undone m_isLaid m_more m_row m_bestRow m_greenerBy K))) (n := n) (fun i hi ih3 => xgo [24, 31] 60 ⟨vp_in_nI (n := 0) (by decide) (by decide), ?_⟩)
      refine pk_le n i (fun q4 => ?_) (fun q4 => ?_) ms.men rfl (by omega) (by omega)
      · have e : i = n := by omega
        subst e
        have e1 : Int32.ofInt 21 * nI b + nI j = nI (21 * b + j) := by
          rw [show Int32.ofInt 21 = nI 21 from rfl, pk_mul, nI_add]
        refine ⟨show vp_in (Int32.ofInt 21 * nI b + nI j) 1344 from e1 ▸ vp_in_nI (by omega) (by omega), ?_⟩
        rw [e1, nI_clamp (by omega), st_greenerBy]
        refine ⟨rfl, nb rfl, m_passRun (A := (skG ship.lemon b A.g, A.p, su, A.t)) (j := j) so ms rs (skG_ok so.lemon gp) (by show A.t + j < 2 ^ 31; omega) ho (fun m_s m_kept m_keptBy m_ahead m_against m_sum m_sumBy m_term m_termBy m_byNot m_valueOf m_more rs => ?_)⟩
        have ih2 := ih2 m_s (vp_updL m_greenerBy (21 * b + j) (lN (rN (setG ship A.g A.p i z A.t b j) i i))) m_kept m_keptBy m_ahead m_against m_sum m_sumBy m_term m_termBy m_byNot m_valueOf m_more (ol (lN (rN (setG ship A.g A.p i z A.t b j) i i))) none (oi (nI i)) rs (fun b' hb' hs w hw => by
          have := hg b' hb' hs w hw
          simp only [vp_updL]
          rw [if_neg (by omega)]
          exact this) (fun w hw => by
          simp only [vp_updL]
          by_cases y : w = j
          · subst y; rw [if_pos rfl]
          · rw [if_neg (by omega)]
            exact hj' w (by omega))
        rw [nI_succ] at ih2
        exact ih2
      · have ih3 := ih3 q4
        refine ⟨rfl, nb rfl, m_greenerThan n6 ms.men rs q4 ⟨nb rfl, ?_⟩⟩
        have e6 : Int32.ofInt 6 * nI i = nI (6 * i) := pk_mul 6 i
        have hl := bsN_lt (fun o => decide (setG ship A.g A.p n z A.t b j i < setG ship A.g A.p n z A.t b j o)) n
        have h64 : 2 ^ n ≤ 2 ^ 6 := Nat.pow_le_pow_right (by decide) n6
        have e7 : lN (rN (setG ship A.g A.p n z A.t b j) n i) ||| (bset (fun o => decide (setG ship A.g A.p n z A.t b j i < setG ship A.g A.p n z A.t b j o)) n).toInt64 <<< ((Int32.ofInt 6 * nI i).toInt64 &&& 63) = lN (rN (setG ship A.g A.p n z A.t b j) n (i + 1)) := by
          rw [bset_N _ n n6, nI_l (by omega), e6, l_shl _ (by omega), l_or]
          rfl
        rw [← e7, nI_succ] at ih3
        exact ih3
theorem m_sets {what : Int32} (so : ShOk ship n p z) (ms : MS ship n p z m_ship m_kind m_greenTold m_hands m_spray m_holds m_sea m_lineFrom m_lineTo m_codes m_manName m_postName) (rs : RS m_s n A) (gp : GP A.g A.p n p) (ht : A.t < 2 ^ 30) (hsu : A.su < 64) (ho : m_odd = -1) (sok : SeOk se n c) (sr : SR se c m_seens m_seenMan m_seenOther m_seenAt m_seenGreener) {f : Nat → Prop} [DecidablePred f] (hf : ∀ b, f b ↔ ftV ship A.g A.p se n z A.t c A.su b) (h1 : 0 ≤ what ∧ what ≤ 2 → ∀ m_s m_before m_greenerBy m_kept m_keptBy m_ahead m_against m_sum m_sumBy m_term m_termBy m_byNot m_valueOf m_more, RS m_s n A → GBt m_greenerBy ship A n z (mayN n A.su) (mayN n A.su + 1) → Q (some (.int (if what = 0 then nI (fndV f (2 ^ n)) else if nI (fndV f (2 ^ n)) = 0 then -1 else if what = 1 then nI (allV f (2 ^ n - 1) (2 ^ n)) else nI (someV f (2 ^ n))))) (clsW pn pc tok ship nn tl draft vd log trial sta says seed past marks (mdlX 0 m_taped m_size m_place m_begin m_token m_word m_told m_wrong m_code m_toldLines m_given m_fresh m_done m_odd m_bestRank m_leastSpray m_g m_tape m_ship m_manName m_postName m_kind m_greenTold m_hands m_spray m_holds m_sea m_lineFrom m_lineTo m_codes m_opened m_compared m_kept m_keptBy m_ahead m_against m_sum m_sumBy m_term m_termBy m_byNot m_valueOf m_lines m_lineWhat m_lineA m_lineB m_seens m_seenMan m_seenOther m_seenAt m_seenGreener m_s m_aside m_before m_marked m_undone m_isLaid m_more m_row m_bestRow m_greenerBy K))) (h0 : ¬ (0 ≤ what ∧ what ≤ 2) → Q (some (.int (-1))) (clsW pn pc tok ship nn tl draft vd log trial sta says seed past marks (mdlX 0 m_taped m_size m_place m_begin m_token m_word m_told m_wrong m_code m_toldLines m_given m_fresh m_done m_odd m_bestRank m_leastSpray m_g m_tape m_ship m_manName m_postName m_kind m_greenTold m_hands m_spray m_holds m_sea m_lineFrom m_lineTo m_codes m_opened m_compared m_kept m_keptBy m_ahead m_against m_sum m_sumBy m_term m_termBy m_byNot m_valueOf m_lines m_lineWhat m_lineA m_lineB m_seens m_seenMan m_seenOther m_seenAt m_seenGreener m_s m_aside m_before m_marked m_undone m_isLaid m_more m_row m_bestRow m_greenerBy K))) : XC (xF L xs) xmeths (d + 7) 252 [.ref 169, .int what] (clsW pn pc tok ship nn tl draft vd log trial sta says seed past marks (mdlX m_thrown m_taped m_size m_place m_begin m_token m_word m_told m_wrong m_code m_toldLines m_given m_fresh m_done m_odd m_bestRank m_leastSpray m_g m_tape m_ship m_manName m_postName m_kind m_greenTold m_hands m_spray m_holds m_sea m_lineFrom m_lineTo m_codes m_opened m_compared m_kept m_keptBy m_ahead m_against m_sum m_sumBy m_term m_termBy m_byNot m_valueOf m_lines m_lineWhat m_lineA m_lineB m_seens m_seenMan m_seenOther m_seenAt m_seenGreener m_s m_aside m_before m_marked m_undone m_isLaid m_more m_row m_bestRow m_greenerBy K)) Q := by
  have n6 := so.n6
  have h64 : 2 ^ n ≤ 2 ^ 6 := Nat.pow_le_pow_right (by decide) n6
  have hM := mayN_lt n (by omega) A.su hsu
  have hfn : ∀ b, b < 2 ^ n → (b &&& A.su = 0 ↔ b &&& mayN n A.su = b) := fun b hb => may_iff hsu n6 hb
  generalize hMM : mayN n A.su = M at h1 hM hfn
  have vs := vstop (f := f) (M := M) (2 ^ n - (M + 1)) (fun b h1 h2 y => by
    have y := (hfn b (by omega)).mp ((hf b).mp y).1
    have := may_le y
    omega)
  rw [show M + 1 + (2 ^ n - (M + 1)) = 2 ^ n by omega] at vs
  refine ⟨nb rfl, xgo [2] 20 (xp_thrown rfl (xgo [24] 60 ⟨rfl, nb rfl, m_within ?_⟩))⟩
  refine vB1 (fun q => ?_) (fun q => h0 q)
  have h := h1 q
  refine ⟨rfl, nb rfl, m_maySuck n6 ms.men rs hsu ⟨nb rfl, ?_⟩⟩
  rw [hMM]
  refine ⟨rfl, nb rfl, m_laysGreener so ms rs gp ht ho (by omega) (fun m_s m_before m_greenerBy m_kept m_keptBy m_ahead m_against m_sum m_sumBy m_term m_termBy m_byNot m_valueOf m_more rs hg => ⟨nb rfl, nb rfl, nb rfl, nb rfl, ?_⟩)⟩
  have h := h m_s m_before m_greenerBy m_kept m_keptBy m_ahead m_against m_sum m_sumBy m_term m_termBy m_byNot m_valueOf m_more rs hg
  refine up_to (P := fun b => XWp (xF L xs) (some .int) xP252 (XC (xF L xs) xmeths (d + 6)) Q 24 [orf 169, oi what, oi (nI M), oi (nI (fndV f b)), oi (nI (allV f M b)), oi (nI (someV f b)), oi (nI b)] [] (clsW pn pc tok ship nn tl draft vd log trial sta says seed past marks (mdlX 0 m_taped m_size m_place m_begin m_token m_word m_told m_wrong m_code m_toldLines m_given m_fresh m_done m_odd m_bestRank m_leastSpray m_g m_tape m_ship m_manName m_postName m_kind m_greenTold m_hands m_spray m_holds m_sea m_lineFrom m_lineTo m_codes m_opened m_compared m_kept m_keptBy m_ahead m_against m_sum m_sumBy m_term m_termBy m_byNot m_valueOf m_lines m_lineWhat m_lineA m_lineB m_seens m_seenMan m_seenOther m_seenAt m_seenGreener m_s m_aside m_before m_marked m_undone m_isLaid m_more m_row m_bestRow m_greenerBy K))) (n := M + 1) (fun b hb ih => xgo [24, 47, 53] 60 ?_)
  refine pk_lt M b (fun q2 => ?_) (fun q2 => ?_) rfl rfl (by omega) (by omega)
  · have e : b = M + 1 := by omega
    subst e
    have hle := fnd_le (f := f) (M + 1)
    have axy := all_xy (f := f) (x := 2 ^ n - 1) (y := M) (M + 1) (fun b hb y => by
      have y := (hfn b (by omega)).mp ((hf b).mp y).1
      rw [Nat.and_comm, Nat.and_two_pow_sub_one_eq_mod, Nat.mod_eq_of_lt (by omega), Nat.and_comm, y])
    rw [vs.1, vs.2.1, vs.2.2.1] at h
    have a53 : (what = 0 ∨ fndV f (M + 1) = 0) → XWp (xF L xs) (some .int) xP252 (XC (xF L xs) xmeths (d + 6)) Q 53 [orf 169, oi what, oi (nI M), oi (nI (fndV f (M + 1))), oi (nI (allV f M (M + 1))), oi (nI (someV f (M + 1))), oi (nI (M + 1))] [] (clsW pn pc tok ship nn tl draft vd log trial sta says seed past marks (mdlX 0 m_taped m_size m_place m_begin m_token m_word m_told m_wrong m_code m_toldLines m_given m_fresh m_done m_odd m_bestRank m_leastSpray m_g m_tape m_ship m_manName m_postName m_kind m_greenTold m_hands m_spray m_holds m_sea m_lineFrom m_lineTo m_codes m_opened m_compared m_kept m_keptBy m_ahead m_against m_sum m_sumBy m_term m_termBy m_byNot m_valueOf m_lines m_lineWhat m_lineA m_lineB m_seens m_seenMan m_seenOther m_seenAt m_seenGreener m_s m_aside m_before m_marked m_undone m_isLaid m_more m_row m_bestRow m_greenerBy K)) := by
      intro hc
      refine xgo [] 20 ?_
      refine And.intro (fun (q3 : ¬ what = 0) => ?_) (fun (q3 : ¬ ¬ what = 0) => ?_)
      · rw [if_neg q3, if_pos (by rw [hc.elim (fun y => absurd y q3) id]; rfl)] at h
        exact h
      · rw [if_pos (Classical.not_not.mp q3)] at h
        exact h
    refine And.intro (fun (q3 : nI (fndV f (M + 1)) = 0) => a53 (Or.inr ((nI_eq (b := 0) (by omega) (by omega)).mp q3))) (fun (q3 : ¬ nI (fndV f (M + 1)) = 0) => ?_)
    refine And.intro (fun (q4 : ¬ what = 0) => ?_) (fun (q4 : ¬ ¬ what = 0) => a53 (Or.inl (Classical.not_not.mp q4)))
    rw [if_neg q4, if_neg q3] at h
    refine And.intro (fun (q5 : ¬ what = 1) => ?_) (fun (q5 : ¬ ¬ what = 1) => ?_)
    · rw [if_neg q5] at h
      exact h
    · rw [if_pos (Classical.not_not.mp q5), axy.2 (fun y => q3 (by rw [y]; rfl))] at h
      exact h
  · have ih := ih (by omega)
    rw [fndV, allV, someV, nI_succ] at ih
    have sub := may_sub b (by omega) M (by omega)
    have a47 : ¬ f b → XWp (xF L xs) (some .int) xP252 (XC (xF L xs) xmeths (d + 6)) Q 47 [orf 169, oi what, oi (nI M), oi (nI (fndV f b)), oi (nI (allV f M b)), oi (nI (someV f b)), oi (nI b)] [] (clsW pn pc tok ship nn tl draft vd log trial sta says seed past marks (mdlX 0 m_taped m_size m_place m_begin m_token m_word m_told m_wrong m_code m_toldLines m_given m_fresh m_done m_odd m_bestRank m_leastSpray m_g m_tape m_ship m_manName m_postName m_kind m_greenTold m_hands m_spray m_holds m_sea m_lineFrom m_lineTo m_codes m_opened m_compared m_kept m_keptBy m_ahead m_against m_sum m_sumBy m_term m_termBy m_byNot m_valueOf m_lines m_lineWhat m_lineA m_lineB m_seens m_seenMan m_seenOther m_seenAt m_seenGreener m_s m_aside m_before m_marked m_undone m_isLaid m_more m_row m_bestRow m_greenerBy K)) := by
      intro y
      rw [if_neg y, if_neg y, if_neg y] at ih
      exact xgo [24] 20 ih
    refine And.intro (fun (q3 : ¬ (nI b &&& (nI M ^^^ -1)) = 0) => a47 (fun y => q3 (sub.mpr ((hfn b (by omega)).mp ((hf b).mp y).1)))) (fun (q3 : ¬ ¬ (nI b &&& (nI M ^^^ -1)) = 0) => ?_)
    have q3 := sub.mp (Classical.not_not.mp q3)
    refine ⟨rfl, nb rfl, m_isAsSeen n6 sok sr (by omega) (hg b (by omega) q3) ?_⟩
    refine vB1 (fun q4 => ?_) (fun q4 => a47 (fun y => q4 ((hf b).mp y).2))
    have y : f b := (hf b).mpr ⟨(hfn b (by omega)).mpr q3, q4⟩
    rw [if_pos y, if_pos y, if_pos y, nI_succ, ← nI_and, ← nI_or] at ih
    exact ⟨nb rfl, nb rfl, xgo [24] 20 ih⟩
def bpK (says : Nat → Nat → Nat) (found n k : Nat) : Int32 × Int32 := if k / 8 < n then bpIn says found (k / 8) (min (k % 8) n) (bpOut says found n (k / 8)) else bpOut says found n n
theorem bpK_succ {says : Nat → Nat → Nat} {found n k : Nat} (n6 : n ≤ 6) : bpK says found n (k + 1) = if (k / 8 < n ∧ k % 8 < n ∧ ¬ k / 8 = k % 8) ∧ mx (nI (says (k / 8) (k % 8))) (nI found - nI (says (k / 8) (k % 8))) < (bpK says found n k).1 then (mx (nI (says (k / 8) (k % 8))) (nI found - nI (says (k / 8) (k % 8))), nI k) else bpK says found n k := by
  have e8 : 8 * (k / 8) + k % 8 = k := Nat.div_add_mod k 8
  by_cases y : k % 8 = 7
  · have e1 : (k + 1) / 8 = k / 8 + 1 := by omega
    have e2 : (k + 1) % 8 = 0 := by omega
    rw [if_neg (fun q => by omega)]
    simp only [bpK, e1, e2]
    by_cases q : k / 8 < n
    · rw [if_pos q, show min (k % 8) n = n by omega]
      by_cases q2 : k / 8 + 1 < n
      · rw [if_pos q2, show min 0 n = 0 by omega, bpIn, bpOut]
      · rw [if_neg q2]
        have e : n = k / 8 + 1 := by omega
        have : bpOut says found n n = bpIn says found (k / 8) n (bpOut says found n (k / 8)) := by
          conv => lhs; arg 4; rw [e]
          rfl
        exact this
    · rw [if_neg q, if_neg (by omega)]
  · have e1 : (k + 1) / 8 = k / 8 := by omega
    have e2 : (k + 1) % 8 = k % 8 + 1 := by omega
    by_cases q : k / 8 < n
    · have eL : bpK says found n (k + 1) = bpIn says found (k / 8) (min (k % 8 + 1) n) (bpOut says found n (k / 8)) := by rw [bpK, e1, e2, if_pos q]
      have eK : bpK says found n k = bpIn says found (k / 8) (min (k % 8) n) (bpOut says found n (k / 8)) := by rw [bpK, if_pos q]
      rw [eL, eK]
      by_cases q2 : k % 8 < n
      · rw [show min (k % 8 + 1) n = k % 8 + 1 by omega, show min (k % 8) n = k % 8 by omega, bpIn, e8]
        by_cases q3 : ¬ k / 8 = k % 8 ∧ mx (nI (says (k / 8) (k % 8))) (nI found - nI (says (k / 8) (k % 8))) < (bpIn says found (k / 8) (k % 8) (bpOut says found n (k / 8))).1
        · rw [if_pos q3, if_pos ⟨⟨q, q2, q3.1⟩, q3.2⟩]
        · rw [if_neg q3, if_neg (fun z => q3 ⟨z.1.2.2, z.2⟩)]
      · rw [show min (k % 8 + 1) n = n by omega, show min (k % 8) n = n by omega, if_neg (fun z => q2 z.1.2.1)]
    · have eL : bpK says found n (k + 1) = bpOut says found n n := by rw [bpK, e1, if_neg q]
      have eK : bpK says found n k = bpOut says found n n := by rw [bpK, if_neg q]
      rw [eL, eK, if_neg (fun z => q z.1.1)]
theorem m_ask {wt : Int32} (so : ShOk ship n p z) (ms : MS ship n p z m_ship m_kind m_greenTold m_hands m_spray m_holds m_sea m_lineFrom m_lineTo m_codes m_manName m_postName) (rs : RS m_s n A) (gp : GP A.g A.p n p) (ht : A.t < 2 ^ 30) (hsu : A.su < 64) (ho : m_odd = -1) (sok : SeOk se n c) (sr : SR se c m_seens m_seenMan m_seenOther m_seenAt m_seenGreener) {f : Nat → Prop} [DecidablePred f] (hf : ∀ b, f b ↔ ftV ship A.g A.p se n z A.t c A.su b) (h1 : ∀ w, w ≤ 20 → wt = nI w → ∀ m_s m_before m_greenerBy m_kept m_keptBy m_ahead m_against m_sum m_sumBy m_term m_termBy m_byNot m_valueOf m_more, RS m_s n A → Q (some (.int (bpOut (fun m o => sayV f (fun b => setG ship A.g A.p n z A.t b w) m o (2 ^ n)) (fndV f (2 ^ n)) n n).2)) (clsW pn pc tok ship nn tl draft vd log trial sta says seed past marks (mdlX 0 m_taped m_size m_place m_begin m_token m_word m_told m_wrong m_code m_toldLines m_given m_fresh m_done m_odd m_bestRank m_leastSpray m_g m_tape m_ship m_manName m_postName m_kind m_greenTold m_hands m_spray m_holds m_sea m_lineFrom m_lineTo m_codes m_opened m_compared m_kept m_keptBy m_ahead m_against m_sum m_sumBy m_term m_termBy m_byNot m_valueOf m_lines m_lineWhat m_lineA m_lineB m_seens m_seenMan m_seenOther m_seenAt m_seenGreener m_s m_aside m_before m_marked m_undone m_isLaid m_more m_row m_bestRow m_greenerBy K))) (h0 : ¬ (0 ≤ wt ∧ wt ≤ 20) → Q (some (.int (-1))) (clsW pn pc tok ship nn tl draft vd log trial sta says seed past marks (mdlX 0 m_taped m_size m_place m_begin m_token m_word m_told m_wrong m_code m_toldLines m_given m_fresh m_done m_odd m_bestRank m_leastSpray m_g m_tape m_ship m_manName m_postName m_kind m_greenTold m_hands m_spray m_holds m_sea m_lineFrom m_lineTo m_codes m_opened m_compared m_kept m_keptBy m_ahead m_against m_sum m_sumBy m_term m_termBy m_byNot m_valueOf m_lines m_lineWhat m_lineA m_lineB m_seens m_seenMan m_seenOther m_seenAt m_seenGreener m_s m_aside m_before m_marked m_undone m_isLaid m_more m_row m_bestRow m_greenerBy K))) : XC (xF L xs) xmeths (d + 8) 256 [.ref 169, .int wt] (clsW pn pc tok ship nn tl draft vd log trial sta says seed past marks (mdlX m_thrown m_taped m_size m_place m_begin m_token m_word m_told m_wrong m_code m_toldLines m_given m_fresh m_done m_odd m_bestRank m_leastSpray m_g m_tape m_ship m_manName m_postName m_kind m_greenTold m_hands m_spray m_holds m_sea m_lineFrom m_lineTo m_codes m_opened m_compared m_kept m_keptBy m_ahead m_against m_sum m_sumBy m_term m_termBy m_byNot m_valueOf m_lines m_lineWhat m_lineA m_lineB m_seens m_seenMan m_seenOther m_seenAt m_seenGreener m_s m_aside m_before m_marked m_undone m_isLaid m_more m_row m_bestRow m_greenerBy K)) Q := by
  have n6 := so.n6
  have h64 : 2 ^ n ≤ 2 ^ 6 := Nat.pow_le_pow_right (by decide) n6
  have hM := mayN_lt n (by omega) A.su hsu
  have hfn : ∀ b, b < 2 ^ n → (b &&& A.su = 0 ↔ b &&& mayN n A.su = b) := fun b hb => may_iff hsu n6 hb
  refine ⟨nb rfl, xgo [2] 20 (xp_thrown rfl (xgo [23] 60 ⟨rfl, nb rfl, m_within ?_⟩))⟩
  refine vB1 (fun q => ?_) (fun q => h0 q)
  rcases wiN (m := 20) (by omega) q with ⟨w, hw, rfl⟩
  have h := h1 w hw rfl
  refine ⟨rfl, nb rfl, m_maySuck n6 ms.men rs hsu ⟨nb rfl, rfl, nb rfl, m_sets so ms rs gp ht hsu ho sok sr hf (fun _ m_s m_before m_greenerBy m_kept m_keptBy m_ahead m_against m_sum m_sumBy m_term m_termBy m_byNot m_valueOf m_more rs hg => ?_) (fun y => absurd (by decide) y)⟩⟩
  rw [if_pos (show Int32.ofInt 0 = 0 from rfl)]
  refine ⟨nb rfl, nb rfl, nb rfl, nb rfl, ?_⟩
  have h := h m_s m_before m_greenerBy m_kept m_keptBy m_ahead m_against m_sum m_sumBy m_term m_termBy m_byNot m_valueOf m_more rs
  generalize hMM : mayN n A.su = M at hg hM hfn ⊢
  have vs := vstop (f := f) (M := M) (2 ^ n - (M + 1)) (fun b h1 h2 y => by
    have y := (hfn b (by omega)).mp ((hf b).mp y).1
    have := may_le y
    omega)
  rw [show M + 1 + (2 ^ n - (M + 1)) = 2 ^ n by omega] at vs
  have es : (fun m o => sayV f (fun b => setG ship A.g A.p n z A.t b w) m o (2 ^ n)) = (fun m o => sayV f (fun b => setG ship A.g A.p n z A.t b w) m o (M + 1)) := by
    funext m o
    exact vs.2.2.2 _ m o
  rw [es] at h
  have eK0 : bpK (fun m o => sayV f (fun b => setG ship A.g A.p n z A.t b w) m o (M + 1)) (fndV f (2 ^ n)) n 0 = (nI (fndV f (2 ^ n)), -1) := by
    rw [bpK]
    split
    · rw [show min (0 % 8) n = 0 by omega]; rfl
    · rw [show n = 0 by omega]; rfl
  have eK48 : bpK (fun m o => sayV f (fun b => setG ship A.g A.p n z A.t b w) m o (M + 1)) (fndV f (2 ^ n)) n 48 = bpOut (fun m o => sayV f (fun b => setG ship A.g A.p n z A.t b w) m o (M + 1)) (fndV f (2 ^ n)) n n := by
    rw [bpK, if_neg (by omega)]
  rw [← eK48] at h
  have hle := fnd_le (f := f) (2 ^ n)
  generalize hfd : fndV f (2 ^ n) = found at h eK0 hle ⊢
  have start := up_to (P := fun k => ∀ x7 x8 x9 x10, XWp (xF L xs) (some .int) xP256 (XC (xF L xs) xmeths (d + 7)) Q 23 [orf 169, oi (nI w), oi (nI M), oi (nI found), oi (bpK (fun m o => sayV f (fun b => setG ship A.g A.p n z A.t b w) m o (M + 1)) found n k).1, oi (bpK (fun m o => sayV f (fun b => setG ship A.g A.p n z A.t b w) m o (M + 1)) found n k).2, oi (nI k), x7, x8, x9, x10] [] (clsW pn pc tok ship nn tl draft vd log trial sta says seed past marks (mdlX 0 m_taped m_size m_place m_begin m_token m_word m_told m_wrong m_code m_toldLines m_given m_fresh m_done m_odd m_bestRank m_leastSpray m_g m_tape m_ship m_manName m_postName m_kind m_greenTold m_hands m_spray m_holds m_sea m_lineFrom m_lineTo m_codes m_opened m_compared m_kept m_keptBy m_ahead m_against m_sum m_sumBy m_term m_termBy m_byNot m_valueOf m_lines m_lineWhat m_lineA m_lineB m_seens m_seenMan m_seenOther m_seenAt m_seenGreener m_s m_aside m_before m_marked m_undone m_isLaid m_more m_row m_bestRow m_greenerBy K))) (n := 48) (fun k hk ih x7 x8 x9 x10 => xgo [23, 50, 92] 60 ?_)
  · have start := start none none none none
    rw [eK0] at start
    exact start
  refine pk_le 48 k (fun q2 => ?_) (fun q2 => ?_) rfl rfl (by omega) (by omega)
  · have e : k = 48 := by omega
    subst e
    exact h
  · have ih := ih q2
    rw [bpK_succ n6, nI_succ] at ih
    generalize bpK (fun m o => sayV f (fun b => setG ship A.g A.p n z A.t b w) m o (M + 1)) found n k = X at ih ⊢
    rcases X with ⟨X1, X2⟩
    have ed : nI k / Int32.ofInt 8 = nI (k / 8) := pk_div (d := 8) (by omega) (by omega) (by omega)
    have er : nI k - nI k / Int32.ofInt 8 * Int32.ofInt 8 = nI (k % 8) := pk_rem (d := 8) (by omega) (by omega) (by omega)
    have a92 : ∀ x7 x8 x9 x10, ¬ ((k / 8 < n ∧ k % 8 < n ∧ ¬ k / 8 = k % 8) ∧ mx (nI (sayV f (fun b => setG ship A.g A.p n z A.t b w) (k / 8) (k % 8) (M + 1))) (nI found - nI (sayV f (fun b => setG ship A.g A.p n z A.t b w) (k / 8) (k % 8) (M + 1))) < X1) → XWp (xF L xs) (some .int) xP256 (XC (xF L xs) xmeths (d + 7)) Q 92 [orf 169, oi (nI w), oi (nI M), oi (nI found), oi X1, oi X2, oi (nI k), x7, x8, x9, x10] [] (clsW pn pc tok ship nn tl draft vd log trial sta says seed past marks (mdlX 0 m_taped m_size m_place m_begin m_token m_word m_told m_wrong m_code m_toldLines m_given m_fresh m_done m_odd m_bestRank m_leastSpray m_g m_tape m_ship m_manName m_postName m_kind m_greenTold m_hands m_spray m_holds m_sea m_lineFrom m_lineTo m_codes m_opened m_compared m_kept m_keptBy m_ahead m_against m_sum m_sumBy m_term m_termBy m_byNot m_valueOf m_lines m_lineWhat m_lineA m_lineB m_seens m_seenMan m_seenOther m_seenAt m_seenGreener m_s m_aside m_before m_marked m_undone m_isLaid m_more m_row m_bestRow m_greenerBy K)) := by
      intro x7 x8 x9 x10 y
      have ih := ih x7 x8 x9 x10
      rw [if_neg y] at ih
      exact xgo [23] 20 ih
    refine ⟨(show ¬ (8 : Int32) = 0 by decide), nb rfl, (show ¬ (8 : Int32) = 0 by decide), nb rfl, ?_⟩
    rw [er, ed]
    refine ⟨rfl, nb rfl, m_isMan ms.men ?_⟩
    refine vB0 (fun q3 => a92 _ _ _ _ (fun y => q3 (inN y.1.1 (by omega)))) (fun q3 => ?_)
    refine ⟨rfl, nb rfl, m_isMan ms.men ?_⟩
    refine vB0 (fun q4 => a92 _ _ _ _ (fun y => q4 (inN y.1.2.1 (by omega)))) (fun q4 => ?_)
    have q3 : k / 8 < n := (nI_ltI (by omega) (by omega)).mp q3.2
    have q4 : k % 8 < n := (nI_ltI (by omega) (by omega)).mp q4.2
    refine pk_ne (k / 8) (k % 8) (fun q5 => ?_) (fun q5 => a92 _ _ _ _ (fun y => y.1.2.2 q5)) rfl rfl (by omega) (by omega)
    refine ⟨nb rfl, nb rfl, ?_⟩
    refine up_to (P := fun b => XWp (xF L xs) (some .int) xP256 (XC (xF L xs) xmeths (d + 7)) Q 50 [orf 169, oi (nI w), oi (nI M), oi (nI found), oi X1, oi X2, oi (nI k), oi (nI (k / 8)), oi (nI (k % 8)), oi (nI (sayV f (fun b => setG ship A.g A.p n z A.t b w) (k / 8) (k % 8) b)), oi (nI b)] [] (clsW pn pc tok ship nn tl draft vd log trial sta says seed past marks (mdlX 0 m_taped m_size m_place m_begin m_token m_word m_told m_wrong m_code m_toldLines m_given m_fresh m_done m_odd m_bestRank m_leastSpray m_g m_tape m_ship m_manName m_postName m_kind m_greenTold m_hands m_spray m_holds m_sea m_lineFrom m_lineTo m_codes m_opened m_compared m_kept m_keptBy m_ahead m_against m_sum m_sumBy m_term m_termBy m_byNot m_valueOf m_lines m_lineWhat m_lineA m_lineB m_seens m_seenMan m_seenOther m_seenAt m_seenGreener m_s m_aside m_before m_marked m_undone m_isLaid m_more m_row m_bestRow m_greenerBy K))) (n := M + 1) (fun b hb ih2 => xgo [23, 50, 73, 92] 60 ?_)
    refine pk_lt M b (fun q6 => ?_) (fun q6 => ?_) rfl rfl (by omega) (by omega)
    · have e : b = M + 1 := by omega
      subst e
      refine ⟨nb rfl, nb rfl, ?_⟩
      refine And.intro (fun (q7 : mx (nI (sayV f (fun b => setG ship A.g A.p n z A.t b w) (k / 8) (k % 8) (M + 1))) (nI found - nI (sayV f (fun b => setG ship A.g A.p n z A.t b w) (k / 8) (k % 8) (M + 1))) < X1) => ?_) (fun (q7 : ¬ mx (nI (sayV f (fun b => setG ship A.g A.p n z A.t b w) (k / 8) (k % 8) (M + 1))) (nI found - nI (sayV f (fun b => setG ship A.g A.p n z A.t b w) (k / 8) (k % 8) (M + 1))) < X1) => a92 _ _ _ _ (fun y => q7 y.2))
      have ih := ih (oi (nI (k / 8))) (oi (nI (k % 8))) (oi (mx (nI (sayV f (fun b => setG ship A.g A.p n z A.t b w) (k / 8) (k % 8) (M + 1))) (nI found - nI (sayV f (fun b => setG ship A.g A.p n z A.t b w) (k / 8) (k % 8) (M + 1))))) (oi (nI (M + 1)))
      rw [if_pos ⟨⟨q3, q4, q5⟩, q7⟩] at ih
      exact ⟨nb rfl, nb rfl, xgo [23] 20 ih⟩
    · have ih2 := ih2 (by omega)
      rw [sayV, nI_succ] at ih2
      have sub := may_sub b (by omega) M (by omega)
      have a73 : ¬ (f b ∧ setG ship A.g A.p n z A.t b w (k % 8) < setG ship A.g A.p n z A.t b w (k / 8)) → XWp (xF L xs) (some .int) xP256 (XC (xF L xs) xmeths (d + 7)) Q 73 [orf 169, oi (nI w), oi (nI M), oi (nI found), oi X1, oi X2, oi (nI k), oi (nI (k / 8)), oi (nI (k % 8)), oi (nI (sayV f (fun b => setG ship A.g A.p n z A.t b w) (k / 8) (k % 8) b)), oi (nI b)] [.int (nI (sayV f (fun b => setG ship A.g A.p n z A.t b w) (k / 8) (k % 8) b))] (clsW pn pc tok ship nn tl draft vd log trial sta says seed past marks (mdlX 0 m_taped m_size m_place m_begin m_token m_word m_told m_wrong m_code m_toldLines m_given m_fresh m_done m_odd m_bestRank m_leastSpray m_g m_tape m_ship m_manName m_postName m_kind m_greenTold m_hands m_spray m_holds m_sea m_lineFrom m_lineTo m_codes m_opened m_compared m_kept m_keptBy m_ahead m_against m_sum m_sumBy m_term m_termBy m_byNot m_valueOf m_lines m_lineWhat m_lineA m_lineB m_seens m_seenMan m_seenOther m_seenAt m_seenGreener m_s m_aside m_before m_marked m_undone m_isLaid m_more m_row m_bestRow m_greenerBy K)) := by
        intro y
        rw [if_neg y] at ih2
        refine xgo [50] 20 ⟨nb rfl, ?_⟩
        rw [show Int32.ofInt 0 = 0 from rfl, Int32.add_zero]
        exact ih2
      refine And.intro (fun (q7 : ¬ (nI b &&& (nI M ^^^ -1)) = 0) => a73 (fun y => q7 (sub.mpr ((hfn b (by omega)).mp ((hf b).mp y.1).1)))) (fun (q7 : ¬ ¬ (nI b &&& (nI M ^^^ -1)) = 0) => ?_)
      have q7 := sub.mp (Classical.not_not.mp q7)
      refine ⟨rfl, nb rfl, m_isAsSeen n6 sok sr (by omega) (hg b (by omega) q7) ?_⟩
      refine vB0 (fun q8 => a73 (fun y => q8 ((hf b).mp y.1).2)) (fun q8 => ?_)
      have y : f b := (hf b).mpr ⟨(hfn b (by omega)).mpr q7, q8⟩
      have hr := rN_lt (setG ship A.g A.p n z A.t b w) n6 n
      have hp : 2 ^ (6 * n) ≤ 2 ^ 36 := Nat.pow_le_pow_right (by decide) (by omega)
      have e1 : (rN (setG ship A.g A.p n z A.t b w) n n).testBit (6 * (k % 8) + k / 8) = true ↔ setG ship A.g A.p n z A.t b w (k % 8) < setG ship A.g A.p n z A.t b w (k / 8) := by
        rw [rN_bit _ n6 (k % 8) (k / 8) (by omega)]
        simp [q3, q4]
      refine ⟨rfl, nb rfl, m_isGreenerBy (w := w) (m := k / 8) (o := k % 8) rfl rfl rfl (by omega) (by omega) (by omega) (by omega) (by omega) (hg b (by omega) q7 w (by omega)) ?_⟩
      refine vB0 (fun q9 => a73 (fun y => q9 (e1.mpr y.2))) (fun q9 => ?_)
      rw [if_pos ⟨y, e1.mp q9⟩, nI_succ] at ih2
      exact ⟨nb rfl, ih2⟩
end XMS
