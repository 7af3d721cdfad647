/-! marks; voyages and ships told -/
section XTO
variable {L : Nat} {xs : Nat → Int32} {d : Nat} {Q : XQt} {pn pc : Int32} {tok : TTok} {ship : TShip} {nn : Int64} {tl : Int32} {draft : TShip} {vd : TVoy} {log : TLog} {trial : TCrew} {sta : TSta} {says : Fn} {seed : Int64} {past : Nat → TCrew} {marks : Nat → TLog} {K : XWd}
variable {m_thrown : Int32} {m_taped : Int32} {m_size : Int32} {m_place : Int32} {m_begin : Int32} {m_token : Int32} {m_word : Int64} {m_told : Int32} {m_wrong : Int32} {m_code : Int32} {m_toldLines : Int32} {m_given : Int32} {m_fresh : Int64} {m_done : Int32} {m_odd : Int32} {m_bestRank : Int32} {m_leastSpray : Int32} {m_g : Int64} {m_tape : Fn} {m_ship : Fn} {m_manName : Fl} {m_postName : Fl} {m_kind : Fn} {m_greenTold : Fn} {m_hands : Fn} {m_spray : Fn} {m_holds : Fn} {m_sea : Fn} {m_lineFrom : Fn} {m_lineTo : Fn} {m_codes : Fn} {m_opened : Fn} {m_compared : Fn} {m_kept : Fn} {m_keptBy : Fn} {m_ahead : Fn} {m_against : Fn} {m_sum : Fn} {m_sumBy : Fn} {m_term : Fn} {m_termBy : Fn} {m_byNot : Fn} {m_valueOf : Fn} {m_lines : Fn} {m_lineWhat : Fn} {m_lineA : Fn} {m_lineB : Fn} {m_seens : Fn} {m_seenMan : Fn} {m_seenOther : Fn} {m_seenAt : Fn} {m_seenGreener : Fn} {m_s : Fn} {m_aside : Fn} {m_before : Fn} {m_marked : Fn} {m_undone : Fn} {m_isLaid : Fn} {m_more : Fn} {m_row : Fn} {m_bestRow : Fn} {m_greenerBy : Fl}
variable {stk kn : Fn} {H : Nat → TA} {j n p z a t q c l li e : Nat}
theorem vo_tr {v : TVoy} {a_n a_w a_a a_b b_n b_w b_a b_b : Fn} (h : VoI v n p li a_n a_w a_a a_b) (e0 : b_n 0 = a_n 0) (e1 : ∀ k, k < 40 → b_w k = a_w k ∧ b_a k = a_a k ∧ b_b k = a_b k) : VoI v n p li b_n b_w b_a b_b := by
  have c40 := h.ok.c40
  exact ⟨h.ok, ⟨e0.trans h.vr.size, fun i hi => (e1 i (by omega)).1.trans (h.vr.what i hi), fun i hi y => (e1 i (by omega)).2.1.trans (h.vr.man i hi y), fun i hi y => (e1 i (by omega)).2.2.trans (h.vr.post i hi y)⟩⟩
theorem se_tr {v : TSeen} {a_n a_m a_o a_w a_g b_n b_m b_o b_w b_g : Fn} (h : SeI v n e a_n a_m a_o a_w a_g) (e0 : b_n 0 = a_n 0) (e1 : ∀ k, k < 8 → b_m k = a_m k ∧ b_o k = a_o k ∧ b_w k = a_w k ∧ b_g k = a_g k) : SeI v n e b_n b_m b_o b_w b_g := by
  have c8 := h.ok.c8
  exact ⟨h.ok, ⟨e0.trans h.sr.size, fun i hi => (e1 i (by omega)).1.trans (h.sr.man i hi), fun i hi => (e1 i (by omega)).2.1.trans (h.sr.other i hi), fun i hi => (e1 i (by omega)).2.2.1.trans (h.sr.watches i hi), fun i hi => (e1 i (by omega)).2.2.2.trans (h.sr.greener i hi)⟩, h.bo⟩
theorem mset_s {marks : Nat → TLog} {i : Nat} {x : TLog} : mset marks i x i = x := if_pos rfl
theorem mset_n {marks : Nat → TLog} {i k : Nat} {x : TLog} (h : ¬ k = i) : mset marks i x k = marks k := if_neg h
theorem Inv.bs (h : (Inv j n p z a t q c l li e H pn pc tok ship kn log past marks m_taped m_done m_odd m_tape m_ship m_kind m_greenTold m_hands m_spray m_holds m_sea m_lineFrom m_lineTo m_codes m_manName m_postName m_lines m_lineWhat m_lineA m_lineB m_seens m_seenMan m_seenOther m_seenAt m_seenGreener m_s m_marked m_undone m_isLaid K)) : ∃ B : Nat → TA, ∀ i, i < 4 → ¬ m_isLaid i = 0 → ∃ li e, MkB (marks i) j n p i m_lines m_lineWhat m_lineA m_lineB m_seens m_seenMan m_seenOther m_seenAt m_seenGreener m_marked (B i) li e := by
  have all : ∀ i, ∃ A : TA, i < 4 → ¬ m_isLaid i = 0 → ∃ li e, MkB (marks i) j n p i m_lines m_lineWhat m_lineA m_lineB m_seens m_seenMan m_seenOther m_seenAt m_seenGreener m_marked A li e := fun i => by
    by_cases hi : i < 4
    · rcases (h.mk i hi).2 with y | ⟨y, A, li, e, hb⟩
      · exact ⟨(fun _ => 0, fun _ => 0, 0, 0), fun _ z => absurd y z⟩
      · exact ⟨A, fun _ _ => ⟨li, e, hb⟩⟩
    · exact ⟨(fun _ => 0, fun _ => 0, 0, 0), fun z => absurd z hi⟩
  exact ⟨fun i => (all i).choose, fun i => (all i).choose_spec⟩
theorem pr_mark {x y : Int32} (h : (Inv j n p z a t q c l li e H pn pc tok ship kn log past marks m_taped m_done m_odd m_tape m_ship m_kind m_greenTold m_hands m_spray m_holds m_sea m_lineFrom m_lineTo m_codes m_manName m_postName m_lines m_lineWhat m_lineA m_lineB m_seens m_seenMan m_seenOther m_seenAt m_seenGreener m_s m_marked m_undone m_isLaid K)) (hj : j ≤ 512) : PR (xF L xs) (IW (j + 1)) 159 263 [.int x, .int y] (clsW pn pc tok (ship.wlaw (ship.law.wm stk kn)) nn tl draft vd log trial sta says seed past marks (mdlX m_thrown m_taped m_size m_place m_begin m_token m_word m_told m_wrong m_code m_toldLines m_given m_fresh m_done m_odd m_bestRank m_leastSpray m_g m_tape m_ship m_manName m_postName m_kind m_greenTold m_hands m_spray m_holds m_sea m_lineFrom m_lineTo m_codes m_opened m_compared m_kept m_keptBy m_ahead m_against m_sum m_sumBy m_term m_termBy m_byNot m_valueOf m_lines m_lineWhat m_lineA m_lineB m_seens m_seenMan m_seenOther m_seenAt m_seenGreener m_s m_aside m_before m_marked m_undone m_isLaid m_more m_row m_bestRow m_greenerBy K)) := by
  have n6 := h.so.n6
  obtain ⟨B, hB⟩ := h.bs
  have rm : ∀ i, i < 4 → ¬ m_isLaid i = 0 → RS (fun k => m_marked (14 * i + k)) n (B i) := fun i hi y => by
    obtain ⟨li, e, hb⟩ := hB i hi y
    exact hb.2.2.2.1
  have la : ∀ i, i < 4 → (marks i).laid = m_isLaid i := fun i hi => (h.mk i hi).1
  refine c_mark (d := 97) (fun i hi ei hb => ⟨_, rfl, okW h.kl hj, m_mark (d := 98) n6 h.cw.rs rm (fun i' hi' ei' _ a_w a_a a_b b_m b_o b_w b_g a_k q1 q2 q3 q4 q5 q6 q7 q8 q9 => ?_) (fun i' hi' ei' hb' => absurd hb hb') (fun y' => absurd ⟨i, hi, ei, fun z => absurd hb z⟩ y')⟩) (fun i hi ei hb hl => ⟨_, rfl, okW h.kl hj, m_mark (d := 98) n6 h.cw.rs rm (fun i' hi' ei' hb' => absurd hb' hb) (fun i' hi' ei' hb' hl' a_w a_a a_b b_m b_o b_w b_g m_s q1 q2 q3 q4 q5 q6 q7 rs => ?_) (fun y' => absurd ⟨i, hi, ei, fun _ => by rw [← la i hi]; exact hl⟩ y')⟩) (fun y => ⟨_, rfl, okW h.kl hj, m_mark (d := 98) n6 h.cw.rs rm (fun i' hi' ei' hb' => absurd ⟨i', hi', ei', fun z => absurd hb' z⟩ y) (fun i' hi' ei' hb' hl' => absurd ⟨i', hi', ei', fun _ => by rw [la i' hi']; exact hl'⟩ y) (fun _ => ⟨rfl, IW_of h.mono⟩)⟩)
  · have e1 : i = i' := nIj (ei.symm.trans ei') (by omega) (by omega)
    subst e1
    refine ⟨rfl, IW_of (j := j + 1) (n := n) (p := p) (z := z) (a := a) (t := t) (q := q) (c := c) (l := l) (li := li) (e := e) (H := H) ⟨h.so, h.ms, h.kn, h.cw.mono, h.ps.mono, h.tp, vo_tr h.vo (pk_un (by omega)) (fun k hk => ⟨q1.2 k (by omega), q2.2 k (by omega), q3.2 k (by omega)⟩), se_tr h.se (pk_un (by omega)) (fun k hk => ⟨q4.2 k (by omega), q5.2 k (by omega), q6.2 k (by omega), q7.2 k (by omega)⟩), fun i2 hi2 => ?_, h.od, h.kl.mono⟩⟩
    by_cases ie : i2 = i
    · subst ie
      rw [mset_s]
      refine ⟨pk_us.symm, Or.inr ⟨pk_us, crA log.crew a t, li, e, tr_cp n6 (cw_tr h.cw), ⟨h.cw.gp, h.cw.a64⟩, by have := h.cw.tj; show t ≤ j + 1; omega, q8, vo_cp h.vo pk_us (fun k hk => ?_), se_cp h.se pk_us (fun k hk => ?_)⟩⟩
      · have r1 := q1.1 k hk
        have r2 := q2.1 k hk
        have r3 := q3.1 k hk
        rw [Nat.mul_zero, Nat.zero_add] at r1 r2 r3
        exact ⟨r1, r2, r3⟩
      · have r1 := q4.1 k hk
        have r2 := q5.1 k hk
        have r3 := q6.1 k hk
        have r4 := q7.1 k hk
        rw [Nat.mul_zero, Nat.zero_add] at r1 r2 r3 r4
        exact ⟨r1, r2, r3, r4⟩
    · rw [mset_n ie]
      obtain ⟨m1, m2⟩ := (h.mk i2 hi2).mono
      refine ⟨m1.trans (pk_un ie).symm, m2.elim (fun y => Or.inl ((pk_un ie).trans y)) (fun y => Or.inr ⟨(pk_un ie).trans y.1, ?_⟩)⟩
      obtain ⟨A, li2, e2, x1, x2, x3, x4, x5, x6⟩ := y.2
      exact ⟨A, li2, e2, x1, x2, x3, x4.ext n6 (fun k hk => q9 _ (by omega)), vo_tr x5 (pk_un (by omega)) (fun k hk => ⟨q1.2 _ (by omega), q2.2 _ (by omega), q3.2 _ (by omega)⟩), se_tr x6 (pk_un (by omega)) (fun k hk => ⟨q4.2 _ (by omega), q5.2 _ (by omega), q6.2 _ (by omega), q7.2 _ (by omega)⟩)⟩
  · have e1 : i = i' := nIj (ei.symm.trans ei') (by omega) (by omega)
    subst e1
    obtain ⟨li2, e2, x1, x2, x3, x4, x5, x6⟩ := hB i hi hl'
    refine ⟨rfl, IW_of (j := j + 1) (n := n) (p := p) (z := z) (a := (B i).su) (t := (B i).t) (q := q) (c := 0) (l := l) (li := li2) (e := e2) (H := H) ⟨h.so, h.ms, h.kn, cw_of (tr_cp n6 x1) x2 (by omega) rs, ⟨h.ps.pn, h.ps.q16, rfl, by omega, rfl, fun k hk => absurd hk (Nat.not_lt_zero k), fun k hk => absurd hk (Nat.not_lt_zero k)⟩, h.tp, vo_cp x5 pk_us (fun k hk => ?_), se_cp x6 pk_us (fun k hk => ?_), fun i2 hi2 => ?_, h.od, h.kl.mono⟩⟩
    · have r1 := q1.1 k hk
      have r2 := q2.1 k hk
      have r3 := q3.1 k hk
      rw [Nat.mul_zero, Nat.zero_add] at r1 r2 r3
      exact ⟨r1, r2, r3⟩
    · have r1 := q4.1 k hk
      have r2 := q5.1 k hk
      have r3 := q6.1 k hk
      have r4 := q7.1 k hk
      rw [Nat.mul_zero, Nat.zero_add] at r1 r2 r3 r4
      exact ⟨r1, r2, r3, r4⟩
    · have eL : upd m_isLaid i 1 i2 = m_isLaid i2 := by
        by_cases ie : i2 = i
        · rw [ie, pk_us]
          rcases (h.mk i hi).2 with y | ⟨y, _⟩
          · exact absurd y hl'
          · exact y.symm
        · exact pk_un ie
      obtain ⟨m1, m2⟩ := (h.mk i2 hi2).mono
      refine ⟨m1.trans eL.symm, m2.elim (fun y => Or.inl (eL.trans y)) (fun y => Or.inr ⟨eL.trans y.1, ?_⟩)⟩
      obtain ⟨A, li3, e3, y1, y2, y3, y4, y5, y6⟩ := y.2
      exact ⟨A, li3, e3, y1, y2, y3, y4, vo_tr y5 (pk_un (by omega)) (fun k hk => ⟨q1.2 _ (by omega), q2.2 _ (by omega), q3.2 _ (by omega)⟩), se_tr y6 (pk_un (by omega)) (fun k hk => ⟨q4.2 _ (by omega), q5.2 _ (by omega), q6.2 _ (by omega), q7.2 _ (by omega)⟩)⟩
theorem tp0 {tok' : TTok} {tape : Fn} (h : tok'.length = 0) : TpI tok' 0 tape 0 := ⟨h, Nat.zero_le _, rfl, fun k hk => absurd hk (Nat.not_lt_zero k), ⟨rfl, fun k hk => absurd hk (Nat.not_lt_zero k)⟩⟩
theorem Inv.voy {v' : TVoy} {li' : Nat} {a_n a_w a_a a_b : Fn} {tok' : TTok} {ta' : Int32} {tape' : Fn} {l' : Nat} (h : (Inv j n p z a t q c l li e H pn pc tok ship kn log past marks m_taped m_done m_odd m_tape m_ship m_kind m_greenTold m_hands m_spray m_holds m_sea m_lineFrom m_lineTo m_codes m_manName m_postName m_lines m_lineWhat m_lineA m_lineB m_seens m_seenMan m_seenOther m_seenAt m_seenGreener m_s m_marked m_undone m_isLaid K)) (vo : VoI v' n p li' a_n a_w a_a a_b) (e1 : ∀ k, 0 < k → k < 5 → a_n k = m_lines k) (e2 : ∀ k, 40 ≤ k → k < 200 → a_w k = m_lineWhat k ∧ a_a k = m_lineA k ∧ a_b k = m_lineB k) (tp : TpI tok' ta' tape' l') : (Inv (j + 1) n p z a t q c l' li' e H pn pc tok' ship kn (v', log.seen, log.crew, log.laid) past marks ta' m_done m_odd tape' m_ship m_kind m_greenTold m_hands m_spray m_holds m_sea m_lineFrom m_lineTo m_codes m_manName m_postName a_n a_w a_a a_b m_seens m_seenMan m_seenOther m_seenAt m_seenGreener m_s m_marked m_undone m_isLaid K) := by
  refine ⟨h.so, h.ms, h.kn, h.cw.mono, h.ps.mono, tp, vo, h.se, fun i hi => ?_, h.od, h.kl.mono⟩
  obtain ⟨m1, m2⟩ := (h.mk i hi).mono
  refine ⟨m1, m2.elim Or.inl (fun y => Or.inr ⟨y.1, ?_⟩)⟩
  obtain ⟨A, li2, e0, x1, x2, x3, x4, x5, x6⟩ := y.2
  exact ⟨A, li2, e0, x1, x2, x3, x4, vo_tr x5 (e1 _ (by omega) (by omega)) (fun k hk => e2 _ (by omega) (by omega)), x6⟩
theorem vo_dr {v : TVoy} {V M B : Nat → Nat} {a_n a_w a_a a_b : Fn} (d : VDr v n p c V M B) (e0 : a_n 0 = nI c) (e1 : ∀ i, i < c → a_w i = nI (V i)) (e2 : ∀ i, i < c → V i < 4 → a_a i = nI (M i)) (e3 : ∀ i, i < c → V i = 0 → a_b i = nI (B i)) : VoI v n p c a_n a_w a_a a_b := by
  have el : ∀ i, i < c → lnV v i = V i ∧ lnM v i = M i ∧ lnB v i = B i := fun i hi => by
    have := d.verb i hi
    have := (d.man i hi).2
    have := (d.post i hi).2
    unfold lnV lnM lnB
    rw [d.line i hi, nI_clamp (by omega)]
    omega
  refine ⟨⟨d.lines, d.c40, fun i hi => ⟨V i, M i, B i, d.verb i hi, (d.man i hi).1, (d.post i hi).1, (d.man i hi).2, (d.post i hi).2, d.line i hi⟩⟩, ⟨e0, fun i hi => ?_, fun i hi y => ?_, fun i hi y => ?_⟩⟩
  · rw [(el i hi).1]; exact e1 i hi
  · rw [(el i hi).1] at y; rw [(el i hi).2.1]; exact e2 i hi y
  · rw [(el i hi).1] at y; rw [(el i hi).2.2]; exact e3 i hi y
theorem pr_voyage (h : (Inv j n p z a t q c l li e H pn pc tok ship kn log past marks m_taped m_done m_odd m_tape m_ship m_kind m_greenTold m_hands m_spray m_holds m_sea m_lineFrom m_lineTo m_codes m_manName m_postName m_lines m_lineWhat m_lineA m_lineB m_seens m_seenMan m_seenOther m_seenAt m_seenGreener m_s m_marked m_undone m_isLaid K)) (hj : j ≤ 512) : PR (xF L xs) (IW (j + 1)) 69 198 [] (clsW pn pc tok (ship.wlaw (ship.law.wm stk kn)) nn tl draft vd log trial sta says seed past marks (mdlX m_thrown m_taped m_size m_place m_begin m_token m_word m_told m_wrong m_code m_toldLines m_given m_fresh m_done m_odd m_bestRank m_leastSpray m_g m_tape m_ship m_manName m_postName m_kind m_greenTold m_hands m_spray m_holds m_sea m_lineFrom m_lineTo m_codes m_opened m_compared m_kept m_keptBy m_ahead m_against m_sum m_sumBy m_term m_termBy m_byNot m_valueOf m_lines m_lineWhat m_lineA m_lineB m_seens m_seenMan m_seenOther m_seenAt m_seenGreener m_s m_aside m_before m_marked m_undone m_isLaid m_more m_row m_bestRow m_greenerBy K)) := by
  have rp := h.tp.rp
  have lo : VLo (m_lines, m_lineWhat, m_lineA, m_lineB) m_lines m_lineWhat m_lineA m_lineB := ⟨fun _ _ => rfl, fun _ _ => rfl, fun _ _ => rfl, fun _ _ => rfl⟩
  have hm : ∀ k, k < n → m_manName (0 + k) = ship.manName k := fun k hk => by rw [Nat.zero_add]; exact h.ms.man k hk
  have hp : ∀ k, k < p → m_postName (0 + k) = ship.postName k := fun k hk => by rw [Nat.zero_add]; exact h.ms.post k hk
  refine c_voyage (d := 90) (kLen h.kl hj) rp.1 h.tp.l1 rfl h.tp.len h.so.men h.so.n6 h.so.posts h.so.p4 (fun g eg tok' vd' hl0 => ⟨_, rfl, okW h.kl hj, m_voyage (d := 93) (fm := ship.manName) (fp := ship.postName) h.tp.tl h.tp.l1 rp.2 lo h.so.n6 h.ms.men hm h.so.p4 h.ms.posts hp (fun g' eg' m_lines m_lineWhat m_lineA m_lineB m_place m_begin m_token m_word m_told vl => ?_) (fun s' c' V' M' B' eg' => absurd (eg.symm.trans eg') (fun y => inl_ne y))⟩) (fun s' c0 V M B vd' eg dr tok' hl0 => ⟨_, rfl, okW h.kl hj, m_voyage (d := 93) (fm := ship.manName) (fp := ship.postName) h.tp.tl h.tp.l1 rp.2 lo h.so.n6 h.ms.men hm h.so.p4 h.ms.posts hp (fun g' eg' => absurd (eg'.symm.trans eg) (fun y => inl_ne y)) (fun s2 c2 V2 M2 B2 eg' m_lines m_lineWhat m_lineA m_lineB m_place m_begin m_token m_word m_told vr => ?_)⟩)
  · have e1 : g = g' := Sum.inl.inj (eg.symm.trans eg')
    subst e1
    exact ⟨rfl, IW_of (h.voy (li' := li) (v' := log.voy) (vo_tr h.vo (vl.size 0 (by omega)) (fun k hk => ⟨vl.what k (by omega), vl.man k (by omega), vl.post k (by omega)⟩)) (fun k k0 k5 => vl.size k k5) (fun k k1 k2 => ⟨vl.what k k2, vl.man k k2, vl.post k k2⟩) (tp0 hl0))⟩
  · have e1 := Sum.inr.inj (eg.symm.trans eg')
    simp only [Prod.mk.injEq] at e1
    obtain ⟨rfl, rfl, rfl, rfl, rfl⟩ := e1
    exact ⟨rfl, IW_of (h.voy (li' := c0) (v' := log.voy.cp vd') (vo_cp (vo_dr dr vr.size vr.what vr.man vr.post) rfl (fun k hk => ⟨rfl, rfl, rfl⟩)) (fun k k0 k5 => vr.lsize k k0 k5) (fun k k1 k2 => ⟨vr.lwhat k k1 k2, vr.lman k k1 k2, vr.lpost k k1 k2⟩) (tp0 hl0))⟩
end XTO
