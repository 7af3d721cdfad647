/-! signs fed; what is seen; marks -/
def chT (T : Fn) (k : Nat) : Nat := (T k).toNatClampNeg
section XTA
variable {L : Nat} {xs : Nat → Int32} {d : Nat} {Q : XQt} {pn pc : Int32} {tok : TTok} {ship : TShip} {nn : Int64} {tl : Int32} {draft : TShip} {vd : TVoy} {log : TLog} {trial : TCrew} {sta : TSta} {says : Fn} {seed : Int64} {past : Nat → TCrew} {marks : Nat → TLog} {K : XWd}
variable {m_thrown : Int32} {m_taped : Int32} {m_size : Int32} {m_place : Int32} {m_begin : Int32} {m_token : Int32} {m_word : Int64} {m_told : Int32} {m_wrong : Int32} {m_code : Int32} {m_toldLines : Int32} {m_given : Int32} {m_fresh : Int64} {m_done : Int32} {m_odd : Int32} {m_bestRank : Int32} {m_leastSpray : Int32} {m_g : Int64} {m_tape : Fn} {m_ship : Fn} {m_manName : Fl} {m_postName : Fl} {m_kind : Fn} {m_greenTold : Fn} {m_hands : Fn} {m_spray : Fn} {m_holds : Fn} {m_sea : Fn} {m_lineFrom : Fn} {m_lineTo : Fn} {m_codes : Fn} {m_opened : Fn} {m_compared : Fn} {m_kept : Fn} {m_keptBy : Fn} {m_ahead : Fn} {m_against : Fn} {m_sum : Fn} {m_sumBy : Fn} {m_term : Fn} {m_termBy : Fn} {m_byNot : Fn} {m_valueOf : Fn} {m_lines : Fn} {m_lineWhat : Fn} {m_lineA : Fn} {m_lineB : Fn} {m_seens : Fn} {m_seenMan : Fn} {m_seenOther : Fn} {m_seenAt : Fn} {m_seenGreener : Fn} {m_s : Fn} {m_aside : Fn} {m_before : Fn} {m_marked : Fn} {m_undone : Fn} {m_isLaid : Fn} {m_more : Fn} {m_row : Fn} {m_bestRow : Fn} {m_greenerBy : Fl}
variable {stk kn : Fn} {H : Nat → TA} {j n p z a t q c l li e : Nat}
theorem TpI.rp {ta : Int32} {tape : Fn} (h : TpI tok ta tape l) : RpC tok.signs (chT tok.signs) l ∧ RpC tape (chT tok.signs) l := by
  have key : ∀ k, k < l → tok.signs k = nI (chT tok.signs k) ∧ chT tok.signs k < 128 := fun k hk => by
    obtain ⟨s, hs, es⟩ := h.ok k hk
    have es : tok.signs k = nI s := es
    have s127 : s < 128 := by
      unfold okS at hs
      omega
    have ec : chT tok.signs k = s := by
      unfold chT
      rw [es, nI_clamp (by omega)]
    rw [ec]
    exact ⟨es, s127⟩
  exact ⟨key, fun k hk => ⟨((h.eq.2 k hk).symm : tape k = tok.signs k).trans (key k hk).1, (key k hk).2⟩⟩
theorem Inv.tape {tok' : TTok} {ta' : Int32} {tape' : Fn} {l' : Nat} (h : (Inv j n p z a t q c l li e H pn pc tok ship kn log past marks m_taped m_done m_odd m_tape m_ship m_kind m_greenTold m_hands m_spray m_holds m_sea m_lineFrom m_lineTo m_codes m_manName m_postName m_lines m_lineWhat m_lineA m_lineB m_seens m_seenMan m_seenOther m_seenAt m_seenGreener m_s m_marked m_undone m_isLaid K)) (tp : TpI tok' ta' tape' l') : (Inv (j + 1) n p z a t q c l' li e H pn pc tok' ship kn log past marks ta' m_done m_odd tape' m_ship m_kind m_greenTold m_hands m_spray m_holds m_sea m_lineFrom m_lineTo m_codes m_manName m_postName m_lines m_lineWhat m_lineA m_lineB m_seens m_seenMan m_seenOther m_seenAt m_seenGreener m_s m_marked m_undone m_isLaid K) := ⟨h.so, h.ms, h.kn, h.cw.mono, h.ps.mono, tp, h.vo, h.se, fun i hi => (h.mk i hi).mono, h.od, h.kl.mono⟩
theorem pr_feed {xa xb xc : Int64} (h : (Inv j n p z a t q c l li e H pn pc tok ship kn log past marks m_taped m_done m_odd m_tape m_ship m_kind m_greenTold m_hands m_spray m_holds m_sea m_lineFrom m_lineTo m_codes m_manName m_postName m_lines m_lineWhat m_lineA m_lineB m_seens m_seenMan m_seenOther m_seenAt m_seenGreener m_s m_marked m_undone m_isLaid K)) (hj : j ≤ 512) : PR (xF L xs) (IW (j + 1)) 18 169 [.long xa, .long xb, .long xc] (clsW pn pc tok (ship.wlaw (ship.law.wm stk kn)) nn tl draft vd log trial sta says seed past marks (mdlX m_thrown m_taped m_size m_place m_begin m_token m_word m_told m_wrong m_code m_toldLines m_given m_fresh m_done m_odd m_bestRank m_leastSpray m_g m_tape m_ship m_manName m_postName m_kind m_greenTold m_hands m_spray m_holds m_sea m_lineFrom m_lineTo m_codes m_opened m_compared m_kept m_keptBy m_ahead m_against m_sum m_sumBy m_term m_termBy m_byNot m_valueOf m_lines m_lineWhat m_lineA m_lineB m_seens m_seenMan m_seenOther m_seenAt m_seenGreener m_s m_aside m_before m_marked m_undone m_isLaid m_more m_row m_bestRow m_greenerBy K)) := by
  obtain ⟨va, ha, ea⟩ := l_all xa
  obtain ⟨vb, hb, eb⟩ := l_all xb
  obtain ⟨vc, hc, ec⟩ := l_all xc
  have te := psh_e (e := vc) (psh_e (e := vb) (psh_e (e := va) h.tp.eq 8) 8) 8
  have to := psh_ok (e := vc) (psh_ok (e := vb) (psh_ok (e := va) h.tp.ok 8) 8) 8
  have tl := psh_le (e := vc) (psh_le (e := vb) (psh_le (e := va) (x := (l, tok.signs)) h.tp.l1 8) 8) 8
  refine c_feed (d := 98) ea eb ec ha hb hc h.tp.len h.tp.l1 ⟨_, rfl, okW h.kl hj, m_feed (d := 99) ea eb ec ha hb hc h.tp.tl h.tp.l1 ⟨?_, IW_of (h.tape (l' := (psh vc (psh vb (psh va (l, tok.signs) 8) 8) 8).1) ⟨rfl, tl, ?_, to, ?_⟩)⟩⟩
  · rw [te.1]
  · rw [te.1]
  · exact ⟨rfl, te.2⟩
theorem Inv.saw {s' : TSeen} {e' : Nat} {a_n a_m a_o a_w a_g : Fn} (h : (Inv j n p z a t q c l li e H pn pc tok ship kn log past marks m_taped m_done m_odd m_tape m_ship m_kind m_greenTold m_hands m_spray m_holds m_sea m_lineFrom m_lineTo m_codes m_manName m_postName m_lines m_lineWhat m_lineA m_lineB m_seens m_seenMan m_seenOther m_seenAt m_seenGreener m_s m_marked m_undone m_isLaid K)) (se : SeI s' n e' a_n a_m a_o a_w a_g) (e1 : ∀ k, 0 < k → k < 5 → a_n k = m_seens k) (e2 : ∀ k, 8 ≤ k → k < 40 → a_m k = m_seenMan k ∧ a_o k = m_seenOther k ∧ a_w k = m_seenAt k ∧ a_g k = m_seenGreener k) : (Inv (j + 1) n p z a t q c l li e' H pn pc tok ship kn (log.voy, s', log.crew, log.laid) past marks m_taped m_done m_odd m_tape m_ship m_kind m_greenTold m_hands m_spray m_holds m_sea m_lineFrom m_lineTo m_codes m_manName m_postName m_lines m_lineWhat m_lineA m_lineB a_n a_m a_o a_w a_g m_s m_marked m_undone m_isLaid K) := by
  refine ⟨h.so, h.ms, h.kn, h.cw.mono, h.ps.mono, h.tp, h.vo, se, fun i hi => ?_, h.od, h.kl.mono⟩
  obtain ⟨m1, m2⟩ := (h.mk i hi).mono
  refine ⟨m1, m2.elim Or.inl (fun y => Or.inr ⟨y.1, ?_⟩)⟩
  obtain ⟨A, li, e0, x1, x2, x3, x4, x5, x6⟩ := y.2
  have e8 := x6.ok.c8
  exact ⟨A, li, e0, x1, x2, x3, x4, x5, x6.ok, ⟨(e1 (1 + i + 0) (by omega) (by omega)).trans x6.sr.size, fun k hk => (e2 _ (by omega) (by omega)).1.trans (x6.sr.man k hk), fun k hk => (e2 _ (by omega) (by omega)).2.1.trans (x6.sr.other k hk), fun k hk => (e2 _ (by omega) (by omega)).2.2.1.trans (x6.sr.watches k hk), fun k hk => (e2 _ (by omega) (by omega)).2.2.2.trans (x6.sr.greener k hk)⟩, x6.bo⟩
theorem gr_eq {gr : Int32} (h : gr = 0 ∨ gr = 1) : vp_nar .boolean gr = b2i (¬ gr = 0) ∧ (b2i (¬ gr = 0) = 0 ∨ b2i (¬ gr = 0) = 1) := by
  rcases h with rfl | rfl
  · exact ⟨by decide, Or.inl (by decide)⟩
  · exact ⟨by decide, Or.inr (by decide)⟩
theorem upN {f : Fn} {c k : Nat} {x y : Int32} (h : k < c + 1) (g : Fn) (e : x = y) (eq : ∀ i, i < c → f i = g i) : upd f c x k = upd g c y k := by
  by_cases q : k = c
  · rw [q, pk_us, pk_us, e]
  · rw [pk_un q, pk_un q]
    exact eq k (by omega)
theorem pr_see {x y u gr : Int32} (hg : gr = 0 ∨ gr = 1) (h : (Inv j n p z a t q c l li e H pn pc tok ship kn log past marks m_taped m_done m_odd m_tape m_ship m_kind m_greenTold m_hands m_spray m_holds m_sea m_lineFrom m_lineTo m_codes m_manName m_postName m_lines m_lineWhat m_lineA m_lineB m_seens m_seenMan m_seenOther m_seenAt m_seenGreener m_s m_marked m_undone m_isLaid K)) (hj : j ≤ 512) : PR (xF L xs) (IW (j + 1)) 143 251 [.int x, .int y, .int u, .int gr] (clsW pn pc tok (ship.wlaw (ship.law.wm stk kn)) nn tl draft vd log trial sta says seed past marks (mdlX m_thrown m_taped m_size m_place m_begin m_token m_word m_told m_wrong m_code m_toldLines m_given m_fresh m_done m_odd m_bestRank m_leastSpray m_g m_tape m_ship m_manName m_postName m_kind m_greenTold m_hands m_spray m_holds m_sea m_lineFrom m_lineTo m_codes m_opened m_compared m_kept m_keptBy m_ahead m_against m_sum m_sumBy m_term m_termBy m_byNot m_valueOf m_lines m_lineWhat m_lineA m_lineB m_seens m_seenMan m_seenOther m_seenAt m_seenGreener m_s m_aside m_before m_marked m_undone m_isLaid m_more m_row m_bestRow m_greenerBy K)) := by
  have n6 := h.so.n6
  have c8 := h.se.ok.c8
  refine c_see (d := 97) h.so h.se.ok.size c8 (fun m o w hm ho hne hw em eo ew e8 => ⟨_, rfl, okW h.kl hj, m_see (d := 98) (h.so.memo h.kn) h.ms.memo h.se.sr.size c8 (fun m' o' w' hm' ho' hne' hw' em' eo' ew' _ => ?_) (fun y' => ?_)⟩) (fun y => ⟨_, rfl, okW h.kl hj, m_see (d := 98) (h.so.memo h.kn) h.ms.memo h.se.sr.size c8 (fun m' o' w' hm' ho' hne' hw' em' eo' ew' e8 => ?_) (fun _ => ⟨rfl, IW_of h.mono⟩)⟩)
  · have e1 : m = m' := nIj (em.symm.trans em') (by omega) (by omega)
    have e2 : o = o' := nIj (eo.symm.trans eo') (by omega) (by omega)
    have e3 : w = w' := nIj (ew.symm.trans ew') (by omega) (by omega)
    subst e1 e2 e3
    have ⟨g1, g2⟩ := gr_eq hg
    have sr := h.se.sr
    have ok := h.se.ok
    refine ⟨rfl, IW_of (h.saw (e' := e + 1) ⟨⟨rfl, by omega, fun i hi => ?_, fun i hi => ?_, fun i hi => ?_⟩, ⟨pk_us, fun i hi => upN hi _ rfl sr.man, fun i hi => upN hi _ rfl sr.other, fun i hi => upN hi _ rfl sr.watches, fun i hi => upN hi _ g1 sr.greener⟩, fun i hi => ?_⟩ (fun k k0 k5 => pk_un (by omega)) (fun k k8 k40 => ⟨pk_un (by omega), pk_un (by omega), pk_un (by omega), pk_un (by omega)⟩))⟩
    · by_cases q : i = e
      · exact ⟨m, hm, by rw [q]; exact pk_us⟩
      · obtain ⟨b, hb, eb⟩ := ok.man i (by omega)
        exact ⟨b, hb, (pk_un q).trans eb⟩
    · by_cases q : i = e
      · exact ⟨o, ho, by rw [q]; exact pk_us⟩
      · obtain ⟨b, hb, eb⟩ := ok.other i (by omega)
        exact ⟨b, hb, (pk_un q).trans eb⟩
    · by_cases q : i = e
      · exact ⟨w, hw, by rw [q]; exact pk_us⟩
      · obtain ⟨b, hb, eb⟩ := ok.watches i (by omega)
        exact ⟨b, hb, (pk_un q).trans eb⟩
    · by_cases q : i = e
      · rw [q]
        show upd log.seen.greener e (b2i (¬ gr = 0)) e = 0 ∨ upd log.seen.greener e (b2i (¬ gr = 0)) e = 1
        rw [pk_us]
        exact g2
      · show upd log.seen.greener e (b2i (¬ gr = 0)) i = 0 ∨ upd log.seen.greener e (b2i (¬ gr = 0)) i = 1
        rw [pk_un q]
        exact h.se.bo i (by omega)
  · subst em eo
    exact absurd ⟨pair_in n6 hm ho hne, wi2 (lo := 0) (hi := 20) ew (Nat.zero_le _) hw (by decide), e8⟩ y'
  · subst em' eo'
    exact absurd ⟨pair_in n6 hm' ho' hne', wi2 (lo := 0) (hi := 20) ew' (Nat.zero_le _) hw' (by decide), e8⟩ y
/-- a voyage copied -/
theorem lnV_cp {a o : TVoy} {i : Nat} (h : i < 40) : (a.cp o).line i = o.line i := cpI h
theorem vo_cp {v o : TVoy} {li : Nat} {a_n a_w a_a a_b b_n b_w b_a b_b : Fn} (h : VoI o n p li a_n a_w a_a a_b) (e0 : b_n 0 = a_n 0) (e1 : ∀ k, k < 40 → b_w k = a_w k ∧ b_a k = a_a k ∧ b_b k = a_b k) : VoI (v.cp o) n p li b_n b_w b_a b_b := by
  have c40 := h.ok.c40
  have el : ∀ i, i < li → (v.cp o).line i = o.line i := fun i hi => lnV_cp (by omega)
  have e2 : ∀ i, i < li → lnV (v.cp o) i = lnV o i ∧ lnM (v.cp o) i = lnM o i ∧ lnB (v.cp o) i = lnB o i := fun i hi => by
    unfold lnV lnM lnB
    rw [el i hi]
    exact ⟨rfl, rfl, rfl⟩
  refine ⟨⟨h.ok.lines, c40, fun i hi => ?_⟩, ⟨e0.trans h.vr.size, fun i hi => ?_, fun i hi y => ?_, fun i hi y => ?_⟩⟩
  · rw [el i hi]
    exact h.ok.line i hi
  · rw [(e1 i (by omega)).1, (e2 i hi).1]
    exact h.vr.what i hi
  · rw [(e2 i hi).1] at y
    rw [(e1 i (by omega)).2.1, (e2 i hi).2.1]
    exact h.vr.man i hi y
  · rw [(e2 i hi).1] at y
    rw [(e1 i (by omega)).2.2, (e2 i hi).2.2]
    exact h.vr.post i hi y
theorem se_cp {v o : TSeen} {e : Nat} {a_n a_m a_o a_w a_g b_n b_m b_o b_w b_g : Fn} (h : SeI o n e a_n a_m a_o a_w a_g) (e0 : b_n 0 = a_n 0) (e1 : ∀ k, k < 8 → b_m k = a_m k ∧ b_o k = a_o k ∧ b_w k = a_w k ∧ b_g k = vp_nar .boolean (a_g k)) : SeI (v.cp o) n e b_n b_m b_o b_w b_g := by
  have c8 := h.ok.c8
  have m1 : ∀ i, i < e → (v.cp o).man i = o.man i := fun i hi => cpI (by omega)
  have m2 : ∀ i, i < e → (v.cp o).other i = o.other i := fun i hi => cpI (by omega)
  have m3 : ∀ i, i < e → (v.cp o).watches i = o.watches i := fun i hi => cpI (by omega)
  have m4 : ∀ i, i < e → (v.cp o).greener i = o.greener i := fun i hi => cpI (by omega)
  refine ⟨⟨h.ok.size, c8, fun i hi => ?_, fun i hi => ?_, fun i hi => ?_⟩, ⟨e0.trans h.sr.size, fun i hi => ?_, fun i hi => ?_, fun i hi => ?_, fun i hi => ?_⟩, fun i hi => ?_⟩
  · rw [m1 i hi]; exact h.ok.man i hi
  · rw [m2 i hi]; exact h.ok.other i hi
  · rw [m3 i hi]; exact h.ok.watches i hi
  · rw [m1 i hi, (e1 i (by omega)).1]; exact h.sr.man i hi
  · rw [m2 i hi, (e1 i (by omega)).2.1]; exact h.sr.other i hi
  · rw [m3 i hi, (e1 i (by omega)).2.2.1]; exact h.sr.watches i hi
  · rw [m4 i hi, (e1 i (by omega)).2.2.2, h.sr.greener i hi]
    rcases h.bo i hi with y | y <;> rw [y] <;> decide
  · rw [m4 i hi]; exact h.bo i hi
end XTA
