/-! what is done, and undone -/
theorem pset_s {past : Nat → TCrew} {i : Nat} {c : TCrew} : pset past i c i = c := if_pos rfl
theorem pset_n {past : Nat → TCrew} {i k : Nat} {c : TCrew} (h : ¬ k = i) : pset past i c k = past k := if_neg h
section XST
variable {L : Nat} {xs : Nat → Int32} {d : Nat} {Q : XQt} {pn pc : Int32} {tok : TTok} {ship : TShip} {nn : Int64} {tl : Int32} {draft : TShip} {vd : TVoy} {log : TLog} {trial : TCrew} {sta : TSta} {says : Fn} {seed : Int64} {past : Nat → TCrew} {marks : Nat → TLog} {K : XWd}
variable {m_thrown : Int32} {m_taped : Int32} {m_size : Int32} {m_place : Int32} {m_begin : Int32} {m_token : Int32} {m_word : Int64} {m_told : Int32} {m_wrong : Int32} {m_code : Int32} {m_toldLines : Int32} {m_given : Int32} {m_fresh : Int64} {m_done : Int32} {m_odd : Int32} {m_bestRank : Int32} {m_leastSpray : Int32} {m_g : Int64} {m_tape : Fn} {m_ship : Fn} {m_manName : Fl} {m_postName : Fl} {m_kind : Fn} {m_greenTold : Fn} {m_hands : Fn} {m_spray : Fn} {m_holds : Fn} {m_sea : Fn} {m_lineFrom : Fn} {m_lineTo : Fn} {m_codes : Fn} {m_opened : Fn} {m_compared : Fn} {m_kept : Fn} {m_keptBy : Fn} {m_ahead : Fn} {m_against : Fn} {m_sum : Fn} {m_sumBy : Fn} {m_term : Fn} {m_termBy : Fn} {m_byNot : Fn} {m_valueOf : Fn} {m_lines : Fn} {m_lineWhat : Fn} {m_lineA : Fn} {m_lineB : Fn} {m_seens : Fn} {m_seenMan : Fn} {m_seenOther : Fn} {m_seenAt : Fn} {m_seenGreener : Fn} {m_s : Fn} {m_aside : Fn} {m_before : Fn} {m_marked : Fn} {m_undone : Fn} {m_isLaid : Fn} {m_more : Fn} {m_row : Fn} {m_bestRow : Fn} {m_greenerBy : Fl}
variable {stk kn : Fn} {H : Nat → TA} {j n p z a t q c l li e : Nat}
theorem tr_cp {cr o : TCrew} {A : TA} (n6 : n ≤ 6) (tr : TrA o n A) : TrA (cr.cp o) n A := ⟨fun k hk => (cp6_lt (by omega)).trans (tr.green k hk), fun k hk => (cp6_lt (by omega)).trans (tr.place k hk), tr.sucked, tr.over⟩
theorem cw_of {cr : TCrew} {A : TA} {a_s : Fn} (tr : TrA cr n A) (ao : AOk A n p) (tj : A.t ≤ j) (rs : RS a_s n A) : CwI cr j n p A.su A.t a_s := ⟨tr.sucked, ao.su, tr.over, tj, ao.gp.congr tr.green tr.place, rs.congr (fun k hk => (tr.green k hk).symm) (fun k hk => (tr.place k hk).symm) rfl rfl⟩
theorem cw_tr {cr : TCrew} {a_s : Fn} (h : CwI cr j n p a t a_s) : TrA cr n (crA cr a t) := ⟨fun _ _ => rfl, fun _ _ => rfl, h.su, h.ov⟩
theorem ps_push {dn : Int32} {a_u a_s u' : Fn} {cr : TCrew} (n6 : n ≤ 6) (h : PsI past pn pc dn j n p q c H a_u) (cw : CwI cr j n p a t a_s) (ur : UR u' n (ccap c) (hpush H c (crA cr a t))) : PsI (pset past q ((past q).cp cr)) (nI ((q + 1) % 16)) (nI (ccap c)) (nI (ccap c)) (j + 1) n p ((q + 1) % 16) (ccap c) (hpush H c (crA cr a t)) u' := by
  have q16 := h.q16
  have c16 := h.c16
  have new : TrA ((past q).cp cr) n (crA cr a t) ∧ AOk (crA cr a t) n p ∧ (crA cr a t).t ≤ j + 1 := ⟨tr_cp n6 (cw_tr cw), ⟨cw.gp, cw.a64⟩, by have := cw.tj; show t ≤ j + 1; omega⟩
  refine ⟨rfl, Nat.mod_lt _ (by omega), rfl, by unfold ccap; split <;> omega, rfl, ur, fun i hi => ?_⟩
  by_cases c6 : c = 16
  · have ec : ccap c = 16 := if_pos c6
    rw [ec] at hi ⊢
    have eH : ∀ i, hpush H c (crA cr a t) i = if i = 15 then crA cr a t else H (i + 1) := fun i => by
      unfold hpush
      rw [if_pos c6]
    by_cases i15 : i = 15
    · rw [show ((q + 1) % 16 + 16 - 16 + i) % 16 = q by omega, pset_s, eH, if_pos i15]
      exact new
    · have o := h.it (i + 1) (by omega)
      rw [show ((q + 1) % 16 + 16 - 16 + i) % 16 = (q + 16 - c + (i + 1)) % 16 by omega, pset_n (by omega), eH, if_neg i15]
      exact ⟨o.1, o.2.1, by have := o.2.2; omega⟩
  · have ec : ccap c = c + 1 := if_neg c6
    rw [ec] at hi ⊢
    have eH : ∀ i, hpush H c (crA cr a t) i = if i = c then crA cr a t else H i := fun i => by
      unfold hpush
      rw [if_neg c6]
    by_cases ic : i = c
    · rw [show ((q + 1) % 16 + 16 - (c + 1) + i) % 16 = q by omega, pset_s, eH, if_pos ic]
      exact new
    · have o := h.it i (by omega)
      rw [show ((q + 1) % 16 + 16 - (c + 1) + i) % 16 = (q + 16 - c + i) % 16 by omega, pset_n (by omega), eH, if_neg ic]
      exact ⟨o.1, o.2.1, by have := o.2.2; omega⟩
theorem Inv.push {cr' : TCrew} {kn' s' u' : Fn} {a' t' : Nat} (h : (Inv j n p z a t q c l li e H pn pc tok ship kn log past marks m_taped m_done m_odd m_tape m_ship m_kind m_greenTold m_hands m_spray m_holds m_sea m_lineFrom m_lineTo m_codes m_manName m_postName m_lines m_lineWhat m_lineA m_lineB m_seens m_seenMan m_seenOther m_seenAt m_seenGreener m_s m_marked m_undone m_isLaid K)) (cw : CwI cr' (j + 1) n p a' t' s') (hk : KOk kn' (RV ship.law)) (ur : UR u' n (ccap c) (hpush H c (crA log.crew a t))) : (Inv (j + 1) n p z a' t' ((q + 1) % 16) (ccap c) l li e (hpush H c (crA log.crew a t)) (nI ((q + 1) % 16)) (nI (ccap c)) tok ship kn' (log.wcrew cr') (pset past q ((past q).cp log.crew)) marks m_taped (nI (ccap c)) m_odd m_tape m_ship m_kind m_greenTold m_hands m_spray m_holds m_sea m_lineFrom m_lineTo m_codes m_manName m_postName m_lines m_lineWhat m_lineA m_lineB m_seens m_seenMan m_seenOther m_seenAt m_seenGreener s' m_marked u' m_isLaid K) :=
  ⟨h.so, h.ms, hk, cw, ps_push h.so.n6 h.ps h.cw ur, h.tp, h.vo, h.se, fun i hi => (h.mk i hi).mono, h.od, h.kl.mono⟩
theorem pr_stand {x y : Int32} (h : (Inv j n p z a t q c l li e H pn pc tok ship kn log past marks m_taped m_done m_odd m_tape m_ship m_kind m_greenTold m_hands m_spray m_holds m_sea m_lineFrom m_lineTo m_codes m_manName m_postName m_lines m_lineWhat m_lineA m_lineB m_seens m_seenMan m_seenOther m_seenAt m_seenGreener m_s m_marked m_undone m_isLaid K)) (hj : j ≤ 512) : PR (xF L xs) (IW (j + 1)) 81 208 [.int x, .int y] (clsW pn pc tok (ship.wlaw (ship.law.wm stk kn)) nn tl draft vd log trial sta says seed past marks (mdlX m_thrown m_taped m_size m_place m_begin m_token m_word m_told m_wrong m_code m_toldLines m_given m_fresh m_done m_odd m_bestRank m_leastSpray m_g m_tape m_ship m_manName m_postName m_kind m_greenTold m_hands m_spray m_holds m_sea m_lineFrom m_lineTo m_codes m_opened m_compared m_kept m_keptBy m_ahead m_against m_sum m_sumBy m_term m_termBy m_byNot m_valueOf m_lines m_lineWhat m_lineA m_lineB m_seens m_seenMan m_seenOther m_seenAt m_seenGreener m_s m_aside m_before m_marked m_undone m_isLaid m_more m_row m_bestRow m_greenerBy K)) := by
  have n6 := h.so.n6
  have p4 := h.so.p4
  refine c_stand (d := 96) h.so h.ps.pn h.ps.q16 h.ps.pc h.ps.c16 (fun k b hk hb ek eb st => ⟨_, rfl, okW h.kl hj, m_stand (d := 97) (h.so.memo h.kn) h.ms.memo h.cw.rs h.ps.dn h.ps.c16 h.ps.ur (fun k' b' hk' hb' ek' eb' _ m_s m_undone ur rs => ?_) (fun y => absurd st (y k b hk hb ek eb))⟩) (fun y => ⟨_, rfl, okW h.kl hj, m_stand (d := 97) (h.so.memo h.kn) h.ms.memo h.cw.rs h.ps.dn h.ps.c16 h.ps.ur (fun k b hk hb ek eb st => absurd st (y k b hk hb ek eb)) (fun _ => ⟨rfl, IW_of h.mono⟩)⟩)
  have e1 : k = k' := nIj (ek.symm.trans ek') (by omega) (by omega)
  have e2 : b = b' := nIj (eb.symm.trans eb') (by omega) (by omega)
  subst e1 e2
  have ao := fol_ok (z := z) (vb := 0) (m := k) (b := b) (A := crA log.crew a t) h.so (fun _ => hk) (fun _ => hb) ⟨h.cw.gp, h.cw.a64⟩
  rw [folA, if_pos rfl, if_pos st] at ao
  exact ⟨rfl, IW_of (h.push (a' := a) (t' := t) ⟨h.cw.su, h.cw.a64, h.cw.ov, by have := h.cw.tj; omega, ao.gp, rs⟩ h.kn ur)⟩
theorem pr_below {x : Int32} (h : (Inv j n p z a t q c l li e H pn pc tok ship kn log past marks m_taped m_done m_odd m_tape m_ship m_kind m_greenTold m_hands m_spray m_holds m_sea m_lineFrom m_lineTo m_codes m_manName m_postName m_lines m_lineWhat m_lineA m_lineB m_seens m_seenMan m_seenOther m_seenAt m_seenGreener m_s m_marked m_undone m_isLaid K)) (hj : j ≤ 512) : PR (xF L xs) (IW (j + 1)) 87 212 [.int x] (clsW pn pc tok (ship.wlaw (ship.law.wm stk kn)) nn tl draft vd log trial sta says seed past marks (mdlX m_thrown m_taped m_size m_place m_begin m_token m_word m_told m_wrong m_code m_toldLines m_given m_fresh m_done m_odd m_bestRank m_leastSpray m_g m_tape m_ship m_manName m_postName m_kind m_greenTold m_hands m_spray m_holds m_sea m_lineFrom m_lineTo m_codes m_opened m_compared m_kept m_keptBy m_ahead m_against m_sum m_sumBy m_term m_termBy m_byNot m_valueOf m_lines m_lineWhat m_lineA m_lineB m_seens m_seenMan m_seenOther m_seenAt m_seenGreener m_s m_aside m_before m_marked m_undone m_isLaid m_more m_row m_bestRow m_greenerBy K)) := by
  have n6 := h.so.n6
  refine c_below (d := 96) h.so h.ps.pn h.ps.q16 h.ps.pc h.ps.c16 (fun k hk ek st => ⟨_, rfl, okW h.kl hj, m_below (d := 97) (h.so.memo h.kn) h.ms.memo h.cw.rs h.ps.dn h.ps.c16 h.ps.ur (fun k' hk' ek' _ m_s m_undone ur rs => ?_) (fun y => absurd (y k hk ek) st)⟩) (fun y => ⟨_, rfl, okW h.kl hj, m_below (d := 97) (h.so.memo h.kn) h.ms.memo h.cw.rs h.ps.dn h.ps.c16 h.ps.ur (fun k hk ek st => absurd (y k hk ek) st) (fun _ => ⟨rfl, IW_of h.mono⟩)⟩)
  have e1 : k = k' := nIj (ek.symm.trans ek') (by omega) (by omega)
  subst e1
  have ao := fol_ok (z := z) (vb := 1) (m := k) (b := 0) (A := crA log.crew a t) h.so (fun _ => hk) (fun y => absurd y (by decide)) ⟨h.cw.gp, h.cw.a64⟩
  rw [folA, if_neg (by decide), if_pos rfl, if_neg st] at ao
  exact ⟨rfl, IW_of (h.push (a' := a) (t' := t) ⟨h.cw.su, h.cw.a64, h.cw.ov, by have := h.cw.tj; omega, ao.gp, rs⟩ h.kn ur)⟩
theorem pr_suck {x : Int32} (h : (Inv j n p z a t q c l li e H pn pc tok ship kn log past marks m_taped m_done m_odd m_tape m_ship m_kind m_greenTold m_hands m_spray m_holds m_sea m_lineFrom m_lineTo m_codes m_manName m_postName m_lines m_lineWhat m_lineA m_lineB m_seens m_seenMan m_seenOther m_seenAt m_seenGreener m_s m_marked m_undone m_isLaid K)) (hj : j ≤ 512) : PR (xF L xs) (IW (j + 1)) 90 213 [.int x] (clsW pn pc tok (ship.wlaw (ship.law.wm stk kn)) nn tl draft vd log trial sta says seed past marks (mdlX m_thrown m_taped m_size m_place m_begin m_token m_word m_told m_wrong m_code m_toldLines m_given m_fresh m_done m_odd m_bestRank m_leastSpray m_g m_tape m_ship m_manName m_postName m_kind m_greenTold m_hands m_spray m_holds m_sea m_lineFrom m_lineTo m_codes m_opened m_compared m_kept m_keptBy m_ahead m_against m_sum m_sumBy m_term m_termBy m_byNot m_valueOf m_lines m_lineWhat m_lineA m_lineB m_seens m_seenMan m_seenOther m_seenAt m_seenGreener m_s m_aside m_before m_marked m_undone m_isLaid m_more m_row m_bestRow m_greenerBy K)) := by
  have n6 := h.so.n6
  refine c_suck (d := 96) h.so h.cw.su h.cw.a64 h.ps.pn h.ps.q16 h.ps.pc h.ps.c16 (fun k hk ek st => ⟨_, rfl, okW h.kl hj, m_suck (d := 97) (h.so.memo h.kn) h.ms.memo h.cw.rs h.cw.a64 h.ps.dn h.ps.c16 h.ps.ur (fun k' hk' ek' _ m_s m_undone ur rs => ?_) (fun y => absurd (y k hk ek) st)⟩) (fun y => ⟨_, rfl, okW h.kl hj, m_suck (d := 97) (h.so.memo h.kn) h.ms.memo h.cw.rs h.cw.a64 h.ps.dn h.ps.c16 h.ps.ur (fun k hk ek st => absurd (y k hk ek) st) (fun _ => ⟨rfl, IW_of h.mono⟩)⟩)
  have e1 : k = k' := nIj (ek.symm.trans ek') (by omega) (by omega)
  subst e1
  have ao := fol_ok (z := z) (vb := 2) (m := k) (b := 0) (A := crA log.crew a t) h.so (fun _ => hk) (fun y => absurd y (by decide)) ⟨h.cw.gp, h.cw.a64⟩
  rw [folA, if_neg (by decide), if_neg (by decide), if_pos rfl, if_neg st] at ao
  refine ⟨rfl, IW_of (h.push (a' := a ||| 2 ^ k) (t' := t) ⟨?_, ao.su, h.cw.ov, by have := h.cw.tj; omega, ao.gp, rs⟩ h.kn ur)⟩
  show log.crew.sucked ||| (1 <<< (nI k &&& 31)) = _
  rw [h.cw.su, shl_of k (by omega), nI_or]
theorem pr_fall {x : Int32} (h : (Inv j n p z a t q c l li e H pn pc tok ship kn log past marks m_taped m_done m_odd m_tape m_ship m_kind m_greenTold m_hands m_spray m_holds m_sea m_lineFrom m_lineTo m_codes m_manName m_postName m_lines m_lineWhat m_lineA m_lineB m_seens m_seenMan m_seenOther m_seenAt m_seenGreener m_s m_marked m_undone m_isLaid K)) (hj : j ≤ 512) : PR (xF L xs) (IW (j + 1)) 93 216 [.int x] (clsW pn pc tok (ship.wlaw (ship.law.wm stk kn)) nn tl draft vd log trial sta says seed past marks (mdlX m_thrown m_taped m_size m_place m_begin m_token m_word m_told m_wrong m_code m_toldLines m_given m_fresh m_done m_odd m_bestRank m_leastSpray m_g m_tape m_ship m_manName m_postName m_kind m_greenTold m_hands m_spray m_holds m_sea m_lineFrom m_lineTo m_codes m_opened m_compared m_kept m_keptBy m_ahead m_against m_sum m_sumBy m_term m_termBy m_byNot m_valueOf m_lines m_lineWhat m_lineA m_lineB m_seens m_seenMan m_seenOther m_seenAt m_seenGreener m_s m_aside m_before m_marked m_undone m_isLaid m_more m_row m_bestRow m_greenerBy K)) := by
  have n6 := h.so.n6
  refine c_fall (d := 96) h.so h.ps.pn h.ps.q16 h.ps.pc h.ps.c16 (fun k hk ek => ⟨_, rfl, okW h.kl hj, m_fall (d := 97) (h.so.memo h.kn) h.ms.memo h.cw.rs h.cw.gp h.ps.dn h.ps.c16 h.ps.ur (fun k' hk' ek' m_s m_undone ur rs => ?_) (fun y => absurd (ek ▸ inN hk (by omega)) y)⟩) (fun y => ⟨_, rfl, okW h.kl hj, m_fall (d := 97) (h.so.memo h.kn) h.ms.memo h.cw.rs h.cw.gp h.ps.dn h.ps.c16 h.ps.ur (fun k hk ek => absurd (ek ▸ inN hk (by omega)) y) (fun _ => ⟨rfl, IW_of h.mono⟩)⟩)
  have e1 : k = k' := nIj (ek.symm.trans ek') (by omega) (by omega)
  subst e1
  have ao := fol_ok (z := z) (vb := 3) (m := k) (b := 0) (A := crA log.crew a t) h.so (fun _ => hk) (fun y => absurd y (by decide)) ⟨h.cw.gp, h.cw.a64⟩
  rw [folA, if_neg (by decide), if_neg (by decide), if_neg (by decide), if_pos rfl] at ao
  exact ⟨rfl, IW_of (h.push (a' := a) (t' := t) ⟨h.cw.su, h.cw.a64, h.cw.ov, by have := h.cw.tj; omega, ao.gp, rs⟩ h.kn ur)⟩
theorem pr_watch (h : (Inv j n p z a t q c l li e H pn pc tok ship kn log past marks m_taped m_done m_odd m_tape m_ship m_kind m_greenTold m_hands m_spray m_holds m_sea m_lineFrom m_lineTo m_codes m_manName m_postName m_lines m_lineWhat m_lineA m_lineB m_seens m_seenMan m_seenOther m_seenAt m_seenGreener m_s m_marked m_undone m_isLaid K)) (hj : j ≤ 512) : PR (xF L xs) (IW (j + 1)) 96 218 [] (clsW pn pc tok (ship.wlaw (ship.law.wm stk kn)) nn tl draft vd log trial sta says seed past marks (mdlX m_thrown m_taped m_size m_place m_begin m_token m_word m_told m_wrong m_code m_toldLines m_given m_fresh m_done m_odd m_bestRank m_leastSpray m_g m_tape m_ship m_manName m_postName m_kind m_greenTold m_hands m_spray m_holds m_sea m_lineFrom m_lineTo m_codes m_opened m_compared m_kept m_keptBy m_ahead m_against m_sum m_sumBy m_term m_termBy m_byNot m_valueOf m_lines m_lineWhat m_lineA m_lineB m_seens m_seenMan m_seenOther m_seenAt m_seenGreener m_s m_aside m_before m_marked m_undone m_isLaid m_more m_row m_bestRow m_greenerBy K)) := by
  have t2 : t < 2 ^ 31 := by have := h.cw.tj; omega
  refine c_watch (d := 95) h.so h.kn h.cw.gp h.cw.ov t2 h.ps.pn h.ps.q16 h.ps.pc h.ps.c16 (fun ri stk kn hk => ⟨_, rfl, okW h.kl hj, m_watch (d := 94) (h.so.memo hk) h.ms.memo h.cw.rs h.cw.gp t2 h.od h.ps.dn h.ps.c16 h.ps.ur (fun m_s m_undone m_kept m_keptBy m_ahead m_against m_sum m_sumBy m_term m_termBy m_byNot m_valueOf m_more ur rs => ?_)⟩)
  have ao := fol_ok (z := z) (vb := 4) (m := 0) (b := 0) (A := crA log.crew a t) h.so (fun y => absurd y (by decide)) (fun y => absurd y (by decide)) ⟨h.cw.gp, h.cw.a64⟩
  rw [folA, if_neg (by decide), if_neg (by decide), if_neg (by decide), if_neg (by decide), if_pos rfl] at ao
  refine ⟨rfl, IW_of (h.push (a' := a) (t' := t + 1) ⟨h.cw.su, h.cw.a64, ?_, by have := h.cw.tj; omega, ao.gp, rs⟩ hk ur)⟩
  show log.crew.over + 1 = nI (t + 1)
  rw [h.cw.ov, nI_succ]
theorem pr_dock (h : (Inv j n p z a t q c l li e H pn pc tok ship kn log past marks m_taped m_done m_odd m_tape m_ship m_kind m_greenTold m_hands m_spray m_holds m_sea m_lineFrom m_lineTo m_codes m_manName m_postName m_lines m_lineWhat m_lineA m_lineB m_seens m_seenMan m_seenOther m_seenAt m_seenGreener m_s m_marked m_undone m_isLaid K)) (hj : j ≤ 512) : PR (xF L xs) (IW (j + 1)) 106 227 [] (clsW pn pc tok (ship.wlaw (ship.law.wm stk kn)) nn tl draft vd log trial sta says seed past marks (mdlX m_thrown m_taped m_size m_place m_begin m_token m_word m_told m_wrong m_code m_toldLines m_given m_fresh m_done m_odd m_bestRank m_leastSpray m_g m_tape m_ship m_manName m_postName m_kind m_greenTold m_hands m_spray m_holds m_sea m_lineFrom m_lineTo m_codes m_opened m_compared m_kept m_keptBy m_ahead m_against m_sum m_sumBy m_term m_termBy m_byNot m_valueOf m_lines m_lineWhat m_lineA m_lineB m_seens m_seenMan m_seenOther m_seenAt m_seenGreener m_s m_aside m_before m_marked m_undone m_isLaid m_more m_row m_bestRow m_greenerBy K)) := by
  refine c_dock (d := 96) h.so h.ps.pn h.ps.q16 h.ps.pc h.ps.c16 ⟨_, rfl, okW h.kl hj, m_dock (d := 97) (h.so.memo h.kn) h.ms.memo h.cw.rs h.ps.dn h.ps.c16 h.ps.ur (fun m_s m_undone ur rs => ?_)⟩
  have ao := fol_ok (z := z) (vb := 5) (m := 0) (b := 0) (A := crA log.crew a t) h.so (fun y => absurd y (by decide)) (fun y => absurd y (by decide)) ⟨h.cw.gp, h.cw.a64⟩
  rw [folA, if_neg (by decide), if_neg (by decide), if_neg (by decide), if_neg (by decide), if_neg (by decide)] at ao
  exact ⟨rfl, IW_of (h.push (a' := a) (t' := t) ⟨h.cw.su, h.cw.a64, h.cw.ov, by have := h.cw.tj; omega, ao.gp, rs⟩ h.kn ur)⟩
theorem Inv.undo {s' : Fn} (h : (Inv j n p z a t q c l li e H pn pc tok ship kn log past marks m_taped m_done m_odd m_tape m_ship m_kind m_greenTold m_hands m_spray m_holds m_sea m_lineFrom m_lineTo m_codes m_manName m_postName m_lines m_lineWhat m_lineA m_lineB m_seens m_seenMan m_seenOther m_seenAt m_seenGreener m_s m_marked m_undone m_isLaid K)) (hc : 0 < c) (rs : RS s' n (H (c - 1))) : (Inv (j + 1) n p z ((H (c - 1)).su) ((H (c - 1)).t) ((q + 15) % 16) (c - 1) l li e H (nI ((q + 15) % 16)) (nI (c - 1)) tok ship kn (log.wcrew (log.crew.cp (past ((q + 15) % 16)))) past marks m_taped (nI (c - 1)) m_odd m_tape m_ship m_kind m_greenTold m_hands m_spray m_holds m_sea m_lineFrom m_lineTo m_codes m_manName m_postName m_lines m_lineWhat m_lineA m_lineB m_seens m_seenMan m_seenOther m_seenAt m_seenGreener s' m_marked m_undone m_isLaid K) := by
  have q16 := h.ps.q16
  have c16 := h.ps.c16
  have o := h.ps.it (c - 1) (by omega)
  rw [show (q + 16 - c + (c - 1)) % 16 = (q + 15) % 16 by omega] at o
  refine ⟨h.so, h.ms, h.kn, cw_of (tr_cp h.so.n6 o.1) o.2.1 (by have := o.2.2; omega) rs, ⟨rfl, Nat.mod_lt _ (by omega), rfl, by omega, rfl, fun i hi => h.ps.ur i (by omega), fun i hi => ?_⟩, h.tp, h.vo, h.se, fun i hi => (h.mk i hi).mono, h.od, h.kl.mono⟩
  have o2 := h.ps.it i (by omega)
  rw [show ((q + 15) % 16 + 16 - (c - 1) + i) % 16 = (q + 16 - c + i) % 16 by omega]
  exact ⟨o2.1, o2.2.1, by have := o2.2.2; omega⟩
theorem pr_undo (h : (Inv j n p z a t q c l li e H pn pc tok ship kn log past marks m_taped m_done m_odd m_tape m_ship m_kind m_greenTold m_hands m_spray m_holds m_sea m_lineFrom m_lineTo m_codes m_manName m_postName m_lines m_lineWhat m_lineA m_lineB m_seens m_seenMan m_seenOther m_seenAt m_seenGreener m_s m_marked m_undone m_isLaid K)) (hj : j ≤ 512) : PR (xF L xs) (IW (j + 1)) 109 230 [] (clsW pn pc tok (ship.wlaw (ship.law.wm stk kn)) nn tl draft vd log trial sta says seed past marks (mdlX m_thrown m_taped m_size m_place m_begin m_token m_word m_told m_wrong m_code m_toldLines m_given m_fresh m_done m_odd m_bestRank m_leastSpray m_g m_tape m_ship m_manName m_postName m_kind m_greenTold m_hands m_spray m_holds m_sea m_lineFrom m_lineTo m_codes m_opened m_compared m_kept m_keptBy m_ahead m_against m_sum m_sumBy m_term m_termBy m_byNot m_valueOf m_lines m_lineWhat m_lineA m_lineB m_seens m_seenMan m_seenOther m_seenAt m_seenGreener m_s m_aside m_before m_marked m_undone m_isLaid m_more m_row m_bestRow m_greenerBy K)) :=
  c_undo (d := 98) h.ps.pn h.ps.q16 h.ps.pc h.ps.c16 (fun c0 => ⟨_, rfl, okW h.kl hj, m_undo (d := 98) h.so.n6 h.ps.dn h.ps.c16 h.ps.ur (fun y => absurd y (by omega)) (fun _ => ⟨rfl, IW_of h.mono⟩)⟩) (fun c0 => ⟨_, rfl, okW h.kl hj, m_undo (d := 98) h.so.n6 h.ps.dn h.ps.c16 h.ps.ur (fun _ m_s rs => ⟨rfl, IW_of (h.undo c0 rs)⟩) (fun y => absurd y (by omega))⟩)
end XST
