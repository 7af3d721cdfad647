/-! a store into the reference's world -/
theorem xset_app : ∀ (l r : XWd) (n : Nat) (b : XE), xset (l ++ r) (l.length + n) b = l ++ xset r n b
  | [], r, n, b => by simp
  | a :: l, r, n, b => by
    have e : (a :: l).length + n = (l.length + n) + 1 := by simp only [List.length_cons]; omega
    rw [e]
    show a :: xset (l ++ r) (l.length + n) b = a :: (l ++ xset r n b)
    rw [xset_app l r n b]
section XSTO
variable {L : Nat} {xs : Nat → Int32} {d : Nat} {Q : XQt} {pn pc : Int32} {tok : TTok} {ship : TShip} {nn : Int64} {tl : Int32} {draft : TShip} {vd : TVoy} {log : TLog} {trial : TCrew} {sta : TSta} {says : Fn} {seed : Int64} {past : Nat → TCrew} {marks : Nat → TLog} {K : XWd}
variable {m_thrown : Int32} {m_taped : Int32} {m_size : Int32} {m_place : Int32} {m_begin : Int32} {m_token : Int32} {m_word : Int64} {m_told : Int32} {m_wrong : Int32} {m_code : Int32} {m_toldLines : Int32} {m_given : Int32} {m_fresh : Int64} {m_done : Int32} {m_odd : Int32} {m_bestRank : Int32} {m_leastSpray : Int32} {m_g : Int64} {m_tape : Fn} {m_ship : Fn} {m_manName : Fl} {m_postName : Fl} {m_kind : Fn} {m_greenTold : Fn} {m_hands : Fn} {m_spray : Fn} {m_holds : Fn} {m_sea : Fn} {m_lineFrom : Fn} {m_lineTo : Fn} {m_codes : Fn} {m_opened : Fn} {m_compared : Fn} {m_kept : Fn} {m_keptBy : Fn} {m_ahead : Fn} {m_against : Fn} {m_sum : Fn} {m_sumBy : Fn} {m_term : Fn} {m_termBy : Fn} {m_byNot : Fn} {m_valueOf : Fn} {m_lines : Fn} {m_lineWhat : Fn} {m_lineA : Fn} {m_lineB : Fn} {m_seens : Fn} {m_seenMan : Fn} {m_seenOther : Fn} {m_seenAt : Fn} {m_seenGreener : Fn} {m_s : Fn} {m_aside : Fn} {m_before : Fn} {m_marked : Fn} {m_undone : Fn} {m_isLaid : Fn} {m_more : Fn} {m_row : Fn} {m_bestRow : Fn} {m_greenerBy : Fl}
set_option maxRecDepth 20000 in
theorem clsW_app : (clsW pn pc tok ship nn tl draft vd log trial sta says seed past marks K) = (clsW pn pc tok ship nn tl draft vd log trial sta says seed past marks ([])) ++ K := by
  simp only [clsW, gTop, gTok, gShip3, gRd, gShip17, gVoy30, gLog32, gCrew44, gFor48, gSta49, gSus53, gPast, gMarks, gPastA, gP0, gP1, gP2, gP3, gP4, gP5, gP6, gP7, gP8, gP9, gP10, gP11, gP12, gP13, gP14, gP15, gMarkA, gM0, gM1, gM2, gM3, List.cons_append, List.nil_append]
set_option maxRecDepth 20000 in
theorem clsW_len : (clsW pn pc tok ship nn tl draft vd log trial sta says seed past marks ([])).length = 169 := rfl
theorem clsW_set {n : Nat} {b : XE} : xset (clsW pn pc tok ship nn tl draft vd log trial sta says seed past marks K) (169 + n) b = (clsW pn pc tok ship nn tl draft vd log trial sta says seed past marks (xset K n b)) := by
  have h := xset_app (clsW pn pc tok ship nn tl draft vd log trial sta says seed past marks ([])) K n b
  rw [clsW_len] at h
  rw [clsW_app, h, ← clsW_app]
end XSTO
