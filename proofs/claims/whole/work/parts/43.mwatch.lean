/-! the reference: the law worked, a watch -/
abbrev TW : Type := Fn × Fn × Fn × Fn × Fn × Fn × Fn × Fn × Fn
def wkOpens : TW → Nat → TW
  | (ke, kb, ah, ag, su, sb, te, tb, bn), d => (ke, upd kb d 0, ah, upd ag d 0, upd su d 0, upd sb d 20, te, upd tb d 0, bn)
def smV (sb s t : Int32) : Int32 := if sb = 21 then s - t else s + t
def wkSums : TW → Nat → TW
  | (ke, kb, ah, ag, su, sb, te, tb, bn), d => (ke, kb, ah, ag, upd su d (smV (sb d) (su d) (te d)), sb, te, upd tb d 0, bn)
def agV (ag ah s : Int32) : Int32 := if ag = 24 then b2i (ah < s) else if ag = 25 then b2i (ah = s) else s
def kpV (kb ke v : Int32) : Int32 := if kb = 26 then b2i (¬ ke = 0 ∧ ¬ v = 0) else if kb = 27 then b2i (¬ ke = 0 ∨ ¬ v = 0) else v
def wkT3 : TW → Nat → TW
  | (ke, kb, ah, ag, su, sb, te, tb, bn), d => (upd ke d (kpV (kb d) (ke d) (agV (ag d) (ah d) (su d))), kb, ah, upd ag d 0, upd su d 0, upd sb d 20, te, tb, bn)
def wkTests (W : TW) (d : Nat) : TW := wkT3 (wkSums W d) d
def wkNots (bn : Fn) : Nat → Int32 → Nat × Int32
  | 0, v => (0, v)
  | d + 1, v => if bn (d + 1) = 1 then wkNots bn d (b2i (v = 0)) else (d + 1, v)
def wkEnd : TW → Nat → Int32 → TW × Nat
  | (ke, kb, ah, ag, su, sb, te, tb, bn), d, v => ((ke, kb, ah, ag, su, sb, upd te (wkNots bn d v).1 (if tb (wkNots bn d v).1 = 0 then (wkNots bn d v).2 else te (wkNots bn d v).1 * (wkNots bn d v).2), tb, bn), (wkNots bn d v).1)
def wkNew : TW → Nat → Int32 → TW
  | (ke, kb, ah, ag, su, sb, te, tb, bn), d, x => wkOpens (ke, kb, ah, ag, su, sb, te, tb, upd bn d x) d
def wkSb : TW → Nat → Int32 → TW
  | (ke, kb, ah, ag, su, sb, te, tb, bn), d, x => (ke, kb, ah, ag, su, upd sb d x, te, tb, bn)
def wkTb : TW → Nat → Int32 → TW
  | (ke, kb, ah, ag, su, sb, te, tb, bn), d, x => (ke, kb, ah, ag, su, sb, te, upd tb d x, bn)
def wkAg : TW → Nat → Int32 → TW
  | (ke, kb, ah, ag, su, sb, te, tb, bn), d, x => (ke, kb, upd ah d (su d), upd ag d x, upd su d 0, upd sb d 20, te, tb, bn)
def wkKb : TW → Nat → Int32 → TW
  | (ke, kb, ah, ag, su, sb, te, tb, bn), d, x => (ke, upd kb d x, ah, ag, su, sb, te, tb, bn)
def wkStep (vo : Fn) (W : TW) (d : Nat) (c : Int32) : TW × Nat :=
  if c = 28 ∨ c = 30 then (wkNew W (d + 1) (b2i (c = 30)), d + 1)
  else if c = 20 ∨ c = 21 then (wkSb (wkSums W d) d c, d)
  else if c = 22 then (wkTb W d c, d)
  else if c = 24 ∨ c = 25 then (wkAg (wkSums W d) d c, d)
  else if c = 26 ∨ c = 27 then (wkKb (wkTests W d) d c, d)
  else if c = 29 then wkEnd (wkTests W d) (d - 1) ((wkTests W d).1 d)
  else wkEnd W d (if 100 ≤ c then c - 100 else if c < 20 then vo c.toNatClampNeg else 0)
def wkRun (vo cd : Fn) (f : Nat) (W : TW) : Nat → TW × Nat
  | 0 => (wkOpens W 0, 0)
  | j + 1 => wkStep vo (wkRun vo cd f W j).1 (wkRun vo cd f W j).2 (cd (f + j))
def wkOk (d : Nat) (c : Int32) : Prop := d ≤ 6 ∧ ((c = 28 ∨ c = 30) → d < 6) ∧ (c = 29 → 0 < d) ∧ (c < 20 → 0 ≤ c)
def wkOut (r : TW × Nat) : Int32 := (wkTests r.1 0).1 0
/-- the reference's codes and the class's steps say the same -/
def LwR (cd : Fn) (f t : Nat) (l : TLaw) : Prop := ∀ (vo : Fn) (W : TW), (∀ j, j < t - f → wkOk (wkRun vo cd f W j).2 (cd (f + j))) ∧ wkOut (wkRun vo cd f W (t - f)) = valV l (vo 1) (vo 2) (vo 3) (if l.looks = 0 then 0 else vo 4)
abbrev MS (s : TShip) (n p z : Nat) (a_ship a_kind a_green a_hands a_spray a_holds a_sea a_from a_to a_codes : Fn) (a_man a_post : Fl) : Prop := (a_ship 0 = nI n) ∧ (a_ship 1 = nI p) ∧ (a_ship 2 = s.shade) ∧ (a_ship 3 = s.lemon) ∧ (a_ship 4 = s.harbour) ∧ ((a_ship 5 = nI z ∧ ∀ i, i < z → a_sea i = s.sea i) ∨ (a_ship 5 = 0 ∧ z = 1 ∧ s.sea 0 = 1)) ∧ (∀ k, k < n → a_kind k = s.kind k) ∧ (∀ k, k < n → a_green k = s.green k) ∧ (∀ k, k < n → a_hands k = s.hands k) ∧ (∀ k, k < n → a_man k = s.manName k) ∧ (∀ b, b < p → a_spray b = s.spray b) ∧ (∀ b, b < p → a_holds b = s.holds b) ∧ (∀ b, b < p → a_post b = s.postName b) ∧ (∃ f t, a_from 0 = nI f ∧ a_to 0 = nI t ∧ f ≤ 1000 ∧ t ≤ 1000 ∧ ((t ≤ f ∧ ∀ a b c e, valV s.law a b c e = c + b) ∨ (f < t ∧ LwR a_codes f t s.law)))
theorem MS.men {s : TShip} {n p z : Nat} {a_ship a_kind a_green a_hands a_spray a_holds a_sea a_from a_to a_codes : Fn} {a_man a_post : Fl} (h : MS s n p z a_ship a_kind a_green a_hands a_spray a_holds a_sea a_from a_to a_codes a_man a_post) : a_ship 0 = nI n := h.1
theorem MS.posts {s : TShip} {n p z : Nat} {a_ship a_kind a_green a_hands a_spray a_holds a_sea a_from a_to a_codes : Fn} {a_man a_post : Fl} (h : MS s n p z a_ship a_kind a_green a_hands a_spray a_holds a_sea a_from a_to a_codes a_man a_post) : a_ship 1 = nI p := h.2.1
theorem MS.shade {s : TShip} {n p z : Nat} {a_ship a_kind a_green a_hands a_spray a_holds a_sea a_from a_to a_codes : Fn} {a_man a_post : Fl} (h : MS s n p z a_ship a_kind a_green a_hands a_spray a_holds a_sea a_from a_to a_codes a_man a_post) : a_ship 2 = s.shade := h.2.2.1
theorem MS.lemon {s : TShip} {n p z : Nat} {a_ship a_kind a_green a_hands a_spray a_holds a_sea a_from a_to a_codes : Fn} {a_man a_post : Fl} (h : MS s n p z a_ship a_kind a_green a_hands a_spray a_holds a_sea a_from a_to a_codes a_man a_post) : a_ship 3 = s.lemon := h.2.2.2.1
theorem MS.harbour {s : TShip} {n p z : Nat} {a_ship a_kind a_green a_hands a_spray a_holds a_sea a_from a_to a_codes : Fn} {a_man a_post : Fl} (h : MS s n p z a_ship a_kind a_green a_hands a_spray a_holds a_sea a_from a_to a_codes a_man a_post) : a_ship 4 = s.harbour := h.2.2.2.2.1
theorem MS.seas {s : TShip} {n p z : Nat} {a_ship a_kind a_green a_hands a_spray a_holds a_sea a_from a_to a_codes : Fn} {a_man a_post : Fl} (h : MS s n p z a_ship a_kind a_green a_hands a_spray a_holds a_sea a_from a_to a_codes a_man a_post) : (a_ship 5 = nI z ∧ ∀ i, i < z → a_sea i = s.sea i) ∨ (a_ship 5 = 0 ∧ z = 1 ∧ s.sea 0 = 1) := h.2.2.2.2.2.1
theorem MS.kind {s : TShip} {n p z : Nat} {a_ship a_kind a_green a_hands a_spray a_holds a_sea a_from a_to a_codes : Fn} {a_man a_post : Fl} (h : MS s n p z a_ship a_kind a_green a_hands a_spray a_holds a_sea a_from a_to a_codes a_man a_post) : ∀ k, k < n → a_kind k = s.kind k := h.2.2.2.2.2.2.1
theorem MS.green {s : TShip} {n p z : Nat} {a_ship a_kind a_green a_hands a_spray a_holds a_sea a_from a_to a_codes : Fn} {a_man a_post : Fl} (h : MS s n p z a_ship a_kind a_green a_hands a_spray a_holds a_sea a_from a_to a_codes a_man a_post) : ∀ k, k < n → a_green k = s.green k := h.2.2.2.2.2.2.2.1
theorem MS.hands {s : TShip} {n p z : Nat} {a_ship a_kind a_green a_hands a_spray a_holds a_sea a_from a_to a_codes : Fn} {a_man a_post : Fl} (h : MS s n p z a_ship a_kind a_green a_hands a_spray a_holds a_sea a_from a_to a_codes a_man a_post) : ∀ k, k < n → a_hands k = s.hands k := h.2.2.2.2.2.2.2.2.1
theorem MS.man {s : TShip} {n p z : Nat} {a_ship a_kind a_green a_hands a_spray a_holds a_sea a_from a_to a_codes : Fn} {a_man a_post : Fl} (h : MS s n p z a_ship a_kind a_green a_hands a_spray a_holds a_sea a_from a_to a_codes a_man a_post) : ∀ k, k < n → a_man k = s.manName k := h.2.2.2.2.2.2.2.2.2.1
theorem MS.spray {s : TShip} {n p z : Nat} {a_ship a_kind a_green a_hands a_spray a_holds a_sea a_from a_to a_codes : Fn} {a_man a_post : Fl} (h : MS s n p z a_ship a_kind a_green a_hands a_spray a_holds a_sea a_from a_to a_codes a_man a_post) : ∀ b, b < p → a_spray b = s.spray b := h.2.2.2.2.2.2.2.2.2.2.1
theorem MS.holds {s : TShip} {n p z : Nat} {a_ship a_kind a_green a_hands a_spray a_holds a_sea a_from a_to a_codes : Fn} {a_man a_post : Fl} (h : MS s n p z a_ship a_kind a_green a_hands a_spray a_holds a_sea a_from a_to a_codes a_man a_post) : ∀ b, b < p → a_holds b = s.holds b := h.2.2.2.2.2.2.2.2.2.2.2.1
theorem MS.post {s : TShip} {n p z : Nat} {a_ship a_kind a_green a_hands a_spray a_holds a_sea a_from a_to a_codes : Fn} {a_man a_post : Fl} (h : MS s n p z a_ship a_kind a_green a_hands a_spray a_holds a_sea a_from a_to a_codes a_man a_post) : ∀ b, b < p → a_post b = s.postName b := h.2.2.2.2.2.2.2.2.2.2.2.2.1
theorem MS.law {s : TShip} {n p z : Nat} {a_ship a_kind a_green a_hands a_spray a_holds a_sea a_from a_to a_codes : Fn} {a_man a_post : Fl} (h : MS s n p z a_ship a_kind a_green a_hands a_spray a_holds a_sea a_from a_to a_codes a_man a_post) : ∃ f t, a_from 0 = nI f ∧ a_to 0 = nI t ∧ f ≤ 1000 ∧ t ≤ 1000 ∧ ((t ≤ f ∧ ∀ a b c e, valV s.law a b c e = c + b) ∨ (f < t ∧ LwR a_codes f t s.law)) := h.2.2.2.2.2.2.2.2.2.2.2.2.2
section XMW
variable {L : Nat} {xs : Nat → Int32} {d : Nat} {Q : XQt} {pn pc : Int32} {tok : TTok} {ship : TShip} {nn : Int64} {tl : Int32} {draft : TShip} {vd : TVoy} {log : TLog} {trial : TCrew} {sta : TSta} {says : Fn} {seed : Int64} {past : Nat → TCrew} {marks : Nat → TLog} {K : XWd}
variable {m_thrown : Int32} {m_taped : Int32} {m_size : Int32} {m_place : Int32} {m_begin : Int32} {m_token : Int32} {m_word : Int64} {m_told : Int32} {m_wrong : Int32} {m_code : Int32} {m_toldLines : Int32} {m_given : Int32} {m_fresh : Int64} {m_done : Int32} {m_odd : Int32} {m_bestRank : Int32} {m_leastSpray : Int32} {m_g : Int64} {m_tape : Fn} {m_ship : Fn} {m_manName : Fl} {m_postName : Fl} {m_kind : Fn} {m_greenTold : Fn} {m_hands : Fn} {m_spray : Fn} {m_holds : Fn} {m_sea : Fn} {m_lineFrom : Fn} {m_lineTo : Fn} {m_codes : Fn} {m_opened : Fn} {m_compared : Fn} {m_kept : Fn} {m_keptBy : Fn} {m_ahead : Fn} {m_against : Fn} {m_sum : Fn} {m_sumBy : Fn} {m_term : Fn} {m_termBy : Fn} {m_byNot : Fn} {m_valueOf : Fn} {m_lines : Fn} {m_lineWhat : Fn} {m_lineA : Fn} {m_lineB : Fn} {m_seens : Fn} {m_seenMan : Fn} {m_seenOther : Fn} {m_seenAt : Fn} {m_seenGreener : Fn} {m_s : Fn} {m_aside : Fn} {m_before : Fn} {m_marked : Fn} {m_undone : Fn} {m_isLaid : Fn} {m_more : Fn} {m_row : Fn} {m_bestRow : Fn} {m_greenerBy : Fl}
variable {n p z : Nat} {A : TA}
theorem m_opens {dd : Nat} {x : Int32} (hx : x = nI dd) (hd : dd < 7) (h : Q none (clsW pn pc tok ship nn tl draft vd log trial sta says seed past marks (mdlX m_thrown m_taped m_size m_place m_begin m_token m_word m_told m_wrong m_code m_toldLines m_given m_fresh m_done m_odd m_bestRank m_leastSpray m_g m_tape m_ship m_manName m_postName m_kind m_greenTold m_hands m_spray m_holds m_sea m_lineFrom m_lineTo m_codes m_opened m_compared m_kept (upd m_keptBy dd 0) m_ahead (upd m_against dd 0) (upd m_sum dd 0) (upd m_sumBy dd 20) m_term (upd m_termBy dd 0) m_byNot m_valueOf m_lines m_lineWhat m_lineA m_lineB m_seens m_seenMan m_seenOther m_seenAt m_seenGreener m_s m_aside m_before m_marked m_undone m_isLaid m_more m_row m_bestRow m_greenerBy K))) : XC (xF L xs) xmeths (d + 1) 223 [.ref 169, .int x] (clsW pn pc tok ship nn tl draft vd log trial sta says seed past marks (mdlX m_thrown m_taped m_size m_place m_begin m_token m_word m_told m_wrong m_code m_toldLines m_given m_fresh m_done m_odd m_bestRank m_leastSpray m_g m_tape m_ship m_manName m_postName m_kind m_greenTold m_hands m_spray m_holds m_sea m_lineFrom m_lineTo m_codes m_opened m_compared m_kept m_keptBy m_ahead m_against m_sum m_sumBy m_term m_termBy m_byNot m_valueOf m_lines m_lineWhat m_lineA m_lineB m_seens m_seenMan m_seenOther m_seenAt m_seenGreener m_s m_aside m_before m_marked m_undone m_isLaid m_more m_row m_bestRow m_greenerBy K)) Q := by
  subst hx
  refine ⟨nb rfl, xgo [] 60 ⟨vp_in_nI (by omega) (by omega), ?_⟩⟩
  rw [nI_clamp (by omega), st_keptBy]
  refine ⟨vp_in_nI (by omega) (by omega), ?_⟩
  rw [nI_clamp (by omega), st_against]
  refine ⟨vp_in_nI (by omega) (by omega), ?_⟩
  rw [nI_clamp (by omega), st_sum]
  refine ⟨vp_in_nI (by omega) (by omega), ?_⟩
  rw [nI_clamp (by omega), st_sumBy]
  refine ⟨vp_in_nI (by omega) (by omega), ?_⟩
  rw [nI_clamp (by omega), st_termBy]
  exact ⟨rfl, h⟩
theorem m_sums {dd : Nat} {x : Int32} (hx : x = nI dd) (hd : dd < 7) (h : Q none (clsW pn pc tok ship nn tl draft vd log trial sta says seed past marks (mdlX m_thrown m_taped m_size m_place m_begin m_token m_word m_told m_wrong m_code m_toldLines m_given m_fresh m_done m_odd m_bestRank m_leastSpray m_g m_tape m_ship m_manName m_postName m_kind m_greenTold m_hands m_spray m_holds m_sea m_lineFrom m_lineTo m_codes m_opened m_compared m_kept m_keptBy m_ahead m_against (upd m_sum dd (smV (m_sumBy dd) (m_sum dd) (m_term dd))) m_sumBy m_term (upd m_termBy dd 0) m_byNot m_valueOf m_lines m_lineWhat m_lineA m_lineB m_seens m_seenMan m_seenOther m_seenAt m_seenGreener m_s m_aside m_before m_marked m_undone m_isLaid m_more m_row m_bestRow m_greenerBy K))) : XC (xF L xs) xmeths (d + 1) 224 [.ref 169, .int x] (clsW pn pc tok ship nn tl draft vd log trial sta says seed past marks (mdlX m_thrown m_taped m_size m_place m_begin m_token m_word m_told m_wrong m_code m_toldLines m_given m_fresh m_done m_odd m_bestRank m_leastSpray m_g m_tape m_ship m_manName m_postName m_kind m_greenTold m_hands m_spray m_holds m_sea m_lineFrom m_lineTo m_codes m_opened m_compared m_kept m_keptBy m_ahead m_against m_sum m_sumBy m_term m_termBy m_byNot m_valueOf m_lines m_lineWhat m_lineA m_lineB m_seens m_seenMan m_seenOther m_seenAt m_seenGreener m_s m_aside m_before m_marked m_undone m_isLaid m_more m_row m_bestRow m_greenerBy K)) Q := by
  subst hx
  refine ⟨nb rfl, xgo [] 60 ⟨vp_in_nI (by omega) (by omega), ?_⟩⟩
  rw [nI_clamp (by omega)]
  refine And.intro (fun (q : ¬ m_sumBy dd = 21) => ?_) (fun (q : ¬ ¬ m_sumBy dd = 21) => ?_)
  · refine ⟨vp_in_nI (by omega) (by omega), vp_in_nI (by omega) (by omega), vp_in_nI (by omega) (by omega), ?_⟩
    rw [nI_clamp (by omega), st_sum]
    refine ⟨vp_in_nI (by omega) (by omega), ?_⟩
    rw [nI_clamp (by omega), st_termBy]
    rw [smV, if_neg q] at h
    exact ⟨rfl, h⟩
  · refine ⟨vp_in_nI (by omega) (by omega), vp_in_nI (by omega) (by omega), vp_in_nI (by omega) (by omega), ?_⟩
    rw [nI_clamp (by omega), st_sum]
    refine ⟨vp_in_nI (by omega) (by omega), ?_⟩
    rw [nI_clamp (by omega), st_termBy]
    rw [smV, if_pos (Classical.not_not.mp q)] at h
    exact ⟨rfl, h⟩
theorem m_tests3 {dd : Nat} {d' : Nat} (hd : dd < 7) (h : Q none (clsW pn pc tok ship nn tl draft vd log trial sta says seed past marks (mdlX m_thrown m_taped m_size m_place m_begin m_token m_word m_told m_wrong m_code m_toldLines m_given m_fresh m_done m_odd m_bestRank m_leastSpray m_g m_tape m_ship m_manName m_postName m_kind m_greenTold m_hands m_spray m_holds m_sea m_lineFrom m_lineTo m_codes m_opened m_compared (upd m_kept dd (kpV (m_keptBy dd) (m_kept dd) (agV (m_against dd) (m_ahead dd) (m_sum dd)))) m_keptBy m_ahead (upd m_against dd 0) (upd m_sum dd 0) (upd m_sumBy dd 20) m_term m_termBy m_byNot m_valueOf m_lines m_lineWhat m_lineA m_lineB m_seens m_seenMan m_seenOther m_seenAt m_seenGreener m_s m_aside m_before m_marked m_undone m_isLaid m_more m_row m_bestRow m_greenerBy K))) : XWp (xF L xs) none xP225 (XC (xF L xs) xmeths d') Q 3 [orf 169, oi (nI dd), none] [] (clsW pn pc tok ship nn tl draft vd log trial sta says seed past marks (mdlX m_thrown m_taped m_size m_place m_begin m_token m_word m_told m_wrong m_code m_toldLines m_given m_fresh m_done m_odd m_bestRank m_leastSpray m_g m_tape m_ship m_manName m_postName m_kind m_greenTold m_hands m_spray m_holds m_sea m_lineFrom m_lineTo m_codes m_opened m_compared m_kept m_keptBy m_ahead m_against m_sum m_sumBy m_term m_termBy m_byNot m_valueOf m_lines m_lineWhat m_lineA m_lineB m_seens m_seenMan m_seenOther m_seenAt m_seenGreener m_s m_aside m_before m_marked m_undone m_isLaid m_more m_row m_bestRow m_greenerBy K)) := by
  have e := nI_clamp (show dd < 2 ^ 31 by omega)
  have a80 : ∀ v, v = kpV (m_keptBy dd) (m_kept dd) (agV (m_against dd) (m_ahead dd) (m_sum dd)) → XWp (xF L xs) none xP225 (XC (xF L xs) xmeths d') Q 80 [orf 169, oi (nI dd), oi v] [] (clsW pn pc tok ship nn tl draft vd log trial sta says seed past marks (mdlX m_thrown m_taped m_size m_place m_begin m_token m_word m_told m_wrong m_code m_toldLines m_given m_fresh m_done m_odd m_bestRank m_leastSpray m_g m_tape m_ship m_manName m_postName m_kind m_greenTold m_hands m_spray m_holds m_sea m_lineFrom m_lineTo m_codes m_opened m_compared m_kept m_keptBy m_ahead m_against m_sum m_sumBy m_term m_termBy m_byNot m_valueOf m_lines m_lineWhat m_lineA m_lineB m_seens m_seenMan m_seenOther m_seenAt m_seenGreener m_s m_aside m_before m_marked m_undone m_isLaid m_more m_row m_bestRow m_greenerBy K)) := by
    intro v hv
    subst hv
    refine xgo [] 60 ⟨vp_in_nI (by omega) (by omega), ?_⟩
    rw [e, st_kept]
    refine ⟨vp_in_nI (by omega) (by omega), ?_⟩
    rw [nI_clamp (by omega), st_against]
    refine ⟨vp_in_nI (by omega) (by omega), ?_⟩
    rw [nI_clamp (by omega), st_sum]
    refine ⟨vp_in_nI (by omega) (by omega), ?_⟩
    rw [nI_clamp (by omega), st_sumBy]
    exact ⟨rfl, h⟩
  have a63 : ∀ v, ¬ m_keptBy dd = 26 → v = agV (m_against dd) (m_ahead dd) (m_sum dd) → XWp (xF L xs) none xP225 (XC (xF L xs) xmeths d') Q 63 [orf 169, oi (nI dd), oi v] [] (clsW pn pc tok ship nn tl draft vd log trial sta says seed past marks (mdlX m_thrown m_taped m_size m_place m_begin m_token m_word m_told m_wrong m_code m_toldLines m_given m_fresh m_done m_odd m_bestRank m_leastSpray m_g m_tape m_ship m_manName m_postName m_kind m_greenTold m_hands m_spray m_holds m_sea m_lineFrom m_lineTo m_codes m_opened m_compared m_kept m_keptBy m_ahead m_against m_sum m_sumBy m_term m_termBy m_byNot m_valueOf m_lines m_lineWhat m_lineA m_lineB m_seens m_seenMan m_seenOther m_seenAt m_seenGreener m_s m_aside m_before m_marked m_undone m_isLaid m_more m_row m_bestRow m_greenerBy K)) := by
    intro v hn hv
    subst hv
    refine xgo [80] 60 ⟨vp_in_nI (by omega) (by omega), ?_⟩
    rw [e]
    refine And.intro (fun (q : ¬ m_keptBy dd = 27) => ?_) (fun (q : ¬ ¬ m_keptBy dd = 27) => ?_)
    · exact a80 _ (by rw [kpV, if_neg hn, if_neg q])
    · have q := Classical.not_not.mp q
      refine ⟨vp_in_nI (by omega) (by omega), ?_⟩
      rw [e]
      refine And.intro (fun (q2 : ¬ m_kept dd = 0) => ?_) (fun (q2 : ¬ ¬ m_kept dd = 0) => ?_)
      · exact ⟨nb rfl, a80 1 (by rw [kpV, if_neg hn, if_pos q, b2i_t (Or.inl q2)])⟩
      · refine And.intro (fun (q3 : agV (m_against dd) (m_ahead dd) (m_sum dd) = 0) => ?_) (fun (q3 : ¬ agV (m_against dd) (m_ahead dd) (m_sum dd) = 0) => ?_)
        · exact ⟨nb rfl, a80 0 (by rw [kpV, if_neg hn, if_pos q, b2i_f (fun y => y.elim q2 (fun y => y q3))])⟩
        · exact ⟨nb rfl, a80 1 (by rw [kpV, if_neg hn, if_pos q, b2i_t (Or.inr q3)])⟩
  have a63b : ∀ v, m_keptBy dd = 26 → v = kpV (m_keptBy dd) (m_kept dd) (agV (m_against dd) (m_ahead dd) (m_sum dd)) → XWp (xF L xs) none xP225 (XC (xF L xs) xmeths d') Q 63 [orf 169, oi (nI dd), oi v] [] (clsW pn pc tok ship nn tl draft vd log trial sta says seed past marks (mdlX m_thrown m_taped m_size m_place m_begin m_token m_word m_told m_wrong m_code m_toldLines m_given m_fresh m_done m_odd m_bestRank m_leastSpray m_g m_tape m_ship m_manName m_postName m_kind m_greenTold m_hands m_spray m_holds m_sea m_lineFrom m_lineTo m_codes m_opened m_compared m_kept m_keptBy m_ahead m_against m_sum m_sumBy m_term m_termBy m_byNot m_valueOf m_lines m_lineWhat m_lineA m_lineB m_seens m_seenMan m_seenOther m_seenAt m_seenGreener m_s m_aside m_before m_marked m_undone m_isLaid m_more m_row m_bestRow m_greenerBy K)) := by
    intro v hn hv
    refine xgo [80] 60 ⟨vp_in_nI (by omega) (by omega), ?_⟩
    rw [e]
    refine And.intro (fun (q : ¬ m_keptBy dd = 27) => a80 _ hv) (fun (q : ¬ ¬ m_keptBy dd = 27) => ?_)
    exact absurd (hn.symm.trans (Classical.not_not.mp q)) (by decide)
  have a46 : ∀ v, v = agV (m_against dd) (m_ahead dd) (m_sum dd) → XWp (xF L xs) none xP225 (XC (xF L xs) xmeths d') Q 46 [orf 169, oi (nI dd), oi v] [] (clsW pn pc tok ship nn tl draft vd log trial sta says seed past marks (mdlX m_thrown m_taped m_size m_place m_begin m_token m_word m_told m_wrong m_code m_toldLines m_given m_fresh m_done m_odd m_bestRank m_leastSpray m_g m_tape m_ship m_manName m_postName m_kind m_greenTold m_hands m_spray m_holds m_sea m_lineFrom m_lineTo m_codes m_opened m_compared m_kept m_keptBy m_ahead m_against m_sum m_sumBy m_term m_termBy m_byNot m_valueOf m_lines m_lineWhat m_lineA m_lineB m_seens m_seenMan m_seenOther m_seenAt m_seenGreener m_s m_aside m_before m_marked m_undone m_isLaid m_more m_row m_bestRow m_greenerBy K)) := by
    intro v hv
    subst hv
    refine xgo [63] 60 ⟨vp_in_nI (by omega) (by omega), ?_⟩
    rw [e]
    refine And.intro (fun (q : ¬ m_keptBy dd = 26) => a63 _ q rfl) (fun (q : ¬ ¬ m_keptBy dd = 26) => ?_)
    have q := Classical.not_not.mp q
    refine ⟨vp_in_nI (by omega) (by omega), ?_⟩
    rw [e]
    refine And.intro (fun (q2 : m_kept dd = 0) => ?_) (fun (q2 : ¬ m_kept dd = 0) => ?_)
    · exact ⟨nb rfl, a63b 0 q (by rw [kpV, if_pos q, b2i_f (fun y => y.1 q2)])⟩
    · refine And.intro (fun (q3 : agV (m_against dd) (m_ahead dd) (m_sum dd) = 0) => ?_) (fun (q3 : ¬ agV (m_against dd) (m_ahead dd) (m_sum dd) = 0) => ?_)
      · exact ⟨nb rfl, a63b 0 q (by rw [kpV, if_pos q, b2i_f (fun y => y.2 q3)])⟩
      · exact ⟨nb rfl, a63b 1 q (by rw [kpV, if_pos q, b2i_t ⟨q2, q3⟩])⟩
  have a27 : ∀ v, ¬ m_against dd = 24 → v = m_sum dd → XWp (xF L xs) none xP225 (XC (xF L xs) xmeths d') Q 27 [orf 169, oi (nI dd), oi v] [] (clsW pn pc tok ship nn tl draft vd log trial sta says seed past marks (mdlX m_thrown m_taped m_size m_place m_begin m_token m_word m_told m_wrong m_code m_toldLines m_given m_fresh m_done m_odd m_bestRank m_leastSpray m_g m_tape m_ship m_manName m_postName m_kind m_greenTold m_hands m_spray m_holds m_sea m_lineFrom m_lineTo m_codes m_opened m_compared m_kept m_keptBy m_ahead m_against m_sum m_sumBy m_term m_termBy m_byNot m_valueOf m_lines m_lineWhat m_lineA m_lineB m_seens m_seenMan m_seenOther m_seenAt m_seenGreener m_s m_aside m_before m_marked m_undone m_isLaid m_more m_row m_bestRow m_greenerBy K)) := by
    intro v hn hv
    subst hv
    refine xgo [46] 60 ⟨vp_in_nI (by omega) (by omega), ?_⟩
    rw [e]
    refine And.intro (fun (q : ¬ m_against dd = 25) => a46 _ (by rw [agV, if_neg hn, if_neg q])) (fun (q : ¬ ¬ m_against dd = 25) => ?_)
    have q := Classical.not_not.mp q
    refine ⟨vp_in_nI (by omega) (by omega), vp_in_nI (by omega) (by omega), ?_⟩
    rw [e]
    refine And.intro (fun (q2 : ¬ m_ahead dd = m_sum dd) => ?_) (fun (q2 : ¬ ¬ m_ahead dd = m_sum dd) => ?_)
    · exact ⟨nb rfl, a46 0 (by rw [agV, if_neg hn, if_pos q, b2i_f q2])⟩
    · exact ⟨nb rfl, a46 1 (by rw [agV, if_neg hn, if_pos q, b2i_t (Classical.not_not.mp q2)])⟩
  have a27b : ∀ v, m_against dd = 24 → v = agV (m_against dd) (m_ahead dd) (m_sum dd) → XWp (xF L xs) none xP225 (XC (xF L xs) xmeths d') Q 27 [orf 169, oi (nI dd), oi v] [] (clsW pn pc tok ship nn tl draft vd log trial sta says seed past marks (mdlX m_thrown m_taped m_size m_place m_begin m_token m_word m_told m_wrong m_code m_toldLines m_given m_fresh m_done m_odd m_bestRank m_leastSpray m_g m_tape m_ship m_manName m_postName m_kind m_greenTold m_hands m_spray m_holds m_sea m_lineFrom m_lineTo m_codes m_opened m_compared m_kept m_keptBy m_ahead m_against m_sum m_sumBy m_term m_termBy m_byNot m_valueOf m_lines m_lineWhat m_lineA m_lineB m_seens m_seenMan m_seenOther m_seenAt m_seenGreener m_s m_aside m_before m_marked m_undone m_isLaid m_more m_row m_bestRow m_greenerBy K)) := by
    intro v hn hv
    refine xgo [46] 60 ⟨vp_in_nI (by omega) (by omega), ?_⟩
    rw [e]
    refine And.intro (fun (q : ¬ m_against dd = 25) => a46 _ hv) (fun (q : ¬ ¬ m_against dd = 25) => ?_)
    exact absurd (hn.symm.trans (Classical.not_not.mp q)) (by decide)
  refine xgo [27] 60 ⟨vp_in_nI (by omega) (by omega), nb rfl, vp_in_nI (by omega) (by omega), ?_⟩
  rw [e]
  refine And.intro (fun (q : ¬ m_against dd = 24) => a27 _ q rfl) (fun (q : ¬ ¬ m_against dd = 24) => ?_)
  have q := Classical.not_not.mp q
  refine ⟨vp_in_nI (by omega) (by omega), vp_in_nI (by omega) (by omega), ?_⟩
  rw [e]
  refine And.intro (fun (q2 : m_sum dd ≤ m_ahead dd) => ?_) (fun (q2 : ¬ m_sum dd ≤ m_ahead dd) => ?_)
  · exact ⟨nb rfl, a27b 0 q (by rw [agV, if_pos q, b2i_f (Int32.not_lt.mpr q2)])⟩
  · exact ⟨nb rfl, a27b 1 q (by rw [agV, if_pos q, b2i_t (Int32.not_le.mp q2)])⟩
theorem m_tests {dd : Nat} {x : Int32} (hx : x = nI dd) (hd : dd < 7) (h : ∀ m_kept' m_keptBy' m_ahead' m_against' m_sum' m_sumBy' m_term' m_termBy' m_byNot', wkTests (m_kept, m_keptBy, m_ahead, m_against, m_sum, m_sumBy, m_term, m_termBy, m_byNot) dd = (m_kept', m_keptBy', m_ahead', m_against', m_sum', m_sumBy', m_term', m_termBy', m_byNot') → Q none (clsW pn pc tok ship nn tl draft vd log trial sta says seed past marks (mdlX m_thrown m_taped m_size m_place m_begin m_token m_word m_told m_wrong m_code m_toldLines m_given m_fresh m_done m_odd m_bestRank m_leastSpray m_g m_tape m_ship m_manName m_postName m_kind m_greenTold m_hands m_spray m_holds m_sea m_lineFrom m_lineTo m_codes m_opened m_compared m_kept' m_keptBy' m_ahead' m_against' m_sum' m_sumBy' m_term' m_termBy' m_byNot' m_valueOf m_lines m_lineWhat m_lineA m_lineB m_seens m_seenMan m_seenOther m_seenAt m_seenGreener m_s m_aside m_before m_marked m_undone m_isLaid m_more m_row m_bestRow m_greenerBy K))) : XC (xF L xs) xmeths (d + 2) 225 [.ref 169, .int x] (clsW pn pc tok ship nn tl draft vd log trial sta says seed past marks (mdlX m_thrown m_taped m_size m_place m_begin m_token m_word m_told m_wrong m_code m_toldLines m_given m_fresh m_done m_odd m_bestRank m_leastSpray m_g m_tape m_ship m_manName m_postName m_kind m_greenTold m_hands m_spray m_holds m_sea m_lineFrom m_lineTo m_codes m_opened m_compared m_kept m_keptBy m_ahead m_against m_sum m_sumBy m_term m_termBy m_byNot m_valueOf m_lines m_lineWhat m_lineA m_lineB m_seens m_seenMan m_seenOther m_seenAt m_seenGreener m_s m_aside m_before m_marked m_undone m_isLaid m_more m_row m_bestRow m_greenerBy K)) Q := by
  subst hx
  refine ⟨nb rfl, xgo [3] 60 ⟨rfl, nb rfl, m_sums rfl hd (m_tests3 hd ?_)⟩⟩
  exact h _ _ _ _ _ _ _ _ _ rfl
theorem m_nots {x1 x3 c : Int32} {d' : Nat} : ∀ (dd : Nat) (v : Int32), dd < 7 → XWp (xF L xs) (some .int) xP222 (XC (xF L xs) xmeths d') Q 176 [orf 169, oi x1, oi (nI (wkNots m_byNot dd v).1), oi x3, oi c, oi (wkNots m_byNot dd v).2] [] (clsW pn pc tok ship nn tl draft vd log trial sta says seed past marks (mdlX m_thrown m_taped m_size m_place m_begin m_token m_word m_told m_wrong m_code m_toldLines m_given m_fresh m_done m_odd m_bestRank m_leastSpray m_g m_tape m_ship m_manName m_postName m_kind m_greenTold m_hands m_spray m_holds m_sea m_lineFrom m_lineTo m_codes m_opened m_compared m_kept m_keptBy m_ahead m_against m_sum m_sumBy (upd m_term (wkNots m_byNot dd v).1 (if m_termBy (wkNots m_byNot dd v).1 = 0 then (wkNots m_byNot dd v).2 else m_term (wkNots m_byNot dd v).1 * (wkNots m_byNot dd v).2)) m_termBy m_byNot m_valueOf m_lines m_lineWhat m_lineA m_lineB m_seens m_seenMan m_seenOther m_seenAt m_seenGreener m_s m_aside m_before m_marked m_undone m_isLaid m_more m_row m_bestRow m_greenerBy K)) → XWp (xF L xs) (some .int) xP222 (XC (xF L xs) xmeths d') Q 143 [orf 169, oi x1, oi (nI dd), oi x3, oi c, oi v] [] (clsW pn pc tok ship nn tl draft vd log trial sta says seed past marks (mdlX m_thrown m_taped m_size m_place m_begin m_token m_word m_told m_wrong m_code m_toldLines m_given m_fresh m_done m_odd m_bestRank m_leastSpray m_g m_tape m_ship m_manName m_postName m_kind m_greenTold m_hands m_spray m_holds m_sea m_lineFrom m_lineTo m_codes m_opened m_compared m_kept m_keptBy m_ahead m_against m_sum m_sumBy m_term m_termBy m_byNot m_valueOf m_lines m_lineWhat m_lineA m_lineB m_seens m_seenMan m_seenOther m_seenAt m_seenGreener m_s m_aside m_before m_marked m_undone m_isLaid m_more m_row m_bestRow m_greenerBy K)) := by
  have a159 : ∀ (dd : Nat) (v : Int32), dd < 7 → XWp (xF L xs) (some .int) xP222 (XC (xF L xs) xmeths d') Q 176 [orf 169, oi x1, oi (nI dd), oi x3, oi c, oi v] [] (clsW pn pc tok ship nn tl draft vd log trial sta says seed past marks (mdlX m_thrown m_taped m_size m_place m_begin m_token m_word m_told m_wrong m_code m_toldLines m_given m_fresh m_done m_odd m_bestRank m_leastSpray m_g m_tape m_ship m_manName m_postName m_kind m_greenTold m_hands m_spray m_holds m_sea m_lineFrom m_lineTo m_codes m_opened m_compared m_kept m_keptBy m_ahead m_against m_sum m_sumBy (upd m_term dd (if m_termBy dd = 0 then v else m_term dd * v)) m_termBy m_byNot m_valueOf m_lines m_lineWhat m_lineA m_lineB m_seens m_seenMan m_seenOther m_seenAt m_seenGreener m_s m_aside m_before m_marked m_undone m_isLaid m_more m_row m_bestRow m_greenerBy K)) → XWp (xF L xs) (some .int) xP222 (XC (xF L xs) xmeths d') Q 159 [orf 169, oi x1, oi (nI dd), oi x3, oi c, oi v] [] (clsW pn pc tok ship nn tl draft vd log trial sta says seed past marks (mdlX m_thrown m_taped m_size m_place m_begin m_token m_word m_told m_wrong m_code m_toldLines m_given m_fresh m_done m_odd m_bestRank m_leastSpray m_g m_tape m_ship m_manName m_postName m_kind m_greenTold m_hands m_spray m_holds m_sea m_lineFrom m_lineTo m_codes m_opened m_compared m_kept m_keptBy m_ahead m_against m_sum m_sumBy m_term m_termBy m_byNot m_valueOf m_lines m_lineWhat m_lineA m_lineB m_seens m_seenMan m_seenOther m_seenAt m_seenGreener m_s m_aside m_before m_marked m_undone m_isLaid m_more m_row m_bestRow m_greenerBy K)) := by
    intro dd v hd h
    refine xgo [176] 60 ⟨vp_in_nI (by omega) (by omega), ?_⟩
    rw [nI_clamp (by omega)]
    refine And.intro (fun (q : ¬ m_termBy dd = 0) => ?_) (fun (q : ¬ ¬ m_termBy dd = 0) => ?_)
    · refine ⟨vp_in_nI (by omega) (by omega), vp_in_nI (by omega) (by omega), ?_⟩
      rw [nI_clamp (by omega), st_term]
      rw [if_neg q] at h
      exact h
    · refine ⟨vp_in_nI (by omega) (by omega), ?_⟩
      rw [nI_clamp (by omega), st_term]
      rw [if_pos (Classical.not_not.mp q)] at h
      exact h
  intro dd
  induction dd with
  | zero =>
    intro v hd h
    refine xgo [159] 60 (vT (show nI 0 ≤ 0 by decide) ?_)
    exact a159 0 v hd h
  | succ dd ih =>
    intro v hd h
    rw [wkNots] at h
    refine xgo [159, 143] 60 (vF (show ¬ nI (dd + 1) ≤ 0 from nI_ge (a := 0) (by omega) (by omega)) ⟨vp_in_nI (by omega) (by omega), ?_⟩)
    rw [nI_clamp (by omega)]
    refine And.intro (fun (q : ¬ m_byNot (dd + 1) = 1) => ?_) (fun (q : ¬ ¬ m_byNot (dd + 1) = 1) => ?_)
    · rw [if_neg q] at h
      exact a159 (dd + 1) v hd h
    · rw [if_pos (Classical.not_not.mp q)] at h
      have ih := ih (b2i (v = 0)) (by omega) h
      rw [← pk_m1 dd] at ih
      refine And.intro (fun (q2 : ¬ v = 0) => ?_) (fun (q2 : ¬ ¬ v = 0) => ?_)
      · rw [b2i_f q2] at ih
        exact ⟨nb rfl, ih⟩
      · rw [b2i_t (Classical.not_not.mp q2)] at ih
        exact ⟨nb rfl, ih⟩
theorem m_nots' {x1 x2 x3 c : Int32} {d' dd : Nat} {v : Int32} (e : x2 = nI dd) (hd : dd < 7) (h : XWp (xF L xs) (some .int) xP222 (XC (xF L xs) xmeths d') Q 176 [orf 169, oi x1, oi (nI (wkNots m_byNot dd v).1), oi x3, oi c, oi (wkNots m_byNot dd v).2] [] (clsW pn pc tok ship nn tl draft vd log trial sta says seed past marks (mdlX m_thrown m_taped m_size m_place m_begin m_token m_word m_told m_wrong m_code m_toldLines m_given m_fresh m_done m_odd m_bestRank m_leastSpray m_g m_tape m_ship m_manName m_postName m_kind m_greenTold m_hands m_spray m_holds m_sea m_lineFrom m_lineTo m_codes m_opened m_compared m_kept m_keptBy m_ahead m_against m_sum m_sumBy (upd m_term (wkNots m_byNot dd v).1 (if m_termBy (wkNots m_byNot dd v).1 = 0 then (wkNots m_byNot dd v).2 else m_term (wkNots m_byNot dd v).1 * (wkNots m_byNot dd v).2)) m_termBy m_byNot m_valueOf m_lines m_lineWhat m_lineA m_lineB m_seens m_seenMan m_seenOther m_seenAt m_seenGreener m_s m_aside m_before m_marked m_undone m_isLaid m_more m_row m_bestRow m_greenerBy K))) : XWp (xF L xs) (some .int) xP222 (XC (xF L xs) xmeths d') Q 143 [orf 169, oi x1, oi x2, oi x3, oi c, oi v] [] (clsW pn pc tok ship nn tl draft vd log trial sta says seed past marks (mdlX m_thrown m_taped m_size m_place m_begin m_token m_word m_told m_wrong m_code m_toldLines m_given m_fresh m_done m_odd m_bestRank m_leastSpray m_g m_tape m_ship m_manName m_postName m_kind m_greenTold m_hands m_spray m_holds m_sea m_lineFrom m_lineTo m_codes m_opened m_compared m_kept m_keptBy m_ahead m_against m_sum m_sumBy m_term m_termBy m_byNot m_valueOf m_lines m_lineWhat m_lineA m_lineB m_seens m_seenMan m_seenOther m_seenAt m_seenGreener m_s m_aside m_before m_marked m_undone m_isLaid m_more m_row m_bestRow m_greenerBy K)) := by
  subst e
  exact m_nots dd v hd h
theorem m_worked {f t : Nat} {V : Int32} (hf : m_lineFrom 0 = nI f) (ht : m_lineTo 0 = nI t) (hft : f ≤ t) (ht2 : t ≤ 1000) (ok : ∀ j, j < t - f → wkOk (wkRun m_valueOf m_codes f (m_kept, m_keptBy, m_ahead, m_against, m_sum, m_sumBy, m_term, m_termBy, m_byNot) j).2 (m_codes (f + j))) (hV : wkOut (wkRun m_valueOf m_codes f (m_kept, m_keptBy, m_ahead, m_against, m_sum, m_sumBy, m_term, m_termBy, m_byNot) (t - f)) = V) (h : ∀ m_kept m_keptBy m_ahead m_against m_sum m_sumBy m_term m_termBy m_byNot, Q (some (.int V)) (clsW pn pc tok ship nn tl draft vd log trial sta says seed past marks (mdlX m_thrown m_taped m_size m_place m_begin m_token m_word m_told m_wrong m_code m_toldLines m_given m_fresh m_done m_odd m_bestRank m_leastSpray m_g m_tape m_ship m_manName m_postName m_kind m_greenTold m_hands m_spray m_holds m_sea m_lineFrom m_lineTo m_codes m_opened m_compared m_kept m_keptBy m_ahead m_against m_sum m_sumBy m_term m_termBy m_byNot m_valueOf m_lines m_lineWhat m_lineA m_lineB m_seens m_seenMan m_seenOther m_seenAt m_seenGreener m_s m_aside m_before m_marked m_undone m_isLaid m_more m_row m_bestRow m_greenerBy K))) : XC (xF L xs) xmeths (d + 3) 222 [.ref 169, .int 0] (clsW pn pc tok ship nn tl draft vd log trial sta says seed past marks (mdlX m_thrown m_taped m_size m_place m_begin m_token m_word m_told m_wrong m_code m_toldLines m_given m_fresh m_done m_odd m_bestRank m_leastSpray m_g m_tape m_ship m_manName m_postName m_kind m_greenTold m_hands m_spray m_holds m_sea m_lineFrom m_lineTo m_codes m_opened m_compared m_kept m_keptBy m_ahead m_against m_sum m_sumBy m_term m_termBy m_byNot m_valueOf m_lines m_lineWhat m_lineA m_lineB m_seens m_seenMan m_seenOther m_seenAt m_seenGreener m_s m_aside m_before m_marked m_undone m_isLaid m_more m_row m_bestRow m_greenerBy K)) Q := by
  have key : ∀ (W : TW), W = (m_kept, m_keptBy, m_ahead, m_against, m_sum, m_sumBy, m_term, m_termBy, m_byNot) → ∀ m_kept m_keptBy m_ahead m_against m_sum m_sumBy m_term m_termBy m_byNot, wkOpens W 0 = (m_kept, m_keptBy, m_ahead, m_against, m_sum, m_sumBy, m_term, m_termBy, m_byNot) → XWp (xF L xs) (some .int) xP222 (XC (xF L xs) xmeths (d + 2)) Q 10 [orf 169, oi 0, oi 0, oi (m_lineFrom 0), none, none] [] (clsW pn pc tok ship nn tl draft vd log trial sta says seed past marks (mdlX m_thrown m_taped m_size m_place m_begin m_token m_word m_told m_wrong m_code m_toldLines m_given m_fresh m_done m_odd m_bestRank m_leastSpray m_g m_tape m_ship m_manName m_postName m_kind m_greenTold m_hands m_spray m_holds m_sea m_lineFrom m_lineTo m_codes m_opened m_compared m_kept m_keptBy m_ahead m_against m_sum m_sumBy m_term m_termBy m_byNot m_valueOf m_lines m_lineWhat m_lineA m_lineB m_seens m_seenMan m_seenOther m_seenAt m_seenGreener m_s m_aside m_before m_marked m_undone m_isLaid m_more m_row m_bestRow m_greenerBy K)) := by
    intro W hW m_kept m_keptBy m_ahead m_against m_sum m_sumBy m_term m_termBy m_byNot h0
    rw [← hW] at ok hV
    clear hW
    refine up_to (P := fun j => ∀ m_kept m_keptBy m_ahead m_against m_sum m_sumBy m_term m_termBy m_byNot, ∀ (dd : Nat) (x3 : Int32) (x4 x5 : Option Value), x3 = nI (f + j) → wkRun m_valueOf m_codes f W j = ((m_kept, m_keptBy, m_ahead, m_against, m_sum, m_sumBy, m_term, m_termBy, m_byNot), dd) → XWp (xF L xs) (some .int) xP222 (XC (xF L xs) xmeths (d + 2)) Q 10 [orf 169, oi 0, oi (nI dd), oi x3, x4, x5] [] (clsW pn pc tok ship nn tl draft vd log trial sta says seed past marks (mdlX m_thrown m_taped m_size m_place m_begin m_token m_word m_told m_wrong m_code m_toldLines m_given m_fresh m_done m_odd m_bestRank m_leastSpray m_g m_tape m_ship m_manName m_postName m_kind m_greenTold m_hands m_spray m_holds m_sea m_lineFrom m_lineTo m_codes m_opened m_compared m_kept m_keptBy m_ahead m_against m_sum m_sumBy m_term m_termBy m_byNot m_valueOf m_lines m_lineWhat m_lineA m_lineB m_seens m_seenMan m_seenOther m_seenAt m_seenGreener m_s m_aside m_before m_marked m_undone m_isLaid m_more m_row m_bestRow m_greenerBy K))) (n := t - f) (fun j hj ih m_kept m_keptBy m_ahead m_against m_sum m_sumBy m_term m_termBy m_byNot dd x3 x4 x5 e3 hr => ?_) m_kept m_keptBy m_ahead m_against m_sum m_sumBy m_term m_termBy m_byNot 0 (m_lineFrom 0) none none hf (by rw [wkRun, h0])
    refine xgo [10, 20] 60 ⟨vp_in_nI (n := 0) (by decide) (by decide), ?_⟩
    refine pk_le t (f + j) (fun q => ?_) (fun q => ?_) ht e3 (by omega) (by omega)
    · have e : j = t - f := by omega
      rw [← e, hr] at hV
      refine ⟨rfl, nb rfl, m_tests (dd := 0) rfl (by omega) (fun b1 b2 b3 b4 b5 b6 b7 b8 b9 eb => ⟨vp_in_nI (n := 0) (by decide) (by decide), ?_⟩)⟩
      simp only [wkOut] at hV
      rw [eb] at hV
      have h := h b1 b2 b3 b4 b5 b6 b7 b8 b9
      rw [← hV] at h
      exact h
    · have hjt : j < t - f := by omega
      have ih := ih hjt
      have ok := ok j hjt
      rw [wkRun, hr] at ih
      rw [hr] at ok
      subst e3
      refine ⟨vp_in_nI (by omega) (by omega), ?_⟩
      rw [nI_clamp (by omega)]
      suffices a20 : ∀ c, c = m_codes (f + j) → XWp (xF L xs) (some .int) xP222 (XC (xF L xs) xmeths (d + 2)) Q 20 [orf 169, oi 0, oi (nI dd), oi (nI (f + j)), x4, x5] [.int c] (clsW pn pc tok ship nn tl draft vd log trial sta says seed past marks (mdlX m_thrown m_taped m_size m_place m_begin m_token m_word m_told m_wrong m_code m_toldLines m_given m_fresh m_done m_odd m_bestRank m_leastSpray m_g m_tape m_ship m_manName m_postName m_kind m_greenTold m_hands m_spray m_holds m_sea m_lineFrom m_lineTo m_codes m_opened m_compared m_kept m_keptBy m_ahead m_against m_sum m_sumBy m_term m_termBy m_byNot m_valueOf m_lines m_lineWhat m_lineA m_lineB m_seens m_seenMan m_seenOther m_seenAt m_seenGreener m_s m_aside m_before m_marked m_undone m_isLaid m_more m_row m_bestRow m_greenerBy K)) from a20 _ rfl
      intro c hc
      rw [← hc] at ih ok
      clear hc
      have ⟨o1, o2, o3, o4⟩ := ok
      simp only at o1 o2 o3 ih
      have tail : ∀ (b1 b2 b3 b4 b5 b6 b7 b8 b9 : Fn) (dn : Nat) (x2 : Int32) (x5 : Option Value), x2 = nI dn → wkStep m_valueOf (m_kept, m_keptBy, m_ahead, m_against, m_sum, m_sumBy, m_term, m_termBy, m_byNot) dd c = ((b1, b2, b3, b4, b5, b6, b7, b8, b9), dn) → XWp (xF L xs) (some .int) xP222 (XC (xF L xs) xmeths (d + 2)) Q 176 [orf 169, oi 0, oi x2, oi (nI (f + j)), oi c, x5] [] (clsW pn pc tok ship nn tl draft vd log trial sta says seed past marks (mdlX m_thrown m_taped m_size m_place m_begin m_token m_word m_told m_wrong m_code m_toldLines m_given m_fresh m_done m_odd m_bestRank m_leastSpray m_g m_tape m_ship m_manName m_postName m_kind m_greenTold m_hands m_spray m_holds m_sea m_lineFrom m_lineTo m_codes m_opened m_compared b1 b2 b3 b4 b5 b6 b7 b8 b9 m_valueOf m_lines m_lineWhat m_lineA m_lineB m_seens m_seenMan m_seenOther m_seenAt m_seenGreener m_s m_aside m_before m_marked m_undone m_isLaid m_more m_row m_bestRow m_greenerBy K)) := by
        intro b1 b2 b3 b4 b5 b6 b7 b8 b9 dn x2 x5 e2 hs
        subst e2
        have ih := ih b1 b2 b3 b4 b5 b6 b7 b8 b9 dn (nI (f + j) + 1) (oi c) x5 (by rw [← nI_succ]; rfl) hs
        exact xgo [10] 20 ih
      have e1 : nI dd + Int32.ofInt 1 = nI (dd + 1) := (nI_succ dd).symm
      have a27 : (c = 28 ∨ c = 30) → XWp (xF L xs) (some .int) xP222 (XC (xF L xs) xmeths (d + 2)) Q 27 [orf 169, oi 0, oi (nI dd), oi (nI (f + j)), oi c, x5] [] (clsW pn pc tok ship nn tl draft vd log trial sta says seed past marks (mdlX m_thrown m_taped m_size m_place m_begin m_token m_word m_told m_wrong m_code m_toldLines m_given m_fresh m_done m_odd m_bestRank m_leastSpray m_g m_tape m_ship m_manName m_postName m_kind m_greenTold m_hands m_spray m_holds m_sea m_lineFrom m_lineTo m_codes m_opened m_compared m_kept m_keptBy m_ahead m_against m_sum m_sumBy m_term m_termBy m_byNot m_valueOf m_lines m_lineWhat m_lineA m_lineB m_seens m_seenMan m_seenOther m_seenAt m_seenGreener m_s m_aside m_before m_marked m_undone m_isLaid m_more m_row m_bestRow m_greenerBy K)) := by
        intro hc
        have o2 := o2 hc
        refine xgo [176] 60 ?_
        refine And.intro (fun (q : ¬ c = 30) => ?_) (fun (q : ¬ ¬ c = 30) => ?_)
        · refine ⟨show vp_in (nI dd + Int32.ofInt 1) 7 from e1 ▸ vp_in_nI (by omega) (by omega), ?_⟩
          rw [e1, nI_clamp (by omega), st_byNot]
          refine ⟨rfl, nb rfl, m_opens rfl (by omega) ?_⟩
          exact tail _ _ _ _ _ _ _ _ _ (dd + 1) _ _ rfl (by rw [wkStep, if_pos hc, b2i_f q]; rfl)
        · refine ⟨show vp_in (nI dd + Int32.ofInt 1) 7 from e1 ▸ vp_in_nI (by omega) (by omega), ?_⟩
          rw [e1, nI_clamp (by omega), st_byNot]
          refine ⟨rfl, nb rfl, m_opens rfl (by omega) ?_⟩
          exact tail _ _ _ _ _ _ _ _ _ (dd + 1) _ _ rfl (by rw [wkStep, if_pos hc, b2i_t (Classical.not_not.mp q)]; rfl)
      refine xgo [10, 27, 48, 72, 105, 130, 131, 143, 176] 60 ⟨nb rfl, ?_⟩
      refine And.intro (fun (q1 : c = 28) => a27 (Or.inl q1)) (fun (q1 : ¬ c = 28) => ?_)
      refine And.intro (fun (q2 : ¬ c = 30) => ?_) (fun (q2 : ¬ ¬ c = 30) => a27 (Or.inr (Classical.not_not.mp q2)))
      have g1 : ¬ (c = 28 ∨ c = 30) := fun y => y.elim q1 q2
      have a48 : (c = 20 ∨ c = 21) → XWp (xF L xs) (some .int) xP222 (XC (xF L xs) xmeths (d + 2)) Q 48 [orf 169, oi 0, oi (nI dd), oi (nI (f + j)), oi c, x5] [] (clsW pn pc tok ship nn tl draft vd log trial sta says seed past marks (mdlX m_thrown m_taped m_size m_place m_begin m_token m_word m_told m_wrong m_code m_toldLines m_given m_fresh m_done m_odd m_bestRank m_leastSpray m_g m_tape m_ship m_manName m_postName m_kind m_greenTold m_hands m_spray m_holds m_sea m_lineFrom m_lineTo m_codes m_opened m_compared m_kept m_keptBy m_ahead m_against m_sum m_sumBy m_term m_termBy m_byNot m_valueOf m_lines m_lineWhat m_lineA m_lineB m_seens m_seenMan m_seenOther m_seenAt m_seenGreener m_s m_aside m_before m_marked m_undone m_isLaid m_more m_row m_bestRow m_greenerBy K)) := by
        intro hc
        refine xgo [176] 60 ⟨rfl, nb rfl, m_sums rfl (by omega) ⟨vp_in_nI (by omega) (by omega), ?_⟩⟩
        rw [nI_clamp (by omega), st_sumBy]
        exact tail _ _ _ _ _ _ _ _ _ dd _ _ rfl (by rw [wkStep, if_neg g1, if_pos hc]; rfl)
      refine And.intro (fun (q3 : c = 20) => a48 (Or.inl q3)) (fun (q3 : ¬ c = 20) => ?_)
      refine And.intro (fun (q4 : ¬ c = 21) => ?_) (fun (q4 : ¬ ¬ c = 21) => a48 (Or.inr (Classical.not_not.mp q4)))
      have g2 : ¬ (c = 20 ∨ c = 21) := fun y => y.elim q3 q4
      refine And.intro (fun (q5 : ¬ c = 22) => ?_) (fun (q5 : ¬ ¬ c = 22) => ?_)
      rotate_left
      · refine ⟨vp_in_nI (by omega) (by omega), ?_⟩
        rw [nI_clamp (by omega), st_termBy]
        exact tail _ _ _ _ _ _ _ _ _ dd _ _ rfl (by rw [wkStep, if_neg g1, if_neg g2, if_pos (Classical.not_not.mp q5)]; rfl)
      have a72 : (c = 24 ∨ c = 25) → XWp (xF L xs) (some .int) xP222 (XC (xF L xs) xmeths (d + 2)) Q 72 [orf 169, oi 0, oi (nI dd), oi (nI (f + j)), oi c, x5] [] (clsW pn pc tok ship nn tl draft vd log trial sta says seed past marks (mdlX m_thrown m_taped m_size m_place m_begin m_token m_word m_told m_wrong m_code m_toldLines m_given m_fresh m_done m_odd m_bestRank m_leastSpray m_g m_tape m_ship m_manName m_postName m_kind m_greenTold m_hands m_spray m_holds m_sea m_lineFrom m_lineTo m_codes m_opened m_compared m_kept m_keptBy m_ahead m_against m_sum m_sumBy m_term m_termBy m_byNot m_valueOf m_lines m_lineWhat m_lineA m_lineB m_seens m_seenMan m_seenOther m_seenAt m_seenGreener m_s m_aside m_before m_marked m_undone m_isLaid m_more m_row m_bestRow m_greenerBy K)) := by
        intro hc
        refine xgo [176] 60 ⟨rfl, nb rfl, m_sums rfl (by omega) ⟨vp_in_nI (by omega) (by omega), vp_in_nI (by omega) (by omega), ?_⟩⟩
        rw [nI_clamp (by omega), st_ahead]
        refine ⟨vp_in_nI (by omega) (by omega), ?_⟩
        rw [nI_clamp (by omega), st_against]
        refine ⟨vp_in_nI (by omega) (by omega), ?_⟩
        rw [nI_clamp (by omega), st_sum]
        refine ⟨vp_in_nI (by omega) (by omega), ?_⟩
        rw [nI_clamp (by omega), st_sumBy]
        exact tail _ _ _ _ _ _ _ _ _ dd _ _ rfl (by rw [wkStep, if_neg g1, if_neg g2, if_neg q5, if_pos hc]; rfl)
      refine And.intro (fun (q6 : c = 24) => a72 (Or.inl q6)) (fun (q6 : ¬ c = 24) => ?_)
      refine And.intro (fun (q7 : ¬ c = 25) => ?_) (fun (q7 : ¬ ¬ c = 25) => a72 (Or.inr (Classical.not_not.mp q7)))
      have g3 : ¬ (c = 24 ∨ c = 25) := fun y => y.elim q6 q7
      have a105 : (c = 26 ∨ c = 27) → XWp (xF L xs) (some .int) xP222 (XC (xF L xs) xmeths (d + 2)) Q 105 [orf 169, oi 0, oi (nI dd), oi (nI (f + j)), oi c, x5] [] (clsW pn pc tok ship nn tl draft vd log trial sta says seed past marks (mdlX m_thrown m_taped m_size m_place m_begin m_token m_word m_told m_wrong m_code m_toldLines m_given m_fresh m_done m_odd m_bestRank m_leastSpray m_g m_tape m_ship m_manName m_postName m_kind m_greenTold m_hands m_spray m_holds m_sea m_lineFrom m_lineTo m_codes m_opened m_compared m_kept m_keptBy m_ahead m_against m_sum m_sumBy m_term m_termBy m_byNot m_valueOf m_lines m_lineWhat m_lineA m_lineB m_seens m_seenMan m_seenOther m_seenAt m_seenGreener m_s m_aside m_before m_marked m_undone m_isLaid m_more m_row m_bestRow m_greenerBy K)) := by
        intro hc
        refine xgo [176] 60 ⟨rfl, nb rfl, m_tests rfl (by omega) (fun b1 b2 b3 b4 b5 b6 b7 b8 b9 eb => ⟨vp_in_nI (by omega) (by omega), ?_⟩)⟩
        rw [nI_clamp (by omega), st_keptBy]
        exact tail _ _ _ _ _ _ _ _ _ dd _ _ rfl (by rw [wkStep, if_neg g1, if_neg g2, if_neg q5, if_neg g3, if_pos hc, eb]; rfl)
      refine And.intro (fun (q8 : c = 26) => a105 (Or.inl q8)) (fun (q8 : ¬ c = 26) => ?_)
      refine And.intro (fun (q9 : ¬ c = 27) => ?_) (fun (q9 : ¬ ¬ c = 27) => a105 (Or.inr (Classical.not_not.mp q9)))
      have g4 : ¬ (c = 26 ∨ c = 27) := fun y => y.elim q8 q9
      have a130 : ∀ v, v = (if 100 ≤ c then c - 100 else if c < 20 then m_valueOf c.toNatClampNeg else 0) → XWp (xF L xs) (some .int) xP222 (XC (xF L xs) xmeths (d + 2)) Q 130 [orf 169, oi 0, oi (nI dd), oi (nI (f + j)), oi c, x5] [.int v] (clsW pn pc tok ship nn tl draft vd log trial sta says seed past marks (mdlX m_thrown m_taped m_size m_place m_begin m_token m_word m_told m_wrong m_code m_toldLines m_given m_fresh m_done m_odd m_bestRank m_leastSpray m_g m_tape m_ship m_manName m_postName m_kind m_greenTold m_hands m_spray m_holds m_sea m_lineFrom m_lineTo m_codes m_opened m_compared m_kept m_keptBy m_ahead m_against m_sum m_sumBy m_term m_termBy m_byNot m_valueOf m_lines m_lineWhat m_lineA m_lineB m_seens m_seenMan m_seenOther m_seenAt m_seenGreener m_s m_aside m_before m_marked m_undone m_isLaid m_more m_row m_bestRow m_greenerBy K)) := by
        intro v hv
        refine xgo [143, 176] 60 ⟨nb rfl, ?_⟩
        refine And.intro (fun (q10 : ¬ c = 29) => ?_) (fun (q10 : ¬ ¬ c = 29) => ?_)
        · refine m_nots dd v (by omega) ?_
          refine tail _ _ _ _ _ _ _ _ _ _ _ _ rfl ?_
          rw [wkStep, if_neg g1, if_neg g2, if_neg q5, if_neg g3, if_neg g4, if_neg q10, ← hv]
          rfl
        · have q10 := Classical.not_not.mp q10
          have o3 := o3 q10
          refine ⟨rfl, nb rfl, m_tests rfl (by omega) (fun b1 b2 b3 b4 b5 b6 b7 b8 b9 eb => ⟨vp_in_nI (by omega) (by omega), nb rfl, ?_⟩)⟩
          rw [nI_clamp (by omega)]
          have em : nI dd + Int32.ofInt (-1) = nI (dd - 1) := by
            have := pk_m1 (dd - 1)
            rw [Nat.sub_add_cancel (by omega)] at this
            exact this
          refine m_nots' (v := b1 dd) em (by omega) ?_
          refine tail _ _ _ _ _ _ _ _ _ _ _ _ rfl ?_
          rw [wkStep, if_neg g1, if_neg g2, if_neg q5, if_neg g3, if_neg g4, if_pos q10, eb]
          rfl
      refine And.intro (fun (q10 : c < 100) => ?_) (fun (q10 : ¬ c < 100) => ?_)
      · refine And.intro (fun (q11 : 20 ≤ c) => ?_) (fun (q11 : ¬ 20 ≤ c) => ?_)
        · exact a130 0 (by rw [if_neg (Int32.not_le.mpr q10), if_neg (Int32.not_lt.mpr q11)])
        · have q11 := Int32.not_le.mp q11
          have o4 := o4 q11
          rcases nI_of2 (M := 19) (n := 19) (by decide) (Int32.not_lt.mpr o4) (by
            rw [Int32.lt_iff_toInt_lt] at q11
            rw [Int32.le_iff_toInt_le]
            have e20 : (20 : Int32).toInt = 20 := by decide
            have e19 : (19 : Int32).toInt = 19 := by decide
            omega) with ⟨cc, hcc, ec⟩
          refine ⟨show vp_in c 20 from ec ▸ vp_in_nI (by omega) (by omega), ?_⟩
          exact a130 _ (by rw [if_neg (Int32.not_le.mpr q10), if_pos q11])
      · exact a130 _ (by rw [if_pos (Int32.not_lt.mp q10)]; rfl)
  refine ⟨nb rfl, xgo [10] 20 ⟨nb rfl, rfl, nb rfl, m_opens (dd := 0) rfl (by omega) ⟨vp_in_nI (n := 0) (by decide) (by decide), nb rfl, ?_⟩⟩⟩
  exact key _ rfl _ _ _ _ _ _ _ _ _ rfl
end XMW
