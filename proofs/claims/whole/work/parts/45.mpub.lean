/-! the reference: what is called from outside, first part -/
abbrev UR (u : Fn) (n c : Nat) (H : Nat → TA) : Prop := ∀ i, i < c → RS (fun k => u (14 * i + k)) n (H i)
def hpush (H : Nat → TA) (c : Nat) (A : TA) : Nat → TA := if c = 16 then fun i => if i = 15 then A else H (i + 1) else fun i => if i = c then A else H i
def ccap (c : Nat) : Nat := if c = 16 then 16 else c + 1
theorem RS.ext {s s' : Fn} {n : Nat} {A : TA} (h : RS s n A) (hn : n ≤ 6) (e : ∀ k, k < 14 → s' k = s k) : RS s' n A := ⟨(e 0 (by omega)).trans h.over, (e 1 (by omega)).trans h.sucked, fun k hk => (e (2 + k) (by omega)).trans (h.green k hk), fun k hk => (e (8 + k) (by omega)).trans (h.place k hk), fun k h1 h2 => (e (2 + k) (by omega)).trans (h.green0 k h1 h2)⟩
def prsR (g : Fn) : Nat → Nat
  | 0 => 0
  | w + 1 => prsR g w + cnt (fun o => decide (g w = g o)) w
def manV (s : TShip) (A : TA) (n : Nat) (man what : Int32) : Int32 := if 0 ≤ man ∧ man < nI n then (if what = 0 then s.kind man.toNatClampNeg else if what = 1 then s.hands man.toNatClampNeg else if what = 2 then A.g man.toNatClampNeg else if what = 3 then A.p man.toNatClampNeg else if what = 4 then b2i (A.su.testBit man.toNatClampNeg = true) else if what = 5 then nI (cnt (fun o => decide (A.g man.toNatClampNeg < A.g o)) n) else -2) else -2
def postV (s : TShip) (A : TA) (n p : Nat) (po what : Int32) : Int32 := if 0 ≤ po ∧ po < nI p then (if what = 0 then s.spray po.toNatClampNeg else if what = 1 then s.holds po.toNatClampNeg else if what = 2 then bset (fun o => decide (A.p o = po)) n else -1) else -1
def countV (s : TShip) (A : TA) (n p z li se do_ ta : Nat) (what : Int32) : Int32 := if what = 0 then nI n else if what = 1 then nI p else if what = 2 then s.shade else if what = 3 then s.lemon else if what = 4 then s.harbour else if what = 5 then nI A.t else if what = 6 then s.sea (A.t % z) else if what = 7 then sumF A.g n else if what = 8 then bset (fun o => decide (A.p o = -1)) n else if what = 9 then nI li else if what = 10 then nI se else if what = 11 then nI do_ else if what = 12 then nI ta else -1
theorem pk_ne (a b : Nat) {x y : Int32} {A B : Prop} (f : ¬ a = b → A) (g : a = b → B) (hx : x = nI a) (hy : y = nI b) (ha : a < 2 ^ 31) (hb : b < 2 ^ 31) : (¬ x = y → A) ∧ (¬ ¬ x = y → B) := by
  subst hx hy
  refine ⟨fun q => f (fun e => q (by rw [e])), fun q => g ?_⟩
  exact (nI_eq ha hb).mp (Classical.not_not.mp q)
theorem inN {k n : Nat} (hk : k < n) (hn : n < 2 ^ 31) : 0 ≤ nI k ∧ nI k < nI n := ⟨nI_pos' (by omega), (nI_ltI (by omega) (by omega)).mpr hk⟩
theorem wiN {x : Int32} {m : Nat} (hm : m + 1 < 2 ^ 31) (h : 0 ≤ x ∧ x ≤ nI m) : ∃ j, j ≤ m ∧ x = nI j := by
  rcases pk_ix x (n := m + 1) hm with q | q | ⟨j, hj, e⟩
  · exact absurd q (Int32.not_lt.mpr h.1)
  · exfalso
    have q := Int32.le_trans q h.2
    exact nI_ge (Nat.lt_succ_self m) hm q
  · exact ⟨j, by omega, e⟩
def xcb (c : ClassFile.Cond) (x y : Int32) : Bool := match c with
  | .eq => decide (x = y)
  | .ne => decide (¬ x = y)
  | .lt => decide (x < y)
  | .ge => decide (y ≤ x)
  | .gt => decide (y < x)
  | .le => decide (x ≤ y)
theorem xcb_iff (c : ClassFile.Cond) (x y : Int32) : xcb c x y = true ↔ xcnd c x y := by
  cases c <;> simp only [xcb, xcnd, decide_eq_true_eq]
theorem vTd {c : ClassFile.Cond} {x y : Int32} {A B : Prop} (h : xcb c x y = true) (a : A) : (xcnd c x y → A) ∧ (¬ xcnd c x y → B) := vT ((xcb_iff c x y).mp h) a
theorem vFd {c : ClassFile.Cond} {x y : Int32} {A B : Prop} (h : xcb c x y = false) (b : B) : (xcnd c x y → A) ∧ (¬ xcnd c x y → B) := vF (fun z => by rw [(xcb_iff c x y).mpr z] at h; exact absurd h (by decide)) b
section XMQ
variable {L : Nat} {xs : Nat → Int32} {d : Nat} {Q : XQt} {pn pc : Int32} {tok : TTok} {ship : TShip} {nn : Int64} {tl : Int32} {draft : TShip} {vd : TVoy} {log : TLog} {trial : TCrew} {sta : TSta} {says : Fn} {seed : Int64} {past : Nat → TCrew} {marks : Nat → TLog} {K : XWd}
variable {m_thrown : Int32} {m_taped : Int32} {m_size : Int32} {m_place : Int32} {m_begin : Int32} {m_token : Int32} {m_word : Int64} {m_told : Int32} {m_wrong : Int32} {m_code : Int32} {m_toldLines : Int32} {m_given : Int32} {m_fresh : Int64} {m_done : Int32} {m_odd : Int32} {m_bestRank : Int32} {m_leastSpray : Int32} {m_g : Int64} {m_tape : Fn} {m_ship : Fn} {m_manName : Fl} {m_postName : Fl} {m_kind : Fn} {m_greenTold : Fn} {m_hands : Fn} {m_spray : Fn} {m_holds : Fn} {m_sea : Fn} {m_lineFrom : Fn} {m_lineTo : Fn} {m_codes : Fn} {m_opened : Fn} {m_compared : Fn} {m_kept : Fn} {m_keptBy : Fn} {m_ahead : Fn} {m_against : Fn} {m_sum : Fn} {m_sumBy : Fn} {m_term : Fn} {m_termBy : Fn} {m_byNot : Fn} {m_valueOf : Fn} {m_lines : Fn} {m_lineWhat : Fn} {m_lineA : Fn} {m_lineB : Fn} {m_seens : Fn} {m_seenMan : Fn} {m_seenOther : Fn} {m_seenAt : Fn} {m_seenGreener : Fn} {m_s : Fn} {m_aside : Fn} {m_before : Fn} {m_marked : Fn} {m_undone : Fn} {m_isLaid : Fn} {m_more : Fn} {m_row : Fn} {m_bestRow : Fn} {m_greenerBy : Fl}
variable {n p z c : Nat} {A : TA} {H : Nat → TA}
theorem m_keeps (n6 : n ≤ 6) (hd : m_done = nI c) (hc : c ≤ 16) (ur : UR m_undone n c H) (rs : RS m_s n A) (h : ∀ m_undone, UR m_undone n (ccap c) (hpush H c A) → Q none (clsW pn pc tok ship nn tl draft vd log trial sta says seed past marks (mdlX m_thrown m_taped m_size m_place m_begin m_token m_word m_told m_wrong m_code m_toldLines m_given m_fresh (nI (ccap c)) m_odd m_bestRank m_leastSpray m_g m_tape m_ship m_manName m_postName m_kind m_greenTold m_hands m_spray m_holds m_sea m_lineFrom m_lineTo m_codes m_opened m_compared m_kept m_keptBy m_ahead m_against m_sum m_sumBy m_term m_termBy m_byNot m_valueOf m_lines m_lineWhat m_lineA m_lineB m_seens m_seenMan m_seenOther m_seenAt m_seenGreener m_s m_aside m_before m_marked m_undone m_isLaid m_more m_row m_bestRow m_greenerBy K))) : XC (xF L xs) xmeths (d + 2) 210 [.ref 169] (clsW pn pc tok ship nn tl draft vd log trial sta says seed past marks (mdlX m_thrown m_taped m_size m_place m_begin m_token m_word m_told m_wrong m_code m_toldLines m_given m_fresh m_done m_odd m_bestRank m_leastSpray m_g m_tape m_ship m_manName m_postName m_kind m_greenTold m_hands m_spray m_holds m_sea m_lineFrom m_lineTo m_codes m_opened m_compared m_kept m_keptBy m_ahead m_against m_sum m_sumBy m_term m_termBy m_byNot m_valueOf m_lines m_lineWhat m_lineA m_lineB m_seens m_seenMan m_seenOther m_seenAt m_seenGreener m_s m_aside m_before m_marked m_undone m_isLaid m_more m_row m_bestRow m_greenerBy K)) Q := by
  have a27 : ∀ m_undone m_done x1, ∀ e, e < 16 → m_done = nI e → UR m_undone n e (hpush H c A) → ccap c = e + 1 → hpush H c A e = A → XWp (xF L xs) none xP210 (XC (xF L xs) xmeths (d + 1)) Q 27 [orf 169, x1] [] (clsW pn pc tok ship nn tl draft vd log trial sta says seed past marks (mdlX m_thrown m_taped m_size m_place m_begin m_token m_word m_told m_wrong m_code m_toldLines m_given m_fresh m_done m_odd m_bestRank m_leastSpray m_g m_tape m_ship m_manName m_postName m_kind m_greenTold m_hands m_spray m_holds m_sea m_lineFrom m_lineTo m_codes m_opened m_compared m_kept m_keptBy m_ahead m_against m_sum m_sumBy m_term m_termBy m_byNot m_valueOf m_lines m_lineWhat m_lineA m_lineB m_seens m_seenMan m_seenOther m_seenAt m_seenGreener m_s m_aside m_before m_marked m_undone m_isLaid m_more m_row m_bestRow m_greenerBy K)) := by
    intro m_undone m_done x1 e he hd ur ec ea
    subst hd
    have e14 : Int32.ofInt 14 * nI e = nI (14 * e) := pk_mul 14 e
    refine xgo [42] 40 ⟨rfl, nb rfl, m_copies_204_208 (a := 0) (b := 14 * e) rfl e14 (by omega) (by omega) ?_⟩
    refine xp_done rfl ?_
    have h := h (va_cpy m_s m_undone 0 (14 * e) 14) (by
      rw [ec]
      intro i hi
      by_cases y : i = e
      · subst y
        rw [ea]
        exact RS.cpyTo rs n6
      · refine (ur i (by omega)).ext n6 (fun k hk => ?_)
        show va_cpy m_s m_undone 0 (14 * e) 14 (14 * i + k) = m_undone (14 * i + k)
        simp only [va_cpy]
        rw [if_neg (by omega)])
    rw [ec, nI_succ] at h
    exact xgo [] 10 ⟨rfl, h⟩
  refine ⟨nb rfl, xgo [6, 26, 27] 20 ?_⟩
  refine pk_ne c 16 (fun q => ?_) (fun q => ?_) hd rfl (by omega) (by omega)
  · refine a27 m_undone m_done none c (by omega) hd ?_ (by rw [ccap, if_neg q]) (by rw [hpush, if_neg q, if_pos rfl])
    intro i hi
    rw [hpush, if_neg q, if_neg (by omega)]
    exact ur i hi
  · refine ⟨nb rfl, ?_⟩
    have start := up_to (P := fun j => XWp (xF L xs) none xP210 (XC (xF L xs) xmeths (d + 1)) Q 6 [orf 169, oi (nI j)] [] (clsW pn pc tok ship nn tl draft vd log trial sta says seed past marks (mdlX m_thrown m_taped m_size m_place m_begin m_token m_word m_told m_wrong m_code m_toldLines m_given m_fresh m_done m_odd m_bestRank m_leastSpray m_g m_tape m_ship m_manName m_postName m_kind m_greenTold m_hands m_spray m_holds m_sea m_lineFrom m_lineTo m_codes m_opened m_compared m_kept m_keptBy m_ahead m_against m_sum m_sumBy m_term m_termBy m_byNot m_valueOf m_lines m_lineWhat m_lineA m_lineB m_seens m_seenMan m_seenOther m_seenAt m_seenGreener m_s m_aside m_before m_marked (va_cpy m_undone m_undone 14 0 j) m_isLaid m_more m_row m_bestRow m_greenerBy K))) (n := 210) (fun j hj ih => xgo [6, 26] 40 ?_)
    · rw [cpy_zero] at start
      exact start
    refine pk_le 210 j (fun q2 => ?_) (fun q2 => ?_) rfl rfl (by omega) (by omega)
    · have e : j = 210 := by omega
      subst e
      refine xp_done rfl ?_
      subst q
      refine a27 _ _ _ 15 (by omega) (by rw [hd]; exact pk_sub (a := 16) (b := 1) (by omega)) ?_ rfl rfl
      intro i hi
      rw [hpush, if_pos rfl, if_neg (by omega)]
      refine (ur (i + 1) (by omega)).ext n6 (fun k hk => ?_)
      show va_cpy m_undone m_undone 14 0 210 (14 * i + k) = m_undone (14 * (i + 1) + k)
      rw [pk_cpy_in (by omega) (by omega)]
      congr 1
      omega
    · have ih := ih q2
      have e1 : nI j + Int32.ofInt 14 = nI (j + 14) := nI_add j 14
      refine ⟨show vp_in (nI j + Int32.ofInt 14) 224 from e1 ▸ vp_in_nI (by omega) (by omega), vp_in_nI (by omega) (by omega), ?_⟩
      rw [e1, nI_clamp (by omega), nI_clamp (by omega), st_undone]
      have er : va_cpy m_undone m_undone 14 0 j (j + 14) = m_undone (14 + j) := by
        simp only [va_cpy]
        rw [if_neg (by omega)]
        congr 1
        omega
      rw [cpy_succ, Nat.zero_add, ← er, nI_succ] at ih
      exact ih
theorem m_captain (n6 : n ≤ 6) (hm : m_ship 0 = nI n) (rs : RS m_s n A) (h : Q (some (.int (capt A.g n))) (clsW pn pc tok ship nn tl draft vd log trial sta says seed past marks (mdlX 0 m_taped m_size m_place m_begin m_token m_word m_told m_wrong m_code m_toldLines m_given m_fresh m_done m_odd m_bestRank m_leastSpray m_g m_tape m_ship m_manName m_postName m_kind m_greenTold m_hands m_spray m_holds m_sea m_lineFrom m_lineTo m_codes m_opened m_compared m_kept m_keptBy m_ahead m_against m_sum m_sumBy m_term m_termBy m_byNot m_valueOf m_lines m_lineWhat m_lineA m_lineB m_seens m_seenMan m_seenOther m_seenAt m_seenGreener m_s m_aside m_before m_marked m_undone m_isLaid m_more m_row m_bestRow m_greenerBy K))) : XC (xF L xs) xmeths (d + 2) 235 [.ref 169] (clsW pn pc tok ship nn tl draft vd log trial sta says seed past marks (mdlX m_thrown m_taped m_size m_place m_begin m_token m_word m_told m_wrong m_code m_toldLines m_given m_fresh m_done m_odd m_bestRank m_leastSpray m_g m_tape m_ship m_manName m_postName m_kind m_greenTold m_hands m_spray m_holds m_sea m_lineFrom m_lineTo m_codes m_opened m_compared m_kept m_keptBy m_ahead m_against m_sum m_sumBy m_term m_termBy m_byNot m_valueOf m_lines m_lineWhat m_lineA m_lineB m_seens m_seenMan m_seenOther m_seenAt m_seenGreener m_s m_aside m_before m_marked m_undone m_isLaid m_more m_row m_bestRow m_greenerBy K)) Q :=
  ⟨nb rfl, xgo [2] 20 (xp_thrown rfl (xgo [] 20 ⟨rfl, nb rfl, m_captainNow n6 hm rs h⟩))⟩
theorem m_stand {man post : Int32} (so : ShOk ship n p z) (ms : MS ship n p z m_ship m_kind m_greenTold m_hands m_spray m_holds m_sea m_lineFrom m_lineTo m_codes m_manName m_postName) (rs : RS m_s n A) (hd : m_done = nI c) (hc : c ≤ 16) (ur : UR m_undone n c H) (h1 : ∀ k b, k < n → b < p → man = nI k → post = nI b → stP ship A.p n k b → ∀ m_s m_undone, UR m_undone n (ccap c) (hpush H c A) → RS m_s n (A.g, upd A.p k (nI b), A.su, A.t) → Q (some (.int 1)) (clsW pn pc tok ship nn tl draft vd log trial sta says seed past marks (mdlX 0 m_taped m_size m_place m_begin m_token m_word m_told m_wrong m_code m_toldLines m_given m_fresh (nI (ccap c)) m_odd m_bestRank m_leastSpray m_g m_tape m_ship m_manName m_postName m_kind m_greenTold m_hands m_spray m_holds m_sea m_lineFrom m_lineTo m_codes m_opened m_compared m_kept m_keptBy m_ahead m_against m_sum m_sumBy m_term m_termBy m_byNot m_valueOf m_lines m_lineWhat m_lineA m_lineB m_seens m_seenMan m_seenOther m_seenAt m_seenGreener m_s m_aside m_before m_marked m_undone m_isLaid m_more m_row m_bestRow m_greenerBy K))) (h0 : (∀ k b, k < n → b < p → man = nI k → post = nI b → ¬ stP ship A.p n k b) → Q (some (.int 0)) (clsW pn pc tok ship nn tl draft vd log trial sta says seed past marks (mdlX 0 m_taped m_size m_place m_begin m_token m_word m_told m_wrong m_code m_toldLines m_given m_fresh m_done m_odd m_bestRank m_leastSpray m_g m_tape m_ship m_manName m_postName m_kind m_greenTold m_hands m_spray m_holds m_sea m_lineFrom m_lineTo m_codes m_opened m_compared m_kept m_keptBy m_ahead m_against m_sum m_sumBy m_term m_termBy m_byNot m_valueOf m_lines m_lineWhat m_lineA m_lineB m_seens m_seenMan m_seenOther m_seenAt m_seenGreener m_s m_aside m_before m_marked m_undone m_isLaid m_more m_row m_bestRow m_greenerBy K))) : XC (xF L xs) xmeths (d + 3) 208 [.ref 169, .int man, .int post] (clsW pn pc tok ship nn tl draft vd log trial sta says seed past marks (mdlX m_thrown m_taped m_size m_place m_begin m_token m_word m_told m_wrong m_code m_toldLines m_given m_fresh m_done m_odd m_bestRank m_leastSpray m_g m_tape m_ship m_manName m_postName m_kind m_greenTold m_hands m_spray m_holds m_sea m_lineFrom m_lineTo m_codes m_opened m_compared m_kept m_keptBy m_ahead m_against m_sum m_sumBy m_term m_termBy m_byNot m_valueOf m_lines m_lineWhat m_lineA m_lineB m_seens m_seenMan m_seenOther m_seenAt m_seenGreener m_s m_aside m_before m_marked m_undone m_isLaid m_more m_row m_bestRow m_greenerBy K)) Q := by
  have n6 := so.n6
  have p4 := so.p4
  have a16 : (∀ k b, k < n → b < p → man = nI k → post = nI b → ¬ stP ship A.p n k b) → XWp (xF L xs) (some .boolean) xP208 (XC (xF L xs) xmeths (d + 2)) Q 16 [orf 169, oi man, oi post] [] (clsW pn pc tok ship nn tl draft vd log trial sta says seed past marks (mdlX 0 m_taped m_size m_place m_begin m_token m_word m_told m_wrong m_code m_toldLines m_given m_fresh m_done m_odd m_bestRank m_leastSpray m_g m_tape m_ship m_manName m_postName m_kind m_greenTold m_hands m_spray m_holds m_sea m_lineFrom m_lineTo m_codes m_opened m_compared m_kept m_keptBy m_ahead m_against m_sum m_sumBy m_term m_termBy m_byNot m_valueOf m_lines m_lineWhat m_lineA m_lineB m_seens m_seenMan m_seenOther m_seenAt m_seenGreener m_s m_aside m_before m_marked m_undone m_isLaid m_more m_row m_bestRow m_greenerBy K)) := fun q => xgo [] 10 ⟨rfl, h0 q⟩
  refine ⟨nb rfl, xgo [2] 20 (xp_thrown rfl (xgo [16] 60 ⟨rfl, nb rfl, m_isMan ms.men ?_⟩))⟩
  refine vB0 (fun q => a16 (fun k b hk hb e1 e2 => absurd (e1 ▸ inN hk (by omega)) q)) (fun q => ?_)
  rcases inI (by omega) q with ⟨k, hk, rfl⟩
  refine ⟨rfl, nb rfl, m_isPost ms.posts ?_⟩
  refine vB0 (fun q => a16 (fun k b hk hb e1 e2 => absurd (e2 ▸ inN hb (by omega)) q)) (fun q => ?_)
  rcases inI (by omega) q with ⟨b, hb, rfl⟩
  refine ⟨rfl, nb rfl, m_canStand n6 ms.men rs hk (by omega) (ms.holds b hb) ?_⟩
  refine vB1 (fun q => ?_) (fun q => a16 (fun k' b' hk' hb' e1 e2 => ?_))
  · refine ⟨rfl, nb rfl, m_keeps n6 hd hc ur rs (fun m_undone ur => ?_)⟩
    refine ⟨show vp_in (Int32.ofInt 8 + nI k) 14 from i8 k ▸ vp_in_nI (by omega) (by omega), ?_⟩
    rw [i8, nI_clamp (by omega), st_s]
    exact ⟨rfl, h1 k b hk hb rfl rfl q _ _ ur (RS.setP rs hk n6 rfl)⟩
  · have e1 := (nI_eq (by omega) (by omega)).mp e1
    have e2 := (nI_eq (by omega) (by omega)).mp e2
    subst e1 e2
    exact q
theorem m_below {man : Int32} (so : ShOk ship n p z) (ms : MS ship n p z m_ship m_kind m_greenTold m_hands m_spray m_holds m_sea m_lineFrom m_lineTo m_codes m_manName m_postName) (rs : RS m_s n A) (hd : m_done = nI c) (hc : c ≤ 16) (ur : UR m_undone n c H) (h1 : ∀ k, k < n → man = nI k → ¬ A.p k = -1 → ∀ m_s m_undone, UR m_undone n (ccap c) (hpush H c A) → RS m_s n (A.g, upd A.p k (-1), A.su, A.t) → Q (some (.int 1)) (clsW pn pc tok ship nn tl draft vd log trial sta says seed past marks (mdlX 0 m_taped m_size m_place m_begin m_token m_word m_told m_wrong m_code m_toldLines m_given m_fresh (nI (ccap c)) m_odd m_bestRank m_leastSpray m_g m_tape m_ship m_manName m_postName m_kind m_greenTold m_hands m_spray m_holds m_sea m_lineFrom m_lineTo m_codes m_opened m_compared m_kept m_keptBy m_ahead m_against m_sum m_sumBy m_term m_termBy m_byNot m_valueOf m_lines m_lineWhat m_lineA m_lineB m_seens m_seenMan m_seenOther m_seenAt m_seenGreener m_s m_aside m_before m_marked m_undone m_isLaid m_more m_row m_bestRow m_greenerBy K))) (h0 : (∀ k, k < n → man = nI k → A.p k = -1) → Q (some (.int 0)) (clsW pn pc tok ship nn tl draft vd log trial sta says seed past marks (mdlX 0 m_taped m_size m_place m_begin m_token m_word m_told m_wrong m_code m_toldLines m_given m_fresh m_done m_odd m_bestRank m_leastSpray m_g m_tape m_ship m_manName m_postName m_kind m_greenTold m_hands m_spray m_holds m_sea m_lineFrom m_lineTo m_codes m_opened m_compared m_kept m_keptBy m_ahead m_against m_sum m_sumBy m_term m_termBy m_byNot m_valueOf m_lines m_lineWhat m_lineA m_lineB m_seens m_seenMan m_seenOther m_seenAt m_seenGreener m_s m_aside m_before m_marked m_undone m_isLaid m_more m_row m_bestRow m_greenerBy K))) : XC (xF L xs) xmeths (d + 3) 212 [.ref 169, .int man] (clsW pn pc tok ship nn tl draft vd log trial sta says seed past marks (mdlX m_thrown m_taped m_size m_place m_begin m_token m_word m_told m_wrong m_code m_toldLines m_given m_fresh m_done m_odd m_bestRank m_leastSpray m_g m_tape m_ship m_manName m_postName m_kind m_greenTold m_hands m_spray m_holds m_sea m_lineFrom m_lineTo m_codes m_opened m_compared m_kept m_keptBy m_ahead m_against m_sum m_sumBy m_term m_termBy m_byNot m_valueOf m_lines m_lineWhat m_lineA m_lineB m_seens m_seenMan m_seenOther m_seenAt m_seenGreener m_s m_aside m_before m_marked m_undone m_isLaid m_more m_row m_bestRow m_greenerBy K)) Q := by
  have n6 := so.n6
  have a14 : (∀ k, k < n → man = nI k → A.p k = -1) → XWp (xF L xs) (some .boolean) xP212 (XC (xF L xs) xmeths (d + 2)) Q 14 [orf 169, oi man] [] (clsW pn pc tok ship nn tl draft vd log trial sta says seed past marks (mdlX 0 m_taped m_size m_place m_begin m_token m_word m_told m_wrong m_code m_toldLines m_given m_fresh m_done m_odd m_bestRank m_leastSpray m_g m_tape m_ship m_manName m_postName m_kind m_greenTold m_hands m_spray m_holds m_sea m_lineFrom m_lineTo m_codes m_opened m_compared m_kept m_keptBy m_ahead m_against m_sum m_sumBy m_term m_termBy m_byNot m_valueOf m_lines m_lineWhat m_lineA m_lineB m_seens m_seenMan m_seenOther m_seenAt m_seenGreener m_s m_aside m_before m_marked m_undone m_isLaid m_more m_row m_bestRow m_greenerBy K)) := fun q => xgo [] 10 ⟨rfl, h0 q⟩
  refine ⟨nb rfl, xgo [2] 20 (xp_thrown rfl (xgo [14] 60 ⟨rfl, nb rfl, m_isMan ms.men ?_⟩))⟩
  refine vB0 (fun q => a14 (fun k hk e1 => absurd (e1 ▸ inN hk (by omega)) q)) (fun q => ?_)
  rcases inI (by omega) q with ⟨k, hk, rfl⟩
  refine ⟨show vp_in (Int32.ofInt 8 + nI k) 14 from i8 k ▸ vp_in_nI (by omega) (by omega), ?_⟩
  rw [i8, nI_clamp (by omega)]
  refine And.intro (fun (q2 : ¬ m_s (8 + k) = 0) => ?_) (fun (q2 : ¬ ¬ m_s (8 + k) = 0) => ?_)
  · refine ⟨rfl, nb rfl, m_keeps n6 hd hc ur rs (fun m_undone ur => ?_)⟩
    refine ⟨show vp_in (Int32.ofInt 8 + nI k) 14 from i8 k ▸ vp_in_nI (by omega) (by omega), ?_⟩
    rw [i8, nI_clamp (by omega), st_s]
    refine ⟨rfl, h1 k hk rfl (fun y => q2 ?_) _ _ ur (RS.setP rs hk n6 (by decide))⟩
    rw [rs.place k hk, y]
    decide
  · refine a14 (fun k' hk' e1 => ?_)
    have e1 := (nI_eq (by omega) (by omega)).mp e1
    subst e1
    have q2 := Classical.not_not.mp q2
    rw [rs.place k hk] at q2
    exact (Int32.add_left_inj 1).mp (q2.trans (by decide))
theorem m_suck {man : Int32} (so : ShOk ship n p z) (ms : MS ship n p z m_ship m_kind m_greenTold m_hands m_spray m_holds m_sea m_lineFrom m_lineTo m_codes m_manName m_postName) (rs : RS m_s n A) (hsu : A.su < 64) (hd : m_done = nI c) (hc : c ≤ 16) (ur : UR m_undone n c H) (h1 : ∀ k, k < n → man = nI k → ¬ A.su.testBit k = true → ∀ m_s m_undone, UR m_undone n (ccap c) (hpush H c A) → RS m_s n (upd A.g k (mx 0 (A.g k - ship.lemon)), A.p, A.su ||| 2 ^ k, A.t) → Q (some (.int (mx 0 (A.g k - ship.lemon)))) (clsW pn pc tok ship nn tl draft vd log trial sta says seed past marks (mdlX 0 m_taped m_size m_place m_begin m_token m_word m_told m_wrong m_code m_toldLines m_given m_fresh (nI (ccap c)) m_odd m_bestRank m_leastSpray m_g m_tape m_ship m_manName m_postName m_kind m_greenTold m_hands m_spray m_holds m_sea m_lineFrom m_lineTo m_codes m_opened m_compared m_kept m_keptBy m_ahead m_against m_sum m_sumBy m_term m_termBy m_byNot m_valueOf m_lines m_lineWhat m_lineA m_lineB m_seens m_seenMan m_seenOther m_seenAt m_seenGreener m_s m_aside m_before m_marked m_undone m_isLaid m_more m_row m_bestRow m_greenerBy K))) (h0 : (∀ k, k < n → man = nI k → A.su.testBit k = true) → Q (some (.int (-1))) (clsW pn pc tok ship nn tl draft vd log trial sta says seed past marks (mdlX 0 m_taped m_size m_place m_begin m_token m_word m_told m_wrong m_code m_toldLines m_given m_fresh m_done m_odd m_bestRank m_leastSpray m_g m_tape m_ship m_manName m_postName m_kind m_greenTold m_hands m_spray m_holds m_sea m_lineFrom m_lineTo m_codes m_opened m_compared m_kept m_keptBy m_ahead m_against m_sum m_sumBy m_term m_termBy m_byNot m_valueOf m_lines m_lineWhat m_lineA m_lineB m_seens m_seenMan m_seenOther m_seenAt m_seenGreener m_s m_aside m_before m_marked m_undone m_isLaid m_more m_row m_bestRow m_greenerBy K))) : XC (xF L xs) xmeths (d + 3) 213 [.ref 169, .int man] (clsW pn pc tok ship nn tl draft vd log trial sta says seed past marks (mdlX m_thrown m_taped m_size m_place m_begin m_token m_word m_told m_wrong m_code m_toldLines m_given m_fresh m_done m_odd m_bestRank m_leastSpray m_g m_tape m_ship m_manName m_postName m_kind m_greenTold m_hands m_spray m_holds m_sea m_lineFrom m_lineTo m_codes m_opened m_compared m_kept m_keptBy m_ahead m_against m_sum m_sumBy m_term m_termBy m_byNot m_valueOf m_lines m_lineWhat m_lineA m_lineB m_seens m_seenMan m_seenOther m_seenAt m_seenGreener m_s m_aside m_before m_marked m_undone m_isLaid m_more m_row m_bestRow m_greenerBy K)) Q := by
  have n6 := so.n6
  have a11 : (∀ k, k < n → man = nI k → A.su.testBit k = true) → XWp (xF L xs) (some .int) xP213 (XC (xF L xs) xmeths (d + 2)) Q 11 [orf 169, oi man] [] (clsW pn pc tok ship nn tl draft vd log trial sta says seed past marks (mdlX 0 m_taped m_size m_place m_begin m_token m_word m_told m_wrong m_code m_toldLines m_given m_fresh m_done m_odd m_bestRank m_leastSpray m_g m_tape m_ship m_manName m_postName m_kind m_greenTold m_hands m_spray m_holds m_sea m_lineFrom m_lineTo m_codes m_opened m_compared m_kept m_keptBy m_ahead m_against m_sum m_sumBy m_term m_termBy m_byNot m_valueOf m_lines m_lineWhat m_lineA m_lineB m_seens m_seenMan m_seenOther m_seenAt m_seenGreener m_s m_aside m_before m_marked m_undone m_isLaid m_more m_row m_bestRow m_greenerBy K)) := fun q => xgo [] 10 (h0 q)
  refine ⟨nb rfl, xgo [2] 20 (xp_thrown rfl (xgo [11] 60 ⟨rfl, nb rfl, m_isMan ms.men ?_⟩))⟩
  refine vB0 (fun q => a11 (fun k hk e1 => absurd (e1 ▸ inN hk (by omega)) q)) (fun q => ?_)
  rcases inI (by omega) q with ⟨k, hk, rfl⟩
  refine ⟨rfl, nb rfl, m_hasSucked (by omega) rs hsu ?_⟩
  refine vB0 (fun q => ?_) (fun q => a11 (fun k' hk' e1 => ?_))
  · refine ⟨rfl, nb rfl, m_keeps n6 hd hc ur rs (fun m_undone ur => ?_)⟩
    refine ⟨rfl, nb rfl, m_sucks n6 rs hk ms.lemon (fun m_s rs => ?_)⟩
    refine ⟨show vp_in (Int32.ofInt 2 + nI k) 14 from i2 k ▸ vp_in_nI (by omega) (by omega), ?_⟩
    rw [i2, nI_clamp (by omega)]
    have h := h1 k hk rfl q m_s m_undone ur rs
    have e : m_s (2 + k) = mx 0 (A.g k - ship.lemon) := (rs.green k hk).trans pk_us
    rw [← e] at h
    exact h
  · have e1 := (nI_eq (by omega) (by omega)).mp e1
    subst e1
    exact q
theorem m_fall {man : Int32} (so : ShOk ship n p z) (ms : MS ship n p z m_ship m_kind m_greenTold m_hands m_spray m_holds m_sea m_lineFrom m_lineTo m_codes m_manName m_postName) (rs : RS m_s n A) (gp : GP A.g A.p n p) (hd : m_done = nI c) (hc : c ≤ 16) (ur : UR m_undone n c H) (h1 : ∀ k, k < n → man = nI k → ∀ m_s m_undone, UR m_undone n (ccap c) (hpush H c A) → RS m_s n (fallG A.g ship.shade n k, A.p, A.su, A.t) → Q (some (.int (fallG A.g ship.shade n k k))) (clsW pn pc tok ship nn tl draft vd log trial sta says seed past marks (mdlX 0 m_taped m_size m_place m_begin m_token m_word m_told m_wrong m_code m_toldLines m_given m_fresh (nI (ccap c)) m_odd m_bestRank m_leastSpray m_g m_tape m_ship m_manName m_postName m_kind m_greenTold m_hands m_spray m_holds m_sea m_lineFrom m_lineTo m_codes m_opened m_compared m_kept m_keptBy m_ahead m_against m_sum m_sumBy m_term m_termBy m_byNot m_valueOf m_lines m_lineWhat m_lineA m_lineB m_seens m_seenMan m_seenOther m_seenAt m_seenGreener m_s m_aside m_before m_marked m_undone m_isLaid m_more m_row m_bestRow m_greenerBy K))) (h0 : ¬ (0 ≤ man ∧ man < nI n) → Q (some (.int (-1))) (clsW pn pc tok ship nn tl draft vd log trial sta says seed past marks (mdlX 0 m_taped m_size m_place m_begin m_token m_word m_told m_wrong m_code m_toldLines m_given m_fresh m_done m_odd m_bestRank m_leastSpray m_g m_tape m_ship m_manName m_postName m_kind m_greenTold m_hands m_spray m_holds m_sea m_lineFrom m_lineTo m_codes m_opened m_compared m_kept m_keptBy m_ahead m_against m_sum m_sumBy m_term m_termBy m_byNot m_valueOf m_lines m_lineWhat m_lineA m_lineB m_seens m_seenMan m_seenOther m_seenAt m_seenGreener m_s m_aside m_before m_marked m_undone m_isLaid m_more m_row m_bestRow m_greenerBy K))) : XC (xF L xs) xmeths (d + 3) 216 [.ref 169, .int man] (clsW pn pc tok ship nn tl draft vd log trial sta says seed past marks (mdlX m_thrown m_taped m_size m_place m_begin m_token m_word m_told m_wrong m_code m_toldLines m_given m_fresh m_done m_odd m_bestRank m_leastSpray m_g m_tape m_ship m_manName m_postName m_kind m_greenTold m_hands m_spray m_holds m_sea m_lineFrom m_lineTo m_codes m_opened m_compared m_kept m_keptBy m_ahead m_against m_sum m_sumBy m_term m_termBy m_byNot m_valueOf m_lines m_lineWhat m_lineA m_lineB m_seens m_seenMan m_seenOther m_seenAt m_seenGreener m_s m_aside m_before m_marked m_undone m_isLaid m_more m_row m_bestRow m_greenerBy K)) Q := by
  have n6 := so.n6
  refine ⟨nb rfl, xgo [2] 20 (xp_thrown rfl (xgo [] 60 ⟨rfl, nb rfl, m_isMan ms.men ?_⟩))⟩
  refine vB1 (fun q => ?_) (fun q => h0 q)
  rcases inI (by omega) q with ⟨k, hk, rfl⟩
  refine ⟨rfl, nb rfl, m_keeps n6 hd hc ur rs (fun m_undone ur => ?_)⟩
  refine ⟨rfl, nb rfl, m_falls n6 ms.men rs gp hk ms.shade (fun m_s rs => ?_)⟩
  refine ⟨show vp_in (Int32.ofInt 2 + nI k) 14 from i2 k ▸ vp_in_nI (by omega) (by omega), ?_⟩
  rw [i2, nI_clamp (by omega)]
  have h := h1 k hk rfl m_s m_undone ur rs
  rw [← show m_s (2 + k) = fallG A.g ship.shade n k k from rs.green k hk] at h
  exact h
theorem m_watch (so : ShOk ship n p z) (ms : MS ship n p z m_ship m_kind m_greenTold m_hands m_spray m_holds m_sea m_lineFrom m_lineTo m_codes m_manName m_postName) (rs : RS m_s n A) (gp : GP A.g A.p n p) (ht : A.t < 2 ^ 31) (ho : m_odd = -1) (hd : m_done = nI c) (hc : c ≤ 16) (ur : UR m_undone n c H) (h : ∀ m_s m_undone m_kept m_keptBy m_ahead m_against m_sum m_sumBy m_term m_termBy m_byNot m_valueOf m_more, UR m_undone n (ccap c) (hpush H c A) → RS m_s n (newG ship A.g A.p (ship.sea (A.t % z)) n, A.p, A.su, A.t + 1) → Q (some (.int (nI (A.t + 1)))) (clsW pn pc tok ship nn tl draft vd log trial sta says seed past marks (mdlX 0 m_taped m_size m_place m_begin m_token m_word m_told m_wrong m_code m_toldLines m_given m_fresh (nI (ccap c)) m_odd m_bestRank m_leastSpray m_g m_tape m_ship m_manName m_postName m_kind m_greenTold m_hands m_spray m_holds m_sea m_lineFrom m_lineTo m_codes m_opened m_compared m_kept m_keptBy m_ahead m_against m_sum m_sumBy m_term m_termBy m_byNot m_valueOf m_lines m_lineWhat m_lineA m_lineB m_seens m_seenMan m_seenOther m_seenAt m_seenGreener m_s m_aside m_before m_marked m_undone m_isLaid m_more m_row m_bestRow m_greenerBy K))) : XC (xF L xs) xmeths (d + 6) 218 [.ref 169] (clsW pn pc tok ship nn tl draft vd log trial sta says seed past marks (mdlX m_thrown m_taped m_size m_place m_begin m_token m_word m_told m_wrong m_code m_toldLines m_given m_fresh m_done m_odd m_bestRank m_leastSpray m_g m_tape m_ship m_manName m_postName m_kind m_greenTold m_hands m_spray m_holds m_sea m_lineFrom m_lineTo m_codes m_opened m_compared m_kept m_keptBy m_ahead m_against m_sum m_sumBy m_term m_termBy m_byNot m_valueOf m_lines m_lineWhat m_lineA m_lineB m_seens m_seenMan m_seenOther m_seenAt m_seenGreener m_s m_aside m_before m_marked m_undone m_isLaid m_more m_row m_bestRow m_greenerBy K)) Q := by
  refine ⟨nb rfl, xgo [2] 20 (xp_thrown rfl (xgo [] 60 ⟨rfl, nb rfl, m_keeps so.n6 hd hc ur rs (fun m_undone ur => ?_)⟩))⟩
  refine ⟨rfl, nb rfl, m_passesWatch so ms rs gp ht (Or.inl ⟨ho, rfl⟩) (so.sea _ (Nat.mod_lt _ so.z1)) (fun m_s m_kept m_keptBy m_ahead m_against m_sum m_sumBy m_term m_termBy m_byNot m_valueOf m_more rs => ?_)⟩
  refine ⟨vp_in_nI (n := 0) (by decide) (by decide), ?_⟩
  have h := h m_s m_undone m_kept m_keptBy m_ahead m_against m_sum m_sumBy m_term m_termBy m_byNot m_valueOf m_more ur rs
  rw [← rs.over] at h
  exact h
theorem m_dock (so : ShOk ship n p z) (ms : MS ship n p z m_ship m_kind m_greenTold m_hands m_spray m_holds m_sea m_lineFrom m_lineTo m_codes m_manName m_postName) (rs : RS m_s n A) (hd : m_done = nI c) (hc : c ≤ 16) (ur : UR m_undone n c H) (h : ∀ m_s m_undone, UR m_undone n (ccap c) (hpush H c A) → RS m_s n (harbG ship A.g n, harbP A.p n, A.su, A.t) → Q (some (.int (sumF (harbG ship A.g n) n))) (clsW pn pc tok ship nn tl draft vd log trial sta says seed past marks (mdlX 0 m_taped m_size m_place m_begin m_token m_word m_told m_wrong m_code m_toldLines m_given m_fresh (nI (ccap c)) m_odd m_bestRank m_leastSpray m_g m_tape m_ship m_manName m_postName m_kind m_greenTold m_hands m_spray m_holds m_sea m_lineFrom m_lineTo m_codes m_opened m_compared m_kept m_keptBy m_ahead m_against m_sum m_sumBy m_term m_termBy m_byNot m_valueOf m_lines m_lineWhat m_lineA m_lineB m_seens m_seenMan m_seenOther m_seenAt m_seenGreener m_s m_aside m_before m_marked m_undone m_isLaid m_more m_row m_bestRow m_greenerBy K))) : XC (xF L xs) xmeths (d + 3) 227 [.ref 169] (clsW pn pc tok ship nn tl draft vd log trial sta says seed past marks (mdlX m_thrown m_taped m_size m_place m_begin m_token m_word m_told m_wrong m_code m_toldLines m_given m_fresh m_done m_odd m_bestRank m_leastSpray m_g m_tape m_ship m_manName m_postName m_kind m_greenTold m_hands m_spray m_holds m_sea m_lineFrom m_lineTo m_codes m_opened m_compared m_kept m_keptBy m_ahead m_against m_sum m_sumBy m_term m_termBy m_byNot m_valueOf m_lines m_lineWhat m_lineA m_lineB m_seens m_seenMan m_seenOther m_seenAt m_seenGreener m_s m_aside m_before m_marked m_undone m_isLaid m_more m_row m_bestRow m_greenerBy K)) Q := by
  refine ⟨nb rfl, xgo [2] 20 (xp_thrown rfl (xgo [] 60 ⟨rfl, nb rfl, m_keeps so.n6 hd hc ur rs (fun m_undone ur => ?_)⟩))⟩
  exact ⟨rfl, nb rfl, m_docks0 so.n6 ms.men rs ms.kind ms.harbour (fun m_s rs => ⟨rfl, nb rfl, m_allGreens so.n6 rs (h m_s m_undone ur rs)⟩)⟩
theorem m_undo (n6 : n ≤ 6) (hd : m_done = nI c) (hc : c ≤ 16) (ur : UR m_undone n c H) (h1 : 0 < c → ∀ m_s, RS m_s n (H (c - 1)) → Q (some (.int 1)) (clsW pn pc tok ship nn tl draft vd log trial sta says seed past marks (mdlX 0 m_taped m_size m_place m_begin m_token m_word m_told m_wrong m_code m_toldLines m_given m_fresh (nI (c - 1)) m_odd m_bestRank m_leastSpray m_g m_tape m_ship m_manName m_postName m_kind m_greenTold m_hands m_spray m_holds m_sea m_lineFrom m_lineTo m_codes m_opened m_compared m_kept m_keptBy m_ahead m_against m_sum m_sumBy m_term m_termBy m_byNot m_valueOf m_lines m_lineWhat m_lineA m_lineB m_seens m_seenMan m_seenOther m_seenAt m_seenGreener m_s m_aside m_before m_marked m_undone m_isLaid m_more m_row m_bestRow m_greenerBy K))) (h0 : c = 0 → Q (some (.int 0)) (clsW pn pc tok ship nn tl draft vd log trial sta says seed past marks (mdlX 0 m_taped m_size m_place m_begin m_token m_word m_told m_wrong m_code m_toldLines m_given m_fresh m_done m_odd m_bestRank m_leastSpray m_g m_tape m_ship m_manName m_postName m_kind m_greenTold m_hands m_spray m_holds m_sea m_lineFrom m_lineTo m_codes m_opened m_compared m_kept m_keptBy m_ahead m_against m_sum m_sumBy m_term m_termBy m_byNot m_valueOf m_lines m_lineWhat m_lineA m_lineB m_seens m_seenMan m_seenOther m_seenAt m_seenGreener m_s m_aside m_before m_marked m_undone m_isLaid m_more m_row m_bestRow m_greenerBy K))) : XC (xF L xs) xmeths (d + 2) 230 [.ref 169] (clsW pn pc tok ship nn tl draft vd log trial sta says seed past marks (mdlX m_thrown m_taped m_size m_place m_begin m_token m_word m_told m_wrong m_code m_toldLines m_given m_fresh m_done m_odd m_bestRank m_leastSpray m_g m_tape m_ship m_manName m_postName m_kind m_greenTold m_hands m_spray m_holds m_sea m_lineFrom m_lineTo m_codes m_opened m_compared m_kept m_keptBy m_ahead m_against m_sum m_sumBy m_term m_termBy m_byNot m_valueOf m_lines m_lineWhat m_lineA m_lineB m_seens m_seenMan m_seenOther m_seenAt m_seenGreener m_s m_aside m_before m_marked m_undone m_isLaid m_more m_row m_bestRow m_greenerBy K)) Q := by
  refine ⟨nb rfl, xgo [2] 20 (xp_thrown rfl (xgo [13] 60 ?_))⟩
  refine pk_ne c 0 (fun q => ?_) (fun q => ⟨rfl, h0 q⟩) hd nI_0.symm (by omega) (by omega)
  refine xp_done rfl ?_
  have e : m_done - Int32.ofInt 1 = nI (c - 1) := by rw [hd]; exact pk_sub (a := c) (b := 1) (by omega)
  rw [e]
  have e14 : Int32.ofInt 14 * nI (c - 1) = nI (14 * (c - 1)) := pk_mul 14 (c - 1)
  refine xgo [] 60 ⟨rfl, nb rfl, m_copies_208_204 (a := 14 * (c - 1)) (b := 0) e14 rfl (by omega) (by omega) ⟨rfl, ?_⟩⟩
  exact h1 (by omega) _ (RS.cpy (ur (c - 1) (by omega)) n6)
theorem m_man {man what : Int32} (so : ShOk ship n p z) (ms : MS ship n p z m_ship m_kind m_greenTold m_hands m_spray m_holds m_sea m_lineFrom m_lineTo m_codes m_manName m_postName) (rs : RS m_s n A) (hsu : A.su < 64) (h : Q (some (.int (manV ship A n man what))) (clsW pn pc tok ship nn tl draft vd log trial sta says seed past marks (mdlX 0 m_taped m_size m_place m_begin m_token m_word m_told m_wrong m_code m_toldLines m_given m_fresh m_done m_odd m_bestRank m_leastSpray m_g m_tape m_ship m_manName m_postName m_kind m_greenTold m_hands m_spray m_holds m_sea m_lineFrom m_lineTo m_codes m_opened m_compared m_kept m_keptBy m_ahead m_against m_sum m_sumBy m_term m_termBy m_byNot m_valueOf m_lines m_lineWhat m_lineA m_lineB m_seens m_seenMan m_seenOther m_seenAt m_seenGreener m_s m_aside m_before m_marked m_undone m_isLaid m_more m_row m_bestRow m_greenerBy K))) : XC (xF L xs) xmeths (d + 2) 201 [.ref 169, .int man, .int what] (clsW pn pc tok ship nn tl draft vd log trial sta says seed past marks (mdlX m_thrown m_taped m_size m_place m_begin m_token m_word m_told m_wrong m_code m_toldLines m_given m_fresh m_done m_odd m_bestRank m_leastSpray m_g m_tape m_ship m_manName m_postName m_kind m_greenTold m_hands m_spray m_holds m_sea m_lineFrom m_lineTo m_codes m_opened m_compared m_kept m_keptBy m_ahead m_against m_sum m_sumBy m_term m_termBy m_byNot m_valueOf m_lines m_lineWhat m_lineA m_lineB m_seens m_seenMan m_seenOther m_seenAt m_seenGreener m_s m_aside m_before m_marked m_undone m_isLaid m_more m_row m_bestRow m_greenerBy K)) Q := by
  have n6 := so.n6
  have a12 : manV ship A n man what = -2 → XWp (xF L xs) (some .int) xP201 (XC (xF L xs) xmeths (d + 1)) Q 12 [orf 169, oi man, oi what] [] (clsW pn pc tok ship nn tl draft vd log trial sta says seed past marks (mdlX 0 m_taped m_size m_place m_begin m_token m_word m_told m_wrong m_code m_toldLines m_given m_fresh m_done m_odd m_bestRank m_leastSpray m_g m_tape m_ship m_manName m_postName m_kind m_greenTold m_hands m_spray m_holds m_sea m_lineFrom m_lineTo m_codes m_opened m_compared m_kept m_keptBy m_ahead m_against m_sum m_sumBy m_term m_termBy m_byNot m_valueOf m_lines m_lineWhat m_lineA m_lineB m_seens m_seenMan m_seenOther m_seenAt m_seenGreener m_s m_aside m_before m_marked m_undone m_isLaid m_more m_row m_bestRow m_greenerBy K)) := fun q => xgo [] 10 (by rw [q] at h; exact h)
  refine ⟨nb rfl, xgo [2] 20 (xp_thrown rfl (xgo [12] 60 ⟨rfl, nb rfl, m_isMan ms.men ?_⟩))⟩
  refine vB0 (fun q => a12 (by rw [manV, if_neg q])) (fun q => ?_)
  have q0 := q
  rcases inI (by omega) q with ⟨k, hk, rfl⟩
  have ek := nI_clamp (show k < 2 ^ 31 by omega)
  rw [manV, if_pos q0, ek] at a12 h
  refine ⟨rfl, nb rfl, m_within ?_⟩
  refine vB1 (fun q => ?_) (fun q => a12 ?_)
  rotate_left
  · have g : ∀ x : Int32, 0 ≤ x → x ≤ 5 → ¬ what = x := fun x h1 h2 e => q ⟨e ▸ h1, e ▸ h2⟩
    rw [if_neg (g 0 (by decide) (by decide)), if_neg (g 1 (by decide) (by decide)), if_neg (g 2 (by decide) (by decide)), if_neg (g 3 (by decide) (by decide)), if_neg (g 4 (by decide) (by decide)), if_neg (g 5 (by decide) (by decide))]
  rcases wiN (m := 5) (by omega) q with ⟨j, hj, rfl⟩
  have hj : j = 0 ∨ j = 1 ∨ j = 2 ∨ j = 3 ∨ j = 4 ∨ j = 5 := by omega
  rcases hj with rfl | rfl | rfl | rfl | rfl | rfl
  · refine vFd rfl (vFd rfl ⟨vp_in_nI (by omega) (by omega), ?_⟩)
    rw [if_pos (by decide), ← ms.kind k hk] at h
    rw [ek]
    exact h
  · refine vFd rfl (vTd rfl (vFd rfl ⟨vp_in_nI (by omega) (by omega), ?_⟩))
    rw [if_neg (by decide), if_pos (by decide), ← ms.hands k hk] at h
    rw [ek]
    exact h
  · refine vFd rfl (vTd rfl (vTd rfl ⟨show vp_in (Int32.ofInt 2 + nI k) 14 from i2 k ▸ vp_in_nI (by omega) (by omega), ?_⟩))
    rw [if_neg (by decide), if_neg (by decide), if_pos (by decide), ← rs.green k hk] at h
    rw [i2, nI_clamp (by omega)]
    exact h
  · refine vTd rfl (vFd rfl ⟨show vp_in (Int32.ofInt 8 + nI k) 14 from i8 k ▸ vp_in_nI (by omega) (by omega), ?_⟩)
    rw [if_neg (by decide), if_neg (by decide), if_neg (by decide), if_pos (by decide), ← show m_s (8 + k) - 1 = A.p k from (by rw [rs.place k hk]; exact Int32.add_sub_cancel _ _)] at h
    rw [i8, nI_clamp (by omega)]
    exact h
  · refine vTd rfl (vTd rfl (vFd rfl ⟨vp_in_nI (n := 1) (by decide) (by decide), ?_⟩))
    rw [if_neg (by decide), if_neg (by decide), if_neg (by decide), if_neg (by decide), if_pos (by decide)] at h
    have e : m_s 1 >>> (nI k &&& 31) &&& 1 = b2i (A.su.testBit k = true) := by
      rw [rs.sucked, pk_shrN (by omega) _ k (smod_of k (by omega))]
      have e2 : nI (A.su / 2 ^ k) &&& 1 = nI (A.su / 2 ^ k % 2) := pk_andN (Nat.lt_of_le_of_lt (Nat.div_le_self _ _) (by omega)) 1 (by decide)
      rw [e2]
      have := Nat.mod_lt (A.su / 2 ^ k) (show 0 < 2 by decide)
      by_cases y : A.su.testBit k = true
      · rw [b2i_t y]
        rw [Nat.testBit_eq_decide_div_mod_eq] at y
        have y := of_decide_eq_true y
        rw [y]; rfl
      · rw [b2i_f y]
        rw [Nat.testBit_eq_decide_div_mod_eq] at y
        have y : ¬ A.su / 2 ^ k % 2 = 1 := fun z => y (decide_eq_true z)
        rw [show A.su / 2 ^ k % 2 = 0 by omega]; rfl
    rw [← e] at h
    exact h
  · refine vTd rfl (vTd rfl (vTd rfl ⟨rfl, nb rfl, m_greenerThan n6 ms.men rs hk ⟨rfl, nb rfl, m_bset n6 ?_⟩⟩))
    rw [if_neg (by decide), if_neg (by decide), if_neg (by decide), if_neg (by decide), if_neg (by decide), if_pos (by decide)] at h
    exact h
theorem m_post {po what : Int32} (so : ShOk ship n p z) (ms : MS ship n p z m_ship m_kind m_greenTold m_hands m_spray m_holds m_sea m_lineFrom m_lineTo m_codes m_manName m_postName) (rs : RS m_s n A) (h : Q (some (.int (postV ship A n p po what))) (clsW pn pc tok ship nn tl draft vd log trial sta says seed past marks (mdlX 0 m_taped m_size m_place m_begin m_token m_word m_told m_wrong m_code m_toldLines m_given m_fresh m_done m_odd m_bestRank m_leastSpray m_g m_tape m_ship m_manName m_postName m_kind m_greenTold m_hands m_spray m_holds m_sea m_lineFrom m_lineTo m_codes m_opened m_compared m_kept m_keptBy m_ahead m_against m_sum m_sumBy m_term m_termBy m_byNot m_valueOf m_lines m_lineWhat m_lineA m_lineB m_seens m_seenMan m_seenOther m_seenAt m_seenGreener m_s m_aside m_before m_marked m_undone m_isLaid m_more m_row m_bestRow m_greenerBy K))) : XC (xF L xs) xmeths (d + 2) 205 [.ref 169, .int po, .int what] (clsW pn pc tok ship nn tl draft vd log trial sta says seed past marks (mdlX m_thrown m_taped m_size m_place m_begin m_token m_word m_told m_wrong m_code m_toldLines m_given m_fresh m_done m_odd m_bestRank m_leastSpray m_g m_tape m_ship m_manName m_postName m_kind m_greenTold m_hands m_spray m_holds m_sea m_lineFrom m_lineTo m_codes m_opened m_compared m_kept m_keptBy m_ahead m_against m_sum m_sumBy m_term m_termBy m_byNot m_valueOf m_lines m_lineWhat m_lineA m_lineB m_seens m_seenMan m_seenOther m_seenAt m_seenGreener m_s m_aside m_before m_marked m_undone m_isLaid m_more m_row m_bestRow m_greenerBy K)) Q := by
  have n6 := so.n6
  have p4 := so.p4
  have a12 : postV ship A n p po what = -1 → XWp (xF L xs) (some .int) xP205 (XC (xF L xs) xmeths (d + 1)) Q 12 [orf 169, oi po, oi what] [] (clsW pn pc tok ship nn tl draft vd log trial sta says seed past marks (mdlX 0 m_taped m_size m_place m_begin m_token m_word m_told m_wrong m_code m_toldLines m_given m_fresh m_done m_odd m_bestRank m_leastSpray m_g m_tape m_ship m_manName m_postName m_kind m_greenTold m_hands m_spray m_holds m_sea m_lineFrom m_lineTo m_codes m_opened m_compared m_kept m_keptBy m_ahead m_against m_sum m_sumBy m_term m_termBy m_byNot m_valueOf m_lines m_lineWhat m_lineA m_lineB m_seens m_seenMan m_seenOther m_seenAt m_seenGreener m_s m_aside m_before m_marked m_undone m_isLaid m_more m_row m_bestRow m_greenerBy K)) := fun q => xgo [] 10 (by rw [q] at h; exact h)
  refine ⟨nb rfl, xgo [2] 20 (xp_thrown rfl (xgo [12] 60 ⟨rfl, nb rfl, m_isPost ms.posts ?_⟩))⟩
  refine vB0 (fun q => a12 (by rw [postV, if_neg q])) (fun q => ?_)
  have q0 := q
  rcases inI (by omega) q with ⟨k, hk, rfl⟩
  have ek := nI_clamp (show k < 2 ^ 31 by omega)
  rw [postV, if_pos q0, ek] at a12 h
  refine ⟨rfl, nb rfl, m_within ?_⟩
  refine vB1 (fun q => ?_) (fun q => a12 ?_)
  rotate_left
  · have g : ∀ x : Int32, 0 ≤ x → x ≤ 2 → ¬ what = x := fun x h1 h2 e => q ⟨e ▸ h1, e ▸ h2⟩
    rw [if_neg (g 0 (by decide) (by decide)), if_neg (g 1 (by decide) (by decide)), if_neg (g 2 (by decide) (by decide))]
  rcases wiN (m := 2) (by omega) q with ⟨j, hj, rfl⟩
  have hj : j = 0 ∨ j = 1 ∨ j = 2 := by omega
  rcases hj with rfl | rfl | rfl
  · refine vFd rfl ⟨vp_in_nI (by omega) (by omega), ?_⟩
    rw [if_pos (by decide), ← ms.spray k hk] at h
    rw [ek]
    exact h
  · refine vTd rfl (vFd rfl ⟨vp_in_nI (by omega) (by omega), ?_⟩)
    rw [if_neg (by decide), if_pos (by decide), ← ms.holds k hk] at h
    rw [ek]
    exact h
  · refine vTd rfl (vTd rfl ⟨rfl, nb rfl, m_standing n6 ms.men rs ?_⟩)
    rw [if_neg (by decide), if_neg (by decide), if_pos (by decide)] at h
    exact h
theorem m_count {what : Int32} {li se do_ ta : Nat} (so : ShOk ship n p z) (ms : MS ship n p z m_ship m_kind m_greenTold m_hands m_spray m_holds m_sea m_lineFrom m_lineTo m_codes m_manName m_postName) (rs : RS m_s n A) (ht : A.t < 2 ^ 31) (hl : m_lines 0 = nI li) (hs : m_seens 0 = nI se) (hd : m_done = nI do_) (hta : m_taped = nI ta) (h : Q (some (.int (countV ship A n p z li se do_ ta what))) (clsW pn pc tok ship nn tl draft vd log trial sta says seed past marks (mdlX 0 m_taped m_size m_place m_begin m_token m_word m_told m_wrong m_code m_toldLines m_given m_fresh m_done m_odd m_bestRank m_leastSpray m_g m_tape m_ship m_manName m_postName m_kind m_greenTold m_hands m_spray m_holds m_sea m_lineFrom m_lineTo m_codes m_opened m_compared m_kept m_keptBy m_ahead m_against m_sum m_sumBy m_term m_termBy m_byNot m_valueOf m_lines m_lineWhat m_lineA m_lineB m_seens m_seenMan m_seenOther m_seenAt m_seenGreener m_s m_aside m_before m_marked m_undone m_isLaid m_more m_row m_bestRow m_greenerBy K))) : XC (xF L xs) xmeths (d + 2) 265 [.ref 169, .int what] (clsW pn pc tok ship nn tl draft vd log trial sta says seed past marks (mdlX m_thrown m_taped m_size m_place m_begin m_token m_word m_told m_wrong m_code m_toldLines m_given m_fresh m_done m_odd m_bestRank m_leastSpray m_g m_tape m_ship m_manName m_postName m_kind m_greenTold m_hands m_spray m_holds m_sea m_lineFrom m_lineTo m_codes m_opened m_compared m_kept m_keptBy m_ahead m_against m_sum m_sumBy m_term m_termBy m_byNot m_valueOf m_lines m_lineWhat m_lineA m_lineB m_seens m_seenMan m_seenOther m_seenAt m_seenGreener m_s m_aside m_before m_marked m_undone m_isLaid m_more m_row m_bestRow m_greenerBy K)) Q := by
  have n6 := so.n6
  refine ⟨nb rfl, xgo [2] 20 (xp_thrown rfl (xgo [] 60 ⟨rfl, nb rfl, m_within ?_⟩))⟩
  refine vB1 (fun q => ?_) (fun q => ?_)
  rotate_left
  · have g : ∀ x : Int32, 0 ≤ x → x ≤ 12 → ¬ what = x := fun x h1 h2 e => q ⟨e ▸ h1, e ▸ h2⟩
    rw [countV, if_neg (g 0 (by decide) (by decide)), if_neg (g 1 (by decide) (by decide)), if_neg (g 2 (by decide) (by decide)), if_neg (g 3 (by decide) (by decide)), if_neg (g 4 (by decide) (by decide)), if_neg (g 5 (by decide) (by decide)), if_neg (g 6 (by decide) (by decide)), if_neg (g 7 (by decide) (by decide)), if_neg (g 8 (by decide) (by decide)), if_neg (g 9 (by decide) (by decide)), if_neg (g 10 (by decide) (by decide)), if_neg (g 11 (by decide) (by decide)), if_neg (g 12 (by decide) (by decide))] at h
    exact h
  rcases wiN (m := 12) (by omega) q with ⟨j, hj, rfl⟩
  have hj : j = 0 ∨ j = 1 ∨ j = 2 ∨ j = 3 ∨ j = 4 ∨ j = 5 ∨ j = 6 ∨ j = 7 ∨ j = 8 ∨ j = 9 ∨ j = 10 ∨ j = 11 ∨ j = 12 := by omega
  rcases hj with rfl | rfl | rfl | rfl | rfl | rfl | rfl | rfl | rfl | rfl | rfl | rfl | rfl
  · rw [countV, if_pos (by decide), ← ms.men] at h
    exact vFd rfl ⟨vp_in_nI (n := 0) (by decide) (by decide), h⟩
  · rw [countV, if_neg (by decide), if_pos (by decide), ← ms.posts] at h
    exact vFd rfl ⟨vp_in_nI (n := 1) (by decide) (by decide), h⟩
  · rw [countV, if_neg (by decide), if_neg (by decide), if_pos (by decide), ← ms.shade] at h
    exact vFd rfl ⟨vp_in_nI (n := 2) (by decide) (by decide), h⟩
  · rw [countV, if_neg (by decide), if_neg (by decide), if_neg (by decide), if_pos (by decide), ← ms.lemon] at h
    exact vFd rfl ⟨vp_in_nI (n := 3) (by decide) (by decide), h⟩
  · rw [countV, if_neg (by decide), if_neg (by decide), if_neg (by decide), if_neg (by decide), if_pos (by decide), ← ms.harbour] at h
    exact vFd rfl ⟨vp_in_nI (n := 4) (by decide) (by decide), h⟩
  · rw [countV, if_neg (by decide), if_neg (by decide), if_neg (by decide), if_neg (by decide), if_neg (by decide), if_pos (by decide), ← rs.over] at h
    exact vTd rfl (vFd rfl (vFd rfl ⟨vp_in_nI (n := 0) (by decide) (by decide), h⟩))
  · rw [countV, if_neg (by decide), if_neg (by decide), if_neg (by decide), if_neg (by decide), if_neg (by decide), if_neg (by decide), if_pos (by decide)] at h
    exact vTd rfl (vFd rfl (vTd rfl (vFd rfl ⟨vp_in_nI (n := 0) (by decide) (by decide), ⟨rfl, nb rfl, m_seaOf (t := A.t) rs.over ht so.z1 so.z12 ms.seas h⟩⟩)))
  · rw [countV, if_neg (by decide), if_neg (by decide), if_neg (by decide), if_neg (by decide), if_neg (by decide), if_neg (by decide), if_neg (by decide), if_pos (by decide)] at h
    exact vTd rfl (vFd rfl (vTd rfl (vTd rfl (vFd rfl ⟨rfl, nb rfl, m_allGreens n6 rs h⟩))))
  · rw [countV, if_neg (by decide), if_neg (by decide), if_neg (by decide), if_neg (by decide), if_neg (by decide), if_neg (by decide), if_neg (by decide), if_neg (by decide), if_pos (by decide)] at h
    exact vTd rfl (vFd rfl (vTd rfl (vTd rfl (vTd rfl ⟨rfl, nb rfl, m_allBelow n6 ms.men rs h⟩))))
  · rw [countV, if_neg (by decide), if_neg (by decide), if_neg (by decide), if_neg (by decide), if_neg (by decide), if_neg (by decide), if_neg (by decide), if_neg (by decide), if_neg (by decide), if_pos (by decide), ← hl] at h
    exact vTd rfl (vTd rfl (vFd rfl (vFd rfl ⟨vp_in_nI (n := 0) (by decide) (by decide), h⟩)))
  · rw [countV, if_neg (by decide), if_neg (by decide), if_neg (by decide), if_neg (by decide), if_neg (by decide), if_neg (by decide), if_neg (by decide), if_neg (by decide), if_neg (by decide), if_neg (by decide), if_pos (by decide), ← hs] at h
    exact vTd rfl (vTd rfl (vFd rfl (vTd rfl ⟨vp_in_nI (n := 0) (by decide) (by decide), h⟩)))
  · rw [countV, if_neg (by decide), if_neg (by decide), if_neg (by decide), if_neg (by decide), if_neg (by decide), if_neg (by decide), if_neg (by decide), if_neg (by decide), if_neg (by decide), if_neg (by decide), if_neg (by decide), if_pos (by decide), ← hd] at h
    exact vTd rfl (vTd rfl (vTd rfl (vFd rfl h)))
  · rw [countV, if_neg (by decide), if_neg (by decide), if_neg (by decide), if_neg (by decide), if_neg (by decide), if_neg (by decide), if_neg (by decide), if_neg (by decide), if_neg (by decide), if_neg (by decide), if_neg (by decide), if_neg (by decide), if_pos (by decide), ← hta] at h
    exact vTd rfl (vTd rfl (vTd rfl (vTd rfl h)))
end XMQ
