/-! the reference: stations asked, a lemon at rest -/
def TBe (n : Nat) (x y : TB) : Prop := x.1 = y.1 ∧ x.2.1 = y.2.1 ∧ (x.1 < 6 → eqN n x.2.2 y.2.2)
theorem leaf_congr {rk : Fn → Nat} {n spr : Nat} (hrk : ∀ r r', eqN n r r' → rk r = rk r') {row row' : Fn} {x y : TB} (hr : eqN n row row') (h : TBe n x y) : TBe n (leafS rk row spr x) (leafS rk row' spr y) := by
  have ⟨h1, h2, h3⟩ := h
  simp only [leafS, hrk row row' hr, h1, h2]
  split
  · exact ⟨rfl, rfl, fun _ => hr⟩
  · exact ⟨h1, h2, h3⟩
theorem deal_congr {rk : Fn → Nat} {sp : Nat → Nat} {n q : Nat} (hrk : ∀ r r', eqN n r r' → rk r = rk r') : ∀ r, r ≤ n → ∀ (row row' : Fn) free spr (x y : TB), eqN (n - r) row row' → TBe n x y → TBe n (dealS rk sp n q r row free spr x) (dealS rk sp n q r row' free spr y)
  | 0, _, row, row', free, spr, x, y, hr, h => leaf_congr hrk hr h
  | r + 1, hrn, row, row', free, spr, x, y, hr, h => by
    have up : ∀ v, eqN (n - r) (upd row (n - (r + 1)) v) (upd row' (n - (r + 1)) v) := by
      intro v k hk
      simp only [upd]
      split
      · rfl
      · exact hr k (by omega)
    simp only [dealS]
    refine deal_congr hrk r (by omega) _ _ free spr _ _ (up _) ?_
    have it : ∀ b, TBe n (iterP (fun b x => if 0 < free b then dealS rk sp n q r (upd row (n - (r + 1)) (nI b)) (fun c => if c = b then free b - 1 else free c) (spr + sp b) x else x) b x) (iterP (fun b x => if 0 < free b then dealS rk sp n q r (upd row' (n - (r + 1)) (nI b)) (fun c => if c = b then free b - 1 else free c) (spr + sp b) x else x) b y) := by
      intro b
      induction b with
      | zero => exact h
      | succ b ih =>
        simp only [iterP]
        by_cases z : 0 < free b
        · rw [if_pos z, if_pos z]
          exact deal_congr hrk r (by omega) _ _ _ _ _ _ (up _) ih
        · rw [if_neg z, if_neg z]
          exact ih
    exact it q
theorem deal_lt {rk : Fn → Nat} {sp : Nat → Nat} {n q : Nat} (hrk : ∀ r, rk r < 6) : ∀ r row free spr (x : TB), (dealS rk sp n q r row free spr x).1 < 6
  | 0, row, free, spr, x => by
    have := hrk row
    simp only [dealS, leafS]
    split
    · exact this
    · omega
  | r + 1, row, free, spr, x => by
    simp only [dealS]
    exact deal_lt hrk r _ _ _ _
def staD (s : TShip) (A : TA) (n p z w he : Nat) : TB := dealS (rkS s A.g n z A.t w he) (fun b => (s.spray b).toNatClampNeg) n p n (fun _ => 0) (fun b => (s.holds b).toNatClampNeg) 0 (6, 0, fun _ => 0)
def staV (D : TB) (what : Int32) : Int32 := if what = -2 then nI D.1 else if what = -1 then nI D.2.1 else D.2.2 what.toNatClampNeg
theorem staD_eq {s : TShip} {A : TA} {n p z w he : Nat} (hhe : he < n) (n6 : n ≤ 6) (row row' : Fn) : TBe n (dealS (rkS s A.g n z A.t w he) (fun b => (s.spray b).toNatClampNeg) n p n row (fun b => (s.holds b).toNatClampNeg) 0 (6, 0, row')) (staD s A n p z w he) ∧ (staD s A n p z w he).1 < 6 := by
  refine ⟨deal_congr (fun r r' h => rkS_congr hhe h) n (Nat.le_refl n) _ _ _ _ _ _ (fun k hk => by omega) ⟨rfl, rfl, fun y => absurd y (Nat.lt_irrefl 6)⟩, deal_lt (fun r => ?_) _ _ _ _ _⟩
  have := cnt_lt (p := fun o => decide (runG s r n z A.t A.g w he < runG s r n z A.t A.g w o)) (k := he) (by simp) n hhe
  simp only [rkS]
  omega
def payV (b g l own oth : Int32) : Int32 := if own = 1 then (if oth = 1 then -b else g) else if oth = 1 then -l else 0
def rstR (b g l : Int32) (k : Nat) : Bool := decide (payV b g l (nI (1 - k / 2)) (nI (k % 2)) ≤ payV b g l (nI (k / 2)) (nI (k % 2)) ∧ payV b g l (nI (1 - k % 2)) (nI (k / 2)) ≤ payV b g l (nI (k % 2)) (nI (k / 2)))
def rstF (R : Nat → Bool) (what : Int32) : Nat → Nat → Nat → Option Int32
  | 0, _, f => if what = -1 then some (nI f) else none
  | m + 1, k, f => if R k then (if nI f = what then some (nI k) else rstF R what m (k + 1) (f + 1)) else rstF R what m (k + 1) f
def restV (b g l what : Int32) : Option Int32 := if ((0 ≤ b ∧ b ≤ 9) ∧ (0 ≤ g ∧ g ≤ 9) ∧ (0 ≤ l ∧ l ≤ 9)) ∧ -1 ≤ what then rstF (rstR b g l) what 4 0 0 else none
section XMT
variable {L : Nat} {xs : Nat → Int32} {d : Nat} {Q : XQt} {pn pc : Int32} {tok : TTok} {ship : TShip} {nn : Int64} {tl : Int32} {draft : TShip} {vd : TVoy} {log : TLog} {trial : TCrew} {sta : TSta} {says : Fn} {seed : Int64} {past : Nat → TCrew} {marks : Nat → TLog} {K : XWd}
variable {m_thrown : Int32} {m_taped : Int32} {m_size : Int32} {m_place : Int32} {m_begin : Int32} {m_token : Int32} {m_word : Int64} {m_told : Int32} {m_wrong : Int32} {m_code : Int32} {m_toldLines : Int32} {m_given : Int32} {m_fresh : Int64} {m_done : Int32} {m_odd : Int32} {m_bestRank : Int32} {m_leastSpray : Int32} {m_g : Int64} {m_tape : Fn} {m_ship : Fn} {m_manName : Fl} {m_postName : Fl} {m_kind : Fn} {m_greenTold : Fn} {m_hands : Fn} {m_spray : Fn} {m_holds : Fn} {m_sea : Fn} {m_lineFrom : Fn} {m_lineTo : Fn} {m_codes : Fn} {m_opened : Fn} {m_compared : Fn} {m_kept : Fn} {m_keptBy : Fn} {m_ahead : Fn} {m_against : Fn} {m_sum : Fn} {m_sumBy : Fn} {m_term : Fn} {m_termBy : Fn} {m_byNot : Fn} {m_valueOf : Fn} {m_lines : Fn} {m_lineWhat : Fn} {m_lineA : Fn} {m_lineB : Fn} {m_seens : Fn} {m_seenMan : Fn} {m_seenOther : Fn} {m_seenAt : Fn} {m_seenGreener : Fn} {m_s : Fn} {m_aside : Fn} {m_before : Fn} {m_marked : Fn} {m_undone : Fn} {m_isLaid : Fn} {m_more : Fn} {m_row : Fn} {m_bestRow : Fn} {m_greenerBy : Fl}
variable {n p z c : Nat} {A : TA}
theorem m_deals6 {w he : Nat} {sp hd : Nat → Nat} {row : Fn} {free : Nat → Nat} {x : TB} (so : ShOk ship n p z) (ms : MS ship n p z m_ship m_kind m_greenTold m_hands m_spray m_holds m_sea m_lineFrom m_lineTo m_codes m_manName m_postName) (gg : ∀ k, k < n → rng (A.g k) 99) (ht : A.t < 2 ^ 30) (hod : m_odd = -1) (hhe : he < n) (hw : w ≤ 100) (hsp : ∀ b, b < p → ship.spray b = nI (sp b) ∧ sp b ≤ 9) (hhd : ∀ b, b < p → ship.holds b = nI (hd b) ∧ hd b ≤ 6) {pl : Fn} (rs : RS m_s n (A.g, pl, A.su, A.t)) (hpl : ∀ k, k < n → pl k = -1) (hfree : ∀ b, b < p → hd b = free b + cnt (fun o => decide (pl o = nI b)) n) (bm : BM m_bestRank m_leastSpray m_bestRow n x) (h : ∀ m_s m_before m_kept m_keptBy m_ahead m_against m_sum m_sumBy m_term m_termBy m_byNot m_valueOf m_more m_row m_bestRow m_bestRank m_leastSpray, RS m_s n (A.g, pl, A.su, A.t) → BM m_bestRank m_leastSpray m_bestRow n (dealS (rkS ship A.g n z A.t w he) sp n p n row free 0 x) → Q none (clsW pn pc tok ship nn tl draft vd log trial sta says seed past marks (mdlX m_thrown m_taped m_size m_place m_begin m_token m_word m_told m_wrong m_code m_toldLines m_given m_fresh m_done m_odd m_bestRank m_leastSpray m_g m_tape m_ship m_manName m_postName m_kind m_greenTold m_hands m_spray m_holds m_sea m_lineFrom m_lineTo m_codes m_opened m_compared m_kept m_keptBy m_ahead m_against m_sum m_sumBy m_term m_termBy m_byNot m_valueOf m_lines m_lineWhat m_lineA m_lineB m_seens m_seenMan m_seenOther m_seenAt m_seenGreener m_s m_aside m_before m_marked m_undone m_isLaid m_more m_row m_bestRow m_greenerBy K))) : XC (xF L xs) xmeths (d + 12) 244 [.ref 169, .int 0, .int (nI he), .int (nI w), .int 0] (clsW pn pc tok ship nn tl draft vd log trial sta says seed past marks (mdlX m_thrown m_taped m_size m_place m_begin m_token m_word m_told m_wrong m_code m_toldLines m_given m_fresh m_done m_odd m_bestRank m_leastSpray m_g m_tape m_ship m_manName m_postName m_kind m_greenTold m_hands m_spray m_holds m_sea m_lineFrom m_lineTo m_codes m_opened m_compared m_kept m_keptBy m_ahead m_against m_sum m_sumBy m_term m_termBy m_byNot m_valueOf m_lines m_lineWhat m_lineA m_lineB m_seens m_seenMan m_seenOther m_seenAt m_seenGreener m_s m_aside m_before m_marked m_undone m_isLaid m_more m_row m_bestRow m_greenerBy K)) Q := by
  have n6 := so.n6
  rw [show d + 12 = d + (6 - n) + 6 + n by omega]
  exact m_deals so ms gg ht hod hhe hw hsp hhd n (Nat.le_refl n) Q m_s m_before m_kept m_keptBy m_ahead m_against m_sum m_sumBy m_term m_termBy m_byNot m_valueOf m_more m_row m_bestRow m_bestRank m_leastSpray pl row free 0 x 0 0 (by rw [Nat.sub_self]; rfl) rfl (by omega) rs (fun k hk => by omega) (fun k _ h2 => hpl k h2) hfree bm (fun m_s m_before m_kept m_keptBy m_ahead m_against m_sum m_sumBy m_term m_termBy m_byNot m_valueOf m_more m_row' m_bestRow m_bestRank m_leastSpray rs _ bm => h m_s m_before m_kept m_keptBy m_ahead m_against m_sum m_sumBy m_term m_termBy m_byNot m_valueOf m_more m_row' m_bestRow m_bestRank m_leastSpray rs bm)
theorem m_stations {man wt what : Int32} (so : ShOk ship n p z) (ms : MS ship n p z m_ship m_kind m_greenTold m_hands m_spray m_holds m_sea m_lineFrom m_lineTo m_codes m_manName m_postName) (rs : RS m_s n A) (gp : GP A.g A.p n p) (ht : A.t < 2 ^ 30) (hod : m_odd = -1) (h1 : ∀ k w, k < n → 1 ≤ w → w ≤ 12 → man = nI k → wt = nI w → -2 ≤ what ∧ what ≤ nI n - 1 → ∀ m_s m_aside m_before m_kept m_keptBy m_ahead m_against m_sum m_sumBy m_term m_termBy m_byNot m_valueOf m_more m_row m_bestRow m_bestRank m_leastSpray, RS m_s n A → Q (some (.int (staV (staD ship A n p z w k) what))) (clsW pn pc tok ship nn tl draft vd log trial sta says seed past marks (mdlX 0 m_taped m_size m_place m_begin m_token m_word m_told m_wrong m_code m_toldLines m_given m_fresh m_done m_odd m_bestRank m_leastSpray m_g m_tape m_ship m_manName m_postName m_kind m_greenTold m_hands m_spray m_holds m_sea m_lineFrom m_lineTo m_codes m_opened m_compared m_kept m_keptBy m_ahead m_against m_sum m_sumBy m_term m_termBy m_byNot m_valueOf m_lines m_lineWhat m_lineA m_lineB m_seens m_seenMan m_seenOther m_seenAt m_seenGreener m_s m_aside m_before m_marked m_undone m_isLaid m_more m_row m_bestRow m_greenerBy K))) (h0 : ¬ ((0 ≤ man ∧ man < nI n) ∧ (1 ≤ wt ∧ wt ≤ 12) ∧ -2 ≤ what ∧ what ≤ nI n - 1) → Q (some (.int (-3))) (clsW pn pc tok ship nn tl draft vd log trial sta says seed past marks (mdlX 0 m_taped m_size m_place m_begin m_token m_word m_told m_wrong m_code m_toldLines m_given m_fresh m_done m_odd m_bestRank m_leastSpray m_g m_tape m_ship m_manName m_postName m_kind m_greenTold m_hands m_spray m_holds m_sea m_lineFrom m_lineTo m_codes m_opened m_compared m_kept m_keptBy m_ahead m_against m_sum m_sumBy m_term m_termBy m_byNot m_valueOf m_lines m_lineWhat m_lineA m_lineB m_seens m_seenMan m_seenOther m_seenAt m_seenGreener m_s m_aside m_before m_marked m_undone m_isLaid m_more m_row m_bestRow m_greenerBy K))) : XC (xF L xs) xmeths (d + 13) 243 [.ref 169, .int man, .int wt, .int what] (clsW pn pc tok ship nn tl draft vd log trial sta says seed past marks (mdlX m_thrown m_taped m_size m_place m_begin m_token m_word m_told m_wrong m_code m_toldLines m_given m_fresh m_done m_odd m_bestRank m_leastSpray m_g m_tape m_ship m_manName m_postName m_kind m_greenTold m_hands m_spray m_holds m_sea m_lineFrom m_lineTo m_codes m_opened m_compared m_kept m_keptBy m_ahead m_against m_sum m_sumBy m_term m_termBy m_byNot m_valueOf m_lines m_lineWhat m_lineA m_lineB m_seens m_seenMan m_seenOther m_seenAt m_seenGreener m_s m_aside m_before m_marked m_undone m_isLaid m_more m_row m_bestRow m_greenerBy K)) Q := by
  have n6 := so.n6
  have p4 := so.p4
  have a22 : ¬ ((0 ≤ man ∧ man < nI n) ∧ (1 ≤ wt ∧ wt ≤ 12) ∧ -2 ≤ what ∧ what ≤ nI n - 1) → XWp (xF L xs) (some .int) xP243 (XC (xF L xs) xmeths (d + 12)) Q 22 [orf 169, oi man, oi wt, oi what, none] [] (clsW pn pc tok ship nn tl draft vd log trial sta says seed past marks (mdlX 0 m_taped m_size m_place m_begin m_token m_word m_told m_wrong m_code m_toldLines m_given m_fresh m_done m_odd m_bestRank m_leastSpray m_g m_tape m_ship m_manName m_postName m_kind m_greenTold m_hands m_spray m_holds m_sea m_lineFrom m_lineTo m_codes m_opened m_compared m_kept m_keptBy m_ahead m_against m_sum m_sumBy m_term m_termBy m_byNot m_valueOf m_lines m_lineWhat m_lineA m_lineB m_seens m_seenMan m_seenOther m_seenAt m_seenGreener m_s m_aside m_before m_marked m_undone m_isLaid m_more m_row m_bestRow m_greenerBy K)) := fun q => xgo [] 10 (h0 q)
  refine ⟨nb rfl, xgo [2] 20 (xp_thrown rfl (xgo [20, 22] 60 ⟨rfl, nb rfl, m_isMan ms.men ?_⟩))⟩
  refine vB0 (fun q => a22 (fun y => q y.1)) (fun q1 => ⟨rfl, nb rfl, m_within ?_⟩)
  refine vB0 (fun q => a22 (fun y => q y.2.1)) (fun q2 => ⟨vp_in_nI (n := 0) (by decide) (by decide), ?_⟩)
  suffices a20 : ∀ x, x = nI n - 1 → XWp (xF L xs) (some .int) xP243 (XC (xF L xs) xmeths (d + 12)) Q 20 [orf 169, oi man, oi wt, oi what, none] [.int x, .int (-2), .int what] (clsW pn pc tok ship nn tl draft vd log trial sta says seed past marks (mdlX 0 m_taped m_size m_place m_begin m_token m_word m_told m_wrong m_code m_toldLines m_given m_fresh m_done m_odd m_bestRank m_leastSpray m_g m_tape m_ship m_manName m_postName m_kind m_greenTold m_hands m_spray m_holds m_sea m_lineFrom m_lineTo m_codes m_opened m_compared m_kept m_keptBy m_ahead m_against m_sum m_sumBy m_term m_termBy m_byNot m_valueOf m_lines m_lineWhat m_lineA m_lineB m_seens m_seenMan m_seenOther m_seenAt m_seenGreener m_s m_aside m_before m_marked m_undone m_isLaid m_more m_row m_bestRow m_greenerBy K)) from a20 _ (by rw [← ms.men]; rfl)
  intro x hx
  subst hx
  refine xgo [22, 33] 60 ⟨rfl, nb rfl, m_within ?_⟩
  refine vB1 (fun q3 => ?_) (fun q => a22 (fun y => q y.2.2))
  rcases inI (by omega) q1 with ⟨he, hhe, rfl⟩
  rcases wiN (m := 12) (by omega) ⟨Int32.le_trans (by decide) q2.1, q2.2⟩ with ⟨w, hw, rfl⟩
  have hw1 : 1 ≤ w := by
    rcases Nat.eq_zero_or_pos w with rfl | y
    · exact absurd q2.1 (by decide)
    · exact y
  have h := h1 he w hhe hw1 hw rfl rfl q3
  refine ⟨rfl, nb rfl, m_saveA n6 rs (fun m_aside ra => ⟨nb rfl, ?_⟩)⟩
  refine up_to (P := fun j => ∀ m_s, RS m_s n (A.g, fil A.p (-1) j, A.su, A.t) → XWp (xF L xs) (some .int) xP243 (XC (xF L xs) xmeths (d + 12)) Q 33 [orf 169, oi (nI he), oi (nI w), oi what, oi (nI j)] [] (clsW pn pc tok ship nn tl draft vd log trial sta says seed past marks (mdlX 0 m_taped m_size m_place m_begin m_token m_word m_told m_wrong m_code m_toldLines m_given m_fresh m_done m_odd m_bestRank m_leastSpray m_g m_tape m_ship m_manName m_postName m_kind m_greenTold m_hands m_spray m_holds m_sea m_lineFrom m_lineTo m_codes m_opened m_compared m_kept m_keptBy m_ahead m_against m_sum m_sumBy m_term m_termBy m_byNot m_valueOf m_lines m_lineWhat m_lineA m_lineB m_seens m_seenMan m_seenOther m_seenAt m_seenGreener m_s m_aside m_before m_marked m_undone m_isLaid m_more m_row m_bestRow m_greenerBy K))) (n := 6) (fun j hj ih m_s rs => xgo [33, 47] 60 ?_) m_s (rs.congr (fun k hk => rfl) (fun k hk => by show A.p k = fil A.p (-1) 0 k; rw [fil_zero]) rfl rfl)
  refine pk_le 6 j (fun q => ?_) (fun q => ?_) rfl rfl (by omega) (by omega)
  rotate_left
  · have ih := ih q
    refine ⟨show vp_in (Int32.ofInt 8 + nI j) 14 from i8 j ▸ vp_in_nI (by omega) (by omega), ?_⟩
    rw [i8, nI_clamp (by omega), st_s]
    have ih := ih (upd m_s (8 + j) (Int32.ofInt 0)) (by
      rw [fil_succ]
      by_cases y : j < n
      · exact RS.setP rs y n6 (by decide)
      · refine ⟨by rw [pk_un (by omega)]; exact rs.over, by rw [pk_un (by omega)]; exact rs.sucked, fun k hk => by rw [pk_un (by omega)]; exact rs.green k hk, fun k hk => ?_, fun k h1 h2 => by rw [pk_un (by omega)]; exact rs.green0 k h1 h2⟩
        show upd m_s (8 + j) _ (8 + k) = upd (fil A.p (-1) j) j (-1) k + 1
        rw [pk_un (by omega), pk_un (by omega)]
        exact rs.place k hk)
    rw [nI_succ] at ih
    exact ih
  have e : j = 6 := by omega
  subst e
  refine xp_bestRank rfl (xgo [50] 10 (xp_leastSpray rfl (xgo [] 60 ?_)))
  have hsp : ∀ b, b < p → ship.spray b = nI ((fun b => (ship.spray b).toNatClampNeg) b) ∧ (fun b => (ship.spray b).toNatClampNeg) b ≤ 9 := fun b hb => rng_clamp (so.spray b hb) (by omega)
  have hhd : ∀ b, b < p → ship.holds b = nI ((fun b => (ship.holds b).toNatClampNeg) b) ∧ (fun b => (ship.holds b).toNatClampNeg) b ≤ 6 := fun b hb => rng_clamp (so.holds b hb) (by omega)
  have hcn : ∀ b, b < p → cnt (fun o => decide (fil A.p (-1) 6 o = nI b)) n = 0 := fun b hb => cnt_zero n (fun o ho => by
    refine decide_eq_false (fun y => nIm (k := b) (by omega) ?_)
    rw [← y]
    show (if o < 6 then (-1 : Int32) else A.p o) = -1
    rw [if_pos (by omega)])
  refine ⟨rfl, nb rfl, m_deals6 (A := A) (he := he) (w := w) (row := fun _ => 0) (free := fun b => (ship.holds b).toNatClampNeg) (x := (6, 0, fun _ => 0)) so ms gp.green ht hod hhe (by omega) hsp hhd rs (fun k hk => by show (if k < 6 then (-1 : Int32) else A.p k) = -1; rw [if_pos (by omega)]) (fun b hb => by rw [hcn b hb]; rfl) ⟨by show (0 : Nat) ≤ 100; omega, Or.inl ⟨rfl, rfl⟩⟩ (fun m_s m_before m_kept m_keptBy m_ahead m_against m_sum m_sumBy m_term m_termBy m_byNot m_valueOf m_more m_row' m_bestRow m_bestRank m_leastSpray rs bm => ?_)⟩
  refine ⟨rfl, nb rfl, m_loadA n6 ra (fun m_s rs => ?_)⟩
  have h := h m_s m_aside m_before m_kept m_keptBy m_ahead m_against m_sum m_sumBy m_term m_termBy m_byNot m_valueOf m_more m_row' m_bestRow m_bestRank m_leastSpray rs
  have ⟨se, slt⟩ := staD_eq (s := ship) (A := A) (p := p) (z := z) (w := w) hhe n6 (fun _ => 0) (fun _ => 0)
  rcases bm.2 with ⟨e6, _⟩ | ⟨e6, eb, el, er⟩
  · exact absurd e6 (by rw [se.1]; omega)
  · rw [se.1] at eb
    rw [se.2.1] at el
    refine And.intro (fun (q4 : ¬ what = -2) => ?_) (fun (q4 : ¬ ¬ what = -2) => ?_)
    · refine And.intro (fun (q5 : ¬ what = -1) => ?_) (fun (q5 : ¬ ¬ what = -1) => ?_)
      · have hwh : 0 ≤ what ∧ what < nI n := by
          have a1 := q3.1
          have a2 := q3.2
          have e1 : nI n - 1 = nI (n - 1) := pk_sub (a := n) (b := 1) (by omega)
          rw [e1] at a2
          have e2 : (nI (n - 1)).toInt = ((n - 1 : Nat) : Int) := nI_toInt (by omega)
          have e3 : (nI n).toInt = (n : Int) := nI_toInt (by omega)
          rw [Int32.le_iff_toInt_le] at a1 a2 ⊢
          rw [Int32.lt_iff_toInt_lt]
          have n1 : ¬ what.toInt = -1 := fun y => q5 (Int32.toInt_inj.mp (by rw [y]; decide))
          have n2 : ¬ what.toInt = -2 := fun y => q4 (Int32.toInt_inj.mp (by rw [y]; decide))
          have k1 : (-2 : Int32).toInt = -2 := by decide
          have k2 : (0 : Int32).toInt = 0 := by decide
          omega
        rcases inI (by omega) hwh with ⟨k, hk, rfl⟩
        refine ⟨vp_in_nI (by omega) (by omega), ?_⟩
        rw [nI_clamp (by omega)]
        rw [staV, if_neg q4, if_neg q5, nI_clamp (by omega), ← se.2.2 e6 k hk, ← er k hk] at h
        exact h
      · rw [staV, if_neg q4, if_pos (Classical.not_not.mp q5), ← el] at h
        exact h
    · rw [staV, if_pos (Classical.not_not.mp q4), ← eb] at h
      exact h
theorem m_getsBy {w : XWd} {b g l o t : Int32} (h : Q (some (.int (payV b g l o t))) w) : XC (xF L xs) xmeths (d + 1) 259 [.int b, .int g, .int l, .int o, .int t] w Q := by
  refine ⟨nb rfl, xgo [] 40 ?_⟩
  rw [payV] at h
  refine And.intro (fun (q : ¬ o = 1) => ?_) (fun (q : ¬ ¬ o = 1) => ?_)
  · rw [if_neg q] at h
    refine And.intro (fun (q2 : ¬ t = 1) => ?_) (fun (q2 : ¬ ¬ t = 1) => ?_)
    · rw [if_neg q2] at h; exact h
    · rw [if_pos (Classical.not_not.mp q2)] at h; exact h
  · rw [if_pos (Classical.not_not.mp q)] at h
    refine And.intro (fun (q2 : ¬ t = 1) => ?_) (fun (q2 : ¬ ¬ t = 1) => ?_)
    · rw [if_neg q2] at h; exact h
    · rw [if_pos (Classical.not_not.mp q2)] at h; exact h
theorem m_rests {b g l what : Int32} (h1 : ∀ v, restV b g l what = some v → Q (some (.int v)) (clsW pn pc tok ship nn tl draft vd log trial sta says seed past marks (mdlX 0 m_taped m_size m_place m_begin m_token m_word m_told m_wrong m_code m_toldLines m_given m_fresh m_done m_odd m_bestRank m_leastSpray m_g m_tape m_ship m_manName m_postName m_kind m_greenTold m_hands m_spray m_holds m_sea m_lineFrom m_lineTo m_codes m_opened m_compared m_kept m_keptBy m_ahead m_against m_sum m_sumBy m_term m_termBy m_byNot m_valueOf m_lines m_lineWhat m_lineA m_lineB m_seens m_seenMan m_seenOther m_seenAt m_seenGreener m_s m_aside m_before m_marked m_undone m_isLaid m_more m_row m_bestRow m_greenerBy K))) (h0 : restV b g l what = none → Q (some (.int 0)) (clsW pn pc tok ship nn tl draft vd log trial sta says seed past marks (mdlX 1 m_taped m_size m_place m_begin m_token m_word m_told m_wrong m_code m_toldLines m_given m_fresh m_done m_odd m_bestRank m_leastSpray m_g m_tape m_ship m_manName m_postName m_kind m_greenTold m_hands m_spray m_holds m_sea m_lineFrom m_lineTo m_codes m_opened m_compared m_kept m_keptBy m_ahead m_against m_sum m_sumBy m_term m_termBy m_byNot m_valueOf m_lines m_lineWhat m_lineA m_lineB m_seens m_seenMan m_seenOther m_seenAt m_seenGreener m_s m_aside m_before m_marked m_undone m_isLaid m_more m_row m_bestRow m_greenerBy K))) : XC (xF L xs) xmeths (d + 2) 258 [.ref 169, .int b, .int g, .int l, .int what] (clsW pn pc tok ship nn tl draft vd log trial sta says seed past marks (mdlX m_thrown m_taped m_size m_place m_begin m_token m_word m_told m_wrong m_code m_toldLines m_given m_fresh m_done m_odd m_bestRank m_leastSpray m_g m_tape m_ship m_manName m_postName m_kind m_greenTold m_hands m_spray m_holds m_sea m_lineFrom m_lineTo m_codes m_opened m_compared m_kept m_keptBy m_ahead m_against m_sum m_sumBy m_term m_termBy m_byNot m_valueOf m_lines m_lineWhat m_lineA m_lineB m_seens m_seenMan m_seenOther m_seenAt m_seenGreener m_s m_aside m_before m_marked m_undone m_isLaid m_more m_row m_bestRow m_greenerBy K)) Q := by
  have a21 : ¬ (((0 ≤ b ∧ b ≤ 9) ∧ (0 ≤ g ∧ g ≤ 9) ∧ (0 ≤ l ∧ l ≤ 9)) ∧ -1 ≤ what) → XWp (xF L xs) (some .int) xP258 (XC (xF L xs) xmeths (d + 1)) Q 21 [orf 169, oi b, oi g, oi l, oi what, none, none, none, none] [.ref 169] (clsW pn pc tok ship nn tl draft vd log trial sta says seed past marks (mdlX m_thrown m_taped m_size m_place m_begin m_token m_word m_told m_wrong m_code m_toldLines m_given m_fresh m_done m_odd m_bestRank m_leastSpray m_g m_tape m_ship m_manName m_postName m_kind m_greenTold m_hands m_spray m_holds m_sea m_lineFrom m_lineTo m_codes m_opened m_compared m_kept m_keptBy m_ahead m_against m_sum m_sumBy m_term m_termBy m_byNot m_valueOf m_lines m_lineWhat m_lineA m_lineB m_seens m_seenMan m_seenOther m_seenAt m_seenGreener m_s m_aside m_before m_marked m_undone m_isLaid m_more m_row m_bestRow m_greenerBy K)) := by
    intro q
    refine xgo [22] 10 (xp_thrown rfl (xgo [] 20 (vFd rfl ?_)))
    exact h0 (by rw [restV, if_neg q])
  refine ⟨nb rfl, xgo [21, 22] 60 ⟨rfl, nb rfl, m_within ?_⟩⟩
  refine vB0 (fun q => a21 (fun y => q y.1.1)) (fun q1 => ⟨rfl, nb rfl, m_within ?_⟩)
  refine vB0 (fun q => a21 (fun y => q y.1.2.1)) (fun q2 => ⟨rfl, nb rfl, m_within ?_⟩)
  refine vB0 (fun q => a21 (fun y => q y.1.2.2)) (fun q3 => ?_)
  refine And.intro (fun (q4 : what < -1) => a21 (fun y => absurd q4 (Int32.not_lt.mpr y.2))) (fun (q4 : ¬ what < -1) => ?_)
  have e0 : restV b g l what = rstF (rstR b g l) what 4 0 0 := by rw [restV, if_pos ⟨⟨q1, q2, q3⟩, Int32.not_lt.mp q4⟩]
  rw [e0] at h1 h0
  refine xp_thrown rfl (xgo [33] 40 (vTd rfl ⟨nb rfl, nb rfl, ?_⟩))
  refine up_to (P := fun k => ∀ f x7 x8, f ≤ k → (∀ v, rstF (rstR b g l) what (4 - k) k f = some v → Q (some (.int v)) (clsW pn pc tok ship nn tl draft vd log trial sta says seed past marks (mdlX 0 m_taped m_size m_place m_begin m_token m_word m_told m_wrong m_code m_toldLines m_given m_fresh m_done m_odd m_bestRank m_leastSpray m_g m_tape m_ship m_manName m_postName m_kind m_greenTold m_hands m_spray m_holds m_sea m_lineFrom m_lineTo m_codes m_opened m_compared m_kept m_keptBy m_ahead m_against m_sum m_sumBy m_term m_termBy m_byNot m_valueOf m_lines m_lineWhat m_lineA m_lineB m_seens m_seenMan m_seenOther m_seenAt m_seenGreener m_s m_aside m_before m_marked m_undone m_isLaid m_more m_row m_bestRow m_greenerBy K))) → (rstF (rstR b g l) what (4 - k) k f = none → Q (some (.int 0)) (clsW pn pc tok ship nn tl draft vd log trial sta says seed past marks (mdlX 1 m_taped m_size m_place m_begin m_token m_word m_told m_wrong m_code m_toldLines m_given m_fresh m_done m_odd m_bestRank m_leastSpray m_g m_tape m_ship m_manName m_postName m_kind m_greenTold m_hands m_spray m_holds m_sea m_lineFrom m_lineTo m_codes m_opened m_compared m_kept m_keptBy m_ahead m_against m_sum m_sumBy m_term m_termBy m_byNot m_valueOf m_lines m_lineWhat m_lineA m_lineB m_seens m_seenMan m_seenOther m_seenAt m_seenGreener m_s m_aside m_before m_marked m_undone m_isLaid m_more m_row m_bestRow m_greenerBy K))) → XWp (xF L xs) (some .int) xP258 (XC (xF L xs) xmeths (d + 1)) Q 33 [orf 169, oi b, oi g, oi l, oi what, oi (nI f), oi (nI k), x7, x8] [] (clsW pn pc tok ship nn tl draft vd log trial sta says seed past marks (mdlX 0 m_taped m_size m_place m_begin m_token m_word m_told m_wrong m_code m_toldLines m_given m_fresh m_done m_odd m_bestRank m_leastSpray m_g m_tape m_ship m_manName m_postName m_kind m_greenTold m_hands m_spray m_holds m_sea m_lineFrom m_lineTo m_codes m_opened m_compared m_kept m_keptBy m_ahead m_against m_sum m_sumBy m_term m_termBy m_byNot m_valueOf m_lines m_lineWhat m_lineA m_lineB m_seens m_seenMan m_seenOther m_seenAt m_seenGreener m_s m_aside m_before m_marked m_undone m_isLaid m_more m_row m_bestRow m_greenerBy K))) (n := 4) (fun k hk ih f x7 x8 hf h1 h0 => xgo [33, 44, 80, 81, 90] 80 ?_) 0 none none (Nat.le_refl 0) h1 h0
  refine pk_le 4 k (fun q => ?_) (fun q => ?_) rfl rfl (by omega) (by omega)
  · have e : 4 - k = 0 := by omega
    rw [e, rstF] at h1 h0
    refine And.intro (fun (q5 : ¬ what = -1) => ?_) (fun (q5 : ¬ ¬ what = -1) => ?_)
    · refine xp_thrown rfl (xgo [] 20 ?_)
      refine vT (show ¬ what = -1 from q5) ?_
      exact h0 (by rw [if_neg q5])
    · refine xp_thrown rfl (xgo [] 20 ?_)
      refine vF (show ¬ ¬ what = -1 from q5) ?_
      exact h1 _ (by rw [if_pos (Classical.not_not.mp q5)])
  · have ih := ih q
    have e : 4 - k = (4 - (k + 1)) + 1 := by omega
    rw [e, rstF] at h1 h0
    have ed : nI k / Int32.ofInt 2 = nI (k / 2) := pk_div (d := 2) (by omega) (by omega) (by omega)
    have er : nI k - nI k / Int32.ofInt 2 * Int32.ofInt 2 = nI (k % 2) := pk_rem (d := 2) (by omega) (by omega) (by omega)
    have s1 : Int32.ofInt 1 - nI (k / 2) = nI (1 - k / 2) := pk_sub (a := 1) (by omega)
    have s2 : Int32.ofInt 1 - nI (k % 2) = nI (1 - k % 2) := pk_sub (a := 1) (by omega)
    have a81 : ∀ f', f' ≤ k + 1 → (∀ v, rstF (rstR b g l) what (4 - (k + 1)) (k + 1) f' = some v → Q (some (.int v)) (clsW pn pc tok ship nn tl draft vd log trial sta says seed past marks (mdlX 0 m_taped m_size m_place m_begin m_token m_word m_told m_wrong m_code m_toldLines m_given m_fresh m_done m_odd m_bestRank m_leastSpray m_g m_tape m_ship m_manName m_postName m_kind m_greenTold m_hands m_spray m_holds m_sea m_lineFrom m_lineTo m_codes m_opened m_compared m_kept m_keptBy m_ahead m_against m_sum m_sumBy m_term m_termBy m_byNot m_valueOf m_lines m_lineWhat m_lineA m_lineB m_seens m_seenMan m_seenOther m_seenAt m_seenGreener m_s m_aside m_before m_marked m_undone m_isLaid m_more m_row m_bestRow m_greenerBy K))) → (rstF (rstR b g l) what (4 - (k + 1)) (k + 1) f' = none → Q (some (.int 0)) (clsW pn pc tok ship nn tl draft vd log trial sta says seed past marks (mdlX 1 m_taped m_size m_place m_begin m_token m_word m_told m_wrong m_code m_toldLines m_given m_fresh m_done m_odd m_bestRank m_leastSpray m_g m_tape m_ship m_manName m_postName m_kind m_greenTold m_hands m_spray m_holds m_sea m_lineFrom m_lineTo m_codes m_opened m_compared m_kept m_keptBy m_ahead m_against m_sum m_sumBy m_term m_termBy m_byNot m_valueOf m_lines m_lineWhat m_lineA m_lineB m_seens m_seenMan m_seenOther m_seenAt m_seenGreener m_s m_aside m_before m_marked m_undone m_isLaid m_more m_row m_bestRow m_greenerBy K))) → XWp (xF L xs) (some .int) xP258 (XC (xF L xs) xmeths (d + 1)) Q 81 [orf 169, oi b, oi g, oi l, oi what, oi (nI f'), oi (nI k), oi (nI (k / 2)), oi (nI (k % 2))] [] (clsW pn pc tok ship nn tl draft vd log trial sta says seed past marks (mdlX 0 m_taped m_size m_place m_begin m_token m_word m_told m_wrong m_code m_toldLines m_given m_fresh m_done m_odd m_bestRank m_leastSpray m_g m_tape m_ship m_manName m_postName m_kind m_greenTold m_hands m_spray m_holds m_sea m_lineFrom m_lineTo m_codes m_opened m_compared m_kept m_keptBy m_ahead m_against m_sum m_sumBy m_term m_termBy m_byNot m_valueOf m_lines m_lineWhat m_lineA m_lineB m_seens m_seenMan m_seenOther m_seenAt m_seenGreener m_s m_aside m_before m_marked m_undone m_isLaid m_more m_row m_bestRow m_greenerBy K)) := by
      intro f' hf' g1 g0
      have ih := ih f' (oi (nI (k / 2))) (oi (nI (k % 2))) hf' g1 g0
      rw [nI_succ] at ih
      exact xgo [33] 10 ih
    refine ⟨(show ¬ (2 : Int32) = 0 by decide), nb rfl, (show ¬ (2 : Int32) = 0 by decide), nb rfl, ?_⟩
    rw [er, ed]
    refine xgo [80, 81] 60 ⟨rfl, nb rfl, m_getsBy ⟨rfl, nb rfl, m_getsBy ?_⟩⟩
    rw [s1]
    by_cases c1 : payV b g l (nI (1 - k / 2)) (nI (k % 2)) ≤ payV b g l (nI (k / 2)) (nI (k % 2))
    rotate_left
    · have hR : ¬ rstR b g l k = true := by rw [rstR, decide_eq_true_eq]; exact fun y => c1 y.1
      refine vT (show payV b g l (nI (k / 2)) (nI (k % 2)) < payV b g l (nI (1 - k / 2)) (nI (k % 2)) from Int32.not_le.mp c1) ?_
      rw [if_neg hR] at h1 h0
      exact a81 f (by omega) h1 h0
    refine vF (show ¬ payV b g l (nI (k / 2)) (nI (k % 2)) < payV b g l (nI (1 - k / 2)) (nI (k % 2)) from Int32.not_lt.mpr c1) ⟨rfl, nb rfl, m_getsBy ⟨rfl, nb rfl, m_getsBy ?_⟩⟩
    rw [s2]
    by_cases c2 : payV b g l (nI (1 - k % 2)) (nI (k / 2)) ≤ payV b g l (nI (k % 2)) (nI (k / 2))
    rotate_left
    · have hR : ¬ rstR b g l k = true := by rw [rstR, decide_eq_true_eq]; exact fun y => c2 y.2
      refine vF (show ¬ payV b g l (nI (1 - k % 2)) (nI (k / 2)) ≤ payV b g l (nI (k % 2)) (nI (k / 2)) from c2) ?_
      rw [if_neg hR] at h1 h0
      exact a81 f (by omega) h1 h0
    refine vT (show payV b g l (nI (1 - k % 2)) (nI (k / 2)) ≤ payV b g l (nI (k % 2)) (nI (k / 2)) from c2) ?_
    have hR : rstR b g l k = true := by rw [rstR, decide_eq_true_eq]; exact ⟨c1, c2⟩
    rw [if_pos hR] at h1 h0
    refine And.intro (fun (q6 : ¬ nI f = what) => ?_) (fun (q6 : ¬ ¬ nI f = what) => ?_)
    · rw [if_neg q6] at h1 h0
      have a81 := a81 (f + 1) (by omega) h1 h0
      rw [nI_succ] at a81
      exact xgo [81] 10 a81
    · rw [if_pos (Classical.not_not.mp q6)] at h1
      exact h1 _ rfl
end XMT
