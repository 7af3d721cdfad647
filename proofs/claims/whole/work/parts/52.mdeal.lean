/-! the reference: stations -/
abbrev BM (br ls : Int32) (bRow : Fn) (n : Nat) (x : TB) : Prop := x.2.1 ≤ 100 ∧ ((x.1 = 6 ∧ br = -1) ∨ (x.1 < 6 ∧ br = nI x.1 ∧ ls = nI x.2.1 ∧ ∀ k, k < n → bRow k = x.2.2 k))
theorem cnt_upd {pl : Fn} {n k b c : Nat} (hk : k < n) (hb : b < 4) (hc : c < 4) (h : pl k = -1) : cnt (fun o => decide (upd pl k (nI b) o = nI c)) n = cnt (fun o => decide (pl o = nI c)) n + (if c = b then 1 else 0) := by
  have key : ∀ m, cnt (fun o => decide (upd pl k (nI b) o = nI c)) m = cnt (fun o => decide (pl o = nI c)) m + (if c = b ∧ k < m then 1 else 0) := by
    intro m
    induction m with
    | zero => simp [cnt]
    | succ m ih =>
      simp only [cnt, ih, decide_eq_true_eq]
      by_cases y : m = k
      · subst y
        have e1 : ¬ pl m = nI c := fun z => nIm (k := c) (by omega) (z.symm.trans h)
        have e2 : (upd pl m (nI b) m = nI c) ↔ c = b := by
          rw [pk_us, nI_eq (by omega) (by omega)]
          exact ⟨fun z => z.symm, fun z => z.symm⟩
        rw [if_neg e1]
        by_cases y2 : c = b
        · rw [if_pos (e2.mpr y2), if_neg (fun z => by omega), if_pos ⟨y2, by omega⟩]
        · rw [if_neg (fun z => y2 (e2.mp z)), if_neg (fun z => y2 z.1), if_neg (fun z => y2 z.1)]
      · have e2 : (upd pl k (nI b) m = nI c) ↔ pl m = nI c := by rw [pk_un y]
        have e3 : (c = b ∧ k < m + 1) ↔ (c = b ∧ k < m) := by constructor <;> (intro z; exact ⟨z.1, by omega⟩)
        by_cases y2 : pl m = nI c
        · rw [if_pos (e2.mpr y2), if_pos y2]
          by_cases y3 : c = b ∧ k < m
          · rw [if_pos y3, if_pos (e3.mpr y3)]
          · rw [if_neg y3, if_neg (fun z => y3 (e3.mp z))]
        · rw [if_neg (fun z => y2 (e2.mp z)), if_neg y2]
          by_cases y3 : c = b ∧ k < m
          · rw [if_pos y3, if_pos (e3.mpr y3)]
          · rw [if_neg y3, if_neg (fun z => y3 (e3.mp z))]
  rw [key n]
  simp [hk]
section XMD
variable {L : Nat} {xs : Nat → Int32} {d : Nat} {Q : XQt} {pn pc : Int32} {tok : TTok} {ship : TShip} {nn : Int64} {tl : Int32} {draft : TShip} {vd : TVoy} {log : TLog} {trial : TCrew} {sta : TSta} {says : Fn} {seed : Int64} {past : Nat → TCrew} {marks : Nat → TLog} {K : XWd}
variable {m_thrown : Int32} {m_taped : Int32} {m_size : Int32} {m_place : Int32} {m_begin : Int32} {m_token : Int32} {m_word : Int64} {m_told : Int32} {m_wrong : Int32} {m_code : Int32} {m_toldLines : Int32} {m_given : Int32} {m_fresh : Int64} {m_done : Int32} {m_odd : Int32} {m_bestRank : Int32} {m_leastSpray : Int32} {m_g : Int64} {m_tape : Fn} {m_ship : Fn} {m_manName : Fl} {m_postName : Fl} {m_kind : Fn} {m_greenTold : Fn} {m_hands : Fn} {m_spray : Fn} {m_holds : Fn} {m_sea : Fn} {m_lineFrom : Fn} {m_lineTo : Fn} {m_codes : Fn} {m_opened : Fn} {m_compared : Fn} {m_kept : Fn} {m_keptBy : Fn} {m_ahead : Fn} {m_against : Fn} {m_sum : Fn} {m_sumBy : Fn} {m_term : Fn} {m_termBy : Fn} {m_byNot : Fn} {m_valueOf : Fn} {m_lines : Fn} {m_lineWhat : Fn} {m_lineA : Fn} {m_lineB : Fn} {m_seens : Fn} {m_seenMan : Fn} {m_seenOther : Fn} {m_seenAt : Fn} {m_seenGreener : Fn} {m_s : Fn} {m_aside : Fn} {m_before : Fn} {m_marked : Fn} {m_undone : Fn} {m_isLaid : Fn} {m_more : Fn} {m_row : Fn} {m_bestRow : Fn} {m_greenerBy : Fl}
variable {n p z c w he : Nat} {A : TA}
theorem m_leaf {spr : Nat} {row pl : Fn} {x : TB} {y1 : Int32} (so : ShOk ship n p z) (ms : MS ship n p z m_ship m_kind m_greenTold m_hands m_spray m_holds m_sea m_lineFrom m_lineTo m_codes m_manName m_postName) (gg : ∀ k, k < n → rng (A.g k) 99) (ht : A.t < 2 ^ 30) (hod : m_odd = -1) (hhe : he < n) (hw : w ≤ 100) (hy1 : y1 = nI n) (hspr : spr ≤ 100) (rs : RS m_s n (A.g, pl, A.su, A.t)) (hrow : ∀ k, k < n → m_row k = row k ∧ pl k = row k ∧ (row k = -1 ∨ ∃ b, b < p ∧ row k = nI b)) (bm : BM m_bestRank m_leastSpray m_bestRow n x) (h : ∀ m_s m_before m_kept m_keptBy m_ahead m_against m_sum m_sumBy m_term m_termBy m_byNot m_valueOf m_more m_bestRow m_bestRank m_leastSpray, RS m_s n (A.g, pl, A.su, A.t) → BM m_bestRank m_leastSpray m_bestRow n (leafS (rkS ship A.g n z A.t w he) row spr x) → Q none (clsW pn pc tok ship nn tl draft vd log trial sta says seed past marks (mdlX m_thrown m_taped m_size m_place m_begin m_token m_word m_told m_wrong m_code m_toldLines m_given m_fresh m_done m_odd m_bestRank m_leastSpray m_g m_tape m_ship m_manName m_postName m_kind m_greenTold m_hands m_spray m_holds m_sea m_lineFrom m_lineTo m_codes m_opened m_compared m_kept m_keptBy m_ahead m_against m_sum m_sumBy m_term m_termBy m_byNot m_valueOf m_lines m_lineWhat m_lineA m_lineB m_seens m_seenMan m_seenOther m_seenAt m_seenGreener m_s m_aside m_before m_marked m_undone m_isLaid m_more m_row m_bestRow m_greenerBy K))) : XC (xF L xs) xmeths (d + 6) 244 [.ref 169, .int y1, .int (nI he), .int (nI w), .int (nI spr)] (clsW pn pc tok ship nn tl draft vd log trial sta says seed past marks (mdlX m_thrown m_taped m_size m_place m_begin m_token m_word m_told m_wrong m_code m_toldLines m_given m_fresh m_done m_odd m_bestRank m_leastSpray m_g m_tape m_ship m_manName m_postName m_kind m_greenTold m_hands m_spray m_holds m_sea m_lineFrom m_lineTo m_codes m_opened m_compared m_kept m_keptBy m_ahead m_against m_sum m_sumBy m_term m_termBy m_byNot m_valueOf m_lines m_lineWhat m_lineA m_lineB m_seens m_seenMan m_seenOther m_seenAt m_seenGreener m_s m_aside m_before m_marked m_undone m_isLaid m_more m_row m_bestRow m_greenerBy K)) Q := by
  have n6 := so.n6
  subst hy1
  refine ⟨nb rfl, xgo [15] 60 ⟨vp_in_nI (n := 0) (by decide) (by decide), ?_⟩⟩
  refine pk_ne n n (fun q => absurd rfl q) (fun _ => ?_) rfl ms.men (by omega) (by omega)
  have gp : GP A.g row n p := ⟨gg, fun k hk => (hrow k hk).2.2⟩
  have rr : RS m_s n (A.g, row, A.su, A.t) := rs.congr (fun k hk => rfl) (fun k hk => (hrow k hk).2.1) rfl rfl
  refine ⟨rfl, nb rfl, m_saveB n6 rs (fun m_before rb => ⟨nb rfl, ?_⟩)⟩
  refine up_to (P := fun j => ∀ m_s m_kept m_keptBy m_ahead m_against m_sum m_sumBy m_term m_termBy m_byNot m_valueOf m_more, RS m_s n (TA.run ship n z (A.g, row, A.su, A.t) j) → XWp (xF L xs) none xP244 (XC (xF L xs) xmeths (d + 5)) Q 15 [orf 169, oi (nI n), oi (nI he), oi (nI w), oi (nI spr), oi (nI j), none] [] (clsW pn pc tok ship nn tl draft vd log trial sta says seed past marks (mdlX m_thrown m_taped m_size m_place m_begin m_token m_word m_told m_wrong m_code m_toldLines m_given m_fresh m_done m_odd m_bestRank m_leastSpray m_g m_tape m_ship m_manName m_postName m_kind m_greenTold m_hands m_spray m_holds m_sea m_lineFrom m_lineTo m_codes m_opened m_compared m_kept m_keptBy m_ahead m_against m_sum m_sumBy m_term m_termBy m_byNot m_valueOf m_lines m_lineWhat m_lineA m_lineB m_seens m_seenMan m_seenOther m_seenAt m_seenGreener m_s m_aside m_before m_marked m_undone m_isLaid m_more m_row m_bestRow m_greenerBy K))) (n := w) (fun j hj ih m_s m_kept m_keptBy m_ahead m_against m_sum m_sumBy m_term m_termBy m_byNot m_valueOf m_more rr => xgo [15, 49, 50] 60 ?_) m_s m_kept m_keptBy m_ahead m_against m_sum m_sumBy m_term m_termBy m_byNot m_valueOf m_more rr
  refine pk_le w j (fun q => ?_) (fun q => ?_) rfl rfl (by omega) (by omega)
  rotate_left
  · have ih := ih q
    refine ⟨rfl, nb rfl, m_passRun (A := (A.g, row, A.su, A.t)) so ms rr gp (by show A.t + j < 2 ^ 31; omega) hod (fun m_s m_kept m_keptBy m_ahead m_against m_sum m_sumBy m_term m_termBy m_byNot m_valueOf m_more rr => ?_)⟩
    have ih := ih m_s m_kept m_keptBy m_ahead m_against m_sum m_sumBy m_term m_termBy m_byNot m_valueOf m_more rr
    rw [nI_succ] at ih
    exact ih
  have e : j = w := by omega
  subst e
  refine ⟨rfl, nb rfl, m_greenerThan n6 ms.men rr hhe ⟨rfl, nb rfl, m_bset n6 ⟨nb rfl, rfl, nb rfl, m_loadB n6 rb (fun m_s rs => ?_)⟩⟩⟩
  have hk : cnt (fun o => decide (runG ship row n z A.t A.g j he < runG ship row n z A.t A.g j o)) n = rkS ship A.g n z A.t j he row := rfl
  have hk6 : rkS ship A.g n z A.t j he row < n := cnt_lt (k := he) (by simp) n hhe
  have ek : (cnt (fun o => decide (TA.g (TA.run ship n z (A.g, row, A.su, A.t) j) he < TA.g (TA.run ship n z (A.g, row, A.su, A.t) j) o)) n) = rkS ship A.g n z A.t j he row := rfl
  rw [ek]
  have bm1 := bm.1
  have stay : ¬ (rkS ship A.g n z A.t j he row < x.1 ∨ (rkS ship A.g n z A.t j he row = x.1 ∧ spr < x.2.1)) → XWp (xF L xs) none xP244 (XC (xF L xs) xmeths (d + 5)) Q 49 [orf 169, oi (nI n), oi (nI he), oi (nI j), oi (nI spr), oi (nI (rkS ship A.g n z A.t j he row)), none] [] (clsW pn pc tok ship nn tl draft vd log trial sta says seed past marks (mdlX m_thrown m_taped m_size m_place m_begin m_token m_word m_told m_wrong m_code m_toldLines m_given m_fresh m_done m_odd m_bestRank m_leastSpray m_g m_tape m_ship m_manName m_postName m_kind m_greenTold m_hands m_spray m_holds m_sea m_lineFrom m_lineTo m_codes m_opened m_compared m_kept m_keptBy m_ahead m_against m_sum m_sumBy m_term m_termBy m_byNot m_valueOf m_lines m_lineWhat m_lineA m_lineB m_seens m_seenMan m_seenOther m_seenAt m_seenGreener m_s m_aside m_before m_marked m_undone m_isLaid m_more m_row m_bestRow m_greenerBy K)) := by
    intro y
    refine xgo [] 10 ⟨rfl, h m_s m_before m_kept m_keptBy m_ahead m_against m_sum m_sumBy m_term m_termBy m_byNot m_valueOf m_more m_bestRow m_bestRank m_leastSpray rs ?_⟩
    rw [leafS, if_neg y]
    exact bm
  have go : (rkS ship A.g n z A.t j he row < x.1 ∨ (rkS ship A.g n z A.t j he row = x.1 ∧ spr < x.2.1)) → XWp (xF L xs) none xP244 (XC (xF L xs) xmeths (d + 5)) Q 50 [orf 169, oi (nI n), oi (nI he), oi (nI j), oi (nI spr), oi (nI (rkS ship A.g n z A.t j he row)), none] [] (clsW pn pc tok ship nn tl draft vd log trial sta says seed past marks (mdlX m_thrown m_taped m_size m_place m_begin m_token m_word m_told m_wrong m_code m_toldLines m_given m_fresh m_done m_odd m_bestRank m_leastSpray m_g m_tape m_ship m_manName m_postName m_kind m_greenTold m_hands m_spray m_holds m_sea m_lineFrom m_lineTo m_codes m_opened m_compared m_kept m_keptBy m_ahead m_against m_sum m_sumBy m_term m_termBy m_byNot m_valueOf m_lines m_lineWhat m_lineA m_lineB m_seens m_seenMan m_seenOther m_seenAt m_seenGreener m_s m_aside m_before m_marked m_undone m_isLaid m_more m_row m_bestRow m_greenerBy K)) := by
    intro y
    refine xgo [52] 10 (xp_bestRank rfl (xgo [55] 10 (xp_leastSpray rfl (xgo [58] 10 ⟨nb rfl, ?_⟩))))
    refine up_to (P := fun i => ∀ m_bestRow, (∀ k, k < i → m_bestRow k = m_row k) → XWp (xF L xs) none xP244 (XC (xF L xs) xmeths (d + 5)) Q 58 [orf 169, oi (nI n), oi (nI he), oi (nI j), oi (nI spr), oi (nI (rkS ship A.g n z A.t j he row)), oi (nI i)] [] (clsW pn pc tok ship nn tl draft vd log trial sta says seed past marks (mdlX m_thrown m_taped m_size m_place m_begin m_token m_word m_told m_wrong m_code m_toldLines m_given m_fresh m_done m_odd (nI (rkS ship A.g n z A.t j he row)) (nI spr) m_g m_tape m_ship m_manName m_postName m_kind m_greenTold m_hands m_spray m_holds m_sea m_lineFrom m_lineTo m_codes m_opened m_compared m_kept m_keptBy m_ahead m_against m_sum m_sumBy m_term m_termBy m_byNot m_valueOf m_lines m_lineWhat m_lineA m_lineB m_seens m_seenMan m_seenOther m_seenAt m_seenGreener m_s m_aside m_before m_marked m_undone m_isLaid m_more m_row m_bestRow m_greenerBy K))) (n := 6) (fun i hi ih2 m_bestRow hb => xgo [58] 40 ?_) m_bestRow (fun k hk => absurd hk (Nat.not_lt_zero k))
    refine pk_le 6 i (fun q2 => ?_) (fun q2 => ?_) rfl rfl (by omega) (by omega)
    · refine ⟨rfl, h m_s m_before m_kept m_keptBy m_ahead m_against m_sum m_sumBy m_term m_termBy m_byNot m_valueOf m_more m_bestRow _ _ rs ?_⟩
      rw [leafS, if_pos y]
      exact ⟨hspr, Or.inr ⟨by show rkS ship A.g n z A.t j he row < 6; omega, rfl, rfl, fun k hk => (hb k (by omega)).trans (hrow k hk).1⟩⟩
    · have ih2 := ih2 q2
      refine ⟨vp_in_nI (by omega) (by omega), vp_in_nI (by omega) (by omega), ?_⟩
      rw [nI_clamp (by omega), st_bestRow]
      have ih2 := ih2 (upd m_bestRow i (m_row i)) (fun k hk => by
        by_cases y : k = i
        · subst y; rw [pk_us]
        · rw [pk_un y]; exact hb k (by omega))
      rw [nI_succ] at ih2
      exact ih2
  rcases bm.2 with ⟨e6, eb⟩ | ⟨e6, eb, el, _⟩
  · refine And.intro (fun (q2 : m_bestRank < 0) => go (Or.inl (by omega))) (fun (q2 : ¬ m_bestRank < 0) => absurd (by rw [eb]; decide) q2)
  · refine And.intro (fun (q2 : m_bestRank < 0) => absurd q2 (by rw [eb]; exact nI_pos (by omega))) (fun (q2 : ¬ m_bestRank < 0) => ?_)
    refine pk_lt x.1 (rkS ship A.g n z A.t j he row) (fun q3 => stay (by omega)) (fun q3 => ?_) eb rfl (by omega) (by omega)
    refine pk_ne (rkS ship A.g n z A.t j he row) x.1 (fun q4 => go (by omega)) (fun q4 => ?_) rfl eb (by omega) (by omega)
    refine pk_lt spr x.2.1 (fun q5 => go (by omega)) (fun q5 => stay (by omega)) rfl el (by omega) (by omega)
theorem m_deals {sp hd : Nat → Nat} (so : ShOk ship n p z) (ms : MS ship n p z m_ship m_kind m_greenTold m_hands m_spray m_holds m_sea m_lineFrom m_lineTo m_codes m_manName m_postName) (gg : ∀ k, k < n → rng (A.g k) 99) (ht : A.t < 2 ^ 30) (hod : m_odd = -1) (hhe : he < n) (hw : w ≤ 100) (hsp : ∀ b, b < p → ship.spray b = nI (sp b) ∧ sp b ≤ 9) (hhd : ∀ b, b < p → ship.holds b = nI (hd b) ∧ hd b ≤ 6) : ∀ r, r ≤ n → ∀ (Q : XQt) m_s m_before m_kept m_keptBy m_ahead m_against m_sum m_sumBy m_term m_termBy m_byNot m_valueOf m_more m_row m_bestRow m_bestRank m_leastSpray (pl row : Fn) (free : Nat → Nat) (spr : Nat) (x : TB) (y1 y2 : Int32), y1 = nI (n - r) → y2 = nI spr → spr + 9 * r ≤ 54 → RS m_s n (A.g, pl, A.su, A.t) → (∀ k, k < n - r → m_row k = row k ∧ pl k = row k ∧ (row k = -1 ∨ ∃ b, b < p ∧ row k = nI b)) → (∀ k, n - r ≤ k → k < n → pl k = -1) → (∀ b, b < p → hd b = free b + cnt (fun o => decide (pl o = nI b)) n) → BM m_bestRank m_leastSpray m_bestRow n x → (∀ m_s m_before m_kept m_keptBy m_ahead m_against m_sum m_sumBy m_term m_termBy m_byNot m_valueOf m_more m_row' m_bestRow m_bestRank m_leastSpray, RS m_s n (A.g, pl, A.su, A.t) → (∀ k, k < n - r → m_row' k = m_row k) → BM m_bestRank m_leastSpray m_bestRow n (dealS (rkS ship A.g n z A.t w he) sp n p r row free spr x) → Q none (clsW pn pc tok ship nn tl draft vd log trial sta says seed past marks (mdlX m_thrown m_taped m_size m_place m_begin m_token m_word m_told m_wrong m_code m_toldLines m_given m_fresh m_done m_odd m_bestRank m_leastSpray m_g m_tape m_ship m_manName m_postName m_kind m_greenTold m_hands m_spray m_holds m_sea m_lineFrom m_lineTo m_codes m_opened m_compared m_kept m_keptBy m_ahead m_against m_sum m_sumBy m_term m_termBy m_byNot m_valueOf m_lines m_lineWhat m_lineA m_lineB m_seens m_seenMan m_seenOther m_seenAt m_seenGreener m_s m_aside m_before m_marked m_undone m_isLaid m_more m_row' m_bestRow m_greenerBy K))) → XC (xF L xs) xmeths (d + 6 + r) 244 [.ref 169, .int y1, .int (nI he), .int (nI w), .int y2] (clsW pn pc tok ship nn tl draft vd log trial sta says seed past marks (mdlX m_thrown m_taped m_size m_place m_begin m_token m_word m_told m_wrong m_code m_toldLines m_given m_fresh m_done m_odd m_bestRank m_leastSpray m_g m_tape m_ship m_manName m_postName m_kind m_greenTold m_hands m_spray m_holds m_sea m_lineFrom m_lineTo m_codes m_opened m_compared m_kept m_keptBy m_ahead m_against m_sum m_sumBy m_term m_termBy m_byNot m_valueOf m_lines m_lineWhat m_lineA m_lineB m_seens m_seenMan m_seenOther m_seenAt m_seenGreener m_s m_aside m_before m_marked m_undone m_isLaid m_more m_row m_bestRow m_greenerBy K)) Q := by
  have n6 := so.n6
  have p4 := so.p4
  intro r
  induction r with
  | zero =>
    intro _ Q m_s m_before m_kept m_keptBy m_ahead m_against m_sum m_sumBy m_term m_termBy m_byNot m_valueOf m_more m_row m_bestRow m_bestRank m_leastSpray pl row free spr x y1 y2 hy1 hy2 hs rs hrow hpl hfree bm h
    subst hy2
    exact m_leaf so ms gg ht hod hhe hw hy1 (by omega) rs hrow bm (fun m_s m_before m_kept m_keptBy m_ahead m_against m_sum m_sumBy m_term m_termBy m_byNot m_valueOf m_more m_bestRow m_bestRank m_leastSpray rs bm => h m_s m_before m_kept m_keptBy m_ahead m_against m_sum m_sumBy m_term m_termBy m_byNot m_valueOf m_more m_row m_bestRow m_bestRank m_leastSpray rs (fun k hk => rfl) bm)
  | succ r ihr =>
    intro hr Q m_s m_before m_kept m_keptBy m_ahead m_against m_sum m_sumBy m_term m_termBy m_byNot m_valueOf m_more m_row m_bestRow m_bestRank m_leastSpray pl row free spr x y1 y2 hy1 hy2 hs rs hrow hpl hfree bm h
    subst hy1 hy2
    have ihr := ihr (by omega)
    obtain ⟨lv, hlv⟩ : ∃ lv, d + 6 + r = lv + 1 := ⟨d + 5 + r, by omega⟩
    show XC (xF L xs) xmeths ((d + 6 + r) + 1) _ _ _ _
    rw [hlv] at ihr ⊢
    have en : n - r = (n - (r + 1)) + 1 := by omega
    rw [en] at ihr
    rw [dealS] at h
    generalize hj0 : n - (r + 1) = j0 at *
    have hj : j0 < n := by omega
    have epl : pl j0 = -1 := hpl j0 (by omega) hj
    generalize hf : (fun b x => if 0 < free b then dealS (rkS ship A.g n z A.t w he) sp n p r (upd row j0 (nI b)) (fun c => if c = b then free b - 1 else free c) (spr + sp b) x else x) = f at h
    refine ⟨nb rfl, xgo [74] 60 ⟨vp_in_nI (n := 0) (by decide) (by decide), ?_⟩⟩
    refine pk_ne j0 n (fun _ => ⟨nb rfl, ?_⟩) (fun q => by omega) rfl ms.men (by omega) (by omega)
    refine up_to (P := fun b => ∀ m_s m_before m_kept m_keptBy m_ahead m_against m_sum m_sumBy m_term m_termBy m_byNot m_valueOf m_more m_row' m_bestRow m_bestRank m_leastSpray, RS m_s n (A.g, pl, A.su, A.t) → (∀ k, k < j0 → m_row' k = m_row k) → BM m_bestRank m_leastSpray m_bestRow n (iterP f b x) → XWp (xF L xs) none xP244 (XC (xF L xs) xmeths (lv + 1)) Q 74 [orf 169, oi (nI j0), oi (nI he), oi (nI w), oi (nI spr), oi (nI b), none] [] (clsW pn pc tok ship nn tl draft vd log trial sta says seed past marks (mdlX m_thrown m_taped m_size m_place m_begin m_token m_word m_told m_wrong m_code m_toldLines m_given m_fresh m_done m_odd m_bestRank m_leastSpray m_g m_tape m_ship m_manName m_postName m_kind m_greenTold m_hands m_spray m_holds m_sea m_lineFrom m_lineTo m_codes m_opened m_compared m_kept m_keptBy m_ahead m_against m_sum m_sumBy m_term m_termBy m_byNot m_valueOf m_lines m_lineWhat m_lineA m_lineB m_seens m_seenMan m_seenOther m_seenAt m_seenGreener m_s m_aside m_before m_marked m_undone m_isLaid m_more m_row' m_bestRow m_greenerBy K))) (n := p) (fun b hb ih m_s m_before m_kept m_keptBy m_ahead m_against m_sum m_sumBy m_term m_termBy m_byNot m_valueOf m_more m_row' m_bestRow m_bestRank m_leastSpray rs hrow' bm => xgo [74, 116, 124] 60 ⟨vp_in_nI (n := 1) (by decide) (by decide), ?_⟩) m_s m_before m_kept m_keptBy m_ahead m_against m_sum m_sumBy m_term m_termBy m_byNot m_valueOf m_more m_row m_bestRow m_bestRank m_leastSpray rs (fun k hk => rfl) bm
    refine pk_le p b (fun q => ?_) (fun q => ?_) ms.posts rfl (by omega) (by omega)
    · have e : b = p := by omega
      subst e
      refine ⟨vp_in_nI (by omega) (by omega), ?_⟩
      rw [nI_clamp (by omega), st_row]
      refine ⟨rfl, nb rfl, ihr _ m_s m_before m_kept m_keptBy m_ahead m_against m_sum m_sumBy m_term m_termBy m_byNot m_valueOf m_more (upd m_row' j0 (Int32.ofInt (-1))) m_bestRow m_bestRank m_leastSpray pl (upd row j0 (-1)) free spr (iterP f b x) _ _ (nI_succ j0).symm rfl (by omega) rs (fun k hk => ?_) (fun k h1 h2 => hpl k (by omega) h2) hfree bm (fun m_s m_before m_kept m_keptBy m_ahead m_against m_sum m_sumBy m_term m_termBy m_byNot m_valueOf m_more m_row2 m_bestRow m_bestRank m_leastSpray rs hr2 bm => ⟨rfl, h m_s m_before m_kept m_keptBy m_ahead m_against m_sum m_sumBy m_term m_termBy m_byNot m_valueOf m_more m_row2 m_bestRow m_bestRank m_leastSpray rs (fun k hk => ?_) bm⟩)⟩
      · by_cases y : k = j0
        · subst y
          rw [pk_us, pk_us]
          exact ⟨rfl, epl, Or.inl rfl⟩
        · rw [pk_un y, pk_un y, hrow' k (by omega)]
          exact hrow k (by omega)
      · rw [hr2 k (by omega), pk_un (by omega)]
        exact hrow' k hk
    · have ih := ih q
      rw [iterP] at ih
      have hfb := hfree b q
      have ⟨hh1, hh2⟩ := hhd b q
      have ⟨hs1, hs2⟩ := hsp b q
      have a124 : ∀ m_s m_before m_kept m_keptBy m_ahead m_against m_sum m_sumBy m_term m_termBy m_byNot m_valueOf m_more m_row' m_bestRow m_bestRank m_leastSpray, RS m_s n (A.g, pl, A.su, A.t) → (∀ k, k < j0 → m_row' k = m_row k) → BM m_bestRank m_leastSpray m_bestRow n (f b (iterP f b x)) → XWp (xF L xs) none xP244 (XC (xF L xs) xmeths (lv + 1)) Q 124 [orf 169, oi (nI j0), oi (nI he), oi (nI w), oi (nI spr), oi (nI b), none] [] (clsW pn pc tok ship nn tl draft vd log trial sta says seed past marks (mdlX m_thrown m_taped m_size m_place m_begin m_token m_word m_told m_wrong m_code m_toldLines m_given m_fresh m_done m_odd m_bestRank m_leastSpray m_g m_tape m_ship m_manName m_postName m_kind m_greenTold m_hands m_spray m_holds m_sea m_lineFrom m_lineTo m_codes m_opened m_compared m_kept m_keptBy m_ahead m_against m_sum m_sumBy m_term m_termBy m_byNot m_valueOf m_lines m_lineWhat m_lineA m_lineB m_seens m_seenMan m_seenOther m_seenAt m_seenGreener m_s m_aside m_before m_marked m_undone m_isLaid m_more m_row' m_bestRow m_greenerBy K)) := by
        intro m_s m_before m_kept m_keptBy m_ahead m_against m_sum m_sumBy m_term m_termBy m_byNot m_valueOf m_more m_row' m_bestRow m_bestRank m_leastSpray rs hr bm
        have ih := ih m_s m_before m_kept m_keptBy m_ahead m_against m_sum m_sumBy m_term m_termBy m_byNot m_valueOf m_more m_row' m_bestRow m_bestRank m_leastSpray rs hr bm
        rw [nI_succ] at ih
        exact xgo [74] 10 ih
      refine ⟨rfl, nb rfl, m_standing n6 ms.men rs ⟨rfl, nb rfl, m_bset n6 ⟨vp_in_nI (by omega) (by omega), ?_⟩⟩⟩
      rw [nI_clamp (by omega)]
      have eh : m_holds b = nI (hd b) := (ms.holds b q).trans hh1
      refine pk_lt (cnt (fun o => decide (pl o = nI b)) n) (hd b) (fun q2 => ?_) (fun q2 => ?_) rfl eh (by omega) (by omega)
      · have efb : f b (iterP f b x) = dealS (rkS ship A.g n z A.t w he) sp n p r (upd row j0 (nI b)) (fun c => if c = b then free b - 1 else free c) (spr + sp b) (iterP f b x) := by
          conv => lhs; rw [← hf]
          simp only
          rw [if_pos (by omega), hf]
        refine ⟨vp_in_nI (by omega) (by omega), ?_⟩
        rw [nI_clamp (by omega), st_row]
        refine ⟨show vp_in (Int32.ofInt 8 + nI j0) 14 from i8 j0 ▸ vp_in_nI (by omega) (by omega), ?_⟩
        rw [i8, nI_clamp (by omega), st_s]
        refine ⟨vp_in_nI (by omega) (by omega), ?_⟩
        rw [nI_clamp (by omega)]
        have r1 := RS.setP (x := nI b + 1) (y := nI b) rs hj n6 rfl
        suffices a116 : ∀ y2 y1, y2 = nI (spr + sp b) → y1 = nI (j0 + 1) → XWp (xF L xs) none xP244 (XC (xF L xs) xmeths (lv + 1)) Q 116 [orf 169, oi (nI j0), oi (nI he), oi (nI w), oi (nI spr), oi (nI b), none] [.int y2, .int (nI w), .int (nI he), .int y1, .ref 169] (clsW pn pc tok ship nn tl draft vd log trial sta says seed past marks (mdlX m_thrown m_taped m_size m_place m_begin m_token m_word m_told m_wrong m_code m_toldLines m_given m_fresh m_done m_odd m_bestRank m_leastSpray m_g m_tape m_ship m_manName m_postName m_kind m_greenTold m_hands m_spray m_holds m_sea m_lineFrom m_lineTo m_codes m_opened m_compared m_kept m_keptBy m_ahead m_against m_sum m_sumBy m_term m_termBy m_byNot m_valueOf m_lines m_lineWhat m_lineA m_lineB m_seens m_seenMan m_seenOther m_seenAt m_seenGreener (upd m_s (8 + j0) (nI b + 1)) m_aside m_before m_marked m_undone m_isLaid m_more (upd m_row' j0 (nI b)) m_bestRow m_greenerBy K)) from a116 _ _ (by rw [← nI_add, ← hs1, ← ms.spray b q]) (nI_succ j0).symm
        intro y2 y1 ey2 ey1
        refine xgo [124] 60 ⟨rfl, nb rfl, ihr _ (upd m_s (8 + j0) (nI b + 1)) m_before m_kept m_keptBy m_ahead m_against m_sum m_sumBy m_term m_termBy m_byNot m_valueOf m_more (upd m_row' j0 (nI b)) m_bestRow m_bestRank m_leastSpray (upd pl j0 (nI b)) (upd row j0 (nI b)) (fun c => if c = b then free b - 1 else free c) (spr + sp b) (iterP f b x) y1 y2 ey1 ey2 (by omega) r1 (fun k hk => ?_) (fun k h1 h2 => ?_) (fun c hc => ?_) bm (fun m_s m_before m_kept m_keptBy m_ahead m_against m_sum m_sumBy m_term m_termBy m_byNot m_valueOf m_more m_row2 m_bestRow m_bestRank m_leastSpray rs hr2 bm => ?_)⟩
        · by_cases y : k = j0
          · subst y
            rw [pk_us, pk_us, pk_us]
            exact ⟨rfl, rfl, Or.inr ⟨b, q, rfl⟩⟩
          · rw [pk_un y, pk_un y, pk_un y, hrow' k (by omega)]
            exact hrow k (by omega)
        · rw [pk_un (by omega)]
          exact hpl k (by omega) h2
        · rw [cnt_upd hj (by omega) (by omega) epl]
          have := hfree c hc
          by_cases y : c = b
          · subst y
            simp only [if_true]
            omega
          · simp only [if_neg y]
            omega
        · refine ⟨show vp_in (Int32.ofInt 8 + nI j0) 14 from i8 j0 ▸ vp_in_nI (by omega) (by omega), ?_⟩
          rw [i8, nI_clamp (by omega), st_s]
          refine a124 _ m_before m_kept m_keptBy m_ahead m_against m_sum m_sumBy m_term m_termBy m_byNot m_valueOf m_more m_row2 m_bestRow m_bestRank m_leastSpray ((RS.setP (x := Int32.ofInt 0) (y := -1) rs hj n6 (by decide)).congr (fun k hk => rfl) (fun k hk => ?_) rfl rfl) (fun k hk => ?_) (by rw [efb]; exact bm)
          · show upd (upd pl j0 (nI b)) j0 (-1) k = pl k
            by_cases y : k = j0
            · rw [y, pk_us, epl]
            · rw [pk_un y, pk_un y]
          · rw [hr2 k (by omega), pk_un (by omega)]
            exact hrow' k hk
      · have efb : f b (iterP f b x) = iterP f b x := by
          conv => lhs; rw [← hf]
          simp only
          rw [if_neg (by omega), hf]
        exact a124 m_s m_before m_kept m_keptBy m_ahead m_against m_sum m_sumBy m_term m_termBy m_byNot m_valueOf m_more m_row' m_bestRow m_bestRank m_leastSpray rs hrow' (by rw [efb]; exact bm)
end XMD
