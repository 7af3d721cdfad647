/-! the reference: what is done to a row -/
theorem RS.setG {s : Fn} {n k : Nat} {A : TA} {x : Int32} (h : RS s n A) (hk : k < n) (hn : n ≤ 6) : RS (upd s (2 + k) x) n (upd A.g k x, A.p, A.su, A.t) := by
  refine ⟨by rw [pk_un (by omega)]; exact h.over, by rw [pk_un (by omega)]; exact h.sucked, fun j hj => ?_, fun j hj => by rw [pk_un (by omega)]; exact h.place j hj, fun j h1 h2 => by rw [pk_un (by omega)]; exact h.green0 j h1 h2⟩
  show upd s (2 + k) x (2 + j) = upd A.g k x j
  by_cases y : j = k
  · subst y; rw [pk_us, pk_us]
  · rw [pk_un (by omega), pk_un y]; exact h.green j hj
theorem RS.setP {s : Fn} {n k : Nat} {A : TA} {x y : Int32} (h : RS s n A) (hk : k < n) (hn : n ≤ 6) (e : x = y + 1) : RS (upd s (8 + k) x) n (A.g, upd A.p k y, A.su, A.t) := by
  refine ⟨by rw [pk_un (by omega)]; exact h.over, by rw [pk_un (by omega)]; exact h.sucked, fun j hj => by rw [pk_un (by omega)]; exact h.green j hj, fun j hj => ?_, fun j h1 h2 => by rw [pk_un (by omega)]; exact h.green0 j h1 h2⟩
  show upd s (8 + k) x (8 + j) = upd A.p k y j + 1
  by_cases z : j = k
  · subst z; rw [pk_us, pk_us]; exact e
  · rw [pk_un (by omega), pk_un z]; exact h.place j hj
theorem RS.setS {s : Fn} {n a : Nat} {A : TA} {x : Int32} (h : RS s n A) (hn : n ≤ 6) (e : x = nI a) : RS (upd s 1 x) n (A.g, A.p, a, A.t) := ⟨by rw [pk_un (by omega)]; exact h.over, by rw [pk_us]; exact e, fun j hj => by rw [pk_un (by omega)]; exact h.green j hj, fun j hj => by rw [pk_un (by omega)]; exact h.place j hj, fun j h1 h2 => by rw [pk_un (by omega)]; exact h.green0 j h1 h2⟩
theorem RS.setT {s : Fn} {n a : Nat} {A : TA} {x : Int32} (h : RS s n A) (hn : n ≤ 6) (e : x = nI a) : RS (upd s 0 x) n (A.g, A.p, A.su, a) := ⟨by rw [pk_us]; exact e, by rw [pk_un (by omega)]; exact h.sucked, fun j hj => by rw [pk_un (by omega)]; exact h.green j hj, fun j hj => by rw [pk_un (by omega)]; exact h.place j hj, fun j h1 h2 => by rw [pk_un (by omega)]; exact h.green0 j h1 h2⟩
theorem RS.congr {s : Fn} {n : Nat} {A B : TA} (h : RS s n A) (hg : eqN n A.g B.g) (hp : eqN n A.p B.p) (hs : A.su = B.su) (ht : A.t = B.t) : RS s n B := ⟨ht ▸ h.over, hs ▸ h.sucked, fun k hk => (h.green k hk).trans (hg k hk), fun k hk => by rw [← hp k hk]; exact h.place k hk, h.green0⟩
def mostV (g : Fn) : Nat → Int32
  | 0 => 0
  | n + 1 => mx (mostV g n) (g n)
theorem most_bst {g : Fn} {n b : Nat} (hb : b < n) (h0 : 0 ≤ g b) (hmax : ∀ o, o < n → g o ≤ g b) : mostV g n = g b := by
  have key : ∀ m, m ≤ n → mostV g m ≤ g b ∧ (b < m → g b ≤ mostV g m) := by
    intro m
    induction m with
    | zero => exact fun _ => ⟨h0, fun h => absurd h (Nat.not_lt_zero b)⟩
    | succ m ih =>
      intro hm
      have ⟨i1, i2⟩ := ih (by omega)
      have i3 := hmax m (by omega)
      simp only [mostV, mx]
      split
      · rename_i q
        refine ⟨i3, fun hbm => ?_⟩
        rcases Nat.lt_or_ge b m with y | y
        · exact Int32.le_trans (i2 y) (Int32.le_of_lt q)
        · have e : b = m := by omega
          rw [e]; exact Int32.le_refl _
      · rename_i q
        refine ⟨i1, fun hbm => ?_⟩
        rcases Nat.lt_or_ge b m with y | y
        · exact i2 y
        · have e : b = m := by omega
          rw [e]; exact Int32.not_lt.mp q
  have ⟨k1, k2⟩ := key n (Nat.le_refl n)
  exact Int32.le_antisymm k1 (k2 hb)
theorem sum6 {s g : Fn} {n : Nat} (hn : n ≤ 6) (h1 : ∀ k, k < n → s (2 + k) = g k) (h2 : ∀ k, n ≤ k → k < 6 → s (2 + k) = 0) : sumF (fun k => s (2 + k)) 6 = sumF g n := by
  have key : ∀ d, n + d ≤ 6 → sumF (fun k => s (2 + k)) (n + d) = sumF g n := by
    intro d
    induction d with
    | zero => exact fun _ => sumF_congr n h1
    | succ d ih =>
      intro hd
      have e : n + (d + 1) = (n + d) + 1 := by omega
      rw [e, sumF, h2 (n + d) (by omega) (by omega), ih (by omega)]
      exact Int32.add_zero _
  have := key (6 - n) (by omega)
  rw [show n + (6 - n) = 6 by omega] at this
  exact this
theorem cpy_succ {f g : Fn} {a b j : Nat} : va_cpy f g a b (j + 1) = upd (va_cpy f g a b j) (b + j) (f (a + j)) := by
  funext k
  simp only [va_cpy, upd]
  by_cases y : k = b + j
  · subst y
    rw [if_pos rfl, if_pos ⟨by omega, by omega⟩]
    congr 1
    omega
  · rw [if_neg y]
    by_cases y2 : b ≤ k ∧ k < b + j
    · rw [if_pos y2, if_pos ⟨y2.1, by omega⟩]
    · rw [if_neg y2, if_neg (fun z => y2 ⟨z.1, by omega⟩)]
theorem cpy_zero {f g : Fn} {a b : Nat} : va_cpy f g a b 0 = g := by
  funext k
  simp only [va_cpy]
  rw [if_neg (by omega)]
theorem RS.cpy {s s' : Fn} {n a : Nat} {A : TA} (h : RS (fun k => s (a + k)) n A) (hn : n ≤ 6) : RS (va_cpy s s' a 0 14) n A := by
  have e : ∀ k, k < 14 → va_cpy s s' a 0 14 k = s (a + k) := fun k hk => by
    rw [pk_cpy_in (Nat.zero_le k) (by omega)]
    rfl
  exact ⟨(e 0 (by omega)).trans h.over, (e 1 (by omega)).trans h.sucked, fun k hk => (e (2 + k) (by omega)).trans (h.green k hk), fun k hk => (e (8 + k) (by omega)).trans (h.place k hk), fun k h1 h2 => (e (2 + k) (by omega)).trans (h.green0 k h1 h2)⟩
theorem RS.cpyTo {s s' : Fn} {n b : Nat} {A : TA} (h : RS s n A) (hn : n ≤ 6) : RS (fun k => va_cpy s s' 0 b 14 (b + k)) n A := by
  have e : ∀ k, k < 14 → va_cpy s s' 0 b 14 (b + k) = s k := fun k hk => by
    rw [pk_cpy_in (by omega) (by omega)]
    congr 1
    omega
  exact ⟨(e 0 (by omega)).trans h.over, (e 1 (by omega)).trans h.sucked, fun k hk => (e (2 + k) (by omega)).trans (h.green k hk), fun k hk => (e (8 + k) (by omega)).trans (h.place k hk), fun k h1 h2 => (e (2 + k) (by omega)).trans (h.green0 k h1 h2)⟩
section XMO
variable {L : Nat} {xs : Nat → Int32} {d : Nat} {Q : XQt} {pn pc : Int32} {tok : TTok} {ship : TShip} {nn : Int64} {tl : Int32} {draft : TShip} {vd : TVoy} {log : TLog} {trial : TCrew} {sta : TSta} {says : Fn} {seed : Int64} {past : Nat → TCrew} {marks : Nat → TLog} {K : XWd}
variable {m_thrown : Int32} {m_taped : Int32} {m_size : Int32} {m_place : Int32} {m_begin : Int32} {m_token : Int32} {m_word : Int64} {m_told : Int32} {m_wrong : Int32} {m_code : Int32} {m_toldLines : Int32} {m_given : Int32} {m_fresh : Int64} {m_done : Int32} {m_odd : Int32} {m_bestRank : Int32} {m_leastSpray : Int32} {m_g : Int64} {m_tape : Fn} {m_ship : Fn} {m_manName : Fl} {m_postName : Fl} {m_kind : Fn} {m_greenTold : Fn} {m_hands : Fn} {m_spray : Fn} {m_holds : Fn} {m_sea : Fn} {m_lineFrom : Fn} {m_lineTo : Fn} {m_codes : Fn} {m_opened : Fn} {m_compared : Fn} {m_kept : Fn} {m_keptBy : Fn} {m_ahead : Fn} {m_against : Fn} {m_sum : Fn} {m_sumBy : Fn} {m_term : Fn} {m_termBy : Fn} {m_byNot : Fn} {m_valueOf : Fn} {m_lines : Fn} {m_lineWhat : Fn} {m_lineA : Fn} {m_lineB : Fn} {m_seens : Fn} {m_seenMan : Fn} {m_seenOther : Fn} {m_seenAt : Fn} {m_seenGreener : Fn} {m_s : Fn} {m_aside : Fn} {m_before : Fn} {m_marked : Fn} {m_undone : Fn} {m_isLaid : Fn} {m_more : Fn} {m_row : Fn} {m_bestRow : Fn} {m_greenerBy : Fl}
variable {n p z : Nat} {A : TA}
theorem m_copies_204_205 {a b : Nat} {xa xb : Int32} (ea : xa = nI a) (eb : xb = nI b) (ha : a + 14 ≤ 14) (hb : b + 14 ≤ 14) (h : Q none (clsW pn pc tok ship nn tl draft vd log trial sta says seed past marks (mdlX m_thrown m_taped m_size m_place m_begin m_token m_word m_told m_wrong m_code m_toldLines m_given m_fresh m_done m_odd m_bestRank m_leastSpray m_g m_tape m_ship m_manName m_postName m_kind m_greenTold m_hands m_spray m_holds m_sea m_lineFrom m_lineTo m_codes m_opened m_compared m_kept m_keptBy m_ahead m_against m_sum m_sumBy m_term m_termBy m_byNot m_valueOf m_lines m_lineWhat m_lineA m_lineB m_seens m_seenMan m_seenOther m_seenAt m_seenGreener m_s (va_cpy m_s m_aside a b 14) m_before m_marked m_undone m_isLaid m_more m_row m_bestRow m_greenerBy K))) : XC (xF L xs) xmeths (d + 1) 211 [.ref 204, .int xa, .ref 205, .int xb] (clsW pn pc tok ship nn tl draft vd log trial sta says seed past marks (mdlX m_thrown m_taped m_size m_place m_begin m_token m_word m_told m_wrong m_code m_toldLines m_given m_fresh m_done m_odd m_bestRank m_leastSpray m_g m_tape m_ship m_manName m_postName m_kind m_greenTold m_hands m_spray m_holds m_sea m_lineFrom m_lineTo m_codes m_opened m_compared m_kept m_keptBy m_ahead m_against m_sum m_sumBy m_term m_termBy m_byNot m_valueOf m_lines m_lineWhat m_lineA m_lineB m_seens m_seenMan m_seenOther m_seenAt m_seenGreener m_s m_aside m_before m_marked m_undone m_isLaid m_more m_row m_bestRow m_greenerBy K)) Q := by
  subst ea eb
  refine ⟨nb rfl, xgo [2] 20 ⟨nb rfl, ?_⟩⟩
  have start := up_to (P := fun j => XWp (xF L xs) none xP211 (XC (xF L xs) xmeths d) Q 2 [orf 204, oi (nI a), orf 205, oi (nI b), oi (nI j)] [] (clsW pn pc tok ship nn tl draft vd log trial sta says seed past marks (mdlX m_thrown m_taped m_size m_place m_begin m_token m_word m_told m_wrong m_code m_toldLines m_given m_fresh m_done m_odd m_bestRank m_leastSpray m_g m_tape m_ship m_manName m_postName m_kind m_greenTold m_hands m_spray m_holds m_sea m_lineFrom m_lineTo m_codes m_opened m_compared m_kept m_keptBy m_ahead m_against m_sum m_sumBy m_term m_termBy m_byNot m_valueOf m_lines m_lineWhat m_lineA m_lineB m_seens m_seenMan m_seenOther m_seenAt m_seenGreener m_s (va_cpy m_s m_aside a b j) m_before m_marked m_undone m_isLaid m_more m_row m_bestRow m_greenerBy K))) (n := 14) (fun j hj ih => xgo [2] 40 ?_)
  · rw [cpy_zero] at start
    exact start
  · refine pk_le 14 j (fun q => ?_) (fun q => ?_) rfl rfl (by omega) (by omega)
    · have e : j = 14 := by omega
      rw [← e] at h
      exact ⟨rfl, h⟩
    · have ih := ih q
      rw [cpy_succ, nI_succ] at ih
      refine ⟨show vp_in (nI a + nI j) 14 from nI_add a j ▸ vp_in_nI (by omega) (by omega), show vp_in (nI b + nI j) 14 from nI_add b j ▸ vp_in_nI (by omega) (by omega), ?_⟩
      rw [nI_add, nI_add, nI_clamp (by omega), nI_clamp (by omega), st_aside]
      exact ih
theorem m_copies_205_204 {a b : Nat} {xa xb : Int32} (ea : xa = nI a) (eb : xb = nI b) (ha : a + 14 ≤ 14) (hb : b + 14 ≤ 14) (h : Q none (clsW pn pc tok ship nn tl draft vd log trial sta says seed past marks (mdlX m_thrown m_taped m_size m_place m_begin m_token m_word m_told m_wrong m_code m_toldLines m_given m_fresh m_done m_odd m_bestRank m_leastSpray m_g m_tape m_ship m_manName m_postName m_kind m_greenTold m_hands m_spray m_holds m_sea m_lineFrom m_lineTo m_codes m_opened m_compared m_kept m_keptBy m_ahead m_against m_sum m_sumBy m_term m_termBy m_byNot m_valueOf m_lines m_lineWhat m_lineA m_lineB m_seens m_seenMan m_seenOther m_seenAt m_seenGreener (va_cpy m_aside m_s a b 14) m_aside m_before m_marked m_undone m_isLaid m_more m_row m_bestRow m_greenerBy K))) : XC (xF L xs) xmeths (d + 1) 211 [.ref 205, .int xa, .ref 204, .int xb] (clsW pn pc tok ship nn tl draft vd log trial sta says seed past marks (mdlX m_thrown m_taped m_size m_place m_begin m_token m_word m_told m_wrong m_code m_toldLines m_given m_fresh m_done m_odd m_bestRank m_leastSpray m_g m_tape m_ship m_manName m_postName m_kind m_greenTold m_hands m_spray m_holds m_sea m_lineFrom m_lineTo m_codes m_opened m_compared m_kept m_keptBy m_ahead m_against m_sum m_sumBy m_term m_termBy m_byNot m_valueOf m_lines m_lineWhat m_lineA m_lineB m_seens m_seenMan m_seenOther m_seenAt m_seenGreener m_s m_aside m_before m_marked m_undone m_isLaid m_more m_row m_bestRow m_greenerBy K)) Q := by
  subst ea eb
  refine ⟨nb rfl, xgo [2] 20 ⟨nb rfl, ?_⟩⟩
  have start := up_to (P := fun j => XWp (xF L xs) none xP211 (XC (xF L xs) xmeths d) Q 2 [orf 205, oi (nI a), orf 204, oi (nI b), oi (nI j)] [] (clsW pn pc tok ship nn tl draft vd log trial sta says seed past marks (mdlX m_thrown m_taped m_size m_place m_begin m_token m_word m_told m_wrong m_code m_toldLines m_given m_fresh m_done m_odd m_bestRank m_leastSpray m_g m_tape m_ship m_manName m_postName m_kind m_greenTold m_hands m_spray m_holds m_sea m_lineFrom m_lineTo m_codes m_opened m_compared m_kept m_keptBy m_ahead m_against m_sum m_sumBy m_term m_termBy m_byNot m_valueOf m_lines m_lineWhat m_lineA m_lineB m_seens m_seenMan m_seenOther m_seenAt m_seenGreener (va_cpy m_aside m_s a b j) m_aside m_before m_marked m_undone m_isLaid m_more m_row m_bestRow m_greenerBy K))) (n := 14) (fun j hj ih => xgo [2] 40 ?_)
  · rw [cpy_zero] at start
    exact start
  · refine pk_le 14 j (fun q => ?_) (fun q => ?_) rfl rfl (by omega) (by omega)
    · have e : j = 14 := by omega
      rw [← e] at h
      exact ⟨rfl, h⟩
    · have ih := ih q
      rw [cpy_succ, nI_succ] at ih
      refine ⟨show vp_in (nI a + nI j) 14 from nI_add a j ▸ vp_in_nI (by omega) (by omega), show vp_in (nI b + nI j) 14 from nI_add b j ▸ vp_in_nI (by omega) (by omega), ?_⟩
      rw [nI_add, nI_add, nI_clamp (by omega), nI_clamp (by omega), st_s]
      exact ih
theorem m_copies_204_206 {a b : Nat} {xa xb : Int32} (ea : xa = nI a) (eb : xb = nI b) (ha : a + 14 ≤ 14) (hb : b + 14 ≤ 14) (h : Q none (clsW pn pc tok ship nn tl draft vd log trial sta says seed past marks (mdlX m_thrown m_taped m_size m_place m_begin m_token m_word m_told m_wrong m_code m_toldLines m_given m_fresh m_done m_odd m_bestRank m_leastSpray m_g m_tape m_ship m_manName m_postName m_kind m_greenTold m_hands m_spray m_holds m_sea m_lineFrom m_lineTo m_codes m_opened m_compared m_kept m_keptBy m_ahead m_against m_sum m_sumBy m_term m_termBy m_byNot m_valueOf m_lines m_lineWhat m_lineA m_lineB m_seens m_seenMan m_seenOther m_seenAt m_seenGreener m_s m_aside (va_cpy m_s m_before a b 14) m_marked m_undone m_isLaid m_more m_row m_bestRow m_greenerBy K))) : XC (xF L xs) xmeths (d + 1) 211 [.ref 204, .int xa, .ref 206, .int xb] (clsW pn pc tok ship nn tl draft vd log trial sta says seed past marks (mdlX m_thrown m_taped m_size m_place m_begin m_token m_word m_told m_wrong m_code m_toldLines m_given m_fresh m_done m_odd m_bestRank m_leastSpray m_g m_tape m_ship m_manName m_postName m_kind m_greenTold m_hands m_spray m_holds m_sea m_lineFrom m_lineTo m_codes m_opened m_compared m_kept m_keptBy m_ahead m_against m_sum m_sumBy m_term m_termBy m_byNot m_valueOf m_lines m_lineWhat m_lineA m_lineB m_seens m_seenMan m_seenOther m_seenAt m_seenGreener m_s m_aside m_before m_marked m_undone m_isLaid m_more m_row m_bestRow m_greenerBy K)) Q := by
  subst ea eb
  refine ⟨nb rfl, xgo [2] 20 ⟨nb rfl, ?_⟩⟩
  have start := up_to (P := fun j => XWp (xF L xs) none xP211 (XC (xF L xs) xmeths d) Q 2 [orf 204, oi (nI a), orf 206, oi (nI b), oi (nI j)] [] (clsW pn pc tok ship nn tl draft vd log trial sta says seed past marks (mdlX m_thrown m_taped m_size m_place m_begin m_token m_word m_told m_wrong m_code m_toldLines m_given m_fresh m_done m_odd m_bestRank m_leastSpray m_g m_tape m_ship m_manName m_postName m_kind m_greenTold m_hands m_spray m_holds m_sea m_lineFrom m_lineTo m_codes m_opened m_compared m_kept m_keptBy m_ahead m_against m_sum m_sumBy m_term m_termBy m_byNot m_valueOf m_lines m_lineWhat m_lineA m_lineB m_seens m_seenMan m_seenOther m_seenAt m_seenGreener m_s m_aside (va_cpy m_s m_before a b j) m_marked m_undone m_isLaid m_more m_row m_bestRow m_greenerBy K))) (n := 14) (fun j hj ih => xgo [2] 40 ?_)
  · rw [cpy_zero] at start
    exact start
  · refine pk_le 14 j (fun q => ?_) (fun q => ?_) rfl rfl (by omega) (by omega)
    · have e : j = 14 := by omega
      rw [← e] at h
      exact ⟨rfl, h⟩
    · have ih := ih q
      rw [cpy_succ, nI_succ] at ih
      refine ⟨show vp_in (nI a + nI j) 14 from nI_add a j ▸ vp_in_nI (by omega) (by omega), show vp_in (nI b + nI j) 14 from nI_add b j ▸ vp_in_nI (by omega) (by omega), ?_⟩
      rw [nI_add, nI_add, nI_clamp (by omega), nI_clamp (by omega), st_before]
      exact ih
theorem m_copies_206_204 {a b : Nat} {xa xb : Int32} (ea : xa = nI a) (eb : xb = nI b) (ha : a + 14 ≤ 14) (hb : b + 14 ≤ 14) (h : Q none (clsW pn pc tok ship nn tl draft vd log trial sta says seed past marks (mdlX m_thrown m_taped m_size m_place m_begin m_token m_word m_told m_wrong m_code m_toldLines m_given m_fresh m_done m_odd m_bestRank m_leastSpray m_g m_tape m_ship m_manName m_postName m_kind m_greenTold m_hands m_spray m_holds m_sea m_lineFrom m_lineTo m_codes m_opened m_compared m_kept m_keptBy m_ahead m_against m_sum m_sumBy m_term m_termBy m_byNot m_valueOf m_lines m_lineWhat m_lineA m_lineB m_seens m_seenMan m_seenOther m_seenAt m_seenGreener (va_cpy m_before m_s a b 14) m_aside m_before m_marked m_undone m_isLaid m_more m_row m_bestRow m_greenerBy K))) : XC (xF L xs) xmeths (d + 1) 211 [.ref 206, .int xa, .ref 204, .int xb] (clsW pn pc tok ship nn tl draft vd log trial sta says seed past marks (mdlX m_thrown m_taped m_size m_place m_begin m_token m_word m_told m_wrong m_code m_toldLines m_given m_fresh m_done m_odd m_bestRank m_leastSpray m_g m_tape m_ship m_manName m_postName m_kind m_greenTold m_hands m_spray m_holds m_sea m_lineFrom m_lineTo m_codes m_opened m_compared m_kept m_keptBy m_ahead m_against m_sum m_sumBy m_term m_termBy m_byNot m_valueOf m_lines m_lineWhat m_lineA m_lineB m_seens m_seenMan m_seenOther m_seenAt m_seenGreener m_s m_aside m_before m_marked m_undone m_isLaid m_more m_row m_bestRow m_greenerBy K)) Q := by
  subst ea eb
  refine ⟨nb rfl, xgo [2] 20 ⟨nb rfl, ?_⟩⟩
  have start := up_to (P := fun j => XWp (xF L xs) none xP211 (XC (xF L xs) xmeths d) Q 2 [orf 206, oi (nI a), orf 204, oi (nI b), oi (nI j)] [] (clsW pn pc tok ship nn tl draft vd log trial sta says seed past marks (mdlX m_thrown m_taped m_size m_place m_begin m_token m_word m_told m_wrong m_code m_toldLines m_given m_fresh m_done m_odd m_bestRank m_leastSpray m_g m_tape m_ship m_manName m_postName m_kind m_greenTold m_hands m_spray m_holds m_sea m_lineFrom m_lineTo m_codes m_opened m_compared m_kept m_keptBy m_ahead m_against m_sum m_sumBy m_term m_termBy m_byNot m_valueOf m_lines m_lineWhat m_lineA m_lineB m_seens m_seenMan m_seenOther m_seenAt m_seenGreener (va_cpy m_before m_s a b j) m_aside m_before m_marked m_undone m_isLaid m_more m_row m_bestRow m_greenerBy K))) (n := 14) (fun j hj ih => xgo [2] 40 ?_)
  · rw [cpy_zero] at start
    exact start
  · refine pk_le 14 j (fun q => ?_) (fun q => ?_) rfl rfl (by omega) (by omega)
    · have e : j = 14 := by omega
      rw [← e] at h
      exact ⟨rfl, h⟩
    · have ih := ih q
      rw [cpy_succ, nI_succ] at ih
      refine ⟨show vp_in (nI a + nI j) 14 from nI_add a j ▸ vp_in_nI (by omega) (by omega), show vp_in (nI b + nI j) 14 from nI_add b j ▸ vp_in_nI (by omega) (by omega), ?_⟩
      rw [nI_add, nI_add, nI_clamp (by omega), nI_clamp (by omega), st_s]
      exact ih
theorem m_copies_204_208 {a b : Nat} {xa xb : Int32} (ea : xa = nI a) (eb : xb = nI b) (ha : a + 14 ≤ 14) (hb : b + 14 ≤ 224) (h : Q none (clsW pn pc tok ship nn tl draft vd log trial sta says seed past marks (mdlX m_thrown m_taped m_size m_place m_begin m_token m_word m_told m_wrong m_code m_toldLines m_given m_fresh m_done m_odd m_bestRank m_leastSpray m_g m_tape m_ship m_manName m_postName m_kind m_greenTold m_hands m_spray m_holds m_sea m_lineFrom m_lineTo m_codes m_opened m_compared m_kept m_keptBy m_ahead m_against m_sum m_sumBy m_term m_termBy m_byNot m_valueOf m_lines m_lineWhat m_lineA m_lineB m_seens m_seenMan m_seenOther m_seenAt m_seenGreener m_s m_aside m_before m_marked (va_cpy m_s m_undone a b 14) m_isLaid m_more m_row m_bestRow m_greenerBy K))) : XC (xF L xs) xmeths (d + 1) 211 [.ref 204, .int xa, .ref 208, .int xb] (clsW pn pc tok ship nn tl draft vd log trial sta says seed past marks (mdlX m_thrown m_taped m_size m_place m_begin m_token m_word m_told m_wrong m_code m_toldLines m_given m_fresh m_done m_odd m_bestRank m_leastSpray m_g m_tape m_ship m_manName m_postName m_kind m_greenTold m_hands m_spray m_holds m_sea m_lineFrom m_lineTo m_codes m_opened m_compared m_kept m_keptBy m_ahead m_against m_sum m_sumBy m_term m_termBy m_byNot m_valueOf m_lines m_lineWhat m_lineA m_lineB m_seens m_seenMan m_seenOther m_seenAt m_seenGreener m_s m_aside m_before m_marked m_undone m_isLaid m_more m_row m_bestRow m_greenerBy K)) Q := by
  subst ea eb
  refine ⟨nb rfl, xgo [2] 20 ⟨nb rfl, ?_⟩⟩
  have start := up_to (P := fun j => XWp (xF L xs) none xP211 (XC (xF L xs) xmeths d) Q 2 [orf 204, oi (nI a), orf 208, oi (nI b), oi (nI j)] [] (clsW pn pc tok ship nn tl draft vd log trial sta says seed past marks (mdlX m_thrown m_taped m_size m_place m_begin m_token m_word m_told m_wrong m_code m_toldLines m_given m_fresh m_done m_odd m_bestRank m_leastSpray m_g m_tape m_ship m_manName m_postName m_kind m_greenTold m_hands m_spray m_holds m_sea m_lineFrom m_lineTo m_codes m_opened m_compared m_kept m_keptBy m_ahead m_against m_sum m_sumBy m_term m_termBy m_byNot m_valueOf m_lines m_lineWhat m_lineA m_lineB m_seens m_seenMan m_seenOther m_seenAt m_seenGreener m_s m_aside m_before m_marked (va_cpy m_s m_undone a b j) m_isLaid m_more m_row m_bestRow m_greenerBy K))) (n := 14) (fun j hj ih => xgo [2] 40 ?_)
  · rw [cpy_zero] at start
    exact start
  · refine pk_le 14 j (fun q => ?_) (fun q => ?_) rfl rfl (by omega) (by omega)
    · have e : j = 14 := by omega
      rw [← e] at h
      exact ⟨rfl, h⟩
    · have ih := ih q
      rw [cpy_succ, nI_succ] at ih
      refine ⟨show vp_in (nI a + nI j) 14 from nI_add a j ▸ vp_in_nI (by omega) (by omega), show vp_in (nI b + nI j) 224 from nI_add b j ▸ vp_in_nI (by omega) (by omega), ?_⟩
      rw [nI_add, nI_add, nI_clamp (by omega), nI_clamp (by omega), st_undone]
      exact ih
theorem m_copies_208_204 {a b : Nat} {xa xb : Int32} (ea : xa = nI a) (eb : xb = nI b) (ha : a + 14 ≤ 224) (hb : b + 14 ≤ 14) (h : Q none (clsW pn pc tok ship nn tl draft vd log trial sta says seed past marks (mdlX m_thrown m_taped m_size m_place m_begin m_token m_word m_told m_wrong m_code m_toldLines m_given m_fresh m_done m_odd m_bestRank m_leastSpray m_g m_tape m_ship m_manName m_postName m_kind m_greenTold m_hands m_spray m_holds m_sea m_lineFrom m_lineTo m_codes m_opened m_compared m_kept m_keptBy m_ahead m_against m_sum m_sumBy m_term m_termBy m_byNot m_valueOf m_lines m_lineWhat m_lineA m_lineB m_seens m_seenMan m_seenOther m_seenAt m_seenGreener (va_cpy m_undone m_s a b 14) m_aside m_before m_marked m_undone m_isLaid m_more m_row m_bestRow m_greenerBy K))) : XC (xF L xs) xmeths (d + 1) 211 [.ref 208, .int xa, .ref 204, .int xb] (clsW pn pc tok ship nn tl draft vd log trial sta says seed past marks (mdlX m_thrown m_taped m_size m_place m_begin m_token m_word m_told m_wrong m_code m_toldLines m_given m_fresh m_done m_odd m_bestRank m_leastSpray m_g m_tape m_ship m_manName m_postName m_kind m_greenTold m_hands m_spray m_holds m_sea m_lineFrom m_lineTo m_codes m_opened m_compared m_kept m_keptBy m_ahead m_against m_sum m_sumBy m_term m_termBy m_byNot m_valueOf m_lines m_lineWhat m_lineA m_lineB m_seens m_seenMan m_seenOther m_seenAt m_seenGreener m_s m_aside m_before m_marked m_undone m_isLaid m_more m_row m_bestRow m_greenerBy K)) Q := by
  subst ea eb
  refine ⟨nb rfl, xgo [2] 20 ⟨nb rfl, ?_⟩⟩
  have start := up_to (P := fun j => XWp (xF L xs) none xP211 (XC (xF L xs) xmeths d) Q 2 [orf 208, oi (nI a), orf 204, oi (nI b), oi (nI j)] [] (clsW pn pc tok ship nn tl draft vd log trial sta says seed past marks (mdlX m_thrown m_taped m_size m_place m_begin m_token m_word m_told m_wrong m_code m_toldLines m_given m_fresh m_done m_odd m_bestRank m_leastSpray m_g m_tape m_ship m_manName m_postName m_kind m_greenTold m_hands m_spray m_holds m_sea m_lineFrom m_lineTo m_codes m_opened m_compared m_kept m_keptBy m_ahead m_against m_sum m_sumBy m_term m_termBy m_byNot m_valueOf m_lines m_lineWhat m_lineA m_lineB m_seens m_seenMan m_seenOther m_seenAt m_seenGreener (va_cpy m_undone m_s a b j) m_aside m_before m_marked m_undone m_isLaid m_more m_row m_bestRow m_greenerBy K))) (n := 14) (fun j hj ih => xgo [2] 40 ?_)
  · rw [cpy_zero] at start
    exact start
  · refine pk_le 14 j (fun q => ?_) (fun q => ?_) rfl rfl (by omega) (by omega)
    · have e : j = 14 := by omega
      rw [← e] at h
      exact ⟨rfl, h⟩
    · have ih := ih q
      rw [cpy_succ, nI_succ] at ih
      refine ⟨show vp_in (nI a + nI j) 224 from nI_add a j ▸ vp_in_nI (by omega) (by omega), show vp_in (nI b + nI j) 14 from nI_add b j ▸ vp_in_nI (by omega) (by omega), ?_⟩
      rw [nI_add, nI_add, nI_clamp (by omega), nI_clamp (by omega), st_s]
      exact ih
theorem m_copies_204_207 {a b : Nat} {xa xb : Int32} (ea : xa = nI a) (eb : xb = nI b) (ha : a + 14 ≤ 14) (hb : b + 14 ≤ 56) (h : Q none (clsW pn pc tok ship nn tl draft vd log trial sta says seed past marks (mdlX m_thrown m_taped m_size m_place m_begin m_token m_word m_told m_wrong m_code m_toldLines m_given m_fresh m_done m_odd m_bestRank m_leastSpray m_g m_tape m_ship m_manName m_postName m_kind m_greenTold m_hands m_spray m_holds m_sea m_lineFrom m_lineTo m_codes m_opened m_compared m_kept m_keptBy m_ahead m_against m_sum m_sumBy m_term m_termBy m_byNot m_valueOf m_lines m_lineWhat m_lineA m_lineB m_seens m_seenMan m_seenOther m_seenAt m_seenGreener m_s m_aside m_before (va_cpy m_s m_marked a b 14) m_undone m_isLaid m_more m_row m_bestRow m_greenerBy K))) : XC (xF L xs) xmeths (d + 1) 211 [.ref 204, .int xa, .ref 207, .int xb] (clsW pn pc tok ship nn tl draft vd log trial sta says seed past marks (mdlX m_thrown m_taped m_size m_place m_begin m_token m_word m_told m_wrong m_code m_toldLines m_given m_fresh m_done m_odd m_bestRank m_leastSpray m_g m_tape m_ship m_manName m_postName m_kind m_greenTold m_hands m_spray m_holds m_sea m_lineFrom m_lineTo m_codes m_opened m_compared m_kept m_keptBy m_ahead m_against m_sum m_sumBy m_term m_termBy m_byNot m_valueOf m_lines m_lineWhat m_lineA m_lineB m_seens m_seenMan m_seenOther m_seenAt m_seenGreener m_s m_aside m_before m_marked m_undone m_isLaid m_more m_row m_bestRow m_greenerBy K)) Q := by
  subst ea eb
  refine ⟨nb rfl, xgo [2] 20 ⟨nb rfl, ?_⟩⟩
  have start := up_to (P := fun j => XWp (xF L xs) none xP211 (XC (xF L xs) xmeths d) Q 2 [orf 204, oi (nI a), orf 207, oi (nI b), oi (nI j)] [] (clsW pn pc tok ship nn tl draft vd log trial sta says seed past marks (mdlX m_thrown m_taped m_size m_place m_begin m_token m_word m_told m_wrong m_code m_toldLines m_given m_fresh m_done m_odd m_bestRank m_leastSpray m_g m_tape m_ship m_manName m_postName m_kind m_greenTold m_hands m_spray m_holds m_sea m_lineFrom m_lineTo m_codes m_opened m_compared m_kept m_keptBy m_ahead m_against m_sum m_sumBy m_term m_termBy m_byNot m_valueOf m_lines m_lineWhat m_lineA m_lineB m_seens m_seenMan m_seenOther m_seenAt m_seenGreener m_s m_aside m_before (va_cpy m_s m_marked a b j) m_undone m_isLaid m_more m_row m_bestRow m_greenerBy K))) (n := 14) (fun j hj ih => xgo [2] 40 ?_)
  · rw [cpy_zero] at start
    exact start
  · refine pk_le 14 j (fun q => ?_) (fun q => ?_) rfl rfl (by omega) (by omega)
    · have e : j = 14 := by omega
      rw [← e] at h
      exact ⟨rfl, h⟩
    · have ih := ih q
      rw [cpy_succ, nI_succ] at ih
      refine ⟨show vp_in (nI a + nI j) 14 from nI_add a j ▸ vp_in_nI (by omega) (by omega), show vp_in (nI b + nI j) 56 from nI_add b j ▸ vp_in_nI (by omega) (by omega), ?_⟩
      rw [nI_add, nI_add, nI_clamp (by omega), nI_clamp (by omega), st_marked]
      exact ih
theorem m_copies_207_204 {a b : Nat} {xa xb : Int32} (ea : xa = nI a) (eb : xb = nI b) (ha : a + 14 ≤ 56) (hb : b + 14 ≤ 14) (h : Q none (clsW pn pc tok ship nn tl draft vd log trial sta says seed past marks (mdlX m_thrown m_taped m_size m_place m_begin m_token m_word m_told m_wrong m_code m_toldLines m_given m_fresh m_done m_odd m_bestRank m_leastSpray m_g m_tape m_ship m_manName m_postName m_kind m_greenTold m_hands m_spray m_holds m_sea m_lineFrom m_lineTo m_codes m_opened m_compared m_kept m_keptBy m_ahead m_against m_sum m_sumBy m_term m_termBy m_byNot m_valueOf m_lines m_lineWhat m_lineA m_lineB m_seens m_seenMan m_seenOther m_seenAt m_seenGreener (va_cpy m_marked m_s a b 14) m_aside m_before m_marked m_undone m_isLaid m_more m_row m_bestRow m_greenerBy K))) : XC (xF L xs) xmeths (d + 1) 211 [.ref 207, .int xa, .ref 204, .int xb] (clsW pn pc tok ship nn tl draft vd log trial sta says seed past marks (mdlX m_thrown m_taped m_size m_place m_begin m_token m_word m_told m_wrong m_code m_toldLines m_given m_fresh m_done m_odd m_bestRank m_leastSpray m_g m_tape m_ship m_manName m_postName m_kind m_greenTold m_hands m_spray m_holds m_sea m_lineFrom m_lineTo m_codes m_opened m_compared m_kept m_keptBy m_ahead m_against m_sum m_sumBy m_term m_termBy m_byNot m_valueOf m_lines m_lineWhat m_lineA m_lineB m_seens m_seenMan m_seenOther m_seenAt m_seenGreener m_s m_aside m_before m_marked m_undone m_isLaid m_more m_row m_bestRow m_greenerBy K)) Q := by
  subst ea eb
  refine ⟨nb rfl, xgo [2] 20 ⟨nb rfl, ?_⟩⟩
  have start := up_to (P := fun j => XWp (xF L xs) none xP211 (XC (xF L xs) xmeths d) Q 2 [orf 207, oi (nI a), orf 204, oi (nI b), oi (nI j)] [] (clsW pn pc tok ship nn tl draft vd log trial sta says seed past marks (mdlX m_thrown m_taped m_size m_place m_begin m_token m_word m_told m_wrong m_code m_toldLines m_given m_fresh m_done m_odd m_bestRank m_leastSpray m_g m_tape m_ship m_manName m_postName m_kind m_greenTold m_hands m_spray m_holds m_sea m_lineFrom m_lineTo m_codes m_opened m_compared m_kept m_keptBy m_ahead m_against m_sum m_sumBy m_term m_termBy m_byNot m_valueOf m_lines m_lineWhat m_lineA m_lineB m_seens m_seenMan m_seenOther m_seenAt m_seenGreener (va_cpy m_marked m_s a b j) m_aside m_before m_marked m_undone m_isLaid m_more m_row m_bestRow m_greenerBy K))) (n := 14) (fun j hj ih => xgo [2] 40 ?_)
  · rw [cpy_zero] at start
    exact start
  · refine pk_le 14 j (fun q => ?_) (fun q => ?_) rfl rfl (by omega) (by omega)
    · have e : j = 14 := by omega
      rw [← e] at h
      exact ⟨rfl, h⟩
    · have ih := ih q
      rw [cpy_succ, nI_succ] at ih
      refine ⟨show vp_in (nI a + nI j) 56 from nI_add a j ▸ vp_in_nI (by omega) (by omega), show vp_in (nI b + nI j) 14 from nI_add b j ▸ vp_in_nI (by omega) (by omega), ?_⟩
      rw [nI_add, nI_add, nI_clamp (by omega), nI_clamp (by omega), st_s]
      exact ih

theorem m_allGreens (hn : n ≤ 6) (rs : RS m_s n A) (h : Q (some (.int (sumF A.g n))) (clsW pn pc tok ship nn tl draft vd log trial sta says seed past marks (mdlX m_thrown m_taped m_size m_place m_begin m_token m_word m_told m_wrong m_code m_toldLines m_given m_fresh m_done m_odd m_bestRank m_leastSpray m_g m_tape m_ship m_manName m_postName m_kind m_greenTold m_hands m_spray m_holds m_sea m_lineFrom m_lineTo m_codes m_opened m_compared m_kept m_keptBy m_ahead m_against m_sum m_sumBy m_term m_termBy m_byNot m_valueOf m_lines m_lineWhat m_lineA m_lineB m_seens m_seenMan m_seenOther m_seenAt m_seenGreener m_s m_aside m_before m_marked m_undone m_isLaid m_more m_row m_bestRow m_greenerBy K))) : XC (xF L xs) xmeths (d + 1) 229 [.ref 169] (clsW pn pc tok ship nn tl draft vd log trial sta says seed past marks (mdlX m_thrown m_taped m_size m_place m_begin m_token m_word m_told m_wrong m_code m_toldLines m_given m_fresh m_done m_odd m_bestRank m_leastSpray m_g m_tape m_ship m_manName m_postName m_kind m_greenTold m_hands m_spray m_holds m_sea m_lineFrom m_lineTo m_codes m_opened m_compared m_kept m_keptBy m_ahead m_against m_sum m_sumBy m_term m_termBy m_byNot m_valueOf m_lines m_lineWhat m_lineA m_lineB m_seens m_seenMan m_seenOther m_seenAt m_seenGreener m_s m_aside m_before m_marked m_undone m_isLaid m_more m_row m_bestRow m_greenerBy K)) Q := by
  rw [← sum6 hn rs.green rs.green0] at h
  refine ⟨nb rfl, xgo [4] 20 ⟨nb rfl, nb rfl, ?_⟩⟩
  refine up_to (P := fun j => XWp (xF L xs) (some .int) xP229 (XC (xF L xs) xmeths d) Q 4 [orf 169, oi (sumF (fun k => m_s (2 + k)) j), oi (nI j)] [] (clsW pn pc tok ship nn tl draft vd log trial sta says seed past marks (mdlX m_thrown m_taped m_size m_place m_begin m_token m_word m_told m_wrong m_code m_toldLines m_given m_fresh m_done m_odd m_bestRank m_leastSpray m_g m_tape m_ship m_manName m_postName m_kind m_greenTold m_hands m_spray m_holds m_sea m_lineFrom m_lineTo m_codes m_opened m_compared m_kept m_keptBy m_ahead m_against m_sum m_sumBy m_term m_termBy m_byNot m_valueOf m_lines m_lineWhat m_lineA m_lineB m_seens m_seenMan m_seenOther m_seenAt m_seenGreener m_s m_aside m_before m_marked m_undone m_isLaid m_more m_row m_bestRow m_greenerBy K))) (n := 6) (fun j hj ih => xgo [4] 40 ?_)
  refine pk_le 6 j (fun q => ?_) (fun q => ?_) rfl rfl (by omega) (by omega)
  · have e : j = 6 := by omega
    rw [← e] at h
    exact h
  · have ih := ih q
    refine ⟨show vp_in (Int32.ofInt 2 + nI j) 14 from i2 j ▸ vp_in_nI (by omega) (by omega), nb rfl, ?_⟩
    rw [i2, nI_clamp (by omega)]
    rw [sumF, nI_succ] at ih
    exact ih
theorem m_greenest (hn : n ≤ 6) (hm : m_ship 0 = nI n) (rs : RS m_s n A) (h : Q (some (.int (bst A.g n))) (clsW pn pc tok ship nn tl draft vd log trial sta says seed past marks (mdlX m_thrown m_taped m_size m_place m_begin m_token m_word m_told m_wrong m_code m_toldLines m_given m_fresh m_done m_odd m_bestRank m_leastSpray m_g m_tape m_ship m_manName m_postName m_kind m_greenTold m_hands m_spray m_holds m_sea m_lineFrom m_lineTo m_codes m_opened m_compared m_kept m_keptBy m_ahead m_against m_sum m_sumBy m_term m_termBy m_byNot m_valueOf m_lines m_lineWhat m_lineA m_lineB m_seens m_seenMan m_seenOther m_seenAt m_seenGreener m_s m_aside m_before m_marked m_undone m_isLaid m_more m_row m_bestRow m_greenerBy K))) : XC (xF L xs) xmeths (d + 1) 234 [.ref 169] (clsW pn pc tok ship nn tl draft vd log trial sta says seed past marks (mdlX m_thrown m_taped m_size m_place m_begin m_token m_word m_told m_wrong m_code m_toldLines m_given m_fresh m_done m_odd m_bestRank m_leastSpray m_g m_tape m_ship m_manName m_postName m_kind m_greenTold m_hands m_spray m_holds m_sea m_lineFrom m_lineTo m_codes m_opened m_compared m_kept m_keptBy m_ahead m_against m_sum m_sumBy m_term m_termBy m_byNot m_valueOf m_lines m_lineWhat m_lineA m_lineB m_seens m_seenMan m_seenOther m_seenAt m_seenGreener m_s m_aside m_before m_marked m_undone m_isLaid m_more m_row m_bestRow m_greenerBy K)) Q := by
  refine ⟨nb rfl, xgo [4] 20 ⟨nb rfl, nb rfl, ?_⟩⟩
  refine up_to (P := fun j => XWp (xF L xs) (some .int) xP234 (XC (xF L xs) xmeths d) Q 4 [orf 169, oi (bst A.g j), oi (nI j)] [] (clsW pn pc tok ship nn tl draft vd log trial sta says seed past marks (mdlX m_thrown m_taped m_size m_place m_begin m_token m_word m_told m_wrong m_code m_toldLines m_given m_fresh m_done m_odd m_bestRank m_leastSpray m_g m_tape m_ship m_manName m_postName m_kind m_greenTold m_hands m_spray m_holds m_sea m_lineFrom m_lineTo m_codes m_opened m_compared m_kept m_keptBy m_ahead m_against m_sum m_sumBy m_term m_termBy m_byNot m_valueOf m_lines m_lineWhat m_lineA m_lineB m_seens m_seenMan m_seenOther m_seenAt m_seenGreener m_s m_aside m_before m_marked m_undone m_isLaid m_more m_row m_bestRow m_greenerBy K))) (n := n) (fun j hj ih => xgo [4] 40 ⟨vp_in_nI (n := 0) (by decide) (by decide), ?_⟩)
  refine pk_le n j (fun q => ?_) (fun q => ?_) hm rfl (by omega) (by omega)
  · have e : j = n := by omega
    subst e
    exact h
  · have ih := ih q
    rw [bst, nI_succ] at ih
    rcases bst_in A.g j (by omega) with ⟨rfl, b2⟩ | ⟨b, b1, b2⟩
    · refine vT (show bst A.g 0 < 0 by rw [b2]; decide) ⟨nb rfl, ?_⟩
      rw [if_pos (Or.inl b2)] at ih
      exact ih
    · refine vF (show ¬ bst A.g j < 0 by rw [b2]; exact nI_pos (by omega)) ?_
      have e2 : Int32.ofInt 2 + bst A.g j = nI (2 + b) := by rw [b2]; exact i2 b
      refine ⟨show vp_in (Int32.ofInt 2 + nI j) 14 from i2 j ▸ vp_in_nI (by omega) (by omega), show vp_in (Int32.ofInt 2 + bst A.g j) 14 from e2 ▸ vp_in_nI (by omega) (by omega), ?_⟩
      rw [i2, e2, nI_clamp (by omega), nI_clamp (by omega)]
      have nm : ¬ bst A.g j = -1 := by rw [b2]; exact nIm1 (by omega)
      have eb : (bst A.g j).toNatClampNeg = b := by rw [b2]; exact nI_clamp (by omega)
      refine And.intro (fun (q2 : m_s (2 + j) ≤ m_s (2 + b)) => ?_) (fun (q2 : ¬ m_s (2 + j) ≤ m_s (2 + b)) => ?_)
      · rw [rs.green j q, rs.green b (by omega)] at q2
        rw [if_neg (fun y => y.elim nm (fun y => absurd y (by rw [eb]; exact Int32.not_lt.mpr q2)))] at ih
        exact ih
      · rw [rs.green j q, rs.green b (by omega)] at q2
        rw [if_pos (Or.inr (by rw [eb]; exact Int32.not_le.mp q2))] at ih
        exact ⟨nb rfl, ih⟩
theorem m_sucks {k : Nat} (hn : n ≤ 6) (rs : RS m_s n A) (hk : k < n) (hl : m_ship 3 = ship.lemon) (h : ∀ m_s, RS m_s n (upd A.g k (mx 0 (A.g k - ship.lemon)), A.p, A.su ||| 2 ^ k, A.t) → Q none (clsW pn pc tok ship nn tl draft vd log trial sta says seed past marks (mdlX m_thrown m_taped m_size m_place m_begin m_token m_word m_told m_wrong m_code m_toldLines m_given m_fresh m_done m_odd m_bestRank m_leastSpray m_g m_tape m_ship m_manName m_postName m_kind m_greenTold m_hands m_spray m_holds m_sea m_lineFrom m_lineTo m_codes m_opened m_compared m_kept m_keptBy m_ahead m_against m_sum m_sumBy m_term m_termBy m_byNot m_valueOf m_lines m_lineWhat m_lineA m_lineB m_seens m_seenMan m_seenOther m_seenAt m_seenGreener m_s m_aside m_before m_marked m_undone m_isLaid m_more m_row m_bestRow m_greenerBy K))) : XC (xF L xs) xmeths (d + 1) 215 [.ref 169, .int (nI k)] (clsW pn pc tok ship nn tl draft vd log trial sta says seed past marks (mdlX m_thrown m_taped m_size m_place m_begin m_token m_word m_told m_wrong m_code m_toldLines m_given m_fresh m_done m_odd m_bestRank m_leastSpray m_g m_tape m_ship m_manName m_postName m_kind m_greenTold m_hands m_spray m_holds m_sea m_lineFrom m_lineTo m_codes m_opened m_compared m_kept m_keptBy m_ahead m_against m_sum m_sumBy m_term m_termBy m_byNot m_valueOf m_lines m_lineWhat m_lineA m_lineB m_seens m_seenMan m_seenOther m_seenAt m_seenGreener m_s m_aside m_before m_marked m_undone m_isLaid m_more m_row m_bestRow m_greenerBy K)) Q := by
  refine ⟨nb rfl, xgo [] 60 ⟨vp_in_nI (n := 1) (by decide) (by decide), vp_in_nI (n := 1) (by decide) (by decide), ?_⟩⟩
  rw [show (Int32.ofInt 1).toNatClampNeg = 1 from rfl, st_s]
  refine ⟨show vp_in (Int32.ofInt 2 + nI k) 14 from i2 k ▸ vp_in_nI (by omega) (by omega), vp_in_nI (n := 3) (by decide) (by decide), nb rfl, show vp_in (Int32.ofInt 2 + nI k) 14 from i2 k ▸ vp_in_nI (by omega) (by omega), ?_⟩
  rw [i2, nI_clamp (by omega), st_s]
  have e1 : m_s 1 ||| (Int32.ofInt 1 <<< (nI k &&& 31)) = nI (A.su ||| 2 ^ k) := by
    rw [rs.sucked, ← nI_or]
    congr 1
    exact shl_of k (by omega)
  have r1 := RS.setS rs hn e1
  have r2 := RS.setG (x := mx 0 (A.g k - ship.lemon)) r1 hk hn
  have e2 : upd m_s 1 (m_s 1 ||| (Int32.ofInt 1 <<< (nI k &&& 31))) (2 + k) = A.g k := by
    rw [pk_un (by omega)]; exact rs.green k hk
  refine ⟨rfl, h _ ?_⟩
  rw [← hl] at r2 ⊢
  have e3 : mx 0 (upd m_s 1 (m_s 1 ||| (Int32.ofInt 1 <<< (nI k &&& 31))) (2 + k) - m_ship 3) = mx 0 (A.g k - m_ship 3) := by rw [e2]
  rw [← e3] at r2
  rw [← e3]
  exact r2
theorem m_falls {k : Nat} (hn : n ≤ 6) (hm : m_ship 0 = nI n) (rs : RS m_s n A) (gp : GP A.g A.p n p) (hk : k < n) (hl : m_ship 2 = ship.shade) (h : ∀ m_s, RS m_s n (fallG A.g ship.shade n k, A.p, A.su, A.t) → Q none (clsW pn pc tok ship nn tl draft vd log trial sta says seed past marks (mdlX m_thrown m_taped m_size m_place m_begin m_token m_word m_told m_wrong m_code m_toldLines m_given m_fresh m_done m_odd m_bestRank m_leastSpray m_g m_tape m_ship m_manName m_postName m_kind m_greenTold m_hands m_spray m_holds m_sea m_lineFrom m_lineTo m_codes m_opened m_compared m_kept m_keptBy m_ahead m_against m_sum m_sumBy m_term m_termBy m_byNot m_valueOf m_lines m_lineWhat m_lineA m_lineB m_seens m_seenMan m_seenOther m_seenAt m_seenGreener m_s m_aside m_before m_marked m_undone m_isLaid m_more m_row m_bestRow m_greenerBy K))) : XC (xF L xs) xmeths (d + 1) 217 [.ref 169, .int (nI k)] (clsW pn pc tok ship nn tl draft vd log trial sta says seed past marks (mdlX m_thrown m_taped m_size m_place m_begin m_token m_word m_told m_wrong m_code m_toldLines m_given m_fresh m_done m_odd m_bestRank m_leastSpray m_g m_tape m_ship m_manName m_postName m_kind m_greenTold m_hands m_spray m_holds m_sea m_lineFrom m_lineTo m_codes m_opened m_compared m_kept m_keptBy m_ahead m_against m_sum m_sumBy m_term m_termBy m_byNot m_valueOf m_lines m_lineWhat m_lineA m_lineB m_seens m_seenMan m_seenOther m_seenAt m_seenGreener m_s m_aside m_before m_marked m_undone m_isLaid m_more m_row m_bestRow m_greenerBy K)) Q := by
  refine ⟨nb rfl, xgo [4] 20 ⟨nb rfl, nb rfl, ?_⟩⟩
  refine up_to (P := fun j => XWp (xF L xs) none xP217 (XC (xF L xs) xmeths d) Q 4 [orf 169, oi (nI k), oi (mostV A.g j), oi (nI j)] [] (clsW pn pc tok ship nn tl draft vd log trial sta says seed past marks (mdlX m_thrown m_taped m_size m_place m_begin m_token m_word m_told m_wrong m_code m_toldLines m_given m_fresh m_done m_odd m_bestRank m_leastSpray m_g m_tape m_ship m_manName m_postName m_kind m_greenTold m_hands m_spray m_holds m_sea m_lineFrom m_lineTo m_codes m_opened m_compared m_kept m_keptBy m_ahead m_against m_sum m_sumBy m_term m_termBy m_byNot m_valueOf m_lines m_lineWhat m_lineA m_lineB m_seens m_seenMan m_seenOther m_seenAt m_seenGreener m_s m_aside m_before m_marked m_undone m_isLaid m_more m_row m_bestRow m_greenerBy K))) (n := n) (fun j hj ih => xgo [4] 60 ⟨vp_in_nI (n := 0) (by decide) (by decide), ?_⟩)
  refine pk_le n j (fun q => ?_) (fun q => ?_) hm rfl (by omega) (by omega)
  · have e : j = n := by omega
    subst e
    rcases bst_max (g := A.g) j hn (by omega) with ⟨b, hb, eb, hmax⟩
    have e1 : mostV A.g j = A.g b := most_bst hb (by
      rcases gp.green b hb with ⟨x, hx, e⟩
      rw [e]; exact nI_pos' (by omega)) hmax
    rw [e1]
    refine ⟨vp_in_nI (n := 2) (by decide) (by decide), nb rfl, show vp_in (Int32.ofInt 2 + nI k) 14 from i2 k ▸ vp_in_nI (by omega) (by omega), ?_⟩
    rw [i2, nI_clamp (by omega), st_s]
    refine ⟨rfl, h _ ?_⟩
    have e2 : fallG A.g ship.shade j k = upd A.g k (mn 99 (A.g b + m_ship 2)) := by rw [fallG, eb, nI_clamp (by omega), hl]
    rw [e2]
    exact RS.setG rs hk hn
  · have ih := ih q
    refine ⟨show vp_in (Int32.ofInt 2 + nI j) 14 from i2 j ▸ vp_in_nI (by omega) (by omega), nb rfl, nb rfl, ?_⟩
    rw [i2, nI_clamp (by omega)]
    rw [mostV, nI_succ, ← rs.green j q] at ih
    exact ih
theorem m_docks0 (hn : n ≤ 6) (hm : m_ship 0 = nI n) (rs : RS m_s n A) (hk : ∀ k, k < n → m_kind k = ship.kind k) (hl : m_ship 4 = ship.harbour) (h : ∀ m_s, RS m_s n (harbG ship A.g n, harbP A.p n, A.su, A.t) → Q none (clsW pn pc tok ship nn tl draft vd log trial sta says seed past marks (mdlX m_thrown m_taped m_size m_place m_begin m_token m_word m_told m_wrong m_code m_toldLines m_given m_fresh m_done m_odd m_bestRank m_leastSpray m_g m_tape m_ship m_manName m_postName m_kind m_greenTold m_hands m_spray m_holds m_sea m_lineFrom m_lineTo m_codes m_opened m_compared m_kept m_keptBy m_ahead m_against m_sum m_sumBy m_term m_termBy m_byNot m_valueOf m_lines m_lineWhat m_lineA m_lineB m_seens m_seenMan m_seenOther m_seenAt m_seenGreener m_s m_aside m_before m_marked m_undone m_isLaid m_more m_row m_bestRow m_greenerBy K))) : XC (xF L xs) xmeths (d + 1) 228 [.ref 169] (clsW pn pc tok ship nn tl draft vd log trial sta says seed past marks (mdlX m_thrown m_taped m_size m_place m_begin m_token m_word m_told m_wrong m_code m_toldLines m_given m_fresh m_done m_odd m_bestRank m_leastSpray m_g m_tape m_ship m_manName m_postName m_kind m_greenTold m_hands m_spray m_holds m_sea m_lineFrom m_lineTo m_codes m_opened m_compared m_kept m_keptBy m_ahead m_against m_sum m_sumBy m_term m_termBy m_byNot m_valueOf m_lines m_lineWhat m_lineA m_lineB m_seens m_seenMan m_seenOther m_seenAt m_seenGreener m_s m_aside m_before m_marked m_undone m_isLaid m_more m_row m_bestRow m_greenerBy K)) Q := by
  refine ⟨nb rfl, xgo [2] 20 ⟨nb rfl, ?_⟩⟩
  refine up_to (P := fun j => ∀ m_s, RS m_s n (harbG ship A.g j, fil A.p (-1) j, A.su, A.t) → XWp (xF L xs) none xP228 (XC (xF L xs) xmeths d) Q 2 [orf 169, oi (nI j)] [] (clsW pn pc tok ship nn tl draft vd log trial sta says seed past marks (mdlX m_thrown m_taped m_size m_place m_begin m_token m_word m_told m_wrong m_code m_toldLines m_given m_fresh m_done m_odd m_bestRank m_leastSpray m_g m_tape m_ship m_manName m_postName m_kind m_greenTold m_hands m_spray m_holds m_sea m_lineFrom m_lineTo m_codes m_opened m_compared m_kept m_keptBy m_ahead m_against m_sum m_sumBy m_term m_termBy m_byNot m_valueOf m_lines m_lineWhat m_lineA m_lineB m_seens m_seenMan m_seenOther m_seenAt m_seenGreener m_s m_aside m_before m_marked m_undone m_isLaid m_more m_row m_bestRow m_greenerBy K))) (n := n) (fun j hj ih m_s rs => xgo [2] 60 ⟨vp_in_nI (n := 0) (by decide) (by decide), ?_⟩) m_s (rs.congr (fun k hk => by show A.g k = harbG ship A.g 0 k; simp [harbG]) (fun k hk => by show A.p k = fil A.p (-1) 0 k; rw [fil_zero]) rfl rfl)
  refine pk_le n j (fun q => ?_) (fun q => ?_) hm rfl (by omega) (by omega)
  · have e : j = n := by omega
    subst e
    exact ⟨rfl, h m_s rs⟩
  · have ih := ih q
    refine ⟨vp_in_nI (by omega) (by omega), ?_⟩
    rw [nI_clamp (by omega)]
    have e9 : (Int32.ofInt 0) = -1 + 1 := by decide
    refine And.intro (fun (q2 : m_kind j = 3) => ?_) (fun (q2 : ¬ m_kind j = 3) => ?_)
    · rw [hk j q] at q2
      refine ⟨show vp_in (Int32.ofInt 8 + nI j) 14 from i8 j ▸ vp_in_nI (by omega) (by omega), ?_⟩
      rw [i8, nI_clamp (by omega), st_s]
      have ih := ih (upd m_s (8 + j) (Int32.ofInt 0)) (by
        rw [harbG_succ, if_pos q2, fil_succ]
        exact RS.setP rs q hn e9)
      rw [nI_succ] at ih
      exact ih
    · rw [hk j q] at q2
      refine ⟨show vp_in (Int32.ofInt 2 + nI j) 14 from i2 j ▸ vp_in_nI (by omega) (by omega), vp_in_nI (n := 4) (by decide) (by decide), nb rfl, show vp_in (Int32.ofInt 2 + nI j) 14 from i2 j ▸ vp_in_nI (by omega) (by omega), ?_⟩
      rw [i2, nI_clamp (by omega), st_s]
      refine ⟨show vp_in (Int32.ofInt 8 + nI j) 14 from i8 j ▸ vp_in_nI (by omega) (by omega), ?_⟩
      rw [i8, nI_clamp (by omega), st_s]
      have r1 := RS.setG (x := mx 0 (harbG ship A.g j j - ship.harbour)) rs q hn
      have r2 := RS.setP r1 q hn e9
      rw [← hl, ← (show m_s (2 + j) = harbG ship A.g j j from rs.green j q)] at r2
      have ih := ih (upd (upd m_s (2 + j) (mx 0 (m_s (2 + j) - m_ship 4))) (8 + j) (Int32.ofInt 0)) (by
        rw [harbG_succ, if_neg q2, fil_succ, ← hl, ← (show m_s (2 + j) = harbG ship A.g j j from rs.green j q)]
        exact r2)
      rw [nI_succ] at ih
      exact ih
theorem m_between {w : XWd} {v : Int32} (h : Q (some (.int (mx 0 (mn 9 v)))) w) : XC (xF L xs) xmeths (d + 1) 226 [.int v, .int 0, .int 9] w Q := by
  refine ⟨nb rfl, xgo [] 20 ?_⟩
  refine And.intro (fun (q : 0 ≤ v) => ?_) (fun (q : ¬ 0 ≤ v) => ?_)
  · refine And.intro (fun (q2 : v ≤ 9) => ?_) (fun (q2 : ¬ v ≤ 9) => ?_)
    · have e : mx 0 (mn 9 v) = v := by
        simp only [mx, mn]
        split
        · split
          · rfl
          · rename_i q3
            exact Int32.le_antisymm q (Int32.not_lt.mp q3)
        · rename_i q3
          have e9 : v = 9 := Int32.le_antisymm q2 (Int32.not_lt.mp q3)
          rw [e9]; decide
      rw [e] at h
      exact h
    · have e : mx 0 (mn 9 v) = 9 := by
        simp only [mn]
        rw [if_neg (Int32.not_lt.mpr (Int32.le_of_lt (Int32.not_le.mp q2)))]
        decide
      rw [e] at h
      exact h
  · have e : mx 0 (mn 9 v) = 0 := by
      have q := Int32.not_le.mp q
      have : v < 9 := Int32.lt_trans q (by decide)
      simp only [mn]
      rw [if_pos this]
      simp only [mx]
      rw [if_neg (Int32.not_lt.mpr (Int32.le_of_lt q))]
    rw [e] at h
    exact h
end XMO
