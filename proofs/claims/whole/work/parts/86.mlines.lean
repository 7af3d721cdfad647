/-! the reference reads the numbers, the law, all lines -/
theorem layF_lo {cs : Fn} : ∀ (cd : List Int32) (cs : Fn) (c k : Nat), k < c → layF cs c cd k = cs k
  | [], _, _, _, _ => rfl
  | x :: cd, cs, c, k, h => by
    rw [layF, layF_lo (cs := cs) cd _ _ k (by omega), pk_un (by omega)]
theorem layF_get {cs : Fn} : ∀ (cd : List Int32) (cs : Fn) (c i : Nat), i < cd.length → layF cs c cd (c + i) = cd.getD i 0
  | [], _, _, _, h => absurd h (Nat.not_lt_zero _)
  | x :: cd, cs, c, 0, h => by
    rw [layF, layF_lo (cs := cs) cd _ _ _ (by omega), Nat.add_zero, pk_us]
    rfl
  | x :: cd, cs, c, i + 1, h => by
    rw [layF, show c + (i + 1) = c + 1 + i by omega, layF_get (cs := cs) cd _ _ i (by simpa using h)]
    rfl
section XNA
variable {C : Nat → Nat} {l s n p z lo hi w : Nat} {tf : Nat → Bool} {cd : List Int32} {D : TShip} {φ : RSt → RSt}
theorem clo_nat (hφ : ∀ f, φ (.inl f) = .inl f) {k : Nat → RSt} : φ (cloP C l s k) = cloP C l s (fun s => φ (k s)) := by
  unfold cloP
  split
  · rfl
  · exact hφ _
theorem num_nat (hφ : ∀ f, φ (.inl f) = .inl f) {k : Nat → Nat → RSt} : φ (numP C l lo hi s k) = numP C l lo hi s (fun v s => φ (k v s)) := by
  unfold numP
  split
  · split
    · rfl
    · exact hφ _
  · exact hφ _
theorem both_nat (hφ : ∀ f, φ (.inl f) = .inl f) {k : Nat → Nat → RSt} : φ (bothP C l w lo hi s k) = bothP C l w lo hi s (fun v s => φ (k v s)) := by
  unfold bothP
  split
  · exact num_nat hφ
  · exact hφ _
theorem new_nat (hφ : ∀ f, φ (.inl f) = .inl f) {k : Int64 → Nat → RSt} : φ (newP C l D n p s k) = newP C l D n p s (fun v s => φ (k v s)) := by
  unfold newP
  split
  · split
    · rfl
    · exact hφ _
  · exact hφ _
theorem kd_nat (hφ : ∀ f, φ (.inl f) = .inl f) {k : Int32 → Nat → RSt} : φ (kdP C l s k) = kdP C l s (fun v s => φ (k v s)) := by
  unfold kdP
  split
  · exact hφ _
  · rfl
theorem man_nat (hφ : ∀ f, φ (.inl f) = .inl f) {k : Nat → TShip → RSt} : φ (manP C l s D n p k) = manP C l s D n p (fun s D => φ (k s D)) := by
  unfold manP
  split
  · rw [new_nat hφ]
    congr 1
    funext nm s
    rw [kd_nat hφ]
    congr 1
    funext kd s
    rw [both_nat hφ]
    congr 1
    funext g s
    rw [both_nat hφ]
  · exact hφ _
theorem pst_nat (hφ : ∀ f, φ (.inl f) = .inl f) {k : Nat → TShip → RSt} : φ (pstP C l s D n p k) = pstP C l s D n p (fun s D => φ (k s D)) := by
  unfold pstP
  split
  · rw [new_nat hφ]
    congr 1
    funext nm s
    rw [both_nat hφ]
    congr 1
    funext g s
    rw [both_nat hφ]
  · exact hφ _
theorem sea_nat (hφ : ∀ f, φ (.inl f) = .inl f) {k : Nat → Nat → TShip → RSt} : ∀ m i s D, φ (seaP C l k m i s D) = seaP C l (fun i s D => φ (k i s D)) m i s D
  | 0, i, s, D => by
    rw [seaP, seaP]
    split
    · exact hφ _
    · rfl
  | m + 1, i, s, D => by
    rw [seaP, seaP]
    split
    · rfl
    · rw [num_nat hφ]
      congr 1
      funext v s
      exact sea_nat hφ m (i + 1) s _
theorem on_nat (hφ : ∀ f, φ (.inl f) = .inl f) {j : Nat} {x : RSt} : φ (onP tf j s x) = onP tf j s (φ x) := by
  unfold onP
  split
  · exact hφ _
  · rfl
theorem law_nat (hφ : ∀ f, φ (.inl f) = .inl f) {k : Nat → TShip → List Int32 → RSt} : φ (lawP C l s D k) = lawP C l s D (fun s D cd => φ (k s D cd)) := by
  unfold lawP
  split
  · exact hφ _
  · rfl
theorem lin_nat (hφ : ∀ f, φ (.inl f) = .inl f) {k : KSt} : φ (linP C l s D n p z tf cd k) = linP C l s D n p z tf cd (fun s D n p z tf cd => φ (k s D n p z tf cd)) := by
  unfold linP
  split
  · rw [man_nat hφ]; congr 1; funext s D; exact clo_nat hφ
  split
  · rw [pst_nat hφ]; congr 1; funext s D; exact clo_nat hφ
  split
  · rw [on_nat hφ, sea_nat hφ]; congr 2; funext z s D; exact clo_nat hφ
  split
  · rw [on_nat hφ, num_nat hφ]; congr 2; funext v s; exact clo_nat hφ
  split
  · rw [on_nat hφ, num_nat hφ]; congr 2; funext v s; exact clo_nat hφ
  split
  · rw [on_nat hφ, num_nat hφ]; congr 2; funext v s; exact clo_nat hφ
  split
  · rw [on_nat hφ, law_nat hφ]; congr 2; funext s D cd; exact clo_nat hφ
  · exact hφ _
def bindR (k : KSt) : RSt → RSt
  | .inl f => .inl f
  | .inr (s, D, n, p, z, tf, cd) => k s D n p z tf cd
def idR : KSt := fun s D n p z tf cd => .inr (s, D, n, p, z, tf, cd)
/-- where a line leads, and what then holds -/
theorem lin_to {H : RSt → Prop} {k : KSt} (sl : s ≤ l) (I : DrOk C l D n p z tf cd) (h : H (linP C l s D n p z tf cd k)) : (fun r => H (bindR k r) ∧ ∀ s' D' n' p' z' tf' cd', r = .inr (s', D', n', p', z', tf', cd') → s < s' ∧ s' ≤ l ∧ DrOk C l D' n' p' z' tf' cd') (linP C l s D n p z tf cd idR) := by
  refine ⟨?_, ?_⟩
  · have e := lin_nat (C := C) (l := l) (s := s) (n := n) (p := p) (z := z) (tf := tf) (cd := cd) (D := D) (φ := bindR k) (fun _ => rfl) (k := idR)
    rw [e]
    exact h
  · exact lin_el (P := fun r => ∀ s' D' n' p' z' tf' cd', r = .inr (s', D', n', p', z', tf', cd') → s < s' ∧ s' ≤ l ∧ DrOk C l D' n' p' z' tf' cd') sl I (fun f _ _ _ _ _ _ _ _ _ e => by cases e) (fun s1 D1 n1 p1 z1 tf1 cd1 a b c s' D' n' p' z' tf' cd' e => by
      simp only [idR, Sum.inr.injEq, Prod.mk.injEq] at e
      obtain ⟨rfl, rfl, rfl, rfl, rfl, rfl, rfl⟩ := e
      exact ⟨a, b, c⟩)
end XNA
section XMJ
variable {L : Nat} {xs : Nat → Int32} {d : Nat} {Q : XQt} {pn pc : Int32} {tok : TTok} {ship : TShip} {nn : Int64} {tl : Int32} {draft : TShip} {vd : TVoy} {log : TLog} {trial : TCrew} {sta : TSta} {says : Fn} {seed : Int64} {past : Nat → TCrew} {marks : Nat → TLog} {K : XWd}
variable {m_thrown : Int32} {m_taped : Int32} {m_size : Int32} {m_place : Int32} {m_begin : Int32} {m_token : Int32} {m_word : Int64} {m_told : Int32} {m_wrong : Int32} {m_code : Int32} {m_toldLines : Int32} {m_given : Int32} {m_fresh : Int64} {m_done : Int32} {m_odd : Int32} {m_bestRank : Int32} {m_leastSpray : Int32} {m_g : Int64} {m_tape : Fn} {m_ship : Fn} {m_manName : Fl} {m_postName : Fl} {m_kind : Fn} {m_greenTold : Fn} {m_hands : Fn} {m_spray : Fn} {m_holds : Fn} {m_sea : Fn} {m_lineFrom : Fn} {m_lineTo : Fn} {m_codes : Fn} {m_opened : Fn} {m_compared : Fn} {m_kept : Fn} {m_keptBy : Fn} {m_ahead : Fn} {m_against : Fn} {m_sum : Fn} {m_sumBy : Fn} {m_term : Fn} {m_termBy : Fn} {m_byNot : Fn} {m_valueOf : Fn} {m_lines : Fn} {m_lineWhat : Fn} {m_lineA : Fn} {m_lineB : Fn} {m_seens : Fn} {m_seenMan : Fn} {m_seenOther : Fn} {m_seenAt : Fn} {m_seenGreener : Fn} {m_s : Fn} {m_aside : Fn} {m_before : Fn} {m_marked : Fn} {m_undone : Fn} {m_isLaid : Fn} {m_more : Fn} {m_row : Fn} {m_bestRow : Fn} {m_greenerBy : Fl}
variable {C : Nat → Nat} {l s n p z : Nat} {tf : Nat → Bool} {cd : List Int32} {H : RSt → Prop} {D : TShip} {B : TRow}
theorem m_readsOne2 {k : Nat → TShip → RSt} (hs : m_size = nI l) (l1 : l ≤ 1000) (rp : RpC m_tape C l) (mk : MkR m_token m_begin m_place m_told m_word C l s) (sl : s ≤ l) (R : RD D n p z tf cd m_ship m_kind m_greenTold m_hands m_manName m_spray m_holds m_postName m_sea m_lineFrom m_lineTo m_codes m_toldLines m_code) (Lo : Low B m_ship m_kind m_greenTold m_hands m_manName m_spray m_holds m_postName m_sea m_lineFrom m_lineTo m_codes) (h : H (onP tf 3 s (numP C l 1 9 (tkX C l s) (fun v s => cloP C l s (fun s => k s (D.kind, D.green, D.hands, D.manName, D.spray, D.holds, D.postName, D.sea, D.law, D.men, D.posts, D.seas, nI v, D.lemon, D.harbour)))))) (h0 : ∀ f, H (.inl f) → ∀ m_ship m_kind m_greenTold m_hands m_manName m_spray m_holds m_postName m_sea m_lineFrom m_lineTo m_codes m_place m_begin m_token m_word m_told m_given m_fresh m_toldLines m_code m_opened m_compared, Low B m_ship m_kind m_greenTold m_hands m_manName m_spray m_holds m_postName m_sea m_lineFrom m_lineTo m_codes → Q (some (.int 0)) (clsW pn pc tok ship nn tl draft vd log trial sta says seed past marks (mdlX m_thrown m_taped m_size m_place m_begin m_token m_word m_told (nI f) m_code m_toldLines m_given m_fresh m_done m_odd m_bestRank m_leastSpray m_g m_tape m_ship m_manName m_postName m_kind m_greenTold m_hands m_spray m_holds m_sea m_lineFrom m_lineTo m_codes m_opened m_compared m_kept m_keptBy m_ahead m_against m_sum m_sumBy m_term m_termBy m_byNot m_valueOf m_lines m_lineWhat m_lineA m_lineB m_seens m_seenMan m_seenOther m_seenAt m_seenGreener m_s m_aside m_before m_marked m_undone m_isLaid m_more m_row m_bestRow m_greenerBy K))) (h1 : ∀ s' D', H (k s' D') → s' ≤ l → ∀ m_ship m_kind m_greenTold m_hands m_manName m_spray m_holds m_postName m_sea m_lineFrom m_lineTo m_codes m_place m_begin m_token m_word m_told m_given m_fresh m_toldLines m_code m_opened m_compared, Low B m_ship m_kind m_greenTold m_hands m_manName m_spray m_holds m_postName m_sea m_lineFrom m_lineTo m_codes → RD D' n p z (bup tf 3) cd m_ship m_kind m_greenTold m_hands m_manName m_spray m_holds m_postName m_sea m_lineFrom m_lineTo m_codes m_toldLines m_code → MkR m_token m_begin m_place m_told m_word C l s' → Q (some (.int 1)) (clsW pn pc tok ship nn tl draft vd log trial sta says seed past marks (mdlX m_thrown m_taped m_size m_place m_begin m_token m_word m_told m_wrong m_code m_toldLines m_given m_fresh m_done m_odd m_bestRank m_leastSpray m_g m_tape m_ship m_manName m_postName m_kind m_greenTold m_hands m_spray m_holds m_sea m_lineFrom m_lineTo m_codes m_opened m_compared m_kept m_keptBy m_ahead m_against m_sum m_sumBy m_term m_termBy m_byNot m_valueOf m_lines m_lineWhat m_lineA m_lineB m_seens m_seenMan m_seenOther m_seenAt m_seenGreener m_s m_aside m_before m_marked m_undone m_isLaid m_more m_row m_bestRow m_greenerBy K))) : XC (xF L xs) xmeths (d + 4) 189 [.ref 169, .int 2, .int 1, .int 9] (clsW pn pc tok ship nn tl draft vd log trial sta says seed past marks (mdlX m_thrown m_taped m_size m_place m_begin m_token m_word m_told m_wrong m_code m_toldLines m_given m_fresh m_done m_odd m_bestRank m_leastSpray m_g m_tape m_ship m_manName m_postName m_kind m_greenTold m_hands m_spray m_holds m_sea m_lineFrom m_lineTo m_codes m_opened m_compared m_kept m_keptBy m_ahead m_against m_sum m_sumBy m_term m_termBy m_byNot m_valueOf m_lines m_lineWhat m_lineA m_lineB m_seens m_seenMan m_seenOther m_seenAt m_seenGreener m_s m_aside m_before m_marked m_undone m_isLaid m_more m_row m_bestRow m_greenerBy K)) Q := by
  unfold onP at h
  have hx := tkX_le (C := C) sl
  have et := R.told
  have tb : tfM tf 2 = tf 3 := rfl
  subst et
  refine ⟨nb rfl, xgo [12] 60 ?_⟩
  refine And.intro (fun (q : ¬ bit (nI (bsN (tfM tf) 7)) (nI 2)) => ?_) (fun (q : ¬ ¬ bit (nI (bsN (tfM tf) 7)) (nI 2)) => ?_)
  rotate_left
  · rw [if_pos (tb ▸ (bup_bit (by decide)).mp (Classical.not_not.mp q))] at h
    exact ⟨rfl, nb rfl, m_fails (k := 3) mk ⟨rfl, h0 _ h _ _ _ _ _ _ _ _ _ _ _ _ _ _ _ _ _ _ _ _ _ _ _ Lo⟩⟩
  rw [if_neg (fun y => q ((bup_bit (by decide)).mpr (tb.trans y)))] at h
  have eo : nI (bsN (tfM tf) 7) ||| ((1 : Int32) <<< (nI 2 &&& 31)) = nI (bsN (tfM (bup tf 3)) 7) := by rw [bup_or (by decide), tfM_j tf (by decide) (by decide)]
  have fin : ∀ v s, s ≤ l → H (cloP C l s (fun s => k s (D.kind, D.green, D.hands, D.manName, D.spray, D.holds, D.postName, D.sea, D.law, D.men, D.posts, D.seas, nI v, D.lemon, D.harbour))) → ∀ m_place m_begin m_token m_word m_told, MkR m_token m_begin m_place m_told m_word C l s → XWp (xF L xs) (some .boolean) xP189 (XC (xF L xs) xmeths (d + 3)) Q 29 [orf 169, oi 2, oi 1, oi 9] [] (clsW pn pc tok ship nn tl draft vd log trial sta says seed past marks (mdlX m_thrown m_taped m_size m_place m_begin m_token m_word m_told m_wrong m_code (nI (bsN (tfM tf) 7) ||| ((1 : Int32) <<< (nI 2 &&& 31))) (nI v) m_fresh m_done m_odd m_bestRank m_leastSpray m_g m_tape m_ship m_manName m_postName m_kind m_greenTold m_hands m_spray m_holds m_sea m_lineFrom m_lineTo m_codes m_opened m_compared m_kept m_keptBy m_ahead m_against m_sum m_sumBy m_term m_termBy m_byNot m_valueOf m_lines m_lineWhat m_lineA m_lineB m_seens m_seenMan m_seenOther m_seenAt m_seenGreener m_s m_aside m_before m_marked m_undone m_isLaid m_more m_row m_bestRow m_greenerBy K)) := by
    intro v s sl h a1 a2 a3 a4 a5 mk
    have us : ∀ i, ¬ i = 8 → upd m_ship 8 (nI v) i = m_ship i := fun i hi => pk_un hi
    have Lo2 : Low B (upd m_ship 8 (nI v)) m_kind m_greenTold m_hands m_manName m_spray m_holds m_postName m_sea m_lineFrom m_lineTo m_codes := ⟨updLo (by omega) Lo.ship, Lo.kind, Lo.green, Lo.hands, Lo.man, Lo.spray, Lo.holds, Lo.post, Lo.sea, Lo.lf, Lo.lt, Lo.codes⟩
    have R2 : RD (D.kind, D.green, D.hands, D.manName, D.spray, D.holds, D.postName, D.sea, D.law, D.men, D.posts, D.seas, nI v, D.lemon, D.harbour) n p z (bup tf 3) cd (upd m_ship 8 (nI v)) m_kind m_greenTold m_hands m_manName m_spray m_holds m_postName m_sea m_lineFrom m_lineTo m_codes (nI (bsN (tfM tf) 7) ||| ((1 : Int32) <<< (nI 2 &&& 31))) m_code :=
      ⟨by rw [us 6 (by decide)]; exact R.men, by rw [us 7 (by decide)]; exact R.posts, pk_us .., by rw [us 9 (by decide)]; exact R.lemon, by rw [us 10 (by decide)]; exact R.harbour, by rw [us 11 (by decide)]; exact R.seas, R.kind, R.green, R.hands, R.man, R.spray, R.holds, R.post, R.sea, eo, R.lf, R.lt, R.codes, fun y => R.code (by simpa [bup] using y), R.len⟩
    have a37 : XWp (xF L xs) (some .boolean) xP189 (XC (xF L xs) xmeths (d + 3)) Q 37 [orf 169, oi 2, oi 1, oi 9] [] (clsW pn pc tok ship nn tl draft vd log trial sta says seed past marks (mdlX m_thrown m_taped m_size a1 a2 a3 a4 a5 m_wrong m_code (nI (bsN (tfM tf) 7) ||| ((1 : Int32) <<< (nI 2 &&& 31))) (nI v) m_fresh m_done m_odd m_bestRank m_leastSpray m_g m_tape (upd m_ship 8 (nI v)) m_manName m_postName m_kind m_greenTold m_hands m_spray m_holds m_sea m_lineFrom m_lineTo m_codes m_opened m_compared m_kept m_keptBy m_ahead m_against m_sum m_sumBy m_term m_termBy m_byNot m_valueOf m_lines m_lineWhat m_lineA m_lineB m_seens m_seenMan m_seenOther m_seenAt m_seenGreener m_s m_aside m_before m_marked m_undone m_isLaid m_more m_row m_bestRow m_greenerBy K)) :=
      xgo [] 20 ⟨rfl, nb rfl, m_closes hs l1 rp mk sl h (fun f hf => ⟨rfl, h0 _ hf _ _ _ _ _ _ _ _ _ _ _ _ _ _ _ _ _ _ _ _ _ _ _ Lo2⟩) (fun s5 h f1 f2 a1 a2 a3 a4 a5 mk => ⟨rfl, h1 s5 _ h f2 _ _ _ _ _ _ _ _ _ _ _ _ _ _ _ _ _ _ _ _ _ _ _ Lo2 R2 mk⟩)⟩
    refine xgo [37] 20 ⟨vp_in_nI (n := 8) (by decide) (by decide), ?_⟩
    exact (congrArg (XWp (xF L xs) (some .boolean) xP189 (XC (xF L xs) xmeths (d + 3)) Q 37 [orf 169, oi 2, oi 1, oi 9] []) (st_ship (x := upd m_ship 8 (nI v)))).mpr a37
  refine xgo [19] 20 (xp_toldLines rfl (xgo [29] 20 ⟨rfl, nb rfl, m_next (m_toldLines := nI (bsN (tfM tf) 7) ||| ((1 : Int32) <<< (nI 2 &&& 31))) hs l1 rp mk sl (fun a1 a2 a3 a4 a5 mk => ?_)⟩))
  refine ⟨rfl, nb rfl, m_num (lo := 1) (hi := 9) hs l1 rp mk hx.2.1 (by decide) (by decide) h (fun f hf => vFd rfl ⟨rfl, h0 _ hf _ _ _ _ _ _ _ _ _ _ _ _ _ _ _ _ _ _ _ _ _ _ _ Lo⟩) (fun v s2 h b1 b2 b3 b4 a1 a2 a3 a4 a5 mk => vTd rfl (fin v s2 b4 h a1 a2 a3 a4 a5 mk))⟩
theorem m_readsOne3 {k : Nat → TShip → RSt} (hs : m_size = nI l) (l1 : l ≤ 1000) (rp : RpC m_tape C l) (mk : MkR m_token m_begin m_place m_told m_word C l s) (sl : s ≤ l) (R : RD D n p z tf cd m_ship m_kind m_greenTold m_hands m_manName m_spray m_holds m_postName m_sea m_lineFrom m_lineTo m_codes m_toldLines m_code) (Lo : Low B m_ship m_kind m_greenTold m_hands m_manName m_spray m_holds m_postName m_sea m_lineFrom m_lineTo m_codes) (h : H (onP tf 4 s (numP C l 1 20 (tkX C l s) (fun v s => cloP C l s (fun s => k s (D.kind, D.green, D.hands, D.manName, D.spray, D.holds, D.postName, D.sea, D.law, D.men, D.posts, D.seas, D.shade, nI v, D.harbour)))))) (h0 : ∀ f, H (.inl f) → ∀ m_ship m_kind m_greenTold m_hands m_manName m_spray m_holds m_postName m_sea m_lineFrom m_lineTo m_codes m_place m_begin m_token m_word m_told m_given m_fresh m_toldLines m_code m_opened m_compared, Low B m_ship m_kind m_greenTold m_hands m_manName m_spray m_holds m_postName m_sea m_lineFrom m_lineTo m_codes → Q (some (.int 0)) (clsW pn pc tok ship nn tl draft vd log trial sta says seed past marks (mdlX m_thrown m_taped m_size m_place m_begin m_token m_word m_told (nI f) m_code m_toldLines m_given m_fresh m_done m_odd m_bestRank m_leastSpray m_g m_tape m_ship m_manName m_postName m_kind m_greenTold m_hands m_spray m_holds m_sea m_lineFrom m_lineTo m_codes m_opened m_compared m_kept m_keptBy m_ahead m_against m_sum m_sumBy m_term m_termBy m_byNot m_valueOf m_lines m_lineWhat m_lineA m_lineB m_seens m_seenMan m_seenOther m_seenAt m_seenGreener m_s m_aside m_before m_marked m_undone m_isLaid m_more m_row m_bestRow m_greenerBy K))) (h1 : ∀ s' D', H (k s' D') → s' ≤ l → ∀ m_ship m_kind m_greenTold m_hands m_manName m_spray m_holds m_postName m_sea m_lineFrom m_lineTo m_codes m_place m_begin m_token m_word m_told m_given m_fresh m_toldLines m_code m_opened m_compared, Low B m_ship m_kind m_greenTold m_hands m_manName m_spray m_holds m_postName m_sea m_lineFrom m_lineTo m_codes → RD D' n p z (bup tf 4) cd m_ship m_kind m_greenTold m_hands m_manName m_spray m_holds m_postName m_sea m_lineFrom m_lineTo m_codes m_toldLines m_code → MkR m_token m_begin m_place m_told m_word C l s' → Q (some (.int 1)) (clsW pn pc tok ship nn tl draft vd log trial sta says seed past marks (mdlX m_thrown m_taped m_size m_place m_begin m_token m_word m_told m_wrong m_code m_toldLines m_given m_fresh m_done m_odd m_bestRank m_leastSpray m_g m_tape m_ship m_manName m_postName m_kind m_greenTold m_hands m_spray m_holds m_sea m_lineFrom m_lineTo m_codes m_opened m_compared m_kept m_keptBy m_ahead m_against m_sum m_sumBy m_term m_termBy m_byNot m_valueOf m_lines m_lineWhat m_lineA m_lineB m_seens m_seenMan m_seenOther m_seenAt m_seenGreener m_s m_aside m_before m_marked m_undone m_isLaid m_more m_row m_bestRow m_greenerBy K))) : XC (xF L xs) xmeths (d + 4) 189 [.ref 169, .int 3, .int 1, .int 20] (clsW pn pc tok ship nn tl draft vd log trial sta says seed past marks (mdlX m_thrown m_taped m_size m_place m_begin m_token m_word m_told m_wrong m_code m_toldLines m_given m_fresh m_done m_odd m_bestRank m_leastSpray m_g m_tape m_ship m_manName m_postName m_kind m_greenTold m_hands m_spray m_holds m_sea m_lineFrom m_lineTo m_codes m_opened m_compared m_kept m_keptBy m_ahead m_against m_sum m_sumBy m_term m_termBy m_byNot m_valueOf m_lines m_lineWhat m_lineA m_lineB m_seens m_seenMan m_seenOther m_seenAt m_seenGreener m_s m_aside m_before m_marked m_undone m_isLaid m_more m_row m_bestRow m_greenerBy K)) Q := by
  unfold onP at h
  have hx := tkX_le (C := C) sl
  have et := R.told
  have tb : tfM tf 3 = tf 4 := rfl
  subst et
  refine ⟨nb rfl, xgo [12] 60 ?_⟩
  refine And.intro (fun (q : ¬ bit (nI (bsN (tfM tf) 7)) (nI 3)) => ?_) (fun (q : ¬ ¬ bit (nI (bsN (tfM tf) 7)) (nI 3)) => ?_)
  rotate_left
  · rw [if_pos (tb ▸ (bup_bit (by decide)).mp (Classical.not_not.mp q))] at h
    exact ⟨rfl, nb rfl, m_fails (k := 3) mk ⟨rfl, h0 _ h _ _ _ _ _ _ _ _ _ _ _ _ _ _ _ _ _ _ _ _ _ _ _ Lo⟩⟩
  rw [if_neg (fun y => q ((bup_bit (by decide)).mpr (tb.trans y)))] at h
  have eo : nI (bsN (tfM tf) 7) ||| ((1 : Int32) <<< (nI 3 &&& 31)) = nI (bsN (tfM (bup tf 4)) 7) := by rw [bup_or (by decide), tfM_j tf (by decide) (by decide)]
  have fin : ∀ v s, s ≤ l → H (cloP C l s (fun s => k s (D.kind, D.green, D.hands, D.manName, D.spray, D.holds, D.postName, D.sea, D.law, D.men, D.posts, D.seas, D.shade, nI v, D.harbour))) → ∀ m_place m_begin m_token m_word m_told, MkR m_token m_begin m_place m_told m_word C l s → XWp (xF L xs) (some .boolean) xP189 (XC (xF L xs) xmeths (d + 3)) Q 29 [orf 169, oi 3, oi 1, oi 20] [] (clsW pn pc tok ship nn tl draft vd log trial sta says seed past marks (mdlX m_thrown m_taped m_size m_place m_begin m_token m_word m_told m_wrong m_code (nI (bsN (tfM tf) 7) ||| ((1 : Int32) <<< (nI 3 &&& 31))) (nI v) m_fresh m_done m_odd m_bestRank m_leastSpray m_g m_tape m_ship m_manName m_postName m_kind m_greenTold m_hands m_spray m_holds m_sea m_lineFrom m_lineTo m_codes m_opened m_compared m_kept m_keptBy m_ahead m_against m_sum m_sumBy m_term m_termBy m_byNot m_valueOf m_lines m_lineWhat m_lineA m_lineB m_seens m_seenMan m_seenOther m_seenAt m_seenGreener m_s m_aside m_before m_marked m_undone m_isLaid m_more m_row m_bestRow m_greenerBy K)) := by
    intro v s sl h a1 a2 a3 a4 a5 mk
    have us : ∀ i, ¬ i = 9 → upd m_ship 9 (nI v) i = m_ship i := fun i hi => pk_un hi
    have Lo2 : Low B (upd m_ship 9 (nI v)) m_kind m_greenTold m_hands m_manName m_spray m_holds m_postName m_sea m_lineFrom m_lineTo m_codes := ⟨updLo (by omega) Lo.ship, Lo.kind, Lo.green, Lo.hands, Lo.man, Lo.spray, Lo.holds, Lo.post, Lo.sea, Lo.lf, Lo.lt, Lo.codes⟩
    have R2 : RD (D.kind, D.green, D.hands, D.manName, D.spray, D.holds, D.postName, D.sea, D.law, D.men, D.posts, D.seas, D.shade, nI v, D.harbour) n p z (bup tf 4) cd (upd m_ship 9 (nI v)) m_kind m_greenTold m_hands m_manName m_spray m_holds m_postName m_sea m_lineFrom m_lineTo m_codes (nI (bsN (tfM tf) 7) ||| ((1 : Int32) <<< (nI 3 &&& 31))) m_code :=
      ⟨by rw [us 6 (by decide)]; exact R.men, by rw [us 7 (by decide)]; exact R.posts, by rw [us 8 (by decide)]; exact R.shade, pk_us .., by rw [us 10 (by decide)]; exact R.harbour, by rw [us 11 (by decide)]; exact R.seas, R.kind, R.green, R.hands, R.man, R.spray, R.holds, R.post, R.sea, eo, R.lf, R.lt, R.codes, fun y => R.code (by simpa [bup] using y), R.len⟩
    have a37 : XWp (xF L xs) (some .boolean) xP189 (XC (xF L xs) xmeths (d + 3)) Q 37 [orf 169, oi 3, oi 1, oi 20] [] (clsW pn pc tok ship nn tl draft vd log trial sta says seed past marks (mdlX m_thrown m_taped m_size a1 a2 a3 a4 a5 m_wrong m_code (nI (bsN (tfM tf) 7) ||| ((1 : Int32) <<< (nI 3 &&& 31))) (nI v) m_fresh m_done m_odd m_bestRank m_leastSpray m_g m_tape (upd m_ship 9 (nI v)) m_manName m_postName m_kind m_greenTold m_hands m_spray m_holds m_sea m_lineFrom m_lineTo m_codes m_opened m_compared m_kept m_keptBy m_ahead m_against m_sum m_sumBy m_term m_termBy m_byNot m_valueOf m_lines m_lineWhat m_lineA m_lineB m_seens m_seenMan m_seenOther m_seenAt m_seenGreener m_s m_aside m_before m_marked m_undone m_isLaid m_more m_row m_bestRow m_greenerBy K)) :=
      xgo [] 20 ⟨rfl, nb rfl, m_closes hs l1 rp mk sl h (fun f hf => ⟨rfl, h0 _ hf _ _ _ _ _ _ _ _ _ _ _ _ _ _ _ _ _ _ _ _ _ _ _ Lo2⟩) (fun s5 h f1 f2 a1 a2 a3 a4 a5 mk => ⟨rfl, h1 s5 _ h f2 _ _ _ _ _ _ _ _ _ _ _ _ _ _ _ _ _ _ _ _ _ _ _ Lo2 R2 mk⟩)⟩
    refine xgo [37] 20 ⟨vp_in_nI (n := 9) (by decide) (by decide), ?_⟩
    exact (congrArg (XWp (xF L xs) (some .boolean) xP189 (XC (xF L xs) xmeths (d + 3)) Q 37 [orf 169, oi 3, oi 1, oi 20] []) (st_ship (x := upd m_ship 9 (nI v)))).mpr a37
  refine xgo [19] 20 (xp_toldLines rfl (xgo [29] 20 ⟨rfl, nb rfl, m_next (m_toldLines := nI (bsN (tfM tf) 7) ||| ((1 : Int32) <<< (nI 3 &&& 31))) hs l1 rp mk sl (fun a1 a2 a3 a4 a5 mk => ?_)⟩))
  refine ⟨rfl, nb rfl, m_num (lo := 1) (hi := 20) hs l1 rp mk hx.2.1 (by decide) (by decide) h (fun f hf => vFd rfl ⟨rfl, h0 _ hf _ _ _ _ _ _ _ _ _ _ _ _ _ _ _ _ _ _ _ _ _ _ _ Lo⟩) (fun v s2 h b1 b2 b3 b4 a1 a2 a3 a4 a5 mk => vTd rfl (fin v s2 b4 h a1 a2 a3 a4 a5 mk))⟩
theorem m_readsOne4 {k : Nat → TShip → RSt} (hs : m_size = nI l) (l1 : l ≤ 1000) (rp : RpC m_tape C l) (mk : MkR m_token m_begin m_place m_told m_word C l s) (sl : s ≤ l) (R : RD D n p z tf cd m_ship m_kind m_greenTold m_hands m_manName m_spray m_holds m_postName m_sea m_lineFrom m_lineTo m_codes m_toldLines m_code) (Lo : Low B m_ship m_kind m_greenTold m_hands m_manName m_spray m_holds m_postName m_sea m_lineFrom m_lineTo m_codes) (h : H (onP tf 5 s (numP C l 0 9 (tkX C l s) (fun v s => cloP C l s (fun s => k s (D.kind, D.green, D.hands, D.manName, D.spray, D.holds, D.postName, D.sea, D.law, D.men, D.posts, D.seas, D.shade, D.lemon, nI v)))))) (h0 : ∀ f, H (.inl f) → ∀ m_ship m_kind m_greenTold m_hands m_manName m_spray m_holds m_postName m_sea m_lineFrom m_lineTo m_codes m_place m_begin m_token m_word m_told m_given m_fresh m_toldLines m_code m_opened m_compared, Low B m_ship m_kind m_greenTold m_hands m_manName m_spray m_holds m_postName m_sea m_lineFrom m_lineTo m_codes → Q (some (.int 0)) (clsW pn pc tok ship nn tl draft vd log trial sta says seed past marks (mdlX m_thrown m_taped m_size m_place m_begin m_token m_word m_told (nI f) m_code m_toldLines m_given m_fresh m_done m_odd m_bestRank m_leastSpray m_g m_tape m_ship m_manName m_postName m_kind m_greenTold m_hands m_spray m_holds m_sea m_lineFrom m_lineTo m_codes m_opened m_compared m_kept m_keptBy m_ahead m_against m_sum m_sumBy m_term m_termBy m_byNot m_valueOf m_lines m_lineWhat m_lineA m_lineB m_seens m_seenMan m_seenOther m_seenAt m_seenGreener m_s m_aside m_before m_marked m_undone m_isLaid m_more m_row m_bestRow m_greenerBy K))) (h1 : ∀ s' D', H (k s' D') → s' ≤ l → ∀ m_ship m_kind m_greenTold m_hands m_manName m_spray m_holds m_postName m_sea m_lineFrom m_lineTo m_codes m_place m_begin m_token m_word m_told m_given m_fresh m_toldLines m_code m_opened m_compared, Low B m_ship m_kind m_greenTold m_hands m_manName m_spray m_holds m_postName m_sea m_lineFrom m_lineTo m_codes → RD D' n p z (bup tf 5) cd m_ship m_kind m_greenTold m_hands m_manName m_spray m_holds m_postName m_sea m_lineFrom m_lineTo m_codes m_toldLines m_code → MkR m_token m_begin m_place m_told m_word C l s' → Q (some (.int 1)) (clsW pn pc tok ship nn tl draft vd log trial sta says seed past marks (mdlX m_thrown m_taped m_size m_place m_begin m_token m_word m_told m_wrong m_code m_toldLines m_given m_fresh m_done m_odd m_bestRank m_leastSpray m_g m_tape m_ship m_manName m_postName m_kind m_greenTold m_hands m_spray m_holds m_sea m_lineFrom m_lineTo m_codes m_opened m_compared m_kept m_keptBy m_ahead m_against m_sum m_sumBy m_term m_termBy m_byNot m_valueOf m_lines m_lineWhat m_lineA m_lineB m_seens m_seenMan m_seenOther m_seenAt m_seenGreener m_s m_aside m_before m_marked m_undone m_isLaid m_more m_row m_bestRow m_greenerBy K))) : XC (xF L xs) xmeths (d + 4) 189 [.ref 169, .int 4, .int 0, .int 9] (clsW pn pc tok ship nn tl draft vd log trial sta says seed past marks (mdlX m_thrown m_taped m_size m_place m_begin m_token m_word m_told m_wrong m_code m_toldLines m_given m_fresh m_done m_odd m_bestRank m_leastSpray m_g m_tape m_ship m_manName m_postName m_kind m_greenTold m_hands m_spray m_holds m_sea m_lineFrom m_lineTo m_codes m_opened m_compared m_kept m_keptBy m_ahead m_against m_sum m_sumBy m_term m_termBy m_byNot m_valueOf m_lines m_lineWhat m_lineA m_lineB m_seens m_seenMan m_seenOther m_seenAt m_seenGreener m_s m_aside m_before m_marked m_undone m_isLaid m_more m_row m_bestRow m_greenerBy K)) Q := by
  unfold onP at h
  have hx := tkX_le (C := C) sl
  have et := R.told
  have tb : tfM tf 4 = tf 5 := rfl
  subst et
  refine ⟨nb rfl, xgo [12] 60 ?_⟩
  refine And.intro (fun (q : ¬ bit (nI (bsN (tfM tf) 7)) (nI 4)) => ?_) (fun (q : ¬ ¬ bit (nI (bsN (tfM tf) 7)) (nI 4)) => ?_)
  rotate_left
  · rw [if_pos (tb ▸ (bup_bit (by decide)).mp (Classical.not_not.mp q))] at h
    exact ⟨rfl, nb rfl, m_fails (k := 3) mk ⟨rfl, h0 _ h _ _ _ _ _ _ _ _ _ _ _ _ _ _ _ _ _ _ _ _ _ _ _ Lo⟩⟩
  rw [if_neg (fun y => q ((bup_bit (by decide)).mpr (tb.trans y)))] at h
  have eo : nI (bsN (tfM tf) 7) ||| ((1 : Int32) <<< (nI 4 &&& 31)) = nI (bsN (tfM (bup tf 5)) 7) := by rw [bup_or (by decide), tfM_j tf (by decide) (by decide)]
  have fin : ∀ v s, s ≤ l → H (cloP C l s (fun s => k s (D.kind, D.green, D.hands, D.manName, D.spray, D.holds, D.postName, D.sea, D.law, D.men, D.posts, D.seas, D.shade, D.lemon, nI v))) → ∀ m_place m_begin m_token m_word m_told, MkR m_token m_begin m_place m_told m_word C l s → XWp (xF L xs) (some .boolean) xP189 (XC (xF L xs) xmeths (d + 3)) Q 29 [orf 169, oi 4, oi 0, oi 9] [] (clsW pn pc tok ship nn tl draft vd log trial sta says seed past marks (mdlX m_thrown m_taped m_size m_place m_begin m_token m_word m_told m_wrong m_code (nI (bsN (tfM tf) 7) ||| ((1 : Int32) <<< (nI 4 &&& 31))) (nI v) m_fresh m_done m_odd m_bestRank m_leastSpray m_g m_tape m_ship m_manName m_postName m_kind m_greenTold m_hands m_spray m_holds m_sea m_lineFrom m_lineTo m_codes m_opened m_compared m_kept m_keptBy m_ahead m_against m_sum m_sumBy m_term m_termBy m_byNot m_valueOf m_lines m_lineWhat m_lineA m_lineB m_seens m_seenMan m_seenOther m_seenAt m_seenGreener m_s m_aside m_before m_marked m_undone m_isLaid m_more m_row m_bestRow m_greenerBy K)) := by
    intro v s sl h a1 a2 a3 a4 a5 mk
    have us : ∀ i, ¬ i = 10 → upd m_ship 10 (nI v) i = m_ship i := fun i hi => pk_un hi
    have Lo2 : Low B (upd m_ship 10 (nI v)) m_kind m_greenTold m_hands m_manName m_spray m_holds m_postName m_sea m_lineFrom m_lineTo m_codes := ⟨updLo (by omega) Lo.ship, Lo.kind, Lo.green, Lo.hands, Lo.man, Lo.spray, Lo.holds, Lo.post, Lo.sea, Lo.lf, Lo.lt, Lo.codes⟩
    have R2 : RD (D.kind, D.green, D.hands, D.manName, D.spray, D.holds, D.postName, D.sea, D.law, D.men, D.posts, D.seas, D.shade, D.lemon, nI v) n p z (bup tf 5) cd (upd m_ship 10 (nI v)) m_kind m_greenTold m_hands m_manName m_spray m_holds m_postName m_sea m_lineFrom m_lineTo m_codes (nI (bsN (tfM tf) 7) ||| ((1 : Int32) <<< (nI 4 &&& 31))) m_code :=
      ⟨by rw [us 6 (by decide)]; exact R.men, by rw [us 7 (by decide)]; exact R.posts, by rw [us 8 (by decide)]; exact R.shade, by rw [us 9 (by decide)]; exact R.lemon, pk_us .., by rw [us 11 (by decide)]; exact R.seas, R.kind, R.green, R.hands, R.man, R.spray, R.holds, R.post, R.sea, eo, R.lf, R.lt, R.codes, fun y => R.code (by simpa [bup] using y), R.len⟩
    have a37 : XWp (xF L xs) (some .boolean) xP189 (XC (xF L xs) xmeths (d + 3)) Q 37 [orf 169, oi 4, oi 0, oi 9] [] (clsW pn pc tok ship nn tl draft vd log trial sta says seed past marks (mdlX m_thrown m_taped m_size a1 a2 a3 a4 a5 m_wrong m_code (nI (bsN (tfM tf) 7) ||| ((1 : Int32) <<< (nI 4 &&& 31))) (nI v) m_fresh m_done m_odd m_bestRank m_leastSpray m_g m_tape (upd m_ship 10 (nI v)) m_manName m_postName m_kind m_greenTold m_hands m_spray m_holds m_sea m_lineFrom m_lineTo m_codes m_opened m_compared m_kept m_keptBy m_ahead m_against m_sum m_sumBy m_term m_termBy m_byNot m_valueOf m_lines m_lineWhat m_lineA m_lineB m_seens m_seenMan m_seenOther m_seenAt m_seenGreener m_s m_aside m_before m_marked m_undone m_isLaid m_more m_row m_bestRow m_greenerBy K)) :=
      xgo [] 20 ⟨rfl, nb rfl, m_closes hs l1 rp mk sl h (fun f hf => ⟨rfl, h0 _ hf _ _ _ _ _ _ _ _ _ _ _ _ _ _ _ _ _ _ _ _ _ _ _ Lo2⟩) (fun s5 h f1 f2 a1 a2 a3 a4 a5 mk => ⟨rfl, h1 s5 _ h f2 _ _ _ _ _ _ _ _ _ _ _ _ _ _ _ _ _ _ _ _ _ _ _ Lo2 R2 mk⟩)⟩
    refine xgo [37] 20 ⟨vp_in_nI (n := 10) (by decide) (by decide), ?_⟩
    exact (congrArg (XWp (xF L xs) (some .boolean) xP189 (XC (xF L xs) xmeths (d + 3)) Q 37 [orf 169, oi 4, oi 0, oi 9] []) (st_ship (x := upd m_ship 10 (nI v)))).mpr a37
  refine xgo [19] 20 (xp_toldLines rfl (xgo [29] 20 ⟨rfl, nb rfl, m_next (m_toldLines := nI (bsN (tfM tf) 7) ||| ((1 : Int32) <<< (nI 4 &&& 31))) hs l1 rp mk sl (fun a1 a2 a3 a4 a5 mk => ?_)⟩))
  refine ⟨rfl, nb rfl, m_num (lo := 0) (hi := 9) hs l1 rp mk hx.2.1 (by decide) (by decide) h (fun f hf => vFd rfl ⟨rfl, h0 _ hf _ _ _ _ _ _ _ _ _ _ _ _ _ _ _ _ _ _ _ _ _ _ _ Lo⟩) (fun v s2 h b1 b2 b3 b4 a1 a2 a3 a4 a5 mk => vTd rfl (fin v s2 b4 h a1 a2 a3 a4 a5 mk))⟩
theorem m_readsGreens {k : Nat → TShip → List Int32 → RSt} (hs : m_size = nI l) (l1 : l ≤ 1000) (rp : RpC m_tape C l) (mk : MkR m_token m_begin m_place m_told m_word C l s) (sl : s ≤ l) (R : RD D n p z tf cd m_ship m_kind m_greenTold m_hands m_manName m_spray m_holds m_postName m_sea m_lineFrom m_lineTo m_codes m_toldLines m_code) (Lo : Low B m_ship m_kind m_greenTold m_hands m_manName m_spray m_holds m_postName m_sea m_lineFrom m_lineTo m_codes) (ht : tf 6 = true ↔ 0 < cd.length) (h : H (onP tf 6 s (lawP C l (tkX C l s) D (fun s D cd => cloP C l s (fun s => k s D cd))))) (h0 : ∀ f, H (.inl f) → ∀ m_ship m_kind m_greenTold m_hands m_manName m_spray m_holds m_postName m_sea m_lineFrom m_lineTo m_codes m_place m_begin m_token m_word m_told m_given m_fresh m_toldLines m_code m_opened m_compared, Low B m_ship m_kind m_greenTold m_hands m_manName m_spray m_holds m_postName m_sea m_lineFrom m_lineTo m_codes → Q (some (.int 0)) (clsW pn pc tok ship nn tl draft vd log trial sta says seed past marks (mdlX m_thrown m_taped m_size m_place m_begin m_token m_word m_told (nI f) m_code m_toldLines m_given m_fresh m_done m_odd m_bestRank m_leastSpray m_g m_tape m_ship m_manName m_postName m_kind m_greenTold m_hands m_spray m_holds m_sea m_lineFrom m_lineTo m_codes m_opened m_compared m_kept m_keptBy m_ahead m_against m_sum m_sumBy m_term m_termBy m_byNot m_valueOf m_lines m_lineWhat m_lineA m_lineB m_seens m_seenMan m_seenOther m_seenAt m_seenGreener m_s m_aside m_before m_marked m_undone m_isLaid m_more m_row m_bestRow m_greenerBy K))) (h1 : ∀ s' D' cd', H (k s' D' cd') → s' ≤ l → ∀ m_ship m_kind m_greenTold m_hands m_manName m_spray m_holds m_postName m_sea m_lineFrom m_lineTo m_codes m_place m_begin m_token m_word m_told m_given m_fresh m_toldLines m_code m_opened m_compared, Low B m_ship m_kind m_greenTold m_hands m_manName m_spray m_holds m_postName m_sea m_lineFrom m_lineTo m_codes → RD D' n p z (bup tf 6) cd' m_ship m_kind m_greenTold m_hands m_manName m_spray m_holds m_postName m_sea m_lineFrom m_lineTo m_codes m_toldLines m_code → MkR m_token m_begin m_place m_told m_word C l s' → Q (some (.int 1)) (clsW pn pc tok ship nn tl draft vd log trial sta says seed past marks (mdlX m_thrown m_taped m_size m_place m_begin m_token m_word m_told m_wrong m_code m_toldLines m_given m_fresh m_done m_odd m_bestRank m_leastSpray m_g m_tape m_ship m_manName m_postName m_kind m_greenTold m_hands m_spray m_holds m_sea m_lineFrom m_lineTo m_codes m_opened m_compared m_kept m_keptBy m_ahead m_against m_sum m_sumBy m_term m_termBy m_byNot m_valueOf m_lines m_lineWhat m_lineA m_lineB m_seens m_seenMan m_seenOther m_seenAt m_seenGreener m_s m_aside m_before m_marked m_undone m_isLaid m_more m_row m_bestRow m_greenerBy K))) : XC (xF L xs) xmeths (d + 4) 190 [.ref 169] (clsW pn pc tok ship nn tl draft vd log trial sta says seed past marks (mdlX m_thrown m_taped m_size m_place m_begin m_token m_word m_told m_wrong m_code m_toldLines m_given m_fresh m_done m_odd m_bestRank m_leastSpray m_g m_tape m_ship m_manName m_postName m_kind m_greenTold m_hands m_spray m_holds m_sea m_lineFrom m_lineTo m_codes m_opened m_compared m_kept m_keptBy m_ahead m_against m_sum m_sumBy m_term m_termBy m_byNot m_valueOf m_lines m_lineWhat m_lineA m_lineB m_seens m_seenMan m_seenOther m_seenAt m_seenGreener m_s m_aside m_before m_marked m_undone m_isLaid m_more m_row m_bestRow m_greenerBy K)) Q := by
  unfold onP at h
  have hx := tkX_le (C := C) sl
  have ln := R.len
  refine ⟨nb rfl, xgo [13] 20 ⟨vp_in_nI (n := 1) (by decide) (by decide), vp_in_nI (n := 1) (by decide) (by decide), ?_⟩⟩
  refine pk_le (1000 + cd.length) 1000 (fun q => ?_) (fun q => ?_) R.lt R.lf (by omega) (by omega)
  rotate_left
  · rw [if_pos (ht.mpr (by omega))] at h
    exact ⟨rfl, nb rfl, m_fails (k := 3) mk ⟨rfl, h0 _ h _ _ _ _ _ _ _ _ _ _ _ _ _ _ _ _ _ _ _ _ _ _ _ Lo⟩⟩
  have t6 : ¬ tf 6 = true := fun y => by have := ht.mp y; omega
  rw [if_neg t6] at h
  have ec := R.code t6
  unfold lawP at h
  refine xgo [15] 20 ⟨rfl, nb rfl, m_next hs l1 rp mk sl (fun a1 a2 a3 a4 a5 mk => ?_)⟩
  have Lo1 : Low B m_ship m_kind m_greenTold m_hands m_manName m_spray m_holds m_postName m_sea (upd m_lineFrom 1 m_code) m_lineTo m_codes := ⟨Lo.ship, Lo.kind, Lo.green, Lo.hands, Lo.man, Lo.spray, Lo.holds, Lo.post, Lo.sea, (pk_un (by decide)).trans Lo.lf, Lo.lt, Lo.codes⟩
  have a21 : XWp (xF L xs) (some .boolean) xP190 (XC (xF L xs) xmeths (d + 3)) Q 21 [orf 169] [] (clsW pn pc tok ship nn tl draft vd log trial sta says seed past marks (mdlX m_thrown m_taped m_size a1 a2 a3 a4 a5 m_wrong m_code m_toldLines m_given m_fresh m_done m_odd m_bestRank m_leastSpray m_g m_tape m_ship m_manName m_postName m_kind m_greenTold m_hands m_spray m_holds m_sea (upd m_lineFrom 1 m_code) m_lineTo m_codes m_opened m_compared m_kept m_keptBy m_ahead m_against m_sum m_sumBy m_term m_termBy m_byNot m_valueOf m_lines m_lineWhat m_lineA m_lineB m_seens m_seenMan m_seenOther m_seenAt m_seenGreener m_s m_aside m_before m_marked m_undone m_isLaid m_more m_row m_bestRow m_greenerBy K)) := by
    refine xgo [26] 20 ⟨rfl, nb rfl, m_reads (cs0 := m_codes) hs l1 rp mk hx.2.1 ec (fun _ _ => rfl) (fun f hf b1 b2 b3 b4 b5 b6 b7 b8 b9 lo => ?_) (fun s' st cd' e q b1 b2 b5 b6 b7 b8 b9 mk lo => ?_)⟩
    · refine vFd rfl ⟨rfl, ?_⟩
      have hh : H (.inl f) := by
        rcases hf with e | ⟨s', st, cd', e, q, rfl⟩
        · rw [e] at h; exact h
        · rw [e] at h
          simp only [cloP, if_neg q] at h
          exact h
      exact h0 f hh _ _ _ _ _ _ _ _ _ _ _ b3 _ _ _ _ _ _ _ _ _ _ _ ⟨Lo1.ship, Lo1.kind, Lo1.green, Lo1.hands, Lo1.man, Lo1.spray, Lo1.holds, Lo1.post, Lo1.sea, Lo1.lf, Lo1.lt, fun k hk => (lo k hk).trans (Lo.codes k hk)⟩
    · have fw := all_fw (par_fw 5) _ hx.2.1 _ _ _ e
      have hx2 := tkX_le (C := C) fw.2.1
      rw [e] at h
      simp only [cloP, if_pos q] at h
      have Lo2 : Low B m_ship m_kind m_greenTold m_hands m_manName m_spray m_holds m_postName m_sea (upd m_lineFrom 1 m_code) (upd m_lineTo 1 (nI (1000 + cd'.length))) (layF m_codes 1000 cd') := ⟨Lo1.ship, Lo1.kind, Lo1.green, Lo1.hands, Lo1.man, Lo1.spray, Lo1.holds, Lo1.post, Lo1.sea, Lo1.lf, (pk_un (by decide)).trans Lo.lt, fun k hk => (lo k hk).trans (Lo.codes k hk)⟩
      have R2 := fun (D' : TShip) (eD : D'.shade = D.shade ∧ D'.lemon = D.lemon ∧ D'.harbour = D.harbour ∧ D'.kind = D.kind ∧ D'.green = D.green ∧ D'.hands = D.hands ∧ D'.manName = D.manName ∧ D'.spray = D.spray ∧ D'.holds = D.holds ∧ D'.postName = D.postName ∧ D'.sea = D.sea) => (show RD D' n p z (bup tf 6) cd' m_ship m_kind m_greenTold m_hands m_manName m_spray m_holds m_postName m_sea (upd m_lineFrom 1 m_code) (upd m_lineTo 1 (nI (1000 + cd'.length))) (layF m_codes 1000 cd') m_toldLines (nI (1000 + cd'.length)) from by
        obtain ⟨e1, e2, e3, e4, e5, e6, e7, e8, e9, e10, e11⟩ := eD
        rw [RD, e1, e2, e3, e4, e5, e6, e7, e8, e9, e10, e11]
        exact ⟨R.men, R.posts, R.shade, R.lemon, R.harbour, R.seas, R.kind, R.green, R.hands, R.man, R.spray, R.holds, R.post, R.sea, by rw [tfM_6]; exact R.told, (pk_us ..).trans ec, pk_us .., fun i hi => layF_get (cs := m_codes) cd' m_codes 1000 i hi, fun y => absurd (by simp [bup]) y, by omega⟩)
      have fin := h1 _ _ _ h hx2.2.1 m_ship m_kind m_greenTold m_hands m_manName m_spray m_holds m_postName m_sea (upd m_lineFrom 1 m_code) (upd m_lineTo 1 (nI (1000 + cd'.length))) (layF m_codes 1000 cd') b5 b6 b7 b8 b9 m_given m_fresh m_toldLines (nI (1000 + cd'.length)) b1 b2 Lo2 (R2 _ ⟨rfl, rfl, rfl, rfl, rfl, rfl, rfl, rfl, rfl, rfl, rfl⟩) mk
      refine vTd rfl (xgo [32] 20 ⟨vp_in_nI (n := 1) (by decide) (by decide), ?_⟩)
      refine (congrArg (XWp (xF L xs) (some .boolean) xP190 (XC (xF L xs) xmeths (d + 3)) Q 32 [orf 169] []) (st_lineTo (x := upd m_lineTo 1 (nI (1000 + cd'.length))))).mpr ?_
      exact xgo [] 20 ⟨rfl, fin⟩
  refine xgo [21] 20 ⟨vp_in_nI (n := 1) (by decide) (by decide), ?_⟩
  exact (congrArg (XWp (xF L xs) (some .boolean) xP190 (XC (xF L xs) xmeths (d + 3)) Q 21 [orf 169] []) (st_lineFrom (x := upd m_lineFrom 1 m_code))).mpr a21
end XMJ
