/-! a voyage read: what holds; the reference's reader -/
section XVE
variable {C : Nat → Nat} {l s n p c : Nat} {P : VSt → Prop} {V M B : Nat → Nat} {fm fp : Fl}
theorem kn_el {f : Fl} {m : Nat} {k : Nat → Nat → VSt} (sl : s ≤ l) (hf : ∀ g, 0 < g → g ≤ 5 + 16 * l → P (.inl g)) (hk : ∀ a s', s ≤ s' → s' ≤ l → P (k a s')) : P (knP C l f m s k) := by
  unfold knP
  have hx := tkX_le (C := C) sl
  split
  · split
    · exact hf _ (by omega) (by omega)
    · exact hk _ _ hx.1 hx.2.1
  · exact hf _ (by omega) (by omega)
theorem ki_el {b : Bool} {f : Fl} {m : Nat} {k : Nat → Nat → VSt} (sl : s ≤ l) (hf : ∀ g, 0 < g → g ≤ 5 + 16 * l → P (.inl g)) (hk : ∀ a s', s ≤ s' → s' ≤ l → P (k a s')) : P (kiP C l b f m s k) := by
  unfold kiP
  split
  · exact kn_el sl hf hk
  · exact hk _ _ (Nat.le_refl _) sl
theorem vln_el {k : VKt} (sl : s ≤ l) (hf : ∀ g, 0 < g → g ≤ 5 + 16 * l → P (.inl g)) (hk : ∀ s' V M B, s < s' → s' ≤ l → c < 40 → P (k s' (c + 1) V M B)) : P (vlnP C l fm n fp p s c V M B k) := by
  unfold vlnP
  have hx := tkX_le (C := C) sl
  split
  · exact hf _ (by omega) (by omega)
  · rename_i q
    have hl := vbN_lt q
    have hx3 := hx.2.2 hl
    split
    · rename_i c4
      refine ki_el hx.2.1 hf (fun a s1 a1 a2 => ki_el a2 hf (fun b s2 b1 b2 => ?_))
      unfold cloP
      have hy := tkX_le (C := C) b2
      split
      · exact hk _ _ _ _ (by omega) hy.2.1 c4
      · exact hf _ (by omega) (by omega)
    · exact hf _ (by omega) (by omega)
theorem vyn_ft : ∀ m s c V M B, s ≤ l → ∀ g, vynP C l fm n fp p m s c V M B = .inl g → 0 < g ∧ g ≤ 5 + 16 * l := by
  intro m
  induction m with
  | zero =>
    intro s c V M B sl g e
    rw [vynP] at e
    cases e
  | succ m ih =>
    intro s c V M B sl g e
    rw [vynP] at e
    split at e
    · cases e
    · revert e
      exact vln_el (P := fun r => r = .inl g → 0 < g ∧ g ≤ 5 + 16 * l) sl (fun g' a b e => by cases e; exact ⟨a, b⟩) (fun s' V M B a b _ e => ih s' (c + 1) V M B b g e)
/-- the reader's way as a relation: where a line leads -/
def bindV (k : VKt) : VSt → VSt
  | .inl f => .inl f
  | .inr (s, c, V, M, B) => k s c V M B
theorem ki_natV {φ : VSt → VSt} {b : Bool} {f : Fl} {m : Nat} {k : Nat → Nat → VSt} (hφ : ∀ f, φ (.inl f) = .inl f) : φ (kiP C l b f m s k) = kiP C l b f m s (fun a s => φ (k a s)) := by
  unfold kiP knP
  split
  · split
    · split
      · exact hφ _
      · rfl
    · exact hφ _
  · rfl
def idV : VKt := fun s c V M B => .inr (s, c, V, M, B)
theorem vln_to {H : VSt → Prop} {k : VKt} (sl : s ≤ l) (h : H (vlnP C l fm n fp p s c V M B k)) : (fun r => H (bindV k r) ∧ ∀ s' c' V' M' B', r = .inr (s', c', V', M', B') → s < s' ∧ s' ≤ l ∧ c' ≤ 40) (vlnP C l fm n fp p s c V M B idV) := by
  refine ⟨?_, ?_⟩
  · have e : bindV k (vlnP C l fm n fp p s c V M B idV) = vlnP C l fm n fp p s c V M B k := by
      unfold vlnP
      split
      · rfl
      · split
        · rw [ki_natV (φ := bindV k) (fun _ => rfl)]
          congr 1
          funext a s1
          rw [ki_natV (φ := bindV k) (fun _ => rfl)]
          congr 1
          funext b s2
          unfold cloP
          split
          · rfl
          · rfl
        · rfl
    rw [e]
    exact h
  · exact vln_el (P := fun r => ∀ s' c' V' M' B', r = .inr (s', c', V', M', B') → s < s' ∧ s' ≤ l ∧ c' ≤ 40) sl (fun f _ _ _ _ _ _ _ e => by cases e) (fun s1 V1 M1 B1 a b c4 s' c' V' M' B' e => by
      simp only [idV, Sum.inr.injEq, Prod.mk.injEq] at e
      obtain ⟨rfl, rfl, rfl, rfl, rfl⟩ := e
      exact ⟨a, b, by omega⟩)
end XVE
section XVC
variable {L : Nat} {xs : Nat → Int32} {d : Nat} {Q : XQt} {pn pc : Int32} {tok : TTok} {ship : TShip} {nn : Int64} {tl : Int32} {draft : TShip} {vd : TVoy} {log : TLog} {trial : TCrew} {sta : TSta} {says : Fn} {seed : Int64} {past : Nat → TCrew} {marks : Nat → TLog} {K : XWd}
variable {C : Nat → Nat} {l n p : Nat} {T : Fn}
theorem c_voyage (hK : K.length < 700000) (rp : RpC T C l) (l1 : l ≤ 1000) (hS : tok.signs = T) (hl : tok.length = nI l) (hm : ship.men = nI n) (n6 : n ≤ 6) (hp : ship.posts = nI p) (p4 : p ≤ 4) (h0 : ∀ g, vynP C l ship.manName n ship.postName p 1000 (tkS C l 0) 0 (fun _ => 0) (fun _ => 0) (fun _ => 0) = .inl g → ∀ (tok : TTok) vd, tok.length = 0 → Q (some (.int (nI g))) (clsW pn pc tok ship nn tl draft vd log trial sta says seed past marks K)) (h1 : ∀ s' c V M B (vd : TVoy), vynP C l ship.manName n ship.postName p 1000 (tkS C l 0) 0 (fun _ => 0) (fun _ => 0) (fun _ => 0) = .inr (s', c, V, M, B) → VDr vd n p c V M B → ∀ tok : TTok, tok.length = 0 → Q (some (.int 0)) (clsW pn pc tok ship nn tl draft vd (log.voy.cp vd, log.seen, log.crew, log.laid) trial sta says seed past marks K)) : XC (xF L xs) xmeths (d + 10) 69 [.ref 0] (clsW pn pc tok ship nn tl draft vd log trial sta says seed past marks K) Q := by
  refine ⟨nb rfl, xgo [20] 40 ⟨rfl, nb rfl, c_voyRead hK rp l1 hS hl hm n6 hp p4 (fun g hg tok vd => ?_) (fun s' c V M B vd e vr tok => ?_)⟩⟩
  · have ⟨f0, f1⟩ := vyn_ft 1000 _ _ _ _ _ (tkS_le (Nat.zero_le _)).2 g hg
    refine ⟨nb rfl, ?_⟩
    refine pk_ne g 0 (fun _ => ?_) (fun y => by omega) rfl nI_0.symm (by omega) (by omega)
    have h0 := h0 g hg (tok.signs, tok.kind, tok.start, tok.next, 0, tok.number, tok.taken, tok.name, tok.fault) vd rfl
    exact xgo [] 20 h0
  · refine ⟨nb rfl, vFd rfl ⟨rfl, nb rfl, XC_le (by omega) (c_voyCopy (d := d) (tok := (tok.signs, tok.kind, tok.start, tok.next, 0, tok.number, tok.taken, tok.name, tok.fault)) ?_)⟩⟩
    exact xgo [] 20 (h1 s' c V M B vd e vr _ rfl)
end XVC
abbrev TVx : Type := Fn × Fn × Fn × Fn
abbrev VLo (X : TVx) (a_n a_w a_a a_b : Fn) : Prop := (∀ k, k < 5 → a_n k = X.1 k) ∧ (∀ k, k < 200 → a_w k = X.2.1 k) ∧ (∀ k, k < 200 → a_a k = X.2.2.1 k) ∧ (∀ k, k < 200 → a_b k = X.2.2.2 k)
theorem VLo.size {X : TVx} {a_n a_w a_a a_b : Fn} (h : VLo X a_n a_w a_a a_b) : ∀ k, k < 5 → a_n k = X.1 k := h.1
theorem VLo.what {X : TVx} {a_n a_w a_a a_b : Fn} (h : VLo X a_n a_w a_a a_b) : ∀ k, k < 200 → a_w k = X.2.1 k := h.2.1
theorem VLo.man {X : TVx} {a_n a_w a_a a_b : Fn} (h : VLo X a_n a_w a_a a_b) : ∀ k, k < 200 → a_a k = X.2.2.1 k := h.2.2.1
theorem VLo.post {X : TVx} {a_n a_w a_a a_b : Fn} (h : VLo X a_n a_w a_a a_b) : ∀ k, k < 200 → a_b k = X.2.2.2 k := h.2.2.2
abbrev VRd (c : Nat) (V M B : Nat → Nat) (a_n a_w a_a a_b : Fn) : Prop := (a_n 5 = nI c) ∧ (∀ i, i < c → a_w (200 + i) = nI (V i)) ∧ (∀ i, i < c → V i < 4 → a_a (200 + i) = nI (M i)) ∧ (∀ i, i < c → V i = 0 → a_b (200 + i) = nI (B i))
theorem VRd.size {c : Nat} {V M B : Nat → Nat} {a_n a_w a_a a_b : Fn} (h : VRd c V M B a_n a_w a_a a_b) : a_n 5 = nI c := h.1
theorem VRd.what {c : Nat} {V M B : Nat → Nat} {a_n a_w a_a a_b : Fn} (h : VRd c V M B a_n a_w a_a a_b) : ∀ i, i < c → a_w (200 + i) = nI (V i) := h.2.1
theorem VRd.man {c : Nat} {V M B : Nat → Nat} {a_n a_w a_a a_b : Fn} (h : VRd c V M B a_n a_w a_a a_b) : ∀ i, i < c → V i < 4 → a_a (200 + i) = nI (M i) := h.2.2.1
theorem VRd.post {c : Nat} {V M B : Nat → Nat} {a_n a_w a_a a_b : Fn} (h : VRd c V M B a_n a_w a_a a_b) : ∀ i, i < c → V i = 0 → a_b (200 + i) = nI (B i) := h.2.2.2
section XVM
variable {L : Nat} {xs : Nat → Int32} {d : Nat} {Q : XQt} {pn pc : Int32} {tok : TTok} {ship : TShip} {nn : Int64} {tl : Int32} {draft : TShip} {vd : TVoy} {log : TLog} {trial : TCrew} {sta : TSta} {says : Fn} {seed : Int64} {past : Nat → TCrew} {marks : Nat → TLog} {K : XWd}
variable {m_thrown : Int32} {m_taped : Int32} {m_size : Int32} {m_place : Int32} {m_begin : Int32} {m_token : Int32} {m_word : Int64} {m_told : Int32} {m_wrong : Int32} {m_code : Int32} {m_toldLines : Int32} {m_given : Int32} {m_fresh : Int64} {m_done : Int32} {m_odd : Int32} {m_bestRank : Int32} {m_leastSpray : Int32} {m_g : Int64} {m_tape : Fn} {m_ship : Fn} {m_manName : Fl} {m_postName : Fl} {m_kind : Fn} {m_greenTold : Fn} {m_hands : Fn} {m_spray : Fn} {m_holds : Fn} {m_sea : Fn} {m_lineFrom : Fn} {m_lineTo : Fn} {m_codes : Fn} {m_opened : Fn} {m_compared : Fn} {m_kept : Fn} {m_keptBy : Fn} {m_ahead : Fn} {m_against : Fn} {m_sum : Fn} {m_sumBy : Fn} {m_term : Fn} {m_termBy : Fn} {m_byNot : Fn} {m_valueOf : Fn} {m_lines : Fn} {m_lineWhat : Fn} {m_lineA : Fn} {m_lineB : Fn} {m_seens : Fn} {m_seenMan : Fn} {m_seenOther : Fn} {m_seenAt : Fn} {m_seenGreener : Fn} {m_s : Fn} {m_aside : Fn} {m_before : Fn} {m_marked : Fn} {m_undone : Fn} {m_isLaid : Fn} {m_more : Fn} {m_row : Fn} {m_bestRow : Fn} {m_greenerBy : Fl}
variable {C : Nat → Nat} {l s n p c v : Nat} {H : VSt → Prop} {V M B : Nat → Nat} {X : TVx} {fm fp : Fl} {k : VKt}
theorem rl_123 {a b : Nat} (hs : m_size = nI l) (l1 : l ≤ 1000) (rp : RpC m_tape C l) (mk : MkR m_token m_begin m_place m_told m_word C l s) (sl : s ≤ l) (Lo : VLo X m_lines m_lineWhat m_lineA m_lineB) (R : VRd c V M B m_lines m_lineWhat m_lineA m_lineB) (c4 : c < 40) (ew : m_lineWhat (200 + c) = nI v) (ea : v < 4 → m_lineA (200 + c) = nI a) (eb : v = 0 → m_lineB (200 + c) = nI b) (h : H (cloP C l s (fun s3 => k s3 (c + 1) (updN V c v) (updN M c a) (updN B c b)))) (h0 : ∀ g, H (.inl g) → ∀ m_lines m_lineWhat m_lineA m_lineB m_place m_begin m_token m_word m_told, VLo X m_lines m_lineWhat m_lineA m_lineB → Q (some (.int 0)) (clsW pn pc tok ship nn tl draft vd log trial sta says seed past marks (mdlX m_thrown m_taped m_size m_place m_begin m_token m_word m_told (nI g) m_code m_toldLines m_given m_fresh m_done m_odd m_bestRank m_leastSpray m_g m_tape m_ship m_manName m_postName m_kind m_greenTold m_hands m_spray m_holds m_sea m_lineFrom m_lineTo m_codes m_opened m_compared m_kept m_keptBy m_ahead m_against m_sum m_sumBy m_term m_termBy m_byNot m_valueOf m_lines m_lineWhat m_lineA m_lineB m_seens m_seenMan m_seenOther m_seenAt m_seenGreener m_s m_aside m_before m_marked m_undone m_isLaid m_more m_row m_bestRow m_greenerBy K))) (h1 : ∀ s' c' V' M' B', H (k s' c' V' M' B') → s' ≤ l → ∀ m_lines m_lineWhat m_lineA m_lineB m_place m_begin m_token m_word m_told, VLo X m_lines m_lineWhat m_lineA m_lineB → VRd c' V' M' B' m_lines m_lineWhat m_lineA m_lineB → MkR m_token m_begin m_place m_told m_word C l s' → Q (some (.int 1)) (clsW pn pc tok ship nn tl draft vd log trial sta says seed past marks (mdlX m_thrown m_taped m_size m_place m_begin m_token m_word m_told m_wrong m_code m_toldLines m_given m_fresh m_done m_odd m_bestRank m_leastSpray m_g m_tape m_ship m_manName m_postName m_kind m_greenTold m_hands m_spray m_holds m_sea m_lineFrom m_lineTo m_codes m_opened m_compared m_kept m_keptBy m_ahead m_against m_sum m_sumBy m_term m_termBy m_byNot m_valueOf m_lines m_lineWhat m_lineA m_lineB m_seens m_seenMan m_seenOther m_seenAt m_seenGreener m_s m_aside m_before m_marked m_undone m_isLaid m_more m_row m_bestRow m_greenerBy K))) : XWp (xF L xs) (some .boolean) xP199 (XC (xF L xs) xmeths (d + 4)) Q 123 [orf 169, oi (nI v), oi (nI (200 + c))] [] (clsW pn pc tok ship nn tl draft vd log trial sta says seed past marks (mdlX m_thrown m_taped m_size m_place m_begin m_token m_word m_told m_wrong m_code m_toldLines m_given m_fresh m_done m_odd m_bestRank m_leastSpray m_g m_tape m_ship m_manName m_postName m_kind m_greenTold m_hands m_spray m_holds m_sea m_lineFrom m_lineTo m_codes m_opened m_compared m_kept m_keptBy m_ahead m_against m_sum m_sumBy m_term m_termBy m_byNot m_valueOf m_lines m_lineWhat m_lineA m_lineB m_seens m_seenMan m_seenOther m_seenAt m_seenGreener m_s m_aside m_before m_marked m_undone m_isLaid m_more m_row m_bestRow m_greenerBy K)) := by
  have Lo2 : VLo X (upd m_lines 5 (m_lines 5 + 1)) m_lineWhat m_lineA m_lineB := ⟨updLo (by omega) Lo.size, Lo.what, Lo.man, Lo.post⟩
  have R2 : VRd (c + 1) (updN V c v) (updN M c a) (updN B c b) (upd m_lines 5 (m_lines 5 + 1)) m_lineWhat m_lineA m_lineB := by
    refine ⟨by rw [pk_us, R.size, nI_succ], fun i hi => ?_, fun i hi q => ?_, fun i hi q => ?_⟩
    · by_cases y : i = c
      · rw [y, updN_s]; exact ew
      · rw [updN_n y]; exact R.what i (by omega)
    · by_cases y : i = c
      · rw [y, updN_s] at q
        rw [y, updN_s]; exact ea q
      · rw [updN_n y] at q
        rw [updN_n y]; exact R.man i (by omega) q
    · by_cases y : i = c
      · rw [y, updN_s] at q
        rw [y, updN_s]; exact eb q
      · rw [updN_n y] at q
        rw [updN_n y]; exact R.post i (by omega) q
  have a131 : XWp (xF L xs) (some .boolean) xP199 (XC (xF L xs) xmeths (d + 4)) Q 131 [orf 169, oi (nI v), oi (nI (200 + c))] [] (clsW pn pc tok ship nn tl draft vd log trial sta says seed past marks (mdlX m_thrown m_taped m_size m_place m_begin m_token m_word m_told m_wrong m_code m_toldLines m_given m_fresh m_done m_odd m_bestRank m_leastSpray m_g m_tape m_ship m_manName m_postName m_kind m_greenTold m_hands m_spray m_holds m_sea m_lineFrom m_lineTo m_codes m_opened m_compared m_kept m_keptBy m_ahead m_against m_sum m_sumBy m_term m_termBy m_byNot m_valueOf (upd m_lines 5 (m_lines 5 + 1)) m_lineWhat m_lineA m_lineB m_seens m_seenMan m_seenOther m_seenAt m_seenGreener m_s m_aside m_before m_marked m_undone m_isLaid m_more m_row m_bestRow m_greenerBy K)) := by
    unfold cloP at h
    have hx := tkX_le (C := C) sl
    refine xgo [] 20 ⟨rfl, nb rfl, ?_⟩
    refine ⟨nb rfl, xgo [8] 40 ⟨rfl, nb rfl, m_isSign (c := 59) (m_lines := upd m_lines 5 (m_lines 5 + 1)) hs l1 rp mk (by decide) (vB1 (fun q => ?_) (fun q => ?_))⟩⟩
    · rw [if_pos q] at h
      exact xgo [] 20 ⟨rfl, nb rfl, m_next hs l1 rp mk sl (fun a1 a2 a3 a4 a5 mk' => ⟨rfl, ⟨rfl, h1 _ _ _ _ _ h hx.2.1 _ _ _ _ a1 a2 a3 a4 a5 Lo2 R2 mk'⟩⟩)⟩
    · rw [if_neg q] at h
      exact ⟨rfl, nb rfl, m_fails (k := 1) mk ⟨rfl, ⟨rfl, h0 _ h _ _ _ _ _ _ _ _ _ Lo2⟩⟩⟩
  refine xgo [131] 20 ⟨vp_in_nI (n := 5) (by decide) (by decide), vp_in_nI (n := 5) (by decide) (by decide), ?_⟩
  exact (congrArg (XWp (xF L xs) (some .boolean) xP199 (XC (xF L xs) xmeths (d + 4)) Q 131 [orf 169, oi (nI v), oi (nI (200 + c))] []) (st_lines (x := upd m_lines 5 (m_lines 5 + 1)))).mpr a131
theorem rl_96 {a : Nat} (hs : m_size = nI l) (l1 : l ≤ 1000) (rp : RpC m_tape C l) (mk : MkR m_token m_begin m_place m_told m_word C l s) (sl : s ≤ l) (Lo : VLo X m_lines m_lineWhat m_lineA m_lineB) (R : VRd c V M B m_lines m_lineWhat m_lineA m_lineB) (c4 : c < 40) (v5 : v ≤ 5) (p4 : p ≤ 4) (hp : m_ship 1 = nI p) (hfp : ∀ j, j < p → m_postName (0 + j) = fp j) (ew : m_lineWhat (200 + c) = nI v) (ea : v < 4 → m_lineA (200 + c) = nI a) (h : H (kiP C l (decide (v = 0)) fp p s (fun b s2 => cloP C l s2 (fun s3 => k s3 (c + 1) (updN V c v) (updN M c a) (updN B c b))))) (h0 : ∀ g, H (.inl g) → ∀ m_lines m_lineWhat m_lineA m_lineB m_place m_begin m_token m_word m_told, VLo X m_lines m_lineWhat m_lineA m_lineB → Q (some (.int 0)) (clsW pn pc tok ship nn tl draft vd log trial sta says seed past marks (mdlX m_thrown m_taped m_size m_place m_begin m_token m_word m_told (nI g) m_code m_toldLines m_given m_fresh m_done m_odd m_bestRank m_leastSpray m_g m_tape m_ship m_manName m_postName m_kind m_greenTold m_hands m_spray m_holds m_sea m_lineFrom m_lineTo m_codes m_opened m_compared m_kept m_keptBy m_ahead m_against m_sum m_sumBy m_term m_termBy m_byNot m_valueOf m_lines m_lineWhat m_lineA m_lineB m_seens m_seenMan m_seenOther m_seenAt m_seenGreener m_s m_aside m_before m_marked m_undone m_isLaid m_more m_row m_bestRow m_greenerBy K))) (h1 : ∀ s' c' V' M' B', H (k s' c' V' M' B') → s' ≤ l → ∀ m_lines m_lineWhat m_lineA m_lineB m_place m_begin m_token m_word m_told, VLo X m_lines m_lineWhat m_lineA m_lineB → VRd c' V' M' B' m_lines m_lineWhat m_lineA m_lineB → MkR m_token m_begin m_place m_told m_word C l s' → Q (some (.int 1)) (clsW pn pc tok ship nn tl draft vd log trial sta says seed past marks (mdlX m_thrown m_taped m_size m_place m_begin m_token m_word m_told m_wrong m_code m_toldLines m_given m_fresh m_done m_odd m_bestRank m_leastSpray m_g m_tape m_ship m_manName m_postName m_kind m_greenTold m_hands m_spray m_holds m_sea m_lineFrom m_lineTo m_codes m_opened m_compared m_kept m_keptBy m_ahead m_against m_sum m_sumBy m_term m_termBy m_byNot m_valueOf m_lines m_lineWhat m_lineA m_lineB m_seens m_seenMan m_seenOther m_seenAt m_seenGreener m_s m_aside m_before m_marked m_undone m_isLaid m_more m_row m_bestRow m_greenerBy K))) : XWp (xF L xs) (some .boolean) xP199 (XC (xF L xs) xmeths (d + 4)) Q 96 [orf 169, oi (nI v), oi (nI (200 + c))] [] (clsW pn pc tok ship nn tl draft vd log trial sta says seed past marks (mdlX m_thrown m_taped m_size m_place m_begin m_token m_word m_told m_wrong m_code m_toldLines m_given m_fresh m_done m_odd m_bestRank m_leastSpray m_g m_tape m_ship m_manName m_postName m_kind m_greenTold m_hands m_spray m_holds m_sea m_lineFrom m_lineTo m_codes m_opened m_compared m_kept m_keptBy m_ahead m_against m_sum m_sumBy m_term m_termBy m_byNot m_valueOf m_lines m_lineWhat m_lineA m_lineB m_seens m_seenMan m_seenOther m_seenAt m_seenGreener m_s m_aside m_before m_marked m_undone m_isLaid m_more m_row m_bestRow m_greenerBy K)) := by
  unfold kiP at h
  have hx := tkX_le (C := C) sl
  refine xgo [123, 105] 40 (pk_ne v 0 (fun y => ?_) (fun y => ?_) rfl nI_0.symm (by omega) (by omega))
  · rw [if_neg (by simpa using y)] at h
    exact rl_123 hs l1 rp mk sl Lo R c4 ew ea (fun z => absurd z y) h h0 h1
  rw [if_pos (by simpa using y)] at h
  unfold knP at h
  refine ⟨rfl, nb rfl, m_isKept mk (vB0 (fun q => ?_) (fun q => ?_))⟩
  rotate_left
  · rw [if_neg q] at h
    exact ⟨rfl, nb rfl, m_fails (k := 1) mk ⟨rfl, h0 _ h _ _ _ _ _ _ _ _ _ Lo⟩⟩
  have q := Classical.not_not.mp q
  rw [if_pos q] at h
  have en : m_word = lN (wdV C l s) := mk.word q.1
  have e1 : lkN (fun k => m_postName (0 + k)) m_word p 0 = lkN fp (lN (wdV C l s)) p 0 := by
    rw [en]
    exact lkN_congr p 0 (fun j _ hj => hfp j (by omega))
  refine xgo [111] 20 ⟨rfl, nb rfl, XC_le (by omega) (m_postNamed_0 (d := d) p4 hp ?_)⟩
  rw [e1]
  generalize hx : lkN fp (lN (wdV C l s)) p 0 = x at *
  have Lo2 : VLo X m_lines m_lineWhat m_lineA (upd m_lineB (200 + c) x) := ⟨Lo.size, Lo.what, Lo.man, updLo (by omega) Lo.post⟩
  have a116 : ∀ y, y = x → XWp (xF L xs) (some .boolean) xP199 (XC (xF L xs) xmeths (d + 4)) Q 116 [orf 169, oi (nI v), oi (nI (200 + c))] [.int y] (clsW pn pc tok ship nn tl draft vd log trial sta says seed past marks (mdlX m_thrown m_taped m_size m_place m_begin m_token m_word m_told m_wrong m_code m_toldLines m_given m_fresh m_done m_odd m_bestRank m_leastSpray m_g m_tape m_ship m_manName m_postName m_kind m_greenTold m_hands m_spray m_holds m_sea m_lineFrom m_lineTo m_codes m_opened m_compared m_kept m_keptBy m_ahead m_against m_sum m_sumBy m_term m_termBy m_byNot m_valueOf m_lines m_lineWhat m_lineA (upd m_lineB (200 + c) x) m_seens m_seenMan m_seenOther m_seenAt m_seenGreener m_s m_aside m_before m_marked m_undone m_isLaid m_more m_row m_bestRow m_greenerBy K)) := by
    intro y ey
    subst ey
    rcases lkN_ge (f := fp) (v := lN (wdV C l s)) p 0 (by omega) with e | ⟨j, a1, a2, e⟩
    · rw [hx] at e
      rw [if_pos e] at h
      refine xgo [121] 20 (vF (fun (z : 0 ≤ y) => absurd z (by rw [e]; decide)) ?_)
      exact ⟨rfl, nb rfl, m_fails (k := 2) mk ⟨rfl, h0 _ h _ _ _ _ _ _ _ _ _ Lo2⟩⟩
    · rw [hx] at e
      have ne : ¬ y = -1 := by rw [e]; exact nIm (by omega)
      rw [if_neg ne] at h
      rw [e, nI_clamp (by omega)] at h
      refine xgo [121] 20 (vT (show 0 ≤ y by rw [e]; exact nI_pos' (by omega)) ?_)
      refine xgo [123] 20 ⟨rfl, nb rfl, XC_le (by omega) (m_next (d := d) hs l1 rp mk sl (fun b1 b2 b3 b4 b5 mk' => ?_))⟩
      have hx2 := tkX_le (C := C) sl
      have R2 : VRd c V M B m_lines m_lineWhat m_lineA (upd m_lineB (200 + c) y) := ⟨R.size, R.what, R.man, fun i hi q => (pk_un (by omega)).trans (R.post i hi q)⟩
      exact rl_123 (b := j) hs l1 rp mk' hx2.2.1 Lo2 R2 c4 ew ea (fun _ => (pk_us ..).trans e) h h0 h1
  refine xgo [112] 20 ⟨vp_in_nI (by omega) (by omega), ?_⟩
  rw [nI_clamp (by omega), st_lineB]
  refine xgo [116] 20 ⟨vp_in_nI (by omega) (by omega), ?_⟩
  rw [nI_clamp (by omega)]
  exact a116 _ (show upd m_lineB (200 + c) x (200 + c) = _ from pk_us ..)
theorem rl_68 (hs : m_size = nI l) (l1 : l ≤ 1000) (rp : RpC m_tape C l) (mk : MkR m_token m_begin m_place m_told m_word C l s) (sl : s ≤ l) (Lo : VLo X m_lines m_lineWhat m_lineA m_lineB) (R : VRd c V M B m_lines m_lineWhat m_lineA m_lineB) (c4 : c < 40) (v5 : v ≤ 5) (n6 : n ≤ 6) (hm : m_ship 0 = nI n) (hfm : ∀ j, j < n → m_manName (0 + j) = fm j) (p4 : p ≤ 4) (hp : m_ship 1 = nI p) (hfp : ∀ j, j < p → m_postName (0 + j) = fp j) (ew : m_lineWhat (200 + c) = nI v) (h : H (kiP C l (decide (v < 4)) fm n s (fun a s1 => kiP C l (decide (v = 0)) fp p s1 (fun b s2 => cloP C l s2 (fun s3 => k s3 (c + 1) (updN V c v) (updN M c a) (updN B c b)))))) (h0 : ∀ g, H (.inl g) → ∀ m_lines m_lineWhat m_lineA m_lineB m_place m_begin m_token m_word m_told, VLo X m_lines m_lineWhat m_lineA m_lineB → Q (some (.int 0)) (clsW pn pc tok ship nn tl draft vd log trial sta says seed past marks (mdlX m_thrown m_taped m_size m_place m_begin m_token m_word m_told (nI g) m_code m_toldLines m_given m_fresh m_done m_odd m_bestRank m_leastSpray m_g m_tape m_ship m_manName m_postName m_kind m_greenTold m_hands m_spray m_holds m_sea m_lineFrom m_lineTo m_codes m_opened m_compared m_kept m_keptBy m_ahead m_against m_sum m_sumBy m_term m_termBy m_byNot m_valueOf m_lines m_lineWhat m_lineA m_lineB m_seens m_seenMan m_seenOther m_seenAt m_seenGreener m_s m_aside m_before m_marked m_undone m_isLaid m_more m_row m_bestRow m_greenerBy K))) (h1 : ∀ s' c' V' M' B', H (k s' c' V' M' B') → s' ≤ l → ∀ m_lines m_lineWhat m_lineA m_lineB m_place m_begin m_token m_word m_told, VLo X m_lines m_lineWhat m_lineA m_lineB → VRd c' V' M' B' m_lines m_lineWhat m_lineA m_lineB → MkR m_token m_begin m_place m_told m_word C l s' → Q (some (.int 1)) (clsW pn pc tok ship nn tl draft vd log trial sta says seed past marks (mdlX m_thrown m_taped m_size m_place m_begin m_token m_word m_told m_wrong m_code m_toldLines m_given m_fresh m_done m_odd m_bestRank m_leastSpray m_g m_tape m_ship m_manName m_postName m_kind m_greenTold m_hands m_spray m_holds m_sea m_lineFrom m_lineTo m_codes m_opened m_compared m_kept m_keptBy m_ahead m_against m_sum m_sumBy m_term m_termBy m_byNot m_valueOf m_lines m_lineWhat m_lineA m_lineB m_seens m_seenMan m_seenOther m_seenAt m_seenGreener m_s m_aside m_before m_marked m_undone m_isLaid m_more m_row m_bestRow m_greenerBy K))) : XWp (xF L xs) (some .boolean) xP199 (XC (xF L xs) xmeths (d + 4)) Q 68 [orf 169, oi (nI v), oi (nI (200 + c))] [] (clsW pn pc tok ship nn tl draft vd log trial sta says seed past marks (mdlX m_thrown m_taped m_size m_place m_begin m_token m_word m_told m_wrong m_code m_toldLines m_given m_fresh m_done m_odd m_bestRank m_leastSpray m_g m_tape m_ship m_manName m_postName m_kind m_greenTold m_hands m_spray m_holds m_sea m_lineFrom m_lineTo m_codes m_opened m_compared m_kept m_keptBy m_ahead m_against m_sum m_sumBy m_term m_termBy m_byNot m_valueOf m_lines m_lineWhat m_lineA m_lineB m_seens m_seenMan m_seenOther m_seenAt m_seenGreener m_s m_aside m_before m_marked m_undone m_isLaid m_more m_row m_bestRow m_greenerBy K)) := by
  unfold kiP at h
  have hx := tkX_le (C := C) sl
  refine xgo [96, 78] 40 (pk_le 4 v (fun y => ?_) (fun y => ?_) rfl rfl (by omega) (by omega))
  · rw [if_neg (by simpa using y)] at h
    exact rl_96 hs l1 rp mk sl Lo R c4 v5 p4 hp hfp ew (fun z => by omega) h h0 h1
  rw [if_pos (by simpa using y)] at h
  unfold knP at h
  refine ⟨rfl, nb rfl, m_isKept mk (vB0 (fun q => ?_) (fun q => ?_))⟩
  rotate_left
  · rw [if_neg q] at h
    exact ⟨rfl, nb rfl, m_fails (k := 1) mk ⟨rfl, h0 _ h _ _ _ _ _ _ _ _ _ Lo⟩⟩
  have q := Classical.not_not.mp q
  rw [if_pos q] at h
  have en : m_word = lN (wdV C l s) := mk.word q.1
  have e1 : lkN (fun k => m_manName (0 + k)) m_word n 0 = lkN fm (lN (wdV C l s)) n 0 := by
    rw [en]
    exact lkN_congr n 0 (fun j _ hj => hfm j (by omega))
  refine xgo [84] 20 ⟨rfl, nb rfl, XC_le (by omega) (m_manNamed_0 (d := d) n6 hm ?_)⟩
  rw [e1]
  generalize hx : lkN fm (lN (wdV C l s)) n 0 = x at *
  have Lo2 : VLo X m_lines m_lineWhat (upd m_lineA (200 + c) x) m_lineB := ⟨Lo.size, Lo.what, updLo (by omega) Lo.man, Lo.post⟩
  have a89 : ∀ y, y = x → XWp (xF L xs) (some .boolean) xP199 (XC (xF L xs) xmeths (d + 4)) Q 89 [orf 169, oi (nI v), oi (nI (200 + c))] [.int y] (clsW pn pc tok ship nn tl draft vd log trial sta says seed past marks (mdlX m_thrown m_taped m_size m_place m_begin m_token m_word m_told m_wrong m_code m_toldLines m_given m_fresh m_done m_odd m_bestRank m_leastSpray m_g m_tape m_ship m_manName m_postName m_kind m_greenTold m_hands m_spray m_holds m_sea m_lineFrom m_lineTo m_codes m_opened m_compared m_kept m_keptBy m_ahead m_against m_sum m_sumBy m_term m_termBy m_byNot m_valueOf m_lines m_lineWhat (upd m_lineA (200 + c) x) m_lineB m_seens m_seenMan m_seenOther m_seenAt m_seenGreener m_s m_aside m_before m_marked m_undone m_isLaid m_more m_row m_bestRow m_greenerBy K)) := by
    intro y ey
    subst ey
    rcases lkN_ge (f := fm) (v := lN (wdV C l s)) n 0 (by omega) with e | ⟨j, a1, a2, e⟩
    · rw [hx] at e
      rw [if_pos e] at h
      refine xgo [94] 20 (vF (fun (z : 0 ≤ y) => absurd z (by rw [e]; decide)) ?_)
      exact ⟨rfl, nb rfl, m_fails (k := 2) mk ⟨rfl, h0 _ h _ _ _ _ _ _ _ _ _ Lo2⟩⟩
    · rw [hx] at e
      have ne : ¬ y = -1 := by rw [e]; exact nIm (by omega)
      rw [if_neg ne] at h
      rw [e, nI_clamp (by omega)] at h
      refine xgo [94] 20 (vT (show 0 ≤ y by rw [e]; exact nI_pos' (by omega)) ?_)
      refine xgo [96] 20 ⟨rfl, nb rfl, XC_le (by omega) (m_next (d := d) hs l1 rp mk sl (fun b1 b2 b3 b4 b5 mk' => ?_))⟩
      have hx2 := tkX_le (C := C) sl
      have R2 : VRd c V M B m_lines m_lineWhat (upd m_lineA (200 + c) y) m_lineB := ⟨R.size, R.what, fun i hi q => (pk_un (by omega)).trans (R.man i hi q), R.post⟩
      exact rl_96 (a := j) hs l1 rp mk' hx2.2.1 Lo2 R2 c4 v5 p4 hp hfp ew (fun _ => (pk_us ..).trans e) h h0 h1
  refine xgo [85] 20 ⟨vp_in_nI (by omega) (by omega), ?_⟩
  rw [nI_clamp (by omega), st_lineA]
  refine xgo [89] 20 ⟨vp_in_nI (by omega) (by omega), ?_⟩
  rw [nI_clamp (by omega)]
  exact a89 _ (show upd m_lineA (200 + c) x (200 + c) = _ from pk_us ..)
theorem rl_38 (hs : m_size = nI l) (l1 : l ≤ 1000) (rp : RpC m_tape C l) (mk : MkR m_token m_begin m_place m_told m_word C l s) (sl : s ≤ l) (Lo : VLo X m_lines m_lineWhat m_lineA m_lineB) (R : VRd c V M B m_lines m_lineWhat m_lineA m_lineB) (c4 : c ≤ 40) (n6 : n ≤ 6) (hm : m_ship 0 = nI n) (hfm : ∀ j, j < n → m_manName (0 + j) = fm j) (p4 : p ≤ 4) (hp : m_ship 1 = nI p) (hfp : ∀ j, j < p → m_postName (0 + j) = fp j) (h : H (vlnP C l fm n fp p s c V M B k)) (h0 : ∀ g, H (.inl g) → ∀ m_lines m_lineWhat m_lineA m_lineB m_place m_begin m_token m_word m_told, VLo X m_lines m_lineWhat m_lineA m_lineB → Q (some (.int 0)) (clsW pn pc tok ship nn tl draft vd log trial sta says seed past marks (mdlX m_thrown m_taped m_size m_place m_begin m_token m_word m_told (nI g) m_code m_toldLines m_given m_fresh m_done m_odd m_bestRank m_leastSpray m_g m_tape m_ship m_manName m_postName m_kind m_greenTold m_hands m_spray m_holds m_sea m_lineFrom m_lineTo m_codes m_opened m_compared m_kept m_keptBy m_ahead m_against m_sum m_sumBy m_term m_termBy m_byNot m_valueOf m_lines m_lineWhat m_lineA m_lineB m_seens m_seenMan m_seenOther m_seenAt m_seenGreener m_s m_aside m_before m_marked m_undone m_isLaid m_more m_row m_bestRow m_greenerBy K))) (h1 : ∀ s' c' V' M' B', H (k s' c' V' M' B') → s' ≤ l → ∀ m_lines m_lineWhat m_lineA m_lineB m_place m_begin m_token m_word m_told, VLo X m_lines m_lineWhat m_lineA m_lineB → VRd c' V' M' B' m_lines m_lineWhat m_lineA m_lineB → MkR m_token m_begin m_place m_told m_word C l s' → Q (some (.int 1)) (clsW pn pc tok ship nn tl draft vd log trial sta says seed past marks (mdlX m_thrown m_taped m_size m_place m_begin m_token m_word m_told m_wrong m_code m_toldLines m_given m_fresh m_done m_odd m_bestRank m_leastSpray m_g m_tape m_ship m_manName m_postName m_kind m_greenTold m_hands m_spray m_holds m_sea m_lineFrom m_lineTo m_codes m_opened m_compared m_kept m_keptBy m_ahead m_against m_sum m_sumBy m_term m_termBy m_byNot m_valueOf m_lines m_lineWhat m_lineA m_lineB m_seens m_seenMan m_seenOther m_seenAt m_seenGreener m_s m_aside m_before m_marked m_undone m_isLaid m_more m_row m_bestRow m_greenerBy K))) : ∀ x : Int32, x = (if vbN C l s = 6 then (-1 : Int32) else nI (vbN C l s)) → XWp (xF L xs) (some .boolean) xP199 (XC (xF L xs) xmeths (d + 4)) Q 38 [orf 169, oi x, none] [] (clsW pn pc tok ship nn tl draft vd log trial sta says seed past marks (mdlX m_thrown m_taped m_size m_place m_begin m_token m_word m_told m_wrong m_code m_toldLines m_given m_fresh m_done m_odd m_bestRank m_leastSpray m_g m_tape m_ship m_manName m_postName m_kind m_greenTold m_hands m_spray m_holds m_sea m_lineFrom m_lineTo m_codes m_opened m_compared m_kept m_keptBy m_ahead m_against m_sum m_sumBy m_term m_termBy m_byNot m_valueOf m_lines m_lineWhat m_lineA m_lineB m_seens m_seenMan m_seenOther m_seenAt m_seenGreener m_s m_aside m_before m_marked m_undone m_isLaid m_more m_row m_bestRow m_greenerBy K)) := by
  intro x ex
  unfold vlnP at h
  have v6 := vbN_le (C := C) (l := l) (s := s)
  have hx := tkX_le (C := C) sl
  by_cases q : vbN C l s = 6
  · rw [if_pos q] at h ex
    subst ex
    exact xgo [44] 20 (vFd rfl ⟨rfl, nb rfl, m_fails (k := 1) mk ⟨rfl, h0 _ h _ _ _ _ _ _ _ _ _ Lo⟩⟩)
  rw [if_neg q] at h ex
  subst ex
  generalize hv : vbN C l s = v at *
  refine xgo [44] 20 (vT (show 0 ≤ nI v from nI_pos' (by omega)) ?_)
  refine xgo [54] 20 ⟨vp_in_nI (n := 5) (by decide) (by decide), ?_⟩
  refine pk_ne c 40 (fun q2 => ?_) (fun q2 => ?_) R.size rfl (by omega) (by omega)
  rotate_left
  · rw [if_neg (by omega)] at h
    exact ⟨rfl, nb rfl, m_fails (k := 5) mk ⟨rfl, h0 _ h _ _ _ _ _ _ _ _ _ Lo⟩⟩
  rw [if_pos (by omega)] at h
  refine xgo [56] 20 ⟨rfl, nb rfl, XC_le (by omega) (m_next (d := d) hs l1 rp mk sl (fun b1 b2 b3 b4 b5 mk' => ?_))⟩
  have Lo2 : VLo X m_lines (upd m_lineWhat (200 + c) (nI v)) m_lineA m_lineB := ⟨Lo.size, updLo (by omega) Lo.what, Lo.man, Lo.post⟩
  have R2 : VRd c V M B m_lines (upd m_lineWhat (200 + c) (nI v)) m_lineA m_lineB := ⟨R.size, fun i hi => (pk_un (by omega)).trans (R.what i hi), R.man, R.post⟩
  have T := rl_68 (L := L) (xs := xs) (d := d) (m_wrong := m_wrong) hs l1 rp mk' hx.2.1 Lo2 R2 (by omega) (by omega) n6 hm hfm p4 hp hfp (pk_us ..) h h0 h1
  have a62 : ∀ y, y = nI (200 + c) → XWp (xF L xs) (some .boolean) xP199 (XC (xF L xs) xmeths (d + 4)) Q 62 [orf 169, oi (nI v), none] [.int y] (clsW pn pc tok ship nn tl draft vd log trial sta says seed past marks (mdlX m_thrown m_taped m_size b1 b2 b3 b4 b5 m_wrong m_code m_toldLines m_given m_fresh m_done m_odd m_bestRank m_leastSpray m_g m_tape m_ship m_manName m_postName m_kind m_greenTold m_hands m_spray m_holds m_sea m_lineFrom m_lineTo m_codes m_opened m_compared m_kept m_keptBy m_ahead m_against m_sum m_sumBy m_term m_termBy m_byNot m_valueOf m_lines m_lineWhat m_lineA m_lineB m_seens m_seenMan m_seenOther m_seenAt m_seenGreener m_s m_aside m_before m_marked m_undone m_isLaid m_more m_row m_bestRow m_greenerBy K)) := by
    intro y ey
    subst ey
    refine xgo [68] 20 ⟨nb rfl, vp_in_nI (by omega) (by omega), ?_⟩
    rw [nI_clamp (by omega), st_lineWhat]
    exact T
  refine xgo [62] 20 ⟨vp_in_nI (n := 5) (by decide) (by decide), ?_⟩
  exact a62 _ (by show Int32.ofInt 200 + m_lines 5 = _; rw [R.size, ← nI_add]; rfl)
theorem m_readsLine (hs : m_size = nI l) (l1 : l ≤ 1000) (rp : RpC m_tape C l) (mk : MkR m_token m_begin m_place m_told m_word C l s) (sl : s ≤ l) (Lo : VLo X m_lines m_lineWhat m_lineA m_lineB) (R : VRd c V M B m_lines m_lineWhat m_lineA m_lineB) (c4 : c ≤ 40) (n6 : n ≤ 6) (hm : m_ship 0 = nI n) (hfm : ∀ j, j < n → m_manName (0 + j) = fm j) (p4 : p ≤ 4) (hp : m_ship 1 = nI p) (hfp : ∀ j, j < p → m_postName (0 + j) = fp j) (h : H (vlnP C l fm n fp p s c V M B k)) (h0 : ∀ g, H (.inl g) → ∀ m_lines m_lineWhat m_lineA m_lineB m_place m_begin m_token m_word m_told, VLo X m_lines m_lineWhat m_lineA m_lineB → Q (some (.int 0)) (clsW pn pc tok ship nn tl draft vd log trial sta says seed past marks (mdlX m_thrown m_taped m_size m_place m_begin m_token m_word m_told (nI g) m_code m_toldLines m_given m_fresh m_done m_odd m_bestRank m_leastSpray m_g m_tape m_ship m_manName m_postName m_kind m_greenTold m_hands m_spray m_holds m_sea m_lineFrom m_lineTo m_codes m_opened m_compared m_kept m_keptBy m_ahead m_against m_sum m_sumBy m_term m_termBy m_byNot m_valueOf m_lines m_lineWhat m_lineA m_lineB m_seens m_seenMan m_seenOther m_seenAt m_seenGreener m_s m_aside m_before m_marked m_undone m_isLaid m_more m_row m_bestRow m_greenerBy K))) (h1 : ∀ s' c' V' M' B', H (k s' c' V' M' B') → s' ≤ l → ∀ m_lines m_lineWhat m_lineA m_lineB m_place m_begin m_token m_word m_told, VLo X m_lines m_lineWhat m_lineA m_lineB → VRd c' V' M' B' m_lines m_lineWhat m_lineA m_lineB → MkR m_token m_begin m_place m_told m_word C l s' → Q (some (.int 1)) (clsW pn pc tok ship nn tl draft vd log trial sta says seed past marks (mdlX m_thrown m_taped m_size m_place m_begin m_token m_word m_told m_wrong m_code m_toldLines m_given m_fresh m_done m_odd m_bestRank m_leastSpray m_g m_tape m_ship m_manName m_postName m_kind m_greenTold m_hands m_spray m_holds m_sea m_lineFrom m_lineTo m_codes m_opened m_compared m_kept m_keptBy m_ahead m_against m_sum m_sumBy m_term m_termBy m_byNot m_valueOf m_lines m_lineWhat m_lineA m_lineB m_seens m_seenMan m_seenOther m_seenAt m_seenGreener m_s m_aside m_before m_marked m_undone m_isLaid m_more m_row m_bestRow m_greenerBy K))) : XC (xF L xs) xmeths (d + 5) 199 [.ref 169] (clsW pn pc tok ship nn tl draft vd log trial sta says seed past marks (mdlX m_thrown m_taped m_size m_place m_begin m_token m_word m_told m_wrong m_code m_toldLines m_given m_fresh m_done m_odd m_bestRank m_leastSpray m_g m_tape m_ship m_manName m_postName m_kind m_greenTold m_hands m_spray m_holds m_sea m_lineFrom m_lineTo m_codes m_opened m_compared m_kept m_keptBy m_ahead m_against m_sum m_sumBy m_term m_termBy m_byNot m_valueOf m_lines m_lineWhat m_lineA m_lineB m_seens m_seenMan m_seenOther m_seenAt m_seenGreener m_s m_aside m_before m_marked m_undone m_isLaid m_more m_row m_bestRow m_greenerBy K)) Q := by
  have T := rl_38 (L := L) (xs := xs) (d := d) (m_wrong := m_wrong) hs l1 rp mk sl Lo R c4 n6 hm hfm p4 hp hfp h h0 h1
  clear h h0 h1 Lo R
  have a37 : ∀ x : Int32, x = (if vbN C l s = 6 then (-1 : Int32) else nI (vbN C l s)) → XWp (xF L xs) (some .boolean) xP199 (XC (xF L xs) xmeths (d + 4)) Q 37 [orf 169, none, none] [.int x] (clsW pn pc tok ship nn tl draft vd log trial sta says seed past marks (mdlX m_thrown m_taped m_size m_place m_begin m_token m_word m_told m_wrong m_code m_toldLines m_given m_fresh m_done m_odd m_bestRank m_leastSpray m_g m_tape m_ship m_manName m_postName m_kind m_greenTold m_hands m_spray m_holds m_sea m_lineFrom m_lineTo m_codes m_opened m_compared m_kept m_keptBy m_ahead m_against m_sum m_sumBy m_term m_termBy m_byNot m_valueOf m_lines m_lineWhat m_lineA m_lineB m_seens m_seenMan m_seenOther m_seenAt m_seenGreener m_s m_aside m_before m_marked m_undone m_isLaid m_more m_row m_bestRow m_greenerBy K)) := fun x ex => xgo [38] 20 ⟨nb rfl, T x ex⟩
  clear T
  unfold vbN at a37
  refine ⟨nb rfl, xgo [37] 80 ⟨rfl, nb rfl, m_isWord (w := 10492150) mk (by decide) (vB0 (fun y1 => ?_) (fun y1 => ?_))⟩⟩
  rotate_left
  · exact a37 _ (by simp only [if_pos y1]; rfl)
  refine ⟨rfl, nb rfl, m_isWord (w := 1170473) mk (by decide) (vB0 (fun y2 => ?_) (fun y2 => ?_))⟩
  rotate_left
  · exact a37 _ (by simp only [if_neg y1, if_pos y2]; rfl)
  refine ⟨rfl, nb rfl, m_isWord (w := 389378) mk (by decide) (vB0 (fun y3 => ?_) (fun y3 => ?_))⟩
  rotate_left
  · exact a37 _ (by simp only [if_neg y1, if_neg y2, if_pos y3]; rfl)
  refine ⟨rfl, nb rfl, m_isWord (w := 119163) mk (by decide) (vB0 (fun y4 => ?_) (fun y4 => ?_))⟩
  rotate_left
  · exact a37 _ (by simp only [if_neg y1, if_neg y2, if_neg y3, if_pos y4]; rfl)
  refine ⟨rfl, nb rfl, m_isWord (w := 12257495) mk (by decide) (vB0 (fun y5 => ?_) (fun y5 => ?_))⟩
  rotate_left
  · exact a37 _ (by simp only [if_neg y1, if_neg y2, if_neg y3, if_neg y4, if_pos y5]; rfl)
  refine ⟨rfl, nb rfl, m_isWord (w := 89759) mk (by decide) (vB0 (fun y6 => ?_) (fun y6 => ?_))⟩
  · exact a37 _ (by simp only [if_neg y1, if_neg y2, if_neg y3, if_neg y4, if_neg y5, if_neg y6]; rfl)
  · exact a37 _ (by simp only [if_neg y1, if_neg y2, if_neg y3, if_neg y4, if_neg y5, if_pos y6]; rfl)
end XVM
