/-! a voyage as it is told, and the class's reader of it -/
def updN (f : Nat → Nat) (i x : Nat) : Nat → Nat := fun k => if k = i then x else f k
abbrev VSt : Type := Sum Nat (Nat × Nat × (Nat → Nat) × (Nat → Nat) × (Nat → Nat))
abbrev VKt : Type := Nat → Nat → (Nat → Nat) → (Nat → Nat) → (Nat → Nat) → VSt
def vbN (C : Nat → Nat) (l s : Nat) : Nat := if isW C l s 10492150 then 0 else if isW C l s 1170473 then 1 else if isW C l s 389378 then 2 else if isW C l s 119163 then 3 else if isW C l s 12257495 then 4 else if isW C l s 89759 then 5 else 6
theorem vbN_le {C : Nat → Nat} {l s : Nat} : vbN C l s ≤ 6 := by
  unfold vbN
  repeat' split
  all_goals omega
theorem vbN_lt {C : Nat → Nat} {l s : Nat} (h : ¬ vbN C l s = 6) : s < l := by
  refine tkK_lt (C := C) (fun y => h ?_)
  unfold vbN
  simp [isW, y]
theorem vl11_of {C : Nat → Nat} {l s : Nat} : (if tkK C l s = 1 then plN (wdV C l s) 0 vl11 else -1) = if vbN C l s = 6 then (-1 : Int32) else nI (vbN C l s) := by
  unfold vbN
  by_cases y : tkK C l s = 1
  · rw [if_pos y]
    simp only [isW, y, true_and, vl11, plN, eq_comm (b := wdV C l s)]
    by_cases a1 : wdV C l s = 10492150
    · simp only [if_pos a1]; rfl
    by_cases a2 : wdV C l s = 1170473
    · simp only [if_neg a1, if_pos a2]; rfl
    by_cases a3 : wdV C l s = 389378
    · simp only [if_neg a1, if_neg a2, if_pos a3]; rfl
    by_cases a4 : wdV C l s = 119163
    · simp only [if_neg a1, if_neg a2, if_neg a3, if_pos a4]; rfl
    by_cases a5 : wdV C l s = 12257495
    · simp only [if_neg a1, if_neg a2, if_neg a3, if_neg a4, if_pos a5]; rfl
    by_cases a6 : wdV C l s = 89759
    · simp only [if_neg a1, if_neg a2, if_neg a3, if_neg a4, if_neg a5, if_pos a6]; rfl
    · simp only [if_neg a1, if_neg a2, if_neg a3, if_neg a4, if_neg a5, if_neg a6]; rfl
  · rw [if_neg y]
    simp only [isW, y, false_and, if_false, if_true]
def knP (C : Nat → Nat) (l : Nat) (f : Fl) (n s : Nat) (k : Nat → Nat → VSt) : VSt := if isNm C l s then (if lkN f (lN (wdV C l s)) n 0 = -1 then .inl (2 + 16 * s) else k (lkN f (lN (wdV C l s)) n 0).toNatClampNeg (tkX C l s)) else .inl (1 + 16 * s)
def kiP (C : Nat → Nat) (l : Nat) (b : Bool) (f : Fl) (n s : Nat) (k : Nat → Nat → VSt) : VSt := if b = true then knP C l f n s k else k 0 s
def vlnP (C : Nat → Nat) (l : Nat) (fm : Fl) (n : Nat) (fp : Fl) (p : Nat) (s c : Nat) (V M B : Nat → Nat) (k : VKt) : VSt :=
  if vbN C l s = 6 then .inl (1 + 16 * s) else if c < 40 then
    kiP C l (decide (vbN C l s < 4)) fm n (tkX C l s) (fun a s1 => kiP C l (decide (vbN C l s = 0)) fp p s1 (fun b s2 => cloP C l s2 (fun s3 => k s3 (c + 1) (updN V c (vbN C l s)) (updN M c a) (updN B c b))))
  else .inl (5 + 16 * s)
def vynP (C : Nat → Nat) (l : Nat) (fm : Fl) (n : Nat) (fp : Fl) (p : Nat) : Nat → VKt
  | 0, s, c, V, M, B => .inr (s, c, V, M, B)
  | m + 1, s, c, V, M, B => if tkK C l s = 0 then .inr (s, c, V, M, B) else vlnP C l fm n fp p s c V M B (vynP C l fm n fp p m)
abbrev VDr (v : TVoy) (n p c : Nat) (V M B : Nat → Nat) : Prop := (v.lines = nI c) ∧ (c ≤ 40) ∧ (∀ i, i < c → v.line i = nI (V i + 8 * M i + 64 * B i)) ∧ (∀ i, i < c → V i ≤ 5) ∧ (∀ i, i < c → (V i < 4 → M i < n) ∧ M i < 8) ∧ (∀ i, i < c → (V i = 0 → B i < p) ∧ B i < 8)
theorem VDr.lines {v : TVoy} {n p c : Nat} {V M B : Nat → Nat} (h : VDr v n p c V M B) : v.lines = nI c := h.1
theorem VDr.c40 {v : TVoy} {n p c : Nat} {V M B : Nat → Nat} (h : VDr v n p c V M B) : c ≤ 40 := h.2.1
theorem VDr.line {v : TVoy} {n p c : Nat} {V M B : Nat → Nat} (h : VDr v n p c V M B) : ∀ i, i < c → v.line i = nI (V i + 8 * M i + 64 * B i) := h.2.2.1
theorem VDr.verb {v : TVoy} {n p c : Nat} {V M B : Nat → Nat} (h : VDr v n p c V M B) : ∀ i, i < c → V i ≤ 5 := h.2.2.2.1
theorem VDr.man {v : TVoy} {n p c : Nat} {V M B : Nat → Nat} (h : VDr v n p c V M B) : ∀ i, i < c → (V i < 4 → M i < n) ∧ M i < 8 := h.2.2.2.2.1
theorem VDr.post {v : TVoy} {n p c : Nat} {V M B : Nat → Nat} (h : VDr v n p c V M B) : ∀ i, i < c → (V i = 0 → B i < p) ∧ B i < 8 := h.2.2.2.2.2
theorem updN_s {f : Nat → Nat} {i x : Nat} : updN f i x i = x := if_pos rfl
theorem updN_n {f : Nat → Nat} {i x k : Nat} (h : ¬ k = i) : updN f i x k = f k := if_neg h
theorem VDr.add {v : TVoy} {n p c vb a b : Nat} {V M B : Nat → Nat} {ln : Fn} (h : VDr v n p c V M B) (c4 : c < 40) (hv : vb ≤ 5) (ha : (vb < 4 → a < n) ∧ a < 8) (hb : (vb = 0 → b < p) ∧ b < 8) (el : ln c = nI (vb + 8 * a + 64 * b)) (eo : ∀ i, ¬ i = c → ln i = v.line i) : VDr (ln, v.lines + 1) n p (c + 1) (updN V c vb) (updN M c a) (updN B c b) := by
  refine ⟨by show v.lines + 1 = _; rw [h.lines, nI_succ], by omega, fun i hi => ?_, fun i hi => ?_, fun i hi => ?_, fun i hi => ?_⟩
  · by_cases q : i = c
    · rw [q, updN_s, updN_s, updN_s]; exact el
    · rw [updN_n q, updN_n q, updN_n q]; exact (eo i q).trans (h.line i (by omega))
  · by_cases q : i = c
    · rw [q, updN_s]; exact hv
    · rw [updN_n q]; exact h.verb i (by omega)
  · by_cases q : i = c
    · rw [q, updN_s, updN_s]; exact ha
    · rw [updN_n q, updN_n q]; exact h.man i (by omega)
  · by_cases q : i = c
    · rw [q, updN_s, updN_s]; exact hb
    · rw [updN_n q, updN_n q]; exact h.post i (by omega)
section XVR
variable {L : Nat} {xs : Nat → Int32} {d : Nat} {Q : XQt} {pn pc : Int32} {tok : TTok} {ship : TShip} {nn : Int64} {tl : Int32} {draft : TShip} {vd : TVoy} {log : TLog} {trial : TCrew} {sta : TSta} {says : Fn} {seed : Int64} {past : Nat → TCrew} {marks : Nat → TLog} {K : XWd}
variable {C : Nat → Nat} {l s n p c : Nat} {T : Fn} {H : VSt → Prop} {V M B : Nat → Nat}
theorem c_takeKnown {k : Nat → Nat → VSt} {x : Int32} {u : Nat} {f : Fl} (hK : K.length < 700000) (tr : TkR tok T C l s) (rp : RpC T C l) (l1 : l ≤ 1000) (sl : s ≤ l) (n6 : n ≤ 6) (hc : vd.lines = nI c) (c4 : c < 40) (hx : isNm C l s → x = lkN f (lN (wdV C l s)) n 0) (h : H (knP C l f n s k)) (h0 : ∀ g, H (.inl g) → ∀ (tok : TTok), tok.fault = nI g → Q (some (.int 0)) (clsW pn pc tok ship nn tl draft vd log trial sta says seed past marks K)) (h1 : ∀ a s', H (k a s') → a < n → s ≤ s' → s' ≤ l → ∀ tok' : TTok, TkR tok' T C l s' → tok'.fault = tok.fault → Q (some (.int 1)) (clsW pn pc tok' ship nn tl draft (upd vd.line c (vd.line c + nI u * nI a), vd.lines) log trial sta says seed past marks K)) : XC (xF L xs) xmeths (d + 7) 72 [.ref 30, .ref 1, .int x, .int (nI u)] (clsW pn pc tok ship nn tl draft vd log trial sta says seed past marks K) Q := by
  unfold knP at h
  have hx1 := tkX_le (C := C) sl
  rcases vd with ⟨line, lines⟩
  have hc : lines = nI c := hc
  subst hc
  refine ⟨nb rfl, xgo [7, 14] 40 ⟨rfl, nb rfl, c_isName hK tr rp l1 sl (vB1 (fun q => ?_) (fun q => ?_))⟩⟩
  rotate_left
  · rw [if_neg q] at h
    exact ⟨rfl, nb rfl, c_refuse (k := 1) tr ⟨rfl, h0 _ h _ rfl⟩⟩
  rw [if_pos q] at h
  have hx := hx q
  subst hx
  refine xgo [14] 20 ?_
  rcases lkN_ge (f := f) (v := lN (wdV C l s)) n 0 (by omega) with e | ⟨j, a1, a2, e⟩
  · rw [if_pos e] at h
    refine And.intro (fun y => absurd e y) (fun _ => ?_)
    exact ⟨rfl, nb rfl, c_refuse (k := 2) tr ⟨rfl, h0 _ h _ rfl⟩⟩
  · have ne : ¬ nI j = -1 := nIm (by omega)
    rw [e, if_neg ne, nI_clamp (by omega)] at h
    rw [e]
    refine And.intro (fun _ => ?_) (fun y => absurd ne y)
    refine xgo [] 40 ⟨vp_in_nI (by omega) (by omega), vp_in_nI (by omega) (by omega), ?_⟩
    rw [nI_clamp (by omega)]
    refine ⟨rfl, nb rfl, c_adv (vd := (upd line c (line c + nI u * nI j), nI c)) hK tr rp l1 sl (fun tok' tr' f' _ => ⟨rfl, ?_⟩)⟩
    exact h1 j _ h (by omega) hx1.1 hx1.2.1 tok' tr' f'
theorem c_vline {k : VKt} (hK : K.length < 700000) (tr : TkR tok T C l s) (rp : RpC T C l) (l1 : l ≤ 1000) (sl : s ≤ l) (hm : ship.men = nI n) (n6 : n ≤ 6) (hp : ship.posts = nI p) (p4 : p ≤ 4) (vr : VDr vd n p c V M B) (h : H (vlnP C l ship.manName n ship.postName p s c V M B k)) (h0 : ∀ g, H (.inl g) → ∀ (tok : TTok) vd, tok.fault = nI g → Q (some (.int 0)) (clsW pn pc tok ship nn tl draft vd log trial sta says seed past marks K)) (h1 : ∀ s' c' V' M' B' (vd' : TVoy), H (k s' c' V' M' B') → VDr vd' n p c' V' M' B' → s' ≤ l → ∀ tok' : TTok, TkR tok' T C l s' → tok'.fault = tok.fault → Q (some (.int 1)) (clsW pn pc tok' ship nn tl draft vd' log trial sta says seed past marks K)) : XC (xF L xs) xmeths (d + 8) 71 [.ref 30, .ref 1, .ref 3] (clsW pn pc tok ship nn tl draft vd log trial sta says seed past marks K) Q := by
  unfold vlnP at h
  have v6 := vbN_le (C := C) (l := l) (s := s)
  have c40 := vr.c40
  have hx1 := tkX_le (C := C) sl
  rcases vd with ⟨line, lines⟩
  have hc : lines = nI c := vr.lines
  subst hc
  refine ⟨nb rfl, xgo [11, 19, 41, 54] 40 ⟨rfl, nb rfl, c_place11 hK tr rp l1 sl ?_⟩⟩
  rw [vl11_of]
  by_cases q : vbN C l s = 6
  · rw [if_pos q] at h
    rw [if_pos q]
    refine ⟨nb rfl, And.intro (fun y => absurd rfl y) (fun _ => ?_)⟩
    exact ⟨rfl, nb rfl, c_refuse (k := 1) tr ⟨rfl, h0 _ h _ _ rfl⟩⟩
  rw [if_neg q] at h
  rw [if_neg q]
  generalize hv : vbN C l s = v at *
  refine ⟨nb rfl, And.intro (fun _ => ?_) (fun y => absurd (nIm (k := v) (by omega)) y)⟩
  refine xgo [19] 20 (pk_lt c 40 (fun q2 => ?_) (fun q2 => ?_) rfl rfl (by omega) (by omega))
  rotate_left
  · rw [if_neg (by omega)] at h
    exact ⟨rfl, nb rfl, c_refuse (k := 5) tr ⟨rfl, h0 _ h _ _ rfl⟩⟩
  rw [if_pos q2] at h
  have a54 : ∀ a b s (tok' : TTok) (ln : Fn), H (cloP C l s (fun s3 => k s3 (c + 1) (updN V c v) (updN M c a) (updN B c b))) → s ≤ l → TkR tok' T C l s → tok'.fault = tok.fault → (v < 4 → a < n) ∧ a < 8 → (v = 0 → b < p) ∧ b < 8 → ln c = nI (v + 8 * a + 64 * b) → (∀ i, ¬ i = c → ln i = line i) → XWp (xF L xs) (some .boolean) xP71 (XC (xF L xs) xmeths (d + 7)) Q 54 [orf 30, orf 1, orf 3, oi (nI v)] [] (clsW pn pc tok' ship nn tl draft (ln, nI c) log trial sta says seed past marks K) := by
    intro a b s tok' ln h sl tr ft ha hb el eo
    unfold cloP at h
    have hx := tkX_le (C := C) sl
    refine xgo [] 20 ⟨rfl, nb rfl, c_takeSign (c := 59) (vd := (ln, nI c + 1)) hK tr rp l1 sl (by decide) (fun y tok2 tr2 f2 _ => ⟨rfl, ?_⟩) (fun y => ⟨rfl, ?_⟩)⟩
    · rw [if_pos y] at h
      exact h1 _ _ _ _ _ _ h (vr.add q2 (by omega) ha hb el eo) hx.2.1 tok2 tr2 (f2.trans ft)
    · rw [if_neg y] at h
      exact h0 _ h _ _ rfl
  have a41 : ∀ a s (tok' : TTok) (ln : Fn), H (kiP C l (decide (v = 0)) ship.postName p s (fun b s2 => cloP C l s2 (fun s3 => k s3 (c + 1) (updN V c v) (updN M c a) (updN B c b)))) → s ≤ l → TkR tok' T C l s → tok'.fault = tok.fault → (v < 4 → a < n) ∧ a < 8 → ln c = nI (v + 8 * a) → (∀ i, ¬ i = c → ln i = line i) → XWp (xF L xs) (some .boolean) xP71 (XC (xF L xs) xmeths (d + 7)) Q 41 [orf 30, orf 1, orf 3, oi (nI v)] [] (clsW pn pc tok' ship nn tl draft (ln, nI c) log trial sta says seed past marks K) := by
    intro a s tok' ln h sl tr ft ha el eo
    unfold kiP at h
    refine xgo [54] 40 (pk_ne v 0 (fun y => ?_) (fun y => ?_) rfl nI_0.symm (by omega) (by omega))
    · rw [if_neg (by simpa using y)] at h
      exact a54 a 0 s tok' ln h sl tr ft ha ⟨fun z => absurd z y, by omega⟩ (by rw [el]; rfl) eo
    · rw [if_pos (by simpa using y)] at h
      refine ⟨rfl, nb rfl, XC_le (by omega) (c_postCalled_3 (d := d) (v := tok'.name) p4 hp ?_)⟩
      refine ⟨rfl, nb rfl, c_takeKnown (u := 64) (f := ship.postName) (n := p) (c := c) (H := H) (vd := (ln, nI c)) hK tr rp l1 sl (by omega) rfl q2 (fun w => by rw [show tok'.name = lN (wdV C l s) from tr.name w.1]) h (fun g hg tok2 e2 => ?_) (fun b s2 h b1 b2 b3 tok2 tr2 f2 => ?_)⟩
      · exact vFd rfl ⟨rfl, h0 g hg tok2 _ e2⟩
      · refine vTd rfl (a54 a b s2 tok2 _ h b3 tr2 (f2.trans ft) ha ⟨fun _ => b1, by omega⟩ ?_ (fun i hi => (pk_un hi).trans (eo i hi)))
        show upd ln c (ln c + nI 64 * nI b) c = _
        rw [pk_us, el, pk_mul, nI_add]
  refine xgo [41] 60 ⟨vp_in_nI (by omega) (by omega), ?_⟩
  rw [nI_clamp (by omega)]
  refine ⟨rfl, nb rfl, XC_le (by omega) (c_adv (d := d) (vd := (upd line c (nI v), nI c)) hK tr rp l1 sl (fun tok2 tr2 f2 _ => ?_))⟩
  unfold kiP at h
  refine pk_le 4 v (fun y => ?_) (fun y => ?_) rfl rfl (by omega) (by omega)
  · rw [if_neg (by simpa using y)] at h
    exact a41 0 _ tok2 _ h hx1.2.1 tr2 f2 ⟨fun z => by omega, by omega⟩ (pk_us ..) (fun i hi => pk_un hi)
  · rw [if_pos (by simpa using y)] at h
    refine ⟨rfl, nb rfl, XC_le (by omega) (c_manCalled_3 (d := d) (v := tok2.name) (vd := (upd line c (nI v), nI c)) n6 hm ?_)⟩
    refine ⟨rfl, nb rfl, c_takeKnown (u := 8) (f := ship.manName) (n := n) (c := c) (H := H) (vd := (upd line c (nI v), nI c)) hK tr2 rp l1 hx1.2.1 n6 rfl q2 (fun w => by rw [show tok2.name = lN (wdV C l (tkX C l s)) from tr2.name w.1]) h (fun g hg tok2 e2 => ?_) (fun a s2 h b1 b2 b3 tok3 tr3 f3 => ?_)⟩
    · exact vFd rfl ⟨rfl, h0 g hg tok2 _ e2⟩
    · refine vTd rfl (a41 a s2 tok3 _ h b3 tr3 (f3.trans f2) ⟨fun _ => b1, by omega⟩ ?_ (fun i hi => (pk_un hi).trans (pk_un hi)))
      show upd (upd line c (nI v)) c (upd line c (nI v) c + nI 8 * nI a) c = _
      rw [pk_us, pk_us, pk_mul, nI_add]
theorem c_voyRead (hK : K.length < 700000) (rp : RpC T C l) (l1 : l ≤ 1000) (hS : tok.signs = T) (hl : tok.length = nI l) (hm : ship.men = nI n) (n6 : n ≤ 6) (hp : ship.posts = nI p) (p4 : p ≤ 4) (h0 : ∀ g, vynP C l ship.manName n ship.postName p 1000 (tkS C l 0) 0 (fun _ => 0) (fun _ => 0) (fun _ => 0) = .inl g → ∀ (tok : TTok) vd, Q (some (.int (nI g))) (clsW pn pc tok ship nn tl draft vd log trial sta says seed past marks K)) (h1 : ∀ s' c V M B (vd : TVoy), vynP C l ship.manName n ship.postName p 1000 (tkS C l 0) 0 (fun _ => 0) (fun _ => 0) (fun _ => 0) = .inr (s', c, V, M, B) → VDr vd n p c V M B → ∀ tok : TTok, Q (some (.int 0)) (clsW pn pc tok ship nn tl draft vd log trial sta says seed past marks K)) : XC (xF L xs) xmeths (d + 9) 70 [.ref 30, .ref 1, .ref 3] (clsW pn pc tok ship nn tl draft vd log trial sta says seed past marks K) Q := by
  generalize hR : vynP C l ship.manName n ship.postName p 1000 (tkS C l 0) 0 (fun _ => 0) (fun _ => 0) (fun _ => 0) = R at h0 h1
  rcases vd with ⟨line, lines⟩
  refine ⟨nb rfl, xgo [9] 40 ⟨rfl, nb rfl, XC_le (by omega) (c_begin (d := d) (vd := (line, 0)) hK rp l1 hS hl (fun tok tr f0 => ?_))⟩⟩
  refine ⟨nb rfl, nb rfl, ?_⟩
  have a24 : ∀ x1 x2 (tok : TTok) vd v, tok.fault = v → Q (some (.int v)) (clsW pn pc tok ship nn tl draft vd log trial sta says seed past marks K) → XWp (xF L xs) (some .int) xP70 (XC (xF L xs) xmeths (d + 8)) Q 24 [orf 30, orf 1, orf 3, x1, x2] [] (clsW pn pc tok ship nn tl draft vd log trial sta says seed past marks K) := by
    intro x1 x2 tok vd v e h
    rw [← e] at h
    exact xgo [] 20 h
  have key : ∀ m i s c V M B (tok : TTok) (vd : TVoy), i + m = 1000 → R = vynP C l ship.manName n ship.postName p m s c V M B → s ≤ l → VDr vd n p c V M B → TkR tok T C l s → tok.fault = 0 → XWp (xF L xs) (some .int) xP70 (XC (xF L xs) xmeths (d + 8)) Q 9 [orf 30, orf 1, orf 3, oi 1, oi (nI i)] [] (clsW pn pc tok ship nn tl draft vd log trial sta says seed past marks K) := by
    intro m
    induction m with
    | zero =>
      intro i s c V M B tok vd hi e sl vr tr f0
      refine xgo [24] 40 (vFd rfl (pk_le 1000 i (fun _ => ?_) (fun y => by omega) rfl rfl (by omega) (by omega)))
      exact a24 _ _ tok vd 0 f0 (h1 _ _ _ _ _ vd e vr tok)
    | succ m ih =>
      intro i s c V M B tok vd hi e sl vr tr f0
      rw [vynP] at e
      refine xgo [9, 24] 40 (vFd rfl (pk_le 1000 i (fun y => by omega) (fun _ => ?_) rfl rfl (by omega) (by omega)))
      refine ⟨rfl, nb rfl, XC_le (by omega) (c_isEnd (d := d) tr ?_)⟩
      refine vB1 (fun q => ?_) (fun q => ?_)
      · rw [if_pos q] at e
        exact a24 _ _ tok vd 0 f0 (h1 _ _ _ _ _ vd e vr tok)
      rw [if_neg q] at e
      refine ⟨rfl, nb rfl, c_vline (H := fun r => R = r) (k := vynP C l ship.manName n ship.postName p m) hK tr rp l1 sl hm n6 hp p4 vr e (fun g hg tok vd eg => ?_) (fun s' c' V' M' B' vd' b1 b2 b3 tok' tr' f' => ?_)⟩
      · exact ⟨nb rfl, xgo [24] 20 (vTd rfl (a24 _ _ tok vd _ eg (h0 g hg tok vd)))⟩
      · have ih := ih (i + 1) s' c' V' M' B' tok' vd' (by omega) b1 b3 b2 tr' (f'.trans f0)
        rw [nI_succ] at ih
        exact ⟨nb rfl, ih⟩
  exact key 1000 0 _ 0 _ _ _ tok (line, 0) rfl hR.symm (tkS_le (Nat.zero_le _)).2 ⟨rfl, by omega, fun i hi => by omega, fun i hi => by omega, fun i hi => by omega, fun i hi => by omega⟩ tr f0
end XVR
