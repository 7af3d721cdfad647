/-! a ship as it is told, and the class's reader of it -/
def lkN (f : Fl) (v : Int64) : Nat → Nat → Int32
  | 0, _ => -1
  | m + 1, k => if f k = v then nI k else lkN f v m (k + 1)
abbrev TSt : Type := TShip × Nat × Nat × Nat × (Nat → Bool) × List Int32
abbrev RSt : Type := Sum Nat (Nat × TSt)
def numP {α : Type} (C : Nat → Nat) (l lo hi s : Nat) (k : Nat → Nat → Sum Nat α) : Sum Nat α := if tkK C l s = 2 then (if lo ≤ nmV C l s ∧ nmV C l s ≤ hi then k (nmV C l s) (tkX C l s) else .inl (4 + 16 * s)) else .inl (1 + 16 * s)
def bothP {α : Type} (C : Nat → Nat) (l w lo hi s : Nat) (k : Nat → Nat → Sum Nat α) : Sum Nat α := if isW C l s w then numP C l lo hi (tkX C l s) k else .inl (1 + 16 * s)
def cloP {α : Type} (C : Nat → Nat) (l s : Nat) (k : Nat → Sum Nat α) : Sum Nat α := if isG C l s 59 then k (tkX C l s) else .inl (1 + 16 * s)
def newP (C : Nat → Nat) (l : Nat) (D : TShip) (n p s : Nat) (k : Int64 → Nat → RSt) : RSt := if isNm C l s then (if lkN D.manName (lN (wdV C l s)) n 0 = -1 ∧ lkN D.postName (lN (wdV C l s)) p 0 = -1 then k (lN (wdV C l s)) (tkX C l s) else .inl (3 + 16 * s)) else .inl (1 + 16 * s)
def kdV (C : Nat → Nat) (l s : Nat) : Int32 := if tkK C l s = 1 then plN (wdV C l s) 0 vl3 else -1
def kdP (C : Nat → Nat) (l s : Nat) (k : Int32 → Nat → RSt) : RSt := if kdV C l s = -1 then .inl (1 + 16 * s) else k (kdV C l s) (tkX C l s)
def manP (C : Nat → Nat) (l s : Nat) (D : TShip) (n p : Nat) (k : Nat → TShip → RSt) : RSt :=
  if n < 6 then newP C l D n p (tkX C l s) (fun nm s => kdP C l s (fun kd s => bothP C l 4078175 0 60 s (fun g s => bothP C l 4281544 0 5 s (fun h s =>
    k s (upd D.kind n kd, upd D.green n (nI g), upd D.hands n (nI h), vp_updL D.manName n nm, D.spray, D.holds, D.postName, D.sea, D.law, D.men + 1, D.posts, D.seas, D.shade, D.lemon, D.harbour)))))
  else .inl (5 + 16 * s)
def pstP (C : Nat → Nat) (l s : Nat) (D : TShip) (n p : Nat) (k : Nat → TShip → RSt) : RSt :=
  if p < 4 then newP C l D n p (tkX C l s) (fun nm s => bothP C l 10425481 0 9 s (fun g s => bothP C l 4555648 1 6 s (fun h s =>
    k s (D.kind, D.green, D.hands, D.manName, upd D.spray p (nI g), upd D.holds p (nI h), vp_updL D.postName p nm, D.sea, D.law, D.men, D.posts + 1, D.seas, D.shade, D.lemon, D.harbour))))
  else .inl (5 + 16 * s)
def seaP (C : Nat → Nat) (l : Nat) (k : Nat → Nat → TShip → RSt) : Nat → Nat → Nat → TShip → RSt
  | 0, i, s, D => if tkK C l s = 2 then .inl ((if nmV C l s ≤ 3 then 5 else 4) + 16 * s) else k i s D
  | m + 1, i, s, D => if 0 < i ∧ ¬ tkK C l s = 2 then k i s D else numP C l 0 3 s (fun v s => seaP C l k m (i + 1) s (D.kind, D.green, D.hands, D.manName, D.spray, D.holds, D.postName, upd D.sea i (nI v), D.law, D.men, D.posts, nI (i + 1), D.shade, D.lemon, D.harbour))
theorem vL {x y : Int64} {A B : Prop} (f : ¬ x = y → A) (g : x = y → B) : (xcnd .ne (lg_cmp x y) 0 → A) ∧ (¬ xcnd .ne (lg_cmp x y) 0 → B) :=
  ⟨fun (q : ¬ lg_cmp x y = 0) => f (fun w => q ((lg_cmp_eq x y).mpr w)), fun (q : ¬ ¬ lg_cmp x y = 0) => g ((lg_cmp_eq x y).mp (Classical.not_not.mp q))⟩
theorem lkN_ge {f : Fl} {v : Int64} : ∀ m k, k + m < 1000 → lkN f v m k = -1 ∨ ∃ j, k ≤ j ∧ j < k + m ∧ lkN f v m k = nI j
  | 0, k, _ => Or.inl rfl
  | m + 1, k, h => by
    rw [lkN]
    split
    · exact Or.inr ⟨k, by omega, by omega, rfl⟩
    · rcases lkN_ge (f := f) (v := v) m (k + 1) (by omega) with e | ⟨j, h1, h2, e⟩
      · exact Or.inl e
      · exact Or.inr ⟨j, by omega, by omega, e⟩
section XCR
variable {L : Nat} {xs : Nat → Int32} {d : Nat} {Q : XQt} {pn pc : Int32} {tok : TTok} {ship : TShip} {nn : Int64} {tl : Int32} {draft : TShip} {vd : TVoy} {log : TLog} {trial : TCrew} {sta : TSta} {says : Fn} {seed : Int64} {past : Nat → TCrew} {marks : Nat → TLog} {K : XWd}
variable {C : Nat → Nat} {l s n p : Nat} {T : Fn} {H : RSt → Prop}
theorem c_manCalled_17 {v : Int64} (hn : n ≤ 6) (hm : draft.men = nI n) (h : Q (some (.int (lkN draft.manName v n 0))) (clsW pn pc tok ship nn tl draft vd log trial sta says seed past marks K)) : XC (xF L xs) xmeths (d + 1) 45 [.ref 17, .long v] (clsW pn pc tok ship nn tl draft vd log trial sta says seed past marks K) Q := by
  refine ⟨nb rfl, xgo [2] 20 ⟨nb rfl, ?_⟩⟩
  have key : ∀ m k, k + m = n → Q (some (.int (lkN draft.manName v m k))) (clsW pn pc tok ship nn tl draft vd log trial sta says seed past marks K) → XWp (xF L xs) (some .int) xP45 (XC (xF L xs) xmeths d) Q 2 [orf 17, some (.long v), none, oi (nI k)] [] (clsW pn pc tok ship nn tl draft vd log trial sta says seed past marks K) := by
    intro m
    induction m with
    | zero =>
      intro k hk h
      exact xgo [] 20 (pk_le n k (fun _ => h) (fun y => by omega) hm rfl (by omega) (by omega))
    | succ m ih =>
      intro k hk h
      refine xgo [2] 40 (pk_le n k (fun y => by omega) (fun _ => ?_) hm rfl (by omega) (by omega))
      refine ⟨vp_in_nI (by omega) (by omega), ?_⟩
      rw [nI_clamp (by omega)]
      rw [lkN] at h
      refine vL (fun q => ?_) (fun q => ?_)
      · rw [if_neg q] at h
        have ih := ih (k + 1) (by omega) h
        rw [nI_succ] at ih
        exact ih
      · rw [if_pos q] at h
        exact h
  exact key n 0 (by omega) h
theorem c_postCalled_17 {v : Int64} (hn : n ≤ 4) (hm : draft.posts = nI n) (h : Q (some (.int (lkN draft.postName v n 0))) (clsW pn pc tok ship nn tl draft vd log trial sta says seed past marks K)) : XC (xF L xs) xmeths (d + 1) 46 [.ref 17, .long v] (clsW pn pc tok ship nn tl draft vd log trial sta says seed past marks K) Q := by
  refine ⟨nb rfl, xgo [2] 20 ⟨nb rfl, ?_⟩⟩
  have key : ∀ m k, k + m = n → Q (some (.int (lkN draft.postName v m k))) (clsW pn pc tok ship nn tl draft vd log trial sta says seed past marks K) → XWp (xF L xs) (some .int) xP46 (XC (xF L xs) xmeths d) Q 2 [orf 17, some (.long v), none, oi (nI k)] [] (clsW pn pc tok ship nn tl draft vd log trial sta says seed past marks K) := by
    intro m
    induction m with
    | zero =>
      intro k hk h
      exact xgo [] 20 (pk_le n k (fun _ => h) (fun y => by omega) hm rfl (by omega) (by omega))
    | succ m ih =>
      intro k hk h
      refine xgo [2] 40 (pk_le n k (fun y => by omega) (fun _ => ?_) hm rfl (by omega) (by omega))
      refine ⟨vp_in_nI (by omega) (by omega), ?_⟩
      rw [nI_clamp (by omega)]
      rw [lkN] at h
      refine vL (fun q => ?_) (fun q => ?_)
      · rw [if_neg q] at h
        have ih := ih (k + 1) (by omega) h
        rw [nI_succ] at ih
        exact ih
      · rw [if_pos q] at h
        exact h
  exact key n 0 (by omega) h

theorem c_manCalled_3 {v : Int64} (hn : n ≤ 6) (hm : ship.men = nI n) (h : Q (some (.int (lkN ship.manName v n 0))) (clsW pn pc tok ship nn tl draft vd log trial sta says seed past marks K)) : XC (xF L xs) xmeths (d + 1) 45 [.ref 3, .long v] (clsW pn pc tok ship nn tl draft vd log trial sta says seed past marks K) Q := by
  refine ⟨nb rfl, xgo [2] 20 ⟨nb rfl, ?_⟩⟩
  have key : ∀ m k, k + m = n → Q (some (.int (lkN ship.manName v m k))) (clsW pn pc tok ship nn tl draft vd log trial sta says seed past marks K) → XWp (xF L xs) (some .int) xP45 (XC (xF L xs) xmeths d) Q 2 [orf 3, some (.long v), none, oi (nI k)] [] (clsW pn pc tok ship nn tl draft vd log trial sta says seed past marks K) := by
    intro m
    induction m with
    | zero =>
      intro k hk h
      exact xgo [] 20 (pk_le n k (fun _ => h) (fun y => by omega) hm rfl (by omega) (by omega))
    | succ m ih =>
      intro k hk h
      refine xgo [2] 40 (pk_le n k (fun y => by omega) (fun _ => ?_) hm rfl (by omega) (by omega))
      refine ⟨vp_in_nI (by omega) (by omega), ?_⟩
      rw [nI_clamp (by omega)]
      rw [lkN] at h
      refine vL (fun q => ?_) (fun q => ?_)
      · rw [if_neg q] at h
        have ih := ih (k + 1) (by omega) h
        rw [nI_succ] at ih
        exact ih
      · rw [if_pos q] at h
        exact h
  exact key n 0 (by omega) h
theorem c_postCalled_3 {v : Int64} (hn : n ≤ 4) (hm : ship.posts = nI n) (h : Q (some (.int (lkN ship.postName v n 0))) (clsW pn pc tok ship nn tl draft vd log trial sta says seed past marks K)) : XC (xF L xs) xmeths (d + 1) 46 [.ref 3, .long v] (clsW pn pc tok ship nn tl draft vd log trial sta says seed past marks K) Q := by
  refine ⟨nb rfl, xgo [2] 20 ⟨nb rfl, ?_⟩⟩
  have key : ∀ m k, k + m = n → Q (some (.int (lkN ship.postName v m k))) (clsW pn pc tok ship nn tl draft vd log trial sta says seed past marks K) → XWp (xF L xs) (some .int) xP46 (XC (xF L xs) xmeths d) Q 2 [orf 3, some (.long v), none, oi (nI k)] [] (clsW pn pc tok ship nn tl draft vd log trial sta says seed past marks K) := by
    intro m
    induction m with
    | zero =>
      intro k hk h
      exact xgo [] 20 (pk_le n k (fun _ => h) (fun y => by omega) hm rfl (by omega) (by omega))
    | succ m ih =>
      intro k hk h
      refine xgo [2] 40 (pk_le n k (fun y => by omega) (fun _ => ?_) hm rfl (by omega) (by omega))
      refine ⟨vp_in_nI (by omega) (by omega), ?_⟩
      rw [nI_clamp (by omega)]
      rw [lkN] at h
      refine vL (fun q => ?_) (fun q => ?_)
      · rw [if_neg q] at h
        have ih := ih (k + 1) (by omega) h
        rw [nI_succ] at ih
        exact ih
      · rw [if_pos q] at h
        exact h
  exact key n 0 (by omega) h


theorem c_takeNew {k : Int64 → Nat → RSt} (hK : K.length < 700000) (tr : TkR tok T C l s) (rp : RpC T C l) (l1 : l ≤ 1000) (sl : s ≤ l) (n6 : n ≤ 6) (p4 : p ≤ 4) (hm : draft.men = nI n) (hp : draft.posts = nI p) (h : H (newP C l draft n p s k)) (h0 : ∀ f, H (.inl f) → ∀ (tok : TTok) nn, tok.fault = nI f → Q (some (.int 0)) (clsW pn pc tok ship nn tl draft vd log trial sta says seed past marks K)) (h1 : ∀ nm s', H (k nm s') → s' = tkX C l s → ∀ tok' : TTok, TkR tok' T C l s' → tok'.fault = tok.fault → Q (some (.int 1)) (clsW pn pc tok' ship nm tl draft vd log trial sta says seed past marks K)) : XC (xF L xs) xmeths (d + 7) 43 [.ref 16] (clsW pn pc tok ship nn tl draft vd log trial sta says seed past marks K) Q := by
  refine ⟨nb rfl, xgo [28] 60 ⟨rfl, nb rfl, c_isName hK tr rp l1 sl ?_⟩⟩
  unfold newP at h
  refine vB1 (fun q => ?_) (fun q => ?_)
  rotate_left
  · rw [if_neg q] at h
    exact ⟨rfl, nb rfl, c_refuse (k := 1) tr ⟨rfl, h0 _ h _ _ rfl⟩⟩
  rw [if_pos q] at h
  have en : tok.name = lN (wdV C l s) := tr.name q.1
  have a28 : H (.inl (3 + 16 * s)) → ∀ nn, XWp (xF L xs) (some .boolean) xP43 (XC (xF L xs) xmeths (d + 6)) Q 28 [orf 16] [] (clsW pn pc tok ship nn tl draft vd log trial sta says seed past marks K) := by
    intro h nn
    exact xgo [] 40 ⟨rfl, nb rfl, c_refuse (k := 3) tr ⟨rfl, h0 _ h _ _ rfl⟩⟩
  refine ⟨rfl, nb rfl, c_manCalled_17 n6 hm ?_⟩
  have e : ∀ v : Int64, v = lN (wdV C l s) → lkN draft.manName v n 0 = lkN draft.manName (lN (wdV C l s)) n 0 ∧ lkN draft.postName v p 0 = lkN draft.postName (lN (wdV C l s)) p 0 := fun v hv => by rw [hv]; exact ⟨rfl, rfl⟩
  have ⟨e1, e2⟩ := e tok.name en
  refine And.intro (fun (w : ¬ lkN draft.manName tok.name n 0 = Int32.ofInt (-1)) => ?_) (fun (w : ¬ ¬ lkN draft.manName tok.name n 0 = Int32.ofInt (-1)) => ?_)
  · rw [e1] at w
    rw [if_neg (fun y => w y.1)] at h
    exact a28 h _
  have w := Classical.not_not.mp w
  rw [e1] at w
  refine ⟨rfl, nb rfl, c_postCalled_17 p4 hp ?_⟩
  refine And.intro (fun (w2 : lkN draft.postName tok.name p 0 = Int32.ofInt (-1)) => ?_) (fun (w2 : ¬ lkN draft.postName tok.name p 0 = Int32.ofInt (-1)) => ?_)
  rotate_left
  · rw [e2] at w2
    rw [if_neg (fun y => w2 y.2)] at h
    exact a28 h _
  rw [e2] at w2
  rw [if_pos ⟨w, w2⟩] at h
  refine ⟨rfl, nb rfl, c_adv hK tr rp l1 sl (fun tok' tr' f1 _ => ⟨rfl, ?_⟩)⟩
  have fin := h1 _ _ h rfl tok' tr' f1
  rw [← en] at fin
  exact fin
theorem numP_ok {α : Type} {lo hi : Nat} {k : Nat → Nat → Sum Nat α} (h1 : tkK C l s = 2) (h2 : lo ≤ nmV C l s) (h3 : nmV C l s ≤ hi) : numP C l lo hi s k = k (nmV C l s) (tkX C l s) := by
  unfold numP
  rw [if_pos h1, if_pos ⟨h2, h3⟩]
theorem numP_no {α : Type} {lo hi j : Nat} {k : Nat → Nat → Sum Nat α} (h : ¬ tkK C l s = 2 ∧ j = 1 ∨ tkK C l s = 2 ∧ ¬ (lo ≤ nmV C l s ∧ nmV C l s ≤ hi) ∧ j = 4) : numP C l lo hi s k = .inl (j + 16 * s) := by
  unfold numP
  rcases h with ⟨a, b⟩ | ⟨a, b, c⟩
  · rw [if_neg a, b]
  · rw [if_pos a, if_neg b, c]
theorem c_readMan {k : Nat → TShip → RSt} (hK : K.length < 700000) (tr : TkR tok T C l s) (rp : RpC T C l) (l1 : l ≤ 1000) (sl : s ≤ l) (n6 : n ≤ 6) (p4 : p ≤ 4) (hm : draft.men = nI n) (hp : draft.posts = nI p) (h : H (manP C l s draft n p k)) (h0 : ∀ f, H (.inl f) → ∀ (tok : TTok) nn draft, tok.fault = nI f → Q (some (.int 0)) (clsW pn pc tok ship nn tl draft vd log trial sta says seed past marks K)) (h1 : ∀ s' D, n < 6 → H (k s' D) → D.men = nI (n + 1) → D.posts = nI p → s ≤ s' → s' ≤ l → ∀ (tok' : TTok) nn, TkR tok' T C l s' → tok'.fault = tok.fault → Q (some (.int 1)) (clsW pn pc tok' ship nn tl D vd log trial sta says seed past marks K)) : XC (xF L xs) xmeths (d + 8) 42 [.ref 16] (clsW pn pc tok ship nn tl draft vd log trial sta says seed past marks K) Q := by
  unfold manP at h
  rcases draft with ⟨kind, green, hands, mnm, spray, holds, pnm, sea, law, men, posts, seas, shade, lemon, harbour⟩
  have hm : men = nI n := hm
  subst hm
  refine ⟨nb rfl, xgo [12] 60 ⟨nb rfl, ?_⟩⟩
  refine pk_lt n 6 (fun q => ?_) (fun q => ?_) rfl rfl (by omega) (by omega)
  rotate_left
  · rw [if_neg (by omega)] at h
    exact ⟨rfl, nb rfl, c_refuse (k := 5) tr ⟨rfl, h0 _ h _ _ _ rfl⟩⟩
  rw [if_pos q] at h
  have s1 := tkX_le (C := C) sl
  refine xgo [62, 64, 83, 85] 100 ⟨rfl, nb rfl, c_adv hK tr rp l1 sl (fun tok2 tr2 f2 _ => ?_)⟩
  refine ⟨rfl, nb rfl, c_takeNew hK tr2 rp l1 s1.2.1 n6 p4 rfl hp h (fun f hf tok nn ef => ?_) (fun nm s2 h e2 tok3 tr3 f3 => ?_)⟩
  · exact vFd rfl ⟨rfl, h0 f hf tok nn _ ef⟩
  have s2' := tkX_le (C := C) s1.2.1
  rw [← e2] at s2'
  have sl2 := s2'.2.1
  clear e2
  refine vTd rfl ⟨vp_in_nI (by omega) (by omega), ?_⟩
  rw [nI_clamp (by omega)]
  refine ⟨rfl, nb rfl, c_place3 (draft := (kind, green, hands, vp_updL mnm n nm, spray, holds, pnm, sea, law, nI n, posts, seas, shade, lemon, harbour)) hK tr3 rp l1 sl2 ?_⟩
  refine ⟨vp_in_nI (by omega) (by omega), ?_⟩
  rw [nI_clamp (by omega)]
  refine ⟨vp_in_nI (by omega) (by omega), ?_⟩
  unfold kdP kdV at h
  have eu : ∀ (f : Fn) (x : Int32), upd f n x n = x := fun f x => if_pos rfl
  rw [nI_clamp (by omega), eu]
  generalize hkv : (if tkK C l s2 = 1 then plN (wdV C l s2) 0 vl3 else -1) = kv at *
  refine And.intro (fun (w : ¬ kv = -1) => ?_) (fun (w : ¬ ¬ kv = -1) => ?_)
  rotate_left
  · rw [if_pos (Classical.not_not.mp w)] at h
    exact ⟨rfl, nb rfl, c_refuse (k := 1) (draft := (upd kind n kv, green, hands, vp_updL mnm n nm, spray, holds, pnm, sea, law, nI n, posts, seas, shade, lemon, harbour)) tr3 ⟨rfl, h0 _ h _ _ _ rfl⟩⟩
  rw [if_neg w] at h
  dsimp only at h
  have s3 := tkX_le (C := C) sl2
  have n62 : ∀ tok nn draft f, H (.inl f) → tok.fault = nI f → XWp (xF L xs) (some .boolean) xP42 (XC (xF L xs) xmeths (d + 7)) Q 62 [orf 16, oi (nI n)] [] (clsW pn pc tok ship nn tl draft vd log trial sta says seed past marks K) := fun tok nn draft f hf ef => xgo [] 20 ⟨rfl, h0 f hf tok nn draft ef⟩
  have n83 : ∀ tok nn draft f, H (.inl f) → tok.fault = nI f → XWp (xF L xs) (some .boolean) xP42 (XC (xF L xs) xmeths (d + 7)) Q 83 [orf 16, oi (nI n)] [] (clsW pn pc tok ship nn tl draft vd log trial sta says seed past marks K) := fun tok nn draft f hf ef => xgo [] 20 ⟨rfl, h0 f hf tok nn draft ef⟩
  refine ⟨rfl, nb rfl, c_adv (draft := (upd kind n kv, green, hands, vp_updL mnm n nm, spray, holds, pnm, sea, law, nI n, posts, seas, shade, lemon, harbour)) hK tr3 rp l1 sl2 (fun tok4 tr4 f4 _ => ?_)⟩
  have sl3 := s3.2.1
  unfold bothP at h
  refine ⟨rfl, nb rfl, c_takeW4 hK tr4 rp l1 sl3 (fun q4 tok5 tr5 f5 _ => ?_) (fun q4 => ?_)⟩
  rotate_left
  · rw [if_neg q4] at h
    exact vTd rfl (n62 _ _ _ _ h rfl)
  rw [if_pos q4] at h
  have s4 := tkX_le (C := C) sl3
  refine vFd rfl ⟨rfl, nb rfl, c_takeNumber (lo := 0) (hi := 60) hK tr5 rp l1 s4.2.1 (by decide) (by decide) (fun k1 k2 k3 tok6 tr6 f6 g6 => ?_) (fun kk k1 => ?_)⟩
  rotate_left
  · rw [numP_no k1] at h
    exact vFd rfl (n62 _ _ _ _ h rfl)
  rw [numP_ok k1 k2 k3] at h
  have s5 := tkX_le (C := C) s4.2.1
  refine vTd rfl (xgo [83, 85] 60 ⟨vp_in_nI (by omega) (by omega), ?_⟩)
  rw [nI_clamp (by omega)]
  refine ⟨rfl, nb rfl, c_takeW5 (draft := (upd kind n kv, upd green n tok6.taken, hands, vp_updL mnm n nm, spray, holds, pnm, sea, law, nI n, posts, seas, shade, lemon, harbour)) hK tr6 rp l1 s5.2.1 (fun q4 tok7 tr7 f7 _ => ?_) (fun q4 => ?_)⟩
  rotate_left
  · rw [if_neg q4] at h
    exact vTd rfl (n83 _ _ _ _ h rfl)
  rw [if_pos q4] at h
  have s6 := tkX_le (C := C) s5.2.1
  refine vFd rfl ⟨rfl, nb rfl, c_takeNumber (lo := 0) (hi := 5) hK tr7 rp l1 s6.2.1 (by decide) (by decide) (fun k1 k2 k3 tok8 tr8 f8 g8 => ?_) (fun kk k1 => ?_)⟩
  rotate_left
  · rw [numP_no k1] at h
    exact vFd rfl (n83 _ _ _ _ h rfl)
  rw [numP_ok k1 k2 k3] at h
  have s7 := tkX_le (C := C) s6.2.1
  refine vTd rfl (xgo [] 60 ⟨vp_in_nI (by omega) (by omega), ?_⟩)
  rw [nI_clamp (by omega)]
  have fin := h1 _ _ q h (nI_succ n).symm hp (by omega) s7.2.1 tok8 nm tr8 (by rw [f8, f7, f6, f5, f4, f3, f2])
  rw [← g6, ← g8] at fin
  exact ⟨rfl, fin⟩
theorem c_readPost {k : Nat → TShip → RSt} (hK : K.length < 700000) (tr : TkR tok T C l s) (rp : RpC T C l) (l1 : l ≤ 1000) (sl : s ≤ l) (n6 : n ≤ 6) (p4 : p ≤ 4) (hm : draft.men = nI n) (hp : draft.posts = nI p) (h : H (pstP C l s draft n p k)) (h0 : ∀ f, H (.inl f) → ∀ (tok : TTok) nn draft, tok.fault = nI f → Q (some (.int 0)) (clsW pn pc tok ship nn tl draft vd log trial sta says seed past marks K)) (h1 : ∀ s' D, p < 4 → H (k s' D) → D.men = nI n → D.posts = nI (p + 1) → s ≤ s' → s' ≤ l → ∀ (tok' : TTok) nn, TkR tok' T C l s' → tok'.fault = tok.fault → Q (some (.int 1)) (clsW pn pc tok' ship nn tl D vd log trial sta says seed past marks K)) : XC (xF L xs) xmeths (d + 8) 52 [.ref 16] (clsW pn pc tok ship nn tl draft vd log trial sta says seed past marks K) Q := by
  unfold pstP at h
  rcases draft with ⟨kind, green, hands, mnm, spray, holds, pnm, sea, law, men, posts, seas, shade, lemon, harbour⟩
  have hp : posts = nI p := hp
  subst hp
  refine ⟨nb rfl, xgo [12] 60 ⟨nb rfl, ?_⟩⟩
  refine pk_lt p 4 (fun q => ?_) (fun q => ?_) rfl rfl (by omega) (by omega)
  rotate_left
  · rw [if_neg (by omega)] at h
    exact ⟨rfl, nb rfl, c_refuse (k := 5) tr ⟨rfl, h0 _ h _ _ _ rfl⟩⟩
  rw [if_pos q] at h
  have s1 := tkX_le (C := C) sl
  refine xgo [38, 40, 59, 61] 100 ⟨rfl, nb rfl, c_adv hK tr rp l1 sl (fun tok2 tr2 f2 _ => ?_)⟩
  refine ⟨rfl, nb rfl, c_takeNew hK tr2 rp l1 s1.2.1 n6 p4 hm rfl h (fun f hf tok nn ef => ?_) (fun nm s2 h e2 tok4 tr4 f4 => ?_)⟩
  · exact vFd rfl ⟨rfl, h0 f hf tok nn _ ef⟩
  have s2' := tkX_le (C := C) s1.2.1
  rw [← e2] at s2'
  have sl3 := s2'.2.1
  clear e2
  refine vTd rfl ⟨vp_in_nI (by omega) (by omega), ?_⟩
  rw [nI_clamp (by omega)]
  have n62 : ∀ tok nn draft f, H (.inl f) → tok.fault = nI f → XWp (xF L xs) (some .boolean) xP52 (XC (xF L xs) xmeths (d + 7)) Q 38 [orf 16, oi (nI p)] [] (clsW pn pc tok ship nn tl draft vd log trial sta says seed past marks K) := fun tok nn draft f hf ef => xgo [] 20 ⟨rfl, h0 f hf tok nn draft ef⟩
  have n83 : ∀ tok nn draft f, H (.inl f) → tok.fault = nI f → XWp (xF L xs) (some .boolean) xP52 (XC (xF L xs) xmeths (d + 7)) Q 59 [orf 16, oi (nI p)] [] (clsW pn pc tok ship nn tl draft vd log trial sta says seed past marks K) := fun tok nn draft f hf ef => xgo [] 20 ⟨rfl, h0 f hf tok nn draft ef⟩
  unfold bothP at h
  refine ⟨rfl, nb rfl, c_takeW6 (draft := (kind, green, hands, mnm, spray, holds, vp_updL pnm p nm, sea, law, men, nI p, seas, shade, lemon, harbour)) hK tr4 rp l1 sl3 (fun q4 tok5 tr5 f5 _ => ?_) (fun q4 => ?_)⟩
  rotate_left
  · rw [if_neg q4] at h
    exact vTd rfl (n62 _ _ _ _ h rfl)
  rw [if_pos q4] at h
  have s4 := tkX_le (C := C) sl3
  refine vFd rfl ⟨rfl, nb rfl, c_takeNumber (lo := 0) (hi := 9) hK tr5 rp l1 s4.2.1 (by decide) (by decide) (fun k1 k2 k3 tok6 tr6 f6 g6 => ?_) (fun kk k1 => ?_)⟩
  rotate_left
  · rw [numP_no k1] at h
    exact vFd rfl (n62 _ _ _ _ h rfl)
  rw [numP_ok k1 k2 k3] at h
  have s5 := tkX_le (C := C) s4.2.1
  refine vTd rfl (xgo [59, 61] 60 ⟨vp_in_nI (by omega) (by omega), ?_⟩)
  rw [nI_clamp (by omega)]
  refine ⟨rfl, nb rfl, c_takeW7 (draft := (kind, green, hands, mnm, upd spray p tok6.taken, holds, vp_updL pnm p nm, sea, law, men, nI p, seas, shade, lemon, harbour)) hK tr6 rp l1 s5.2.1 (fun q4 tok7 tr7 f7 _ => ?_) (fun q4 => ?_)⟩
  rotate_left
  · rw [if_neg q4] at h
    exact vTd rfl (n83 _ _ _ _ h rfl)
  rw [if_pos q4] at h
  have s6 := tkX_le (C := C) s5.2.1
  refine vFd rfl ⟨rfl, nb rfl, c_takeNumber (lo := 1) (hi := 6) hK tr7 rp l1 s6.2.1 (by decide) (by decide) (fun k1 k2 k3 tok8 tr8 f8 g8 => ?_) (fun kk k1 => ?_)⟩
  rotate_left
  · rw [numP_no k1] at h
    exact vFd rfl (n83 _ _ _ _ h rfl)
  rw [numP_ok k1 k2 k3] at h
  have s7 := tkX_le (C := C) s6.2.1
  refine vTd rfl (xgo [] 60 ⟨vp_in_nI (by omega) (by omega), ?_⟩)
  rw [nI_clamp (by omega)]
  have fin := h1 _ _ q h hm (nI_succ p).symm (by omega) s7.2.1 tok8 nm tr8 (by rw [f8, f7, f6, f5, f4, f2])
  rw [← g6, ← g8] at fin
  exact ⟨rfl, fin⟩
theorem c_readSea {k : Nat → Nat → TShip → RSt} (hK : K.length < 700000) (tr : TkR tok T C l s) (rp : RpC T C l) (l1 : l ≤ 1000) (sl : s ≤ l) (h : H (seaP C l k 12 0 s draft)) (h0 : ∀ f, H (.inl f) → ∀ (tok : TTok) draft, tok.fault = nI f → Q (some (.int 0)) (clsW pn pc tok ship nn tl draft vd log trial sta says seed past marks K)) (h1 : ∀ i s' D, 0 < i → i ≤ 12 → H (k i s' D) → D.men = draft.men → D.posts = draft.posts → s ≤ s' → s' ≤ l → ∀ (tok' : TTok), TkR tok' T C l s' → tok'.fault = tok.fault → Q (some (.int 1)) (clsW pn pc tok' ship nn tl D vd log trial sta says seed past marks K)) : XC (xF L xs) xmeths (d + 8) 54 [.ref 16] (clsW pn pc tok ship nn tl draft vd log trial sta says seed past marks K) Q := by
  refine ⟨nb rfl, xgo [2] 20 ⟨nb rfl, ?_⟩⟩
  have key : ∀ m i s' (tok' : TTok) (D : TShip), i + m = 12 → H (seaP C l k m i s' D) → D.men = draft.men → D.posts = draft.posts → s ≤ s' → s' ≤ l → TkR tok' T C l s' → tok'.fault = tok.fault → XWp (xF L xs) (some .boolean) xP54 (XC (xF L xs) xmeths (d + 7)) Q 2 [orf 16, oi (nI i)] [] (clsW pn pc tok' ship nn tl D vd log trial sta says seed past marks K) := by
    intro m
    induction m with
    | zero =>
      intro i s' tok' D hi h em ep ss sl tr f1
      refine xgo [55] 40 (pk_le 12 i (fun _ => ?_) (fun y => by omega) rfl rfl (by omega) (by omega))
      refine ⟨rfl, nb rfl, c_isNumber tr ?_⟩
      rw [seaP] at h
      refine vB1 (fun q => ?_) (fun q => ?_)
      rotate_left
      · rw [if_neg q] at h
        exact ⟨rfl, h1 i s' D (by omega) (by omega) h em ep ss sl tok' tr f1⟩
      rw [if_pos q] at h
      have en : tok'.number = nI (nmV C l s') := tr.number q
      have hn := tk_num q
      refine ⟨rfl, nb rfl, c_isWithin ?_⟩
      refine vB0 (fun q2 => ?_) (fun q2 => ?_)
      · have q3 : ¬ nmV C l s' ≤ 3 := fun y => q2 (by rw [en]; exact ⟨nI_le (Nat.zero_le _) (by omega), nI_le y (by decide)⟩)
        rw [if_neg q3] at h
        exact xgo [] 20 ⟨rfl, nb rfl, c_refuse (k := 4) tr ⟨rfl, h0 _ h _ _ rfl⟩⟩
      · have q3 : nmV C l s' ≤ 3 := Nat.le_of_not_lt (fun y => by
          rw [en] at q2
          exact nI_ge y (by omega) q2.2)
        rw [if_pos q3] at h
        exact xgo [] 20 ⟨rfl, nb rfl, c_refuse (k := 5) tr ⟨rfl, h0 _ h _ _ rfl⟩⟩
    | succ m ih =>
      intro i s' tok' D hi h em ep ss sl tr f1
      rw [seaP] at h
      have a13 : H (numP C l 0 3 s' (fun v s => seaP C l k m (i + 1) s (D.kind, D.green, D.hands, D.manName, D.spray, D.holds, D.postName, upd D.sea i (nI v), D.law, D.men, D.posts, nI (i + 1), D.shade, D.lemon, D.harbour))) → XWp (xF L xs) (some .boolean) xP54 (XC (xF L xs) xmeths (d + 7)) Q 13 [orf 16, oi (nI i)] [] (clsW pn pc tok' ship nn tl D vd log trial sta says seed past marks K) := by
        intro h
        refine xgo [2] 60 ⟨rfl, nb rfl, c_takeNumber (lo := 0) (hi := 3) hK tr rp l1 sl (by decide) (by decide) (fun k1 k2 k3 tok6 tr6 f6 g6 => ?_) (fun kk k1 => ?_)⟩
        rotate_left
        · rw [numP_no k1] at h
          exact vFd rfl ⟨rfl, h0 _ h _ _ rfl⟩
        rw [numP_ok k1 k2 k3] at h
        have s5 := tkX_le (C := C) sl
        refine vTd rfl ⟨vp_in_nI (by omega) (by omega), ?_⟩
        rw [nI_clamp (by omega)]
        have ih := ih (i + 1) _ tok6 _ (by omega) h em ep (by omega) s5.2.1 tr6 (by rw [f6, f1])
        rw [← g6, nI_succ] at ih
        exact ih
      refine xgo [13, 2] 40 (pk_le 12 i (fun y => by omega) (fun _ => ?_) rfl rfl (by omega) (by omega))
      refine pk_le i 0 (fun q => ?_) (fun q => ?_) rfl nI_0.symm (by omega) (by omega)
      · rw [if_neg (fun y => by omega)] at h
        exact a13 h
      · refine ⟨rfl, nb rfl, c_isNumber tr ?_⟩
        refine vB1 (fun q2 => ?_) (fun q2 => ?_)
        · rw [if_neg (fun y => y.2 q2)] at h
          exact a13 h
        · rw [if_pos ⟨by omega, q2⟩] at h
          exact ⟨rfl, h1 i s' D (by omega) (by omega) h em ep ss sl tok' tr f1⟩
  exact key 12 0 s tok draft rfl h rfl rfl (Nat.le_refl _) sl tr rfl
theorem c_readShade {k : Nat → TShip → RSt} {D : TShip} (hK : K.length < 700000) (tr : TkR tok T C l s) (rp : RpC T C l) (l1 : l ≤ 1000) (sl : s ≤ l) (h : H (numP C l 1 9 s (fun v s => k s (D.kind, D.green, D.hands, D.manName, D.spray, D.holds, D.postName, D.sea, D.law, D.men, D.posts, D.seas, nI v, D.lemon, D.harbour)))) (h0 : ∀ f, H (.inl f) → ∀ (tok : TTok) draft, tok.fault = nI f → Q (some (.int 0)) (clsW pn pc tok ship nn tl draft vd log trial sta says seed past marks K)) (h1 : ∀ s' D', H (k s' D') → D'.men = D.men → D'.posts = D.posts → s ≤ s' → s' ≤ l → ∀ (tok' : TTok), TkR tok' T C l s' → tok'.fault = tok.fault → Q (some (.int 1)) (clsW pn pc tok' ship nn tl D' vd log trial sta says seed past marks K)) : XC (xF L xs) xmeths (d + 8) 56 [.ref 16] (clsW pn pc tok ship nn tl D vd log trial sta says seed past marks K) Q := by
  refine ⟨nb rfl, xgo [] 40 ⟨rfl, nb rfl, c_takeNumber (lo := 1) (hi := 9) hK tr rp l1 sl (by decide) (by decide) (fun k1 k2 k3 tok6 tr6 f6 g6 => ?_) (fun kk k1 => ?_)⟩⟩
  rotate_left
  · rw [numP_no k1] at h
    exact vFd rfl ⟨rfl, h0 _ h _ _ rfl⟩
  rw [numP_ok k1 k2 k3] at h
  have s5 := tkX_le (C := C) sl
  have fin := h1 _ _ h rfl rfl s5.1 s5.2.1 tok6 tr6 f6
  rw [← g6] at fin
  exact vTd rfl ⟨rfl, fin⟩
theorem c_readLemon {k : Nat → TShip → RSt} {D : TShip} (hK : K.length < 700000) (tr : TkR tok T C l s) (rp : RpC T C l) (l1 : l ≤ 1000) (sl : s ≤ l) (h : H (numP C l 1 20 s (fun v s => k s (D.kind, D.green, D.hands, D.manName, D.spray, D.holds, D.postName, D.sea, D.law, D.men, D.posts, D.seas, D.shade, nI v, D.harbour)))) (h0 : ∀ f, H (.inl f) → ∀ (tok : TTok) draft, tok.fault = nI f → Q (some (.int 0)) (clsW pn pc tok ship nn tl draft vd log trial sta says seed past marks K)) (h1 : ∀ s' D', H (k s' D') → D'.men = D.men → D'.posts = D.posts → s ≤ s' → s' ≤ l → ∀ (tok' : TTok), TkR tok' T C l s' → tok'.fault = tok.fault → Q (some (.int 1)) (clsW pn pc tok' ship nn tl D' vd log trial sta says seed past marks K)) : XC (xF L xs) xmeths (d + 8) 57 [.ref 16] (clsW pn pc tok ship nn tl D vd log trial sta says seed past marks K) Q := by
  refine ⟨nb rfl, xgo [] 40 ⟨rfl, nb rfl, c_takeNumber (lo := 1) (hi := 20) hK tr rp l1 sl (by decide) (by decide) (fun k1 k2 k3 tok6 tr6 f6 g6 => ?_) (fun kk k1 => ?_)⟩⟩
  rotate_left
  · rw [numP_no k1] at h
    exact vFd rfl ⟨rfl, h0 _ h _ _ rfl⟩
  rw [numP_ok k1 k2 k3] at h
  have s5 := tkX_le (C := C) sl
  have fin := h1 _ _ h rfl rfl s5.1 s5.2.1 tok6 tr6 f6
  rw [← g6] at fin
  exact vTd rfl ⟨rfl, fin⟩
theorem c_readHarbour {k : Nat → TShip → RSt} {D : TShip} (hK : K.length < 700000) (tr : TkR tok T C l s) (rp : RpC T C l) (l1 : l ≤ 1000) (sl : s ≤ l) (h : H (numP C l 0 9 s (fun v s => k s (D.kind, D.green, D.hands, D.manName, D.spray, D.holds, D.postName, D.sea, D.law, D.men, D.posts, D.seas, D.shade, D.lemon, nI v)))) (h0 : ∀ f, H (.inl f) → ∀ (tok : TTok) draft, tok.fault = nI f → Q (some (.int 0)) (clsW pn pc tok ship nn tl draft vd log trial sta says seed past marks K)) (h1 : ∀ s' D', H (k s' D') → D'.men = D.men → D'.posts = D.posts → s ≤ s' → s' ≤ l → ∀ (tok' : TTok), TkR tok' T C l s' → tok'.fault = tok.fault → Q (some (.int 1)) (clsW pn pc tok' ship nn tl D' vd log trial sta says seed past marks K)) : XC (xF L xs) xmeths (d + 8) 58 [.ref 16] (clsW pn pc tok ship nn tl D vd log trial sta says seed past marks K) Q := by
  refine ⟨nb rfl, xgo [] 40 ⟨rfl, nb rfl, c_takeNumber (lo := 0) (hi := 9) hK tr rp l1 sl (by decide) (by decide) (fun k1 k2 k3 tok6 tr6 f6 g6 => ?_) (fun kk k1 => ?_)⟩⟩
  rotate_left
  · rw [numP_no k1] at h
    exact vFd rfl ⟨rfl, h0 _ h _ _ rfl⟩
  rw [numP_ok k1 k2 k3] at h
  have s5 := tkX_le (C := C) sl
  have fin := h1 _ _ h rfl rfl s5.1 s5.2.1 tok6 tr6 f6
  rw [← g6] at fin
  exact vTd rfl ⟨rfl, fin⟩

end XCR
