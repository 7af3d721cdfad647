/-! the class: a ship is read and laid -/
def usuL (L : TLaw) : TLaw := (upd (upd (upd L.steps 0 3) 1 2) 2 10, L.stack, L.known, 3, 0)
def clrS (D : TShip) : TShip := (D.kind, D.green, D.hands, D.manName, D.spray, D.holds, D.postName, upd D.sea 0 1, usuL D.law, 0, 0, 1, 3, 5, 2)
def lauS (a o : TShip) (kn : Fn) : TShip := (va_cpy o.kind a.kind 0 0 6, va_cpy o.green a.green 0 0 6, va_cpy o.hands a.hands 0 0 6, va_cpy o.manName a.manName 0 0 6, va_cpy o.spray a.spray 0 0 4, va_cpy o.holds a.holds 0 0 4, va_cpy o.postName a.postName 0 0 4, va_cpy o.sea a.sea 0 0 12, (va_cpy o.law.steps a.law.steps 0 0 1000, a.law.stack, kn, o.law.size, o.law.looks), o.men, o.posts, o.seas, o.shade, o.lemon, o.harbour)
section XCS
variable {L : Nat} {xs : Nat → Int32} {d : Nat} {Q : XQt} {pn pc : Int32} {tok : TTok} {ship : TShip} {nn : Int64} {tl : Int32} {draft : TShip} {vd : TVoy} {log : TLog} {trial : TCrew} {sta : TSta} {says : Fn} {seed : Int64} {past : Nat → TCrew} {marks : Nat → TLog} {K : XWd}
variable {C : Nat → Nat} {l s n p z : Nat} {T : Fn} {tf : Nat → Bool}
theorem c_beUsual (h : Q none (clsW pn pc tok ship nn tl (draft.wlaw (usuL draft.law)) vd log trial sta says seed past marks K)) : XC (xF L xs) xmeths (d + 2) 6 [.ref 26] (clsW pn pc tok ship nn tl draft vd log trial sta says seed past marks K) Q := by
  rcases draft with ⟨kind, green, hands, mnm, spray, holds, pnm, sea, ⟨steps, stack, known, size, looks⟩, men, posts, seas, shade, lemon, harbour⟩
  refine ⟨nb rfl, xgo [] 20 ⟨rfl, nb rfl, ?_⟩⟩
  refine ⟨nb rfl, xgo [] 20 ⟨⟨rfl, rfl⟩, rfl, ?_⟩⟩
  refine ⟨rfl, nb rfl, c_addStep (z := 0) (draft := (kind, green, hands, mnm, spray, holds, pnm, sea, (steps, stack, known, 0, 0), men, posts, seas, shade, lemon, harbour)) rfl (by decide) (fun _ => ?_) (fun w => absurd w (by decide))⟩
  refine ⟨rfl, nb rfl, c_addStep (z := 1) (draft := (kind, green, hands, mnm, spray, holds, pnm, sea, (upd steps 0 3, stack, known, 1, 0), men, posts, seas, shade, lemon, harbour)) rfl (by decide) (fun _ => ?_) (fun w => absurd w (by decide))⟩
  refine ⟨rfl, nb rfl, c_addStep (z := 2) (draft := (kind, green, hands, mnm, spray, holds, pnm, sea, (upd (upd steps 0 3) 1 2, stack, known, 2, 0), men, posts, seas, shade, lemon, harbour)) rfl (by decide) (fun _ => ?_) (fun w => absurd w (by decide))⟩
  exact ⟨rfl, h⟩
theorem c_clear (h : Q none (clsW pn pc tok ship nn tl (clrS draft) vd log trial sta says seed past marks K)) : XC (xF L xs) xmeths (d + 3) 5 [.ref 17] (clsW pn pc tok ship nn tl draft vd log trial sta says seed past marks K) Q := by
  rcases draft with ⟨kind, green, hands, mnm, spray, holds, pnm, sea, law, men, posts, seas, shade, lemon, harbour⟩
  refine ⟨nb rfl, xgo [] 40 ⟨vp_in_nI (n := 0) (by decide) (by decide), ?_⟩⟩
  exact ⟨rfl, nb rfl, c_beUsual (draft := (kind, green, hands, mnm, spray, holds, pnm, upd sea 0 1, law, 0, 0, 1, 3, 5, 2)) ⟨rfl, h⟩⟩
theorem c_begin (hK : K.length < 700000) (rp : RpC T C l) (l1 : l ≤ 1000) (hS : tok.signs = T) (hl : tok.length = nI l) (h : ∀ tok : TTok, TkR tok T C l (tkS C l 0) → tok.fault = 0 → Q none (clsW pn pc tok ship nn tl draft vd log trial sta says seed past marks K)) : XC (xF L xs) xmeths (d + 7) 22 [.ref 1] (clsW pn pc tok ship nn tl draft vd log trial sta says seed past marks K) Q := by
  rcases tok with ⟨x1, x2, x3, x4, x5, x6, x7, x8, x9⟩
  have hS : x1 = T := hS
  have hl : x5 = nI l := hl
  subst hS hl
  exact ⟨nb rfl, xgo [] 20 ⟨rfl, nb rfl, c_advance (pp := 0) (ki := x2) (sa := x3) (nu := x6) (ta := x7) (na := x8) (fa := 0) hK rp l1 (Nat.zero_le _) (fun tok' tr f1 _ => ⟨rfl, h tok' tr f1⟩)⟩⟩
theorem c_shipRead (hK : K.length < 700000) (rp : RpC T C l) (l1 : l ≤ 1000) (hS : tok.signs = T) (hl : tok.length = nI l) (h0 : ∀ f, allL C l 1000 (tkS C l 0) (clrS draft) 0 0 0 (fun _ => false) [] = .inl f → ∀ (tok : TTok) nn draft tl, Q (some (.int (nI f))) (clsW pn pc tok ship nn tl draft vd log trial sta says seed past marks K)) (h1 : ∀ s' D n p z tf cd, allL C l 1000 (tkS C l 0) (clrS draft) 0 0 0 (fun _ => false) [] = .inr (s', D, n, p, z, tf, cd) → ∀ (tok : TTok) nn tl, Q (some (.int 0)) (clsW pn pc tok ship nn tl D vd log trial sta says seed past marks K)) : XC (xF L xs) xmeths (d + 44) 21 [.ref 16] (clsW pn pc tok ship nn tl draft vd log trial sta says seed past marks K) Q := by
  generalize hR : allL C l 1000 (tkS C l 0) (clrS draft) 0 0 0 (fun _ => false) [] = R at h0 h1
  refine ⟨nb rfl, xgo [13] 40 ⟨rfl, nb rfl, c_clear ⟨rfl, nb rfl, c_begin (tl := 0) hK rp l1 hS hl (fun tok tr f0 => ?_)⟩⟩⟩
  refine ⟨nb rfl, nb rfl, ?_⟩
  have a27 : ∀ x1 x2 (tok : TTok) nn draft tl v, tok.fault = v → Q (some (.int v)) (clsW pn pc tok ship nn tl draft vd log trial sta says seed past marks K) → XWp (xF L xs) (some .int) xP21 (XC (xF L xs) xmeths (d + 43)) Q 27 [orf 16, x1, x2] [] (clsW pn pc tok ship nn tl draft vd log trial sta says seed past marks K) := by
    intro x1 x2 tok nn draft tl v e h
    rw [← e] at h
    exact xgo [] 20 h
  have key : ∀ m i s D n p z tf cd (tok : TTok) nn, i + m = 1000 → R = allL C l m s D n p z tf cd → s ≤ l → n ≤ 6 → p ≤ 4 → D.men = nI n → D.posts = nI p → TkR tok T C l s → tok.fault = 0 → XWp (xF L xs) (some .int) xP21 (XC (xF L xs) xmeths (d + 43)) Q 13 [orf 16, oi 1, oi (nI i)] [] (clsW pn pc tok ship nn (nI (bsN tf 7)) D vd log trial sta says seed past marks K) := by
    intro m
    induction m with
    | zero =>
      intro i s D n p z tf cd tok nn hi e sl n6 p4 hm hp tr f0
      refine xgo [27] 40 (vFd rfl (pk_le 1000 i (fun _ => ?_) (fun y => by omega) rfl rfl (by omega) (by omega)))
      exact a27 _ _ tok nn D _ 0 f0 (h1 _ _ _ _ _ _ _ e tok nn _)
    | succ m ih =>
      intro i s D n p z tf cd tok nn hi e sl n6 p4 hm hp tr f0
      rw [allL] at e
      refine xgo [13, 27] 40 (vFd rfl (pk_le 1000 i (fun y => by omega) (fun _ => ?_) rfl rfl (by omega) (by omega)))
      refine ⟨rfl, nb rfl, c_isEnd tr ?_⟩
      refine vB1 (fun q => ?_) (fun q => ?_)
      · rw [if_pos q] at e
        exact a27 _ _ tok nn D _ 0 f0 (h1 _ _ _ _ _ _ _ e tok nn _)
      rw [if_neg q] at e
      refine ⟨rfl, nb rfl, c_readLine (d := d + 1) (H := fun r => R = r) (n := n) (p := p) (z := z) (tf := tf) (cd := cd) (k := allL C l m) rfl hK tr rp l1 sl n6 p4 hm hp e (fun f hf tok nn draft tl ef => ?_) (fun s' D n' p' z' tf' cd' b1 b2 b3 b4 b5 b6 tok' nn' tr' f' => ?_)⟩
      · refine ⟨nb rfl, xgo [27] 20 (vTd rfl (a27 _ _ tok nn draft tl _ ef (h0 f hf tok nn draft tl)))⟩
      · have ih := ih (i + 1) s' D n' p' z' tf' cd' tok' nn' (by omega) b1 b6 b2 b3 b4 b5 tr' (f'.trans f0)
        rw [nI_succ] at ih
        exact ⟨nb rfl, ih⟩
  exact key 1000 0 _ _ 0 0 0 (fun _ => false) [] tok nn rfl hR.symm (tkS_le (Nat.zero_le _)).2 (by omega) (by omega) rfl rfl tr f0
theorem c_lawCopy (h : ∀ kn : Fn, (∀ k, k < 4096 → kn k = -1) → Q none (clsW pn pc tok (ship.wlaw (va_cpy draft.law.steps ship.law.steps 0 0 1000, ship.law.stack, kn, draft.law.size, draft.law.looks)) nn tl draft vd log trial sta says seed past marks K)) (hlk : draft.law.looks = 0 ∨ draft.law.looks = 1) : XC (xF L xs) xmeths (d + 2) 67 [.ref 12, .ref 26] (clsW pn pc tok ship nn tl draft vd log trial sta says seed past marks K) Q := by
  rcases draft with ⟨kind, green, hands, mnm, spray, holds, pnm, sea, ⟨steps, stack, known, size, looks⟩, men, posts, seas, shade, lemon, harbour⟩
  have hlk : looks = 0 ∨ looks = 1 := hlk
  rcases ship with ⟨kind', green', hands', mnm', spray', holds', pnm', sea', ⟨steps', stack', known', size', looks'⟩, men', posts', seas', shade', lemon', harbour'⟩
  rcases hlk with rfl | rfl
  · refine ⟨nb rfl, xgo [] 40 ⟨⟨show narrow FieldType.boolean (.int (0 : Int32)) = .int 0 from rfl, rfl⟩, nb rfl, ⟨by decide, by decide, by decide, nb rfl, nb rfl⟩, ?_⟩⟩
    exact ⟨rfl, nb rfl, c_fill_15 (ship := (kind', green', hands', mnm', spray', holds', pnm', sea', (va_cpy steps steps' 0 0 1000, stack', known', size, 0), men', posts', seas', shade', lemon', harbour')) (fun kn hk => ⟨rfl, h kn hk⟩)⟩
  · refine ⟨nb rfl, xgo [] 40 ⟨⟨show narrow FieldType.boolean (.int (1 : Int32)) = .int 1 from rfl, rfl⟩, nb rfl, ⟨by decide, by decide, by decide, nb rfl, nb rfl⟩, ?_⟩⟩
    exact ⟨rfl, nb rfl, c_fill_15 (ship := (kind', green', hands', mnm', spray', holds', pnm', sea', (va_cpy steps steps' 0 0 1000, stack', known', size, 1), men', posts', seas', shade', lemon', harbour')) (fun kn hk => ⟨rfl, h kn hk⟩)⟩
theorem c_shipCopy (h : ∀ kn : Fn, (∀ k, k < 4096 → kn k = -1) → Q none (clsW pn pc tok (lauS ship draft kn) nn tl draft vd log trial sta says seed past marks K)) (hlk : draft.law.looks = 0 ∨ draft.law.looks = 1) : XC (xF L xs) xmeths (d + 3) 66 [.ref 3, .ref 17] (clsW pn pc tok ship nn tl draft vd log trial sta says seed past marks K) Q := by
  rcases ship with ⟨kind', green', hands', mnm', spray', holds', pnm', sea', law', men', posts', seas', shade', lemon', harbour'⟩
  have a88 : XWp (xF L xs) none xP66 (XC (xF L xs) xmeths (d + 2)) Q 88 [orf 3, orf 17] [] (clsW pn pc tok (va_cpy draft.kind kind' 0 0 6, va_cpy draft.green green' 0 0 6, va_cpy draft.hands hands' 0 0 6, va_cpy draft.manName mnm' 0 0 6, va_cpy draft.spray spray' 0 0 4, va_cpy draft.holds holds' 0 0 4, va_cpy draft.postName pnm' 0 0 4, va_cpy draft.sea sea' 0 0 12, law', draft.men, draft.posts, draft.seas, draft.shade, draft.lemon, draft.harbour) nn tl draft vd log trial sta says seed past marks K) := by
    exact xgo [] 20 ⟨rfl, nb rfl, c_lawCopy (ship := (va_cpy draft.kind kind' 0 0 6, va_cpy draft.green green' 0 0 6, va_cpy draft.hands hands' 0 0 6, va_cpy draft.manName mnm' 0 0 6, va_cpy draft.spray spray' 0 0 4, va_cpy draft.holds holds' 0 0 4, va_cpy draft.postName pnm' 0 0 4, va_cpy draft.sea sea' 0 0 12, law', draft.men, draft.posts, draft.seas, draft.shade, draft.lemon, draft.harbour)) (fun kn hk => ⟨rfl, h kn hk⟩) hlk⟩
  have a80 : XWp (xF L xs) none xP66 (XC (xF L xs) xmeths (d + 2)) Q 80 [orf 3, orf 17] [] (clsW pn pc tok (va_cpy draft.kind kind' 0 0 6, va_cpy draft.green green' 0 0 6, va_cpy draft.hands hands' 0 0 6, va_cpy draft.manName mnm' 0 0 6, va_cpy draft.spray spray' 0 0 4, va_cpy draft.holds holds' 0 0 4, va_cpy draft.postName pnm' 0 0 4, sea', law', draft.men, draft.posts, draft.seas, draft.shade, draft.lemon, draft.harbour) nn tl draft vd log trial sta says seed past marks K) :=
    xgo [88] 20 ⟨nb rfl, ⟨by decide, by decide, by decide, nb rfl, nb rfl⟩, a88⟩
  have a72 : XWp (xF L xs) none xP66 (XC (xF L xs) xmeths (d + 2)) Q 72 [orf 3, orf 17] [] (clsW pn pc tok (va_cpy draft.kind kind' 0 0 6, va_cpy draft.green green' 0 0 6, va_cpy draft.hands hands' 0 0 6, va_cpy draft.manName mnm' 0 0 6, va_cpy draft.spray spray' 0 0 4, va_cpy draft.holds holds' 0 0 4, pnm', sea', law', draft.men, draft.posts, draft.seas, draft.shade, draft.lemon, draft.harbour) nn tl draft vd log trial sta says seed past marks K) :=
    xgo [80] 20 ⟨nb rfl, ⟨by decide, by decide, by decide, nb rfl, nb rfl⟩, a80⟩
  have a64 : XWp (xF L xs) none xP66 (XC (xF L xs) xmeths (d + 2)) Q 64 [orf 3, orf 17] [] (clsW pn pc tok (va_cpy draft.kind kind' 0 0 6, va_cpy draft.green green' 0 0 6, va_cpy draft.hands hands' 0 0 6, va_cpy draft.manName mnm' 0 0 6, va_cpy draft.spray spray' 0 0 4, holds', pnm', sea', law', draft.men, draft.posts, draft.seas, draft.shade, draft.lemon, draft.harbour) nn tl draft vd log trial sta says seed past marks K) :=
    xgo [72] 20 ⟨nb rfl, ⟨by decide, by decide, by decide, nb rfl, nb rfl⟩, a72⟩
  have a56 : XWp (xF L xs) none xP66 (XC (xF L xs) xmeths (d + 2)) Q 56 [orf 3, orf 17] [] (clsW pn pc tok (va_cpy draft.kind kind' 0 0 6, va_cpy draft.green green' 0 0 6, va_cpy draft.hands hands' 0 0 6, va_cpy draft.manName mnm' 0 0 6, spray', holds', pnm', sea', law', draft.men, draft.posts, draft.seas, draft.shade, draft.lemon, draft.harbour) nn tl draft vd log trial sta says seed past marks K) :=
    xgo [64] 20 ⟨nb rfl, ⟨by decide, by decide, by decide, nb rfl, nb rfl⟩, a64⟩
  have a48 : XWp (xF L xs) none xP66 (XC (xF L xs) xmeths (d + 2)) Q 48 [orf 3, orf 17] [] (clsW pn pc tok (va_cpy draft.kind kind' 0 0 6, va_cpy draft.green green' 0 0 6, va_cpy draft.hands hands' 0 0 6, mnm', spray', holds', pnm', sea', law', draft.men, draft.posts, draft.seas, draft.shade, draft.lemon, draft.harbour) nn tl draft vd log trial sta says seed past marks K) :=
    xgo [56] 20 ⟨nb rfl, ⟨by decide, by decide, by decide, nb rfl, nb rfl⟩, a56⟩
  have a40 : XWp (xF L xs) none xP66 (XC (xF L xs) xmeths (d + 2)) Q 40 [orf 3, orf 17] [] (clsW pn pc tok (va_cpy draft.kind kind' 0 0 6, va_cpy draft.green green' 0 0 6, hands', mnm', spray', holds', pnm', sea', law', draft.men, draft.posts, draft.seas, draft.shade, draft.lemon, draft.harbour) nn tl draft vd log trial sta says seed past marks K) :=
    xgo [48] 20 ⟨nb rfl, ⟨by decide, by decide, by decide, nb rfl, nb rfl⟩, a48⟩
  have a32 : XWp (xF L xs) none xP66 (XC (xF L xs) xmeths (d + 2)) Q 32 [orf 3, orf 17] [] (clsW pn pc tok (va_cpy draft.kind kind' 0 0 6, green', hands', mnm', spray', holds', pnm', sea', law', draft.men, draft.posts, draft.seas, draft.shade, draft.lemon, draft.harbour) nn tl draft vd log trial sta says seed past marks K) :=
    xgo [40] 20 ⟨nb rfl, ⟨by decide, by decide, by decide, nb rfl, nb rfl⟩, a40⟩
  have a24 : XWp (xF L xs) none xP66 (XC (xF L xs) xmeths (d + 2)) Q 24 [orf 3, orf 17] [] (clsW pn pc tok (kind', green', hands', mnm', spray', holds', pnm', sea', law', draft.men, draft.posts, draft.seas, draft.shade, draft.lemon, draft.harbour) nn tl draft vd log trial sta says seed past marks K) :=
    xgo [32] 20 ⟨nb rfl, ⟨by decide, by decide, by decide, nb rfl, nb rfl⟩, a32⟩
  exact ⟨nb rfl, xgo [24] 40 a24⟩
end XCS
