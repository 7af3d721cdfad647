/-! the class: a ship is launched -/
def unl (m : Nat → TLog) (j : Nat) : Nat → TLog := mset m j ((m j).voy, (m j).seen, (m j).crew, 0)
section XCV
variable {L : Nat} {xs : Nat → Int32} {d : Nat} {Q : XQt} {pn pc : Int32} {tok : TTok} {ship : TShip} {nn : Int64} {tl : Int32} {draft : TShip} {vd : TVoy} {log : TLog} {trial : TCrew} {sta : TSta} {says : Fn} {seed : Int64} {past : Nat → TCrew} {marks : Nat → TLog} {K : XWd}
variable {C : Nat → Nat} {l : Nat} {T : Fn}
theorem c_launch (hlk : draft.law.looks = 0 ∨ draft.law.looks = 1) (h : ∀ kn : Fn, (∀ k, k < 4096 → kn k = -1) → Q none (clsW pn 0 tok (lauS ship draft kn) nn tl draft vd ((log.voy.line, 0), (log.seen.man, log.seen.other, log.seen.watches, log.seen.greener, 0), (log.crew.rise, cp6 (lauS ship draft kn).green log.crew.green, fil log.crew.place (-1) 6, 0, 0), log.laid) trial sta says seed past (unl (unl (unl (unl marks 0) 1) 2) 3) K)) : XC (xF L xs) xmeths (d + 5) 65 [.ref 0] (clsW pn pc tok ship nn tl draft vd log trial sta says seed past marks K) Q := by
  refine ⟨nb rfl, xgo [25] 60 ⟨rfl, nb rfl, XC_le (by omega) (c_shipCopy (d := d) (fun kn hk => ?_) hlk)⟩⟩
  have h := h kn hk
  refine ⟨rfl, nb rfl, XC_le (by omega) (c_boardAnew_40 (d := d) (ship := lauS ship draft kn) ?_)⟩
  have b4 : XWp (xF L xs) none xP65 (XC (xF L xs) xmeths (d + 4)) Q 25 [orf 0, oi 4] [] (clsW pn 0 tok (lauS ship draft kn) nn tl draft vd ((log.voy.line, 0), (log.seen.man, log.seen.other, log.seen.watches, log.seen.greener, 0), (log.crew.rise, cp6 (lauS ship draft kn).green log.crew.green, fil log.crew.place (-1) 6, 0, 0), log.laid) trial sta says seed past (unl (unl (unl (unl marks 0) 1) 2) 3) K) := xgo [] 20 (pk_le 4 4 (fun _ => ⟨rfl, h⟩) (fun y => absurd y (by decide)) rfl rfl (by decide) (by decide))
  have b3 : XWp (xF L xs) none xP65 (XC (xF L xs) xmeths (d + 4)) Q 25 [orf 0, oi 3] [] (clsW pn 0 tok (lauS ship draft kn) nn tl draft vd ((log.voy.line, 0), (log.seen.man, log.seen.other, log.seen.watches, log.seen.greener, 0), (log.crew.rise, cp6 (lauS ship draft kn).green log.crew.green, fil log.crew.place (-1) 6, 0, 0), log.laid) trial sta says seed past (unl (unl (unl marks 0) 1) 2) K) := by
    refine xgo [34] 40 (pk_le 4 3 (fun y => absurd y (by decide)) (fun _ => ?_) rfl rfl (by decide) (by decide))
    refine ⟨Or.inr rfl, vp_in_nI (n := 3) (by decide) (by decide), ⟨rfl, rfl⟩, ?_⟩
    refine (congrArg (XWp (xF L xs) none xP65 (XC (xF L xs) xmeths (d + 4)) Q 34 [orf 0, oi 3] []) (stMl3 (marks := (unl (unl (unl marks 0) 1) 2)) (a := 0))).mpr ?_
    exact xgo [25] 20 b4
  have b2 : XWp (xF L xs) none xP65 (XC (xF L xs) xmeths (d + 4)) Q 25 [orf 0, oi 2] [] (clsW pn 0 tok (lauS ship draft kn) nn tl draft vd ((log.voy.line, 0), (log.seen.man, log.seen.other, log.seen.watches, log.seen.greener, 0), (log.crew.rise, cp6 (lauS ship draft kn).green log.crew.green, fil log.crew.place (-1) 6, 0, 0), log.laid) trial sta says seed past (unl (unl marks 0) 1) K) := by
    refine xgo [34] 40 (pk_le 4 2 (fun y => absurd y (by decide)) (fun _ => ?_) rfl rfl (by decide) (by decide))
    refine ⟨Or.inr rfl, vp_in_nI (n := 2) (by decide) (by decide), ⟨rfl, rfl⟩, ?_⟩
    refine (congrArg (XWp (xF L xs) none xP65 (XC (xF L xs) xmeths (d + 4)) Q 34 [orf 0, oi 2] []) (stMl2 (marks := (unl (unl marks 0) 1)) (a := 0))).mpr ?_
    exact xgo [25] 20 b3
  have b1 : XWp (xF L xs) none xP65 (XC (xF L xs) xmeths (d + 4)) Q 25 [orf 0, oi 1] [] (clsW pn 0 tok (lauS ship draft kn) nn tl draft vd ((log.voy.line, 0), (log.seen.man, log.seen.other, log.seen.watches, log.seen.greener, 0), (log.crew.rise, cp6 (lauS ship draft kn).green log.crew.green, fil log.crew.place (-1) 6, 0, 0), log.laid) trial sta says seed past (unl marks 0) K) := by
    refine xgo [34] 40 (pk_le 4 1 (fun y => absurd y (by decide)) (fun _ => ?_) rfl rfl (by decide) (by decide))
    refine ⟨Or.inr rfl, vp_in_nI (n := 1) (by decide) (by decide), ⟨rfl, rfl⟩, ?_⟩
    refine (congrArg (XWp (xF L xs) none xP65 (XC (xF L xs) xmeths (d + 4)) Q 34 [orf 0, oi 1] []) (stMl1 (marks := (unl marks 0)) (a := 0))).mpr ?_
    exact xgo [25] 20 b2
  have b0 : XWp (xF L xs) none xP65 (XC (xF L xs) xmeths (d + 4)) Q 25 [orf 0, oi 0] [] (clsW pn 0 tok (lauS ship draft kn) nn tl draft vd ((log.voy.line, 0), (log.seen.man, log.seen.other, log.seen.watches, log.seen.greener, 0), (log.crew.rise, cp6 (lauS ship draft kn).green log.crew.green, fil log.crew.place (-1) 6, 0, 0), log.laid) trial sta says seed past marks K) := by
    refine xgo [34] 40 (pk_le 4 0 (fun y => absurd y (by decide)) (fun _ => ?_) rfl rfl (by decide) (by decide))
    refine ⟨Or.inr rfl, vp_in_nI (n := 0) (by decide) (by decide), ⟨rfl, rfl⟩, ?_⟩
    refine (congrArg (XWp (xF L xs) none xP65 (XC (xF L xs) xmeths (d + 4)) Q 34 [orf 0, oi 0] []) (stMl0 (marks := marks) (a := 0))).mpr ?_
    exact xgo [25] 20 b1
  exact ⟨nb rfl, b0⟩
theorem c_ship (hK : K.length < 700000) (rp : RpC T C l) (l1 : l ≤ 1000) (hS : tok.signs = T) (hl : tok.length = nI l) (h0 : ∀ f, allL C l 1000 (tkS C l 0) (clrS draft) 0 0 0 (fun _ => false) [] = .inl f → ∀ (tok : TTok) nn draft tl, tok.length = 0 → Q (some (.int (nI f))) (clsW pn pc tok ship nn tl draft vd log trial sta says seed past marks K)) (h1 : ∀ s' D n p z tf cd, allL C l 1000 (tkS C l 0) (clrS draft) 0 0 0 (fun _ => false) [] = .inr (s', D, n, p, z, tf, cd) → DrOk C l D n p z tf cd → ∀ (tok : TTok) nn tl, tok.length = 0 → ∀ kn : Fn, (∀ k, k < 4096 → kn k = -1) → Q (some (.int 0)) (clsW pn 0 tok (lauS ship D kn) nn tl D vd ((log.voy.line, 0), (log.seen.man, log.seen.other, log.seen.watches, log.seen.greener, 0), (log.crew.rise, cp6 (lauS ship D kn).green log.crew.green, fil log.crew.place (-1) 6, 0, 0), log.laid) trial sta says seed past (unl (unl (unl (unl marks 0) 1) 2) 3) K)) : XC (xF L xs) xmeths (d + 45) 20 [.ref 0] (clsW pn pc tok ship nn tl draft vd log trial sta says seed past marks K) Q := by
  have ⟨el0, el1⟩ := shp_el (C := C) (l := l) draft
  refine ⟨nb rfl, xgo [12] 40 ⟨rfl, nb rfl, c_shipRead hK rp l1 hS hl (fun f hf tok nn draft tl => ?_) (fun s' D n p z tf cd e tok nn tl => ?_)⟩⟩
  · have ⟨f0, f1⟩ := el0 f hf
    refine ⟨nb rfl, ?_⟩
    refine pk_ne f 0 (fun _ => ?_) (fun y => by omega) rfl nI_0.symm (by omega) (by omega)
    have h0 := h0 f hf (tok.signs, tok.kind, tok.start, tok.next, 0, tok.number, tok.taken, tok.name, tok.fault) nn draft tl rfl
    exact xgo [] 20 h0
  · have I := el1 s' D n p z tf cd e
    have lk : D.law.looks = 0 ∨ D.law.looks = 1 := by
      rcases I.law with y | ⟨_, _, st, _, _, L0, _, b2, b3⟩
      · exact Or.inl y.2.2.2.2.2
      · rw [b3]; exact lwA_looks st L0 (Or.inl b2)
    refine ⟨nb rfl, vFd rfl ⟨rfl, nb rfl, XC_le (by omega) (c_launch (d := d) (draft := D) (tok := (tok.signs, tok.kind, tok.start, tok.next, 0, tok.number, tok.taken, tok.name, tok.fault)) lk (fun kn hk => ?_))⟩⟩
    exact xgo [] 20 (h1 s' D n p z tf cd e I _ nn tl rfl kn hk)
end XCV
