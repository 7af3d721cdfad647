/-! what was done is kept; it is undone -/
section XCL
variable {L : Nat} {xs : Nat → Int32} {d : Nat} {Q : XQt} {pn pc : Int32} {tok : TTok} {ship : TShip} {nn : Int64} {tl : Int32} {draft : TShip} {vd : TVoy} {log : TLog} {trial : TCrew} {sta : TSta} {says : Fn} {seed : Int64} {past : Nat → TCrew} {marks : Nat → TLog} {K : XWd}
theorem c_keepPast {q c : Nat} (hq : pn = nI q) (q16 : q < 16) (hc : pc = nI c) (c16 : c ≤ 16) (h : Q none (clsW (nI ((q + 1) % 16)) (nI (ccap c)) tok ship nn tl draft vd log trial sta says seed (pset past q ((past q).cp log.crew)) marks K)) : XC (xF L xs) xmeths (d + 2) 84 [.ref 0] (clsW pn pc tok ship nn tl draft vd log trial sta says seed past marks K) Q := by
  have e1 : (nI q + Int32.ofInt 1) - (nI q + Int32.ofInt 1) / Int32.ofInt 16 * Int32.ofInt 16 = nI ((q + 1) % 16) := by
    rw [show nI q + Int32.ofInt 1 = nI (q + 1) from (nI_succ q).symm]
    exact pk_rem (d := 16) (by omega) (by omega) (by omega)
  have e2 : mn 16 (nI c + 1) = nI (ccap c) := by
    rw [← nI_succ, ccap]
    by_cases y : c = 16
    · subst y; decide
    · rw [if_neg y]
      show (if nI (c + 1) < nI 16 then nI (c + 1) else nI 16) = _
      by_cases y2 : c + 1 < 16
      · rw [if_pos ((nI_ltI (by omega) (by omega)).mpr y2)]
      · rw [if_neg (fun z => y2 ((nI_ltI (by omega) (by omega)).mp z)), show c + 1 = 16 by omega]
  subst hq hc
  have tail : ∀ past', Q none (clsW (nI ((q + 1) % 16)) (nI (ccap c)) tok ship nn tl draft vd log trial sta says seed past' marks K) → XWp (xF L xs) none xP84 (XC (xF L xs) xmeths (d + 1)) Q 16 [orf 0] [] (clsW (nI q) (nI c) tok ship nn tl draft vd log trial sta says seed past' marks K) := by
    intro past' h
    refine xgo [] 40 ⟨(show ¬ (16 : Int32) = 0 by decide), nb rfl, ⟨rfl, ?_⟩⟩
    rw [← e1, ← e2] at h
    exact h
  refine ⟨nb rfl, xgo [11, 16] 40 ?_⟩
  refine pk_lt q 16 (fun _ => ?_) (fun y => by omega) rfl rfl (by omega) (by omega)
  have hq : q = 0 ∨ q = 1 ∨ q = 2 ∨ q = 3 ∨ q = 4 ∨ q = 5 ∨ q = 6 ∨ q = 7 ∨ q = 8 ∨ q = 9 ∨ q = 10 ∨ q = 11 ∨ q = 12 ∨ q = 13 ∨ q = 14 ∨ q = 15 := by omega
  rcases hq with rfl | rfl | rfl | rfl | rfl | rfl | rfl | rfl | rfl | rfl | rfl | rfl | rfl | rfl | rfl | rfl
  · exact xgo [16] 20 ⟨Or.inl rfl, vp_in_nI (n := 0) (by decide) (by decide), rfl, nb rfl, c_copyP0 (tail _ h)⟩
  · exact xgo [16] 20 ⟨Or.inl rfl, vp_in_nI (n := 1) (by decide) (by decide), rfl, nb rfl, c_copyP1 (tail _ h)⟩
  · exact xgo [16] 20 ⟨Or.inl rfl, vp_in_nI (n := 2) (by decide) (by decide), rfl, nb rfl, c_copyP2 (tail _ h)⟩
  · exact xgo [16] 20 ⟨Or.inl rfl, vp_in_nI (n := 3) (by decide) (by decide), rfl, nb rfl, c_copyP3 (tail _ h)⟩
  · exact xgo [16] 20 ⟨Or.inl rfl, vp_in_nI (n := 4) (by decide) (by decide), rfl, nb rfl, c_copyP4 (tail _ h)⟩
  · exact xgo [16] 20 ⟨Or.inl rfl, vp_in_nI (n := 5) (by decide) (by decide), rfl, nb rfl, c_copyP5 (tail _ h)⟩
  · exact xgo [16] 20 ⟨Or.inl rfl, vp_in_nI (n := 6) (by decide) (by decide), rfl, nb rfl, c_copyP6 (tail _ h)⟩
  · exact xgo [16] 20 ⟨Or.inl rfl, vp_in_nI (n := 7) (by decide) (by decide), rfl, nb rfl, c_copyP7 (tail _ h)⟩
  · exact xgo [16] 20 ⟨Or.inl rfl, vp_in_nI (n := 8) (by decide) (by decide), rfl, nb rfl, c_copyP8 (tail _ h)⟩
  · exact xgo [16] 20 ⟨Or.inl rfl, vp_in_nI (n := 9) (by decide) (by decide), rfl, nb rfl, c_copyP9 (tail _ h)⟩
  · exact xgo [16] 20 ⟨Or.inl rfl, vp_in_nI (n := 10) (by decide) (by decide), rfl, nb rfl, c_copyP10 (tail _ h)⟩
  · exact xgo [16] 20 ⟨Or.inl rfl, vp_in_nI (n := 11) (by decide) (by decide), rfl, nb rfl, c_copyP11 (tail _ h)⟩
  · exact xgo [16] 20 ⟨Or.inl rfl, vp_in_nI (n := 12) (by decide) (by decide), rfl, nb rfl, c_copyP12 (tail _ h)⟩
  · exact xgo [16] 20 ⟨Or.inl rfl, vp_in_nI (n := 13) (by decide) (by decide), rfl, nb rfl, c_copyP13 (tail _ h)⟩
  · exact xgo [16] 20 ⟨Or.inl rfl, vp_in_nI (n := 14) (by decide) (by decide), rfl, nb rfl, c_copyP14 (tail _ h)⟩
  · exact xgo [16] 20 ⟨Or.inl rfl, vp_in_nI (n := 15) (by decide) (by decide), rfl, nb rfl, c_copyP15 (tail _ h)⟩
theorem c_undo {q c : Nat} (hq : pn = nI q) (q16 : q < 16) (hc : pc = nI c) (c16 : c ≤ 16) (h0 : c = 0 → Q (some (.int 0)) (clsW pn pc tok ship nn tl draft vd log trial sta says seed past marks K)) (h1 : 0 < c → Q (some (.int 1)) (clsW (nI ((q + 15) % 16)) (nI (c - 1)) tok ship nn tl draft vd (log.wcrew (log.crew.cp (past ((q + 15) % 16)))) trial sta says seed past marks K)) : XC (xF L xs) xmeths (d + 2) 109 [.ref 0] (clsW pn pc tok ship nn tl draft vd log trial sta says seed past marks K) Q := by
  subst hq hc
  refine ⟨nb rfl, xgo [22] 40 ?_⟩
  refine pk_le 1 c (fun q1 => ?_) (fun q1 => ⟨rfl, h0 (by omega)⟩) rfl rfl (by omega) (by omega)
  have h := h1 (by omega)
  have e1 : nI c - Int32.ofInt 1 = nI (c - 1) := pk_sub (a := c) (b := 1) (by omega)
  rw [← e1] at h
  have a22 : ∀ x, x = nI ((q + 15) % 16) → XWp (xF L xs) (some .boolean) xP109 (XC (xF L xs) xmeths (d + 1)) Q 22 [orf 0] [.int x, .ref 0] (clsW (nI q) (nI c - Int32.ofInt 1) tok ship nn tl draft vd log trial sta says seed past marks K) := by
    intro x hx
    subst hx
    generalize hr : (q + 15) % 16 = r at h ⊢
    refine xgo [30] 40 ?_
    have hq : r = 0 ∨ r = 1 ∨ r = 2 ∨ r = 3 ∨ r = 4 ∨ r = 5 ∨ r = 6 ∨ r = 7 ∨ r = 8 ∨ r = 9 ∨ r = 10 ∨ r = 11 ∨ r = 12 ∨ r = 13 ∨ r = 14 ∨ r = 15 := by omega
    rcases hq with rfl | rfl | rfl | rfl | rfl | rfl | rfl | rfl | rfl | rfl | rfl | rfl | rfl | rfl | rfl | rfl
    · exact xgo [] 20 ⟨Or.inl rfl, vp_in_nI (n := 0) (by decide) (by decide), rfl, nb rfl, c_copyQ0 ⟨rfl, h⟩⟩
    · exact xgo [] 20 ⟨Or.inl rfl, vp_in_nI (n := 1) (by decide) (by decide), rfl, nb rfl, c_copyQ1 ⟨rfl, h⟩⟩
    · exact xgo [] 20 ⟨Or.inl rfl, vp_in_nI (n := 2) (by decide) (by decide), rfl, nb rfl, c_copyQ2 ⟨rfl, h⟩⟩
    · exact xgo [] 20 ⟨Or.inl rfl, vp_in_nI (n := 3) (by decide) (by decide), rfl, nb rfl, c_copyQ3 ⟨rfl, h⟩⟩
    · exact xgo [] 20 ⟨Or.inl rfl, vp_in_nI (n := 4) (by decide) (by decide), rfl, nb rfl, c_copyQ4 ⟨rfl, h⟩⟩
    · exact xgo [] 20 ⟨Or.inl rfl, vp_in_nI (n := 5) (by decide) (by decide), rfl, nb rfl, c_copyQ5 ⟨rfl, h⟩⟩
    · exact xgo [] 20 ⟨Or.inl rfl, vp_in_nI (n := 6) (by decide) (by decide), rfl, nb rfl, c_copyQ6 ⟨rfl, h⟩⟩
    · exact xgo [] 20 ⟨Or.inl rfl, vp_in_nI (n := 7) (by decide) (by decide), rfl, nb rfl, c_copyQ7 ⟨rfl, h⟩⟩
    · exact xgo [] 20 ⟨Or.inl rfl, vp_in_nI (n := 8) (by decide) (by decide), rfl, nb rfl, c_copyQ8 ⟨rfl, h⟩⟩
    · exact xgo [] 20 ⟨Or.inl rfl, vp_in_nI (n := 9) (by decide) (by decide), rfl, nb rfl, c_copyQ9 ⟨rfl, h⟩⟩
    · exact xgo [] 20 ⟨Or.inl rfl, vp_in_nI (n := 10) (by decide) (by decide), rfl, nb rfl, c_copyQ10 ⟨rfl, h⟩⟩
    · exact xgo [] 20 ⟨Or.inl rfl, vp_in_nI (n := 11) (by decide) (by decide), rfl, nb rfl, c_copyQ11 ⟨rfl, h⟩⟩
    · exact xgo [] 20 ⟨Or.inl rfl, vp_in_nI (n := 12) (by decide) (by decide), rfl, nb rfl, c_copyQ12 ⟨rfl, h⟩⟩
    · exact xgo [] 20 ⟨Or.inl rfl, vp_in_nI (n := 13) (by decide) (by decide), rfl, nb rfl, c_copyQ13 ⟨rfl, h⟩⟩
    · exact xgo [] 20 ⟨Or.inl rfl, vp_in_nI (n := 14) (by decide) (by decide), rfl, nb rfl, c_copyQ14 ⟨rfl, h⟩⟩
    · exact xgo [] 20 ⟨Or.inl rfl, vp_in_nI (n := 15) (by decide) (by decide), rfl, nb rfl, c_copyQ15 ⟨rfl, h⟩⟩
  refine pk_le q 0 (fun q2 => ?_) (fun q2 => ?_) rfl nI_0.symm (by omega) (by omega)
  · exact a22 _ (by rw [show q = 0 by omega]; rfl)
  · exact a22 _ (by rw [show nI q - Int32.ofInt 1 = nI (q - 1) from pk_sub (a := q) (b := 1) (by omega), show (q + 15) % 16 = q - 1 by omega])
end XCL
