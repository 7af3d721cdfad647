section XCF
variable {L : Nat} {xs : Nat → Int32} {d : Nat} {Q : XQt} {pn pc : Int32} {tok : TTok} {ship : TShip} {nn : Int64} {tl : Int32} {draft : TShip} {vd : TVoy} {log : TLog} {trial : TCrew} {sta : TSta} {says : Fn} {seed : Int64} {past : Nat → TCrew} {marks : Nat → TLog} {mi : TMi} {ma : TMa} {mb : TMb} {K : XWd}
theorem c_fill_15 {x : Int32} (h : ∀ kn : Fn, (∀ k, k < 4096 → kn k = x) → Q none (clsW pn pc tok (ship.wlaw (ship.law.wm ship.law.stack kn)) nn tl draft vd log trial sta says seed past marks K)) : XC (xF L xs) xmeths (d + 1) 4 [.ref 15, .int x] (clsW pn pc tok ship nn tl draft vd log trial sta says seed past marks K) Q := by
  refine ⟨nb rfl, xgo [5] 20 ⟨nb rfl, nb rfl, ?_⟩⟩
  generalize hN : Int32.ofNat 4096 = m4
  refine up_to (P := fun j => ∀ kn : Fn, (∀ k, k < j → kn k = x) → XWp (xF L xs) none xP4 (XC (xF L xs) xmeths d) Q 5 [orf 15, oi x, oi (nI j), oi m4] [] (clsW pn pc tok (ship.wlaw (ship.law.wm ship.law.stack kn)) nn tl draft vd log trial sta says seed past marks K)) (n := 4096) (fun j hj ih kn hkn => xgo [5] 40 ?_) ship.law.known (fun k hk => absurd hk (Nat.not_lt_zero k))
  refine pk_le 4096 j (fun q => ?_) (fun q => ?_) hN.symm rfl (by omega) (by omega)
  · exact ⟨rfl, h kn (fun k hk => hkn k (Nat.lt_of_lt_of_le hk q))⟩
  · have ih := ih q (upd kn j x) (fun k hk => by
      simp only [upd]
      split
      · rfl
      · exact hkn k (by omega))
    rw [nI_succ] at ih
    refine ⟨vp_in_nI (by omega) (by omega), ?_⟩
    rw [nI_clamp (by omega)]
    exact ih
end XCF
