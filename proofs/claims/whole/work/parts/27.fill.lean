section XCF
variable {L : Nat} {xs : Nat → Int32} {d : Nat} {Q : XQt} {pn pc : Int32} {tok : TTok} {ship : TShip} {nn : Int64} {tl : Int32} {draft : TShip} {vd : TVoy} {log : TLog} {trial : TCrew} {sta : TSta} {says : Fn} {seed : Int64} {past : Nat → TCrew} {marks : Nat → TLog} {mi : TMi} {ma : TMa} {mb : TMb} {K : XWd}
theorem c_fill_15 {x : Int32} {N : Nat} (hN : N = 4096) (h : Q none (clsW pn pc tok (ship.wlaw (ship.law.wm ship.law.stack (fil ship.law.known x N))) nn tl draft vd log trial sta says seed past marks K)) : XC (xF L xs) xmeths (d + 1) 4 [.ref 15, .int x] (clsW pn pc tok ship nn tl draft vd log trial sta says seed past marks K) Q := by
  refine ⟨nb rfl, xgo [5] 20 ⟨nb rfl, nb rfl, ?_⟩⟩
  have e4 : nI N = Int32.ofNat 4096 := by rw [hN]; rfl
  rw [← e4]
  have start : XWp (xF L xs) none xP4 (XC (xF L xs) xmeths d) Q 5 [orf 15, oi x, oi (nI 0), oi (nI N)] [] (clsW pn pc tok (ship.wlaw (ship.law.wm ship.law.stack (fil ship.law.known x 0))) nn tl draft vd log trial sta says seed past marks K) := by
    sorry
  rw [fil_zero] at start
  exact start
end XCF
