/-! what was done is kept and undone -/
section XCK
variable {L : Nat} {xs : Nat → Int32} {d : Nat} {Q : XQt} {pn pc : Int32} {tok : TTok} {ship : TShip} {nn : Int64} {tl : Int32} {draft : TShip} {vd : TVoy} {log : TLog} {trial : TCrew} {sta : TSta} {says : Fn} {seed : Int64} {past : Nat → TCrew} {marks : Nat → TLog} {K : XWd}
set_option maxRecDepth 20000 in
theorem c_copyP0 (h : Q none (clsW pn pc tok ship nn tl draft vd log trial sta says seed (pset past 0 ((past 0).cp log.crew)) marks K)) : XC (xF L xs) xmeths (d + 1) 85 [.ref 56, .ref 40] (clsW pn pc tok ship nn tl draft vd log trial sta says seed past marks K) Q := by
  refine ⟨nb rfl, xgo [] 60 ⟨nb rfl, ⟨by decide, by decide, by decide, nb rfl, nb rfl⟩, nb rfl, ⟨by decide, by decide, by decide, nb rfl, nb rfl⟩, ⟨rfl, ?_⟩⟩⟩
  exact (congrArg (Q none) (stP0 (g := cp6 log.crew.green (past 0).green) (p := cp6 log.crew.place (past 0).place) (a := log.crew.sucked) (c := log.crew.over))).mpr h
set_option maxRecDepth 20000 in
theorem c_copyQ0 (h : Q none (clsW pn pc tok ship nn tl draft vd (log.wcrew (log.crew.cp (past 0))) trial sta says seed past marks K)) : XC (xF L xs) xmeths (d + 1) 85 [.ref 40, .ref 56] (clsW pn pc tok ship nn tl draft vd log trial sta says seed past marks K) Q := by
  refine ⟨nb rfl, xgo [] 60 ⟨nb rfl, ⟨by decide, by decide, by decide, nb rfl, nb rfl⟩, nb rfl, ⟨by decide, by decide, by decide, nb rfl, nb rfl⟩, ⟨rfl, ?_⟩⟩⟩
  exact h
set_option maxRecDepth 20000 in
theorem c_copyP1 (h : Q none (clsW pn pc tok ship nn tl draft vd log trial sta says seed (pset past 1 ((past 1).cp log.crew)) marks K)) : XC (xF L xs) xmeths (d + 1) 85 [.ref 60, .ref 40] (clsW pn pc tok ship nn tl draft vd log trial sta says seed past marks K) Q := by
  refine ⟨nb rfl, xgo [] 60 ⟨nb rfl, ⟨by decide, by decide, by decide, nb rfl, nb rfl⟩, nb rfl, ⟨by decide, by decide, by decide, nb rfl, nb rfl⟩, ⟨rfl, ?_⟩⟩⟩
  exact (congrArg (Q none) (stP1 (g := cp6 log.crew.green (past 1).green) (p := cp6 log.crew.place (past 1).place) (a := log.crew.sucked) (c := log.crew.over))).mpr h
set_option maxRecDepth 20000 in
theorem c_copyQ1 (h : Q none (clsW pn pc tok ship nn tl draft vd (log.wcrew (log.crew.cp (past 1))) trial sta says seed past marks K)) : XC (xF L xs) xmeths (d + 1) 85 [.ref 40, .ref 60] (clsW pn pc tok ship nn tl draft vd log trial sta says seed past marks K) Q := by
  refine ⟨nb rfl, xgo [] 60 ⟨nb rfl, ⟨by decide, by decide, by decide, nb rfl, nb rfl⟩, nb rfl, ⟨by decide, by decide, by decide, nb rfl, nb rfl⟩, ⟨rfl, ?_⟩⟩⟩
  exact h
set_option maxRecDepth 20000 in
theorem c_copyP2 (h : Q none (clsW pn pc tok ship nn tl draft vd log trial sta says seed (pset past 2 ((past 2).cp log.crew)) marks K)) : XC (xF L xs) xmeths (d + 1) 85 [.ref 64, .ref 40] (clsW pn pc tok ship nn tl draft vd log trial sta says seed past marks K) Q := by
  refine ⟨nb rfl, xgo [] 60 ⟨nb rfl, ⟨by decide, by decide, by decide, nb rfl, nb rfl⟩, nb rfl, ⟨by decide, by decide, by decide, nb rfl, nb rfl⟩, ⟨rfl, ?_⟩⟩⟩
  exact (congrArg (Q none) (stP2 (g := cp6 log.crew.green (past 2).green) (p := cp6 log.crew.place (past 2).place) (a := log.crew.sucked) (c := log.crew.over))).mpr h
set_option maxRecDepth 20000 in
theorem c_copyQ2 (h : Q none (clsW pn pc tok ship nn tl draft vd (log.wcrew (log.crew.cp (past 2))) trial sta says seed past marks K)) : XC (xF L xs) xmeths (d + 1) 85 [.ref 40, .ref 64] (clsW pn pc tok ship nn tl draft vd log trial sta says seed past marks K) Q := by
  refine ⟨nb rfl, xgo [] 60 ⟨nb rfl, ⟨by decide, by decide, by decide, nb rfl, nb rfl⟩, nb rfl, ⟨by decide, by decide, by decide, nb rfl, nb rfl⟩, ⟨rfl, ?_⟩⟩⟩
  exact h
set_option maxRecDepth 20000 in
theorem c_copyP3 (h : Q none (clsW pn pc tok ship nn tl draft vd log trial sta says seed (pset past 3 ((past 3).cp log.crew)) marks K)) : XC (xF L xs) xmeths (d + 1) 85 [.ref 68, .ref 40] (clsW pn pc tok ship nn tl draft vd log trial sta says seed past marks K) Q := by
  refine ⟨nb rfl, xgo [] 60 ⟨nb rfl, ⟨by decide, by decide, by decide, nb rfl, nb rfl⟩, nb rfl, ⟨by decide, by decide, by decide, nb rfl, nb rfl⟩, ⟨rfl, ?_⟩⟩⟩
  exact (congrArg (Q none) (stP3 (g := cp6 log.crew.green (past 3).green) (p := cp6 log.crew.place (past 3).place) (a := log.crew.sucked) (c := log.crew.over))).mpr h
set_option maxRecDepth 20000 in
theorem c_copyQ3 (h : Q none (clsW pn pc tok ship nn tl draft vd (log.wcrew (log.crew.cp (past 3))) trial sta says seed past marks K)) : XC (xF L xs) xmeths (d + 1) 85 [.ref 40, .ref 68] (clsW pn pc tok ship nn tl draft vd log trial sta says seed past marks K) Q := by
  refine ⟨nb rfl, xgo [] 60 ⟨nb rfl, ⟨by decide, by decide, by decide, nb rfl, nb rfl⟩, nb rfl, ⟨by decide, by decide, by decide, nb rfl, nb rfl⟩, ⟨rfl, ?_⟩⟩⟩
  exact h
set_option maxRecDepth 20000 in
theorem c_copyP4 (h : Q none (clsW pn pc tok ship nn tl draft vd log trial sta says seed (pset past 4 ((past 4).cp log.crew)) marks K)) : XC (xF L xs) xmeths (d + 1) 85 [.ref 72, .ref 40] (clsW pn pc tok ship nn tl draft vd log trial sta says seed past marks K) Q := by
  refine ⟨nb rfl, xgo [] 60 ⟨nb rfl, ⟨by decide, by decide, by decide, nb rfl, nb rfl⟩, nb rfl, ⟨by decide, by decide, by decide, nb rfl, nb rfl⟩, ⟨rfl, ?_⟩⟩⟩
  exact (congrArg (Q none) (stP4 (g := cp6 log.crew.green (past 4).green) (p := cp6 log.crew.place (past 4).place) (a := log.crew.sucked) (c := log.crew.over))).mpr h
set_option maxRecDepth 20000 in
theorem c_copyQ4 (h : Q none (clsW pn pc tok ship nn tl draft vd (log.wcrew (log.crew.cp (past 4))) trial sta says seed past marks K)) : XC (xF L xs) xmeths (d + 1) 85 [.ref 40, .ref 72] (clsW pn pc tok ship nn tl draft vd log trial sta says seed past marks K) Q := by
  refine ⟨nb rfl, xgo [] 60 ⟨nb rfl, ⟨by decide, by decide, by decide, nb rfl, nb rfl⟩, nb rfl, ⟨by decide, by decide, by decide, nb rfl, nb rfl⟩, ⟨rfl, ?_⟩⟩⟩
  exact h
set_option maxRecDepth 20000 in
theorem c_copyP5 (h : Q none (clsW pn pc tok ship nn tl draft vd log trial sta says seed (pset past 5 ((past 5).cp log.crew)) marks K)) : XC (xF L xs) xmeths (d + 1) 85 [.ref 76, .ref 40] (clsW pn pc tok ship nn tl draft vd log trial sta says seed past marks K) Q := by
  refine ⟨nb rfl, xgo [] 60 ⟨nb rfl, ⟨by decide, by decide, by decide, nb rfl, nb rfl⟩, nb rfl, ⟨by decide, by decide, by decide, nb rfl, nb rfl⟩, ⟨rfl, ?_⟩⟩⟩
  exact (congrArg (Q none) (stP5 (g := cp6 log.crew.green (past 5).green) (p := cp6 log.crew.place (past 5).place) (a := log.crew.sucked) (c := log.crew.over))).mpr h
set_option maxRecDepth 20000 in
theorem c_copyQ5 (h : Q none (clsW pn pc tok ship nn tl draft vd (log.wcrew (log.crew.cp (past 5))) trial sta says seed past marks K)) : XC (xF L xs) xmeths (d + 1) 85 [.ref 40, .ref 76] (clsW pn pc tok ship nn tl draft vd log trial sta says seed past marks K) Q := by
  refine ⟨nb rfl, xgo [] 60 ⟨nb rfl, ⟨by decide, by decide, by decide, nb rfl, nb rfl⟩, nb rfl, ⟨by decide, by decide, by decide, nb rfl, nb rfl⟩, ⟨rfl, ?_⟩⟩⟩
  exact h
set_option maxRecDepth 20000 in
theorem c_copyP6 (h : Q none (clsW pn pc tok ship nn tl draft vd log trial sta says seed (pset past 6 ((past 6).cp log.crew)) marks K)) : XC (xF L xs) xmeths (d + 1) 85 [.ref 80, .ref 40] (clsW pn pc tok ship nn tl draft vd log trial sta says seed past marks K) Q := by
  refine ⟨nb rfl, xgo [] 60 ⟨nb rfl, ⟨by decide, by decide, by decide, nb rfl, nb rfl⟩, nb rfl, ⟨by decide, by decide, by decide, nb rfl, nb rfl⟩, ⟨rfl, ?_⟩⟩⟩
  exact (congrArg (Q none) (stP6 (g := cp6 log.crew.green (past 6).green) (p := cp6 log.crew.place (past 6).place) (a := log.crew.sucked) (c := log.crew.over))).mpr h
set_option maxRecDepth 20000 in
theorem c_copyQ6 (h : Q none (clsW pn pc tok ship nn tl draft vd (log.wcrew (log.crew.cp (past 6))) trial sta says seed past marks K)) : XC (xF L xs) xmeths (d + 1) 85 [.ref 40, .ref 80] (clsW pn pc tok ship nn tl draft vd log trial sta says seed past marks K) Q := by
  refine ⟨nb rfl, xgo [] 60 ⟨nb rfl, ⟨by decide, by decide, by decide, nb rfl, nb rfl⟩, nb rfl, ⟨by decide, by decide, by decide, nb rfl, nb rfl⟩, ⟨rfl, ?_⟩⟩⟩
  exact h
set_option maxRecDepth 20000 in
theorem c_copyP7 (h : Q none (clsW pn pc tok ship nn tl draft vd log trial sta says seed (pset past 7 ((past 7).cp log.crew)) marks K)) : XC (xF L xs) xmeths (d + 1) 85 [.ref 84, .ref 40] (clsW pn pc tok ship nn tl draft vd log trial sta says seed past marks K) Q := by
  refine ⟨nb rfl, xgo [] 60 ⟨nb rfl, ⟨by decide, by decide, by decide, nb rfl, nb rfl⟩, nb rfl, ⟨by decide, by decide, by decide, nb rfl, nb rfl⟩, ⟨rfl, ?_⟩⟩⟩
  exact (congrArg (Q none) (stP7 (g := cp6 log.crew.green (past 7).green) (p := cp6 log.crew.place (past 7).place) (a := log.crew.sucked) (c := log.crew.over))).mpr h
set_option maxRecDepth 20000 in
theorem c_copyQ7 (h : Q none (clsW pn pc tok ship nn tl draft vd (log.wcrew (log.crew.cp (past 7))) trial sta says seed past marks K)) : XC (xF L xs) xmeths (d + 1) 85 [.ref 40, .ref 84] (clsW pn pc tok ship nn tl draft vd log trial sta says seed past marks K) Q := by
  refine ⟨nb rfl, xgo [] 60 ⟨nb rfl, ⟨by decide, by decide, by decide, nb rfl, nb rfl⟩, nb rfl, ⟨by decide, by decide, by decide, nb rfl, nb rfl⟩, ⟨rfl, ?_⟩⟩⟩
  exact h
set_option maxRecDepth 20000 in
theorem c_copyP8 (h : Q none (clsW pn pc tok ship nn tl draft vd log trial sta says seed (pset past 8 ((past 8).cp log.crew)) marks K)) : XC (xF L xs) xmeths (d + 1) 85 [.ref 88, .ref 40] (clsW pn pc tok ship nn tl draft vd log trial sta says seed past marks K) Q := by
  refine ⟨nb rfl, xgo [] 60 ⟨nb rfl, ⟨by decide, by decide, by decide, nb rfl, nb rfl⟩, nb rfl, ⟨by decide, by decide, by decide, nb rfl, nb rfl⟩, ⟨rfl, ?_⟩⟩⟩
  exact (congrArg (Q none) (stP8 (g := cp6 log.crew.green (past 8).green) (p := cp6 log.crew.place (past 8).place) (a := log.crew.sucked) (c := log.crew.over))).mpr h
set_option maxRecDepth 20000 in
theorem c_copyQ8 (h : Q none (clsW pn pc tok ship nn tl draft vd (log.wcrew (log.crew.cp (past 8))) trial sta says seed past marks K)) : XC (xF L xs) xmeths (d + 1) 85 [.ref 40, .ref 88] (clsW pn pc tok ship nn tl draft vd log trial sta says seed past marks K) Q := by
  refine ⟨nb rfl, xgo [] 60 ⟨nb rfl, ⟨by decide, by decide, by decide, nb rfl, nb rfl⟩, nb rfl, ⟨by decide, by decide, by decide, nb rfl, nb rfl⟩, ⟨rfl, ?_⟩⟩⟩
  exact h
set_option maxRecDepth 20000 in
theorem c_copyP9 (h : Q none (clsW pn pc tok ship nn tl draft vd log trial sta says seed (pset past 9 ((past 9).cp log.crew)) marks K)) : XC (xF L xs) xmeths (d + 1) 85 [.ref 92, .ref 40] (clsW pn pc tok ship nn tl draft vd log trial sta says seed past marks K) Q := by
  refine ⟨nb rfl, xgo [] 60 ⟨nb rfl, ⟨by decide, by decide, by decide, nb rfl, nb rfl⟩, nb rfl, ⟨by decide, by decide, by decide, nb rfl, nb rfl⟩, ⟨rfl, ?_⟩⟩⟩
  exact (congrArg (Q none) (stP9 (g := cp6 log.crew.green (past 9).green) (p := cp6 log.crew.place (past 9).place) (a := log.crew.sucked) (c := log.crew.over))).mpr h
set_option maxRecDepth 20000 in
theorem c_copyQ9 (h : Q none (clsW pn pc tok ship nn tl draft vd (log.wcrew (log.crew.cp (past 9))) trial sta says seed past marks K)) : XC (xF L xs) xmeths (d + 1) 85 [.ref 40, .ref 92] (clsW pn pc tok ship nn tl draft vd log trial sta says seed past marks K) Q := by
  refine ⟨nb rfl, xgo [] 60 ⟨nb rfl, ⟨by decide, by decide, by decide, nb rfl, nb rfl⟩, nb rfl, ⟨by decide, by decide, by decide, nb rfl, nb rfl⟩, ⟨rfl, ?_⟩⟩⟩
  exact h
set_option maxRecDepth 20000 in
theorem c_copyP10 (h : Q none (clsW pn pc tok ship nn tl draft vd log trial sta says seed (pset past 10 ((past 10).cp log.crew)) marks K)) : XC (xF L xs) xmeths (d + 1) 85 [.ref 96, .ref 40] (clsW pn pc tok ship nn tl draft vd log trial sta says seed past marks K) Q := by
  refine ⟨nb rfl, xgo [] 60 ⟨nb rfl, ⟨by decide, by decide, by decide, nb rfl, nb rfl⟩, nb rfl, ⟨by decide, by decide, by decide, nb rfl, nb rfl⟩, ⟨rfl, ?_⟩⟩⟩
  exact (congrArg (Q none) (stP10 (g := cp6 log.crew.green (past 10).green) (p := cp6 log.crew.place (past 10).place) (a := log.crew.sucked) (c := log.crew.over))).mpr h
set_option maxRecDepth 20000 in
theorem c_copyQ10 (h : Q none (clsW pn pc tok ship nn tl draft vd (log.wcrew (log.crew.cp (past 10))) trial sta says seed past marks K)) : XC (xF L xs) xmeths (d + 1) 85 [.ref 40, .ref 96] (clsW pn pc tok ship nn tl draft vd log trial sta says seed past marks K) Q := by
  refine ⟨nb rfl, xgo [] 60 ⟨nb rfl, ⟨by decide, by decide, by decide, nb rfl, nb rfl⟩, nb rfl, ⟨by decide, by decide, by decide, nb rfl, nb rfl⟩, ⟨rfl, ?_⟩⟩⟩
  exact h
set_option maxRecDepth 20000 in
theorem c_copyP11 (h : Q none (clsW pn pc tok ship nn tl draft vd log trial sta says seed (pset past 11 ((past 11).cp log.crew)) marks K)) : XC (xF L xs) xmeths (d + 1) 85 [.ref 100, .ref 40] (clsW pn pc tok ship nn tl draft vd log trial sta says seed past marks K) Q := by
  refine ⟨nb rfl, xgo [] 60 ⟨nb rfl, ⟨by decide, by decide, by decide, nb rfl, nb rfl⟩, nb rfl, ⟨by decide, by decide, by decide, nb rfl, nb rfl⟩, ⟨rfl, ?_⟩⟩⟩
  exact (congrArg (Q none) (stP11 (g := cp6 log.crew.green (past 11).green) (p := cp6 log.crew.place (past 11).place) (a := log.crew.sucked) (c := log.crew.over))).mpr h
set_option maxRecDepth 20000 in
theorem c_copyQ11 (h : Q none (clsW pn pc tok ship nn tl draft vd (log.wcrew (log.crew.cp (past 11))) trial sta says seed past marks K)) : XC (xF L xs) xmeths (d + 1) 85 [.ref 40, .ref 100] (clsW pn pc tok ship nn tl draft vd log trial sta says seed past marks K) Q := by
  refine ⟨nb rfl, xgo [] 60 ⟨nb rfl, ⟨by decide, by decide, by decide, nb rfl, nb rfl⟩, nb rfl, ⟨by decide, by decide, by decide, nb rfl, nb rfl⟩, ⟨rfl, ?_⟩⟩⟩
  exact h
set_option maxRecDepth 20000 in
theorem c_copyP12 (h : Q none (clsW pn pc tok ship nn tl draft vd log trial sta says seed (pset past 12 ((past 12).cp log.crew)) marks K)) : XC (xF L xs) xmeths (d + 1) 85 [.ref 104, .ref 40] (clsW pn pc tok ship nn tl draft vd log trial sta says seed past marks K) Q := by
  refine ⟨nb rfl, xgo [] 60 ⟨nb rfl, ⟨by decide, by decide, by decide, nb rfl, nb rfl⟩, nb rfl, ⟨by decide, by decide, by decide, nb rfl, nb rfl⟩, ⟨rfl, ?_⟩⟩⟩
  exact (congrArg (Q none) (stP12 (g := cp6 log.crew.green (past 12).green) (p := cp6 log.crew.place (past 12).place) (a := log.crew.sucked) (c := log.crew.over))).mpr h
set_option maxRecDepth 20000 in
theorem c_copyQ12 (h : Q none (clsW pn pc tok ship nn tl draft vd (log.wcrew (log.crew.cp (past 12))) trial sta says seed past marks K)) : XC (xF L xs) xmeths (d + 1) 85 [.ref 40, .ref 104] (clsW pn pc tok ship nn tl draft vd log trial sta says seed past marks K) Q := by
  refine ⟨nb rfl, xgo [] 60 ⟨nb rfl, ⟨by decide, by decide, by decide, nb rfl, nb rfl⟩, nb rfl, ⟨by decide, by decide, by decide, nb rfl, nb rfl⟩, ⟨rfl, ?_⟩⟩⟩
  exact h
set_option maxRecDepth 20000 in
theorem c_copyP13 (h : Q none (clsW pn pc tok ship nn tl draft vd log trial sta says seed (pset past 13 ((past 13).cp log.crew)) marks K)) : XC (xF L xs) xmeths (d + 1) 85 [.ref 108, .ref 40] (clsW pn pc tok ship nn tl draft vd log trial sta says seed past marks K) Q := by
  refine ⟨nb rfl, xgo [] 60 ⟨nb rfl, ⟨by decide, by decide, by decide, nb rfl, nb rfl⟩, nb rfl, ⟨by decide, by decide, by decide, nb rfl, nb rfl⟩, ⟨rfl, ?_⟩⟩⟩
  exact (congrArg (Q none) (stP13 (g := cp6 log.crew.green (past 13).green) (p := cp6 log.crew.place (past 13).place) (a := log.crew.sucked) (c := log.crew.over))).mpr h
set_option maxRecDepth 20000 in
theorem c_copyQ13 (h : Q none (clsW pn pc tok ship nn tl draft vd (log.wcrew (log.crew.cp (past 13))) trial sta says seed past marks K)) : XC (xF L xs) xmeths (d + 1) 85 [.ref 40, .ref 108] (clsW pn pc tok ship nn tl draft vd log trial sta says seed past marks K) Q := by
  refine ⟨nb rfl, xgo [] 60 ⟨nb rfl, ⟨by decide, by decide, by decide, nb rfl, nb rfl⟩, nb rfl, ⟨by decide, by decide, by decide, nb rfl, nb rfl⟩, ⟨rfl, ?_⟩⟩⟩
  exact h
set_option maxRecDepth 20000 in
theorem c_copyP14 (h : Q none (clsW pn pc tok ship nn tl draft vd log trial sta says seed (pset past 14 ((past 14).cp log.crew)) marks K)) : XC (xF L xs) xmeths (d + 1) 85 [.ref 112, .ref 40] (clsW pn pc tok ship nn tl draft vd log trial sta says seed past marks K) Q := by
  refine ⟨nb rfl, xgo [] 60 ⟨nb rfl, ⟨by decide, by decide, by decide, nb rfl, nb rfl⟩, nb rfl, ⟨by decide, by decide, by decide, nb rfl, nb rfl⟩, ⟨rfl, ?_⟩⟩⟩
  exact (congrArg (Q none) (stP14 (g := cp6 log.crew.green (past 14).green) (p := cp6 log.crew.place (past 14).place) (a := log.crew.sucked) (c := log.crew.over))).mpr h
set_option maxRecDepth 20000 in
theorem c_copyQ14 (h : Q none (clsW pn pc tok ship nn tl draft vd (log.wcrew (log.crew.cp (past 14))) trial sta says seed past marks K)) : XC (xF L xs) xmeths (d + 1) 85 [.ref 40, .ref 112] (clsW pn pc tok ship nn tl draft vd log trial sta says seed past marks K) Q := by
  refine ⟨nb rfl, xgo [] 60 ⟨nb rfl, ⟨by decide, by decide, by decide, nb rfl, nb rfl⟩, nb rfl, ⟨by decide, by decide, by decide, nb rfl, nb rfl⟩, ⟨rfl, ?_⟩⟩⟩
  exact h
set_option maxRecDepth 20000 in
theorem c_copyP15 (h : Q none (clsW pn pc tok ship nn tl draft vd log trial sta says seed (pset past 15 ((past 15).cp log.crew)) marks K)) : XC (xF L xs) xmeths (d + 1) 85 [.ref 116, .ref 40] (clsW pn pc tok ship nn tl draft vd log trial sta says seed past marks K) Q := by
  refine ⟨nb rfl, xgo [] 60 ⟨nb rfl, ⟨by decide, by decide, by decide, nb rfl, nb rfl⟩, nb rfl, ⟨by decide, by decide, by decide, nb rfl, nb rfl⟩, ⟨rfl, ?_⟩⟩⟩
  exact (congrArg (Q none) (stP15 (g := cp6 log.crew.green (past 15).green) (p := cp6 log.crew.place (past 15).place) (a := log.crew.sucked) (c := log.crew.over))).mpr h
set_option maxRecDepth 20000 in
theorem c_copyQ15 (h : Q none (clsW pn pc tok ship nn tl draft vd (log.wcrew (log.crew.cp (past 15))) trial sta says seed past marks K)) : XC (xF L xs) xmeths (d + 1) 85 [.ref 40, .ref 116] (clsW pn pc tok ship nn tl draft vd log trial sta says seed past marks K) Q := by
  refine ⟨nb rfl, xgo [] 60 ⟨nb rfl, ⟨by decide, by decide, by decide, nb rfl, nb rfl⟩, nb rfl, ⟨by decide, by decide, by decide, nb rfl, nb rfl⟩, ⟨rfl, ?_⟩⟩⟩
  exact h

end XCK
