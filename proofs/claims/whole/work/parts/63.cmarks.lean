/-! marks laid, and gone back to -/
section XCM
variable {L : Nat} {xs : Nat → Int32} {d : Nat} {Q : XQt} {pn pc : Int32} {tok : TTok} {ship : TShip} {nn : Int64} {tl : Int32} {draft : TShip} {vd : TVoy} {log : TLog} {trial : TCrew} {sta : TSta} {says : Fn} {seed : Int64} {past : Nat → TCrew} {marks : Nat → TLog} {K : XWd}
def clsM (pn pc : Int32) (tok : TTok) (ship : TShip) (nn : Int64) (tl : Int32) (draft : TShip) (vd : TVoy) (log : TLog) (trial : TCrew) (sta : TSta) (says : Fn) (seed : Int64) (past : Nat → TCrew) (k : XWd) : XWd := clsP pn pc tok ship nn tl draft vd log trial sta says seed (gPast past k)
set_option maxRecDepth 20000 in
theorem clsM_app {k : XWd} : clsM pn pc tok ship nn tl draft vd log trial sta says seed past k = clsM pn pc tok ship nn tl draft vd log trial sta says seed past [] ++ k := by
  simp only [clsM, clsP, gTop, gTok, gShip3, gRd, gShip17, gVoy30, gLog32, gCrew44, gFor48, gSta49, gSus53, gPast, gPastA, gP0, gP1, gP2, gP3, gP4, gP5, gP6, gP7, gP8, gP9, gP10, gP11, gP12, gP13, gP14, gP15, List.cons_append, List.nil_append]
set_option maxRecDepth 20000 in
theorem clsM_len : (clsM pn pc tok ship nn tl draft vd log trial sta says seed past []).length = 120 := rfl
theorem clsM_set {k : XWd} {n : Nat} {b : XE} : xset (clsM pn pc tok ship nn tl draft vd log trial sta says seed past k) (120 + n) b = clsM pn pc tok ship nn tl draft vd log trial sta says seed past (xset k n b) := by
  have h := xset_app (clsM pn pc tok ship nn tl draft vd log trial sta says seed past []) k n b
  rw [clsM_len] at h
  rw [clsM_app, h, ← clsM_app]
theorem clsM_eq : (clsW pn pc tok ship nn tl draft vd log trial sta says seed past marks K) = clsM pn pc tok ship nn tl draft vd log trial sta says seed past (gMarks marks K) := rfl
set_option maxRecDepth 20000 in
theorem st0Mc0 {g p : Fn} {a c : Int32} : xset (xset (xset (xset (gMarks marks K) 11 (xint .int 6 g)) 12 (xint .int 6 p)) 9 (.inr (0, [.ref 3, .ref 130, .ref 131, .ref 132, .int a, .int (marks 0).crew.over]))) 9 (.inr (0, [.ref 3, .ref 130, .ref 131, .ref 132, .int a, .int c])) = gMarks (mset marks 0 ((marks 0).voy, (marks 0).seen, ((marks 0).crew.rise, g, p, a, c), (marks 0).laid)) K := (congrArg (List.cons _) rfl)
theorem stMc0 {g p : Fn} {a c : Int32} : xset (xset (xset (xset ((clsW pn pc tok ship nn tl draft vd log trial sta says seed past marks K)) 131 (xint .int 6 g)) 132 (xint .int 6 p)) 129 (.inr (0, [.ref 3, .ref 130, .ref 131, .ref 132, .int a, .int (marks 0).crew.over]))) 129 (.inr (0, [.ref 3, .ref 130, .ref 131, .ref 132, .int a, .int c])) = (clsW pn pc tok ship nn tl draft vd log trial sta says seed past (mset marks 0 ((marks 0).voy, (marks 0).seen, ((marks 0).crew.rise, g, p, a, c), (marks 0).laid)) K) := by
  rw [clsM_eq, show 131 = 120 + 11 from rfl, show 132 = 120 + 12 from rfl, show 129 = 120 + 9 from rfl, clsM_set, clsM_set, clsM_set, clsM_set, st0Mc0]
  rfl
set_option maxRecDepth 20000 in
theorem st0Mv0 {g : Fn} {a : Int32} : xset (xset (gMarks marks K) 3 (xint .int 40 g)) 2 (.inr (11, [.ref 123, .int a])) = gMarks (mset marks 0 ((g, a), (marks 0).seen, (marks 0).crew, (marks 0).laid)) K := (congrArg (List.cons _) rfl)
theorem stMv0 {g : Fn} {a : Int32} : xset (xset ((clsW pn pc tok ship nn tl draft vd log trial sta says seed past marks K)) 123 (xint .int 40 g)) 122 (.inr (11, [.ref 123, .int a])) = (clsW pn pc tok ship nn tl draft vd log trial sta says seed past (mset marks 0 ((g, a), (marks 0).seen, (marks 0).crew, (marks 0).laid)) K) := by
  rw [clsM_eq, show 123 = 120 + 3 from rfl, show 122 = 120 + 2 from rfl, clsM_set, clsM_set, st0Mv0]
  rfl
set_option maxRecDepth 20000 in
theorem st0Ms0 {g1 g2 g3 g4 : Fn} {a : Int32} : xset (xset (xset (xset (xset (gMarks marks K) 5 (xint .int 8 g1)) 6 (xint .int 8 g2)) 7 (xint .int 8 g3)) 8 (xint .int 8 g4)) 4 (.inr (5, [.ref 125, .ref 126, .ref 127, .ref 128, .int a])) = gMarks (mset marks 0 ((marks 0).voy, (g1, g2, g3, g4, a), (marks 0).crew, (marks 0).laid)) K := (congrArg (List.cons _) rfl)
theorem stMs0 {g1 g2 g3 g4 : Fn} {a : Int32} : xset (xset (xset (xset (xset ((clsW pn pc tok ship nn tl draft vd log trial sta says seed past marks K)) 125 (xint .int 8 g1)) 126 (xint .int 8 g2)) 127 (xint .int 8 g3)) 128 (xint .int 8 g4)) 124 (.inr (5, [.ref 125, .ref 126, .ref 127, .ref 128, .int a])) = (clsW pn pc tok ship nn tl draft vd log trial sta says seed past (mset marks 0 ((marks 0).voy, (g1, g2, g3, g4, a), (marks 0).crew, (marks 0).laid)) K) := by
  rw [clsM_eq, show 125 = 120 + 5 from rfl, show 126 = 120 + 6 from rfl, show 127 = 120 + 7 from rfl, show 128 = 120 + 8 from rfl, show 124 = 120 + 4 from rfl, clsM_set, clsM_set, clsM_set, clsM_set, clsM_set, st0Ms0]
  rfl
set_option maxRecDepth 20000 in
theorem st0Ml0 {a : Int32} : xset (gMarks marks K) 1 (.inr (4, [.ref 129, .ref 122, .ref 124, .int a])) = gMarks (mset marks 0 ((marks 0).voy, (marks 0).seen, (marks 0).crew, a)) K := (congrArg (List.cons _) rfl)
theorem stMl0 {a : Int32} : xset ((clsW pn pc tok ship nn tl draft vd log trial sta says seed past marks K)) 121 (.inr (4, [.ref 129, .ref 122, .ref 124, .int a])) = (clsW pn pc tok ship nn tl draft vd log trial sta says seed past (mset marks 0 ((marks 0).voy, (marks 0).seen, (marks 0).crew, a)) K) := by
  rw [clsM_eq, show 121 = 120 + 1 from rfl, clsM_set, st0Ml0]
  rfl
set_option maxRecDepth 20000 in
theorem st0Mc1 {g p : Fn} {a c : Int32} : xset (xset (xset (xset (gMarks marks K) 23 (xint .int 6 g)) 24 (xint .int 6 p)) 21 (.inr (0, [.ref 3, .ref 142, .ref 143, .ref 144, .int a, .int (marks 1).crew.over]))) 21 (.inr (0, [.ref 3, .ref 142, .ref 143, .ref 144, .int a, .int c])) = gMarks (mset marks 1 ((marks 1).voy, (marks 1).seen, ((marks 1).crew.rise, g, p, a, c), (marks 1).laid)) K := (congrArg (List.cons _) (congrArg (List.cons _) (congrArg (List.cons _) (congrArg (List.cons _) (congrArg (List.cons _) (congrArg (List.cons _) (congrArg (List.cons _) (congrArg (List.cons _) (congrArg (List.cons _) (congrArg (List.cons _) (congrArg (List.cons _) (congrArg (List.cons _) (congrArg (List.cons _) rfl)))))))))))))
theorem stMc1 {g p : Fn} {a c : Int32} : xset (xset (xset (xset ((clsW pn pc tok ship nn tl draft vd log trial sta says seed past marks K)) 143 (xint .int 6 g)) 144 (xint .int 6 p)) 141 (.inr (0, [.ref 3, .ref 142, .ref 143, .ref 144, .int a, .int (marks 1).crew.over]))) 141 (.inr (0, [.ref 3, .ref 142, .ref 143, .ref 144, .int a, .int c])) = (clsW pn pc tok ship nn tl draft vd log trial sta says seed past (mset marks 1 ((marks 1).voy, (marks 1).seen, ((marks 1).crew.rise, g, p, a, c), (marks 1).laid)) K) := by
  rw [clsM_eq, show 143 = 120 + 23 from rfl, show 144 = 120 + 24 from rfl, show 141 = 120 + 21 from rfl, clsM_set, clsM_set, clsM_set, clsM_set, st0Mc1]
  rfl
set_option maxRecDepth 20000 in
theorem st0Mv1 {g : Fn} {a : Int32} : xset (xset (gMarks marks K) 15 (xint .int 40 g)) 14 (.inr (11, [.ref 135, .int a])) = gMarks (mset marks 1 ((g, a), (marks 1).seen, (marks 1).crew, (marks 1).laid)) K := (congrArg (List.cons _) (congrArg (List.cons _) (congrArg (List.cons _) (congrArg (List.cons _) (congrArg (List.cons _) (congrArg (List.cons _) (congrArg (List.cons _) (congrArg (List.cons _) (congrArg (List.cons _) (congrArg (List.cons _) (congrArg (List.cons _) (congrArg (List.cons _) (congrArg (List.cons _) rfl)))))))))))))
theorem stMv1 {g : Fn} {a : Int32} : xset (xset ((clsW pn pc tok ship nn tl draft vd log trial sta says seed past marks K)) 135 (xint .int 40 g)) 134 (.inr (11, [.ref 135, .int a])) = (clsW pn pc tok ship nn tl draft vd log trial sta says seed past (mset marks 1 ((g, a), (marks 1).seen, (marks 1).crew, (marks 1).laid)) K) := by
  rw [clsM_eq, show 135 = 120 + 15 from rfl, show 134 = 120 + 14 from rfl, clsM_set, clsM_set, st0Mv1]
  rfl
set_option maxRecDepth 20000 in
theorem st0Ms1 {g1 g2 g3 g4 : Fn} {a : Int32} : xset (xset (xset (xset (xset (gMarks marks K) 17 (xint .int 8 g1)) 18 (xint .int 8 g2)) 19 (xint .int 8 g3)) 20 (xint .int 8 g4)) 16 (.inr (5, [.ref 137, .ref 138, .ref 139, .ref 140, .int a])) = gMarks (mset marks 1 ((marks 1).voy, (g1, g2, g3, g4, a), (marks 1).crew, (marks 1).laid)) K := (congrArg (List.cons _) (congrArg (List.cons _) (congrArg (List.cons _) (congrArg (List.cons _) (congrArg (List.cons _) (congrArg (List.cons _) (congrArg (List.cons _) (congrArg (List.cons _) (congrArg (List.cons _) (congrArg (List.cons _) (congrArg (List.cons _) (congrArg (List.cons _) (congrArg (List.cons _) rfl)))))))))))))
theorem stMs1 {g1 g2 g3 g4 : Fn} {a : Int32} : xset (xset (xset (xset (xset ((clsW pn pc tok ship nn tl draft vd log trial sta says seed past marks K)) 137 (xint .int 8 g1)) 138 (xint .int 8 g2)) 139 (xint .int 8 g3)) 140 (xint .int 8 g4)) 136 (.inr (5, [.ref 137, .ref 138, .ref 139, .ref 140, .int a])) = (clsW pn pc tok ship nn tl draft vd log trial sta says seed past (mset marks 1 ((marks 1).voy, (g1, g2, g3, g4, a), (marks 1).crew, (marks 1).laid)) K) := by
  rw [clsM_eq, show 137 = 120 + 17 from rfl, show 138 = 120 + 18 from rfl, show 139 = 120 + 19 from rfl, show 140 = 120 + 20 from rfl, show 136 = 120 + 16 from rfl, clsM_set, clsM_set, clsM_set, clsM_set, clsM_set, st0Ms1]
  rfl
set_option maxRecDepth 20000 in
theorem st0Ml1 {a : Int32} : xset (gMarks marks K) 13 (.inr (4, [.ref 141, .ref 134, .ref 136, .int a])) = gMarks (mset marks 1 ((marks 1).voy, (marks 1).seen, (marks 1).crew, a)) K := (congrArg (List.cons _) (congrArg (List.cons _) (congrArg (List.cons _) (congrArg (List.cons _) (congrArg (List.cons _) (congrArg (List.cons _) (congrArg (List.cons _) (congrArg (List.cons _) (congrArg (List.cons _) (congrArg (List.cons _) (congrArg (List.cons _) (congrArg (List.cons _) (congrArg (List.cons _) rfl)))))))))))))
theorem stMl1 {a : Int32} : xset ((clsW pn pc tok ship nn tl draft vd log trial sta says seed past marks K)) 133 (.inr (4, [.ref 141, .ref 134, .ref 136, .int a])) = (clsW pn pc tok ship nn tl draft vd log trial sta says seed past (mset marks 1 ((marks 1).voy, (marks 1).seen, (marks 1).crew, a)) K) := by
  rw [clsM_eq, show 133 = 120 + 13 from rfl, clsM_set, st0Ml1]
  rfl
set_option maxRecDepth 20000 in
theorem st0Mc2 {g p : Fn} {a c : Int32} : xset (xset (xset (xset (gMarks marks K) 35 (xint .int 6 g)) 36 (xint .int 6 p)) 33 (.inr (0, [.ref 3, .ref 154, .ref 155, .ref 156, .int a, .int (marks 2).crew.over]))) 33 (.inr (0, [.ref 3, .ref 154, .ref 155, .ref 156, .int a, .int c])) = gMarks (mset marks 2 ((marks 2).voy, (marks 2).seen, ((marks 2).crew.rise, g, p, a, c), (marks 2).laid)) K := (congrArg (List.cons _) (congrArg (List.cons _) (congrArg (List.cons _) (congrArg (List.cons _) (congrArg (List.cons _) (congrArg (List.cons _) (congrArg (List.cons _) (congrArg (List.cons _) (congrArg (List.cons _) (congrArg (List.cons _) (congrArg (List.cons _) (congrArg (List.cons _) (congrArg (List.cons _) (congrArg (List.cons _) (congrArg (List.cons _) (congrArg (List.cons _) (congrArg (List.cons _) (congrArg (List.cons _) (congrArg (List.cons _) (congrArg (List.cons _) (congrArg (List.cons _) (congrArg (List.cons _) (congrArg (List.cons _) (congrArg (List.cons _) (congrArg (List.cons _) rfl)))))))))))))))))))))))))
theorem stMc2 {g p : Fn} {a c : Int32} : xset (xset (xset (xset ((clsW pn pc tok ship nn tl draft vd log trial sta says seed past marks K)) 155 (xint .int 6 g)) 156 (xint .int 6 p)) 153 (.inr (0, [.ref 3, .ref 154, .ref 155, .ref 156, .int a, .int (marks 2).crew.over]))) 153 (.inr (0, [.ref 3, .ref 154, .ref 155, .ref 156, .int a, .int c])) = (clsW pn pc tok ship nn tl draft vd log trial sta says seed past (mset marks 2 ((marks 2).voy, (marks 2).seen, ((marks 2).crew.rise, g, p, a, c), (marks 2).laid)) K) := by
  rw [clsM_eq, show 155 = 120 + 35 from rfl, show 156 = 120 + 36 from rfl, show 153 = 120 + 33 from rfl, clsM_set, clsM_set, clsM_set, clsM_set, st0Mc2]
  rfl
set_option maxRecDepth 20000 in
theorem st0Mv2 {g : Fn} {a : Int32} : xset (xset (gMarks marks K) 27 (xint .int 40 g)) 26 (.inr (11, [.ref 147, .int a])) = gMarks (mset marks 2 ((g, a), (marks 2).seen, (marks 2).crew, (marks 2).laid)) K := (congrArg (List.cons _) (congrArg (List.cons _) (congrArg (List.cons _) (congrArg (List.cons _) (congrArg (List.cons _) (congrArg (List.cons _) (congrArg (List.cons _) (congrArg (List.cons _) (congrArg (List.cons _) (congrArg (List.cons _) (congrArg (List.cons _) (congrArg (List.cons _) (congrArg (List.cons _) (congrArg (List.cons _) (congrArg (List.cons _) (congrArg (List.cons _) (congrArg (List.cons _) (congrArg (List.cons _) (congrArg (List.cons _) (congrArg (List.cons _) (congrArg (List.cons _) (congrArg (List.cons _) (congrArg (List.cons _) (congrArg (List.cons _) (congrArg (List.cons _) rfl)))))))))))))))))))))))))
theorem stMv2 {g : Fn} {a : Int32} : xset (xset ((clsW pn pc tok ship nn tl draft vd log trial sta says seed past marks K)) 147 (xint .int 40 g)) 146 (.inr (11, [.ref 147, .int a])) = (clsW pn pc tok ship nn tl draft vd log trial sta says seed past (mset marks 2 ((g, a), (marks 2).seen, (marks 2).crew, (marks 2).laid)) K) := by
  rw [clsM_eq, show 147 = 120 + 27 from rfl, show 146 = 120 + 26 from rfl, clsM_set, clsM_set, st0Mv2]
  rfl
set_option maxRecDepth 20000 in
theorem st0Ms2 {g1 g2 g3 g4 : Fn} {a : Int32} : xset (xset (xset (xset (xset (gMarks marks K) 29 (xint .int 8 g1)) 30 (xint .int 8 g2)) 31 (xint .int 8 g3)) 32 (xint .int 8 g4)) 28 (.inr (5, [.ref 149, .ref 150, .ref 151, .ref 152, .int a])) = gMarks (mset marks 2 ((marks 2).voy, (g1, g2, g3, g4, a), (marks 2).crew, (marks 2).laid)) K := (congrArg (List.cons _) (congrArg (List.cons _) (congrArg (List.cons _) (congrArg (List.cons _) (congrArg (List.cons _) (congrArg (List.cons _) (congrArg (List.cons _) (congrArg (List.cons _) (congrArg (List.cons _) (congrArg (List.cons _) (congrArg (List.cons _) (congrArg (List.cons _) (congrArg (List.cons _) (congrArg (List.cons _) (congrArg (List.cons _) (congrArg (List.cons _) (congrArg (List.cons _) (congrArg (List.cons _) (congrArg (List.cons _) (congrArg (List.cons _) (congrArg (List.cons _) (congrArg (List.cons _) (congrArg (List.cons _) (congrArg (List.cons _) (congrArg (List.cons _) rfl)))))))))))))))))))))))))
theorem stMs2 {g1 g2 g3 g4 : Fn} {a : Int32} : xset (xset (xset (xset (xset ((clsW pn pc tok ship nn tl draft vd log trial sta says seed past marks K)) 149 (xint .int 8 g1)) 150 (xint .int 8 g2)) 151 (xint .int 8 g3)) 152 (xint .int 8 g4)) 148 (.inr (5, [.ref 149, .ref 150, .ref 151, .ref 152, .int a])) = (clsW pn pc tok ship nn tl draft vd log trial sta says seed past (mset marks 2 ((marks 2).voy, (g1, g2, g3, g4, a), (marks 2).crew, (marks 2).laid)) K) := by
  rw [clsM_eq, show 149 = 120 + 29 from rfl, show 150 = 120 + 30 from rfl, show 151 = 120 + 31 from rfl, show 152 = 120 + 32 from rfl, show 148 = 120 + 28 from rfl, clsM_set, clsM_set, clsM_set, clsM_set, clsM_set, st0Ms2]
  rfl
set_option maxRecDepth 20000 in
theorem st0Ml2 {a : Int32} : xset (gMarks marks K) 25 (.inr (4, [.ref 153, .ref 146, .ref 148, .int a])) = gMarks (mset marks 2 ((marks 2).voy, (marks 2).seen, (marks 2).crew, a)) K := (congrArg (List.cons _) (congrArg (List.cons _) (congrArg (List.cons _) (congrArg (List.cons _) (congrArg (List.cons _) (congrArg (List.cons _) (congrArg (List.cons _) (congrArg (List.cons _) (congrArg (List.cons _) (congrArg (List.cons _) (congrArg (List.cons _) (congrArg (List.cons _) (congrArg (List.cons _) (congrArg (List.cons _) (congrArg (List.cons _) (congrArg (List.cons _) (congrArg (List.cons _) (congrArg (List.cons _) (congrArg (List.cons _) (congrArg (List.cons _) (congrArg (List.cons _) (congrArg (List.cons _) (congrArg (List.cons _) (congrArg (List.cons _) (congrArg (List.cons _) rfl)))))))))))))))))))))))))
theorem stMl2 {a : Int32} : xset ((clsW pn pc tok ship nn tl draft vd log trial sta says seed past marks K)) 145 (.inr (4, [.ref 153, .ref 146, .ref 148, .int a])) = (clsW pn pc tok ship nn tl draft vd log trial sta says seed past (mset marks 2 ((marks 2).voy, (marks 2).seen, (marks 2).crew, a)) K) := by
  rw [clsM_eq, show 145 = 120 + 25 from rfl, clsM_set, st0Ml2]
  rfl
set_option maxRecDepth 20000 in
theorem st0Mc3 {g p : Fn} {a c : Int32} : xset (xset (xset (xset (gMarks marks K) 47 (xint .int 6 g)) 48 (xint .int 6 p)) 45 (.inr (0, [.ref 3, .ref 166, .ref 167, .ref 168, .int a, .int (marks 3).crew.over]))) 45 (.inr (0, [.ref 3, .ref 166, .ref 167, .ref 168, .int a, .int c])) = gMarks (mset marks 3 ((marks 3).voy, (marks 3).seen, ((marks 3).crew.rise, g, p, a, c), (marks 3).laid)) K := (congrArg (List.cons _) (congrArg (List.cons _) (congrArg (List.cons _) (congrArg (List.cons _) (congrArg (List.cons _) (congrArg (List.cons _) (congrArg (List.cons _) (congrArg (List.cons _) (congrArg (List.cons _) (congrArg (List.cons _) (congrArg (List.cons _) (congrArg (List.cons _) (congrArg (List.cons _) (congrArg (List.cons _) (congrArg (List.cons _) (congrArg (List.cons _) (congrArg (List.cons _) (congrArg (List.cons _) (congrArg (List.cons _) (congrArg (List.cons _) (congrArg (List.cons _) (congrArg (List.cons _) (congrArg (List.cons _) (congrArg (List.cons _) (congrArg (List.cons _) (congrArg (List.cons _) (congrArg (List.cons _) (congrArg (List.cons _) (congrArg (List.cons _) (congrArg (List.cons _) (congrArg (List.cons _) (congrArg (List.cons _) (congrArg (List.cons _) (congrArg (List.cons _) (congrArg (List.cons _) (congrArg (List.cons _) (congrArg (List.cons _) rfl)))))))))))))))))))))))))))))))))))))
theorem stMc3 {g p : Fn} {a c : Int32} : xset (xset (xset (xset ((clsW pn pc tok ship nn tl draft vd log trial sta says seed past marks K)) 167 (xint .int 6 g)) 168 (xint .int 6 p)) 165 (.inr (0, [.ref 3, .ref 166, .ref 167, .ref 168, .int a, .int (marks 3).crew.over]))) 165 (.inr (0, [.ref 3, .ref 166, .ref 167, .ref 168, .int a, .int c])) = (clsW pn pc tok ship nn tl draft vd log trial sta says seed past (mset marks 3 ((marks 3).voy, (marks 3).seen, ((marks 3).crew.rise, g, p, a, c), (marks 3).laid)) K) := by
  rw [clsM_eq, show 167 = 120 + 47 from rfl, show 168 = 120 + 48 from rfl, show 165 = 120 + 45 from rfl, clsM_set, clsM_set, clsM_set, clsM_set, st0Mc3]
  rfl
set_option maxRecDepth 20000 in
theorem st0Mv3 {g : Fn} {a : Int32} : xset (xset (gMarks marks K) 39 (xint .int 40 g)) 38 (.inr (11, [.ref 159, .int a])) = gMarks (mset marks 3 ((g, a), (marks 3).seen, (marks 3).crew, (marks 3).laid)) K := (congrArg (List.cons _) (congrArg (List.cons _) (congrArg (List.cons _) (congrArg (List.cons _) (congrArg (List.cons _) (congrArg (List.cons _) (congrArg (List.cons _) (congrArg (List.cons _) (congrArg (List.cons _) (congrArg (List.cons _) (congrArg (List.cons _) (congrArg (List.cons _) (congrArg (List.cons _) (congrArg (List.cons _) (congrArg (List.cons _) (congrArg (List.cons _) (congrArg (List.cons _) (congrArg (List.cons _) (congrArg (List.cons _) (congrArg (List.cons _) (congrArg (List.cons _) (congrArg (List.cons _) (congrArg (List.cons _) (congrArg (List.cons _) (congrArg (List.cons _) (congrArg (List.cons _) (congrArg (List.cons _) (congrArg (List.cons _) (congrArg (List.cons _) (congrArg (List.cons _) (congrArg (List.cons _) (congrArg (List.cons _) (congrArg (List.cons _) (congrArg (List.cons _) (congrArg (List.cons _) (congrArg (List.cons _) (congrArg (List.cons _) rfl)))))))))))))))))))))))))))))))))))))
theorem stMv3 {g : Fn} {a : Int32} : xset (xset ((clsW pn pc tok ship nn tl draft vd log trial sta says seed past marks K)) 159 (xint .int 40 g)) 158 (.inr (11, [.ref 159, .int a])) = (clsW pn pc tok ship nn tl draft vd log trial sta says seed past (mset marks 3 ((g, a), (marks 3).seen, (marks 3).crew, (marks 3).laid)) K) := by
  rw [clsM_eq, show 159 = 120 + 39 from rfl, show 158 = 120 + 38 from rfl, clsM_set, clsM_set, st0Mv3]
  rfl
set_option maxRecDepth 20000 in
theorem st0Ms3 {g1 g2 g3 g4 : Fn} {a : Int32} : xset (xset (xset (xset (xset (gMarks marks K) 41 (xint .int 8 g1)) 42 (xint .int 8 g2)) 43 (xint .int 8 g3)) 44 (xint .int 8 g4)) 40 (.inr (5, [.ref 161, .ref 162, .ref 163, .ref 164, .int a])) = gMarks (mset marks 3 ((marks 3).voy, (g1, g2, g3, g4, a), (marks 3).crew, (marks 3).laid)) K := (congrArg (List.cons _) (congrArg (List.cons _) (congrArg (List.cons _) (congrArg (List.cons _) (congrArg (List.cons _) (congrArg (List.cons _) (congrArg (List.cons _) (congrArg (List.cons _) (congrArg (List.cons _) (congrArg (List.cons _) (congrArg (List.cons _) (congrArg (List.cons _) (congrArg (List.cons _) (congrArg (List.cons _) (congrArg (List.cons _) (congrArg (List.cons _) (congrArg (List.cons _) (congrArg (List.cons _) (congrArg (List.cons _) (congrArg (List.cons _) (congrArg (List.cons _) (congrArg (List.cons _) (congrArg (List.cons _) (congrArg (List.cons _) (congrArg (List.cons _) (congrArg (List.cons _) (congrArg (List.cons _) (congrArg (List.cons _) (congrArg (List.cons _) (congrArg (List.cons _) (congrArg (List.cons _) (congrArg (List.cons _) (congrArg (List.cons _) (congrArg (List.cons _) (congrArg (List.cons _) (congrArg (List.cons _) (congrArg (List.cons _) rfl)))))))))))))))))))))))))))))))))))))
theorem stMs3 {g1 g2 g3 g4 : Fn} {a : Int32} : xset (xset (xset (xset (xset ((clsW pn pc tok ship nn tl draft vd log trial sta says seed past marks K)) 161 (xint .int 8 g1)) 162 (xint .int 8 g2)) 163 (xint .int 8 g3)) 164 (xint .int 8 g4)) 160 (.inr (5, [.ref 161, .ref 162, .ref 163, .ref 164, .int a])) = (clsW pn pc tok ship nn tl draft vd log trial sta says seed past (mset marks 3 ((marks 3).voy, (g1, g2, g3, g4, a), (marks 3).crew, (marks 3).laid)) K) := by
  rw [clsM_eq, show 161 = 120 + 41 from rfl, show 162 = 120 + 42 from rfl, show 163 = 120 + 43 from rfl, show 164 = 120 + 44 from rfl, show 160 = 120 + 40 from rfl, clsM_set, clsM_set, clsM_set, clsM_set, clsM_set, st0Ms3]
  rfl
set_option maxRecDepth 20000 in
theorem st0Ml3 {a : Int32} : xset (gMarks marks K) 37 (.inr (4, [.ref 165, .ref 158, .ref 160, .int a])) = gMarks (mset marks 3 ((marks 3).voy, (marks 3).seen, (marks 3).crew, a)) K := (congrArg (List.cons _) (congrArg (List.cons _) (congrArg (List.cons _) (congrArg (List.cons _) (congrArg (List.cons _) (congrArg (List.cons _) (congrArg (List.cons _) (congrArg (List.cons _) (congrArg (List.cons _) (congrArg (List.cons _) (congrArg (List.cons _) (congrArg (List.cons _) (congrArg (List.cons _) (congrArg (List.cons _) (congrArg (List.cons _) (congrArg (List.cons _) (congrArg (List.cons _) (congrArg (List.cons _) (congrArg (List.cons _) (congrArg (List.cons _) (congrArg (List.cons _) (congrArg (List.cons _) (congrArg (List.cons _) (congrArg (List.cons _) (congrArg (List.cons _) (congrArg (List.cons _) (congrArg (List.cons _) (congrArg (List.cons _) (congrArg (List.cons _) (congrArg (List.cons _) (congrArg (List.cons _) (congrArg (List.cons _) (congrArg (List.cons _) (congrArg (List.cons _) (congrArg (List.cons _) (congrArg (List.cons _) (congrArg (List.cons _) rfl)))))))))))))))))))))))))))))))))))))
theorem stMl3 {a : Int32} : xset ((clsW pn pc tok ship nn tl draft vd log trial sta says seed past marks K)) 157 (.inr (4, [.ref 165, .ref 158, .ref 160, .int a])) = (clsW pn pc tok ship nn tl draft vd log trial sta says seed past (mset marks 3 ((marks 3).voy, (marks 3).seen, (marks 3).crew, a)) K) := by
  rw [clsM_eq, show 157 = 120 + 37 from rfl, clsM_set, st0Ml3]
  rfl
abbrev TVoy.cp (a o : TVoy) : TVoy := (va_cpy o.line a.line 0 0 40, o.lines)
abbrev TSeen.cp (a o : TSeen) : TSeen := (va_cpy o.man a.man 0 0 8, va_cpy o.other a.other 0 0 8, va_cpy o.watches a.watches 0 0 8, va_cpy o.greener a.greener 0 0 8, o.size)
abbrev TLog.cp (a o : TLog) : TLog := (a.voy.cp o.voy, a.seen.cp o.seen, a.crew.cp o.crew, a.laid)
theorem c_voyCopy (h : Q none (clsW pn pc tok ship nn tl draft vd (log.voy.cp vd, log.seen, log.crew, log.laid) trial sta says seed past marks K)) : XC (xF L xs) xmeths (d + 1) 73 [.ref 33, .ref 30] (clsW pn pc tok ship nn tl draft vd log trial sta says seed past marks K) Q :=
  ⟨nb rfl, xgo [] 60 ⟨nb rfl, ⟨by decide, by decide, by decide, nb rfl, nb rfl⟩, ⟨rfl, h⟩⟩⟩
set_option maxRecDepth 20000 in
theorem c_layc0 (h : Q none (clsW pn pc tok ship nn tl draft vd log trial sta says seed past (mset marks 0 ((marks 0).voy, (marks 0).seen, (marks 0).crew.cp log.crew, (marks 0).laid)) K)) : XC (xF L xs) xmeths (d + 1) 85 [.ref 129, .ref 40] (clsW pn pc tok ship nn tl draft vd log trial sta says seed past marks K) Q := by
  refine ⟨nb rfl, xgo [] 80 ⟨nb rfl, ⟨by decide, by decide, by decide, nb rfl, nb rfl⟩, nb rfl, ⟨by decide, by decide, by decide, nb rfl, nb rfl⟩, ⟨rfl, ?_⟩⟩⟩
  exact (congrArg (Q none) (stMc0 (g := cp6 log.crew.green (marks 0).crew.green) (p := cp6 log.crew.place (marks 0).crew.place) (a := log.crew.sucked) (c := log.crew.over))).mpr h
set_option maxRecDepth 20000 in
theorem c_layv0 (h : Q none (clsW pn pc tok ship nn tl draft vd log trial sta says seed past (mset marks 0 ((marks 0).voy.cp log.voy, (marks 0).seen, (marks 0).crew, (marks 0).laid)) K)) : XC (xF L xs) xmeths (d + 1) 73 [.ref 122, .ref 33] (clsW pn pc tok ship nn tl draft vd log trial sta says seed past marks K) Q := by
  refine ⟨nb rfl, xgo [] 80 ⟨nb rfl, ⟨by decide, by decide, by decide, nb rfl, nb rfl⟩, ⟨rfl, ?_⟩⟩⟩
  exact (congrArg (Q none) (stMv0 (g := va_cpy log.voy.line (marks 0).voy.line 0 0 40) (a := log.voy.lines))).mpr h
set_option maxRecDepth 20000 in
theorem c_lays0 (h : Q none (clsW pn pc tok ship nn tl draft vd log trial sta says seed past (mset marks 0 ((marks 0).voy, (marks 0).seen.cp log.seen, (marks 0).crew, (marks 0).laid)) K)) : XC (xF L xs) xmeths (d + 1) 161 [.ref 124, .ref 35] (clsW pn pc tok ship nn tl draft vd log trial sta says seed past marks K) Q := by
  refine ⟨nb rfl, xgo [] 80 ⟨nb rfl, ⟨by decide, by decide, by decide, nb rfl, nb rfl⟩, nb rfl, ⟨by decide, by decide, by decide, nb rfl, nb rfl⟩, nb rfl, ⟨by decide, by decide, by decide, nb rfl, nb rfl⟩, nb rfl, ⟨by decide, by decide, by decide, nb rfl, nb rfl⟩, ⟨rfl, ?_⟩⟩⟩
  exact (congrArg (Q none) (stMs0 (g1 := va_cpy log.seen.man (marks 0).seen.man 0 0 8) (g2 := va_cpy log.seen.other (marks 0).seen.other 0 0 8) (g3 := va_cpy log.seen.watches (marks 0).seen.watches 0 0 8) (g4 := va_cpy log.seen.greener (marks 0).seen.greener 0 0 8) (a := log.seen.size))).mpr h
set_option maxRecDepth 20000 in
theorem c_backc0 (h : Q none (clsW pn pc tok ship nn tl draft vd (log.voy, log.seen, log.crew.cp (marks 0).crew, log.laid) trial sta says seed past marks K)) : XC (xF L xs) xmeths (d + 1) 85 [.ref 40, .ref 129] (clsW pn pc tok ship nn tl draft vd log trial sta says seed past marks K) Q := by
  refine ⟨nb rfl, xgo [] 80 ⟨nb rfl, ⟨by decide, by decide, by decide, nb rfl, nb rfl⟩, nb rfl, ⟨by decide, by decide, by decide, nb rfl, nb rfl⟩, ⟨rfl, ?_⟩⟩⟩
  exact h
set_option maxRecDepth 20000 in
theorem c_backv0 (h : Q none (clsW pn pc tok ship nn tl draft vd (log.voy.cp (marks 0).voy, log.seen, log.crew, log.laid) trial sta says seed past marks K)) : XC (xF L xs) xmeths (d + 1) 73 [.ref 33, .ref 122] (clsW pn pc tok ship nn tl draft vd log trial sta says seed past marks K) Q := by
  refine ⟨nb rfl, xgo [] 80 ⟨nb rfl, ⟨by decide, by decide, by decide, nb rfl, nb rfl⟩, ⟨rfl, ?_⟩⟩⟩
  exact h
set_option maxRecDepth 20000 in
theorem c_backs0 (h : Q none (clsW pn pc tok ship nn tl draft vd (log.voy, log.seen.cp (marks 0).seen, log.crew, log.laid) trial sta says seed past marks K)) : XC (xF L xs) xmeths (d + 1) 161 [.ref 35, .ref 124] (clsW pn pc tok ship nn tl draft vd log trial sta says seed past marks K) Q := by
  refine ⟨nb rfl, xgo [] 80 ⟨nb rfl, ⟨by decide, by decide, by decide, nb rfl, nb rfl⟩, nb rfl, ⟨by decide, by decide, by decide, nb rfl, nb rfl⟩, nb rfl, ⟨by decide, by decide, by decide, nb rfl, nb rfl⟩, nb rfl, ⟨by decide, by decide, by decide, nb rfl, nb rfl⟩, ⟨rfl, ?_⟩⟩⟩
  exact h
theorem c_layLog0 (h : Q none (clsW pn pc tok ship nn tl draft vd log trial sta says seed past (mset marks 0 ((marks 0).cp log)) K)) : XC (xF L xs) xmeths (d + 2) 160 [.ref 121, .ref 32] (clsW pn pc tok ship nn tl draft vd log trial sta says seed past marks K) Q := by
  refine ⟨nb rfl, xgo [] 40 ⟨rfl, nb rfl, c_layc0 ⟨rfl, nb rfl, c_layv0 ⟨rfl, nb rfl, c_lays0 ⟨rfl, ?_⟩⟩⟩⟩⟩
  have e : mset (mset (mset marks 0 ((marks 0).voy, (marks 0).seen, (marks 0).crew.cp log.crew, (marks 0).laid)) 0 ((marks 0).voy.cp log.voy, (marks 0).seen, (marks 0).crew.cp log.crew, (marks 0).laid)) 0 ((marks 0).voy.cp log.voy, (marks 0).seen.cp log.seen, (marks 0).crew.cp log.crew, (marks 0).laid) = mset marks 0 ((marks 0).cp log) := by
    funext j
    simp only [mset]
    split <;> rfl
  rw [← e] at h
  exact h
theorem c_backLog0 (h : Q none (clsW pn pc tok ship nn tl draft vd (log.cp (marks 0)) trial sta says seed past marks K)) : XC (xF L xs) xmeths (d + 2) 160 [.ref 32, .ref 121] (clsW pn pc tok ship nn tl draft vd log trial sta says seed past marks K) Q := by
  exact ⟨nb rfl, xgo [] 40 ⟨rfl, nb rfl, c_backc0 ⟨rfl, nb rfl, c_backv0 ⟨rfl, nb rfl, c_backs0 ⟨rfl, h⟩⟩⟩⟩⟩
set_option maxRecDepth 20000 in
theorem c_layc1 (h : Q none (clsW pn pc tok ship nn tl draft vd log trial sta says seed past (mset marks 1 ((marks 1).voy, (marks 1).seen, (marks 1).crew.cp log.crew, (marks 1).laid)) K)) : XC (xF L xs) xmeths (d + 1) 85 [.ref 141, .ref 40] (clsW pn pc tok ship nn tl draft vd log trial sta says seed past marks K) Q := by
  refine ⟨nb rfl, xgo [] 80 ⟨nb rfl, ⟨by decide, by decide, by decide, nb rfl, nb rfl⟩, nb rfl, ⟨by decide, by decide, by decide, nb rfl, nb rfl⟩, ⟨rfl, ?_⟩⟩⟩
  exact (congrArg (Q none) (stMc1 (g := cp6 log.crew.green (marks 1).crew.green) (p := cp6 log.crew.place (marks 1).crew.place) (a := log.crew.sucked) (c := log.crew.over))).mpr h
set_option maxRecDepth 20000 in
theorem c_layv1 (h : Q none (clsW pn pc tok ship nn tl draft vd log trial sta says seed past (mset marks 1 ((marks 1).voy.cp log.voy, (marks 1).seen, (marks 1).crew, (marks 1).laid)) K)) : XC (xF L xs) xmeths (d + 1) 73 [.ref 134, .ref 33] (clsW pn pc tok ship nn tl draft vd log trial sta says seed past marks K) Q := by
  refine ⟨nb rfl, xgo [] 80 ⟨nb rfl, ⟨by decide, by decide, by decide, nb rfl, nb rfl⟩, ⟨rfl, ?_⟩⟩⟩
  exact (congrArg (Q none) (stMv1 (g := va_cpy log.voy.line (marks 1).voy.line 0 0 40) (a := log.voy.lines))).mpr h
set_option maxRecDepth 20000 in
theorem c_lays1 (h : Q none (clsW pn pc tok ship nn tl draft vd log trial sta says seed past (mset marks 1 ((marks 1).voy, (marks 1).seen.cp log.seen, (marks 1).crew, (marks 1).laid)) K)) : XC (xF L xs) xmeths (d + 1) 161 [.ref 136, .ref 35] (clsW pn pc tok ship nn tl draft vd log trial sta says seed past marks K) Q := by
  refine ⟨nb rfl, xgo [] 80 ⟨nb rfl, ⟨by decide, by decide, by decide, nb rfl, nb rfl⟩, nb rfl, ⟨by decide, by decide, by decide, nb rfl, nb rfl⟩, nb rfl, ⟨by decide, by decide, by decide, nb rfl, nb rfl⟩, nb rfl, ⟨by decide, by decide, by decide, nb rfl, nb rfl⟩, ⟨rfl, ?_⟩⟩⟩
  exact (congrArg (Q none) (stMs1 (g1 := va_cpy log.seen.man (marks 1).seen.man 0 0 8) (g2 := va_cpy log.seen.other (marks 1).seen.other 0 0 8) (g3 := va_cpy log.seen.watches (marks 1).seen.watches 0 0 8) (g4 := va_cpy log.seen.greener (marks 1).seen.greener 0 0 8) (a := log.seen.size))).mpr h
set_option maxRecDepth 20000 in
theorem c_backc1 (h : Q none (clsW pn pc tok ship nn tl draft vd (log.voy, log.seen, log.crew.cp (marks 1).crew, log.laid) trial sta says seed past marks K)) : XC (xF L xs) xmeths (d + 1) 85 [.ref 40, .ref 141] (clsW pn pc tok ship nn tl draft vd log trial sta says seed past marks K) Q := by
  refine ⟨nb rfl, xgo [] 80 ⟨nb rfl, ⟨by decide, by decide, by decide, nb rfl, nb rfl⟩, nb rfl, ⟨by decide, by decide, by decide, nb rfl, nb rfl⟩, ⟨rfl, ?_⟩⟩⟩
  exact h
set_option maxRecDepth 20000 in
theorem c_backv1 (h : Q none (clsW pn pc tok ship nn tl draft vd (log.voy.cp (marks 1).voy, log.seen, log.crew, log.laid) trial sta says seed past marks K)) : XC (xF L xs) xmeths (d + 1) 73 [.ref 33, .ref 134] (clsW pn pc tok ship nn tl draft vd log trial sta says seed past marks K) Q := by
  refine ⟨nb rfl, xgo [] 80 ⟨nb rfl, ⟨by decide, by decide, by decide, nb rfl, nb rfl⟩, ⟨rfl, ?_⟩⟩⟩
  exact h
set_option maxRecDepth 20000 in
theorem c_backs1 (h : Q none (clsW pn pc tok ship nn tl draft vd (log.voy, log.seen.cp (marks 1).seen, log.crew, log.laid) trial sta says seed past marks K)) : XC (xF L xs) xmeths (d + 1) 161 [.ref 35, .ref 136] (clsW pn pc tok ship nn tl draft vd log trial sta says seed past marks K) Q := by
  refine ⟨nb rfl, xgo [] 80 ⟨nb rfl, ⟨by decide, by decide, by decide, nb rfl, nb rfl⟩, nb rfl, ⟨by decide, by decide, by decide, nb rfl, nb rfl⟩, nb rfl, ⟨by decide, by decide, by decide, nb rfl, nb rfl⟩, nb rfl, ⟨by decide, by decide, by decide, nb rfl, nb rfl⟩, ⟨rfl, ?_⟩⟩⟩
  exact h
theorem c_layLog1 (h : Q none (clsW pn pc tok ship nn tl draft vd log trial sta says seed past (mset marks 1 ((marks 1).cp log)) K)) : XC (xF L xs) xmeths (d + 2) 160 [.ref 133, .ref 32] (clsW pn pc tok ship nn tl draft vd log trial sta says seed past marks K) Q := by
  refine ⟨nb rfl, xgo [] 40 ⟨rfl, nb rfl, c_layc1 ⟨rfl, nb rfl, c_layv1 ⟨rfl, nb rfl, c_lays1 ⟨rfl, ?_⟩⟩⟩⟩⟩
  have e : mset (mset (mset marks 1 ((marks 1).voy, (marks 1).seen, (marks 1).crew.cp log.crew, (marks 1).laid)) 1 ((marks 1).voy.cp log.voy, (marks 1).seen, (marks 1).crew.cp log.crew, (marks 1).laid)) 1 ((marks 1).voy.cp log.voy, (marks 1).seen.cp log.seen, (marks 1).crew.cp log.crew, (marks 1).laid) = mset marks 1 ((marks 1).cp log) := by
    funext j
    simp only [mset]
    split <;> rfl
  rw [← e] at h
  exact h
theorem c_backLog1 (h : Q none (clsW pn pc tok ship nn tl draft vd (log.cp (marks 1)) trial sta says seed past marks K)) : XC (xF L xs) xmeths (d + 2) 160 [.ref 32, .ref 133] (clsW pn pc tok ship nn tl draft vd log trial sta says seed past marks K) Q := by
  exact ⟨nb rfl, xgo [] 40 ⟨rfl, nb rfl, c_backc1 ⟨rfl, nb rfl, c_backv1 ⟨rfl, nb rfl, c_backs1 ⟨rfl, h⟩⟩⟩⟩⟩
set_option maxRecDepth 20000 in
theorem c_layc2 (h : Q none (clsW pn pc tok ship nn tl draft vd log trial sta says seed past (mset marks 2 ((marks 2).voy, (marks 2).seen, (marks 2).crew.cp log.crew, (marks 2).laid)) K)) : XC (xF L xs) xmeths (d + 1) 85 [.ref 153, .ref 40] (clsW pn pc tok ship nn tl draft vd log trial sta says seed past marks K) Q := by
  refine ⟨nb rfl, xgo [] 80 ⟨nb rfl, ⟨by decide, by decide, by decide, nb rfl, nb rfl⟩, nb rfl, ⟨by decide, by decide, by decide, nb rfl, nb rfl⟩, ⟨rfl, ?_⟩⟩⟩
  exact (congrArg (Q none) (stMc2 (g := cp6 log.crew.green (marks 2).crew.green) (p := cp6 log.crew.place (marks 2).crew.place) (a := log.crew.sucked) (c := log.crew.over))).mpr h
set_option maxRecDepth 20000 in
theorem c_layv2 (h : Q none (clsW pn pc tok ship nn tl draft vd log trial sta says seed past (mset marks 2 ((marks 2).voy.cp log.voy, (marks 2).seen, (marks 2).crew, (marks 2).laid)) K)) : XC (xF L xs) xmeths (d + 1) 73 [.ref 146, .ref 33] (clsW pn pc tok ship nn tl draft vd log trial sta says seed past marks K) Q := by
  refine ⟨nb rfl, xgo [] 80 ⟨nb rfl, ⟨by decide, by decide, by decide, nb rfl, nb rfl⟩, ⟨rfl, ?_⟩⟩⟩
  exact (congrArg (Q none) (stMv2 (g := va_cpy log.voy.line (marks 2).voy.line 0 0 40) (a := log.voy.lines))).mpr h
set_option maxRecDepth 20000 in
theorem c_lays2 (h : Q none (clsW pn pc tok ship nn tl draft vd log trial sta says seed past (mset marks 2 ((marks 2).voy, (marks 2).seen.cp log.seen, (marks 2).crew, (marks 2).laid)) K)) : XC (xF L xs) xmeths (d + 1) 161 [.ref 148, .ref 35] (clsW pn pc tok ship nn tl draft vd log trial sta says seed past marks K) Q := by
  refine ⟨nb rfl, xgo [] 80 ⟨nb rfl, ⟨by decide, by decide, by decide, nb rfl, nb rfl⟩, nb rfl, ⟨by decide, by decide, by decide, nb rfl, nb rfl⟩, nb rfl, ⟨by decide, by decide, by decide, nb rfl, nb rfl⟩, nb rfl, ⟨by decide, by decide, by decide, nb rfl, nb rfl⟩, ⟨rfl, ?_⟩⟩⟩
  exact (congrArg (Q none) (stMs2 (g1 := va_cpy log.seen.man (marks 2).seen.man 0 0 8) (g2 := va_cpy log.seen.other (marks 2).seen.other 0 0 8) (g3 := va_cpy log.seen.watches (marks 2).seen.watches 0 0 8) (g4 := va_cpy log.seen.greener (marks 2).seen.greener 0 0 8) (a := log.seen.size))).mpr h
set_option maxRecDepth 20000 in
theorem c_backc2 (h : Q none (clsW pn pc tok ship nn tl draft vd (log.voy, log.seen, log.crew.cp (marks 2).crew, log.laid) trial sta says seed past marks K)) : XC (xF L xs) xmeths (d + 1) 85 [.ref 40, .ref 153] (clsW pn pc tok ship nn tl draft vd log trial sta says seed past marks K) Q := by
  refine ⟨nb rfl, xgo [] 80 ⟨nb rfl, ⟨by decide, by decide, by decide, nb rfl, nb rfl⟩, nb rfl, ⟨by decide, by decide, by decide, nb rfl, nb rfl⟩, ⟨rfl, ?_⟩⟩⟩
  exact h
set_option maxRecDepth 20000 in
theorem c_backv2 (h : Q none (clsW pn pc tok ship nn tl draft vd (log.voy.cp (marks 2).voy, log.seen, log.crew, log.laid) trial sta says seed past marks K)) : XC (xF L xs) xmeths (d + 1) 73 [.ref 33, .ref 146] (clsW pn pc tok ship nn tl draft vd log trial sta says seed past marks K) Q := by
  refine ⟨nb rfl, xgo [] 80 ⟨nb rfl, ⟨by decide, by decide, by decide, nb rfl, nb rfl⟩, ⟨rfl, ?_⟩⟩⟩
  exact h
set_option maxRecDepth 20000 in
theorem c_backs2 (h : Q none (clsW pn pc tok ship nn tl draft vd (log.voy, log.seen.cp (marks 2).seen, log.crew, log.laid) trial sta says seed past marks K)) : XC (xF L xs) xmeths (d + 1) 161 [.ref 35, .ref 148] (clsW pn pc tok ship nn tl draft vd log trial sta says seed past marks K) Q := by
  refine ⟨nb rfl, xgo [] 80 ⟨nb rfl, ⟨by decide, by decide, by decide, nb rfl, nb rfl⟩, nb rfl, ⟨by decide, by decide, by decide, nb rfl, nb rfl⟩, nb rfl, ⟨by decide, by decide, by decide, nb rfl, nb rfl⟩, nb rfl, ⟨by decide, by decide, by decide, nb rfl, nb rfl⟩, ⟨rfl, ?_⟩⟩⟩
  exact h
theorem c_layLog2 (h : Q none (clsW pn pc tok ship nn tl draft vd log trial sta says seed past (mset marks 2 ((marks 2).cp log)) K)) : XC (xF L xs) xmeths (d + 2) 160 [.ref 145, .ref 32] (clsW pn pc tok ship nn tl draft vd log trial sta says seed past marks K) Q := by
  refine ⟨nb rfl, xgo [] 40 ⟨rfl, nb rfl, c_layc2 ⟨rfl, nb rfl, c_layv2 ⟨rfl, nb rfl, c_lays2 ⟨rfl, ?_⟩⟩⟩⟩⟩
  have e : mset (mset (mset marks 2 ((marks 2).voy, (marks 2).seen, (marks 2).crew.cp log.crew, (marks 2).laid)) 2 ((marks 2).voy.cp log.voy, (marks 2).seen, (marks 2).crew.cp log.crew, (marks 2).laid)) 2 ((marks 2).voy.cp log.voy, (marks 2).seen.cp log.seen, (marks 2).crew.cp log.crew, (marks 2).laid) = mset marks 2 ((marks 2).cp log) := by
    funext j
    simp only [mset]
    split <;> rfl
  rw [← e] at h
  exact h
theorem c_backLog2 (h : Q none (clsW pn pc tok ship nn tl draft vd (log.cp (marks 2)) trial sta says seed past marks K)) : XC (xF L xs) xmeths (d + 2) 160 [.ref 32, .ref 145] (clsW pn pc tok ship nn tl draft vd log trial sta says seed past marks K) Q := by
  exact ⟨nb rfl, xgo [] 40 ⟨rfl, nb rfl, c_backc2 ⟨rfl, nb rfl, c_backv2 ⟨rfl, nb rfl, c_backs2 ⟨rfl, h⟩⟩⟩⟩⟩
set_option maxRecDepth 20000 in
theorem c_layc3 (h : Q none (clsW pn pc tok ship nn tl draft vd log trial sta says seed past (mset marks 3 ((marks 3).voy, (marks 3).seen, (marks 3).crew.cp log.crew, (marks 3).laid)) K)) : XC (xF L xs) xmeths (d + 1) 85 [.ref 165, .ref 40] (clsW pn pc tok ship nn tl draft vd log trial sta says seed past marks K) Q := by
  refine ⟨nb rfl, xgo [] 80 ⟨nb rfl, ⟨by decide, by decide, by decide, nb rfl, nb rfl⟩, nb rfl, ⟨by decide, by decide, by decide, nb rfl, nb rfl⟩, ⟨rfl, ?_⟩⟩⟩
  exact (congrArg (Q none) (stMc3 (g := cp6 log.crew.green (marks 3).crew.green) (p := cp6 log.crew.place (marks 3).crew.place) (a := log.crew.sucked) (c := log.crew.over))).mpr h
set_option maxRecDepth 20000 in
theorem c_layv3 (h : Q none (clsW pn pc tok ship nn tl draft vd log trial sta says seed past (mset marks 3 ((marks 3).voy.cp log.voy, (marks 3).seen, (marks 3).crew, (marks 3).laid)) K)) : XC (xF L xs) xmeths (d + 1) 73 [.ref 158, .ref 33] (clsW pn pc tok ship nn tl draft vd log trial sta says seed past marks K) Q := by
  refine ⟨nb rfl, xgo [] 80 ⟨nb rfl, ⟨by decide, by decide, by decide, nb rfl, nb rfl⟩, ⟨rfl, ?_⟩⟩⟩
  exact (congrArg (Q none) (stMv3 (g := va_cpy log.voy.line (marks 3).voy.line 0 0 40) (a := log.voy.lines))).mpr h
set_option maxRecDepth 20000 in
theorem c_lays3 (h : Q none (clsW pn pc tok ship nn tl draft vd log trial sta says seed past (mset marks 3 ((marks 3).voy, (marks 3).seen.cp log.seen, (marks 3).crew, (marks 3).laid)) K)) : XC (xF L xs) xmeths (d + 1) 161 [.ref 160, .ref 35] (clsW pn pc tok ship nn tl draft vd log trial sta says seed past marks K) Q := by
  refine ⟨nb rfl, xgo [] 80 ⟨nb rfl, ⟨by decide, by decide, by decide, nb rfl, nb rfl⟩, nb rfl, ⟨by decide, by decide, by decide, nb rfl, nb rfl⟩, nb rfl, ⟨by decide, by decide, by decide, nb rfl, nb rfl⟩, nb rfl, ⟨by decide, by decide, by decide, nb rfl, nb rfl⟩, ⟨rfl, ?_⟩⟩⟩
  exact (congrArg (Q none) (stMs3 (g1 := va_cpy log.seen.man (marks 3).seen.man 0 0 8) (g2 := va_cpy log.seen.other (marks 3).seen.other 0 0 8) (g3 := va_cpy log.seen.watches (marks 3).seen.watches 0 0 8) (g4 := va_cpy log.seen.greener (marks 3).seen.greener 0 0 8) (a := log.seen.size))).mpr h
set_option maxRecDepth 20000 in
theorem c_backc3 (h : Q none (clsW pn pc tok ship nn tl draft vd (log.voy, log.seen, log.crew.cp (marks 3).crew, log.laid) trial sta says seed past marks K)) : XC (xF L xs) xmeths (d + 1) 85 [.ref 40, .ref 165] (clsW pn pc tok ship nn tl draft vd log trial sta says seed past marks K) Q := by
  refine ⟨nb rfl, xgo [] 80 ⟨nb rfl, ⟨by decide, by decide, by decide, nb rfl, nb rfl⟩, nb rfl, ⟨by decide, by decide, by decide, nb rfl, nb rfl⟩, ⟨rfl, ?_⟩⟩⟩
  exact h
set_option maxRecDepth 20000 in
theorem c_backv3 (h : Q none (clsW pn pc tok ship nn tl draft vd (log.voy.cp (marks 3).voy, log.seen, log.crew, log.laid) trial sta says seed past marks K)) : XC (xF L xs) xmeths (d + 1) 73 [.ref 33, .ref 158] (clsW pn pc tok ship nn tl draft vd log trial sta says seed past marks K) Q := by
  refine ⟨nb rfl, xgo [] 80 ⟨nb rfl, ⟨by decide, by decide, by decide, nb rfl, nb rfl⟩, ⟨rfl, ?_⟩⟩⟩
  exact h
set_option maxRecDepth 20000 in
theorem c_backs3 (h : Q none (clsW pn pc tok ship nn tl draft vd (log.voy, log.seen.cp (marks 3).seen, log.crew, log.laid) trial sta says seed past marks K)) : XC (xF L xs) xmeths (d + 1) 161 [.ref 35, .ref 160] (clsW pn pc tok ship nn tl draft vd log trial sta says seed past marks K) Q := by
  refine ⟨nb rfl, xgo [] 80 ⟨nb rfl, ⟨by decide, by decide, by decide, nb rfl, nb rfl⟩, nb rfl, ⟨by decide, by decide, by decide, nb rfl, nb rfl⟩, nb rfl, ⟨by decide, by decide, by decide, nb rfl, nb rfl⟩, nb rfl, ⟨by decide, by decide, by decide, nb rfl, nb rfl⟩, ⟨rfl, ?_⟩⟩⟩
  exact h
theorem c_layLog3 (h : Q none (clsW pn pc tok ship nn tl draft vd log trial sta says seed past (mset marks 3 ((marks 3).cp log)) K)) : XC (xF L xs) xmeths (d + 2) 160 [.ref 157, .ref 32] (clsW pn pc tok ship nn tl draft vd log trial sta says seed past marks K) Q := by
  refine ⟨nb rfl, xgo [] 40 ⟨rfl, nb rfl, c_layc3 ⟨rfl, nb rfl, c_layv3 ⟨rfl, nb rfl, c_lays3 ⟨rfl, ?_⟩⟩⟩⟩⟩
  have e : mset (mset (mset marks 3 ((marks 3).voy, (marks 3).seen, (marks 3).crew.cp log.crew, (marks 3).laid)) 3 ((marks 3).voy.cp log.voy, (marks 3).seen, (marks 3).crew.cp log.crew, (marks 3).laid)) 3 ((marks 3).voy.cp log.voy, (marks 3).seen.cp log.seen, (marks 3).crew.cp log.crew, (marks 3).laid) = mset marks 3 ((marks 3).cp log) := by
    funext j
    simp only [mset]
    split <;> rfl
  rw [← e] at h
  exact h
theorem c_backLog3 (h : Q none (clsW pn pc tok ship nn tl draft vd (log.cp (marks 3)) trial sta says seed past marks K)) : XC (xF L xs) xmeths (d + 2) 160 [.ref 32, .ref 157] (clsW pn pc tok ship nn tl draft vd log trial sta says seed past marks K) Q := by
  exact ⟨nb rfl, xgo [] 40 ⟨rfl, nb rfl, c_backc3 ⟨rfl, nb rfl, c_backv3 ⟨rfl, nb rfl, c_backs3 ⟨rfl, h⟩⟩⟩⟩⟩
end XCM
