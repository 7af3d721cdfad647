/-! plain helpers, and the smallest methods -/
def b2i (p : Prop) [Decidable p] : Int32 := if p then 1 else 0
theorem b2i_t {p : Prop} [Decidable p] (h : p) : b2i p = 1 := if_pos h
theorem b2i_f {p : Prop} [Decidable p] (h : ¬ p) : b2i p = 0 := if_neg h
theorem nb {a b : Nat} (h : Nat.ble a b = true) : a ≤ b := Nat.le_of_ble_eq_true h
/-- behind a test: ifeq, ifne on a boolean -/
theorem vB0 {p : Prop} [Decidable p] {A B : Prop} (f : ¬ p → A) (g : p → B) : (xcnd .eq (b2i p) 0 → A) ∧ (¬ xcnd .eq (b2i p) 0 → B) := by
  by_cases h : p
  · rw [b2i_t h]; exact ⟨fun e => absurd (show (1 : Int32) = 0 from e) (by decide), fun _ => g h⟩
  · rw [b2i_f h]; exact ⟨fun _ => f h, fun e => absurd rfl e⟩
theorem vB1 {p : Prop} [Decidable p] {A B : Prop} (f : p → A) (g : ¬ p → B) : (xcnd .ne (b2i p) 0 → A) ∧ (¬ xcnd .ne (b2i p) 0 → B) := by
  by_cases h : p
  · rw [b2i_t h]; exact ⟨fun _ => f h, fun e => absurd (show ¬ (1 : Int32) = 0 by decide) e⟩
  · rw [b2i_f h]; exact ⟨fun e => absurd rfl e, fun _ => g h⟩
theorem vT {c A B : Prop} (h : c) (a : A) : (c → A) ∧ (¬ c → B) := ⟨fun _ => a, fun n => absurd h n⟩
theorem vF {c A B : Prop} (h : ¬ c) (b : B) : (c → A) ∧ (¬ c → B) := ⟨fun n => absurd n h, fun _ => b⟩
/-- a boolean answer -/
theorem vR {p : Prop} [Decidable p] {Q : XQt} {w : XWd} (h : Q (some (.int (b2i p))) w) : (p → Q (some (.int 1)) w) ∧ (¬ p → Q (some (.int 0)) w) := ⟨fun q => b2i_t q ▸ h, fun q => b2i_f q ▸ h⟩
abbrev xF (L : Nat) (xs : Nat → Int32) : XF := (L, xs, xbyts, xtys)
abbrev oi (x : Int32) : Option Value := some (.int x)
abbrev ol (x : Int64) : Option Value := some (.long x)
abbrev orf (x : Nat) : Option Value := some (.ref x)
abbrev TLog.wcrew (l : TLog) (c : TCrew) : TLog := (l.voy, l.seen, c, l.laid)
abbrev TShip.wlaw (s : TShip) (l : TLaw) : TShip := (s.kind, s.green, s.hands, s.manName, s.spray, s.holds, s.postName, s.sea, l, s.men, s.posts, s.seas, s.shade, s.lemon, s.harbour)
/-- Math's max and min -/
abbrev mx (x y : Int32) : Int32 := if x < y then y else x
abbrev mn (x y : Int32) : Int32 := if y < x then y else x
abbrev ab (x : Int32) : Int32 := if 0 ≤ x then x else 0 - x
/-- bit k -/
abbrev bit (x k : Int32) : Prop := (x >>> (k &&& 31)) &&& 1 = 1
theorem inI {x : Int32} {n : Nat} (hn : n < 2 ^ 31) (h : 0 ≤ x ∧ x < nI n) : ∃ k, k < n ∧ x = nI k := by
  rcases pk_ix x hn with q | q | q
  · exact absurd q (Int32.not_lt.mpr h.1)
  · exact absurd h.2 (Int32.not_lt.mpr q)
  · exact q
section XB1
variable {L : Nat} {xs : Nat → Int32} {d : Nat} {Q : XQt} {pn pc : Int32} {tok : TTok} {ship : TShip} {nn : Int64} {tl : Int32} {draft : TShip} {vd : TVoy} {log : TLog} {trial : TCrew} {sta : TSta} {says : Fn} {seed : Int64} {past : Nat → TCrew} {marks : Nat → TLog} {mi : TMi} {ma : TMa} {mb : TMb} {K : XWd}
theorem c_isMan {man : Int32} (h : Q (some (.int (b2i (0 ≤ man ∧ man < ship.men)))) (clsW pn pc tok ship nn tl draft vd log trial sta says seed past marks K)) : XC (xF L xs) xmeths (d + 1) 75 [.ref 3, .int man] (clsW pn pc tok ship nn tl draft vd log trial sta says seed past marks K) Q := by
  refine ⟨nb rfl, xgo [] 20 ?_⟩
  have h := vR h
  refine And.intro (fun e => ?_) (fun e => ?_)
  · exact ⟨rfl, h.2 (fun q => absurd e (Int32.not_lt.mpr q.1))⟩
  · refine And.intro (fun e2 => ?_) (fun e2 => ?_)
    · exact ⟨rfl, h.2 (fun q => absurd q.2 (Int32.not_lt.mpr e2))⟩
    · exact ⟨rfl, h.1 ⟨Int32.not_lt.mp e, Int32.not_le.mp e2⟩⟩
theorem c_isPost {man : Int32} (h : Q (some (.int (b2i (0 ≤ man ∧ man < ship.posts)))) (clsW pn pc tok ship nn tl draft vd log trial sta says seed past marks K)) : XC (xF L xs) xmeths (d + 1) 79 [.ref 3, .int man] (clsW pn pc tok ship nn tl draft vd log trial sta says seed past marks K) Q := by
  refine ⟨nb rfl, xgo [] 20 ?_⟩
  have h := vR h
  refine And.intro (fun e => ?_) (fun e => ?_)
  · exact ⟨rfl, h.2 (fun q => absurd e (Int32.not_lt.mpr q.1))⟩
  · refine And.intro (fun e2 => ?_) (fun e2 => ?_)
    · exact ⟨rfl, h.2 (fun q => absurd q.2 (Int32.not_lt.mpr e2))⟩
    · exact ⟨rfl, h.1 ⟨Int32.not_lt.mp e, Int32.not_le.mp e2⟩⟩
theorem c_isPair {man other : Int32} (h : Q (some (.int (b2i ((0 ≤ man ∧ man < ship.men) ∧ (0 ≤ other ∧ other < ship.men) ∧ ¬ man = other)))) (clsW pn pc tok ship nn tl draft vd log trial sta says seed past marks K)) : XC (xF L xs) xmeths (d + 2) 122 [.ref 3, .int man, .int other] (clsW pn pc tok ship nn tl draft vd log trial sta says seed past marks K) Q := by
  refine ⟨nb rfl, xgo [] 30 ?_⟩
  have h := vR h
  refine ⟨rfl, nb rfl, c_isMan ?_⟩
  refine vB0 (fun e => ?_) (fun e => ?_)
  · exact ⟨rfl, h.2 (fun q => e q.1)⟩
  · refine ⟨rfl, nb rfl, c_isMan ?_⟩
    refine vB0 (fun e2 => ?_) (fun e2 => ?_)
    · exact ⟨rfl, h.2 (fun q => e2 q.2.1)⟩
    · refine And.intro (fun e3 => ?_) (fun e3 => ?_)
      · exact ⟨rfl, h.2 (fun q => q.2.2 e3)⟩
      · exact ⟨rfl, h.1 ⟨e, e2, e3⟩⟩
theorem c_isWithin {w : XWd} {x a b : Int32} (h : Q (some (.int (b2i (a ≤ x ∧ x ≤ b)))) w) : XC (xF L xs) xmeths (d + 1) 49 [.int x, .int a, .int b] w Q := by
  refine ⟨nb rfl, xgo [] 20 ?_⟩
  have h := vR h
  refine And.intro (fun e => ?_) (fun e => ?_)
  · exact ⟨rfl, h.2 (fun q => absurd e (Int32.not_lt.mpr q.1))⟩
  · refine And.intro (fun e2 => ?_) (fun e2 => ?_)
    · exact ⟨rfl, h.2 (fun q => absurd e2 (Int32.not_lt.mpr q.2))⟩
    · exact ⟨rfl, h.1 ⟨Int32.not_lt.mp e, Int32.not_lt.mp e2⟩⟩
end XB1
