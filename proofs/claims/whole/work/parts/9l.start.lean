/-! what the constructors make -/
def lsb {α : Type} (e : α → α → Bool) : List (Nat × α) → List (Nat × α) → Bool
  | [], [] => true
  | a :: x, b :: y => decide (a.1 = b.1) && e a.2 b.2 && lsb e x y
  | _, _ => false
theorem lsb_eq {α : Type} {e : α → α → Bool} (he : ∀ a b, e a b = true → a = b) : ∀ (x y : List (Nat × α)), lsb e x y = true → x = y
  | [], [], _ => rfl
  | (a, a') :: x, (b, b') :: y, h => by
    simp only [lsb, Bool.and_eq_true, decide_eq_true_eq] at h
    obtain ⟨⟨h1, h2⟩, h3⟩ := h
    rw [h1, he _ _ h2, lsb_eq he x y h3]
  | [], _ :: _, h => by cases h
  | _ :: _, [], h => by cases h
def i3b (a b : Int32) : Bool := decide (a = b)
theorem i3b_eq (a b : Int32) (h : i3b a b = true) : a = b := of_decide_eq_true h
def nb_ (a b : Nat) : Bool := decide (a = b)
theorem nb_eq (a b : Nat) (h : nb_ a b = true) : a = b := of_decide_eq_true h
def fbb : Option Int32 → Option Int32 → Bool
  | none, none => true
  | some a, some b => i3b a b
  | _, _ => false
theorem fbb_eq : ∀ (a b : Option Int32), fbb a b = true → a = b
  | none, none, _ => rfl
  | some a, some b, h => by rw [i3b_eq a b h]
  | none, some _, h => by cases h
  | some _, none, h => by cases h
def vlb : List Value → List Value → Bool
  | [], [] => true
  | a :: x, b :: y => decide (a = b) && vlb x y
  | _, _ => false
theorem vlb_eq : ∀ (x y : List Value), vlb x y = true → x = y
  | [], [], _ => rfl
  | a :: x, b :: y, h => by
    simp only [vlb, Bool.and_eq_true, decide_eq_true_eq] at h
    rw [h.1, vlb_eq x y h.2]
  | [], _ :: _, h => by cases h
  | _ :: _, [], h => by cases h
def aeb : AE → AE → Bool
  | .inl (k, n, fb, us, rs), .inl (k', n', fb', us', rs') => nb_ k k' && nb_ n n' && fbb fb fb' && lsb i3b us us' && lsb nb_ rs rs'
  | .inr (c, fs), .inr (c', fs') => nb_ c c' && vlb fs fs'
  | _, _ => false
theorem aeb_eq : ∀ (a b : AE), aeb a b = true → a = b
  | .inl (k, n, fb, us, rs), .inl (k', n', fb', us', rs'), h => by
    simp only [aeb, Bool.and_eq_true] at h
    obtain ⟨⟨⟨⟨h1, h2⟩, h3⟩, h4⟩, h5⟩ := h
    rw [nb_eq _ _ h1, nb_eq _ _ h2, fbb_eq _ _ h3, lsb_eq i3b_eq _ _ h4, lsb_eq nb_eq _ _ h5]
  | .inr (c, fs), .inr (c', fs'), h => by
    simp only [aeb, Bool.and_eq_true] at h
    rw [nb_eq _ _ h.1, vlb_eq _ _ h.2]
  | .inl _, .inr _, h => by cases h
  | .inr _, .inl _, h => by cases h
def awb : AWd → AWd → Bool
  | [], [] => true
  | a :: x, b :: y => aeb a b && awb x y
  | _, _ => false
theorem awb_eq : ∀ (x y : AWd), awb x y = true → x = y
  | [], [], _ => rfl
  | a :: x, b :: y, h => by
    simp only [awb, Bool.and_eq_true] at h
    rw [aeb_eq _ _ h.1, awb_eq x y h.2]
  | [], _ :: _, h => by cases h
  | _ :: _, [], h => by cases h
def arb (r : Option AWd) (w : AWd) : Bool := match r with
  | some x => awb x w
  | none => false
theorem arb_eq {r : Option AWd} {w : AWd} (h : arb r w = true) : r = some w := by
  unfold arb at h
  split at h
  · rw [awb_eq _ _ h]
  · cases h
def aO12 : AE := .inr (12, [.null, .null, .null, .null, .null, .null, .null, .null, .null, .null, .null, .int 0, .int 0])
def aO13 : AE := .inr (13, [.int 0, .int 0, .null, .int 0, .int 0, .int 0, .int 0, .long 0, .int 0, .int 0, .null, .null, .null, .null, .null, .null, .null, .null, .null, .null, .null, .null, .int 0, .int 0, .null, .null, .null, .null, .null, .null, .null, .null, .null, .null, .null, .null, .int 0, .long 0, .null, .null, .null, .null, .null, .null, .null, .null, .null, .null, .null, .null, .null, .null, .null, .int 0, .int 0, .null, .null, .null, .int 0, .int 0, .null, .long 0])
def aW0 : AWd := [.inr (12, [.ref 1, .ref 3, .ref 16, .ref 30, .ref 32, .ref 44, .ref 48, .ref 49, .ref 53, .ref 55, .ref 120, .int 0, .int 0]),
  .inr (10, [.ref 2, .int 0, .int 0, .int 0, .int 0, .int 0, .int 0, .long 0, .int 0]),
  .inl (1, 1000, none, [], []),
  .inr (6, [.ref 4, .ref 5, .ref 6, .ref 7, .ref 8, .ref 9, .ref 10, .ref 11, .ref 12, .int 0, .int 0, .int 1, .int 3, .int 5, .int 2]),
  .inl (0, 6, none, [], []),
  .inl (0, 6, none, [], []),
  .inl (0, 6, none, [], []),
  .inl (3, 6, none, [], []),
  .inl (0, 4, none, [], []),
  .inl (0, 4, none, [], []),
  .inl (3, 4, none, [], []),
  .inl (0, 12, none, [(0, 1)], []),
  .inr (3, [.ref 13, .ref 14, .ref 15, .int 3, .int 0]),
  .inl (0, 1000, none, [(2, 10), (1, 2), (0, 3)], []),
  .inl (0, 32, none, [], []),
  .inl (0, 4096, some (-1), [], []),
  .inr (7, [.ref 1, .long 0, .int 0, .ref 17]),
  .inr (6, [.ref 18, .ref 19, .ref 20, .ref 21, .ref 22, .ref 23, .ref 24, .ref 25, .ref 26, .int 0, .int 0, .int 1, .int 3, .int 5, .int 2]),
  .inl (0, 6, none, [], []),
  .inl (0, 6, none, [], []),
  .inl (0, 6, none, [], []),
  .inl (3, 6, none, [], []),
  .inl (0, 4, none, [], []),
  .inl (0, 4, none, [], []),
  .inl (3, 4, none, [], []),
  .inl (0, 12, none, [(0, 1)], []),
  .inr (3, [.ref 27, .ref 28, .ref 29, .int 3, .int 0]),
  .inl (0, 1000, none, [(2, 10), (1, 2), (0, 3)], []),
  .inl (0, 32, none, [], []),
  .inl (0, 4096, some (-1), [], []),
  .inr (11, [.ref 31, .int 0]),
  .inl (0, 40, none, [], []),
  .inr (4, [.ref 40, .ref 33, .ref 35, .int 0]),
  .inr (11, [.ref 34, .int 0]),
  .inl (0, 40, none, [], []),
  .inr (5, [.ref 36, .ref 37, .ref 38, .ref 39, .int 0]),
  .inl (0, 8, none, [], []),
  .inl (0, 8, none, [], []),
  .inl (0, 8, none, [], []),
  .inl (0, 8, none, [], []),
  .inr (0, [.ref 3, .ref 41, .ref 42, .ref 43, .int 0, .int 0]),
  .inl (0, 6, none, [], []),
  .inl (0, 6, none, [], []),
  .inl (0, 6, none, [], []),
  .inr (0, [.ref 3, .ref 45, .ref 46, .ref 47, .int 0, .int 0]),
  .inl (0, 6, none, [], []),
  .inl (0, 6, none, [], []),
  .inl (0, 6, none, [], []),
  .inr (2, [.ref 3, .ref 40, .ref 44, .long 0]),
  .inr (8, [.ref 3, .ref 40, .ref 44, .ref 50, .ref 51, .int 0, .int 0, .ref 52, .int 0, .int 0]),
  .inl (0, 6, none, [], []),
  .inl (0, 4, none, [], []),
  .inl (0, 6, none, [], []),
  .inr (9, [.ref 3, .ref 32, .ref 44, .ref 54]),
  .inl (0, 36, none, [], []),
  .inl (4, 16, none, [], [(15, 116), (14, 112), (13, 108), (12, 104), (11, 100), (10, 96), (9, 92), (8, 88), (7, 84), (6, 80), (5, 76), (4, 72), (3, 68), (2, 64), (1, 60), (0, 56)]),
  .inr (0, [.ref 3, .ref 57, .ref 58, .ref 59, .int 0, .int 0]),
  .inl (0, 6, none, [], []),
  .inl (0, 6, none, [], []),
  .inl (0, 6, none, [], []),
  .inr (0, [.ref 3, .ref 61, .ref 62, .ref 63, .int 0, .int 0]),
  .inl (0, 6, none, [], []),
  .inl (0, 6, none, [], []),
  .inl (0, 6, none, [], []),
  .inr (0, [.ref 3, .ref 65, .ref 66, .ref 67, .int 0, .int 0]),
  .inl (0, 6, none, [], []),
  .inl (0, 6, none, [], []),
  .inl (0, 6, none, [], []),
  .inr (0, [.ref 3, .ref 69, .ref 70, .ref 71, .int 0, .int 0]),
  .inl (0, 6, none, [], []),
  .inl (0, 6, none, [], []),
  .inl (0, 6, none, [], []),
  .inr (0, [.ref 3, .ref 73, .ref 74, .ref 75, .int 0, .int 0]),
  .inl (0, 6, none, [], []),
  .inl (0, 6, none, [], []),
  .inl (0, 6, none, [], []),
  .inr (0, [.ref 3, .ref 77, .ref 78, .ref 79, .int 0, .int 0]),
  .inl (0, 6, none, [], []),
  .inl (0, 6, none, [], []),
  .inl (0, 6, none, [], []),
  .inr (0, [.ref 3, .ref 81, .ref 82, .ref 83, .int 0, .int 0]),
  .inl (0, 6, none, [], []),
  .inl (0, 6, none, [], []),
  .inl (0, 6, none, [], []),
  .inr (0, [.ref 3, .ref 85, .ref 86, .ref 87, .int 0, .int 0]),
  .inl (0, 6, none, [], []),
  .inl (0, 6, none, [], []),
  .inl (0, 6, none, [], []),
  .inr (0, [.ref 3, .ref 89, .ref 90, .ref 91, .int 0, .int 0]),
  .inl (0, 6, none, [], []),
  .inl (0, 6, none, [], []),
  .inl (0, 6, none, [], []),
  .inr (0, [.ref 3, .ref 93, .ref 94, .ref 95, .int 0, .int 0]),
  .inl (0, 6, none, [], []),
  .inl (0, 6, none, [], []),
  .inl (0, 6, none, [], []),
  .inr (0, [.ref 3, .ref 97, .ref 98, .ref 99, .int 0, .int 0]),
  .inl (0, 6, none, [], []),
  .inl (0, 6, none, [], []),
  .inl (0, 6, none, [], []),
  .inr (0, [.ref 3, .ref 101, .ref 102, .ref 103, .int 0, .int 0]),
  .inl (0, 6, none, [], []),
  .inl (0, 6, none, [], []),
  .inl (0, 6, none, [], []),
  .inr (0, [.ref 3, .ref 105, .ref 106, .ref 107, .int 0, .int 0]),
  .inl (0, 6, none, [], []),
  .inl (0, 6, none, [], []),
  .inl (0, 6, none, [], []),
  .inr (0, [.ref 3, .ref 109, .ref 110, .ref 111, .int 0, .int 0]),
  .inl (0, 6, none, [], []),
  .inl (0, 6, none, [], []),
  .inl (0, 6, none, [], []),
  .inr (0, [.ref 3, .ref 113, .ref 114, .ref 115, .int 0, .int 0]),
  .inl (0, 6, none, [], []),
  .inl (0, 6, none, [], []),
  .inl (0, 6, none, [], []),
  .inr (0, [.ref 3, .ref 117, .ref 118, .ref 119, .int 0, .int 0]),
  .inl (0, 6, none, [], []),
  .inl (0, 6, none, [], []),
  .inl (0, 6, none, [], []),
  .inl (5, 4, none, [], [(3, 157), (2, 145), (1, 133), (0, 121)]),
  .inr (4, [.ref 129, .ref 122, .ref 124, .int 0]),
  .inr (11, [.ref 123, .int 0]),
  .inl (0, 40, none, [], []),
  .inr (5, [.ref 125, .ref 126, .ref 127, .ref 128, .int 0]),
  .inl (0, 8, none, [], []),
  .inl (0, 8, none, [], []),
  .inl (0, 8, none, [], []),
  .inl (0, 8, none, [], []),
  .inr (0, [.ref 3, .ref 130, .ref 131, .ref 132, .int 0, .int 0]),
  .inl (0, 6, none, [], []),
  .inl (0, 6, none, [], []),
  .inl (0, 6, none, [], []),
  .inr (4, [.ref 141, .ref 134, .ref 136, .int 0]),
  .inr (11, [.ref 135, .int 0]),
  .inl (0, 40, none, [], []),
  .inr (5, [.ref 137, .ref 138, .ref 139, .ref 140, .int 0]),
  .inl (0, 8, none, [], []),
  .inl (0, 8, none, [], []),
  .inl (0, 8, none, [], []),
  .inl (0, 8, none, [], []),
  .inr (0, [.ref 3, .ref 142, .ref 143, .ref 144, .int 0, .int 0]),
  .inl (0, 6, none, [], []),
  .inl (0, 6, none, [], []),
  .inl (0, 6, none, [], []),
  .inr (4, [.ref 153, .ref 146, .ref 148, .int 0]),
  .inr (11, [.ref 147, .int 0]),
  .inl (0, 40, none, [], []),
  .inr (5, [.ref 149, .ref 150, .ref 151, .ref 152, .int 0]),
  .inl (0, 8, none, [], []),
  .inl (0, 8, none, [], []),
  .inl (0, 8, none, [], []),
  .inl (0, 8, none, [], []),
  .inr (0, [.ref 3, .ref 154, .ref 155, .ref 156, .int 0, .int 0]),
  .inl (0, 6, none, [], []),
  .inl (0, 6, none, [], []),
  .inl (0, 6, none, [], []),
  .inr (4, [.ref 165, .ref 158, .ref 160, .int 0]),
  .inr (11, [.ref 159, .int 0]),
  .inl (0, 40, none, [], []),
  .inr (5, [.ref 161, .ref 162, .ref 163, .ref 164, .int 0]),
  .inl (0, 8, none, [], []),
  .inl (0, 8, none, [], []),
  .inl (0, 8, none, [], []),
  .inl (0, 8, none, [], []),
  .inr (0, [.ref 3, .ref 166, .ref 167, .ref 168, .int 0, .int 0]),
  .inl (0, 6, none, [], []),
  .inl (0, 6, none, [], []),
  .inl (0, 6, none, [], [])]
def aWm : AWd := [.inr (13, [.int 0, .int 0, .ref 170, .int 0, .int 0, .int 0, .int 0, .long 0, .int 0, .int 0, .ref 171, .ref 172, .ref 173, .ref 174, .ref 175, .ref 176, .ref 177, .ref 178, .ref 179, .ref 180, .ref 181, .ref 182, .int 0, .int 0, .ref 183, .ref 184, .ref 185, .ref 186, .ref 187, .ref 188, .ref 189, .ref 190, .ref 191, .ref 192, .ref 193, .ref 194, .int 0, .long 0, .ref 195, .ref 196, .ref 197, .ref 198, .ref 199, .ref 200, .ref 201, .ref 202, .ref 203, .ref 204, .ref 205, .ref 206, .ref 207, .ref 208, .ref 209, .int 0, .int (-1), .ref 210, .ref 211, .ref 212, .int 0, .int 0, .ref 213, .long 0]),
  .inl (0, 1000, none, [], []),
  .inl (0, 12, none, [(5, 0), (4, 2), (3, 5), (2, 3), (1, 0), (0, 0)], []),
  .inl (3, 12, none, [], []),
  .inl (3, 8, none, [], []),
  .inl (0, 12, none, [], []),
  .inl (0, 12, none, [], []),
  .inl (0, 12, none, [], []),
  .inl (0, 8, none, [], []),
  .inl (0, 8, none, [], []),
  .inl (0, 24, none, [], []),
  .inl (0, 2, none, [], []),
  .inl (0, 2, none, [], []),
  .inl (0, 2000, none, [], []),
  .inl (0, 7, none, [], []),
  .inl (2, 7, none, [], []),
  .inl (0, 7, none, [], []),
  .inl (0, 7, none, [], []),
  .inl (0, 7, none, [], []),
  .inl (0, 7, none, [], []),
  .inl (0, 7, none, [], []),
  .inl (0, 7, none, [], []),
  .inl (0, 7, none, [], []),
  .inl (0, 7, none, [], []),
  .inl (0, 7, none, [], []),
  .inl (0, 20, none, [], []),
  .inl (0, 6, none, [], []),
  .inl (0, 240, none, [], []),
  .inl (0, 240, none, [], []),
  .inl (0, 240, none, [], []),
  .inl (0, 5, none, [], []),
  .inl (0, 40, none, [], []),
  .inl (0, 40, none, [], []),
  .inl (0, 40, none, [], []),
  .inl (2, 40, none, [], []),
  .inl (0, 14, none, [], []),
  .inl (0, 14, none, [], []),
  .inl (0, 14, none, [], []),
  .inl (0, 56, none, [], []),
  .inl (0, 224, none, [], []),
  .inl (2, 4, none, [], []),
  .inl (0, 6, none, [], []),
  .inl (0, 6, none, [], []),
  .inl (0, 6, none, [], []),
  .inl (3, 1344, none, [], [])]
set_option maxRecDepth 100000 in
theorem run0 : arun 5000 99 none xP0 0 (xent 2 [.ref 0]) [] [aO12] = some aW0 := arb_eq (by decide +kernel)
set_option maxRecDepth 100000 in
theorem run1 : arun 1000 99 none xP166 0 (xent 1 [.ref 169]) [] (aW0 ++ [aO13]) = some (aW0 ++ aWm) := arb_eq (by decide +kernel)
