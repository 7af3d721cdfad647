/-! words: what a text holds, what a token is -/
def chr (b : List Int32) (k : Nat) : Nat := (b.getD k 0).toNatClampNeg
/-- base 27 -/
def wrd (C : Nat → Nat) (o : Nat) : Nat → Nat
  | 0 => 0
  | j + 1 => wrd C o j * 27 + (C (o + j) - 96)
def ltr (c : Nat) : Prop := 97 ≤ c ∧ c ≤ 122
theorem wrd_inj {C D : Nat → Nat} {o p : Nat} : ∀ m l, (∀ j, j < m → ltr (C (o + j))) → (∀ j, j < l → ltr (D (p + j))) → wrd C o m = wrd D p l → m = l ∧ ∀ j, j < m → C (o + j) = D (p + j)
  | 0, 0, _, _, _ => ⟨rfl, fun j h => absurd h (Nat.not_lt_zero j)⟩
  | 0, l + 1, _, h2, e => by
    have := h2 l (by omega)
    simp only [wrd, ltr] at e this
    omega
  | m + 1, 0, h1, _, e => by
    have := h1 m (by omega)
    simp only [wrd, ltr] at e this
    omega
  | m + 1, l + 1, h1, h2, e => by
    have a := h1 m (by omega)
    have b := h2 l (by omega)
    simp only [wrd, ltr] at e a b
    have ⟨i1, i2⟩ := wrd_inj m l (fun j hj => h1 j (by omega)) (fun j hj => h2 j (by omega)) (by omega)
    subst i1
    refine ⟨rfl, fun j hj => ?_⟩
    rcases Nat.lt_or_ge j m with y | y
    · exact i2 j y
    · have e : j = m := by omega
      subst e
      omega
theorem wrd_congr {C D : Nat → Nat} {o p : Nat} : ∀ m, (∀ j, j < m → C (o + j) = D (p + j)) → wrd C o m = wrd D p m
  | 0, _ => rfl
  | m + 1, h => by
    simp only [wrd]
    rw [wrd_congr m (fun j hj => h j (by omega)), h m (by omega)]
def spOk (C : Nat → Nat) (N : Nat) : Nat → List Nat → Bool
  | _, [] => false
  | o, m :: ms => (match ms with
    | [] => decide (o + m = N)
    | _ :: _ => decide (o + m < N) && decide (C (o + m) = 32) && spOk C N (o + m + 1) ms) && (List.range m).all (fun j => decide (97 ≤ C (o + j)) && decide (C (o + j) ≤ 122))
def vls (C : Nat → Nat) : Nat → List Nat → List Nat
  | _, [] => []
  | o, m :: ms => wrd C o m :: vls C (o + m + 1) ms
def plN (v : Nat) : Nat → List Nat → Int32
  | _, [] => -1
  | k, x :: xs => if x = v then nI k else plN v (k + 1) xs
section XWO
variable {L : Nat} {xs : Nat → Int32} {d : Nat} {Q : XQt} {w : XWd}
end XWO
def sgS (c : Nat) : Prop := (40 ≤ c ∧ c ≤ 43) ∨ c = 45 ∨ (59 ≤ c ∧ c ≤ 61)
section XIO
variable {L : Nat} {xs : Nat → Int32} {d : Nat} {Q : XQt} {w : XWd} {n a : Nat} {b : List Int32}
theorem sg_in : ∀ k, k < 8 → ∀ c, c < 128 → ([40, 41, 60, 61, 43, 45, 42, 59] : List Int32).getD k 0 = nI c → ((40 ≤ c ∧ c ≤ 43) ∨ c = 45 ∨ (59 ≤ c ∧ c ≤ 61)) := by decide +kernel
theorem sg_out : ∀ c, c < 128 → (∀ k, k < 8 → ¬ ([40, 41, 60, 61, 43, 45, 42, 59] : List Int32).getD k 0 = nI c) → ¬ ((40 ≤ c ∧ c ≤ 43) ∨ c = 45 ∨ (59 ≤ c ∧ c ≤ 61)) := by decide +kernel
theorem c_indexOf {c : Nat} (hw : w.length < 1000000) (ha : SA a 0) (c128 : c < 128) (h : ∀ r : Int32, (0 ≤ r ↔ sgS c) → Q (some (.int r)) w) : XC (xF L xs) xmeths (d + 5) 26 [.ref a, .int (nI c)] w Q := by
  have hn : xnth xbyts 0 = some [40, 41, 60, 61, 43, 45, 42, 59] := rfl
  have e8 : ∀ c, c < 128 → (nI c).toInt8.toInt32 = nI c := by decide +kernel
  have ioc : ∀ {d : Nat} {Q : XQt}, (∀ r : Int32, (0 ≤ r ↔ sgS c) → Q (some (.int r)) w) → XC (xF L xs) xmeths (d + 1) 33 [.ref (a + 100), .int (nI c), .int (nI 0), .int (nI 8)] w Q := by
    intro d Q h
    refine ⟨nb rfl, xgo [5] 20 ⟨nb rfl, nb rfl, ?_⟩⟩
    rw [e8 c c128]
    refine up_to (P := fun k => (∀ j, j < k → ¬ ([40, 41, 60, 61, 43, 45, 42, 59] : List Int32).getD j 0 = nI c) → XWp (xF L xs) (some .int) xP33 (XC (xF L xs) xmeths d) Q 5 [orf (a + 100), oi (nI c), oi (nI 0), oi (nI 8), oi (nI c), oi (nI k)] [] w) (n := 8) (fun k hk ih hj => xgo [5, 10] 20 ?_) (fun j hj => absurd hj (Nat.not_lt_zero j))
    refine pk_le 8 k (fun q => ?_) (fun q => ?_) rfl rfl (by omega) (by omega)
    · have e : k = 8 := by omega
      subst e
      refine h (-1) ⟨fun y => absurd y (by decide), fun y => absurd y (sg_out c c128 hj)⟩
    · refine xg_bal rfl rfl hw rfl ha hn q (by decide) (xgo [5] 20 ?_)
      refine And.intro (fun (q2 : ¬ ([40, 41, 60, 61, 43, 45, 42, 59] : List Int32).getD k 0 = nI c) => ?_) (fun (q2 : ¬ ¬ ([40, 41, 60, 61, 43, 45, 42, 59] : List Int32).getD k 0 = nI c) => ?_)
      · have ih := ih q (fun j hj' => by
          rcases Nat.lt_or_ge j k with y | y
          · exact hj j y
          · have e : j = k := by omega
            rw [e]; exact q2)
        rw [nI_succ k] at ih
        exact ih
      · exact h _ ⟨fun _ => sg_in k q c c128 (Classical.not_not.mp q2), fun _ => nI_pos' (by omega)⟩
  have can : ∀ {d : Nat} {Q : XQt}, Q (some (.int 1)) w → XC (xF L xs) xmeths (d + 1) 32 [.int (nI c)] w Q := by
    intro d Q h
    refine ⟨nb rfl, xgo [] 20 ?_⟩
    refine vF (show ¬ nI c < 0 from nI_pos (by omega)) ?_
    exact pk_lt 255 c (fun y => by omega) (fun _ => ⟨rfl, h⟩) rfl rfl (by omega) (by omega)
  have io : ∀ {d : Nat} {Q : XQt}, (∀ r : Int32, (0 ≤ r ↔ sgS c) → Q (some (.int r)) w) → XC (xF L xs) xmeths (d + 2) 31 [.ref (a + 100), .int (nI c), .int 0, .int (nI 8)] w Q := by
    intro d Q h
    refine ⟨nb rfl, xgo [11] 40 ⟨rfl, nb rfl, can (vTd rfl ⟨nb rfl, nb rfl, ?_⟩)⟩⟩
    refine xg_len rfl hw rfl ha hn (xgo [] 40 ⟨nb rfl, nb rfl, vTd rfl ⟨rfl, nb rfl, ?_⟩⟩)
    exact ioc h
  refine ⟨nb rfl, xgo [3] 20 ?_⟩
  refine xg_inv (as := [.int (nI c), .int 0]) rfl rfl hw ha hn rfl rfl (nb rfl) ?_
  refine ⟨nb rfl, xgo [1] 20 ?_⟩
  refine xg_inv (as := []) rfl rfl hw ha hn rfl rfl (nb rfl) ?_
  refine c_isLatin1 hw ha hn (xgo [4] 20 (vFd rfl ?_))
  refine xg_val rfl hw ha hn (xgo [8] 20 ?_)
  refine xg_inv (as := []) (st := [.ref a, .int 0, .int (nI c), .ref (a + 100)]) rfl rfl hw ha hn rfl rfl (nb rfl) ?_
  refine c_strLen hw ha hn ?_
  refine xgo [] 20 ⟨rfl, nb rfl, ?_⟩
  exact io (fun r hr => xgo [] 20 (h r hr))
end XIO
