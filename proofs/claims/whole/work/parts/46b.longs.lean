/-! longs as numbers -/
theorem l_amt : ∀ k, k < 64 → (((nI k).toInt64 &&& 63).toBitVec.smod 64).toNat = k := by decide +kernel
theorem l_shr {a k : Nat} (ha : a < 2 ^ 63) (hk : k < 64) : lN a >>> ((nI k).toInt64 &&& 63) = lN (a / 2 ^ k) := by
  apply Int64.toInt_inj.mp
  show ((lN a).toBitVec.sshiftRight (((nI k).toInt64 &&& 63).toBitVec.smod 64).toNat).toInt = _
  have h2 : a / 2 ^ k ≤ a := Nat.div_le_self _ _
  rw [l_amt k hk, BitVec.toInt_sshiftRight]
  show (lN a).toInt >>> k = _
  rw [pk_lT ha, pk_lT (by omega), Int.shiftRight_eq_div_pow]
  rfl
theorem l_shl (a : Nat) {k : Nat} (hk : k < 64) : lN a <<< ((nI k).toInt64 &&& 63) = lN (a * 2 ^ k) := by
  apply Int64.toBitVec_inj.mp
  show (lN a).toBitVec <<< (((nI k).toInt64 &&& 63).toBitVec.smod 64) = BitVec.ofNat 64 (a * 2 ^ k)
  apply BitVec.eq_of_toNat_eq
  rw [BitVec.shiftLeft_eq', l_amt k hk, BitVec.toNat_shiftLeft]
  show ((BitVec.ofNat 64 a).toNat <<< k) % 2 ^ 64 = _
  rw [BitVec.toNat_ofNat, BitVec.toNat_ofNat, Nat.shiftLeft_eq, Nat.mul_mod, Nat.mod_mod, ← Nat.mul_mod]
theorem l_or (a b : Nat) : lN a ||| lN b = lN (a ||| b) := by
  apply Int64.toBitVec_inj.mp
  show BitVec.ofNat 64 a ||| BitVec.ofNat 64 b = BitVec.ofNat 64 (a ||| b)
  apply BitVec.eq_of_getLsbD_eq
  intro i hi
  simp [BitVec.getLsbD_ofNat, Nat.testBit_or, hi]
theorem l_and (a b : Nat) : lN a &&& lN b = lN (a &&& b) := by
  apply Int64.toBitVec_inj.mp
  show BitVec.ofNat 64 a &&& BitVec.ofNat 64 b = BitVec.ofNat 64 (a &&& b)
  apply BitVec.eq_of_getLsbD_eq
  intro i hi
  simp [BitVec.getLsbD_ofNat, Nat.testBit_and, hi]
theorem l_and1 (a : Nat) : lN a &&& lN 1 = lN (a % 2) := by rw [l_and, Nat.and_one_is_mod]
theorem l_amtU : ∀ k, k < 64 → ((nI k).toInt64.toUInt64 &&& Int64.toUInt64 63).toNat % 64 = k := by decide +kernel
theorem l_ushr {a k : Nat} (ha : a < 2 ^ 64) (hk : k < 64) : ((lN a).toUInt64 >>> ((nI k).toInt64.toUInt64 &&& Int64.toUInt64 63)).toInt64 = lN (a / 2 ^ k) := by
  apply Int64.toBitVec_inj.mp
  apply BitVec.eq_of_toNat_eq
  show ((lN a).toUInt64 >>> ((nI k).toInt64.toUInt64 &&& Int64.toUInt64 63)).toNat = (BitVec.ofNat 64 (a / 2 ^ k)).toNat
  have e : (lN a).toUInt64.toNat = a := by
    show (BitVec.ofNat 64 a).toNat = a
    rw [BitVec.toNat_ofNat, Nat.mod_eq_of_lt ha]
  rw [UInt64.toNat_shiftRight, l_amtU k hk, e, Nat.shiftRight_eq_div_pow, BitVec.toNat_ofNat, Nat.mod_eq_of_lt (Nat.lt_of_le_of_lt (Nat.div_le_self _ _) ha)]
theorem l_all (x : Int64) : ∃ a, a < 2 ^ 64 ∧ x = lN a := ⟨x.toBitVec.toNat, x.toBitVec.isLt, Int64.toBitVec_inj.mp (by show _ = BitVec.ofNat 64 _; simp)⟩
/-- the table's entry: bit 6 o + m is set where m is greener than o -/
def rN (g : Fn) (n : Nat) : Nat → Nat
  | 0 => 0
  | w + 1 => rN g n w ||| (bsN (fun o => decide (g w < g o)) n * 2 ^ (6 * w))
theorem rN_lt (g : Fn) {n : Nat} (hn : n ≤ 6) : ∀ w, rN g n w < 2 ^ (6 * w)
  | 0 => by simp [rN]
  | w + 1 => by
    have h := bsN_lt (fun o => decide (g w < g o)) n
    have h2 : 2 ^ n ≤ 2 ^ 6 := Nat.pow_le_pow_right (by decide) hn
    have ih := rN_lt g hn w
    rw [rN]
    refine Nat.or_lt_two_pow (Nat.lt_of_lt_of_le ih (Nat.pow_le_pow_right (by decide) (by omega))) ?_
    rw [show 6 * (w + 1) = 6 + 6 * w by omega, Nat.pow_add]
    exact Nat.mul_lt_mul_of_lt_of_le (by omega) (Nat.le_refl _) (Nat.pow_pos (by decide))
theorem rN_bit (g : Fn) {n : Nat} (hn : n ≤ 6) (o m : Nat) (hm : m < 6) : ∀ w, (rN g n w).testBit (6 * o + m) = (decide (o < w) && (decide (m < n) && decide (g o < g m)))
  | 0 => by simp [rN]
  | w + 1 => by
    have ih := rN_bit g hn o m hm w
    have h := bsN_lt (fun o => decide (g w < g o)) n
    have h2 : 2 ^ n ≤ 2 ^ 6 := Nat.pow_le_pow_right (by decide) hn
    rw [rN, Nat.testBit_or, ih, Nat.testBit_mul_two_pow]
    rcases Nat.lt_trichotomy o w with y | y | y
    · simp [y, show ¬ 6 * w ≤ 6 * o + m by omega, show o < w + 1 by omega]
    · subst y
      rw [show 6 * o + m - 6 * o = m by omega, bsN_test]
      simp
    · have e : (bsN (fun o => decide (g w < g o)) n).testBit (6 * o + m - 6 * w) = false := Nat.testBit_lt_two_pow (Nat.lt_of_lt_of_le h (Nat.le_trans h2 (Nat.pow_le_pow_right (by decide) (by omega))))
      rw [e]
      simp [show ¬ o < w by omega, show ¬ o < w + 1 by omega]
