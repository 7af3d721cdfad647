/-! sets of men as bits -/
theorem nI_or (a b : Nat) : nI a ||| nI b = nI (a ||| b) := by
  apply Int32.toBitVec_inj.mp
  show BitVec.ofNat 32 a ||| BitVec.ofNat 32 b = BitVec.ofNat 32 (a ||| b)
  exact (BitVec.ofNat_or).symm
theorem nI_and (a b : Nat) : nI a &&& nI b = nI (a &&& b) := by
  apply Int32.toBitVec_inj.mp
  show BitVec.ofNat 32 a &&& BitVec.ofNat 32 b = BitVec.ofNat 32 (a &&& b)
  exact (BitVec.ofNat_and).symm
theorem shl_of : ∀ k, k < 7 → (1 : Int32) <<< (nI k &&& 31) = nI (2 ^ k) := by decide +kernel
theorem smod_of : ∀ k, k < 7 → ((nI k &&& 31).toBitVec.smod 32).toNat = k := by decide +kernel
theorem bit_iff {a k : Nat} (ha : a < 2 ^ 31) (hk : k < 7) : bit (nI a) (nI k) ↔ a.testBit k = true := by
  have h1 : nI a >>> (nI k &&& 31) = nI (a / 2 ^ k) := pk_shrN ha _ k (smod_of k hk)
  have h3 : a / 2 ^ k < 2 ^ 31 := Nat.lt_of_le_of_lt (Nat.div_le_self _ _) ha
  have h2 : nI (a / 2 ^ k) &&& 1 = nI (a / 2 ^ k % 2) := pk_andN (by omega) 1 (by decide)
  show nI a >>> (nI k &&& 31) &&& 1 = 1 ↔ _
  rw [h1, h2, Nat.testBit_eq_decide_div_mod_eq, decide_eq_true_eq]
  have h4 := Nat.mod_lt (a / 2 ^ k) (show 0 < 2 by decide)
  constructor
  · intro e
    have := (nI_eq (a := a / 2 ^ k % 2) (b := 1) (by omega) (by omega)).mp e
    exact this
  · intro e
    rw [e]
    rfl
/-- as a number -/
def bsN (p : Nat → Bool) : Nat → Nat
  | 0 => 0
  | n + 1 => if p n then bsN p n ||| 2 ^ n else bsN p n
theorem bsN_test (p : Nat → Bool) (k : Nat) : ∀ n, (bsN p n).testBit k = (decide (k < n) && p k)
  | 0 => by simp [bsN]
  | n + 1 => by
    have ih := bsN_test p k n
    simp only [bsN]
    by_cases hp : p n = true
    · rw [if_pos hp, Nat.testBit_or, ih, Nat.testBit_two_pow]
      by_cases hk : k = n
      · subst hk; simp [hp]
      · have : ¬ n = k := fun z => hk z.symm
        by_cases h2 : k < n
        · simp [h2, this, show k < n + 1 by omega]
        · simp [h2, this, show ¬ k < n + 1 by omega]
    · rw [if_neg hp, ih]
      by_cases hk : k = n
      · subst hk; simp [hp]
      · by_cases h2 : k < n
        · simp [h2, show k < n + 1 by omega]
        · simp [h2, show ¬ k < n + 1 by omega]
theorem bsN_lt (p : Nat → Bool) : ∀ n, bsN p n < 2 ^ n
  | 0 => by simp [bsN]
  | n + 1 => by
    have ih := bsN_lt p n
    simp only [bsN]
    split
    · exact Nat.or_lt_two_pow (Nat.lt_trans ih (Nat.pow_lt_pow_right (by decide) (by omega))) (Nat.pow_lt_pow_right (by decide) (by omega))
    · exact Nat.lt_trans ih (Nat.pow_lt_pow_right (by decide) (by omega))
theorem bset_N (p : Nat → Bool) : ∀ n, n ≤ 6 → bset p n = nI (bsN p n)
  | 0, _ => rfl
  | n + 1, h => by
    have ih := bset_N p n (by omega)
    simp only [bset, bsN]
    split
    · rw [ih, shl_of n (by omega), nI_or]
    · exact ih
theorem bcnt_small : ∀ a, a < 64 → bcnt (nI a) = nI (cnt (fun k => a.testBit k) 6) := by decide +kernel
theorem cnt_bsN (p : Nat → Bool) {n : Nat} (hn : n ≤ 6) : cnt (fun k => (bsN p n).testBit k) 6 = cnt p n := by
  have h : ∀ m, m ≤ n → cnt (fun k => (bsN p n).testBit k) m = cnt p m := by
    intro m hm
    refine cnt_congr m (fun k hk => ?_)
    rw [bsN_test, decide_eq_true (show k < n by omega)]
    rfl
  have h2 : ∀ d, n + d ≤ 6 → cnt (fun k => (bsN p n).testBit k) (n + d) = cnt p n := by
    intro d
    induction d with
    | zero => intro _; exact h n (Nat.le_refl n)
    | succ d ih =>
      intro hd
      have e : n + (d + 1) = (n + d) + 1 := by omega
      rw [e, cnt, if_neg (by rw [bsN_test, decide_eq_false (show ¬ n + d < n by omega)]; simp)]
      exact ih (by omega)
  have e : n + (6 - n) = 6 := by omega
  have := h2 (6 - n) (by omega)
  rw [e] at this
  exact this
theorem bcnt_bset (p : Nat → Bool) {n : Nat} (hn : n ≤ 6) : bcnt (bset p n) = nI (cnt p n) := by
  have hl := bsN_lt p n
  have h2 : 2 ^ n ≤ 2 ^ 6 := Nat.pow_le_pow_right (by decide) hn
  rw [bset_N p n hn, bcnt_small _ (by omega), cnt_bsN p hn]
/-- after a set has sucked -/
def skG (lemon : Int32) (b : Nat) (g : Fn) : Fn := fun k => if b.testBit k then mx 0 (g k - lemon) else g k
theorem sk_inv {c : TCrew} {lemon : Int32} {a b : Nat} (ha : a < 64) (hb : b < 64) (hs : c.sucked = nI a) (hf : b &&& a = 0) : ∀ m, m ≤ 6 → ∃ a', a' < 64 ∧ (sksC c lemon (nI b) m).sucked = nI a' ∧ (∀ k, m ≤ k → a'.testBit k = a.testBit k) ∧ (sksC c lemon (nI b) m).place = c.place ∧ (sksC c lemon (nI b) m).over = c.over ∧ (sksC c lemon (nI b) m).green = fun k => if k < m then skG lemon b c.green k else c.green k
  | 0, _ => ⟨a, ha, hs, fun _ _ => rfl, rfl, rfl, by funext k; simp [sksC]⟩
  | m + 1, hm => by
    rcases sk_inv (lemon := lemon) ha hb hs hf m (by omega) with ⟨a', h1, h2, h3, h4, h5, h6⟩
    have hbit : bit (nI b) (nI m) ↔ b.testBit m = true := bit_iff (by omega) (by omega)
    have hbit' : bit (nI a') (nI m) ↔ a'.testBit m = true := bit_iff (by omega) (by omega)
    by_cases q : b.testBit m = true
    · have q2 : ¬ bit (sksC c lemon (nI b) m).sucked (nI m) := by
        rw [h2, hbit', h3 m (Nat.le_refl m)]
        intro z
        have := congrArg (fun x => Nat.testBit x m) hf
        simp [Nat.testBit_and, q, z] at this
      have e : sksC c lemon (nI b) (m + 1) = (sksC c lemon (nI b) m).suck lemon m := by
        rw [sksC, if_pos ⟨hbit.mpr q, q2⟩]
      rw [e]
      refine ⟨a' ||| 2 ^ m, ?_, ?_, ?_, h4, h5, ?_⟩
      · exact Nat.or_lt_two_pow (n := 6) h1 (Nat.pow_lt_pow_right (by decide) (by omega))
      · show (sksC c lemon (nI b) m).sucked ||| _ = _
        rw [h2, shl_of m (by omega), nI_or]
      · intro k hk
        rw [Nat.testBit_or, Nat.testBit_two_pow, h3 k (by omega), decide_eq_false (by omega)]
        simp
      · show upd (sksC c lemon (nI b) m).green m _ = _
        rw [h6]
        funext k
        simp only [upd]
        by_cases y : k = m
        · subst y
          rw [if_pos rfl, if_neg (Nat.lt_irrefl k), if_pos (by omega), skG, if_pos q]
        · rw [if_neg y]
          by_cases y2 : k < m
          · rw [if_pos y2, if_pos (by omega)]
          · rw [if_neg y2, if_neg (by omega)]
    · have e : sksC c lemon (nI b) (m + 1) = sksC c lemon (nI b) m := by
        rw [sksC, if_neg (fun z => q (hbit.mp z.1))]
      rw [e]
      refine ⟨a', h1, h2, fun k hk => h3 k (by omega), h4, h5, ?_⟩
      rw [h6]
      funext k
      by_cases y : k = m
      · subst y
        rw [if_neg (Nat.lt_irrefl k), if_pos (by omega), skG, if_neg q]
      · by_cases y2 : k < m
        · rw [if_pos y2, if_pos (by omega)]
        · rw [if_neg y2, if_neg (by omega)]
theorem skG_ok {lemon : Int32} {b : Nat} {g p : Fn} {n q : Nat} (hl : rng lemon 20) (h : GP g p n q) : GP (skG lemon b g) p n q := by
  refine ⟨fun k hk => ?_, h.place⟩
  simp only [skG]
  rcases h.green k hk with ⟨a, ha, e⟩
  rcases hl with ⟨c, hc, e2⟩
  split
  · rw [e, e2]
    exact mx0 ha (by omega) (by omega)
  · exact ⟨a, ha, e⟩
theorem skG_congr {lemon : Int32} {b n : Nat} {g g' : Fn} (h : eqN n g g') : eqN n (skG lemon b g) (skG lemon b g') := by
  intro k hk
  simp only [skG, h k hk]
section XBT
variable {L : Nat} {xs : Nat → Int32} {d : Nat} {Q : XQt} {pn pc : Int32} {tok : TTok} {ship : TShip} {nn : Int64} {tl : Int32} {draft : TShip} {vd : TVoy} {log : TLog} {trial : TCrew} {sta : TSta} {says : Fn} {seed : Int64} {past : Nat → TCrew} {marks : Nat → TLog} {mi : TMi} {ma : TMa} {mb : TMb} {K : XWd}
variable {stk kn : Fn} {n p z t : Nat} {g pl : Fn} {su : Int32}
theorem t_suckLemons {a b : Nat} (so : ShOk ship n p z) (ha : a < 64) (hb : b < 64) (hs : su = nI a) (hf : b &&& a = 0) (tr : Tr trial n g pl su t) (h : ∀ trial su', Tr trial n (skG ship.lemon b g) pl su' t → Q none (clsW pn pc tok (ship.wlaw (ship.law.wm stk kn)) nn tl draft vd log trial sta says seed past marks K)) : XC (xF L xs) xmeths (d + 4) 133 [.ref 44, .int (nI b)] (clsW pn pc tok (ship.wlaw (ship.law.wm stk kn)) nn tl draft vd log trial sta says seed past marks K) Q := by
  have n6 := so.n6
  rcases sk_inv (c := trial) (lemon := ship.lemon) ha hb (by rw [tr.sucked, hs]) hf n (by omega) with ⟨a', h1, h2, h3, h4, h5, h6⟩
  refine c_suckLemons so.n6 so.men (h (sksC trial ship.lemon (nI b) n) (nI a') ⟨fun k hk => ?_, fun k hk => ?_, h2, ?_⟩)
  · rw [h6, ← skG_congr tr.green k hk]
    exact if_pos hk
  · rw [h4]; exact tr.place k hk
  · rw [h5]; exact tr.over
end XBT
