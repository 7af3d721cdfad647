/-! the reference, its fields one by one -/
def mdlX (m_thrown : Int32) (m_taped : Int32) (m_size : Int32) (m_place : Int32) (m_begin : Int32) (m_token : Int32) (m_word : Int64) (m_told : Int32) (m_wrong : Int32) (m_code : Int32) (m_toldLines : Int32) (m_given : Int32) (m_fresh : Int64) (m_done : Int32) (m_odd : Int32) (m_bestRank : Int32) (m_leastSpray : Int32) (m_g : Int64) (m_tape : Fn) (m_ship : Fn) (m_manName : Fl) (m_postName : Fl) (m_kind : Fn) (m_greenTold : Fn) (m_hands : Fn) (m_spray : Fn) (m_holds : Fn) (m_sea : Fn) (m_lineFrom : Fn) (m_lineTo : Fn) (m_codes : Fn) (m_opened : Fn) (m_compared : Fn) (m_kept : Fn) (m_keptBy : Fn) (m_ahead : Fn) (m_against : Fn) (m_sum : Fn) (m_sumBy : Fn) (m_term : Fn) (m_termBy : Fn) (m_byNot : Fn) (m_valueOf : Fn) (m_lines : Fn) (m_lineWhat : Fn) (m_lineA : Fn) (m_lineB : Fn) (m_seens : Fn) (m_seenMan : Fn) (m_seenOther : Fn) (m_seenAt : Fn) (m_seenGreener : Fn) (m_s : Fn) (m_aside : Fn) (m_before : Fn) (m_marked : Fn) (m_undone : Fn) (m_isLaid : Fn) (m_more : Fn) (m_row : Fn) (m_bestRow : Fn) (m_greenerBy : Fl) (K : XWd) : XWd := mdlW (m_thrown, m_taped, m_size, m_place, m_begin, m_token, m_word, m_told, m_wrong, m_code, m_toldLines, m_given, m_fresh, m_done, m_odd, m_bestRank, m_leastSpray, m_g) (m_tape, m_ship, m_manName, m_postName, m_kind, m_greenTold, m_hands, m_spray, m_holds, m_sea, m_lineFrom, m_lineTo, m_codes, m_opened, m_compared, m_kept, m_keptBy, m_ahead, m_against, m_sum, m_sumBy, m_term) (m_termBy, m_byNot, m_valueOf, m_lines, m_lineWhat, m_lineA, m_lineB, m_seens, m_seenMan, m_seenOther, m_seenAt, m_seenGreener, m_s, m_aside, m_before, m_marked, m_undone, m_isLaid, m_more, m_row, m_bestRow, m_greenerBy) K
abbrev RS (s : Fn) (n : Nat) (A : TA) : Prop := (s 0 = nI A.t) ∧ (s 1 = nI A.su) ∧ (∀ k, k < n → s (2 + k) = A.g k) ∧ (∀ k, k < n → s (8 + k) = A.p k + 1) ∧ (∀ k, n ≤ k → k < 6 → s (2 + k) = 0)
theorem RS.over {s : Fn} {n : Nat} {A : TA} (h : RS s n A) : s 0 = nI A.t := h.1
theorem RS.sucked {s : Fn} {n : Nat} {A : TA} (h : RS s n A) : s 1 = nI A.su := h.2.1
theorem RS.green {s : Fn} {n : Nat} {A : TA} (h : RS s n A) : ∀ k, k < n → s (2 + k) = A.g k := h.2.2.1
theorem RS.place {s : Fn} {n : Nat} {A : TA} (h : RS s n A) : ∀ k, k < n → s (8 + k) = A.p k + 1 := h.2.2.2.1
theorem RS.green0 {s : Fn} {n : Nat} {A : TA} (h : RS s n A) : ∀ k, n ≤ k → k < 6 → s (2 + k) = 0 := h.2.2.2.2
theorem or0 (x : Int32) : x ||| 0 = x := by
  apply Int32.toBitVec_inj.mp
  show x.toBitVec ||| 0#32 = _
  simp
theorem i2 (k : Nat) : Int32.ofInt 2 + nI k = nI (2 + k) := nI_add 2 k
theorem i8 (k : Nat) : Int32.ofInt 8 + nI k = nI (8 + k) := nI_add 8 k
def strF (g : Fn) (n w : Nat) : Bool := allB (fun o => decide (o = w ∨ g o < g w)) n
theorem bst_max {g : Fn} : ∀ n, n ≤ 6 → 0 < n → ∃ b, b < n ∧ bst g n = nI b ∧ ∀ o, o < n → g o ≤ g b
  | 0, _, h => absurd h (by decide)
  | n + 1, h6, _ => by
    rcases Nat.eq_zero_or_pos n with rfl | h0
    · refine ⟨0, by decide, by simp [bst], fun o ho => ?_⟩
      have e : o = 0 := by omega
      rw [e]
      exact Int32.le_refl _
    · rcases bst_max (g := g) n (by omega) h0 with ⟨b, hb, e, hmax⟩
      simp only [bst, e, nI_clamp (show b < 2 ^ 31 by omega)]
      by_cases y : g b < g n
      · refine ⟨n, by omega, by rw [if_pos (Or.inr y)], fun o ho => ?_⟩
        rcases Nat.lt_or_ge o n with z | z
        · exact Int32.le_trans (hmax o z) (Int32.le_of_lt y)
        · have e : o = n := by omega
          rw [e]; exact Int32.le_refl _
      · refine ⟨b, by omega, by rw [if_neg (fun z => z.elim (nIm1 (by omega)) y)], fun o ho => ?_⟩
        rcases Nat.lt_or_ge o n with z | z
        · exact hmax o z
        · have e : o = n := by omega
          rw [e]; exact Int32.not_lt.mp y
theorem fstI_none {p : Nat → Bool} : ∀ m j, (∀ k, j ≤ k → k < j + m → p k = false) → fstI p j m = -1
  | 0, _, _ => rfl
  | m + 1, j, h => by
    rw [fstI, if_neg (by rw [h j (Nat.le_refl j) (by omega)]; decide)]
    exact fstI_none m (j + 1) (fun k h1 h2 => h k (by omega) (by omega))
theorem fstI_some {p : Nat → Bool} {b : Nat} (hb : p b = true) : ∀ m j, j ≤ b → b < j + m → (∀ k, j ≤ k → k < b → p k = false) → fstI p j m = nI b
  | 0, j, h1, h2, _ => by omega
  | m + 1, j, h1, h2, h => by
    rw [fstI]
    by_cases y : j = b
    · subst y; rw [if_pos hb]
    · rw [if_neg (by rw [h j (Nat.le_refl j) (by omega)]; decide)]
      exact fstI_some hb m (j + 1) (by omega) (by omega) (fun k h1 h2 => h k (by omega) h2)
theorem capt_str {g : Fn} {n : Nat} (hn : n ≤ 6) : fstI (strF g n) 0 n = capt g n := by
  rcases Nat.eq_zero_or_pos n with rfl | h0
  · rfl
  · rcases bst_max (g := g) n hn h0 with ⟨b, hb, e, hmax⟩
    have hs : ∀ w, w < n → (strF g n w = true ↔ ∀ o, o < n → o = w ∨ g o < g w) := by
      intro w hw
      rw [strF, allB_iff]
      constructor
      · exact fun h o ho => of_decide_eq_true (h o ho)
      · exact fun h o ho => decide_eq_true (h o ho)
    have ht : tie g n (nI b) = true ↔ ∃ m, m < n ∧ ¬ m = b ∧ g m = g b := by
      simp only [tie, List.any_eq_true, List.mem_range, Bool.and_eq_true, decide_eq_true_eq, nI_clamp (show b < 2 ^ 31 by omega)]
      constructor
      · rintro ⟨m, h1, h2, h3⟩
        exact ⟨m, h1, fun z => h2 (by rw [z]), h3⟩
      · rintro ⟨m, h1, h2, h3⟩
        exact ⟨m, h1, fun z => h2 ((nI_eq (by omega) (by omega)).mp z), h3⟩
    rw [capt, e]
    by_cases y : tie g n (nI b) = true
    · rw [if_pos y]
      rcases ht.mp y with ⟨m, h1, h2, h3⟩
      refine fstI_none n 0 (fun k _ hk => ?_)
      have hk : k < n := by omega
      cases hc : strF g n k
      · rfl
      · exfalso
        have hc := (hs k hk).mp hc
        by_cases z : k = b
        · rcases hc m h1 with z2 | z2
          · exact h2 (z2.trans z)
          · rw [z, h3] at z2
            exact Int32.lt_irrefl z2
        · rcases hc b hb with z2 | z2
          · exact z z2.symm
          · exact absurd z2 (Int32.not_lt.mpr (hmax k hk))
    · rw [if_neg y]
      have ny := fun z => y (ht.mpr z)
      refine fstI_some ((hs b hb).mpr (fun o ho => ?_)) n 0 (Nat.zero_le b) (by omega) (fun k _ hk => ?_)
      · by_cases z : o = b
        · exact Or.inl z
        · right
          have := hmax o ho
          rcases Int32.lt_or_eq_of_le this with q | q
          · exact q
          · exact absurd ⟨o, ho, z, q⟩ ny
      · cases hc : strF g n k
        · rfl
        · exfalso
          have hc := (hs k (by omega)).mp hc
          rcases hc b hb with z2 | z2
          · omega
          · exact absurd z2 (Int32.not_lt.mpr (hmax k (by omega)))
