/-! the law's loop -/
abbrev bolP (i : Nat) : Prop := xnth xPL i = some (.ifCond .eq ((i + 3 : Nat) : Int)) ∧ xnth xPL (i + 1) = some (.iconst 1) ∧ xnth xPL (i + 2) = some (.goto ((i + 4 : Nat) : Int)) ∧ xnth xPL (i + 3) = some (.iconst 0)
abbrev lonP (i c : Nat) : Prop := argP i c ∧ xnth xPL (i + 5) = some .i2l ∧ xnth xPL (i + 6) = some (.iconst 32) ∧ xnth xPL (i + 7) = some .lshl ∧ argP (i + 8) (c + 1) ∧ xnth xPL (i + 13) = some .i2l ∧ xnth xPL (i + 14) = some (.ldc2_w 4294967295) ∧ xnth xPL (i + 15) = some .land ∧ xnth xPL (i + 16) = some .lor
def lgV (m : Int64) (x y : Int32) : Int64 := (x.toInt64 <<< ((Int32.ofInt 32).toInt64 &&& 63)) ||| (y.toInt64 &&& m)
theorem xi_lal {F' : XF} {rt : Option FieldType} {K' : XKt} {C : XCt} {Q : XQt} {i z : Nat} {loc : XL} {r : List Value} {w : XWd} {x : Int32} {f : Fl} (h0 : xnth w z = some (xlng 1 f)) : xi F' rt K' C Q (some .laload) i loc (.int x :: .ref z :: r) w = (vp_in x 1 ∧ K' (i + 1) loc (.long (f x.toNatClampNeg) :: r) w) := by
  unfold xi
  simp only [xir, h0, xlng]
section XLO
variable {L : Nat} {xs : Nat → Int32} {rv : Int32 → Int32 → Int32 → Int32 → Option Int32} {i b c j : Nat} {x5 x6 : Option Value} {st : List Value} {w : XWd} {loc : XL}
theorem lw_bol {x : Int32} (hb : bolP i) (h : LW L xs rv (i + 4) loc (.int (b2i (¬ x = 0)) :: st) w) : LW L xs rv i loc (.int x :: st) w := by
  obtain ⟨e0, e1, e2, e3⟩ := hb
  refine lw_fold ?_
  rw [e0]
  refine ⟨fun q => ?_, fun q => ?_⟩
  · have q : x = 0 := q
    show LW L xs rv (i + 3) loc st w
    refine lw_fold ?_
    rw [e3]
    rw [b2i_f (fun y => y q)] at h
    exact h
  · have q : ¬ x = 0 := q
    show LW L xs rv (i + 1) loc st w
    refine lw_fold ?_
    rw [e1]
    show LW L xs rv (i + 2) loc (.int (Int32.ofInt 1) :: st) w
    refine lw_fold ?_
    rw [e2]
    rw [b2i_t q] at h
    exact h
theorem lw_lon (hb : lonP i c) (hw : w.length < 900000) (hk : b + (c + 1) < L) (hL : L ≤ 3584) (h : LW L xs rv (i + 17) (lcs (nI b) x5 x6) (.long (lgV (Int64.ofNat 4294967295) (xs (b + c)) (xs (b + (c + 1)))) :: st) w) : LW L xs rv i (lcs (nI b) x5 x6) st w := by
  obtain ⟨e0, e1, e2, e3, e4, e5, e6, e7, e8⟩ := hb
  refine lw_arg e0 hw (by omega) hL ?_
  refine lw_fold ?_
  rw [e1]
  show LW L xs rv (i + 6) (lcs (nI b) x5 x6) (.long (xs (b + c)).toInt64 :: st) w
  refine lw_fold ?_
  rw [e2]
  show LW L xs rv (i + 7) (lcs (nI b) x5 x6) (.int (Int32.ofInt 32) :: .long (xs (b + c)).toInt64 :: st) w
  refine lw_fold ?_
  rw [e3]
  show LW L xs rv (i + 8) (lcs (nI b) x5 x6) (.long ((xs (b + c)).toInt64 <<< ((Int32.ofInt 32).toInt64 &&& 63)) :: st) w
  refine lw_arg e4 hw hk hL ?_
  refine lw_fold ?_
  show xi (xF L xs) (some .boolean) (LW L xs rv) (CL rv (xF L xs) xmeths 100) lawQ (xnth xPL (i + 13)) (i + 13) (lcs (nI b) x5 x6) (.int (xs (b + (c + 1))) :: .long ((xs (b + c)).toInt64 <<< ((Int32.ofInt 32).toInt64 &&& 63)) :: st) w
  rw [e5]
  show LW L xs rv (i + 14) (lcs (nI b) x5 x6) (.long (xs (b + (c + 1))).toInt64 :: .long ((xs (b + c)).toInt64 <<< ((Int32.ofInt 32).toInt64 &&& 63)) :: st) w
  refine lw_fold ?_
  rw [e6]
  show LW L xs rv (i + 15) (lcs (nI b) x5 x6) (.long (Int64.ofNat 4294967295) :: .long (xs (b + (c + 1))).toInt64 :: .long ((xs (b + c)).toInt64 <<< ((Int32.ofInt 32).toInt64 &&& 63)) :: st) w
  refine lw_fold ?_
  rw [e7]
  show LW L xs rv (i + 16) (lcs (nI b) x5 x6) (.long ((xs (b + (c + 1))).toInt64 &&& Int64.ofNat 4294967295) :: .long ((xs (b + c)).toInt64 <<< ((Int32.ofInt 32).toInt64 &&& 63)) :: st) w
  refine lw_fold ?_
  rw [e8]
  exact h
theorem lw_cmp {x : Int32} (hP : xnth xPL i = some (.if_icmp .eq 822)) (h : LW L xs rv 822 loc [] w) : LW L xs rv i loc [.int x, .int x] w := by
  refine lw_fold ?_
  rw [hP]
  exact ⟨fun _ => h, fun y => absurd rfl y⟩
theorem lw_feed {I' : XWd → Prop} (ok : OkW w) (hb7 : b + 7 ≤ L) (hL : L ≤ 3584) (hp : ∀ xa xb xc, PR (xF L xs) I' 18 169 [.long xa, .long xb, .long xc] w) (hn : ∀ w2, I' w2 → LW L xs rv 822 (lcs (nI b) x5 x6) [] w2) : LW L xs rv 25 (lcs (nI b) x5 x6) [] w := by
  obtain ⟨fs, z0⟩ := ok.2.1
  refine lw_ld (k := 1) (r := 0) (by decide +kernel) rfl (lw_lon (c := 1) (by decide +kernel) ok.1 (by omega) hL (lw_lon (c := 3) (by decide +kernel) ok.1 (by omega) hL (lw_lon (c := 5) (by decide +kernel) ok.1 (by omega) hL ?_)))
  refine lw_call (k := 12) (y := 18) (cnt := 836) (as := [.long (lgV (Int64.ofNat 4294967295) (xs (b + 1)) (xs (b + (1 + 1)))), .long (lgV (Int64.ofNat 4294967295) (xs (b + 3)) (xs (b + (3 + 1)))), .long (lgV (Int64.ofNat 4294967295) (xs (b + 5)) (xs (b + (5 + 1))))]) (by decide +kernel) rfl rfl (by decide) z0 (XC_mono 100 _ _ _ _ _ (fun v1 w1 hv => ?_) (hp _ _ _))
  obtain ⟨x, rfl, ok1, hp1⟩ := hv
  obtain ⟨fs1, z1⟩ := ok1.2.2.1
  refine lw_ld (k := 2) (r := 169) (by decide +kernel) rfl (lw_lon (c := 1) (by decide +kernel) ok1.1 (by omega) hL (lw_lon (c := 3) (by decide +kernel) ok1.1 (by omega) hL (lw_lon (c := 5) (by decide +kernel) ok1.1 (by omega) hL ?_)))
  refine lw_call (k := 13) (y := 169) (cnt := 900) (r := [.int x]) (as := [.long (lgV (Int64.ofNat 4294967295) (xs (b + 1)) (xs (b + (1 + 1)))), .long (lgV (Int64.ofNat 4294967295) (xs (b + 3)) (xs (b + (3 + 1)))), .long (lgV (Int64.ofNat 4294967295) (xs (b + 5)) (xs (b + (5 + 1))))]) (by decide +kernel) rfl rfl (by show 1 ≤ 8; decide) z1 (XC_mono 100 _ _ _ _ _ (fun v2 w2 hv => ?_) hp1)
  obtain ⟨rfl, hi⟩ := hv
  exact lw_cmp (by decide +kernel) (hn w2 hi)
theorem b2i_01 {p : Prop} [Decidable p] : b2i p = 0 ∨ b2i p = 1 := by
  by_cases q : p
  · exact Or.inr (b2i_t q)
  · exact Or.inl (b2i_f q)
theorem lw_see {I' : XWd → Prop} (ok : OkW w) (hb7 : b + 7 ≤ L) (hL : L ≤ 3584) (hp : ∀ x y u gr, (gr = 0 ∨ gr = 1) → PR (xF L xs) I' 143 251 [.int x, .int y, .int u, .int gr] w) (hn : ∀ w2, I' w2 → LW L xs rv 822 (lcs (nI b) x5 x6) [] w2) : LW L xs rv 542 (lcs (nI b) x5 x6) [] w := by
  obtain ⟨fs, z0⟩ := ok.2.1
  refine lw_ld (k := 1) (r := 0) (by decide +kernel) rfl (lw_arg (c := 1) (by decide +kernel) ok.1 (by omega) hL (lw_arg (c := 2) (by decide +kernel) ok.1 (by omega) hL (lw_arg (c := 3) (by decide +kernel) ok.1 (by omega) hL (lw_arg (c := 4) (by decide +kernel) ok.1 (by omega) hL (lw_bol (by decide +kernel) ?_)))))
  refine lw_call (k := 12) (y := 143) (cnt := 837) (as := [.int (xs (b + 1)), .int (xs (b + 2)), .int (xs (b + 3)), .int (b2i (¬ xs (b + 4) = 0))]) (by decide +kernel) rfl rfl (by decide) z0 (XC_mono 100 _ _ _ _ _ (fun v1 w1 hv => ?_) (hp _ _ _ _ b2i_01))
  obtain ⟨x, rfl, ok1, hp1⟩ := hv
  obtain ⟨fs1, z1⟩ := ok1.2.2.1
  refine lw_ld (k := 2) (r := 169) (by decide +kernel) rfl (lw_arg (c := 1) (by decide +kernel) ok1.1 (by omega) hL (lw_arg (c := 2) (by decide +kernel) ok1.1 (by omega) hL (lw_arg (c := 3) (by decide +kernel) ok1.1 (by omega) hL (lw_arg (c := 4) (by decide +kernel) ok1.1 (by omega) hL (lw_bol (by decide +kernel) ?_)))))
  refine lw_call (k := 13) (y := 251) (cnt := 901) (r := [.int x]) (as := [.int (xs (b + 1)), .int (xs (b + 2)), .int (xs (b + 3)), .int (b2i (¬ xs (b + 4) = 0))]) (by decide +kernel) rfl rfl (by show 1 ≤ 8; decide) z1 (XC_mono 100 _ _ _ _ _ (fun v2 w2 hv => ?_) hp1)
  obtain ⟨rfl, hi⟩ := hv
  exact lw_cmp (by decide +kernel) (hn w2 hi)
theorem lw_mark {I' : XWd → Prop} (ok : OkW w) (hb7 : b + 7 ≤ L) (hL : L ≤ 3584) (hp : ∀ x y, PR (xF L xs) I' 159 263 [.int x, .int y] w) (hn : ∀ w2, I' w2 → LW L xs rv 822 (lcs (nI b) x5 x6) [] w2) : LW L xs rv 770 (lcs (nI b) x5 x6) [] w := by
  obtain ⟨fs, z0⟩ := ok.2.1
  refine lw_ld (k := 1) (r := 0) (by decide +kernel) rfl (lw_arg (c := 1) (by decide +kernel) ok.1 (by omega) hL (lw_arg (c := 2) (by decide +kernel) ok.1 (by omega) hL (lw_bol (by decide +kernel) ?_)))
  refine lw_call (k := 12) (y := 159) (cnt := 835) (as := [.int (xs (b + 1)), .int (b2i (¬ xs (b + 2) = 0))]) (by decide +kernel) rfl rfl (by decide) z0 (XC_mono 100 _ _ _ _ _ (fun v1 w1 hv => ?_) (hp _ _))
  obtain ⟨x, rfl, ok1, hp1⟩ := hv
  obtain ⟨fs1, z1⟩ := ok1.2.2.1
  refine lw_ld (k := 2) (r := 169) (by decide +kernel) rfl (lw_arg (c := 1) (by decide +kernel) ok1.1 (by omega) hL (lw_arg (c := 2) (by decide +kernel) ok1.1 (by omega) hL (lw_bol (by decide +kernel) ?_)))
  refine lw_call (k := 13) (y := 263) (cnt := 899) (r := [.int x]) (as := [.int (xs (b + 1)), .int (b2i (¬ xs (b + 2) = 0))]) (by decide +kernel) rfl rfl (by show 1 ≤ 8; decide) z1 (XC_mono 100 _ _ _ _ _ (fun v2 w2 hv => ?_) hp1)
  obtain ⟨rfl, hi⟩ := hv
  exact lw_cmp (by decide +kernel) (hn w2 hi)
theorem lw_rests {I' : XWd → Prop} (ok : OkW w) (hb7 : b + 7 ≤ L) (hL : L ≤ 3584) (hp : ∀ x y u v, XRs rv [.ref 0, .int x, .int y, .int u, .int v, .ref 214] w (fun v1 w1 => ∃ k : Int32, v1 = some (.int k) ∧ OkW w1 ∧ RsP (xF L xs) I' [.int x, .int y, .int u, .int v] k w1)) (hn : ∀ x5 x6 w2, I' w2 → LW L xs rv 822 (lcs (nI b) x5 x6) [] w2) : LW L xs rv 668 (lcs (nI b) x5 x6) [] w := by
  refine lw_ld (k := 1) (r := 0) (by decide +kernel) rfl (lw_arg (c := 1) (by decide +kernel) ok.1 (by omega) hL (lw_arg (c := 2) (by decide +kernel) ok.1 (by omega) hL (lw_arg (c := 3) (by decide +kernel) ok.1 (by omega) hL (lw_arg (c := 4) (by decide +kernel) ok.1 (by omega) hL (lw_ld (k := 3) (r := 214) (by decide +kernel) rfl ?_)))))
  refine lw_fold ?_
  rw [show xnth xPL (668 + 1 + 5 + 5 + 5 + 5 + 1) = some (.invokedynamic 0) by decide +kernel]
  refine ⟨by decide, ?_⟩
  show CL rv (xF L xs) xmeths 100 999 [.ref 0, .int (xs (b + 1)), .int (xs (b + 2)), .int (xs (b + 3)), .int (xs (b + 4)), .ref 214] w (fun v1 w1 => LW L xs rv 691 (lcs (nI b) x5 x6) (v1.toList ++ []) w1)
  unfold CL
  rw [if_pos rfl]
  obtain ⟨v1, w1, q1, -, -, q2⟩ := XRs_of (hp (xs (b + 1)) (xs (b + 2)) (xs (b + 3)) (xs (b + 4)))
  refine q2 _ ?_
  obtain ⟨k, rfl, ok1, hp1⟩ := q1
  obtain ⟨fs1, z1⟩ := ok1.2.2.1
  show LW L xs rv 691 (lcs (nI b) x5 x6) [.int k] w1
  refine lw_fold ?_
  rw [show xnth xPL 691 = some (.istore 5) by decide +kernel]
  refine ⟨nb rfl, ?_⟩
  show LW L xs rv 692 (lcs (nI b) (oi k) x6) [] w1
  refine lw_ld (k := 2) (r := 169) (by decide +kernel) rfl (lw_arg (c := 1) (by decide +kernel) ok1.1 (by omega) hL (lw_arg (c := 2) (by decide +kernel) ok1.1 (by omega) hL (lw_arg (c := 3) (by decide +kernel) ok1.1 (by omega) hL (lw_arg (c := 4) (by decide +kernel) ok1.1 (by omega) hL ?_))))
  refine lw_call (k := 13) (y := 258) (cnt := 901) (r := []) (as := [.int (xs (b + 1)), .int (xs (b + 2)), .int (xs (b + 3)), .int (xs (b + 4))]) (by decide +kernel) rfl rfl (by decide) z1 (XC_mono 100 _ _ _ _ _ (fun v2 w2 hv => ?_) hp1)
  obtain ⟨y, rfl, ok2, hy, hp2⟩ := hv
  obtain ⟨fs2, z2⟩ := ok2.2.2.1
  show LW L xs rv 714 (lcs (nI b) (oi k) x6) [.int y] w2
  refine lw_fold ?_
  rw [show xnth xPL 714 = some (.istore 6) by decide +kernel]
  refine ⟨nb rfl, ?_⟩
  show LW L xs rv 715 (lcs (nI b) (oi k) (oi y)) [] w2
  refine lw_ld (k := 2) (r := 169) (by decide +kernel) rfl ?_
  refine lw_call (k := 13) (y := 168) (cnt := 897) (r := []) (as := []) (by decide +kernel) rfl rfl (by decide) z2 (XC_mono 100 _ _ _ _ _ (fun v3 w3 hv => ?_) hp2)
  obtain ⟨rfl, hi, e3⟩ := hv
  show LW L xs rv 717 (lcs (nI b) (oi k) (oi y)) [.int k] w3
  refine lw_fold ?_
  rw [show xnth xPL 717 = some (.iload 5) by decide +kernel]
  show LW L xs rv 718 (lcs (nI b) (oi k) (oi y)) [.int k, .int k] w3
  refine lw_fold ?_
  rw [show xnth xPL 718 = some (.if_icmp .eq 721) by decide +kernel]
  refine ⟨fun _ => ?_, fun y => absurd rfl y⟩
  show LW L xs rv 721 (lcs (nI b) (oi k) (oi y)) [] w3
  have fin : LW L xs rv 732 (lcs (nI b) (oi k) (oi y)) [] w3 := by
    refine lw_fold ?_
    rw [show xnth xPL 732 = some (.goto 822) by decide +kernel]
    exact hn _ _ w3 hi
  refine lw_fold ?_
  rw [show xnth xPL 721 = some (.iload 5) by decide +kernel]
  show LW L xs rv 722 (lcs (nI b) (oi k) (oi y)) [.int k] w3
  refine lw_fold ?_
  rw [show xnth xPL 722 = some (.ifCond .ne 732) by decide +kernel]
  refine ⟨fun _ => fin, fun q => ?_⟩
  have k0 : k = 0 := Classical.not_not.mp q
  obtain ⟨f, zf, ef⟩ := hy k0
  rw [← e3] at zf
  show LW L xs rv 723 (lcs (nI b) (oi k) (oi y)) [] w3
  refine lw_ld (k := 3) (r := 214) (by decide +kernel) rfl ?_
  refine lw_fold ?_
  rw [show xnth xPL (723 + 1) = some (.iconst 0) by decide +kernel]
  show LW L xs rv 725 (lcs (nI b) (oi k) (oi y)) [.int (nI 0), .ref 214] w3
  refine lw_fold ?_
  rw [show xnth xPL 725 = some .laload by decide +kernel, xi_lal zf]
  refine ⟨vp_in_nI (by decide) (by decide), ?_⟩
  rw [nI_clamp (by decide), ef]
  show LW L xs rv 726 (lcs (nI b) (oi k) (oi y)) [.long y.toInt64] w3
  refine lw_fold ?_
  rw [show xnth xPL 726 = some (.iload 6) by decide +kernel]
  show LW L xs rv 727 (lcs (nI b) (oi k) (oi y)) [.int y, .long y.toInt64] w3
  refine lw_fold ?_
  rw [show xnth xPL 727 = some .i2l by decide +kernel]
  show LW L xs rv 728 (lcs (nI b) (oi k) (oi y)) [.long y.toInt64, .long y.toInt64] w3
  refine lw_fold ?_
  rw [show xnth xPL 728 = some .lcmp by decide +kernel]
  show LW L xs rv 729 (lcs (nI b) (oi k) (oi y)) [.int (lg_cmp y.toInt64 y.toInt64)] w3
  refine lw_fold ?_
  rw [show xnth xPL 729 = some (.ifCond .eq 732) by decide +kernel]
  exact vLE (fun _ => fin) (fun y => absurd rfl y)
end XLO
