/-! the law's loop: how one call of it runs -/
abbrev lcs (x : Int32) (x5 x6 : Option Value) : XL := [orf xSCR, orf 0, orf 169, orf 214, oi x, x5, x6]
abbrev argP (i c : Nat) : Prop := xnth xPL i = some (.aload 0) ∧ xnth xPL (i + 1) = some (.iload 4) ∧ xnth xPL (i + 2) = some (.iconst (c : Int)) ∧ xnth xPL (i + 3) = some .iadd ∧ xnth xPL (i + 4) = some .iaload ∧ Int32.ofInt (c : Int) = nI c
def argsB : Nat → List Nat → Bool
  | _, [] => true
  | i, c :: cs => decide (argP i c) && argsB (i + 5) cs
abbrev calP (i k y cnt : Nat) : Prop := xnth xPL i = some (.invokeinterface y cnt) ∧ cnt / 64 = k + 1 ∧ ¬ y = 999
def casB (i mc mm : Nat) (cs : List Nat) : Bool := decide (xnth xPL i = some (.aload 1)) && argsB (i + 1) cs && decide (calP (i + 1 + 5 * cs.length) 12 mc (833 + cs.length)) && decide (xnth xPL (i + 2 + 5 * cs.length) = some (.aload 2)) && argsB (i + 3 + 5 * cs.length) cs && decide (calP (i + 3 + 10 * cs.length) 13 mm (897 + cs.length)) && decide (xnth xPL (i + 4 + 10 * cs.length) = some (.if_icmp .eq 822))
theorem xi_scr {F' : XF} {rt : Option FieldType} {K' : XKt} {C : XCt} {Q : XQt} {i : Nat} {loc : XL} {r : List Value} {w : XWd} {x : Int32} (h0 : xnth w xSCR = none) : xi F' rt K' C Q (some .iaload) i loc (.int x :: .ref xSCR :: r) w = (xSCR = xSCR ∧ vp_in x F'.1 ∧ K' (i + 1) loc (.int (F'.2.1 x.toNatClampNeg) :: r) w) := by
  unfold xi
  simp only [xir, h0]
theorem xi_lenS {F' : XF} {rt : Option FieldType} {K' : XKt} {C : XCt} {Q : XQt} {i : Nat} {loc : XL} {r : List Value} {w : XWd} (h0 : xnth w xSCR = none) : xi F' rt K' C Q (some .arraylength) i loc (.ref xSCR :: r) w = K' (i + 1) loc (.int (Int32.ofNat F'.1) :: r) w := by
  unfold xi
  simp only [x1r, h0, ↓reduceIte]
theorem xi_cal {F' : XF} {rt : Option FieldType} {K' : XKt} {C : XCt} {Q : XQt} {i : Nat} {loc : XL} {w : XWd} {z m cnt ci : Nat} {fs as st : List Value} (hc : cnt / 64 = ci + 1) (e1 : (st.take (cnt % 64)).reverse = .ref z :: as) (h0 : xnth w z = some (.inr (ci, fs))) : xi F' rt K' C Q (some (.invokeinterface m cnt)) i loc st w = ((st.drop (cnt % 64)).length + cnt % 64 = st.length ∧ ((st.drop (cnt % 64)).map fun v => v.category).sum ≤ 8 ∧ C m (.ref z :: as) w fun v w' => K' (i + 1) loc (v.toList ++ st.drop (cnt % 64)) w') := by
  unfold xi
  simp only [hc, e1, h0, ↓reduceIte]
section XLR
variable {L : Nat} {xs : Nat → Int32} {rv : Int32 → Int32 → Int32 → Int32 → Option Int32} {i b c : Nat} {x5 x6 : Option Value} {st : List Value} {w : XWd} {loc : XL}
abbrev LW (L : Nat) (xs : Nat → Int32) (rv : Int32 → Int32 → Int32 → Int32 → Option Int32) : XKt := XWp (xF L xs) (some .boolean) xPL (CL rv (xF L xs) xmeths 100) lawQ
theorem lw_fold (h : xi (xF L xs) (some .boolean) (LW L xs rv) (CL rv (xF L xs) xmeths 100) lawQ (xnth xPL i) i loc st w) : LW L xs rv i loc st w := XWp.fold (CL_mono rv _ _ _) h
theorem lw_ld {k r : Nat} (hP : xnth xPL i = some (.aload k)) (hl : xnth loc k = some (some (.ref r))) (h : LW L xs rv (i + 1) loc (.ref r :: st) w) : LW L xs rv i loc st w := by
  refine lw_fold ?_
  rw [hP]
  unfold xi
  simp only [xld, hl]
  exact h
theorem lw_scr {k : Nat} {x : Int32} (hP : xnth xPL i = some .iaload) (hw : w.length < 900000) (hx : x = nI k) (hk : k < L) (hL : L ≤ 3584) (h : LW L xs rv (i + 1) loc (.int (xs k) :: st) w) : LW L xs rv i loc (.int x :: .ref xSCR :: st) w := by
  subst hx
  refine lw_fold ?_
  rw [hP, xi_scr (xnth_none w xSCR (by have : xSCR = 1000000 := rfl; omega))]
  refine ⟨rfl, (show vp_in (nI k) L from vp_in_nI hk (by omega)), ?_⟩
  rw [nI_clamp (by omega)]
  exact h
theorem lw_arg (hb : argP i c) (hw : w.length < 900000) (hk : b + c < L) (hL : L ≤ 3584) (h : LW L xs rv (i + 5) (lcs (nI b) x5 x6) (.int (xs (b + c)) :: st) w) : LW L xs rv i (lcs (nI b) x5 x6) st w := by
  obtain ⟨e0, e1, e2, e3, e4, e5⟩ := hb
  refine lw_ld e0 rfl ?_
  refine lw_fold ?_
  rw [e1]
  show LW L xs rv (i + 2) (lcs (nI b) x5 x6) (.int (nI b) :: .ref xSCR :: st) w
  refine lw_fold ?_
  rw [e2]
  show LW L xs rv (i + 3) (lcs (nI b) x5 x6) (.int (Int32.ofInt (c : Int)) :: .int (nI b) :: .ref xSCR :: st) w
  refine lw_fold ?_
  rw [e3]
  show LW L xs rv (i + 4) (lcs (nI b) x5 x6) (.int (nI b + Int32.ofInt (c : Int)) :: .ref xSCR :: st) w
  refine lw_scr e4 hw (by rw [e5, nI_add]) hk hL h
theorem lw_args (hw : w.length < 900000) (hb7 : b + 7 ≤ L) (hL : L ≤ 3584) : ∀ (cs : List Nat) (i : Nat) (st : List Value), argsB i cs = true → (∀ c, c ∈ cs → c ≤ 6) → LW L xs rv (i + 5 * cs.length) (lcs (nI b) x5 x6) ((cs.map fun c => Value.int (xs (b + c))).reverse ++ st) w → LW L xs rv i (lcs (nI b) x5 x6) st w
  | [], i, st, _, _, h => h
  | c :: cs, i, st, hb, hc, h => by
    simp only [argsB, Bool.and_eq_true, decide_eq_true_eq] at hb
    have c6 := hc c (List.mem_cons_self ..)
    refine lw_arg hb.1 hw (by omega) hL (lw_args hw hb7 hL cs (i + 5) _ hb.2 (fun c h => hc c (List.mem_cons_of_mem _ h)) ?_)
    rw [List.length_cons, show i + 5 * (cs.length + 1) = i + 5 + 5 * cs.length by omega, List.map_cons, List.reverse_cons, List.append_assoc] at h
    exact h
theorem lw_call {k y cnt z : Nat} {fs as r : List Value} (hb : calP i k y cnt) (hst : st = as.reverse ++ (.ref z :: r)) (hn : cnt % 64 = as.length + 1) (hr : (r.map fun v => v.category).sum ≤ 8) (hz : xnth w z = some (.inr (k, fs))) (h : XC (xF L xs) xmeths 100 y (.ref z :: as) w (fun v w' => LW L xs rv (i + 1) loc (v.toList ++ r) w')) : LW L xs rv i loc st w := by
  obtain ⟨e0, e1, e2⟩ := hb
  subst hst
  have t1 : ((as.reverse ++ (.ref z :: r)).take (cnt % 64)).reverse = .ref z :: as := by
    rw [hn, show as.reverse ++ (.ref z :: r) = (as.reverse ++ [.ref z]) ++ r by simp, List.take_left' (by simp)]
    simp
  have t2 : (as.reverse ++ (.ref z :: r)).drop (cnt % 64) = r := by
    rw [hn, show as.reverse ++ (.ref z :: r) = (as.reverse ++ [.ref z]) ++ r by simp, List.drop_left' (by simp)]
  refine lw_fold ?_
  rw [e0, xi_cal e1 t1 hz, t2]
  refine ⟨by rw [hn]; simp; omega, hr, ?_⟩
  unfold CL
  rw [if_neg e2]
  exact h
/-- a case whose arguments are ints of the script -/
theorem lw_case {I' : XWd → Prop} {mc mm : Nat} {cs : List Nat} (hb : casB i mc mm cs = true) (hc : ∀ c, c ∈ cs → c ≤ 6) (hl : cs.length ≤ 4) (ok : OkW w) (hb7 : b + 7 ≤ L) (hL : L ≤ 3584) (hp : PR (xF L xs) I' mc mm (cs.map fun c => Value.int (xs (b + c))) w) (hn : ∀ w2, I' w2 → LW L xs rv 822 (lcs (nI b) x5 x6) [] w2) : LW L xs rv i (lcs (nI b) x5 x6) [] w := by
  simp only [casB, Bool.and_eq_true, decide_eq_true_eq] at hb
  obtain ⟨⟨⟨⟨⟨⟨h1, h2⟩, h3⟩, h4⟩, h5⟩, h6⟩, h7⟩ := hb
  obtain ⟨fs, z0⟩ := ok.2.1
  refine lw_ld h1 rfl (lw_args ok.1 hb7 hL cs _ _ h2 hc ?_)
  refine lw_call h3 rfl (by rw [List.length_map]; omega) (by decide) z0 (XC_mono 100 _ _ _ _ _ (fun v1 w1 hv => ?_) hp)
  obtain ⟨x, rfl, ok1, hp1⟩ := hv
  obtain ⟨fs1, z1⟩ := ok1.2.2.1
  rw [show i + 1 + 5 * cs.length + 1 = i + 2 + 5 * cs.length by omega]
  refine lw_ld h4 rfl ?_
  rw [show i + 2 + 5 * cs.length + 1 = i + 3 + 5 * cs.length by omega]
  refine lw_args ok1.1 hb7 hL cs _ _ h5 hc ?_
  rw [show i + 3 + 5 * cs.length + 5 * cs.length = i + 3 + 10 * cs.length by omega]
  refine lw_call (r := [.int x]) h6 rfl (by rw [List.length_map]; omega) (by show 1 ≤ 8; decide) z1 (XC_mono 100 _ _ _ _ _ (fun v2 w2 hv => ?_) hp1)
  obtain ⟨rfl, hi⟩ := hv
  rw [show i + 3 + 10 * cs.length + 1 = i + 4 + 10 * cs.length by omega]
  refine lw_fold ?_
  rw [h7]
  exact ⟨fun _ => hn w2 hi, fun y => absurd rfl y⟩
end XLR
