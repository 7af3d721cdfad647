/-! the fewest lemons; the chance -/
def ldA (s : TShip) (g pl : Fn) (n z t w : Nat) (man : Int32) (b : Nat) : Bool := decide (capt (runG s pl n z t (skG s.lemon b g) w) n = man)
def fewV (L : Nat → Bool) (a : Nat) : Nat → Int32
  | 0 => -1
  | b + 1 => if b &&& a = 0 ∧ (fewV L a b = -1 ∨ bcnt (nI b) < bcnt (fewV L a b)) ∧ L b = true then nI b else fewV L a b
/-- through seas that are rough where a bit is set -/
def runS (s : TShip) (pl : Fn) (n b : Nat) (g : Fn) : Nat → Fn
  | 0 => g
  | j + 1 => newG s (runS s pl n b g j) pl (if b.testBit j then 2 else 0) n
def wgtV (odds : Int32) (b : Nat) : Nat → Int32
  | 0 => 1000000
  | j + 1 => wgtV odds b j / 10 * (if b.testBit j then odds else 10 - odds)
def chnV (s : TShip) (g pl : Fn) (n w : Nat) (odds man : Int32) : Nat → Int32
  | 0 => 0
  | b + 1 => if capt (runS s pl n b g w) n = man then chnV s g pl n w odds man b + wgtV odds b w else chnV s g pl n w odds man b
theorem runS_ok {s : TShip} {p g : Fn} {n b q : Nat} (h : GP g p n q) : ∀ j, GP (runS s p n b g j) p n q
  | 0 => h
  | j + 1 => newG_ok (runS_ok h j)
section XLM
variable {L : Nat} {xs : Nat → Int32} {d : Nat} {Q : XQt} {pn pc : Int32} {tok : TTok} {ship : TShip} {nn : Int64} {tl : Int32} {draft : TShip} {vd : TVoy} {log : TLog} {trial : TCrew} {sta : TSta} {says : Fn} {seed : Int64} {past : Nat → TCrew} {marks : Nat → TLog} {mi : TMi} {ma : TMa} {mb : TMb} {K : XWd}
variable {stk kn : Fn} {n p z t : Nat}
theorem c_leadsAfter {a b w : Nat} {man : Int32} (so : ShOk ship n p z) (hkn : KOk kn (RV ship.law)) (gp : GP log.crew.green log.crew.place n p) (lo : log.crew.over = nI t) (ht : t < 2 ^ 30) (ha : a < 64) (hb : b < 64) (hs : log.crew.sucked = nI a) (hf : b &&& a = 0) (hw : w ≤ 100) (h : ∀ stk kn trial, KOk kn (RV ship.law) → Q (some (.int (b2i (ldA ship log.crew.green log.crew.place n z t w man b = true)))) (clsW pn pc tok (ship.wlaw (ship.law.wm stk kn)) nn tl draft vd log trial sta says seed past marks K)) : XC (xF L xs) xmeths (d + 5) 132 [.ref 48, .int man, .int (nI w), .int (nI b)] (clsW pn pc tok (ship.wlaw (ship.law.wm stk kn)) nn tl draft vd log trial sta says seed past marks K) Q := by
  refine ⟨nb rfl, xgo [11] 20 ⟨rfl, nb rfl, t_copy so lo (fun trial tr => ⟨rfl, nb rfl, t_suckLemons so ha hb hs hf tr (fun trial su tr => ⟨nb rfl, ?_⟩)⟩)⟩⟩
  refine up_to (P := fun j => ∀ stk kn trial, KOk kn (RV ship.law) → Tr trial n (runG ship log.crew.place n z t (skG ship.lemon b log.crew.green) j) log.crew.place su (t + j) → XWp (xF L xs) (some .boolean) xP132 (XC (xF L xs) xmeths (d + 4)) Q 11 [orf 48, oi man, oi (nI w), oi (nI b), oi (nI j)] [] (clsW pn pc tok (ship.wlaw (ship.law.wm stk kn)) nn tl draft vd log trial sta says seed past marks K)) (n := w) (fun j hj ih stk kn trial hkn tr => xgo [11] 40 ?_) stk kn trial hkn tr
  refine pk_le w j (fun q => ?_) (fun q => ?_) rfl rfl (by omega) (by omega)
  · have e : j = w := by omega
    subst e
    have h := vR (h stk kn trial hkn)
    refine ⟨rfl, nb rfl, t_leader so tr ?_⟩
    exact And.intro (fun (q : ¬ capt _ n = man) => ⟨rfl, h.2 (fun z => q (of_decide_eq_true z))⟩) (fun (q : ¬ ¬ capt _ n = man) => ⟨rfl, h.1 (decide_eq_true (Classical.not_not.mp q))⟩)
  · have ih := ih (by omega)
    refine ⟨rfl, nb rfl, t_seaNow so tr (by omega) ⟨rfl, nb rfl, t_passWatch so hkn tr (runG_ok (skG_ok so.lemon gp) j) (so.sea _ (Nat.mod_lt _ so.z1)) (fun stk kn trial hkn tr => ?_)⟩⟩
    have ih := ih stk kn trial hkn tr
    rw [nI_succ] at ih
    exact ih
theorem c_fewestSucking {a w : Nat} {man : Int32} (so : ShOk ship n p z) (hkn : KOk kn (RV ship.law)) (gp : GP log.crew.green log.crew.place n p) (lo : log.crew.over = nI t) (ht : t < 2 ^ 30) (ha : a < 64) (hs : log.crew.sucked = nI a) (hw : w ≤ 100) (h : ∀ stk kn trial, KOk kn (RV ship.law) → Q (some (.int (fewV (ldA ship log.crew.green log.crew.place n z t w man) a (2 ^ n)))) (clsW pn pc tok (ship.wlaw (ship.law.wm stk kn)) nn tl draft vd log trial sta says seed past marks K)) : XC (xF L xs) xmeths (d + 6) 131 [.ref 48, .int man, .int (nI w)] (clsW pn pc tok (ship.wlaw (ship.law.wm stk kn)) nn tl draft vd log trial sta says seed past marks K) Q := by
  have n6 := so.n6
  have h64 : 2 ^ n ≤ 2 ^ 6 := Nat.pow_le_pow_right (by decide) n6
  have eM : (Int32.ofInt 1) <<< (ship.men &&& 31) = nI (2 ^ n) := by rw [so.men]; exact shl_of n (by omega)
  refine ⟨nb rfl, xgo [4] 20 ⟨nb rfl, nb rfl, ?_⟩⟩
  refine up_to (P := fun b => ∀ stk kn trial x5 x6, KOk kn (RV ship.law) → XWp (xF L xs) (some .int) xP131 (XC (xF L xs) xmeths (d + 5)) Q 4 [orf 48, oi man, oi (nI w), oi (fewV (ldA ship log.crew.green log.crew.place n z t w man) a b), oi (nI b), x5, x6] [] (clsW pn pc tok (ship.wlaw (ship.law.wm stk kn)) nn tl draft vd log trial sta says seed past marks K)) (n := 2 ^ n) (fun b hb ih stk kn trial x5 x6 hkn => xgo [4, 20, 32, 45] 40 ?_) stk kn trial none none hkn
  refine pk_le (2 ^ n) b (fun q => ?_) (fun q => ?_) eM rfl (by omega) (by omega)
  · have e : b = 2 ^ n := by omega
    rw [← e] at h
    exact h stk kn trial hkn
  · have ih := ih q
    rw [fewV, nI_succ] at ih
    generalize hv : fewV (ldA ship log.crew.green log.crew.place n z t w man) a b = v at *
    have skip : ∀ stk kn trial x5 x6, KOk kn (RV ship.law) → ¬ (b &&& a = 0 ∧ (v = -1 ∨ bcnt (nI b) < bcnt v) ∧ ldA ship log.crew.green log.crew.place n z t w man b = true) → XWp (xF L xs) (some .int) xP131 (XC (xF L xs) xmeths (d + 5)) Q 45 [orf 48, oi man, oi (nI w), oi v, oi (nI b), x5, x6] [] (clsW pn pc tok (ship.wlaw (ship.law.wm stk kn)) nn tl draft vd log trial sta says seed past marks K) := by
      intro stk kn trial x5 x6 hkn hn
      have ih := ih stk kn trial x5 x6 hkn
      rw [if_neg hn] at ih
      exact xgo [4] 20 ih
    have three : XWp (xF L xs) (some .int) xP131 (XC (xF L xs) xmeths (d + 5)) Q 32 [orf 48, oi man, oi (nI w), oi v, oi (nI b), oi (b2i (b &&& a = 0)), x6] [.int (b2i (v = -1 ∨ bcnt (nI b) < bcnt v))] (clsW pn pc tok (ship.wlaw (ship.law.wm stk kn)) nn tl draft vd log trial sta says seed past marks K) := by
      refine xgo [4, 45] 20 ⟨nb rfl, ?_⟩
      refine vB0 (fun q1 => skip stk kn trial _ _ hkn (fun y => q1 y.1)) (fun q1 => ?_)
      refine vB0 (fun q2 => skip stk kn trial _ _ hkn (fun y => q2 y.2.1)) (fun q2 => ?_)
      refine ⟨rfl, nb rfl, c_leadsAfter so hkn gp lo ht ha (by omega) hs q1 hw (fun stk kn trial hkn => ?_)⟩
      refine vB0 (fun q3 => skip stk kn trial _ _ hkn (fun y => q3 y.2.2)) (fun q3 => ⟨nb rfl, ?_⟩)
      have ih := ih stk kn trial (oi (b2i (b &&& a = 0))) (oi (b2i (v = -1 ∨ bcnt (nI b) < bcnt v))) hkn
      rw [if_pos ⟨q1, q2, q3⟩] at ih
      exact xgo [4] 20 ih
    have two : XWp (xF L xs) (some .int) xP131 (XC (xF L xs) xmeths (d + 5)) Q 20 [orf 48, oi man, oi (nI w), oi v, oi (nI b), x5, x6] [.int (b2i (b &&& a = 0))] (clsW pn pc tok (ship.wlaw (ship.law.wm stk kn)) nn tl draft vd log trial sta says seed past marks K) := by
      refine xgo [4, 32] 20 ⟨nb rfl, ?_⟩
      refine And.intro (fun (q1 : v = -1) => ?_) (fun (q1 : ¬ v = -1) => ?_)
      · rw [b2i_t (p := v = -1 ∨ bcnt (nI b) < bcnt v) (Or.inl q1)] at three
        exact three
      · refine ⟨rfl, nb rfl, c_bitCount ⟨rfl, nb rfl, c_bitCount ?_⟩⟩
        refine And.intro (fun (q2 : bcnt v ≤ bcnt (nI b)) => ?_) (fun (q2 : ¬ bcnt v ≤ bcnt (nI b)) => ?_)
        · rw [b2i_f (p := v = -1 ∨ bcnt (nI b) < bcnt v) (fun y => y.elim q1 (fun y => absurd y (Int32.not_lt.mpr q2)))] at three
          exact three
        · rw [b2i_t (p := v = -1 ∨ bcnt (nI b) < bcnt v) (Or.inr (Int32.not_le.mp q2))] at three
          exact three
    have h4 : b &&& a ≤ a := Nat.and_le_right
    refine And.intro (fun (q1 : ¬ nI b &&& log.crew.sucked = 0) => ?_) (fun (q1 : ¬ ¬ nI b &&& log.crew.sucked = 0) => ?_)
    · rw [hs, nI_and] at q1
      rw [b2i_f (fun y => q1 (by rw [y]; rfl))] at two
      exact two
    · have q1 := Classical.not_not.mp q1
      rw [hs, nI_and] at q1
      rw [b2i_t ((nI_eq (b := 0) (by omega) (by omega)).mp q1)] at two
      exact two
theorem c_leadingMillionths {w : Nat} {odds man : Int32} (so : ShOk ship n p z) (hkn : KOk kn (RV ship.law)) (gp : GP log.crew.green log.crew.place n p) (lo : log.crew.over = nI t) (ht : t < 2 ^ 30) (hw : w ≤ 6) (h : ∀ stk kn trial, KOk kn (RV ship.law) → Q (some (.int (chnV ship log.crew.green log.crew.place n w odds man (2 ^ w)))) (clsW pn pc tok (ship.wlaw (ship.law.wm stk kn)) nn tl draft vd log trial sta says seed past marks K)) : XC (xF L xs) xmeths (d + 5) 154 [.ref 48, .int man, .int (nI w), .int odds] (clsW pn pc tok (ship.wlaw (ship.law.wm stk kn)) nn tl draft vd log trial sta says seed past marks K) Q := by
  have h64 : 2 ^ w ≤ 2 ^ 6 := Nat.pow_le_pow_right (by decide) hw
  have eM : (Int32.ofInt 1) <<< (nI w &&& 31) = nI (2 ^ w) := shl_of w (by omega)
  refine ⟨nb rfl, xgo [4] 20 ⟨nb rfl, nb rfl, ?_⟩⟩
  refine up_to (P := fun b => ∀ stk kn trial x6 x7 x8, KOk kn (RV ship.law) → XWp (xF L xs) (some .int) xP154 (XC (xF L xs) xmeths (d + 4)) Q 4 [orf 48, oi man, oi (nI w), oi odds, oi (chnV ship log.crew.green log.crew.place n w odds man b), oi (nI b), x6, x7, x8] [] (clsW pn pc tok (ship.wlaw (ship.law.wm stk kn)) nn tl draft vd log trial sta says seed past marks K)) (n := 2 ^ w) (fun b hb ih stk kn trial x6 x7 x8 hkn => xgo [4, 18] 40 ?_) stk kn trial none none none hkn
  refine pk_le (2 ^ w) b (fun q => ?_) (fun q => ?_) eM rfl (by omega) (by omega)
  · have e : b = 2 ^ w := by omega
    rw [← e] at h
    exact h stk kn trial hkn
  · have ih := ih q
    rw [chnV, nI_succ] at ih
    refine ⟨rfl, nb rfl, t_copy so lo (fun trial tr => ⟨nb rfl, nb rfl, ?_⟩)⟩
    refine up_to (P := fun j => ∀ stk kn trial x8, KOk kn (RV ship.law) → Tr trial n (runS ship log.crew.place n b log.crew.green j) log.crew.place log.crew.sucked (t + j) → XWp (xF L xs) (some .int) xP154 (XC (xF L xs) xmeths (d + 4)) Q 18 [orf 48, oi man, oi (nI w), oi odds, oi (chnV ship log.crew.green log.crew.place n w odds man b), oi (nI b), oi (wgtV odds b j), oi (nI j), x8] [] (clsW pn pc tok (ship.wlaw (ship.law.wm stk kn)) nn tl draft vd log trial sta says seed past marks K)) (n := w) (fun j hj ih2 stk kn trial x8 hkn tr => xgo [4, 18, 31, 63] 60 ?_) stk kn trial x8 hkn tr
    refine pk_le w j (fun q => ?_) (fun q => ?_) rfl rfl (by omega) (by omega)
    · have e : j = w := by omega
      subst e
      have ih := ih stk kn trial (oi (wgtV odds b j)) (oi (nI j)) x8 hkn
      refine ⟨rfl, nb rfl, t_leader so tr ?_⟩
      refine And.intro (fun (q : ¬ capt _ n = man) => ?_) (fun (q : ¬ ¬ capt _ n = man) => ?_)
      · rw [if_neg q] at ih
        exact xgo [4] 20 ih
      · rw [if_pos (Classical.not_not.mp q)] at ih
        exact ⟨nb rfl, xgo [4] 20 ih⟩
    · have ih2 := ih2 q
      have hbit : bit (nI b) (nI j) ↔ b.testBit j = true := bit_iff (by omega) (by omega)
      have ten : ∀ x : Int32, Int32.ofInt 10 - x = 10 - x := fun _ => rfl
      refine And.intro (fun (q1 : ¬ bit (nI b) (nI j)) => ?_) (fun (q1 : ¬ ¬ bit (nI b) (nI j)) => ?_)
      · have q2 : ¬ b.testBit j = true := fun y => q1 (hbit.mpr y)
        refine xgo [4, 18] 60 ⟨nb rfl, vT rfl ⟨rfl, nb rfl, t_passWatch so hkn tr (runS_ok gp j) ⟨0, by omega, rfl⟩ (fun stk kn trial hkn tr => ⟨(show ¬ (10 : Int32) = 0 by decide), vT rfl ⟨nb rfl, ?_⟩⟩)⟩⟩
        have ih2 := ih2 stk kn trial (oi 0) hkn (by rw [runS, if_neg q2]; exact tr)
        rw [wgtV, if_neg q2, nI_succ] at ih2
        exact ih2
      · have q2 : b.testBit j = true := hbit.mp (Classical.not_not.mp q1)
        refine xgo [4, 18] 60 ⟨nb rfl, vF (show ¬ (1 : Int32) = 0 by decide) ⟨rfl, nb rfl, t_passWatch so hkn tr (runS_ok gp j) ⟨2, by omega, rfl⟩ (fun stk kn trial hkn tr => ⟨(show ¬ (10 : Int32) = 0 by decide), vF (show ¬ (1 : Int32) = 0 by decide) ⟨nb rfl, ?_⟩⟩)⟩⟩
        have ih2 := ih2 stk kn trial (oi 1) hkn (by rw [runS, if_pos q2]; exact tr)
        rw [wgtV, if_pos q2, nI_succ] at ih2
        exact ih2
end XLM
