/-! the class: what is called from outside, second part -/
section XCR
variable {L : Nat} {xs : Nat → Int32} {d : Nat} {Q : XQt} {pn pc : Int32} {tok : TTok} {ship : TShip} {nn : Int64} {tl : Int32} {draft : TShip} {vd : TVoy} {log : TLog} {trial : TCrew} {sta : TSta} {says : Fn} {seed : Int64} {past : Nat → TCrew} {marks : Nat → TLog} {K : XWd}
variable {stk kn : Fn} {n p z a t q c : Nat} {nx : Nat → Nat} {vl : Nat → Nat → Nat}
theorem c_chance {man wt od : Int32} (so : ShOk ship n p z) (hkn : KOk kn (RV ship.law)) (gp : GP log.crew.green log.crew.place n p) (lo : log.crew.over = nI t) (ht : t < 2 ^ 30) (h1 : ∀ w o, 1 ≤ w → w ≤ 6 → o ≤ 10 → wt = nI w → od = nI o → 0 ≤ man ∧ man < nI n → ∀ stk kn trial, KOk kn (RV ship.law) → Q (some (.int (chnV ship log.crew.green log.crew.place n w (nI o) man (2 ^ w)))) (clsW pn pc tok (ship.wlaw (ship.law.wm stk kn)) nn tl draft vd log trial sta says seed past marks K)) (h0 : ¬ ((0 ≤ man ∧ man < nI n) ∧ (1 ≤ wt ∧ wt ≤ 6) ∧ 0 ≤ od ∧ od ≤ 10) → Q (some (.int (-1))) (clsW pn pc tok (ship.wlaw (ship.law.wm stk kn)) nn tl draft vd log trial sta says seed past marks K)) : XC (xF L xs) xmeths (d + 7) 153 [.ref 0, .int man, .int wt, .int od] (clsW pn pc tok (ship.wlaw (ship.law.wm stk kn)) nn tl draft vd log trial sta says seed past marks K) Q := by
  have a17 : ¬ ((0 ≤ man ∧ man < nI n) ∧ (1 ≤ wt ∧ wt ≤ 6) ∧ 0 ≤ od ∧ od ≤ 10) → XWp (xF L xs) (some .int) xP153 (XC (xF L xs) xmeths (d + 6)) Q 17 [orf 0, oi man, oi wt, oi od, none] [] (clsW pn pc tok (ship.wlaw (ship.law.wm stk kn)) nn tl draft vd log trial sta says seed past marks K) := fun y => xgo [] 20 ⟨nb rfl, vTd rfl (h0 y)⟩
  refine ⟨nb rfl, xgo [17] 60 ⟨rfl, nb rfl, c_isMan ?_⟩⟩
  refine vB0 (fun y => a17 (fun z => y (by show 0 ≤ man ∧ man < ship.men; rw [so.men]; exact z.1))) (fun y => ⟨rfl, nb rfl, c_isWithin ?_⟩)
  refine vB0 (fun y2 => a17 (fun z => y2 z.2.1)) (fun y2 => ⟨rfl, nb rfl, c_isWithin ?_⟩)
  refine vB0 (fun y3 => a17 (fun z => y3 z.2.2)) (fun y3 => ⟨nb rfl, vFd rfl ?_⟩)
  rcases wi_1 (m := 6) (by omega) y2 with ⟨w, w1, w6, rfl⟩
  rcases wiN (m := 10) (by omega) y3 with ⟨o, o10, rfl⟩
  exact ⟨rfl, nb rfl, c_leadingMillionths so hkn gp lo ht w6 (h1 w o w1 w6 o10 rfl rfl (so.men ▸ y))⟩
theorem c_voyages {xs' xw what : Int32} (nv : NX nx vl) (so : ShOk ship n p z) (hkn : KOk kn (RV ship.law)) (ao : AOk (crA log.crew a t) n p) (hs : log.crew.sucked = nI a) (lo : log.crew.over = nI t) (ht : t < 2 ^ 30) (h1 : ∀ sd w, sd ≤ 9999 → 1 ≤ w → w ≤ 99 → xs' = nI sd → xw = nI w → 0 ≤ what ∧ what ≤ 2 → ∀ stk kn trial seed, KOk kn (RV ship.law) → Q (some (.int (if what = 0 then nI (turnsI (fun j => capt (saiA nx vl ship n p z (crA log.crew a t) sd j).1.g n) w) else if what = 1 then capt (saiA nx vl ship n p z (crA log.crew a t) sd w).1.g n else sumF (saiA nx vl ship n p z (crA log.crew a t) sd w).1.g n))) (clsW pn pc tok (ship.wlaw (ship.law.wm stk kn)) nn tl draft vd log trial sta says seed past marks K)) (h0 : ¬ ((0 ≤ xs' ∧ xs' ≤ 9999) ∧ (1 ≤ xw ∧ xw ≤ 99) ∧ 0 ≤ what ∧ what ≤ 2) → Q (some (.int (-2))) (clsW pn pc tok (ship.wlaw (ship.law.wm stk kn)) nn tl draft vd log trial sta says seed past marks K)) : XC (xF L xs) xmeths (d + 6) 155 [.ref 0, .int xs', .int xw, .int what] (clsW pn pc tok (ship.wlaw (ship.law.wm stk kn)) nn tl draft vd log trial sta says seed past marks K) Q := by
  have aN : ¬ ((0 ≤ xs' ∧ xs' ≤ 9999) ∧ (1 ≤ xw ∧ xw ≤ 99) ∧ 0 ≤ what ∧ what ≤ 2) → XWp (xF L xs) (some .int) xP155 (XC (xF L xs) xmeths (d + 5)) Q 17 [orf 0, oi xs', oi xw, oi what, none] [] (clsW pn pc tok (ship.wlaw (ship.law.wm stk kn)) nn tl draft vd log trial sta says seed past marks K) := fun y => xgo [] 20 ⟨nb rfl, vTd rfl (h0 y)⟩
  refine ⟨nb rfl, xgo [17] 60 ⟨rfl, nb rfl, c_isWithin ?_⟩⟩
  refine vB0 (fun y => aN (fun z => y z.1)) (fun y => ⟨rfl, nb rfl, c_isWithin ?_⟩)
  refine vB0 (fun y2 => aN (fun z => y2 z.2.1)) (fun y2 => ⟨rfl, nb rfl, c_isWithin ?_⟩)
  refine vB0 (fun y3 => aN (fun z => y3 z.2.2)) (fun y3 => ⟨nb rfl, vFd rfl ?_⟩)
  rcases wiN (m := 9999) (by omega) y with ⟨sd, hsd, rfl⟩
  rcases wi_1 (m := 99) (by omega) y2 with ⟨w, w1, w99, rfl⟩
  exact ⟨rfl, nb rfl, c_sail nv hsd (by omega) so hkn ao ⟨fun k hk => rfl, fun k hk => rfl, hs, lo⟩ ht (h1 sd w hsd w1 w99 rfl rfl y3)⟩
theorem c_stations {man wt what : Int32} (so : ShOk ship n p z) (hkn : KOk kn (RV ship.law)) (gp : GP log.crew.green log.crew.place n p) (lo : log.crew.over = nI t) (ht : t < 2 ^ 30) (h1 : ∀ k w, k < n → 1 ≤ w → w ≤ 12 → man = nI k → wt = nI w → -2 ≤ what ∧ what ≤ nI n - 1 → ∀ stk kn trial sta, KOk kn (RV ship.law) → Q (some (.int (staV (staD ship (crA log.crew a t) n p z w k) what))) (clsW pn pc tok (ship.wlaw (ship.law.wm stk kn)) nn tl draft vd log trial sta says seed past marks K)) (h0 : ¬ ((0 ≤ man ∧ man < nI n) ∧ (1 ≤ wt ∧ wt ≤ 12) ∧ -2 ≤ what ∧ what ≤ nI n - 1) → Q (some (.int (-3))) (clsW pn pc tok (ship.wlaw (ship.law.wm stk kn)) nn tl draft vd log trial sta says seed past marks K)) : XC (xF L xs) xmeths (d + 14) 126 [.ref 0, .int man, .int wt, .int what] (clsW pn pc tok (ship.wlaw (ship.law.wm stk kn)) nn tl draft vd log trial sta says seed past marks K) Q := by
  have n6 := so.n6
  have p4 := so.p4
  have a25 : ∀ x4, ¬ ((0 ≤ man ∧ man < nI n) ∧ (1 ≤ wt ∧ wt ≤ 12) ∧ -2 ≤ what ∧ what ≤ nI n - 1) → XWp (xF L xs) (some .int) xP126 (XC (xF L xs) xmeths (d + 13)) Q 25 [orf 0, oi man, oi wt, oi what, x4] [] (clsW pn pc tok (ship.wlaw (ship.law.wm stk kn)) nn tl draft vd log trial sta says seed past marks K) := fun x4 y => xgo [] 20 (h0 y)
  have a12 : ¬ ((0 ≤ man ∧ man < nI n) ∧ (1 ≤ wt ∧ wt ≤ 12) ∧ -2 ≤ what ∧ what ≤ nI n - 1) → XWp (xF L xs) (some .int) xP126 (XC (xF L xs) xmeths (d + 13)) Q 12 [orf 0, oi man, oi wt, oi what, none] [] (clsW pn pc tok (ship.wlaw (ship.law.wm stk kn)) nn tl draft vd log trial sta says seed past marks K) := fun y => xgo [25] 20 ⟨nb rfl, vTd rfl (a25 _ y)⟩
  refine ⟨nb rfl, xgo [12, 23, 25] 60 ⟨rfl, nb rfl, c_isMan ?_⟩⟩
  refine vB0 (fun y => a12 (fun z => y (by show 0 ≤ man ∧ man < ship.men; rw [so.men]; exact z.1))) (fun y => ⟨rfl, nb rfl, c_isWithin ?_⟩)
  refine vB0 (fun y2 => a12 (fun z => y2 z.2.1)) (fun y2 => ⟨nb rfl, vFd rfl ?_⟩)
  suffices a23 : ∀ x, x = nI n - 1 → XWp (xF L xs) (some .int) xP126 (XC (xF L xs) xmeths (d + 13)) Q 23 [orf 0, oi man, oi wt, oi what, oi 1] [.int x, .int (-2), .int what] (clsW pn pc tok (ship.wlaw (ship.law.wm stk kn)) nn tl draft vd log trial sta says seed past marks K) from a23 _ (by rw [← so.men]; rfl)
  intro x hx
  subst hx
  refine xgo [25] 60 ⟨rfl, nb rfl, c_isWithin ?_⟩
  refine vB1 (fun y3 => ?_) (fun y3 => a25 _ (fun z => y3 z.2.2))
  rcases inI (by omega) (so.men ▸ y) with ⟨he, hhe, rfl⟩
  rcases wi_1 (m := 12) (by omega) y2 with ⟨w, w1, w12, rfl⟩
  have hsp : ∀ b, b < p → ship.spray b = nI ((fun b => (ship.spray b).toNatClampNeg) b) ∧ (fun b => (ship.spray b).toNatClampNeg) b ≤ 9 := fun b hb => rng_clamp (so.spray b hb) (by omega)
  have hhd : ∀ b, b < p → ship.holds b = nI ((fun b => (ship.holds b).toNatClampNeg) b) ∧ (fun b => (ship.holds b).toNatClampNeg) b ≤ 6 := fun b hb => rng_clamp (so.holds b hb) (by omega)
  refine ⟨rfl, nb rfl, c_find so hkn gp.green lo ht hhe (by omega) hsp hhd (fun row stk kn trial sta' hkn br => ?_)⟩
  have h := h1 he w hhe w1 w12 rfl rfl y3 stk kn trial sta' hkn
  have ⟨se, slt⟩ := staD_eq (s := ship) (A := crA log.crew a t) (p := p) (z := z) (w := w) hhe n6 row row
  have er := br.rank
  have es := br.spray
  rw [se.1] at er
  rw [se.2.1] at es
  refine And.intro (fun (q4 : ¬ what = -2) => ?_) (fun (q4 : ¬ ¬ what = -2) => ?_)
  · refine And.intro (fun (q5 : ¬ what = -1) => ?_) (fun (q5 : ¬ ¬ what = -1) => ?_)
    · have hwh : 0 ≤ what ∧ what < nI n := by
        have a1 := y3.1
        have a2 := y3.2
        have e1 : nI n - 1 = nI (n - 1) := pk_sub (a := n) (b := 1) (by omega)
        rw [e1] at a2
        have e2 : (nI (n - 1)).toInt = ((n - 1 : Nat) : Int) := nI_toInt (by omega)
        have e3 : (nI n).toInt = (n : Int) := nI_toInt (by omega)
        rw [Int32.le_iff_toInt_le] at a1 a2 ⊢
        rw [Int32.lt_iff_toInt_lt]
        have n1 : ¬ what.toInt = -1 := fun y => q5 (Int32.toInt_inj.mp (by rw [y]; decide))
        have n2 : ¬ what.toInt = -2 := fun y => q4 (Int32.toInt_inj.mp (by rw [y]; decide))
        have k1 : (-2 : Int32).toInt = -2 := by decide
        have k2 : (0 : Int32).toInt = 0 := by decide
        omega
      rcases inI (by omega) hwh with ⟨k, hk, rfl⟩
      refine ⟨vp_in_nI (by omega) (by omega), ?_⟩
      rw [nI_clamp (by omega)]
      have e6 : (dealS (rkS ship log.crew.green n z t w he) (fun b => (ship.spray b).toNatClampNeg) n p n row (fun b => (ship.holds b).toNatClampNeg) 0 (6, 0, row)).1 < 6 := by
        have := se.1
        show _ < 6
        rw [show (dealS (rkS ship log.crew.green n z t w he) (fun b => (ship.spray b).toNatClampNeg) n p n row (fun b => (ship.holds b).toNatClampNeg) 0 (6, 0, row)).1 = (staD ship (crA log.crew a t) n p z w he).1 from this]
        exact slt
      rw [staV, if_neg q4, if_neg q5, nI_clamp (by omega), ← se.2.2 e6 k hk] at h
      have eb := br.row e6 k hk
      rw [← show sta'.bestRow k = _ from eb] at h
      exact h
    · rw [staV, if_neg q4, if_pos (Classical.not_not.mp q5), ← es] at h
      exact h
  · rw [staV, if_pos (Classical.not_not.mp q4), ← er] at h
    exact h
theorem c_man {man what : Int32} (so : ShOk ship n p z) (hs : log.crew.sucked = nI a) (ha : a < 64) (h : Q (some (.int (manV ship (crA log.crew a t) n man what))) (clsW pn pc tok (ship.wlaw (ship.law.wm stk kn)) nn tl draft vd log trial sta says seed past marks K)) : XC (xF L xs) xmeths (d + 2) 74 [.ref 0, .int man, .int what] (clsW pn pc tok (ship.wlaw (ship.law.wm stk kn)) nn tl draft vd log trial sta says seed past marks K) Q := by
  have n6 := so.n6
  refine ⟨nb rfl, xgo [] 60 ⟨rfl, nb rfl, c_isMan ?_⟩⟩
  refine vB1 (fun y => ?_) (fun y => ?_)
  rotate_left
  · rw [manV, if_neg (fun z => y (by show 0 ≤ man ∧ man < ship.men; rw [so.men]; exact z))] at h
    exact h
  have y : 0 ≤ man ∧ man < nI n := so.men ▸ y
  rw [manV, if_pos y] at h
  rcases inI (by omega) y with ⟨k, hk, rfl⟩
  have ek := nI_clamp (show k < 2 ^ 31 by omega)
  rw [ek] at h
  refine And.intro (fun (q0 : what = 0) => ?_) (fun (q0 : ¬ what = 0) => ?_)
  · rw [if_pos q0] at h
    refine ⟨vp_in_nI (by omega) (by omega), ?_⟩
    rw [ek]; exact h
  refine And.intro (fun (q1 : what = 1) => ?_) (fun (q1 : ¬ what = 1) => ?_)
  · rw [if_neg q0, if_pos q1] at h
    refine ⟨vp_in_nI (by omega) (by omega), ?_⟩
    rw [ek]; exact h
  refine And.intro (fun (q2 : what = 2) => ?_) (fun (q2 : ¬ what = 2) => ?_)
  · rw [if_neg q0, if_neg q1, if_pos q2] at h
    refine ⟨vp_in_nI (by omega) (by omega), ?_⟩
    rw [ek]; exact h
  refine And.intro (fun (q3 : what = 3) => ?_) (fun (q3 : ¬ what = 3) => ?_)
  · rw [if_neg q0, if_neg q1, if_neg q2, if_pos q3] at h
    refine ⟨vp_in_nI (by omega) (by omega), ?_⟩
    rw [ek]; exact h
  refine And.intro (fun (q4 : what = 4) => ?_) (fun (q4 : ¬ what = 4) => ?_)
  · rw [if_neg q0, if_neg q1, if_neg q2, if_neg q3, if_pos q4] at h
    have hb : bit log.crew.sucked (nI k) ↔ a.testBit k = true := by rw [hs]; exact bit_iff (by omega) (by omega)
    refine ⟨rfl, nb rfl, c_hasSucked_40 ?_⟩
    refine vB0 (fun y2 => ?_) (fun y2 => ?_)
    · rw [b2i_f (p := (crA log.crew a t).su.testBit k = true) (fun z => y2 (hb.mpr z))] at h
      exact h
    · rw [b2i_t (p := (crA log.crew a t).su.testBit k = true) (hb.mp y2)] at h
      exact h
  refine And.intro (fun (q5 : what = 5) => ?_) (fun (q5 : ¬ what = 5) => ?_)
  · rw [if_neg q0, if_neg q1, if_neg q2, if_neg q3, if_neg q4, if_pos q5] at h
    exact ⟨rfl, nb rfl, c_rankOf_40 so.n6 so.men (by omega) h⟩
  rw [if_neg q0, if_neg q1, if_neg q2, if_neg q3, if_neg q4, if_neg q5] at h
  exact h
theorem c_post {po what : Int32} (so : ShOk ship n p z) (h : Q (some (.int (postV ship (crA log.crew a t) n p po what))) (clsW pn pc tok (ship.wlaw (ship.law.wm stk kn)) nn tl draft vd log trial sta says seed past marks K)) : XC (xF L xs) xmeths (d + 2) 78 [.ref 0, .int po, .int what] (clsW pn pc tok (ship.wlaw (ship.law.wm stk kn)) nn tl draft vd log trial sta says seed past marks K) Q := by
  have n6 := so.n6
  have p4 := so.p4
  refine ⟨nb rfl, xgo [] 60 ⟨rfl, nb rfl, c_isPost ?_⟩⟩
  refine vB1 (fun y => ?_) (fun y => ?_)
  rotate_left
  · rw [postV, if_neg (fun z => y (by show 0 ≤ po ∧ po < ship.posts; rw [so.posts]; exact z))] at h
    exact h
  have y : 0 ≤ po ∧ po < nI p := so.posts ▸ y
  rw [postV, if_pos y] at h
  rcases inI (by omega) y with ⟨k, hk, rfl⟩
  have ek := nI_clamp (show k < 2 ^ 31 by omega)
  rw [ek] at h
  refine And.intro (fun (q0 : what = 0) => ?_) (fun (q0 : ¬ what = 0) => ?_)
  · rw [if_pos q0] at h
    refine ⟨vp_in_nI (by omega) (by omega), ?_⟩
    rw [ek]; exact h
  refine And.intro (fun (q1 : what = 1) => ?_) (fun (q1 : ¬ what = 1) => ?_)
  · rw [if_neg q0, if_pos q1] at h
    refine ⟨vp_in_nI (by omega) (by omega), ?_⟩
    rw [ek]; exact h
  refine And.intro (fun (q2 : what = 2) => ?_) (fun (q2 : ¬ what = 2) => ?_)
  · rw [if_neg q0, if_neg q1, if_pos q2] at h
    exact ⟨rfl, nb rfl, c_standingAt_40 so.n6 so.men h⟩
  rw [if_neg q0, if_neg q1, if_neg q2] at h
  exact h
theorem c_count {what : Int32} {li se ta : Nat} (so : ShOk ship n p z) (lo : log.crew.over = nI t) (ht : t < 2 ^ 31) (hl : log.voy.lines = nI li) (hs : log.seen.size = nI se) (hc : pc = nI c) (hta : tok.length = nI ta) (h : Q (some (.int (countV ship (crA log.crew a t) n p z li se c ta what))) (clsW pn pc tok (ship.wlaw (ship.law.wm stk kn)) nn tl draft vd log trial sta says seed past marks K)) : XC (xF L xs) xmeths (d + 3) 162 [.ref 0, .int what] (clsW pn pc tok (ship.wlaw (ship.law.wm stk kn)) nn tl draft vd log trial sta says seed past marks K) Q := by
  refine ⟨nb rfl, xgo [] 60 ?_⟩
  rw [countV] at h
  refine And.intro (fun (q0 : what = 0) => ?_) (fun (q0 : ¬ what = 0) => ?_)
  · rw [if_pos q0, ← so.men] at h
    exact h
  refine And.intro (fun (q1 : what = 1) => ?_) (fun (q1 : ¬ what = 1) => ?_)
  · rw [if_neg q0, if_pos q1, ← so.posts] at h
    exact h
  refine And.intro (fun (q2 : what = 2) => ?_) (fun (q2 : ¬ what = 2) => ?_)
  · rw [if_neg q0, if_neg q1, if_pos q2] at h
    exact h
  refine And.intro (fun (q3 : what = 3) => ?_) (fun (q3 : ¬ what = 3) => ?_)
  · rw [if_neg q0, if_neg q1, if_neg q2, if_pos q3] at h
    exact h
  refine And.intro (fun (q4 : what = 4) => ?_) (fun (q4 : ¬ what = 4) => ?_)
  · rw [if_neg q0, if_neg q1, if_neg q2, if_neg q3, if_pos q4] at h
    exact h
  refine And.intro (fun (q5 : what = 5) => ?_) (fun (q5 : ¬ what = 5) => ?_)
  · rw [if_neg q0, if_neg q1, if_neg q2, if_neg q3, if_neg q4, if_pos q5, ← lo] at h
    exact h
  refine And.intro (fun (q6 : what = 6) => ?_) (fun (q6 : ¬ what = 6) => ?_)
  · rw [if_neg q0, if_neg q1, if_neg q2, if_neg q3, if_neg q4, if_neg q5, if_pos q6] at h
    exact ⟨rfl, nb rfl, c_seaNow_40 so.seas so.z1 so.z12 ht lo h⟩
  refine And.intro (fun (q7 : what = 7) => ?_) (fun (q7 : ¬ what = 7) => ?_)
  · rw [if_neg q0, if_neg q1, if_neg q2, if_neg q3, if_neg q4, if_neg q5, if_neg q6, if_pos q7] at h
    exact ⟨rfl, nb rfl, c_allGreens_40 so.n6 so.men h⟩
  refine And.intro (fun (q8 : what = 8) => ?_) (fun (q8 : ¬ what = 8) => ?_)
  · rw [if_neg q0, if_neg q1, if_neg q2, if_neg q3, if_neg q4, if_neg q5, if_neg q6, if_neg q7, if_pos q8] at h
    exact ⟨rfl, nb rfl, c_standingAt_40 so.n6 so.men h⟩
  refine And.intro (fun (q9 : what = 9) => ?_) (fun (q9 : ¬ what = 9) => ?_)
  · rw [if_neg q0, if_neg q1, if_neg q2, if_neg q3, if_neg q4, if_neg q5, if_neg q6, if_neg q7, if_neg q8, if_pos q9, ← hl] at h
    exact h
  refine And.intro (fun (q10 : what = 10) => ?_) (fun (q10 : ¬ what = 10) => ?_)
  · rw [if_neg q0, if_neg q1, if_neg q2, if_neg q3, if_neg q4, if_neg q5, if_neg q6, if_neg q7, if_neg q8, if_neg q9, if_pos q10, ← hs] at h
    exact h
  refine And.intro (fun (q11 : what = 11) => ?_) (fun (q11 : ¬ what = 11) => ?_)
  · rw [if_neg q0, if_neg q1, if_neg q2, if_neg q3, if_neg q4, if_neg q5, if_neg q6, if_neg q7, if_neg q8, if_neg q9, if_neg q10, if_pos q11, ← hc] at h
    exact h
  refine And.intro (fun (q12 : what = 12) => ?_) (fun (q12 : ¬ what = 12) => ?_)
  · rw [if_neg q0, if_neg q1, if_neg q2, if_neg q3, if_neg q4, if_neg q5, if_neg q6, if_neg q7, if_neg q8, if_neg q9, if_neg q10, if_neg q11, if_pos q12, ← hta] at h
    exact h
  rw [if_neg q0, if_neg q1, if_neg q2, if_neg q3, if_neg q4, if_neg q5, if_neg q6, if_neg q7, if_neg q8, if_neg q9, if_neg q10, if_neg q11, if_neg q12] at h
  exact h
theorem c_add {m o w gr : Int32} {se : Nat} (hs : log.seen.size = nI se) (s8 : se ≤ 8) (h1 : se < 8 → Q (some (.int 1)) (clsW pn pc tok ship nn tl draft vd (log.voy, (upd log.seen.man se m, upd log.seen.other se o, upd log.seen.watches se w, upd log.seen.greener se (b2i (¬ gr = 0)), nI (se + 1)), log.crew, log.laid) trial sta says seed past marks K)) (h0 : ¬ se < 8 → Q (some (.int 0)) (clsW pn pc tok ship nn tl draft vd log trial sta says seed past marks K)) : XC (xF L xs) xmeths (d + 1) 144 [.ref 35, .int m, .int o, .int w, .int gr] (clsW pn pc tok ship nn tl draft vd log trial sta says seed past marks K) Q := by
  have ec : log.seen.size.toNatClampNeg = se := by rw [hs, nI_clamp (by omega)]
  refine ⟨nb rfl, xgo [33] 60 ?_⟩
  refine pk_lt se 8 (fun q => ?_) (fun q => ⟨rfl, h0 (by omega)⟩) hs rfl (by omega) (by omega)
  have h := h1 q
  have vq : vp_in log.seen.size 8 := hs ▸ vp_in_nI q (by omega)
  have a33 : ∀ x, x = b2i (¬ gr = 0) → XWp (xF L xs) (some .boolean) xP144 (XC (xF L xs) xmeths d) Q 33 [orf 35, oi m, oi o, oi w, oi gr] [.int x, .int log.seen.size, .ref 39] (clsW pn pc tok ship nn tl draft vd (log.voy, (upd log.seen.man se m, upd log.seen.other se o, upd log.seen.watches se w, log.seen.greener, log.seen.size), log.crew, log.laid) trial sta says seed past marks K) := by
    intro x hx
    subst hx
    refine xgo [] 40 ⟨vq, ⟨rfl, ?_⟩⟩
    rw [ec]
    rw [nI_succ, ← hs] at h
    exact h
  refine ⟨vq, vq, vq, ?_⟩
  rw [ec]
  refine And.intro (fun (q2 : gr = 0) => ?_) (fun (q2 : ¬ gr = 0) => ?_)
  · exact a33 0 (by rw [b2i_f (fun y => y q2)])
  · exact a33 1 (by rw [b2i_t q2])
theorem c_see {man other wt gr : Int32} {se : Nat} (so : ShOk ship n p z) (hs : log.seen.size = nI se) (s8 : se ≤ 8) (h1 : ∀ m o w, m < n → o < n → ¬ m = o → w ≤ 20 → man = nI m → other = nI o → wt = nI w → se < 8 → Q (some (.int 1)) (clsW pn pc tok (ship.wlaw (ship.law.wm stk kn)) nn tl draft vd (log.voy, (upd log.seen.man se (nI m), upd log.seen.other se (nI o), upd log.seen.watches se (nI w), upd log.seen.greener se (b2i (¬ gr = 0)), nI (se + 1)), log.crew, log.laid) trial sta says seed past marks K)) (h0 : ¬ (((0 ≤ man ∧ man < nI n) ∧ (0 ≤ other ∧ other < nI n) ∧ ¬ man = other) ∧ (0 ≤ wt ∧ wt ≤ 20) ∧ se < 8) → Q (some (.int 0)) (clsW pn pc tok (ship.wlaw (ship.law.wm stk kn)) nn tl draft vd log trial sta says seed past marks K)) : XC (xF L xs) xmeths (d + 3) 143 [.ref 0, .int man, .int other, .int wt, .int gr] (clsW pn pc tok (ship.wlaw (ship.law.wm stk kn)) nn tl draft vd log trial sta says seed past marks K) Q := by
  have n6 := so.n6
  have a28 : ∀ x5, ¬ (((0 ≤ man ∧ man < nI n) ∧ (0 ≤ other ∧ other < nI n) ∧ ¬ man = other) ∧ (0 ≤ wt ∧ wt ≤ 20) ∧ se < 8) → XWp (xF L xs) (some .boolean) xP143 (XC (xF L xs) xmeths (d + 2)) Q 28 [orf 0, oi man, oi other, oi wt, oi gr, x5] [] (clsW pn pc tok (ship.wlaw (ship.law.wm stk kn)) nn tl draft vd log trial sta says seed past marks K) := fun x5 y => xgo [] 20 ⟨rfl, h0 y⟩
  have a13 : ¬ (((0 ≤ man ∧ man < nI n) ∧ (0 ≤ other ∧ other < nI n) ∧ ¬ man = other) ∧ (0 ≤ wt ∧ wt ≤ 20) ∧ se < 8) → XWp (xF L xs) (some .boolean) xP143 (XC (xF L xs) xmeths (d + 2)) Q 13 [orf 0, oi man, oi other, oi wt, oi gr, none] [] (clsW pn pc tok (ship.wlaw (ship.law.wm stk kn)) nn tl draft vd log trial sta says seed past marks K) := fun y => xgo [28] 20 ⟨nb rfl, vTd rfl (a28 _ y)⟩
  refine ⟨nb rfl, xgo [13, 28] 60 ⟨rfl, nb rfl, c_isPair ?_⟩⟩
  refine vB0 (fun y => a13 (fun z => y (by show (0 ≤ man ∧ man < ship.men) ∧ (0 ≤ other ∧ other < ship.men) ∧ ¬ man = other; rw [so.men]; exact z.1))) (fun y => ⟨rfl, nb rfl, c_isWithin ?_⟩)
  refine vB0 (fun y2 => a13 (fun z => y2 z.2.1)) (fun y2 => ⟨nb rfl, vFd rfl ?_⟩)
  rcases inI (by omega) (so.men ▸ y.1) with ⟨m, hm, rfl⟩
  rcases inI (by omega) (so.men ▸ y.2.1) with ⟨o, ho, rfl⟩
  rcases wiN (m := 20) (by omega) y2 with ⟨w, hw, rfl⟩
  refine ⟨rfl, nb rfl, c_add hs s8 (fun y3 => ?_) (fun y3 => ?_)⟩
  · exact vFd rfl ⟨rfl, h1 m o w hm ho (fun z => y.2.2 (by rw [z])) hw rfl rfl rfl y3⟩
  · exact vTd rfl (a28 _ (fun z => by omega))
theorem ml0 (h : Q (some (.int 1)) (clsW pn pc tok ship nn tl draft vd log trial sta says seed past (mset marks 0 (((marks 0).cp log).voy, ((marks 0).cp log).seen, ((marks 0).cp log).crew, 1)) K)) {l : XL} : XWp (xF L xs) (some .boolean) xP159 (XC (xF L xs) xmeths d) Q 40 l [.int 1, .ref 121] (clsW pn pc tok ship nn tl draft vd log trial sta says seed past (mset marks 0 ((marks 0).cp log)) K) := by
  refine xgo [] 20 ⟨⟨rfl, rfl⟩, ⟨rfl, ?_⟩⟩
  have e : mset (mset marks 0 ((marks 0).cp log)) 0 (((marks 0).cp log).voy, ((marks 0).cp log).seen, ((marks 0).cp log).crew, 1) = mset marks 0 (((marks 0).cp log).voy, ((marks 0).cp log).seen, ((marks 0).cp log).crew, 1) := by
    funext j
    simp only [mset]
    split <;> rfl
  rw [← e] at h
  exact (congrArg (Q (some (.int 1))) (stMl0 (marks := mset marks 0 ((marks 0).cp log)) (a := 1))).mpr h
theorem ml1 (h : Q (some (.int 1)) (clsW pn pc tok ship nn tl draft vd log trial sta says seed past (mset marks 1 (((marks 1).cp log).voy, ((marks 1).cp log).seen, ((marks 1).cp log).crew, 1)) K)) {l : XL} : XWp (xF L xs) (some .boolean) xP159 (XC (xF L xs) xmeths d) Q 40 l [.int 1, .ref 133] (clsW pn pc tok ship nn tl draft vd log trial sta says seed past (mset marks 1 ((marks 1).cp log)) K) := by
  refine xgo [] 20 ⟨⟨rfl, rfl⟩, ⟨rfl, ?_⟩⟩
  have e : mset (mset marks 1 ((marks 1).cp log)) 1 (((marks 1).cp log).voy, ((marks 1).cp log).seen, ((marks 1).cp log).crew, 1) = mset marks 1 (((marks 1).cp log).voy, ((marks 1).cp log).seen, ((marks 1).cp log).crew, 1) := by
    funext j
    simp only [mset]
    split <;> rfl
  rw [← e] at h
  exact (congrArg (Q (some (.int 1))) (stMl1 (marks := mset marks 1 ((marks 1).cp log)) (a := 1))).mpr h
theorem ml2 (h : Q (some (.int 1)) (clsW pn pc tok ship nn tl draft vd log trial sta says seed past (mset marks 2 (((marks 2).cp log).voy, ((marks 2).cp log).seen, ((marks 2).cp log).crew, 1)) K)) {l : XL} : XWp (xF L xs) (some .boolean) xP159 (XC (xF L xs) xmeths d) Q 40 l [.int 1, .ref 145] (clsW pn pc tok ship nn tl draft vd log trial sta says seed past (mset marks 2 ((marks 2).cp log)) K) := by
  refine xgo [] 20 ⟨⟨rfl, rfl⟩, ⟨rfl, ?_⟩⟩
  have e : mset (mset marks 2 ((marks 2).cp log)) 2 (((marks 2).cp log).voy, ((marks 2).cp log).seen, ((marks 2).cp log).crew, 1) = mset marks 2 (((marks 2).cp log).voy, ((marks 2).cp log).seen, ((marks 2).cp log).crew, 1) := by
    funext j
    simp only [mset]
    split <;> rfl
  rw [← e] at h
  exact (congrArg (Q (some (.int 1))) (stMl2 (marks := mset marks 2 ((marks 2).cp log)) (a := 1))).mpr h
theorem ml3 (h : Q (some (.int 1)) (clsW pn pc tok ship nn tl draft vd log trial sta says seed past (mset marks 3 (((marks 3).cp log).voy, ((marks 3).cp log).seen, ((marks 3).cp log).crew, 1)) K)) {l : XL} : XWp (xF L xs) (some .boolean) xP159 (XC (xF L xs) xmeths d) Q 40 l [.int 1, .ref 157] (clsW pn pc tok ship nn tl draft vd log trial sta says seed past (mset marks 3 ((marks 3).cp log)) K) := by
  refine xgo [] 20 ⟨⟨rfl, rfl⟩, ⟨rfl, ?_⟩⟩
  have e : mset (mset marks 3 ((marks 3).cp log)) 3 (((marks 3).cp log).voy, ((marks 3).cp log).seen, ((marks 3).cp log).crew, 1) = mset marks 3 (((marks 3).cp log).voy, ((marks 3).cp log).seen, ((marks 3).cp log).crew, 1) := by
    funext j
    simp only [mset]
    split <;> rfl
  rw [← e] at h
  exact (congrArg (Q (some (.int 1))) (stMl3 (marks := mset marks 3 ((marks 3).cp log)) (a := 1))).mpr h
theorem c_mark {mk back : Int32} (hlay : ∀ i, i < 4 → mk = nI i → back = 0 → Q (some (.int 1)) (clsW pn pc tok (ship.wlaw (ship.law.wm stk kn)) nn tl draft vd log trial sta says seed past (mset marks i (((marks i).cp log).voy, ((marks i).cp log).seen, ((marks i).cp log).crew, 1)) K)) (hback : ∀ i, i < 4 → mk = nI i → ¬ back = 0 → ¬ (marks i).laid = 0 → Q (some (.int 1)) (clsW pn 0 tok (ship.wlaw (ship.law.wm stk kn)) nn tl draft vd (log.cp (marks i)) trial sta says seed past marks K)) (h0 : ¬ (∃ i, i < 4 ∧ mk = nI i ∧ (¬ back = 0 → ¬ (marks i).laid = 0)) → Q (some (.int 0)) (clsW pn pc tok (ship.wlaw (ship.law.wm stk kn)) nn tl draft vd log trial sta says seed past marks K)) : XC (xF L xs) xmeths (d + 3) 159 [.ref 0, .int mk, .int back] (clsW pn pc tok (ship.wlaw (ship.law.wm stk kn)) nn tl draft vd log trial sta says seed past marks K) Q := by
  have a13 : ¬ (∃ i, i < 4 ∧ mk = nI i ∧ (¬ back = 0 → ¬ (marks i).laid = 0)) → XWp (xF L xs) (some .boolean) xP159 (XC (xF L xs) xmeths (d + 2)) Q 13 [orf 0, oi mk, oi back] [] (clsW pn pc tok (ship.wlaw (ship.law.wm stk kn)) nn tl draft vd log trial sta says seed past marks K) := fun q => xgo [] 10 ⟨rfl, h0 q⟩
  refine ⟨nb rfl, xgo [10, 13, 15] 60 ⟨rfl, nb rfl, c_isWithin ?_⟩⟩
  refine vB0 (fun q => a13 (fun ⟨i, hi, e, _⟩ => q (by rw [e]; exact ⟨nI_pos' (by omega), nI_le (b := 3) (by omega) (by omega)⟩))) (fun q => ?_)
  rcases wiN (m := 3) (by omega) q with ⟨i, hi, rfl⟩
  have hlay := hlay i (by omega) rfl
  have hback := hback i (by omega) rfl
  have a13 : ¬ (¬ back = 0 → ¬ (marks i).laid = 0) → XWp (xF L xs) (some .boolean) xP159 (XC (xF L xs) xmeths (d + 2)) Q 13 [orf 0, oi (nI i), oi back] [] (clsW pn pc tok (ship.wlaw (ship.law.wm stk kn)) nn tl draft vd log trial sta says seed past marks K) := fun y => a13 (fun ⟨j, hj, e, z⟩ => y (by
    have e := (nI_eq (by omega) (by omega)).mp e
    subst e
    exact z))
  have hi4 : i = 0 ∨ i = 1 ∨ i = 2 ∨ i = 3 := by omega
  have a15 : (¬ back = 0 → ¬ (marks i).laid = 0) → XWp (xF L xs) (some .boolean) xP159 (XC (xF L xs) xmeths (d + 2)) Q 15 [orf 0, oi (nI i), oi back] [] (clsW pn pc tok (ship.wlaw (ship.law.wm stk kn)) nn tl draft vd log trial sta says seed past marks K) := by
    intro ok
    refine xgo [22, 31] 60 ?_
    refine And.intro (fun (q2 : back = 0) => ?_) (fun (q2 : ¬ back = 0) => ?_)
    · have h := hlay q2
      rcases hi4 with rfl | rfl | rfl | rfl
      · refine xgo [38] 20 ⟨Or.inr rfl, vp_in_nI (n := 0) (by decide) (by decide), rfl, nb rfl, c_layLog0 ?_⟩
        refine xgo [40] 20 ⟨Or.inr rfl, vp_in_nI (n := 0) (by decide) (by decide), ?_⟩
        exact ml0 h
      · refine xgo [38] 20 ⟨Or.inr rfl, vp_in_nI (n := 1) (by decide) (by decide), rfl, nb rfl, c_layLog1 ?_⟩
        refine xgo [40] 20 ⟨Or.inr rfl, vp_in_nI (n := 1) (by decide) (by decide), ?_⟩
        exact ml1 h
      · refine xgo [38] 20 ⟨Or.inr rfl, vp_in_nI (n := 2) (by decide) (by decide), rfl, nb rfl, c_layLog2 ?_⟩
        refine xgo [40] 20 ⟨Or.inr rfl, vp_in_nI (n := 2) (by decide) (by decide), ?_⟩
        exact ml2 h
      · refine xgo [38] 20 ⟨Or.inr rfl, vp_in_nI (n := 3) (by decide) (by decide), rfl, nb rfl, c_layLog3 ?_⟩
        refine xgo [40] 20 ⟨Or.inr rfl, vp_in_nI (n := 3) (by decide) (by decide), ?_⟩
        exact ml3 h
    · have h := hback q2 (ok q2)
      rcases hi4 with rfl | rfl | rfl | rfl
      · exact xgo [] 20 ⟨Or.inr rfl, vp_in_nI (n := 0) (by decide) (by decide), rfl, nb rfl, c_backLog0 ⟨rfl, h⟩⟩
      · exact xgo [] 20 ⟨Or.inr rfl, vp_in_nI (n := 1) (by decide) (by decide), rfl, nb rfl, c_backLog1 ⟨rfl, h⟩⟩
      · exact xgo [] 20 ⟨Or.inr rfl, vp_in_nI (n := 2) (by decide) (by decide), rfl, nb rfl, c_backLog2 ⟨rfl, h⟩⟩
      · exact xgo [] 20 ⟨Or.inr rfl, vp_in_nI (n := 3) (by decide) (by decide), rfl, nb rfl, c_backLog3 ⟨rfl, h⟩⟩
  refine And.intro (fun (q2 : back = 0) => a15 (fun y => absurd q2 y)) (fun (q2 : ¬ back = 0) => ?_)
  rcases hi4 with rfl | rfl | rfl | rfl
  · refine xgo [13, 15] 20 ⟨Or.inr rfl, vp_in_nI (n := 0) (by decide) (by decide), ?_⟩
    exact And.intro (fun (q3 : ¬ (marks 0).laid = 0) => a15 (fun _ => q3)) (fun (q3 : ¬ ¬ (marks 0).laid = 0) => a13 (fun y => q3 (y q2)))
  · refine xgo [13, 15] 20 ⟨Or.inr rfl, vp_in_nI (n := 1) (by decide) (by decide), ?_⟩
    exact And.intro (fun (q3 : ¬ (marks 1).laid = 0) => a15 (fun _ => q3)) (fun (q3 : ¬ ¬ (marks 1).laid = 0) => a13 (fun y => q3 (y q2)))
  · refine xgo [13, 15] 20 ⟨Or.inr rfl, vp_in_nI (n := 2) (by decide) (by decide), ?_⟩
    exact And.intro (fun (q3 : ¬ (marks 2).laid = 0) => a15 (fun _ => q3)) (fun (q3 : ¬ ¬ (marks 2).laid = 0) => a13 (fun y => q3 (y q2)))
  · refine xgo [13, 15] 20 ⟨Or.inr rfl, vp_in_nI (n := 3) (by decide) (by decide), ?_⟩
    exact And.intro (fun (q3 : ¬ (marks 3).laid = 0) => a15 (fun _ => q3)) (fun (q3 : ¬ ¬ (marks 3).laid = 0) => a13 (fun y => q3 (y q2)))
end XCR
