/-! how it is on the ship, without a class: greens, places, who sucked, watches over; what an order does -/
abbrev TA : Type := Fn × Fn × Nat × Nat
abbrev TA.g (a : TA) : Fn := a.1
abbrev TA.p (a : TA) : Fn := a.2.1
abbrev TA.su (a : TA) : Nat := a.2.2.1
abbrev TA.t (a : TA) : Nat := a.2.2.2
abbrev stP (s : TShip) (p : Fn) (n k b : Nat) : Prop := ¬ p k = nI b ∧ bcnt (bset (fun o => decide (p o = nI b)) n) < s.holds b
theorem stP_congr {s : TShip} {p p' : Fn} {n k b : Nat} (hk : k < n) (h : eqN n p p') : stP s p n k b ↔ stP s p' n k b := by
  have e : bset (fun o => decide (p o = nI b)) n = bset (fun o => decide (p' o = nI b)) n := bset_congr n (fun o ho => by rw [h o ho])
  simp only [stP, h k hk, e]
def folA (s : TShip) (n z vb m b : Nat) (A : TA) : Bool × TA :=
  if vb = 0 then (if stP s A.p n m b then (true, (A.g, upd A.p m (nI b), A.su, A.t)) else (false, A))
  else if vb = 1 then (if A.p m = -1 then (false, A) else (true, (A.g, upd A.p m (-1), A.su, A.t)))
  else if vb = 2 then (if A.su.testBit m then (false, A) else (true, (upd A.g m (mx 0 (A.g m - s.lemon)), A.p, A.su ||| 2 ^ m, A.t)))
  else if vb = 3 then (true, (fallG A.g s.shade n m, A.p, A.su, A.t))
  else if vb = 4 then (true, (newG s A.g A.p (s.sea (A.t % z)) n, A.p, A.su, A.t + 1))
  else (true, (harbG s A.g n, harbP A.p n, A.su, A.t))
abbrev AOk (A : TA) (n q : Nat) : Prop := (GP A.g A.p n q) ∧ (A.su < 64)
theorem AOk.gp {A : TA} {n q : Nat} (h : AOk A n q) : GP A.g A.p n q := h.1
theorem AOk.su {A : TA} {n q : Nat} (h : AOk A n q) : A.su < 64 := h.2
theorem eqN_upd {n k : Nat} {f g : Fn} {x : Int32} (h : eqN n f g) : eqN n (upd f k x) (upd g k x) := by
  intro j hj
  simp only [upd, h j hj]
theorem fol_ok {s : TShip} {n q z vb m b : Nat} {A : TA} (so : ShOk s n q z) (hm : vb < 4 → m < n) (hb : vb = 0 → b < q) (h : AOk A n q) : AOk (folA s n z vb m b A).2 n q := by
  have n6 := so.n6
  have hsh : rng s.shade 9 := by
    rcases so.shade with ⟨x, x1, x9, e⟩
    exact ⟨x, x9, e⟩
  have put : ∀ x : Int32, (x = -1 ∨ ∃ b, b < q ∧ x = nI b) → GP A.g (upd A.p m x) n q := by
    intro x hx
    refine ⟨h.gp.green, fun k hk => ?_⟩
    simp only [upd]
    split
    · exact hx
    · exact h.gp.place k hk
  simp only [folA]
  split
  · rename_i q0
    split
    · exact ⟨put _ (Or.inr ⟨b, hb q0, rfl⟩), h.su⟩
    · exact h
  · split
    · split
      · exact h
      · exact ⟨put _ (Or.inl rfl), h.su⟩
    · split
      · rename_i q2
        split
        · exact h
        · refine ⟨⟨fun k hk => ?_, h.gp.place⟩, ?_⟩
          · show rng (upd A.g m _ k) 99
            simp only [upd]
            split
            · rcases h.gp.green m (hm (by omega)) with ⟨x, hx, e⟩
              rcases so.lemon with ⟨y, hy, e2⟩
              rw [e, e2]
              exact mx0 hx (by omega) (by omega)
            · exact h.gp.green k hk
          · have := hm (by omega)
            exact Nat.or_lt_two_pow (n := 6) h.su (Nat.pow_lt_pow_right (by decide) (by omega))
      · split
        · exact ⟨fall_ok n6 (hm (by omega)) hsh h.gp, h.su⟩
        · split
          · exact ⟨newG_ok h.gp, h.su⟩
          · exact ⟨harb_ok so.harbour h.gp, h.su⟩
abbrev VoOk (v : TVoy) (n q c : Nat) : Prop := (v.lines = nI c) ∧ (c ≤ 40) ∧ (∀ i, i < c → ∃ vb m b, vb ≤ 5 ∧ (vb < 4 → m < n) ∧ (vb = 0 → b < q) ∧ m < 8 ∧ b < 8 ∧ v.line i = nI (vb + 8 * m + 64 * b))
theorem VoOk.lines {v : TVoy} {n q c : Nat} (h : VoOk v n q c) : v.lines = nI c := h.1
theorem VoOk.c40 {v : TVoy} {n q c : Nat} (h : VoOk v n q c) : c ≤ 40 := h.2.1
theorem VoOk.line {v : TVoy} {n q c : Nat} (h : VoOk v n q c) : ∀ i, i < c → ∃ vb m b, vb ≤ 5 ∧ (vb < 4 → m < n) ∧ (vb = 0 → b < q) ∧ m < 8 ∧ b < 8 ∧ v.line i = nI (vb + 8 * m + 64 * b) := h.2.2
def lnV (v : TVoy) (i : Nat) : Nat := (v.line i).toNatClampNeg % 8
def lnM (v : TVoy) (i : Nat) : Nat := (v.line i).toNatClampNeg / 8 % 8
def lnB (v : TVoy) (i : Nat) : Nat := (v.line i).toNatClampNeg / 64
theorem VoOk.at {v : TVoy} {n q c : Nat} (h : VoOk v n q c) {i : Nat} (hi : i < c) : lnV v i ≤ 5 ∧ (lnV v i < 4 → lnM v i < n) ∧ (lnV v i = 0 → lnB v i < q) ∧ lnM v i < 8 ∧ lnB v i < 8 ∧ v.line i = nI (lnV v i + 8 * lnM v i + 64 * lnB v i) := by
  rcases h.line i hi with ⟨vb, m, b, h1, h2, h3, h4, h5, e⟩
  have e0 : (v.line i).toNatClampNeg = vb + 8 * m + 64 * b := by rw [e, nI_clamp (by omega)]
  have e1 : lnV v i = vb := by rw [lnV, e0]; omega
  have e2 : lnM v i = m := by rw [lnM, e0]; omega
  have e3 : lnB v i = b := by rw [lnB, e0]; omega
  rw [e1, e2, e3]
  exact ⟨h1, h2, h3, h4, h5, e⟩
/-- the voyage, line by line: how it is; the first that is barred; the first that turns the captain -/
def vdA (s : TShip) (n z : Nat) (v : TVoy) (A : TA) : Nat → TA × Int32 × Int32
  | 0 => (A, -1, -1)
  | i + 1 =>
    let r := vdA s n z v A i
    let f := folA s n z (lnV v i) (lnM v i) (lnB v i) r.1
    (f.2, if f.1 = false ∧ r.2.1 = -1 then nI i else r.2.1, if r.2.2 = -1 ∧ ¬ capt f.2.g n = capt r.1.g n then nI i else r.2.2)
theorem vd_ok {s : TShip} {n q z c : Nat} {v : TVoy} {A : TA} (so : ShOk s n q z) (vo : VoOk v n q c) (h : AOk A n q) : ∀ i, i ≤ c → AOk (vdA s n z v A i).1 n q
  | 0, _ => h
  | i + 1, hi => by
    have ⟨_, h2, h3, _⟩ := vo.at (i := i) (by omega)
    exact fol_ok so h2 h3 (vd_ok so vo h i (by omega))
theorem fol_t {s : TShip} {n z vb m b : Nat} {A : TA} : (folA s n z vb m b A).2.t ≤ A.t + 1 := by
  simp only [folA]
  repeat' split
  all_goals simp only [TA.t]; omega
theorem vd_t {s : TShip} {n z : Nat} {v : TVoy} {A : TA} : ∀ i, (vdA s n z v A i).1.t ≤ A.t + i
  | 0 => Nat.le_refl _
  | i + 1 => by
    have := vd_t (s := s) (n := n) (z := z) (v := v) (A := A) i
    have h2 := fol_t (s := s) (n := n) (z := z) (vb := lnV v i) (m := lnM v i) (b := lnB v i) (A := (vdA s n z v A i).1)
    simp only [vdA]
    omega
abbrev TrA (c : TCrew) (n : Nat) (A : TA) : Prop := Tr c n A.g A.p (nI A.su) A.t
section XVO
variable {L : Nat} {xs : Nat → Int32} {d : Nat} {Q : XQt} {pn pc : Int32} {tok : TTok} {ship : TShip} {nn : Int64} {tl : Int32} {draft : TShip} {vd : TVoy} {log : TLog} {trial : TCrew} {sta : TSta} {says : Fn} {seed : Int64} {past : Nat → TCrew} {marks : Nat → TLog} {mi : TMi} {ma : TMa} {mb : TMb} {K : XWd}
variable {stk kn : Fn} {n p z : Nat} {A : TA}
theorem t_canStand {k b : Nat} (so : ShOk ship n p z) (tr : TrA trial n A) (hk : k < n) (hb : b < p) : canSt ship trial n (nI k) (nI b) ↔ stP ship A.p n k b := by
  have n6 := so.n6
  have p4 := so.p4
  simp only [canSt, nI_clamp (show k < 2 ^ 31 by omega), nI_clamp (show b < 2 ^ 31 by omega)]
  rw [← stP_congr hk tr.place]
  constructor
  · exact fun h => ⟨h.2.2.1, h.2.2.2⟩
  · exact fun h => ⟨⟨nI_pos' (by omega), so.men ▸ nI_lt hk (by omega)⟩, ⟨nI_pos' (by omega), so.posts ▸ nI_lt hb (by omega)⟩, h.1, h.2⟩
theorem t_canBelow {k : Nat} (so : ShOk ship n p z) (tr : TrA trial n A) (hk : k < n) : canBl ship trial (nI k) ↔ ¬ A.p k = -1 := by
  have n6 := so.n6
  simp only [canBl, nI_clamp (show k < 2 ^ 31 by omega)]
  have e : trial.place k = A.p k := tr.place k hk
  constructor
  · exact fun h => e ▸ h.2
  · exact fun h => ⟨⟨nI_pos' (by omega), so.men ▸ nI_lt hk (by omega)⟩, e ▸ h⟩
theorem t_canSuck {k : Nat} (so : ShOk ship n p z) (ao : AOk A n p) (tr : TrA trial n A) (hk : k < n) : canSk ship trial (nI k) ↔ ¬ A.su.testBit k = true := by
  have n6 := so.n6
  have := ao.su
  have e : trial.sucked = nI A.su := tr.sucked
  simp only [canSk, e]
  rw [bit_iff (by omega) (by omega)]
  constructor
  · exact fun h => h.2
  · exact fun h => ⟨⟨nI_pos' (by omega), so.men ▸ nI_lt hk (by omega)⟩, h⟩
theorem t_follow {vb m b : Nat} {x : Int32} (hx : x = nI (vb + 8 * m + 64 * b)) (hv : vb ≤ 5) (hm : vb < 4 → m < n) (hb : vb = 0 → b < p) (m8 : m < 8) (b8 : b < 8) (so : ShOk ship n p z) (hkn : KOk kn (RV ship.law)) (ao : AOk A n p) (tr : TrA trial n A) (ht : A.t < 2 ^ 31) (h : ∀ stk kn trial, KOk kn (RV ship.law) → TrA trial n (folA ship n z vb m b A).2 → Q (some (.int (b2i ((folA ship n z vb m b A).1 = true)))) (clsW pn pc tok (ship.wlaw (ship.law.wm stk kn)) nn tl draft vd log trial sta says seed past marks K)) : XC (xF L xs) xmeths (d + 5) 113 [.ref 44, .int x] (clsW pn pc tok (ship.wlaw (ship.law.wm stk kn)) nn tl draft vd log trial sta says seed past marks K) Q := by
  subst hx
  have n6 := so.n6
  have p4 := so.p4
  have em : nI (vb + 8 * m + 64 * b) >>> (Int32.ofInt 3 &&& 31) &&& Int32.ofInt 7 = nI m := by
    rw [pk_shrN (by omega) _ 3 (by decide)]
    rw [pk_andN (by omega) 3 (by decide)]
    congr 1
    omega
  have ev : nI (vb + 8 * m + 64 * b) &&& Int32.ofInt 7 = nI vb := by
    rw [pk_andN (by omega) 3 (by decide)]
    congr 1
    omega
  have eb : nI (vb + 8 * m + 64 * b) >>> (Int32.ofInt 6 &&& 31) = nI b := by
    rw [pk_shrN (by omega) _ 6 (by decide)]
    congr 1
    omega
  refine ⟨nb rfl, xgo [] 60 ⟨nb rfl, ?_⟩⟩
  rw [em]
  refine pk_eq vb 0 (fun q => ?_) (fun q => ?_) ev nI_0.symm (by omega) (by omega)
  · have hm := hm (by omega)
    have hb := hb q
    simp only [folA, if_pos q] at h
    refine ⟨rfl, nb rfl, c_standAt_44 (post := nI (vb + 8 * m + 64 * b) >>> (Int32.ofInt 6 &&& 31)) n6 so.men p4 so.posts (fun y => ?_) (fun y => ?_)⟩
    · rw [eb] at y
      have y := fun z => y ((t_canStand so tr hm hb).mpr z)
      rw [if_neg y] at h
      exact ⟨rfl, h stk kn trial hkn tr⟩
    · rw [eb] at y
      have y := (t_canStand so tr hm hb).mp y
      rw [if_pos y] at h
      refine ⟨rfl, h stk kn (trial.put (nI m).toNatClampNeg (nI (vb + 8 * m + 64 * b) >>> (Int32.ofInt 6 &&& 31))) hkn ?_⟩
      rw [nI_clamp (by omega), eb]
      exact ⟨tr.green, eqN_upd tr.place, tr.sucked, tr.over⟩
  refine pk_eq vb 1 (fun q1 => ?_) (fun q1 => ?_) ev rfl (by omega) (by omega)
  · have hm := hm (by omega)
    simp only [folA, if_neg q, if_pos q1] at h
    refine ⟨rfl, nb rfl, c_goBelow_44 n6 so.men (fun y => ?_) (fun y => ?_)⟩
    · have y : A.p m = -1 := Classical.not_not.mp (fun z => y ((t_canBelow so tr hm).mpr z))
      rw [if_pos y] at h
      exact ⟨rfl, h stk kn trial hkn tr⟩
    · have y := (t_canBelow so tr hm).mp y
      rw [if_neg y] at h
      refine ⟨rfl, h stk kn (trial.put (nI m).toNatClampNeg (-1)) hkn ?_⟩
      rw [nI_clamp (by omega)]
      exact ⟨tr.green, eqN_upd tr.place, tr.sucked, tr.over⟩
  refine pk_eq vb 2 (fun q2 => ?_) (fun q2 => ?_) ev rfl (by omega) (by omega)
  · have hm := hm (by omega)
    simp only [folA, if_neg q, if_neg q1, if_pos q2] at h
    refine ⟨rfl, nb rfl, c_suckLemon_44 (by omega) (fun y => ?_) (fun y => ?_)⟩
    · have y : A.su.testBit m = true := Classical.not_not.mp (fun z => y ((t_canSuck so ao tr hm).mpr z))
      rw [if_pos y] at h
      exact ⟨rfl, h stk kn trial hkn tr⟩
    · have y := (t_canSuck so ao tr hm).mp y
      rw [if_neg y] at h
      refine ⟨rfl, h stk kn (trial.suck ship.lemon m) hkn ⟨?_, tr.place, ?_, tr.over⟩⟩
      · have e : trial.green m = A.g m := tr.green m hm
        show ∀ k, k < n → upd trial.green m (mx 0 (trial.green m - ship.lemon)) k = _
        rw [e]
        exact eqN_upd tr.green
      · show trial.sucked ||| _ = _
        rw [tr.sucked, shl_of m (by omega), nI_or]
  refine pk_eq vb 3 (fun q3 => ?_) (fun q3 => ?_) ev rfl (by omega) (by omega)
  · have hm := hm (by omega)
    simp only [folA, if_neg q, if_neg q1, if_neg q2, if_pos q3] at h
    exact ⟨rfl, nb rfl, c_fallIn_44 n6 so.men hm ⟨rfl, h stk kn (trial.wg (fallG trial.green ship.shade n m)) hkn ⟨fallG_congr n6 hm tr.green, tr.place, tr.sucked, tr.over⟩⟩⟩
  refine pk_eq vb 4 (fun q4 => ?_) (fun q4 => ?_) ev rfl (by omega) (by omega)
  · simp only [folA, if_neg q, if_neg q1, if_neg q2, if_neg q3, if_pos q4] at h
    exact ⟨rfl, nb rfl, t_seaNow so tr ht ⟨rfl, nb rfl, t_passWatch so hkn tr ao.gp (so.sea _ (Nat.mod_lt _ so.z1)) (fun stk kn trial hkn tr => ⟨rfl, h stk kn trial hkn tr⟩)⟩⟩
  · simp only [folA, if_neg q, if_neg q1, if_neg q2, if_neg q3, if_neg q4] at h
    exact ⟨rfl, nb rfl, t_enterHarbour so tr (fun trial tr => ⟨rfl, h stk kn trial hkn tr⟩)⟩
abbrev bdA (s : TShip) : TA := (s.green, fun _ => -1, 0, 0)
theorem c_verdict {c : Nat} {what : Int32} (so : ShOk ship n p z) (vo : VoOk log.voy n p c) (hkn : KOk kn (RV ship.law)) (h : ∀ stk kn trial, KOk kn (RV ship.law) → Q (some (.int (if what = 0 then (vdA ship n z log.voy (bdA ship) c).2.1 else if what = 1 then (vdA ship n z log.voy (bdA ship) c).2.2 else bst (vdA ship n z log.voy (bdA ship) c).1.g n))) (clsW pn pc tok (ship.wlaw (ship.law.wm stk kn)) nn tl draft vd log trial sta says seed past marks K)) : XC (xF L xs) xmeths (d + 6) 111 [.ref 33, .ref 44, .int what] (clsW pn pc tok (ship.wlaw (ship.law.wm stk kn)) nn tl draft vd log trial sta says seed past marks K) Q := by
  have n6 := so.n6
  have c40 := vo.c40
  have ao : AOk (bdA ship) n p := ⟨⟨fun k hk => by
    rcases so.green k hk with ⟨x, hx, e⟩
    exact ⟨x, by omega, e⟩, fun k hk => Or.inl rfl⟩, show (0 : Nat) < 64 by decide⟩
  refine ⟨nb rfl, xgo [8] 60 ⟨nb rfl, nb rfl, ⟨rfl, nb rfl, c_boardAnew_44 ⟨nb rfl, ?_⟩⟩⟩⟩
  refine up_to (P := fun i => ∀ stk kn trial x6 x7, KOk kn (RV ship.law) → TrA trial n (vdA ship n z log.voy (bdA ship) i).1 → XWp (xF L xs) (some .int) xP111 (XC (xF L xs) xmeths (d + 5)) Q 8 [orf 33, orf 44, oi what, oi (vdA ship n z log.voy (bdA ship) i).2.1, oi (vdA ship n z log.voy (bdA ship) i).2.2, oi (nI i), x6, x7] [] (clsW pn pc tok (ship.wlaw (ship.law.wm stk kn)) nn tl draft vd log trial sta says seed past marks K)) (n := c) (fun i hi ih stk kn trial x6 x7 hkn tr => xgo [8, 29, 38] 60 ?_) stk kn (trial.rise, cp6 ship.green trial.green, fil trial.place (-1) 6, 0, 0) none none hkn ⟨fun k hk => cp6_lt (by omega), fun k hk => by show fil trial.place (-1) 6 k = -1; simp only [fil]; rw [if_pos (by omega)], rfl, rfl⟩
  refine pk_le c i (fun q => ?_) (fun q => ?_) vo.lines rfl (by omega) (by omega)
  · have e : i = c := by omega
    subst e
    have h := h stk kn trial hkn
    refine And.intro (fun (q1 : ¬ what = 0) => ?_) (fun (q1 : ¬ ¬ what = 0) => ?_)
    · rw [if_neg q1] at h
      refine And.intro (fun (q2 : ¬ what = 1) => ?_) (fun (q2 : ¬ ¬ what = 1) => ?_)
      · rw [if_neg q2] at h
        exact ⟨rfl, nb rfl, t_greenest so tr h⟩
      · rw [if_pos (Classical.not_not.mp q2)] at h
        exact h
    · rw [if_pos (Classical.not_not.mp q1)] at h
      exact h
  · have ih := ih q
    have ⟨h1, h2, h3, h4, h5, e⟩ := vo.at q
    have aoi := vd_ok so vo ao i (by omega)
    have hti := vd_t (s := ship) (n := n) (z := z) (v := log.voy) (A := bdA ship) i
    have hti : (vdA ship n z log.voy (bdA ship) i).1.t ≤ i := Nat.le_trans hti (show 0 + i ≤ i by omega)
    simp only [vdA] at ih
    generalize vdA ship n z log.voy (bdA ship) i = r at *
    refine ⟨rfl, nb rfl, t_leader so tr ⟨nb rfl, vp_in_nI (by omega) (by omega), ?_⟩⟩
    refine ⟨rfl, nb rfl, t_follow (x := log.voy.line (nI i).toNatClampNeg) (by rw [nI_clamp (by omega)]; exact e) h1 h2 h3 h4 h5 so hkn aoi tr (by omega) (fun stk kn trial hkn tr => ⟨nb rfl, ?_⟩)⟩
    generalize folA ship n z (lnV log.voy i) (lnM log.voy i) (lnB log.voy i) r.1 = f at *
    have last : ∀ (bd : Int32), bd = (if f.1 = false ∧ r.2.1 = -1 then nI i else r.2.1) → XWp (xF L xs) (some .int) xP111 (XC (xF L xs) xmeths (d + 5)) Q 29 [orf 33, orf 44, oi what, oi bd, oi r.2.2, oi (nI i), oi (capt r.1.g n), oi (b2i (f.1 = true))] [] (clsW pn pc tok (ship.wlaw (ship.law.wm stk kn)) nn tl draft vd log trial sta says seed past marks K) := by
      intro bd hbd
      have ih := ih stk kn trial (oi (capt r.1.g n)) (oi (b2i (f.1 = true))) hkn tr
      rw [← hbd, nI_succ] at ih
      refine xgo [8] 60 ?_
      refine And.intro (fun (q1 : ¬ r.2.2 = -1) => ?_) (fun (q1 : ¬ ¬ r.2.2 = -1) => ?_)
      · rw [if_neg (fun y => q1 y.1)] at ih
        exact ih
      · refine ⟨rfl, nb rfl, t_leader so tr ?_⟩
        refine And.intro (fun (q2 : capt f.2.g n = capt r.1.g n) => ?_) (fun (q2 : ¬ capt f.2.g n = capt r.1.g n) => ?_)
        · rw [if_neg (fun y => y.2 q2)] at ih
          exact ih
        · rw [if_pos ⟨Classical.not_not.mp q1, q2⟩] at ih
          exact ⟨nb rfl, ih⟩
    refine vB1 (fun q1 => last _ ?_) (fun q1 => ?_)
    · rw [if_neg (fun y => by rw [q1] at y; exact absurd y.1 (by decide))]
    · refine And.intro (fun (q2 : ¬ r.2.1 = -1) => last _ ?_) (fun (q2 : ¬ ¬ r.2.1 = -1) => ⟨nb rfl, last _ ?_⟩)
      · rw [if_neg (fun y => q2 y.2)]
      · rw [if_pos ⟨by simpa using q1, Classical.not_not.mp q2⟩]
end XVO
