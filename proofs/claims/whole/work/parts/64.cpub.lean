/-! the class: what is called from outside -/
abbrev crA (c : TCrew) (a t : Nat) : TA := (c.green, c.place, a, t)
section XCP
variable {L : Nat} {xs : Nat → Int32} {d : Nat} {Q : XQt} {pn pc : Int32} {tok : TTok} {ship : TShip} {nn : Int64} {tl : Int32} {draft : TShip} {vd : TVoy} {log : TLog} {trial : TCrew} {sta : TSta} {says : Fn} {seed : Int64} {past : Nat → TCrew} {marks : Nat → TLog} {K : XWd}
variable {stk kn : Fn} {n p z a t q c : Nat}
theorem wi_1 {x : Int32} {m : Nat} (hm : m + 1 < 2 ^ 31) (h : 1 ≤ x ∧ x ≤ nI m) : ∃ j, 1 ≤ j ∧ j ≤ m ∧ x = nI j := by
  rcases wiN hm ⟨Int32.le_trans (by decide) h.1, h.2⟩ with ⟨j, hj, rfl⟩
  refine ⟨j, ?_, hj, rfl⟩
  rcases Nat.eq_zero_or_pos j with rfl | y
  · exact absurd h.1 (by decide)
  · exact y
theorem canSt_iff {k b : Nat} {s : TShip} {cr : TCrew} (hm : s.men = nI n) (hp : s.posts = nI p) (n6 : n ≤ 6) (p4 : p ≤ 4) (hk : k < n) (hb : b < p) : canSt s cr n (nI k) (nI b) ↔ stP s cr.place n k b := by
  simp only [canSt, hm, hp, nI_clamp (show k < 2 ^ 31 by omega), nI_clamp (show b < 2 ^ 31 by omega)]
  exact ⟨fun y => ⟨y.2.2.1, y.2.2.2⟩, fun y => ⟨inN hk (by omega), inN hb (by omega), y.1, y.2⟩⟩
theorem c_stand {man post : Int32} (so : ShOk ship n p z) (hq : pn = nI q) (q16 : q < 16) (hc : pc = nI c) (c16 : c ≤ 16) (h1 : ∀ k b, k < n → b < p → man = nI k → post = nI b → stP ship log.crew.place n k b → Q (some (.int 1)) (clsW (nI ((q + 1) % 16)) (nI (ccap c)) tok (ship.wlaw (ship.law.wm stk kn)) nn tl draft vd (log.wcrew (log.crew.put k (nI b))) trial sta says seed (pset past q ((past q).cp log.crew)) marks K)) (h0 : (∀ k b, k < n → b < p → man = nI k → post = nI b → ¬ stP ship log.crew.place n k b) → Q (some (.int 0)) (clsW pn pc tok (ship.wlaw (ship.law.wm stk kn)) nn tl draft vd log trial sta says seed past marks K)) : XC (xF L xs) xmeths (d + 4) 81 [.ref 0, .int man, .int post] (clsW pn pc tok (ship.wlaw (ship.law.wm stk kn)) nn tl draft vd log trial sta says seed past marks K) Q := by
  have n6 := so.n6
  have p4 := so.p4
  refine ⟨nb rfl, xgo [] 40 ⟨rfl, nb rfl, c_canStand_40 so.n6 so.men so.p4 so.posts ?_⟩⟩
  refine vB1 (fun y => ?_) (fun y => ⟨rfl, h0 (fun k b hk hb e1 e2 z => y ?_)⟩)
  · rcases inI (by omega) (so.men ▸ y.1) with ⟨k, hk, rfl⟩
    rcases inI (by omega) (so.posts ▸ y.2.1) with ⟨b, hb, rfl⟩
    have z := (canSt_iff so.men so.posts so.n6 so.p4 hk hb).mp y
    have h := h1 k b hk hb rfl rfl z
    refine ⟨rfl, nb rfl, c_keepPast hq q16 hc c16 ⟨rfl, nb rfl, c_standAt_40 so.n6 so.men so.p4 so.posts (fun w => absurd y w) (fun _ => ⟨rfl, ?_⟩)⟩⟩
    rw [nI_clamp (by omega)]
    exact h
  · subst e1 e2
    exact (canSt_iff so.men so.posts so.n6 so.p4 hk hb).mpr z
theorem c_below {man : Int32} (so : ShOk ship n p z) (hq : pn = nI q) (q16 : q < 16) (hc : pc = nI c) (c16 : c ≤ 16) (h1 : ∀ k, k < n → man = nI k → ¬ log.crew.place k = -1 → Q (some (.int 1)) (clsW (nI ((q + 1) % 16)) (nI (ccap c)) tok (ship.wlaw (ship.law.wm stk kn)) nn tl draft vd (log.wcrew (log.crew.put k (-1))) trial sta says seed (pset past q ((past q).cp log.crew)) marks K)) (h0 : (∀ k, k < n → man = nI k → log.crew.place k = -1) → Q (some (.int 0)) (clsW pn pc tok (ship.wlaw (ship.law.wm stk kn)) nn tl draft vd log trial sta says seed past marks K)) : XC (xF L xs) xmeths (d + 4) 87 [.ref 0, .int man] (clsW pn pc tok (ship.wlaw (ship.law.wm stk kn)) nn tl draft vd log trial sta says seed past marks K) Q := by
  have n6 := so.n6
  refine ⟨nb rfl, xgo [] 40 ⟨rfl, nb rfl, c_canGoBelow_40 so.n6 so.men ?_⟩⟩
  refine vB1 (fun y => ?_) (fun y => ⟨rfl, h0 (fun k hk e1 => Classical.byContradiction (fun z => y ?_))⟩)
  · rcases inI (by omega) (so.men ▸ y.1) with ⟨k, hk, rfl⟩
    have z := y.2
    rw [nI_clamp (by omega)] at z
    have h := h1 k hk rfl z
    refine ⟨rfl, nb rfl, c_keepPast hq q16 hc c16 ⟨rfl, nb rfl, c_goBelow_40 so.n6 so.men (fun w => absurd y w) (fun _ => ⟨rfl, ?_⟩)⟩⟩
    rw [nI_clamp (by omega)]
    exact h
  · subst e1
    refine ⟨?_, by rw [nI_clamp (by omega)]; exact z⟩
    show 0 ≤ nI k ∧ nI k < ship.men
    rw [so.men]
    exact inN hk (by omega)
theorem c_suck {man : Int32} (so : ShOk ship n p z) (hs : log.crew.sucked = nI a) (ha : a < 64) (hq : pn = nI q) (q16 : q < 16) (hc : pc = nI c) (c16 : c ≤ 16) (h1 : ∀ k, k < n → man = nI k → ¬ a.testBit k = true → Q (some (.int (mx 0 (log.crew.green k - ship.lemon)))) (clsW (nI ((q + 1) % 16)) (nI (ccap c)) tok (ship.wlaw (ship.law.wm stk kn)) nn tl draft vd (log.wcrew (log.crew.suck ship.lemon k)) trial sta says seed (pset past q ((past q).cp log.crew)) marks K)) (h0 : (∀ k, k < n → man = nI k → a.testBit k = true) → Q (some (.int (-1))) (clsW pn pc tok (ship.wlaw (ship.law.wm stk kn)) nn tl draft vd log trial sta says seed past marks K)) : XC (xF L xs) xmeths (d + 4) 90 [.ref 0, .int man] (clsW pn pc tok (ship.wlaw (ship.law.wm stk kn)) nn tl draft vd log trial sta says seed past marks K) Q := by
  have n6 := so.n6
  have hb : ∀ k, k < n → (bit log.crew.sucked (nI k) ↔ a.testBit k = true) := fun k hk => by rw [hs]; exact bit_iff (by omega) (by omega)
  refine ⟨nb rfl, xgo [] 60 ⟨rfl, nb rfl, c_canSuck_40 ?_⟩⟩
  refine vB1 (fun y => ?_) (fun y => h0 (fun k hk e1 => Classical.byContradiction (fun z => y ?_)))
  · rcases inI (by omega) (so.men ▸ y.1) with ⟨k, hk, rfl⟩
    have h := h1 k hk rfl (fun w => y.2 ((hb k hk).mpr w))
    refine ⟨rfl, nb rfl, c_keepPast hq q16 hc c16 ⟨rfl, nb rfl, c_suckLemon_40 (by omega) (fun w => absurd y w) (fun _ => ⟨vp_in_nI (by omega) (by omega), ?_⟩)⟩⟩
    rw [nI_clamp (by omega)]
    have e : upd log.crew.green k (mx 0 (log.crew.green k - ship.lemon)) k = mx 0 (log.crew.green k - ship.lemon) := pk_us
    rw [← e] at h
    exact h
  · subst e1
    refine ⟨?_, fun w => z ((hb k hk).mp w)⟩
    show 0 ≤ nI k ∧ nI k < ship.men
    rw [so.men]
    exact inN hk (by omega)
theorem c_fall {man : Int32} (so : ShOk ship n p z) (hq : pn = nI q) (q16 : q < 16) (hc : pc = nI c) (c16 : c ≤ 16) (h1 : ∀ k, k < n → man = nI k → Q (some (.int (fallG log.crew.green ship.shade n k k))) (clsW (nI ((q + 1) % 16)) (nI (ccap c)) tok (ship.wlaw (ship.law.wm stk kn)) nn tl draft vd (log.wcrew (log.crew.wg (fallG log.crew.green ship.shade n k))) trial sta says seed (pset past q ((past q).cp log.crew)) marks K)) (h0 : ¬ (0 ≤ man ∧ man < nI n) → Q (some (.int (-1))) (clsW pn pc tok (ship.wlaw (ship.law.wm stk kn)) nn tl draft vd log trial sta says seed past marks K)) : XC (xF L xs) xmeths (d + 4) 93 [.ref 0, .int man] (clsW pn pc tok (ship.wlaw (ship.law.wm stk kn)) nn tl draft vd log trial sta says seed past marks K) Q := by
  have n6 := so.n6
  refine ⟨nb rfl, xgo [] 60 ⟨rfl, nb rfl, c_isMan ?_⟩⟩
  refine vB1 (fun y => ?_) (fun y => h0 (fun z => y (by show 0 ≤ man ∧ man < ship.men; rw [so.men]; exact z)))
  rcases inI (by omega) (so.men ▸ y) with ⟨k, hk, rfl⟩
  have h := h1 k hk rfl
  refine ⟨rfl, nb rfl, c_keepPast hq q16 hc c16 ⟨rfl, nb rfl, c_fallIn_40 so.n6 so.men hk ⟨vp_in_nI (by omega) (by omega), ?_⟩⟩⟩
  rw [nI_clamp (by omega)]
  exact h
theorem c_watch (so : ShOk ship n p z) (hkn : KOk kn (RV ship.law)) (gp : GP log.crew.green log.crew.place n p) (lo : log.crew.over = nI t) (ht : t < 2 ^ 31) (hq : pn = nI q) (q16 : q < 16) (hc : pc = nI c) (c16 : c ≤ 16) (h : ∀ ri stk kn, KOk kn (RV ship.law) → Q (some (.int (nI (t + 1)))) (clsW (nI ((q + 1) % 16)) (nI (ccap c)) tok (ship.wlaw (ship.law.wm stk kn)) nn tl draft vd (log.wcrew (ri, newG ship log.crew.green log.crew.place (ship.sea (t % z)) n, log.crew.place, log.crew.sucked, log.crew.over + 1)) trial sta says seed (pset past q ((past q).cp log.crew)) marks K)) : XC (xF L xs) xmeths (d + 5) 96 [.ref 0] (clsW pn pc tok (ship.wlaw (ship.law.wm stk kn)) nn tl draft vd log trial sta says seed past marks K) Q := by
  have hsea := so.sea _ (Nat.mod_lt t so.z1)
  refine ⟨nb rfl, xgo [9] 60 ⟨rfl, nb rfl, c_keepPast hq q16 hc c16 ⟨rfl, nb rfl, c_seaNow_40 so.seas so.z1 so.z12 ht lo ?_⟩⟩⟩
  rcases hsea with ⟨w, hw, ew⟩
  suffices a9 : ∀ x, x = nI w → XWp (xF L xs) (some .int) xP96 (XC (xF L xs) xmeths (d + 4)) Q 9 [orf 0] [.int x, .ref 40] (clsW (nI ((q + 1) % 16)) (nI (ccap c)) tok (ship.wlaw (ship.law.wm stk kn)) nn tl draft vd log trial sta says seed (pset past q ((past q).cp log.crew)) marks K) from a9 _ ew
  intro x hx
  subst hx
  refine xgo [] 40 ⟨rfl, nb rfl, c_passWatch_40 (so.memo hkn) gp hw (fun ri stk kn hk => ?_)⟩
  have h := h ri stk kn hk
  rw [ew, nI_succ, ← lo] at h
  exact h
theorem c_dock (so : ShOk ship n p z) (hq : pn = nI q) (q16 : q < 16) (hc : pc = nI c) (c16 : c ≤ 16) (h : Q (some (.int (sumF (harbG ship log.crew.green n) n))) (clsW (nI ((q + 1) % 16)) (nI (ccap c)) tok (ship.wlaw (ship.law.wm stk kn)) nn tl draft vd (log.wcrew (log.crew.rise, harbG ship log.crew.green n, harbP log.crew.place n, log.crew.sucked, log.crew.over)) trial sta says seed (pset past q ((past q).cp log.crew)) marks K)) : XC (xF L xs) xmeths (d + 4) 106 [.ref 0] (clsW pn pc tok (ship.wlaw (ship.law.wm stk kn)) nn tl draft vd log trial sta says seed past marks K) Q := by
  exact ⟨nb rfl, xgo [] 60 ⟨rfl, nb rfl, c_keepPast hq q16 hc c16 ⟨rfl, nb rfl, c_enterHarbour_40 so.n6 so.men ⟨rfl, nb rfl, c_allGreens_40 so.n6 so.men h⟩⟩⟩⟩
theorem c_captain (so : ShOk ship n p z) (h : Q (some (.int (capt log.crew.green n))) (clsW pn pc tok (ship.wlaw (ship.law.wm stk kn)) nn tl draft vd log trial sta says seed past marks K)) : XC (xF L xs) xmeths (d + 3) 114 [.ref 0] (clsW pn pc tok (ship.wlaw (ship.law.wm stk kn)) nn tl draft vd log trial sta says seed past marks K) Q :=
  ⟨nb rfl, xgo [] 20 ⟨rfl, nb rfl, c_leader_40 so.n6 so.men h⟩⟩
theorem c_twins (so : ShOk ship n p z) (h : Q (some (.int (nI (prsC log.crew.green n n)))) (clsW pn pc tok (ship.wlaw (ship.law.wm stk kn)) nn tl draft vd log trial sta says seed past marks K)) : XC (xF L xs) xmeths (d + 3) 136 [.ref 0] (clsW pn pc tok (ship.wlaw (ship.law.wm stk kn)) nn tl draft vd log trial sta says seed past marks K) Q :=
  ⟨nb rfl, xgo [] 20 ⟨rfl, nb rfl, c_equalPairs so.n6 so.men h⟩⟩
theorem c_shades (so : ShOk ship n p z) (h : Q (some (.int (nI (cnt (shF log.crew.green ship.shade) n)))) (clsW pn pc tok (ship.wlaw (ship.law.wm stk kn)) nn tl draft vd log trial sta says seed past marks K)) : XC (xF L xs) xmeths (d + 3) 138 [.ref 0] (clsW pn pc tok (ship.wlaw (ship.law.wm stk kn)) nn tl draft vd log trial sta says seed past marks K) Q := by
  rcases so.shade with ⟨s, h1, h2, e⟩
  exact ⟨nb rfl, xgo [] 20 ⟨rfl, nb rfl, c_differentShades so.n6 so.men h1 h2 e h⟩⟩
theorem c_argues {man : Int32} (so : ShOk ship n p z) (h1 : ∀ k, k < n → man = nI k → Q (some (.int (bset (quaF log.crew.green ship.shade k) n))) (clsW pn pc tok (ship.wlaw (ship.law.wm stk kn)) nn tl draft vd log trial sta says seed past marks K)) (h0 : ¬ (0 ≤ man ∧ man < nI n) → Q (some (.int (-1))) (clsW pn pc tok (ship.wlaw (ship.law.wm stk kn)) nn tl draft vd log trial sta says seed past marks K)) : XC (xF L xs) xmeths (d + 3) 115 [.ref 0, .int man] (clsW pn pc tok (ship.wlaw (ship.law.wm stk kn)) nn tl draft vd log trial sta says seed past marks K) Q := by
  have n6 := so.n6
  refine ⟨nb rfl, xgo [] 60 ⟨rfl, nb rfl, c_isMan ?_⟩⟩
  refine vB0 (fun y => h0 (fun z => y (by show 0 ≤ man ∧ man < ship.men; rw [so.men]; exact z))) (fun y => ?_)
  rcases inI (by omega) (so.men ▸ y) with ⟨k, hk, rfl⟩
  exact ⟨rfl, nb rfl, c_quarrelling so.n6 so.men (by omega) (h1 k hk rfl)⟩
theorem c_salutes {man : Int32} (so : ShOk ship n p z) (h1 : ∀ k, k < n → man = nI k → Q (some (.int (bset (salF log.crew.green ship.shade k) n))) (clsW pn pc tok (ship.wlaw (ship.law.wm stk kn)) nn tl draft vd log trial sta says seed past marks K)) (h0 : ¬ (0 ≤ man ∧ man < nI n) → Q (some (.int (-1))) (clsW pn pc tok (ship.wlaw (ship.law.wm stk kn)) nn tl draft vd log trial sta says seed past marks K)) : XC (xF L xs) xmeths (d + 3) 117 [.ref 0, .int man] (clsW pn pc tok (ship.wlaw (ship.law.wm stk kn)) nn tl draft vd log trial sta says seed past marks K) Q := by
  have n6 := so.n6
  refine ⟨nb rfl, xgo [] 60 ⟨rfl, nb rfl, c_isMan ?_⟩⟩
  refine vB0 (fun y => h0 (fun z => y (by show 0 ≤ man ∧ man < ship.men; rw [so.men]; exact z))) (fun y => ?_)
  rcases inI (by omega) (so.men ▸ y) with ⟨k, hk, rfl⟩
  exact ⟨rfl, nb rfl, c_saluted so.n6 so.men (by omega) (h1 k hk rfl)⟩
theorem c_when {man : Int32} (so : ShOk ship n p z) (hkn : KOk kn (RV ship.law)) (gp : GP log.crew.green log.crew.place n p) (lo : log.crew.over = nI t) (ht : t < 2 ^ 30) (h1 : 0 ≤ man ∧ man < nI n → ∀ stk kn trial, KOk kn (RV ship.law) → Q (some (.int (fstI (fun j => decide (capt (runG ship log.crew.place n z t log.crew.green j) n = man)) 0 61))) (clsW pn pc tok (ship.wlaw (ship.law.wm stk kn)) nn tl draft vd log trial sta says seed past marks K)) (h0 : ¬ (0 ≤ man ∧ man < nI n) → Q (some (.int (-1))) (clsW pn pc tok (ship.wlaw (ship.law.wm stk kn)) nn tl draft vd log trial sta says seed past marks K)) : XC (xF L xs) xmeths (d + 6) 119 [.ref 0, .int man] (clsW pn pc tok (ship.wlaw (ship.law.wm stk kn)) nn tl draft vd log trial sta says seed past marks K) Q := by
  refine ⟨nb rfl, xgo [] 60 ⟨rfl, nb rfl, c_isMan ?_⟩⟩
  refine vB0 (fun y => h0 (fun z => y (by show 0 ≤ man ∧ man < ship.men; rw [so.men]; exact z))) (fun y => ?_)
  exact ⟨rfl, nb rfl, c_untilLeading so hkn gp lo ht (h1 (so.men ▸ y))⟩
theorem c_passes {man other : Int32} (so : ShOk ship n p z) (hkn : KOk kn (RV ship.law)) (gp : GP log.crew.green log.crew.place n p) (lo : log.crew.over = nI t) (ht : t < 2 ^ 30) (h1 : ∀ m o, m < n → o < n → man = nI m → other = nI o → ¬ m = o → ∀ stk kn trial, KOk kn (RV ship.law) → Q (some (.int (fstI (fun j => decide (runG ship log.crew.place n z t log.crew.green j o < runG ship log.crew.place n z t log.crew.green j m)) 0 61))) (clsW pn pc tok (ship.wlaw (ship.law.wm stk kn)) nn tl draft vd log trial sta says seed past marks K)) (h0 : ¬ ((0 ≤ man ∧ man < nI n) ∧ (0 ≤ other ∧ other < nI n) ∧ ¬ man = other) → Q (some (.int (-1))) (clsW pn pc tok (ship.wlaw (ship.law.wm stk kn)) nn tl draft vd log trial sta says seed past marks K)) : XC (xF L xs) xmeths (d + 6) 121 [.ref 0, .int man, .int other] (clsW pn pc tok (ship.wlaw (ship.law.wm stk kn)) nn tl draft vd log trial sta says seed past marks K) Q := by
  have n6 := so.n6
  refine ⟨nb rfl, xgo [] 60 ⟨rfl, nb rfl, c_isPair ?_⟩⟩
  refine vB0 (fun y => h0 (fun z => y (by show (0 ≤ man ∧ man < ship.men) ∧ (0 ≤ other ∧ other < ship.men) ∧ ¬ man = other; rw [so.men]; exact z))) (fun y => ?_)
  rcases inI (by omega) (so.men ▸ y.1) with ⟨m, hm, rfl⟩
  rcases inI (by omega) (so.men ▸ y.2.1) with ⟨o, ho, rfl⟩
  exact ⟨rfl, nb rfl, c_untilGreener hm ho so hkn gp lo ht (h1 m o hm ho rfl rfl (fun z => y.2.2 (by rw [z])))⟩
theorem c_first {man other : Int32} (so : ShOk ship n p z) (hkn : KOk kn (RV ship.law)) (gp : GP log.crew.green log.crew.place n p) (lo : log.crew.over = nI t) (ht : t < 2 ^ 30) {x y : Int32} (hx : fstI (fun j => decide (capt (runG ship log.crew.place n z t log.crew.green j) n = man)) 0 61 = x) (hy : fstI (fun j => decide (capt (runG ship log.crew.place n z t log.crew.green j) n = other)) 0 61 = y) (h1 : ((0 ≤ man ∧ man < nI n) ∧ (0 ≤ other ∧ other < nI n) ∧ ¬ man = other) → ∀ stk kn trial, KOk kn (RV ship.law) → Q (some (.int (if x = y then -1 else if y = -1 ∨ (¬ x = -1 ∧ x < y) then man else other))) (clsW pn pc tok (ship.wlaw (ship.law.wm stk kn)) nn tl draft vd log trial sta says seed past marks K)) (h0 : ¬ ((0 ≤ man ∧ man < nI n) ∧ (0 ≤ other ∧ other < nI n) ∧ ¬ man = other) → Q (some (.int (-1))) (clsW pn pc tok (ship.wlaw (ship.law.wm stk kn)) nn tl draft vd log trial sta says seed past marks K)) : XC (xF L xs) xmeths (d + 7) 141 [.ref 0, .int man, .int other] (clsW pn pc tok (ship.wlaw (ship.law.wm stk kn)) nn tl draft vd log trial sta says seed past marks K) Q := by
  refine ⟨nb rfl, xgo [] 60 ⟨rfl, nb rfl, c_isPair ?_⟩⟩
  refine vB0 (fun y => h0 (fun z => y (by show (0 ≤ man ∧ man < ship.men) ∧ (0 ≤ other ∧ other < ship.men) ∧ ¬ man = other; rw [so.men]; exact z))) (fun y => ?_)
  refine ⟨rfl, nb rfl, c_soonerLeading so hkn gp lo ht hx hy (h1 ?_)⟩
  have y : (0 ≤ man ∧ man < ship.men) ∧ (0 ≤ other ∧ other < ship.men) ∧ ¬ man = other := y
  rw [so.men] at y
  exact y
theorem c_changes {w : Int32} (so : ShOk ship n p z) (hkn : KOk kn (RV ship.law)) (gp : GP log.crew.green log.crew.place n p) (lo : log.crew.over = nI t) (ht : t < 2 ^ 30) (h1 : ∀ m, 1 ≤ m → m ≤ 60 → w = nI m → ∀ stk kn trial, KOk kn (RV ship.law) → Q (some (.int (nI (turnsI (fun j => capt (runG ship log.crew.place n z t log.crew.green j) n) m)))) (clsW pn pc tok (ship.wlaw (ship.law.wm stk kn)) nn tl draft vd log trial sta says seed past marks K)) (h0 : ¬ (1 ≤ w ∧ w ≤ 60) → Q (some (.int (-1))) (clsW pn pc tok (ship.wlaw (ship.law.wm stk kn)) nn tl draft vd log trial sta says seed past marks K)) : XC (xF L xs) xmeths (d + 6) 124 [.ref 0, .int w] (clsW pn pc tok (ship.wlaw (ship.law.wm stk kn)) nn tl draft vd log trial sta says seed past marks K) Q := by
  refine ⟨nb rfl, xgo [] 60 ⟨rfl, nb rfl, c_isWithin ?_⟩⟩
  refine vB0 (fun y => h0 y) (fun y => ?_)
  rcases wi_1 (m := 60) (by omega) y with ⟨m, m1, m60, rfl⟩
  exact ⟨rfl, nb rfl, c_leaderTurns m60 so hkn gp lo ht (h1 m m1 m60 rfl)⟩
theorem c_docks {man : Int32} (so : ShOk ship n p z) (hkn : KOk kn (RV ship.law)) (lo : log.crew.over = nI t) (h1 : 0 ≤ man ∧ man < nI n → ∀ stk kn trial, KOk kn (RV ship.law) → Q (some (.int (fstI (fun j => decide (¬ b2i (capt (harbR ship n log.crew.green j) n = man) = b2i (capt log.crew.green n = man))) 1 50))) (clsW pn pc tok (ship.wlaw (ship.law.wm stk kn)) nn tl draft vd log trial sta says seed past marks K)) (h0 : ¬ (0 ≤ man ∧ man < nI n) → Q (some (.int (-1))) (clsW pn pc tok (ship.wlaw (ship.law.wm stk kn)) nn tl draft vd log trial sta says seed past marks K)) : XC (xF L xs) xmeths (d + 4) 134 [.ref 0, .int man] (clsW pn pc tok (ship.wlaw (ship.law.wm stk kn)) nn tl draft vd log trial sta says seed past marks K) Q := by
  refine ⟨nb rfl, xgo [] 60 ⟨rfl, nb rfl, c_isMan ?_⟩⟩
  refine vB0 (fun y => h0 (fun z => y (by show 0 ≤ man ∧ man < ship.men; rw [so.men]; exact z))) (fun y => ?_)
  exact ⟨rfl, nb rfl, c_harboursUntilTurn so hkn lo (h1 (so.men ▸ y))⟩
theorem c_sets {what : Int32} {se : Nat} (so : ShOk ship n p z) (seo : SeOk log.seen n se) (hkn : KOk kn (RV ship.law)) (gp : GP log.crew.green log.crew.place n p) (lo : log.crew.over = nI t) (ht : t < 2 ^ 30) (ha : a < 64) (hs : log.crew.sucked = nI a) {f : Nat → Prop} [DecidablePred f] (hf : ∀ b, f b ↔ ftV ship log.crew.green log.crew.place log.seen n z t se a b) (h1 : 0 ≤ what ∧ what ≤ 2 → ∀ stk kn trial, KOk kn (RV ship.law) → Q (some (.int (if what = 0 then nI (fndV f (2 ^ n)) else if nI (fndV f (2 ^ n)) = 0 then -1 else if what = 1 then nI (allV f (2 ^ n - 1) (2 ^ n)) else nI (someV f (2 ^ n))))) (clsW pn pc tok (ship.wlaw (ship.law.wm stk kn)) nn tl draft vd log trial sta says seed past marks K)) (h0 : ¬ (0 ≤ what ∧ what ≤ 2) → Q (some (.int (-1))) (clsW pn pc tok (ship.wlaw (ship.law.wm stk kn)) nn tl draft vd log trial sta says seed past marks K)) : XC (xF L xs) xmeths (d + 7) 145 [.ref 0, .int what] (clsW pn pc tok (ship.wlaw (ship.law.wm stk kn)) nn tl draft vd log trial sta says seed past marks K) Q := by
  refine ⟨nb rfl, xgo [] 60 ⟨rfl, nb rfl, c_isWithin ?_⟩⟩
  refine vB0 (fun y => h0 y) (fun y => ?_)
  exact ⟨rfl, nb rfl, c_fittingSets so seo hkn gp lo ht ha hs hf (h1 y)⟩
theorem c_ask {wt : Int32} {se : Nat} (so : ShOk ship n p z) (seo : SeOk log.seen n se) (hkn : KOk kn (RV ship.law)) (gp : GP log.crew.green log.crew.place n p) (lo : log.crew.over = nI t) (ht : t < 2 ^ 30) (ha : a < 64) (hs : log.crew.sucked = nI a) {f : Nat → Prop} [DecidablePred f] (hf : ∀ b, f b ↔ ftV ship log.crew.green log.crew.place log.seen n z t se a b) (h1 : ∀ w, w ≤ 20 → wt = nI w → ∀ stk kn trial says, KOk kn (RV ship.law) → Q (some (.int (bpOut (fun m o => sayV f (fun b => setG ship log.crew.green log.crew.place n z t b w) m o (2 ^ n)) (fndV f (2 ^ n)) n n).2)) (clsW pn pc tok (ship.wlaw (ship.law.wm stk kn)) nn tl draft vd log trial sta says seed past marks K)) (h0 : ¬ (0 ≤ wt ∧ wt ≤ 20) → Q (some (.int (-1))) (clsW pn pc tok (ship.wlaw (ship.law.wm stk kn)) nn tl draft vd log trial sta says seed past marks K)) : XC (xF L xs) xmeths (d + 7) 150 [.ref 0, .int wt] (clsW pn pc tok (ship.wlaw (ship.law.wm stk kn)) nn tl draft vd log trial sta says seed past marks K) Q := by
  refine ⟨nb rfl, xgo [] 60 ⟨rfl, nb rfl, c_isWithin ?_⟩⟩
  refine vB0 (fun y => h0 y) (fun y => ?_)
  rcases wiN (m := 20) (by omega) y with ⟨w, hw, rfl⟩
  exact ⟨rfl, nb rfl, c_bestPair so seo hkn gp lo ht ha hs (by omega) hf (h1 w hw rfl)⟩
theorem c_judged {what : Int32} {li : Nat} (so : ShOk ship n p z) (vo : VoOk log.voy n p li) (hkn : KOk kn (RV ship.law)) (h1 : 0 ≤ what ∧ what ≤ 2 → ∀ stk kn trial, KOk kn (RV ship.law) → Q (some (.int (if what = 0 then (vdA ship n z log.voy (bdA ship) li).2.1 else if what = 1 then (vdA ship n z log.voy (bdA ship) li).2.2 else bst (vdA ship n z log.voy (bdA ship) li).1.g n))) (clsW pn pc tok (ship.wlaw (ship.law.wm stk kn)) nn tl draft vd log trial sta says seed past marks K)) (h0 : ¬ (0 ≤ what ∧ what ≤ 2) → Q (some (.int (-2))) (clsW pn pc tok (ship.wlaw (ship.law.wm stk kn)) nn tl draft vd log trial sta says seed past marks K)) : XC (xF L xs) xmeths (d + 7) 110 [.ref 0, .int what] (clsW pn pc tok (ship.wlaw (ship.law.wm stk kn)) nn tl draft vd log trial sta says seed past marks K) Q := by
  refine ⟨nb rfl, xgo [] 60 ⟨rfl, nb rfl, c_isWithin ?_⟩⟩
  refine vB0 (fun y => h0 y) (fun y => ?_)
  exact ⟨rfl, nb rfl, c_verdict so vo hkn (h1 y)⟩
theorem c_lemons {man wt : Int32} (so : ShOk ship n p z) (hkn : KOk kn (RV ship.law)) (gp : GP log.crew.green log.crew.place n p) (lo : log.crew.over = nI t) (ht : t < 2 ^ 30) (ha : a < 64) (hs : log.crew.sucked = nI a) (h1 : ∀ w, 1 ≤ w → w ≤ 12 → wt = nI w → 0 ≤ man ∧ man < nI n → ∀ stk kn trial, KOk kn (RV ship.law) → Q (some (.int (fewV (ldA ship log.crew.green log.crew.place n z t w man) a (2 ^ n)))) (clsW pn pc tok (ship.wlaw (ship.law.wm stk kn)) nn tl draft vd log trial sta says seed past marks K)) (h0 : ¬ ((0 ≤ man ∧ man < nI n) ∧ 1 ≤ wt ∧ wt ≤ 12) → Q (some (.int (-1))) (clsW pn pc tok (ship.wlaw (ship.law.wm stk kn)) nn tl draft vd log trial sta says seed past marks K)) : XC (xF L xs) xmeths (d + 7) 130 [.ref 0, .int man, .int wt] (clsW pn pc tok (ship.wlaw (ship.law.wm stk kn)) nn tl draft vd log trial sta says seed past marks K) Q := by
  have a12 : ¬ ((0 ≤ man ∧ man < nI n) ∧ 1 ≤ wt ∧ wt ≤ 12) → XWp (xF L xs) (some .int) xP130 (XC (xF L xs) xmeths (d + 6)) Q 12 [orf 0, oi man, oi wt, none] [] (clsW pn pc tok (ship.wlaw (ship.law.wm stk kn)) nn tl draft vd log trial sta says seed past marks K) := fun y => xgo [] 20 ⟨nb rfl, vTd rfl (h0 y)⟩
  refine ⟨nb rfl, xgo [12] 60 ⟨rfl, nb rfl, c_isMan ?_⟩⟩
  refine vB0 (fun y => a12 (fun z => y (by show 0 ≤ man ∧ man < ship.men; rw [so.men]; exact z.1))) (fun y => ⟨rfl, nb rfl, c_isWithin ?_⟩)
  refine vB0 (fun y2 => a12 (fun z => y2 z.2)) (fun y2 => ⟨nb rfl, vFd rfl ?_⟩)
  rcases wi_1 (m := 12) (by omega) y2 with ⟨w, w1, w12, rfl⟩
  exact ⟨rfl, nb rfl, c_fewestSucking so hkn gp lo ht ha hs (by omega) (h1 w w1 w12 rfl (so.men ▸ y))⟩
end XCP
