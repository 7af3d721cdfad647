/-! a watch, a harbour; a crew like another -/
def riseV (s : TShip) (g p : Fn) (w : Int32) (n k : Nat) : Int32 := if s.kind k = 3 then 0 else nI (RV s.law (g k).toNatClampNeg (swtV s k).toNatClampNeg (wetV s p k w).toNatClampNeg (if s.law.looks = 0 then 0 else cnt (fun o => decide (g k < g o)) n))
def newG (s : TShip) (g p : Fn) (w : Int32) (n : Nat) : Fn := fun k => if k < n then mn 99 (g k + riseV s g p w n k) else g k
def harbG (s : TShip) (g : Fn) (n : Nat) : Fn := fun k => if k < n ∧ ¬ s.kind k = 3 then mx 0 (g k - s.harbour) else g k
def harbP (p : Fn) (n : Nat) : Fn := fun k => if k < n then -1 else p k
/-- a ship as it may be -/
abbrev ShOk (s : TShip) (n p z : Nat) : Prop := (s.men = nI n) ∧ (n ≤ 6) ∧ (s.posts = nI p) ∧ (p ≤ 4) ∧ (s.seas = nI z) ∧ (0 < z) ∧ (z ≤ 12) ∧ (∀ k, k < n → rng (s.kind k) 3) ∧ (∀ k, k < n → rng (s.green k) 60) ∧ (∀ k, k < n → rng (s.hands k) 5) ∧ (∀ b, b < p → rng (s.spray b) 9) ∧ (∀ b, b < p → rng (s.holds b) 6) ∧ (∀ i, i < z → rng (s.sea i) 3) ∧ (∃ h, 1 ≤ h ∧ h ≤ 9 ∧ s.shade = nI h) ∧ (rng s.lemon 20) ∧ (rng s.harbour 9) ∧ (rng s.law.size 1000) ∧ (KOk s.law.known (RV s.law))
theorem ShOk.men {s : TShip} {n p z : Nat} (h : ShOk s n p z) : s.men = nI n := h.1
theorem ShOk.n6 {s : TShip} {n p z : Nat} (h : ShOk s n p z) : n ≤ 6 := h.2.1
theorem ShOk.posts {s : TShip} {n p z : Nat} (h : ShOk s n p z) : s.posts = nI p := h.2.2.1
theorem ShOk.p4 {s : TShip} {n p z : Nat} (h : ShOk s n p z) : p ≤ 4 := h.2.2.2.1
theorem ShOk.seas {s : TShip} {n p z : Nat} (h : ShOk s n p z) : s.seas = nI z := h.2.2.2.2.1
theorem ShOk.z1 {s : TShip} {n p z : Nat} (h : ShOk s n p z) : 0 < z := h.2.2.2.2.2.1
theorem ShOk.z12 {s : TShip} {n p z : Nat} (h : ShOk s n p z) : z ≤ 12 := h.2.2.2.2.2.2.1
theorem ShOk.kind {s : TShip} {n p z : Nat} (h : ShOk s n p z) : ∀ k, k < n → rng (s.kind k) 3 := h.2.2.2.2.2.2.2.1
theorem ShOk.green {s : TShip} {n p z : Nat} (h : ShOk s n p z) : ∀ k, k < n → rng (s.green k) 60 := h.2.2.2.2.2.2.2.2.1
theorem ShOk.hands {s : TShip} {n p z : Nat} (h : ShOk s n p z) : ∀ k, k < n → rng (s.hands k) 5 := h.2.2.2.2.2.2.2.2.2.1
theorem ShOk.spray {s : TShip} {n p z : Nat} (h : ShOk s n p z) : ∀ b, b < p → rng (s.spray b) 9 := h.2.2.2.2.2.2.2.2.2.2.1
theorem ShOk.holds {s : TShip} {n p z : Nat} (h : ShOk s n p z) : ∀ b, b < p → rng (s.holds b) 6 := h.2.2.2.2.2.2.2.2.2.2.2.1
theorem ShOk.sea {s : TShip} {n p z : Nat} (h : ShOk s n p z) : ∀ i, i < z → rng (s.sea i) 3 := h.2.2.2.2.2.2.2.2.2.2.2.2.1
theorem ShOk.shade {s : TShip} {n p z : Nat} (h : ShOk s n p z) : ∃ h, 1 ≤ h ∧ h ≤ 9 ∧ s.shade = nI h := h.2.2.2.2.2.2.2.2.2.2.2.2.2.1
theorem ShOk.lemon {s : TShip} {n p z : Nat} (h : ShOk s n p z) : rng s.lemon 20 := h.2.2.2.2.2.2.2.2.2.2.2.2.2.2.1
theorem ShOk.harbour {s : TShip} {n p z : Nat} (h : ShOk s n p z) : rng s.harbour 9 := h.2.2.2.2.2.2.2.2.2.2.2.2.2.2.2.1
theorem ShOk.size {s : TShip} {n p z : Nat} (h : ShOk s n p z) : rng s.law.size 1000 := h.2.2.2.2.2.2.2.2.2.2.2.2.2.2.2.2.1
theorem ShOk.known {s : TShip} {n p z : Nat} (h : ShOk s n p z) : KOk s.law.known (RV s.law) := h.2.2.2.2.2.2.2.2.2.2.2.2.2.2.2.2.2
theorem ShOk.memo {s : TShip} {n p z : Nat} (h : ShOk s n p z) {stk kn : Fn} (hk : KOk kn (RV s.law)) : ShOk (s.wlaw (s.law.wm stk kn)) n p z := ⟨h.men, h.n6, h.posts, h.p4, h.seas, h.z1, h.z12, h.kind, h.green, h.hands, h.spray, h.holds, h.sea, h.shade, h.lemon, h.harbour, h.size, hk⟩
/-- a crew as it may be -/
abbrev CrOk (c : TCrew) (n p : Nat) : Prop := (∀ k, k < n → rng (c.green k) 99) ∧ (∀ k, k < n → c.place k = -1 ∨ ∃ b, b < p ∧ c.place k = nI b)
theorem CrOk.green {c : TCrew} {n p : Nat} (h : CrOk c n p) : ∀ k, k < n → rng (c.green k) 99 := h.1
theorem CrOk.place {c : TCrew} {n p : Nat} (h : CrOk c n p) : ∀ k, k < n → c.place k = -1 ∨ ∃ b, b < p ∧ c.place k = nI b := h.2
theorem rng_clamp {x : Int32} {m : Nat} (h : rng x m) (hm : m < 2 ^ 31) : x = nI x.toNatClampNeg ∧ x.toNatClampNeg ≤ m := by
  rcases h with ⟨j, hj, rfl⟩
  rw [nI_clamp (by omega)]
  exact ⟨rfl, hj⟩
theorem swt_rng {s : TShip} {k : Nat} (h : rng (s.hands k) 5) : rng (swtV s k) 10 := by
  rcases h with ⟨j, hj, e⟩
  simp only [swtV]
  split
  · rw [e]
    exact ⟨2 * j, by omega, pk_mul 2 j⟩
  · exact ⟨j, by omega, e⟩
theorem wet_rng {s : TShip} {pl : Fn} {k p w : Nat} (hp : s.posts = nI p) (p4 : p ≤ 4) (h : ∀ b, b < p → rng (s.spray b) 9) (hw : w ≤ 3) : rng (wetV s pl k (nI w)) 27 := by
  simp only [wetV]
  split
  · rename_i q
    rcases inI (by omega) (hp ▸ q.2) with ⟨b, hb, e⟩
    rw [e, nI_clamp (by omega)]
    rcases h b hb with ⟨j, hj, e2⟩
    rw [e2, pk_mul]
    exact ⟨j * w, Nat.le_trans (Nat.mul_le_mul hj hw) (by omega), rfl⟩
  · exact ⟨0, by omega, rfl⟩
theorem cnt_lt {p : Nat → Bool} {k : Nat} (h : p k = false) : ∀ n, k < n → cnt p n < n
  | 0, q => absurd q (Nat.not_lt_zero _)
  | n + 1, q => by
    simp only [cnt]
    rcases Nat.lt_or_ge k n with y | y
    · have := cnt_lt h n y
      split <;> omega
    · have e : k = n := by omega
      subst e
      rw [h]
      have := cnt_le p k
      simp
      omega
section XWT
variable {L : Nat} {xs : Nat → Int32} {d : Nat} {Q : XQt} {pn pc : Int32} {tok : TTok} {ship : TShip} {nn : Int64} {tl : Int32} {draft : TShip} {vd : TVoy} {log : TLog} {trial : TCrew} {sta : TSta} {says : Fn} {seed : Int64} {past : Nat → TCrew} {marks : Nat → TLog} {mi : TMi} {ma : TMa} {mb : TMb} {K : XWd}
theorem c_riseFor {z a b c e : Nat} {xa xb xc xe : Int32} (ea : xa = nI a) (eb : xb = nI b) (ec : xc = nI c) (ee : xe = nI e) (hz : ship.law.size = nI z) (hz2 : z ≤ 1000) (ha : a ≤ 99) (hb : b ≤ 10) (hc : c ≤ 27) (he : e ≤ 5) (hk : KOk ship.law.known (RV ship.law)) (h : ∀ stk kn, KOk kn (RV ship.law) → Q (some (.int (nI (RV ship.law a b c e)))) (clsW pn pc tok (ship.wlaw (ship.law.wm stk kn)) nn tl draft vd log trial sta says seed past marks K)) : XC (xF L xs) xmeths (d + 3) 102 [.ref 12, .int xa, .int xb, .int xc, .int xe] (clsW pn pc tok ship nn tl draft vd log trial sta says seed past marks K) Q := by
  subst ea eb ec ee
  have hlt := keyN_lt ha hb hc he
  have ek : ((nI a * Int32.ofInt 11 + nI b) * Int32.ofInt 28 + nI c) * Int32.ofInt 6 + nI e = nI (keyN a b c e) := by
    have e11 : Int32.ofInt 11 = nI 11 := rfl
    have e28 : Int32.ofInt 28 = nI 28 := rfl
    have e6 : Int32.ofInt 6 = nI 6 := rfl
    rw [e11, e28, e6]
    simp only [pk_mul, nI_add, keyN]
  have es : nI (keyN a b c e) &&& Int32.ofInt 4095 = nI (keyN a b c e % 4096) := pk_andN (by omega) 12 (by decide)
  have hR := RV_le ship.law a b c e
  have hsl : keyN a b c e % 4096 < 4096 := Nat.mod_lt _ (by decide)
  refine ⟨nb rfl, xgo [46] 60 ⟨nb rfl, ?_⟩⟩
  rw [ek]
  refine ⟨nb rfl, ?_⟩
  rw [es]
  refine ⟨vp_in_nI (by omega) (by omega), ?_⟩
  rw [nI_clamp (by omega)]
  have fin : ∀ (x7 : Option Value) (stk kn : Fn), KOk kn (RV ship.law) → kn (keyN a b c e % 4096) = nI (keyN a b c e * 16 + RV ship.law a b c e) → XWp (xF L xs) (some .int) xP102 (XC (xF L xs) xmeths (d + 2)) Q 46 [orf 12, oi (nI a), oi (nI b), oi (nI c), oi (nI e), oi (nI (keyN a b c e)), oi (nI (keyN a b c e % 4096)), x7] [] (clsW pn pc tok (ship.wlaw (ship.law.wm stk kn)) nn tl draft vd log trial sta says seed past marks K) := by
    intro x7 stk kn h1 h2
    refine xgo [] 20 ⟨vp_in_nI (by omega) (by omega), ?_⟩
    rw [nI_clamp (by omega)]
    have h := h stk kn h1
    rw [← nI_and15 hlt hR, ← h2] at h
    exact h
  refine And.intro (fun (q : ship.law.known (keyN a b c e % 4096) >>> (4 &&& 31) = nI (keyN a b c e)) => ?_) (fun (q : ¬ _ = _) => ?_)
  · refine fin none ship.law.stack ship.law.known hk ?_
    rcases hk _ hsl with y | ⟨a', b', c', e', ha', hb', hc', he', y⟩
    · rw [y, show ((-1 : Int32) >>> (4 &&& 31)) = -1 by decide] at q
      exact absurd q.symm (fun z => by
        have := congrArg Int32.toInt z
        rw [nI_toInt (by omega)] at this
        have e : (-1 : Int32).toInt = -1 := by decide
        omega)
    · have hlt' := keyN_lt ha' hb' hc' he'
      rw [y, nI_shr4 hlt' (RV_le _ _ _ _ _), nI_eq (by omega) (by omega)] at q
      have ⟨i1, i2, i3, i4⟩ := keyN_inj hb' hc' he' hb hc he q
      subst i1 i2 i3 i4
      exact y
  · refine ⟨rfl, nb rfl, c_valueFor hz hz2 ?_⟩
    intro stk
    refine ⟨nb rfl, nb rfl, nb rfl, vp_in_nI (by omega) (by omega), ?_⟩
    have e1 : nI (keyN a b c e) * Int32.ofInt 16 + (mx 0 (mn 9 (valV ship.law (nI a) (nI b) (nI c) (nI e)))) = nI (keyN a b c e * 16 + RV ship.law a b c e) := by
      rw [(cl09 _).1, show Int32.ofInt 16 = nI 16 from rfl, pk_mul, nI_add]
      rfl
    have fin := fin (oi (mx 0 (mn 9 (valV ship.law (nI a) (nI b) (nI c) (nI e))))) stk (upd ship.law.known (keyN a b c e % 4096) (nI (keyN a b c e * 16 + RV ship.law a b c e))) ?_ pk_us
    · rw [← e1] at fin
      rw [nI_clamp (by omega)]
      exact fin
    · intro s hs
      simp only [upd]
      split
      · exact Or.inr ⟨a, b, c, e, ha, hb, hc, he, rfl⟩
      · exact hk s hs
theorem c_passWatch_40 {n p z w : Nat} (so : ShOk ship n p z) (co : CrOk log.crew n p) (hw : w ≤ 3) (h : ∀ ri stk kn, KOk kn (RV ship.law) → Q none (clsW pn pc tok (ship.wlaw (ship.law.wm stk kn)) nn tl draft vd (log.wcrew (ri, newG ship log.crew.green log.crew.place (nI w) n, log.crew.place, log.crew.sucked, log.crew.over + 1)) trial sta says seed past marks K)) : XC (xF L xs) xmeths (d + 4) 99 [.ref 40, .int (nI w)] (clsW pn pc tok ship nn tl draft vd log trial sta says seed past marks K) Q := by
  have n6 := so.n6
  refine ⟨nb rfl, xgo [2] 20 ⟨nb rfl, ?_⟩⟩
  refine up_to (P := fun j => ∀ (x3 x4 : Option Value) (ri stk kn : Fn), KOk kn (RV ship.law) → (∀ k, k < j → ri k = riseV ship log.crew.green log.crew.place (nI w) n k) → XWp (xF L xs) none xP99 (XC (xF L xs) xmeths (d + 3)) Q 2 [orf 40, oi (nI w), oi (nI j), x3, x4] [] (clsW pn pc tok (ship.wlaw (ship.law.wm stk kn)) nn tl draft vd (log.wcrew (ri, log.crew.green, log.crew.place, log.crew.sucked, log.crew.over)) trial sta says seed past marks K)) (n := n) (fun j hj ih x3 x4 ri stk kn hkn hri => xgo [2, 17, 58] 60 ?_) none none log.crew.rise ship.law.stack ship.law.known so.known (fun k hk => absurd hk (Nat.not_lt_zero k))
  refine pk_le n j (fun q => ?_) (fun q => ?_) so.men rfl (by omega) (by omega)
  · have e : j = n := by omega
    subst e
    refine ⟨nb rfl, ?_⟩
    refine up_to (P := fun i => XWp (xF L xs) none xP99 (XC (xF L xs) xmeths (d + 3)) Q 58 [orf 40, oi (nI w), oi (nI i), x3, x4] [] (clsW pn pc tok (ship.wlaw (ship.law.wm stk kn)) nn tl draft vd (log.wcrew (ri, (fun k => if k < i then mn 99 (log.crew.green k + riseV ship log.crew.green log.crew.place (nI w) j k) else log.crew.green k), log.crew.place, log.crew.sucked, log.crew.over)) trial sta says seed past marks K)) (n := j) (fun i hi ih => xgo [58] 60 ?_)
    refine pk_le j i (fun q => ?_) (fun q => ?_) so.men rfl (by omega) (by omega)
    · have e : i = j := by omega
      subst e
      exact ⟨rfl, h ri stk kn hkn⟩
    · have ih := ih q
      refine ⟨vp_in_nI (by omega) (by omega), vp_in_nI (by omega) (by omega), nb rfl, vp_in_nI (by omega) (by omega), ?_⟩
      rw [nI_clamp (by omega)]
      have ef : (fun k => if k < i + 1 then mn 99 (log.crew.green k + riseV ship log.crew.green log.crew.place (nI w) j k) else log.crew.green k) = upd (fun k => if k < i then mn 99 (log.crew.green k + riseV ship log.crew.green log.crew.place (nI w) j k) else log.crew.green k) i (mn 99 ((if i < i then mn 99 (log.crew.green i + riseV ship log.crew.green log.crew.place (nI w) j i) else log.crew.green i) + ri i)) := by
        rw [if_neg (Nat.lt_irrefl i), hri i q]
        funext k
        simp only [upd]
        by_cases y : k = i
        · subst y; simp
        · rw [if_neg y]
          by_cases y2 : k < i
          · rw [if_pos y2, if_pos (by omega)]
          · rw [if_neg y2, if_neg (by omega)]
      rw [ef, nI_succ] at ih
      exact ih
  · have ih := ih q
    have ej : (nI j).toNatClampNeg = j := nI_clamp (by omega)
    have ih' : ∀ (x3 x4 : Option Value) (stk kn : Fn), KOk kn (RV ship.law) → XWp (xF L xs) none xP99 (XC (xF L xs) xmeths (d + 3)) Q 2 [orf 40, oi (nI w), oi (nI j + 1), x3, x4] [] (clsW pn pc tok (ship.wlaw (ship.law.wm stk kn)) nn tl draft vd (log.wcrew (upd ri j (riseV ship log.crew.green log.crew.place (nI w) n j), log.crew.green, log.crew.place, log.crew.sucked, log.crew.over)) trial sta says seed past marks K) := by
      intro x3 x4 stk kn hk
      have := ih x3 x4 (upd ri j (riseV ship log.crew.green log.crew.place (nI w) n j)) stk kn hk (fun k hk => by
        simp only [upd]
        split
        · rename_i y; rw [y]
        · exact hri k (by omega))
      rw [nI_succ] at this
      exact this
    have two : ∀ v : Int32, (¬ ship.kind j = 3 → v = 1) → (ship.kind j = 3 → v = 0) → XWp (xF L xs) none xP99 (XC (xF L xs) xmeths (d + 3)) Q 29 [orf 40, oi (nI w), oi (nI j), oi (nI (if ship.law.looks = 0 then 0 else cnt (fun o => decide (log.crew.green j < log.crew.green o)) n)), oi v] [] (clsW pn pc tok (ship.wlaw (ship.law.wm stk kn)) nn tl draft vd (log.wcrew (ri, log.crew.green, log.crew.place, log.crew.sucked, log.crew.over)) trial sta says seed past marks K) := by
      intro v v1 v0
      refine xgo [2] 60 ?_
      by_cases hk3 : ship.kind j = 3
      · rw [v0 hk3]
        refine vT (show (0 : Int32) = 0 from rfl) ?_
        refine ⟨vp_in_nI (by omega) (by omega), ?_⟩
        have ih := ih' (oi (nI (if ship.law.looks = 0 then 0 else cnt (fun o => decide (log.crew.green j < log.crew.green o)) n))) (oi 0) stk kn hkn
        rw [riseV, if_pos hk3] at ih
        rw [ej]
        exact ih
      · rw [v1 hk3]
        refine vF (show ¬ (1 : Int32) = 0 by decide) ?_
        refine ⟨vp_in_nI (by omega) (by omega), ⟨rfl, nb rfl, c_sweatOf (by omega) ⟨rfl, nb rfl, c_wetOf_40 so.p4 so.posts (by omega) ⟨rfl, nb rfl, ?_⟩⟩⟩⟩
        rw [ej]
        have ⟨a1, a2⟩ := rng_clamp (co.green j q) (by omega)
        have ⟨b1, b2⟩ := rng_clamp (swt_rng (so.hands j q)) (by omega)
        have ⟨c1, c2⟩ := rng_clamp (wet_rng (s := ship) (pl := log.crew.place) (k := j) so.posts so.p4 so.spray hw) (by omega)
        have d2 : (if ship.law.looks = 0 then 0 else cnt (fun o => decide (log.crew.green j < log.crew.green o)) n) ≤ 5 := by
          split
          · omega
          · have := cnt_lt (p := fun o => decide (log.crew.green j < log.crew.green o)) (k := j) (by simp) n q
            omega
        rcases so.size with ⟨zz, hz2, hz⟩
        refine c_riseFor (a := (log.crew.green j).toNatClampNeg) (b := (swtV ship j).toNatClampNeg) (c := (wetV ship log.crew.place j (nI w)).toNatClampNeg) a1 b1 c1 rfl hz hz2 a2 b2 c2 d2 hkn (fun stk kn hk => ?_)
        refine ⟨vp_in_nI (by omega) (by omega), ?_⟩
        have ih := ih' (oi (nI (if ship.law.looks = 0 then 0 else cnt (fun o => decide (log.crew.green j < log.crew.green o)) n))) (oi 1) stk kn hk
        rw [riseV, if_neg hk3] at ih
        rw [ej]
        exact ih
    have one : ∀ x : Int32, x = nI (if ship.law.looks = 0 then 0 else cnt (fun o => decide (log.crew.green j < log.crew.green o)) n) → XWp (xF L xs) none xP99 (XC (xF L xs) xmeths (d + 3)) Q 17 [orf 40, oi (nI w), oi (nI j), x3, x4] [.int x] (clsW pn pc tok (ship.wlaw (ship.law.wm stk kn)) nn tl draft vd (log.wcrew (ri, log.crew.green, log.crew.place, log.crew.sucked, log.crew.over)) trial sta says seed past marks K) := by
      intro x hx
      subst hx
      refine xgo [29] 60 ⟨nb rfl, vp_in_nI (by omega) (by omega), ?_⟩
      rw [ej]
      refine And.intro (fun (q : ship.kind j = 3) => ?_) (fun (q : ¬ ship.kind j = 3) => ?_)
      · exact ⟨nb rfl, two 0 (fun z => absurd q z) (fun _ => rfl)⟩
      · exact ⟨nb rfl, two 1 (fun _ => rfl) (fun z => absurd z q)⟩
    refine And.intro (fun (q : ship.law.looks = 0) => ?_) (fun (q : ¬ ship.law.looks = 0) => ?_)
    · exact one 0 (by rw [if_pos q]; rfl)
    · exact ⟨rfl, nb rfl, c_rankOf_40 so.n6 so.men (by omega) (one _ (by rw [if_neg q]))⟩
theorem c_passWatch_44 {n p z w : Nat} (so : ShOk ship n p z) (co : CrOk trial n p) (hw : w ≤ 3) (h : ∀ ri stk kn, KOk kn (RV ship.law) → Q none (clsW pn pc tok (ship.wlaw (ship.law.wm stk kn)) nn tl draft vd log (ri, newG ship trial.green trial.place (nI w) n, trial.place, trial.sucked, trial.over + 1) sta says seed past marks K)) : XC (xF L xs) xmeths (d + 4) 99 [.ref 44, .int (nI w)] (clsW pn pc tok ship nn tl draft vd log trial sta says seed past marks K) Q := by
  have n6 := so.n6
  refine ⟨nb rfl, xgo [2] 20 ⟨nb rfl, ?_⟩⟩
  refine up_to (P := fun j => ∀ (x3 x4 : Option Value) (ri stk kn : Fn), KOk kn (RV ship.law) → (∀ k, k < j → ri k = riseV ship trial.green trial.place (nI w) n k) → XWp (xF L xs) none xP99 (XC (xF L xs) xmeths (d + 3)) Q 2 [orf 44, oi (nI w), oi (nI j), x3, x4] [] (clsW pn pc tok (ship.wlaw (ship.law.wm stk kn)) nn tl draft vd log (ri, trial.green, trial.place, trial.sucked, trial.over) sta says seed past marks K)) (n := n) (fun j hj ih x3 x4 ri stk kn hkn hri => xgo [2, 17, 58] 60 ?_) none none trial.rise ship.law.stack ship.law.known so.known (fun k hk => absurd hk (Nat.not_lt_zero k))
  refine pk_le n j (fun q => ?_) (fun q => ?_) so.men rfl (by omega) (by omega)
  · have e : j = n := by omega
    subst e
    refine ⟨nb rfl, ?_⟩
    refine up_to (P := fun i => XWp (xF L xs) none xP99 (XC (xF L xs) xmeths (d + 3)) Q 58 [orf 44, oi (nI w), oi (nI i), x3, x4] [] (clsW pn pc tok (ship.wlaw (ship.law.wm stk kn)) nn tl draft vd log (ri, (fun k => if k < i then mn 99 (trial.green k + riseV ship trial.green trial.place (nI w) j k) else trial.green k), trial.place, trial.sucked, trial.over) sta says seed past marks K)) (n := j) (fun i hi ih => xgo [58] 60 ?_)
    refine pk_le j i (fun q => ?_) (fun q => ?_) so.men rfl (by omega) (by omega)
    · have e : i = j := by omega
      subst e
      exact ⟨rfl, h ri stk kn hkn⟩
    · have ih := ih q
      refine ⟨vp_in_nI (by omega) (by omega), vp_in_nI (by omega) (by omega), nb rfl, vp_in_nI (by omega) (by omega), ?_⟩
      rw [nI_clamp (by omega)]
      have ef : (fun k => if k < i + 1 then mn 99 (trial.green k + riseV ship trial.green trial.place (nI w) j k) else trial.green k) = upd (fun k => if k < i then mn 99 (trial.green k + riseV ship trial.green trial.place (nI w) j k) else trial.green k) i (mn 99 ((if i < i then mn 99 (trial.green i + riseV ship trial.green trial.place (nI w) j i) else trial.green i) + ri i)) := by
        rw [if_neg (Nat.lt_irrefl i), hri i q]
        funext k
        simp only [upd]
        by_cases y : k = i
        · subst y; simp
        · rw [if_neg y]
          by_cases y2 : k < i
          · rw [if_pos y2, if_pos (by omega)]
          · rw [if_neg y2, if_neg (by omega)]
      rw [ef, nI_succ] at ih
      exact ih
  · have ih := ih q
    have ej : (nI j).toNatClampNeg = j := nI_clamp (by omega)
    have ih' : ∀ (x3 x4 : Option Value) (stk kn : Fn), KOk kn (RV ship.law) → XWp (xF L xs) none xP99 (XC (xF L xs) xmeths (d + 3)) Q 2 [orf 44, oi (nI w), oi (nI j + 1), x3, x4] [] (clsW pn pc tok (ship.wlaw (ship.law.wm stk kn)) nn tl draft vd log (upd ri j (riseV ship trial.green trial.place (nI w) n j), trial.green, trial.place, trial.sucked, trial.over) sta says seed past marks K) := by
      intro x3 x4 stk kn hk
      have := ih x3 x4 (upd ri j (riseV ship trial.green trial.place (nI w) n j)) stk kn hk (fun k hk => by
        simp only [upd]
        split
        · rename_i y; rw [y]
        · exact hri k (by omega))
      rw [nI_succ] at this
      exact this
    have two : ∀ v : Int32, (¬ ship.kind j = 3 → v = 1) → (ship.kind j = 3 → v = 0) → XWp (xF L xs) none xP99 (XC (xF L xs) xmeths (d + 3)) Q 29 [orf 44, oi (nI w), oi (nI j), oi (nI (if ship.law.looks = 0 then 0 else cnt (fun o => decide (trial.green j < trial.green o)) n)), oi v] [] (clsW pn pc tok (ship.wlaw (ship.law.wm stk kn)) nn tl draft vd log (ri, trial.green, trial.place, trial.sucked, trial.over) sta says seed past marks K) := by
      intro v v1 v0
      refine xgo [2] 60 ?_
      by_cases hk3 : ship.kind j = 3
      · rw [v0 hk3]
        refine vT (show (0 : Int32) = 0 from rfl) ?_
        refine ⟨vp_in_nI (by omega) (by omega), ?_⟩
        have ih := ih' (oi (nI (if ship.law.looks = 0 then 0 else cnt (fun o => decide (trial.green j < trial.green o)) n))) (oi 0) stk kn hkn
        rw [riseV, if_pos hk3] at ih
        rw [ej]
        exact ih
      · rw [v1 hk3]
        refine vF (show ¬ (1 : Int32) = 0 by decide) ?_
        refine ⟨vp_in_nI (by omega) (by omega), ⟨rfl, nb rfl, c_sweatOf (by omega) ⟨rfl, nb rfl, c_wetOf_44 so.p4 so.posts (by omega) ⟨rfl, nb rfl, ?_⟩⟩⟩⟩
        rw [ej]
        have ⟨a1, a2⟩ := rng_clamp (co.green j q) (by omega)
        have ⟨b1, b2⟩ := rng_clamp (swt_rng (so.hands j q)) (by omega)
        have ⟨c1, c2⟩ := rng_clamp (wet_rng (s := ship) (pl := trial.place) (k := j) so.posts so.p4 so.spray hw) (by omega)
        have d2 : (if ship.law.looks = 0 then 0 else cnt (fun o => decide (trial.green j < trial.green o)) n) ≤ 5 := by
          split
          · omega
          · have := cnt_lt (p := fun o => decide (trial.green j < trial.green o)) (k := j) (by simp) n q
            omega
        rcases so.size with ⟨zz, hz2, hz⟩
        refine c_riseFor (a := (trial.green j).toNatClampNeg) (b := (swtV ship j).toNatClampNeg) (c := (wetV ship trial.place j (nI w)).toNatClampNeg) a1 b1 c1 rfl hz hz2 a2 b2 c2 d2 hkn (fun stk kn hk => ?_)
        refine ⟨vp_in_nI (by omega) (by omega), ?_⟩
        have ih := ih' (oi (nI (if ship.law.looks = 0 then 0 else cnt (fun o => decide (trial.green j < trial.green o)) n))) (oi 1) stk kn hk
        rw [riseV, if_neg hk3] at ih
        rw [ej]
        exact ih
    have one : ∀ x : Int32, x = nI (if ship.law.looks = 0 then 0 else cnt (fun o => decide (trial.green j < trial.green o)) n) → XWp (xF L xs) none xP99 (XC (xF L xs) xmeths (d + 3)) Q 17 [orf 44, oi (nI w), oi (nI j), x3, x4] [.int x] (clsW pn pc tok (ship.wlaw (ship.law.wm stk kn)) nn tl draft vd log (ri, trial.green, trial.place, trial.sucked, trial.over) sta says seed past marks K) := by
      intro x hx
      subst hx
      refine xgo [29] 60 ⟨nb rfl, vp_in_nI (by omega) (by omega), ?_⟩
      rw [ej]
      refine And.intro (fun (q : ship.kind j = 3) => ?_) (fun (q : ¬ ship.kind j = 3) => ?_)
      · exact ⟨nb rfl, two 0 (fun z => absurd q z) (fun _ => rfl)⟩
      · exact ⟨nb rfl, two 1 (fun _ => rfl) (fun z => absurd z q)⟩
    refine And.intro (fun (q : ship.law.looks = 0) => ?_) (fun (q : ¬ ship.law.looks = 0) => ?_)
    · exact one 0 (by rw [if_pos q]; rfl)
    · exact ⟨rfl, nb rfl, c_rankOf_44 so.n6 so.men (by omega) (one _ (by rw [if_neg q]))⟩

end XWT
