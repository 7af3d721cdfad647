/-! the fitting sets; the best question -/
abbrev ftV (s : TShip) (g pl : Fn) (se : TSeen) (n z t c a b : Nat) : Prop := b &&& a = 0 ∧ fitV s g pl se n z t c b = true
def fndV (f : Nat → Prop) [DecidablePred f] : Nat → Nat
  | 0 => 0
  | b + 1 => if f b then fndV f b + 1 else fndV f b
def allV (f : Nat → Prop) [DecidablePred f] (x : Nat) : Nat → Nat
  | 0 => x
  | b + 1 => if f b then allV f x b &&& b else allV f x b
def someV (f : Nat → Prop) [DecidablePred f] : Nat → Nat
  | 0 => 0
  | b + 1 => if f b then someV f b ||| b else someV f b
/-- how often m is greener than o -/
def sayV (f : Nat → Prop) [DecidablePred f] (G : Nat → Fn) (m o : Nat) : Nat → Nat
  | 0 => 0
  | b + 1 => if f b ∧ G b o < G b m then sayV f G m o b + 1 else sayV f G m o b
/-- the best pair, asked in order: least, pair -/
def bpIn (says : Nat → Nat → Nat) (found m : Nat) : Nat → Int32 × Int32 → Int32 × Int32
  | 0, x => x
  | o + 1, x => if ¬ m = o ∧ mx (nI (says m o)) (nI found - nI (says m o)) < (bpIn says found m o x).1 then (mx (nI (says m o)) (nI found - nI (says m o)), nI (8 * m + o)) else bpIn says found m o x
def bpOut (says : Nat → Nat → Nat) (found n : Nat) : Nat → Int32 × Int32
  | 0 => (nI found, -1)
  | m + 1 => bpIn says found m n (bpOut says found n m)
theorem sayV_le (f : Nat → Prop) [DecidablePred f] (G : Nat → Fn) (m o : Nat) : ∀ b, sayV f G m o b ≤ b
  | 0 => Nat.le_refl 0
  | b + 1 => by
    have := sayV_le f G m o b
    simp only [sayV]
    split <;> omega
section XST
variable {L : Nat} {xs : Nat → Int32} {d : Nat} {Q : XQt} {pn pc : Int32} {tok : TTok} {ship : TShip} {nn : Int64} {tl : Int32} {draft : TShip} {vd : TVoy} {log : TLog} {trial : TCrew} {sta : TSta} {says : Fn} {seed : Int64} {past : Nat → TCrew} {marks : Nat → TLog} {mi : TMi} {ma : TMa} {mb : TMb} {K : XWd}
variable {stk kn : Fn} {n p z t c : Nat}
theorem c_fittingSets {a : Nat} {what : Int32} (so : ShOk ship n p z) (se : SeOk log.seen n c) (hkn : KOk kn (RV ship.law)) (gp : GP log.crew.green log.crew.place n p) (lo : log.crew.over = nI t) (ht : t < 2 ^ 30) (ha : a < 64) (hs : log.crew.sucked = nI a) {f : Nat → Prop} [DecidablePred f] (hf : ∀ b, f b ↔ ftV ship log.crew.green log.crew.place log.seen n z t c a b) (h : ∀ stk kn trial, KOk kn (RV ship.law) → Q (some (.int (if what = 0 then nI (fndV f (2 ^ n)) else if nI (fndV f (2 ^ n)) = 0 then -1 else if what = 1 then nI (allV f (2 ^ n - 1) (2 ^ n)) else nI (someV f (2 ^ n))))) (clsW pn pc tok (ship.wlaw (ship.law.wm stk kn)) nn tl draft vd log trial sta says seed past marks K)) : XC (xF L xs) xmeths (d + 6) 146 [.ref 53, .int what] (clsW pn pc tok (ship.wlaw (ship.law.wm stk kn)) nn tl draft vd log trial sta says seed past marks K) Q := by
  have n6 := so.n6
  have h64 : 2 ^ n ≤ 2 ^ 6 := Nat.pow_le_pow_right (by decide) n6
  have hpos : 1 ≤ 2 ^ n := Nat.one_le_two_pow
  have eM : (Int32.ofInt 1) <<< (ship.men &&& 31) = nI (2 ^ n) := by rw [so.men]; exact shl_of n (by omega)
  have eM1 : (Int32.ofInt 1) <<< (ship.men &&& 31) - Int32.ofInt 1 = nI (2 ^ n - 1) := by rw [eM]; exact pk_sub hpos
  refine ⟨nb rfl, xgo [14] 60 ⟨nb rfl, nb rfl, nb rfl, nb rfl, ?_⟩⟩
  rw [eM1]
  refine up_to (P := fun b => ∀ stk kn trial, KOk kn (RV ship.law) → XWp (xF L xs) (some .int) xP146 (XC (xF L xs) xmeths (d + 5)) Q 14 [orf 53, oi what, oi (nI (fndV f b)), oi (nI (allV f (2 ^ n - 1) b)), oi (nI (someV f b)), oi (nI b)] [] (clsW pn pc tok (ship.wlaw (ship.law.wm stk kn)) nn tl draft vd log trial sta says seed past marks K)) (n := 2 ^ n) (fun b hb ih stk kn trial hkn => xgo [14] 60 ?_) stk kn trial hkn
  refine pk_le (2 ^ n) b (fun q => ?_) (fun q => ?_) eM rfl (by omega) (by omega)
  · have e : b = 2 ^ n := by omega
    rw [← e] at h
    have h := h stk kn trial hkn
    refine And.intro (fun (q1 : ¬ what = 0) => ?_) (fun (q1 : ¬ ¬ what = 0) => ?_)
    · rw [if_neg q1] at h
      refine And.intro (fun (q2 : ¬ nI (fndV f b) = 0) => ?_) (fun (q2 : ¬ ¬ nI (fndV f b) = 0) => ?_)
      · rw [if_neg q2] at h
        refine And.intro (fun (q3 : ¬ what = 1) => ?_) (fun (q3 : ¬ ¬ what = 1) => ?_)
        · rw [if_neg q3] at h
          exact h
        · rw [if_pos (Classical.not_not.mp q3), e] at h
          rw [e]
          exact h
      · rw [if_pos (Classical.not_not.mp q2)] at h
        exact h
    · rw [if_pos (Classical.not_not.mp q1)] at h
      exact h
  · have ih := ih q
    rw [fndV, allV, someV, nI_succ] at ih
    refine ⟨rfl, nb rfl, c_fits so se hkn gp lo ht ha (by omega) hs (fun stk kn trial hkn => ?_)⟩
    refine vB0 (fun q1 => ?_) (fun q1 => ?_)
    · have ih := ih stk kn trial hkn
      have q1 : ¬ f b := fun y => q1 ((hf b).mp y)
      rw [if_neg q1, if_neg q1, if_neg q1] at ih
      exact ih
    · have ih := ih stk kn trial hkn
      have q1 : f b := (hf b).mpr q1
      rw [if_pos q1, if_pos q1, if_pos q1, nI_succ, ← nI_and, ← nI_or] at ih
      exact ⟨nb rfl, nb rfl, ih⟩
theorem c_hear {a b w : Nat} {G : Fn} {S : Nat → Nat → Nat} (hS : ∀ m o, m < n → o < n → says (m * 6 + o) = nI (S m o)) (so : ShOk ship n p z) (hkn : KOk kn (RV ship.law)) (gp : GP log.crew.green log.crew.place n p) (lo : log.crew.over = nI t) (ht : t < 2 ^ 30) (ha : a < 64) (hb : b < 64) (hs : log.crew.sucked = nI a) (hf : b &&& a = 0) (hw : w ≤ 100) (hG : G = setG ship log.crew.green log.crew.place n z t b w) (h : ∀ stk kn trial says, KOk kn (RV ship.law) → (∀ m o, m < n → o < n → says (m * 6 + o) = nI (if G o < G m then S m o + 1 else S m o)) → Q none (clsW pn pc tok (ship.wlaw (ship.law.wm stk kn)) nn tl draft vd log trial sta says seed past marks K)) : XC (xF L xs) xmeths (d + 5) 152 [.ref 53, .int (nI b), .int (nI w)] (clsW pn pc tok (ship.wlaw (ship.law.wm stk kn)) nn tl draft vd log trial sta says seed past marks K) Q := by
  have n6 := so.n6
  refine ⟨nb rfl, xgo [12] 60 ⟨rfl, nb rfl, t_copy so lo (fun trial tr => ⟨rfl, nb rfl, t_suckLemons so ha hb hs hf tr (fun trial su tr => ⟨nb rfl, ?_⟩)⟩)⟩⟩
  refine up_to (P := fun j => ∀ stk kn trial, KOk kn (RV ship.law) → Tr trial n (setG ship log.crew.green log.crew.place n z t b j) log.crew.place su (t + j) → XWp (xF L xs) none xP152 (XC (xF L xs) xmeths (d + 4)) Q 12 [orf 53, oi (nI b), oi (nI w), oi (nI j), none] [] (clsW pn pc tok (ship.wlaw (ship.law.wm stk kn)) nn tl draft vd log trial sta says seed past marks K)) (n := w) (fun j hj ih stk kn trial hkn tr => xgo [12, 25] 60 ?_) stk kn trial hkn tr
  refine pk_le w j (fun q => ?_) (fun q => ?_) rfl rfl (by omega) (by omega)
  · have e : j = w := by omega
    subst e
    rw [← hG] at tr
    refine ⟨nb rfl, ?_⟩
    refine up_to (P := fun m => ∀ x4 says, (∀ m' o, m' < n → o < n → says (m' * 6 + o) = nI (if m' < m ∧ G o < G m' then S m' o + 1 else S m' o)) → XWp (xF L xs) none xP152 (XC (xF L xs) xmeths (d + 4)) Q 25 [orf 53, oi (nI b), oi (nI j), oi (nI m), x4] [] (clsW pn pc tok (ship.wlaw (ship.law.wm stk kn)) nn tl draft vd log trial sta says seed past marks K)) (n := n) (fun m hm ih2 x4 says hs2 => xgo [25, 32] 60 ?_) none says (fun m' o hm' ho => by rw [if_neg (fun y => Nat.not_lt_zero _ y.1)]; exact hS m' o hm' ho)
    refine pk_le n m (fun q => ?_) (fun q => ?_) so.men rfl (by omega) (by omega)
    · have e : m = n := by omega
      subst e
      refine ⟨rfl, h stk kn trial says hkn (fun m' o hm' ho => ?_)⟩
      rw [hs2 m' o hm' ho]
      by_cases y : G o < G m'
      · rw [if_pos ⟨hm', y⟩, if_pos y]
      · rw [if_neg (fun z => y z.2), if_neg y]
    · have ih2 := ih2 q
      refine ⟨nb rfl, ?_⟩
      refine up_to (P := fun i => ∀ says, (∀ m' o, m' < n → o < n → says (m' * 6 + o) = nI (if (m' < m ∨ (m' = m ∧ o < i)) ∧ G o < G m' then S m' o + 1 else S m' o)) → XWp (xF L xs) none xP152 (XC (xF L xs) xmeths (d + 4)) Q 32 [orf 53, oi (nI b), oi (nI j), oi (nI m), oi (nI i)] [] (clsW pn pc tok (ship.wlaw (ship.law.wm stk kn)) nn tl draft vd log trial sta says seed past marks K)) (n := n) (fun i hi ih3 says hs3 => xgo [25, 32] 60 ?_) says (fun m' o hm' ho => by
        rw [hs2 m' o hm' ho]
        by_cases y : m' < m ∧ G o < G m'
        · rw [if_pos y, if_pos ⟨Or.inl y.1, y.2⟩]
        · rw [if_neg y, if_neg (fun z => y ⟨by omega, z.2⟩)])
      refine pk_le n i (fun q2 => ?_) (fun q2 => ?_) so.men rfl (by omega) (by omega)
      · have ih2 := ih2 (oi (nI i)) says (fun m' o hm' ho => by
          rw [hs3 m' o hm' ho]
          by_cases y : m' < m + 1 ∧ G o < G m'
          · rw [if_pos y, if_pos ⟨by omega, y.2⟩]
          · rw [if_neg y, if_neg (fun z => y ⟨by omega, z.2⟩)])
        rw [nI_succ] at ih2
        exact ih2
      · have ih3 := ih3 q2
        have em : (nI m).toNatClampNeg = m := nI_clamp (by omega)
        have ei : (nI i).toNatClampNeg = i := nI_clamp (by omega)
        refine ⟨vp_in_nI (by omega) (by omega), vp_in_nI (by omega) (by omega), ?_⟩
        rw [em, ei]
        have f1 := tr.green m q
        have f2 := tr.green i q2
        have e6 : nI m * Int32.ofInt 6 + nI i = nI (m * 6 + i) := by rw [show Int32.ofInt 6 = nI 6 from rfl, pk_mul, nI_add]
        refine And.intro (fun (q3 : trial.green m ≤ trial.green i) => ?_) (fun (q3 : ¬ trial.green m ≤ trial.green i) => ?_)
        · rw [f1, f2] at q3
          have ih3 := ih3 says (fun m' o hm' ho => by
            rw [hs3 m' o hm' ho]
            by_cases y : m' = m ∧ o = i
            · rw [y.1, y.2, if_neg (fun z => absurd z.2 (Int32.not_lt.mpr q3)), if_neg (fun z => absurd z.2 (Int32.not_lt.mpr q3))]
            · by_cases y2 : (m' < m ∨ (m' = m ∧ o < i)) ∧ G o < G m'
              · rw [if_pos y2, if_pos ⟨by omega, y2.2⟩]
              · rw [if_neg y2, if_neg (fun z => y2 ⟨by omega, z.2⟩)])
          rw [nI_succ] at ih3
          exact ih3
        · rw [f1, f2] at q3
          have ih3 := ih3 (upd says (m * 6 + i) (says (m * 6 + i) + 1)) (fun m' o hm' ho => by
            by_cases y : m' = m ∧ o = i
            · rw [y.1, y.2, pk_us, hs3 m i q q2, if_neg (fun z => by omega), if_pos ⟨Or.inr ⟨rfl, by omega⟩, Int32.not_le.mp q3⟩, nI_succ]
            · rw [pk_un (by omega), hs3 m' o hm' ho]
              by_cases y2 : (m' < m ∨ (m' = m ∧ o < i)) ∧ G o < G m'
              · rw [if_pos y2, if_pos ⟨by omega, y2.2⟩]
              · rw [if_neg y2, if_neg (fun z => y2 ⟨by omega, z.2⟩)])
          rw [nI_succ] at ih3
          refine ⟨show vp_in (nI m * Int32.ofInt 6 + nI i) 36 from e6 ▸ vp_in_nI (by omega) (by omega), show vp_in (nI m * Int32.ofInt 6 + nI i) 36 from e6 ▸ vp_in_nI (by omega) (by omega), ?_⟩
          rw [e6, nI_clamp (by omega)]
          exact ih3
  · have ih := ih q
    refine ⟨rfl, nb rfl, t_seaNow so tr (by omega) ⟨rfl, nb rfl, t_passWatch so hkn tr (runG_ok (skG_ok so.lemon gp) j) (so.sea _ (Nat.mod_lt _ so.z1)) (fun stk kn trial hkn tr => ?_)⟩⟩
    have ih := ih stk kn trial hkn tr
    rw [nI_succ] at ih
    exact ih
theorem c_bestPair {a w : Nat} (so : ShOk ship n p z) (se : SeOk log.seen n c) (hkn : KOk kn (RV ship.law)) (gp : GP log.crew.green log.crew.place n p) (lo : log.crew.over = nI t) (ht : t < 2 ^ 30) (ha : a < 64) (hs : log.crew.sucked = nI a) (hw : w ≤ 100) {f : Nat → Prop} [DecidablePred f] (hf : ∀ b, f b ↔ ftV ship log.crew.green log.crew.place log.seen n z t c a b) (h : ∀ stk kn trial says, KOk kn (RV ship.law) → Q (some (.int (bpOut (fun m o => sayV f (fun b => setG ship log.crew.green log.crew.place n z t b w) m o (2 ^ n)) (fndV f (2 ^ n)) n n).2)) (clsW pn pc tok (ship.wlaw (ship.law.wm stk kn)) nn tl draft vd log trial sta says seed past marks K)) : XC (xF L xs) xmeths (d + 6) 151 [.ref 53, .int (nI w)] (clsW pn pc tok (ship.wlaw (ship.law.wm stk kn)) nn tl draft vd log trial sta says seed past marks K) Q := by
  have n6 := so.n6
  have h64 : 2 ^ n ≤ 2 ^ 6 := Nat.pow_le_pow_right (by decide) n6
  have eM : (Int32.ofInt 1) <<< (ship.men &&& 31) = nI (2 ^ n) := by rw [so.men]; exact shl_of n (by omega)
  refine ⟨nb rfl, xgo [8] 60 ⟨rfl, nb rfl, c_fill_54 rfl ⟨nb rfl, nb rfl, ?_⟩⟩⟩
  refine up_to (P := fun b => ∀ stk kn trial says, KOk kn (RV ship.law) → (∀ m o, m < n → o < n → says (m * 6 + o) = nI (sayV f (fun b => setG ship log.crew.green log.crew.place n z t b w) m o b)) → XWp (xF L xs) (some .int) xP151 (XC (xF L xs) xmeths (d + 5)) Q 8 [orf 53, oi (nI w), oi (nI (fndV f b)), oi (nI b), none, none, none, none, none] [] (clsW pn pc tok (ship.wlaw (ship.law.wm stk kn)) nn tl draft vd log trial sta says seed past marks K)) (n := 2 ^ n) (fun b hb ih stk kn trial says hkn hsay => xgo [8, 32] 60 ?_) stk kn trial _ hkn (fun m o hm ho => by simp only [fil, sayV]; rw [if_pos (by omega)]; rfl)
  refine pk_le (2 ^ n) b (fun q => ?_) (fun q => ?_) eM rfl (by omega) (by omega)
  · have e : b = 2 ^ n := by omega
    rw [← e] at h
    refine ⟨nb rfl, nb rfl, nb rfl, ?_⟩
    generalize hS : (fun m o => sayV f (fun b => setG ship log.crew.green log.crew.place n z t b w) m o b) = S at *
    have hsay : ∀ m o, m < n → o < n → says (m * 6 + o) = nI (S m o) := by
      intro m o hm ho
      rw [← hS]
      exact hsay m o hm ho
    generalize fndV f b = found at *
    refine up_to (P := fun m => ∀ x6 x7 x8, XWp (xF L xs) (some .int) xP151 (XC (xF L xs) xmeths (d + 5)) Q 32 [orf 53, oi (nI w), oi (nI found), oi (bpOut S found n m).1, oi (bpOut S found n m).2, oi (nI m), x6, x7, x8] [] (clsW pn pc tok (ship.wlaw (ship.law.wm stk kn)) nn tl draft vd log trial sta says seed past marks K)) (n := n) (fun m hm ih2 x6 x7 x8 => xgo [32, 39] 60 ?_) none none none
    refine pk_le n m (fun q => ?_) (fun q => ?_) so.men rfl (by omega) (by omega)
    · have e : m = n := by omega
      subst e
      exact h stk kn trial says hkn
    · have ih2 := ih2 q
      refine ⟨nb rfl, ?_⟩
      refine up_to (P := fun o => ∀ x7 x8, XWp (xF L xs) (some .int) xP151 (XC (xF L xs) xmeths (d + 5)) Q 39 [orf 53, oi (nI w), oi (nI found), oi (bpIn S found m o (bpOut S found n m)).1, oi (bpIn S found m o (bpOut S found n m)).2, oi (nI m), oi (nI o), x7, x8] [] (clsW pn pc tok (ship.wlaw (ship.law.wm stk kn)) nn tl draft vd log trial sta says seed past marks K)) (n := n) (fun o ho ih3 x7 x8 => xgo [32, 39] 60 ?_) x7 x8
      refine pk_le n o (fun q2 => ?_) (fun q2 => ?_) so.men rfl (by omega) (by omega)
      · have e : o = n := by omega
        subst e
        have ih2 := ih2 (oi (nI o)) x7 x8
        rw [bpOut, nI_succ] at ih2
        exact ih2
      · have ih3 := ih3 q2
        have e6 : nI m * Int32.ofInt 6 + nI o = nI (m * 6 + o) := by rw [show Int32.ofInt 6 = nI 6 from rfl, pk_mul, nI_add]
        have e8 : Int32.ofInt 8 * nI m + nI o = nI (8 * m + o) := by rw [show Int32.ofInt 8 = nI 8 from rfl, pk_mul, nI_add]
        refine ⟨show vp_in (nI m * Int32.ofInt 6 + nI o) 36 from e6 ▸ vp_in_nI (by omega) (by omega), nb rfl, nb rfl, nb rfl, ?_⟩
        rw [e6, nI_clamp (by omega), hsay m o q q2]
        rw [bpIn, nI_succ] at ih3
        generalize bpIn S found m o (bpOut S found n m) = r at *
        refine pk_eq m o (fun q3 => ?_) (fun q3 => ?_) rfl rfl (by omega) (by omega)
        · have ih3 := ih3 (oi (nI (S m o))) (oi (mx (nI (S m o)) (nI found - nI (S m o))))
          rw [if_neg (fun y => y.1 q3)] at ih3
          exact ih3
        · have ih3 := ih3 (oi (nI (S m o))) (oi (mx (nI (S m o)) (nI found - nI (S m o))))
          refine And.intro (fun (q4 : r.1 ≤ mx (nI (S m o)) (nI found - nI (S m o))) => ?_) (fun (q4 : ¬ r.1 ≤ mx (nI (S m o)) (nI found - nI (S m o))) => ?_)
          · rw [if_neg (fun y => absurd y.2 (Int32.not_lt.mpr q4))] at ih3
            exact ih3
          · rw [if_pos ⟨q3, Int32.not_le.mp q4⟩] at ih3
            refine ⟨nb rfl, nb rfl, ?_⟩
            rw [e8]
            exact ih3
  · have ih := ih q
    rw [fndV, nI_succ] at ih
    refine ⟨rfl, nb rfl, c_fits so se hkn gp lo ht ha (by omega) hs (fun stk kn trial hkn => ?_)⟩
    refine vB0 (fun q1 => ?_) (fun q1 => ?_)
    · have q1 : ¬ f b := fun y => q1 ((hf b).mp y)
      have ih := ih stk kn trial says hkn (fun m o hm ho => by
        rw [sayV, if_neg (fun y => q1 y.1)]
        exact hsay m o hm ho)
      rw [if_neg q1] at ih
      exact ih
    · have q2 : f b := (hf b).mpr q1
      refine ⟨rfl, nb rfl, c_hear hsay so hkn gp lo ht ha (by omega) hs q1.1 hw rfl (fun stk kn trial says hkn hs3 => ?_)⟩
      have ih := ih stk kn trial says hkn (fun m o hm ho => by
        rw [hs3 m o hm ho, sayV]
        congr 1
        by_cases y : setG ship log.crew.green log.crew.place n z t b w o < setG ship log.crew.green log.crew.place n z t b w m
        · rw [if_pos y, if_pos ⟨q2, y⟩]
        · rw [if_neg y, if_neg (fun z => y z.2)])
      rw [if_pos q2, nI_succ] at ih
      exact ih
end XST
