/-! a crew: harbours, boarding, likeness; pairs and shades -/
def allB (p : Nat → Bool) : Nat → Bool
  | 0 => true
  | n + 1 => allB p n && p n
theorem cnt_zero {p : Nat → Bool} : ∀ n, (∀ o, o < n → p o = false) → cnt p n = 0
  | 0, _ => rfl
  | n + 1, h => by
    simp only [cnt, h n (by omega)]
    exact cnt_zero n (fun o ho => h o (by omega))
def prC (g : Fn) (m o : Nat) : Bool := decide (m < o) && decide (g m = g o)
def prsC (g : Fn) (n : Nat) : Nat → Nat
  | 0 => 0
  | m + 1 => prsC g n m + cnt (prC g m) n
def shF (g : Fn) (s : Int32) (m : Nat) : Bool := allB (fun o => decide (¬ g o / s = g m / s)) m
abbrev quaF (g : Fn) (s : Int32) (k o : Nat) : Bool := decide (¬ nI o = nI k) && decide (ab (g o - g k) < s)
abbrev salF (g : Fn) (s : Int32) (k o : Nat) : Bool := decide (2 * s ≤ g o - g k)
abbrev cp6 (f g : Fn) : Fn := va_cpy f g 0 0 6
theorem cp6_lt {f g : Fn} {k : Nat} (h : k < 6) : cp6 f g k = f k := by
  simp only [cp6, va_cpy]
  rw [if_pos ⟨Nat.zero_le k, by omega⟩]
  simp
abbrev TCrew.cp (c o : TCrew) : TCrew := (c.rise, cp6 o.green c.green, cp6 o.place c.place, o.sucked, o.over)
abbrev TCrew.wpl (c : TCrew) (p : Fn) : TCrew := (c.rise, c.green, p, c.sucked, c.over)
abbrev fil (f : Fn) (x : Int32) (n : Nat) : Fn := fun k => if k < n then x else f k
def sksC (c : TCrew) (lemon set : Int32) : Nat → TCrew
  | 0 => c
  | m + 1 => if bit set (nI m) ∧ ¬ bit (sksC c lemon set m).sucked (nI m) then (sksC c lemon set m).suck lemon m else sksC c lemon set m
theorem harbG_succ (s : TShip) (g : Fn) (i : Nat) : harbG s g (i + 1) = if s.kind i = 3 then harbG s g i else upd (harbG s g i) i (mx 0 (harbG s g i i - s.harbour)) := by
  have e : harbG s g i i = g i := by simp only [harbG]; rw [if_neg (fun z => Nat.lt_irrefl i z.1)]
  rw [e]
  by_cases h : s.kind i = 3
  · rw [if_pos h]
    funext k
    simp only [harbG]
    by_cases y : k = i
    · subst y
      rw [if_neg (fun z => z.2 h), if_neg (fun z => z.2 h)]
    · by_cases y2 : k < i ∧ ¬ s.kind k = 3
      · rw [if_pos y2, if_pos ⟨by omega, y2.2⟩]
      · rw [if_neg y2, if_neg (fun z => y2 ⟨by omega, z.2⟩)]
  · rw [if_neg h]
    funext k
    simp only [harbG, upd]
    by_cases y : k = i
    · subst y
      rw [if_pos ⟨by omega, h⟩, if_pos rfl]
    · rw [if_neg y]
      by_cases y2 : k < i ∧ ¬ s.kind k = 3
      · rw [if_pos y2, if_pos ⟨by omega, y2.2⟩]
      · rw [if_neg y2, if_neg (fun z => y2 ⟨by omega, z.2⟩)]
theorem fil_succ (f : Fn) (x : Int32) (i : Nat) : fil f x (i + 1) = upd (fil f x i) i x := by
  funext k
  simp only [fil, upd]
  by_cases y : k = i
  · subst y; simp
  · rw [if_neg y]
    by_cases y2 : k < i
    · rw [if_pos y2, if_pos (by omega)]
    · rw [if_neg y2, if_neg (by omega)]
theorem fil_zero (f : Fn) (x : Int32) : fil f x 0 = f := by
  funext k
  simp [fil]
section XCT
variable {L : Nat} {xs : Nat → Int32} {d : Nat} {Q : XQt} {pn pc : Int32} {tok : TTok} {ship : TShip} {nn : Int64} {tl : Int32} {draft : TShip} {vd : TVoy} {log : TLog} {trial : TCrew} {sta : TSta} {says : Fn} {seed : Int64} {past : Nat → TCrew} {marks : Nat → TLog} {mi : TMi} {ma : TMa} {mb : TMb} {K : XWd}
theorem c_fill_43 {x : Int32} {N : Nat} (hN : N = 6) (h : Q none (clsW pn pc tok ship nn tl draft vd (log.wcrew (log.crew.wpl  (fil log.crew.place x N))) trial sta says seed past marks K)) : XC (xF L xs) xmeths (d + 1) 4 [.ref 43, .int x] (clsW pn pc tok ship nn tl draft vd log trial sta says seed past marks K) Q := by
  refine ⟨nb rfl, xgo [5] 20 ⟨nb rfl, nb rfl, ?_⟩⟩
  have start := up_to (P := fun j => XWp (xF L xs) none xP4 (XC (xF L xs) xmeths d) Q 5 [orf 43, oi x, oi (nI j), oi (nI N)] [] (clsW pn pc tok ship nn tl draft vd (log.wcrew (log.crew.wpl  (fil log.crew.place x j))) trial sta says seed past marks K)) (n := N) (fun j hj ih => xgo [5] 40 ?_)
  · rw [fil_zero] at start
    exact (show nI N = Int32.ofNat 6 from hN ▸ rfl) ▸ start
  · refine pk_le N j (fun q => ?_) (fun q => ?_) rfl rfl (by omega) (by omega)
    · have e : j = N := by omega
      rw [← e] at h
      exact ⟨rfl, h⟩
    · have ih := ih q
      rw [fil_succ, nI_succ] at ih
      refine ⟨vp_in_nI (by omega) (by omega), ?_⟩
      rw [nI_clamp (by omega)]
      exact ih
theorem c_fill_47 {x : Int32} {N : Nat} (hN : N = 6) (h : Q none (clsW pn pc tok ship nn tl draft vd log (trial.wpl  (fil trial.place x N)) sta says seed past marks K)) : XC (xF L xs) xmeths (d + 1) 4 [.ref 47, .int x] (clsW pn pc tok ship nn tl draft vd log trial sta says seed past marks K) Q := by
  refine ⟨nb rfl, xgo [5] 20 ⟨nb rfl, nb rfl, ?_⟩⟩
  have start := up_to (P := fun j => XWp (xF L xs) none xP4 (XC (xF L xs) xmeths d) Q 5 [orf 47, oi x, oi (nI j), oi (nI N)] [] (clsW pn pc tok ship nn tl draft vd log (trial.wpl  (fil trial.place x j)) sta says seed past marks K)) (n := N) (fun j hj ih => xgo [5] 40 ?_)
  · rw [fil_zero] at start
    exact (show nI N = Int32.ofNat 6 from hN ▸ rfl) ▸ start
  · refine pk_le N j (fun q => ?_) (fun q => ?_) rfl rfl (by omega) (by omega)
    · have e : j = N := by omega
      rw [← e] at h
      exact ⟨rfl, h⟩
    · have ih := ih q
      rw [fil_succ, nI_succ] at ih
      refine ⟨vp_in_nI (by omega) (by omega), ?_⟩
      rw [nI_clamp (by omega)]
      exact ih
theorem c_fill_54 {x : Int32} {N : Nat} (hN : N = 36) (h : Q none (clsW pn pc tok ship nn tl draft vd log trial sta (fil says x N) seed past marks K)) : XC (xF L xs) xmeths (d + 1) 4 [.ref 54, .int x] (clsW pn pc tok ship nn tl draft vd log trial sta says seed past marks K) Q := by
  refine ⟨nb rfl, xgo [5] 20 ⟨nb rfl, nb rfl, ?_⟩⟩
  have start := up_to (P := fun j => XWp (xF L xs) none xP4 (XC (xF L xs) xmeths d) Q 5 [orf 54, oi x, oi (nI j), oi (nI N)] [] (clsW pn pc tok ship nn tl draft vd log trial sta (fil says x j) seed past marks K)) (n := N) (fun j hj ih => xgo [5] 40 ?_)
  · rw [fil_zero] at start
    exact (show nI N = Int32.ofNat 36 from hN ▸ rfl) ▸ start
  · refine pk_le N j (fun q => ?_) (fun q => ?_) rfl rfl (by omega) (by omega)
    · have e : j = N := by omega
      rw [← e] at h
      exact ⟨rfl, h⟩
    · have ih := ih q
      rw [fil_succ, nI_succ] at ih
      refine ⟨vp_in_nI (by omega) (by omega), ?_⟩
      rw [nI_clamp (by omega)]
      exact ih

theorem c_quarrelling {n k : Nat} (hn : n ≤ 6) (hm : ship.men = nI n) (hk : k < 6) (h : Q (some (.int (bset (quaF log.crew.green ship.shade k) n))) (clsW pn pc tok ship nn tl draft vd log trial sta says seed past marks K)) : XC (xF L xs) xmeths (d + 1) 116 [.ref 40, .int (nI k)] (clsW pn pc tok ship nn tl draft vd log trial sta says seed past marks K) Q := by
  refine ⟨nb rfl, xgo [4] 20 ⟨nb rfl, nb rfl, ?_⟩⟩
  refine up_to (P := fun j => XWp (xF L xs) (some .int) xP116 (XC (xF L xs) xmeths d) Q 4 [orf 40, oi (nI k), oi (bset (quaF log.crew.green ship.shade k) j), oi (nI j)] [] (clsW pn pc tok ship nn tl draft vd log trial sta says seed past marks K)) (n := n) (fun j hj ih => xgo [4] 40 ?_)
  refine pk_le n j (fun q => ?_) (fun q => ?_) hm rfl (by omega) (by omega)
  · have e : j = n := by omega
    subst e
    exact h
  · have ih := ih q
    refine And.intro (fun (q2 : nI j = nI k) => ?_) (fun (q2 : ¬ nI j = nI k) => ?_)
    · rw [bset, if_neg (by simp [q2]), nI_succ] at ih
      exact ih
    · refine ⟨vp_in_nI (by omega) (by omega), vp_in_nI (by omega) (by omega), nb rfl, ?_⟩
      rw [nI_clamp (by omega), nI_clamp (by omega)]
      refine And.intro (fun (q3 : ship.shade ≤ ab (log.crew.green j - log.crew.green k)) => ?_) (fun (q3 : ¬ ship.shade ≤ ab (log.crew.green j - log.crew.green k)) => ?_)
      · rw [bset, if_neg (by simp only [Bool.and_eq_true, decide_eq_true_eq, not_and]; exact fun _ => Int32.not_lt.mpr q3), nI_succ] at ih
        exact ih
      · refine ⟨nb rfl, ?_⟩
        rw [bset, if_pos (by simp only [Bool.and_eq_true, decide_eq_true_eq]; exact ⟨q2, Int32.not_le.mp q3⟩), nI_succ] at ih
        exact ih
theorem c_saluted {n k : Nat} (hn : n ≤ 6) (hm : ship.men = nI n) (hk : k < 6) (h : Q (some (.int (bset (salF log.crew.green ship.shade k) n))) (clsW pn pc tok ship nn tl draft vd log trial sta says seed past marks K)) : XC (xF L xs) xmeths (d + 1) 118 [.ref 40, .int (nI k)] (clsW pn pc tok ship nn tl draft vd log trial sta says seed past marks K) Q := by
  refine ⟨nb rfl, xgo [4] 20 ⟨nb rfl, nb rfl, ?_⟩⟩
  refine up_to (P := fun j => XWp (xF L xs) (some .int) xP118 (XC (xF L xs) xmeths d) Q 4 [orf 40, oi (nI k), oi (bset (salF log.crew.green ship.shade k) j), oi (nI j)] [] (clsW pn pc tok ship nn tl draft vd log trial sta says seed past marks K)) (n := n) (fun j hj ih => xgo [4] 40 ?_)
  refine pk_le n j (fun q => ?_) (fun q => ?_) hm rfl (by omega) (by omega)
  · have e : j = n := by omega
    subst e
    exact h
  · have ih := ih q
    refine ⟨vp_in_nI (by omega) (by omega), vp_in_nI (by omega) (by omega), ?_⟩
    rw [nI_clamp (by omega), nI_clamp (by omega)]
    refine And.intro (fun (q3 : log.crew.green j - log.crew.green k < 2 * ship.shade) => ?_) (fun (q3 : ¬ log.crew.green j - log.crew.green k < 2 * ship.shade) => ?_)
    · rw [bset, if_neg (by simp only [decide_eq_true_eq]; exact Int32.not_le.mpr q3), nI_succ] at ih
      exact ih
    · refine ⟨nb rfl, ?_⟩
      rw [bset, if_pos (by simp only [decide_eq_true_eq]; exact Int32.not_lt.mp q3), nI_succ] at ih
      exact ih
theorem c_equalPairs {n : Nat} (hn : n ≤ 6) (hm : ship.men = nI n) (h : Q (some (.int (nI (prsC log.crew.green n n)))) (clsW pn pc tok ship nn tl draft vd log trial sta says seed past marks K)) : XC (xF L xs) xmeths (d + 1) 137 [.ref 40] (clsW pn pc tok ship nn tl draft vd log trial sta says seed past marks K) Q := by
  refine ⟨nb rfl, xgo [4] 20 ⟨nb rfl, nb rfl, ?_⟩⟩
  refine up_to (P := fun j => ∀ x3, XWp (xF L xs) (some .int) xP137 (XC (xF L xs) xmeths d) Q 4 [orf 40, oi (nI (prsC log.crew.green n j)), oi (nI j), x3] [] (clsW pn pc tok ship nn tl draft vd log trial sta says seed past marks K)) (n := n) (fun j hj ih x3 => xgo [4, 13] 40 ?_) none
  refine pk_le n j (fun q => ?_) (fun q => ?_) hm rfl (by omega) (by omega)
  · have e : j = n := by omega
    subst e
    exact h
  · have ih := ih q
    refine ⟨nb rfl, ?_⟩
    have start := up_to (P := fun i => XWp (xF L xs) (some .int) xP137 (XC (xF L xs) xmeths d) Q 13 [orf 40, oi (nI (prsC log.crew.green n j + cnt (prC log.crew.green j) (j + 1 + i))), oi (nI j), oi (nI (j + 1 + i))] [] (clsW pn pc tok ship nn tl draft vd log trial sta says seed past marks K)) (n := n - (j + 1)) (fun i hi ih2 => xgo [4, 13] 40 ?_)
    · rw [cnt_zero (p := prC log.crew.green j) (j + 1 + 0) (fun o ho => by simp only [prC]; rw [decide_eq_false (by omega)]; rfl)] at start
      simp only [Nat.add_zero, nI_succ] at start
      exact start
    · refine pk_le n (j + 1 + i) (fun q2 => ?_) (fun q2 => ?_) hm rfl (by omega) (by omega)
      · have e : j + 1 + i = n := by omega
        have ih := ih (oi (nI n))
        rw [prsC, nI_succ] at ih
        rw [e]
        exact ih
      · have ih2 := ih2 (by omega)
        refine ⟨vp_in_nI (by omega) (by omega), vp_in_nI (by omega) (by omega), ?_⟩
        rw [nI_clamp (by omega), nI_clamp (by omega)]
        have e0 : j + 1 + (i + 1) = (j + 1 + i) + 1 := by omega
        rw [e0, cnt] at ih2
        refine And.intro (fun (q3 : ¬ log.crew.green j = log.crew.green (j + 1 + i)) => ?_) (fun (q3 : ¬ ¬ log.crew.green j = log.crew.green (j + 1 + i)) => ?_)
        · rw [if_neg (by simp only [prC, Bool.and_eq_true, decide_eq_true_eq, not_and]; exact fun _ => q3), nI_succ] at ih2
          exact ih2
        · rw [if_pos (by simp only [prC, Bool.and_eq_true, decide_eq_true_eq]; exact ⟨by omega, Classical.not_not.mp q3⟩), nI_succ, ← Nat.add_assoc, nI_succ] at ih2
          exact ih2
theorem c_shadeOf {k s : Nat} (hk : k < 6) (hs1 : 1 ≤ s) (hs2 : s ≤ 9) (hs : ship.shade = nI s) (h : Q (some (.int (log.crew.green k / ship.shade))) (clsW pn pc tok ship nn tl draft vd log trial sta says seed past marks K)) : XC (xF L xs) xmeths (d + 1) 140 [.ref 40, .int (nI k)] (clsW pn pc tok ship nn tl draft vd log trial sta says seed past marks K) Q := by
  refine ⟨nb rfl, xgo [] 20 ?_⟩
  refine pk_le s 0 (fun q => by omega) (fun q => ?_) hs nI_0.symm (by omega) (by omega)
  refine ⟨vp_in_nI (by omega) (by omega), ?_⟩
  rw [nI_clamp (by omega)]
  exact ⟨hs ▸ nI_ne0 hs1 (by omega), h⟩
theorem c_differentShades {n s : Nat} (hn : n ≤ 6) (hm : ship.men = nI n) (hs1 : 1 ≤ s) (hs2 : s ≤ 9) (hs : ship.shade = nI s) (h : Q (some (.int (nI (cnt (shF log.crew.green ship.shade) n)))) (clsW pn pc tok ship nn tl draft vd log trial sta says seed past marks K)) : XC (xF L xs) xmeths (d + 2) 139 [.ref 40] (clsW pn pc tok ship nn tl draft vd log trial sta says seed past marks K) Q := by
  refine ⟨nb rfl, xgo [4] 20 ⟨nb rfl, nb rfl, ?_⟩⟩
  refine up_to (P := fun j => ∀ x3 x4, XWp (xF L xs) (some .int) xP139 (XC (xF L xs) xmeths (d + 1)) Q 4 [orf 40, oi (nI (cnt (shF log.crew.green ship.shade) j)), oi (nI j), x3, x4] [] (clsW pn pc tok ship nn tl draft vd log trial sta says seed past marks K)) (n := n) (fun j hj ih x3 x4 => xgo [4, 13] 40 ?_) none none
  refine pk_le n j (fun q => ?_) (fun q => ?_) hm rfl (by omega) (by omega)
  · have e : j = n := by omega
    subst e
    exact h
  · have ih := ih q
    refine ⟨nb rfl, nb rfl, ?_⟩
    refine up_to (P := fun i => XWp (xF L xs) (some .int) xP139 (XC (xF L xs) xmeths (d + 1)) Q 13 [orf 40, oi (nI (cnt (shF log.crew.green ship.shade) j)), oi (nI j), oi (b2i (allB (fun o => decide (¬ log.crew.green o / ship.shade = log.crew.green j / ship.shade)) i = true)), oi (nI i)] [] (clsW pn pc tok ship nn tl draft vd log trial sta says seed past marks K)) (n := j) (fun i hi ih2 => xgo [4, 13] 40 ?_)
    refine pk_le j i (fun q2 => ?_) (fun q2 => ?_) rfl rfl (by omega) (by omega)
    · have e : i = j := by omega
      subst e
      refine vB0 (fun q3 => ?_) (fun q3 => ?_)
      · refine ⟨nb rfl, ?_⟩
        have ih := ih (oi 0) (oi (nI i))
        rw [cnt, if_neg (show ¬ shF log.crew.green ship.shade i = true from q3), nI_succ] at ih
        rw [b2i_f q3]
        have e0 : nI (cnt (shF log.crew.green ship.shade) i) + Int32.ofInt 0 = nI (cnt (shF log.crew.green ship.shade) i) := nI_add _ 0
        rw [e0]
        exact ih
      · refine ⟨nb rfl, ?_⟩
        have ih := ih (oi 1) (oi (nI i))
        rw [cnt, if_pos (show shF log.crew.green ship.shade i = true from q3), nI_succ, nI_succ] at ih
        rw [b2i_t q3]
        exact ih
    · have ih2 := ih2 q2
      rw [allB, nI_succ] at ih2
      refine vB0 (fun q3 => ?_) (fun q3 => ?_)
      · refine ⟨nb rfl, ?_⟩
        rw [b2i_f (by rw [Bool.and_eq_true]; exact fun z => q3 z.1)] at ih2
        exact ih2
      · refine ⟨rfl, nb rfl, c_shadeOf (by omega) hs1 hs2 hs ⟨rfl, nb rfl, c_shadeOf (by omega) hs1 hs2 hs ?_⟩⟩
        refine And.intro (fun (q4 : log.crew.green i / ship.shade = log.crew.green j / ship.shade) => ?_) (fun (q4 : ¬ log.crew.green i / ship.shade = log.crew.green j / ship.shade) => ?_)
        · refine ⟨nb rfl, ?_⟩
          rw [b2i_f (by rw [Bool.and_eq_true, decide_eq_true_eq]; exact fun z => z.2 q4)] at ih2
          exact ih2
        · refine ⟨nb rfl, ?_⟩
          rw [b2i_t (by rw [Bool.and_eq_true, decide_eq_true_eq]; exact ⟨q3, q4⟩)] at ih2
          exact ih2
theorem c_suckLemons {n : Nat} {set : Int32} (hn : n ≤ 6) (hm : ship.men = nI n) (h : Q none (clsW pn pc tok ship nn tl draft vd log (sksC trial ship.lemon set n) sta says seed past marks K)) : XC (xF L xs) xmeths (d + 4) 133 [.ref 44, .int set] (clsW pn pc tok ship nn tl draft vd log trial sta says seed past marks K) Q := by
  refine ⟨nb rfl, xgo [2] 20 ⟨nb rfl, ?_⟩⟩
  refine up_to (P := fun j => XWp (xF L xs) none xP133 (XC (xF L xs) xmeths (d + 3)) Q 2 [orf 44, oi set, oi (nI j)] [] (clsW pn pc tok ship nn tl draft vd log (sksC trial ship.lemon set j) sta says seed past marks K)) (n := n) (fun j hj ih => xgo [2] 40 ?_)
  refine pk_le n j (fun q => ?_) (fun q => ?_) hm rfl (by omega) (by omega)
  · have e : j = n := by omega
    subst e
    exact ⟨rfl, h⟩
  · have ih := ih q
    rw [sksC, nI_succ] at ih
    refine And.intro (fun (q2 : ¬ bit set (nI j)) => ?_) (fun (q2 : ¬ ¬ bit set (nI j)) => ?_)
    · rw [if_neg (fun z => q2 z.1)] at ih
      exact ih
    · have q2 := Classical.not_not.mp q2
      refine ⟨rfl, nb rfl, c_suckLemon_44 (by omega) (fun q3 => ?_) (fun q3 => ?_)⟩
      · rw [if_neg (fun z => q3 ⟨⟨nI_pos' (by omega), hm ▸ nI_lt q (by omega)⟩, z.2⟩)] at ih
        exact ih
      · rw [if_pos ⟨q2, q3.2⟩] at ih
        exact ih
theorem c_enterHarbour_40 {n : Nat} (hn : n ≤ 6) (hm : ship.men = nI n) (h : Q none (clsW pn pc tok ship nn tl draft vd (log.wcrew (log.crew.rise, harbG ship log.crew.green n, harbP log.crew.place n, log.crew.sucked, log.crew.over)) trial sta says seed past marks K)) : XC (xF L xs) xmeths (d + 1) 107 [.ref 40] (clsW pn pc tok ship nn tl draft vd log trial sta says seed past marks K) Q := by
  refine ⟨nb rfl, xgo [2] 20 ⟨nb rfl, ?_⟩⟩
  have start := up_to (P := fun j => XWp (xF L xs) none xP107 (XC (xF L xs) xmeths d) Q 2 [orf 40, oi (nI j)] [] (clsW pn pc tok ship nn tl draft vd (log.wcrew (log.crew.rise, harbG ship log.crew.green j, fil log.crew.place (-1) j, log.crew.sucked, log.crew.over)) trial sta says seed past marks K)) (n := n) (fun j hj ih => xgo [2] 40 ?_)
  · have e0 : harbG ship log.crew.green 0 = log.crew.green := by funext k; simp [harbG]
    rw [e0, fil_zero] at start
    exact start
  refine pk_le n j (fun q => ?_) (fun q => ?_) hm rfl (by omega) (by omega)
  · have e : j = n := by omega
    subst e
    exact ⟨rfl, h⟩
  · have ih := ih q
    have ej : (nI j).toNatClampNeg = j := nI_clamp (by omega)
    rw [harbG_succ, fil_succ, nI_succ] at ih
    refine ⟨vp_in_nI (by omega) (by omega), ?_⟩
    rw [ej]
    refine And.intro (fun (q2 : ship.kind j = 3) => ?_) (fun (q2 : ¬ ship.kind j = 3) => ?_)
    · rw [if_pos q2] at ih
      refine ⟨vp_in_nI (by omega) (by omega), ?_⟩
      rw [ej]
      exact ih
    · rw [if_neg q2] at ih
      refine ⟨vp_in_nI (by omega) (by omega), nb rfl, vp_in_nI (by omega) (by omega), vp_in_nI (by omega) (by omega), ?_⟩
      rw [ej]
      exact ih
theorem c_boardAnew_40 (h : Q none (clsW pn pc tok ship nn tl draft vd (log.wcrew (log.crew.rise, cp6 ship.green log.crew.green, fil log.crew.place (-1) 6, 0, 0)) trial sta says seed past marks K)) : XC (xF L xs) xmeths (d + 2) 68 [.ref 40] (clsW pn pc tok ship nn tl draft vd log trial sta says seed past marks K) Q := by
  refine ⟨nb rfl, xgo [] 40 ⟨nb rfl, ⟨by decide, by decide, by decide, nb rfl, nb rfl⟩, ?_⟩⟩
  refine ⟨rfl, nb rfl, c_fill_43 (pn := pn) (pc := pc) (tok := tok) (ship := ship) (nn := nn) (tl := tl) (draft := draft) (vd := vd) (log := log.wcrew (log.crew.wg (cp6 ship.green log.crew.green))) (trial := trial) (sta := sta) (says := says) (seed := seed) (past := past) (marks := marks) (K := K) rfl ?_⟩
  exact ⟨rfl, h⟩
theorem c_enterHarbour_44 {n : Nat} (hn : n ≤ 6) (hm : ship.men = nI n) (h : Q none (clsW pn pc tok ship nn tl draft vd log (trial.rise, harbG ship trial.green n, harbP trial.place n, trial.sucked, trial.over) sta says seed past marks K)) : XC (xF L xs) xmeths (d + 1) 107 [.ref 44] (clsW pn pc tok ship nn tl draft vd log trial sta says seed past marks K) Q := by
  refine ⟨nb rfl, xgo [2] 20 ⟨nb rfl, ?_⟩⟩
  have start := up_to (P := fun j => XWp (xF L xs) none xP107 (XC (xF L xs) xmeths d) Q 2 [orf 44, oi (nI j)] [] (clsW pn pc tok ship nn tl draft vd log (trial.rise, harbG ship trial.green j, fil trial.place (-1) j, trial.sucked, trial.over) sta says seed past marks K)) (n := n) (fun j hj ih => xgo [2] 40 ?_)
  · have e0 : harbG ship trial.green 0 = trial.green := by funext k; simp [harbG]
    rw [e0, fil_zero] at start
    exact start
  refine pk_le n j (fun q => ?_) (fun q => ?_) hm rfl (by omega) (by omega)
  · have e : j = n := by omega
    subst e
    exact ⟨rfl, h⟩
  · have ih := ih q
    have ej : (nI j).toNatClampNeg = j := nI_clamp (by omega)
    rw [harbG_succ, fil_succ, nI_succ] at ih
    refine ⟨vp_in_nI (by omega) (by omega), ?_⟩
    rw [ej]
    refine And.intro (fun (q2 : ship.kind j = 3) => ?_) (fun (q2 : ¬ ship.kind j = 3) => ?_)
    · rw [if_pos q2] at ih
      refine ⟨vp_in_nI (by omega) (by omega), ?_⟩
      rw [ej]
      exact ih
    · rw [if_neg q2] at ih
      refine ⟨vp_in_nI (by omega) (by omega), nb rfl, vp_in_nI (by omega) (by omega), vp_in_nI (by omega) (by omega), ?_⟩
      rw [ej]
      exact ih
theorem c_boardAnew_44 (h : Q none (clsW pn pc tok ship nn tl draft vd log (trial.rise, cp6 ship.green trial.green, fil trial.place (-1) 6, 0, 0) sta says seed past marks K)) : XC (xF L xs) xmeths (d + 2) 68 [.ref 44] (clsW pn pc tok ship nn tl draft vd log trial sta says seed past marks K) Q := by
  refine ⟨nb rfl, xgo [] 40 ⟨nb rfl, ⟨by decide, by decide, by decide, nb rfl, nb rfl⟩, ?_⟩⟩
  refine ⟨rfl, nb rfl, c_fill_47 (pn := pn) (pc := pc) (tok := tok) (ship := ship) (nn := nn) (tl := tl) (draft := draft) (vd := vd) (log := log) (trial := trial.wg (cp6 ship.green trial.green)) (sta := sta) (says := says) (seed := seed) (past := past) (marks := marks) (K := K) rfl ?_⟩
  exact ⟨rfl, h⟩

theorem c_copyTrial (h : Q none (clsW pn pc tok ship nn tl draft vd log (trial.cp log.crew) sta says seed past marks K)) : XC (xF L xs) xmeths (d + 1) 85 [.ref 44, .ref 40] (clsW pn pc tok ship nn tl draft vd log trial sta says seed past marks K) Q := by
  exact ⟨nb rfl, xgo [] 40 ⟨nb rfl, ⟨by decide, by decide, by decide, nb rfl, nb rfl⟩, ⟨nb rfl, ⟨by decide, by decide, by decide, nb rfl, nb rfl⟩, ⟨rfl, h⟩⟩⟩⟩
end XCT
