/-! a crew: what may be done, what is done -/
def ush (x k : Int32) : Int32 := (x.toUInt32 >>> (k.toUInt32 &&& Int32.toUInt32 31)).toInt32
def bcA (x : Int32) : Int32 := x - (ush x 1 &&& 1431655765)
def bcB (a : Int32) : Int32 := (a &&& 858993459) + (ush a 2 &&& 858993459)
def bcC (b : Int32) : Int32 := (b + ush b 4) &&& 252645135
def bcD (c : Int32) : Int32 := c + ush c 8
def bcE (e : Int32) : Int32 := e + ush e 16
def bcnt (x : Int32) : Int32 := bcE (bcD (bcC (bcB (bcA x)))) &&& 63
abbrev TCrew.suck (c : TCrew) (lemon : Int32) (k : Nat) : TCrew := (c.rise, upd c.green k (mx 0 (c.green k - lemon)), c.place, c.sucked ||| (1 <<< (nI k &&& 31)), c.over)
abbrev TCrew.put (c : TCrew) (k : Nat) (p : Int32) : TCrew := (c.rise, c.green, upd c.place k p, c.sucked, c.over)
abbrev TCrew.wg (c : TCrew) (g : Fn) : TCrew := (c.rise, g, c.place, c.sucked, c.over)
abbrev canSt (s : TShip) (c : TCrew) (n : Nat) (man post : Int32) : Prop := (0 ≤ man ∧ man < s.men) ∧ (0 ≤ post ∧ post < s.posts) ∧ ¬ c.place man.toNatClampNeg = post ∧ bcnt (bset (fun o => decide (c.place o = post)) n) < s.holds post.toNatClampNeg
abbrev canBl (s : TShip) (c : TCrew) (man : Int32) : Prop := (0 ≤ man ∧ man < s.men) ∧ ¬ c.place man.toNatClampNeg = -1
abbrev canSk (s : TShip) (c : TCrew) (man : Int32) : Prop := (0 ≤ man ∧ man < s.men) ∧ ¬ bit c.sucked man
def fallG (g : Fn) (shade : Int32) (n k : Nat) : Fn := upd g k (mn 99 (g (bst g n).toNatClampNeg + shade))
def seaV (s : TShip) (x : Int32) : Int32 := if 0 < s.seas ∧ 0 ≤ x then s.sea (x - x / s.seas * s.seas).toNatClampNeg else 1
def swtV (s : TShip) (k : Nat) : Int32 := if s.kind k = 2 then 2 * s.hands k else s.hands k
def wetV (s : TShip) (p : Fn) (k : Nat) (w : Int32) : Int32 := if ¬ s.kind k = 1 ∧ 0 ≤ p k ∧ p k < s.posts then s.spray (p k).toNatClampNeg * w else 0
section XCS
variable {L : Nat} {xs : Nat → Int32} {d : Nat} {Q : XQt} {pn pc : Int32} {tok : TTok} {ship : TShip} {nn : Int64} {tl : Int32} {draft : TShip} {vd : TVoy} {log : TLog} {trial : TCrew} {sta : TSta} {says : Fn} {seed : Int64} {past : Nat → TCrew} {marks : Nat → TLog} {mi : TMi} {ma : TMa} {mb : TMb} {K : XWd}
theorem c_bitCount {w : XWd} {x : Int32} (h : Q (some (.int (bcnt x))) w) : XC (xF L xs) xmeths (d + 1) 83 [.int x] w Q := by
  refine ⟨nb rfl, xgo [] 50 ⟨nb rfl, nb rfl, nb rfl, nb rfl, nb rfl, h⟩⟩
theorem c_sweatOf {k : Nat} (hk : k < 6) (h : Q (some (.int (swtV ship k))) (clsW pn pc tok ship nn tl draft vd log trial sta says seed past marks K)) : XC (xF L xs) xmeths (d + 1) 100 [.ref 3, .int (nI k)] (clsW pn pc tok ship nn tl draft vd log trial sta says seed past marks K) Q := by
  refine ⟨nb rfl, xgo [] 20 ⟨vp_in_nI (by omega) (by omega), ?_⟩⟩
  rw [nI_clamp (by omega)]
  refine And.intro (fun (q : ¬ _ = (2 : Int32)) => ?_) (fun (q : ¬ ¬ _ = (2 : Int32)) => ?_)
  · refine ⟨vp_in_nI (by omega) (by omega), ?_⟩
    rw [swtV, if_neg q] at h
    rw [nI_clamp (by omega)]
    exact h
  · refine ⟨vp_in_nI (by omega) (by omega), ?_⟩
    rw [swtV, if_pos (Classical.not_not.mp q)] at h
    rw [nI_clamp (by omega)]
    exact h
theorem c_seaAt {t z : Nat} {x : Int32} (hx : x = nI t) (hz : ship.seas = nI z) (hz1 : 0 < z) (hz2 : z ≤ 12) (ht : t < 2 ^ 31) (h : Q (some (.int (ship.sea (t % z)))) (clsW pn pc tok ship nn tl draft vd log trial sta says seed past marks K)) : XC (xF L xs) xmeths (d + 1) 98 [.ref 3, .int x] (clsW pn pc tok ship nn tl draft vd log trial sta says seed past marks K) Q := by
  subst hx
  have hr := Nat.mod_lt t hz1
  refine ⟨nb rfl, xgo [] 20 ?_⟩
  refine vF (hz ▸ nI_nle hz1 (by omega)) ?_
  refine vF (nI_pos ht) ?_
  refine ⟨hz ▸ nI_ne0 hz1 (by omega), ?_⟩
  have e : nI t - nI t / ship.seas * ship.seas = nI (t % z) := by rw [hz]; exact pk_rem ht hz1 (by omega)
  rw [e]
  refine ⟨vp_in_nI (by omega) (by omega), ?_⟩
  rw [nI_clamp (by omega)]
  exact h
theorem c_hasSucked_40 {man : Int32} (h : Q (some (.int (b2i (bit log.crew.sucked man)))) (clsW pn pc tok ship nn tl draft vd log trial sta says seed past marks K)) : XC (xF L xs) xmeths (d + 1) 76 [.ref 40, .int man] (clsW pn pc tok ship nn tl draft vd log trial sta says seed past marks K) Q := by
  refine ⟨nb rfl, xgo [] 20 ?_⟩
  have h := vR h
  exact And.intro (fun (q : ¬ _ = _) => ⟨rfl, h.2 q⟩) (fun (q : ¬ ¬ _ = _) => ⟨rfl, h.1 (Classical.not_not.mp q)⟩)
theorem c_canSuck_40 {man : Int32} (h : Q (some (.int (b2i (canSk ship log.crew man)))) (clsW pn pc tok ship nn tl draft vd log trial sta says seed past marks K)) : XC (xF L xs) xmeths (d + 2) 91 [.ref 40, .int man] (clsW pn pc tok ship nn tl draft vd log trial sta says seed past marks K) Q := by
  refine ⟨nb rfl, xgo [] 20 ⟨rfl, nb rfl, c_isMan ?_⟩⟩
  have h := vR h
  refine vB0 (fun q => ⟨rfl, h.2 (fun z => q z.1)⟩) (fun q => ⟨rfl, nb rfl, c_hasSucked_40 ?_⟩)
  exact vB1 (fun q2 => ⟨rfl, h.2 (fun z => z.2 q2)⟩) (fun q2 => ⟨rfl, h.1 ⟨q, q2⟩⟩)
theorem c_suckLemon_40 {k : Nat} (hk : k < 6) (h0 : ¬ canSk ship log.crew (nI k) → Q (some (.int 0)) (clsW pn pc tok ship nn tl draft vd log trial sta says seed past marks K)) (h1 : canSk ship log.crew (nI k) → Q (some (.int 1)) (clsW pn pc tok ship nn tl draft vd (log.wcrew (log.crew.suck ship.lemon k)) trial sta says seed past marks K)) : XC (xF L xs) xmeths (d + 3) 92 [.ref 40, .int (nI k)] (clsW pn pc tok ship nn tl draft vd log trial sta says seed past marks K) Q := by
  refine ⟨nb rfl, xgo [] 40 ⟨rfl, nb rfl, c_canSuck_40 ?_⟩⟩
  refine vB1 (fun q => ?_) (fun q => ⟨rfl, h0 q⟩)
  have h1 := h1 q
  refine ⟨vp_in_nI (by omega) (by omega), nb rfl, vp_in_nI (by omega) (by omega), ?_⟩
  rw [nI_clamp (by omega)]
  exact ⟨rfl, h1⟩
theorem c_canGoBelow_40 {n : Nat} {man : Int32} (hn : n ≤ 6) (hm : ship.men = nI n) (h : Q (some (.int (b2i (canBl ship log.crew man)))) (clsW pn pc tok ship nn tl draft vd log trial sta says seed past marks K)) : XC (xF L xs) xmeths (d + 2) 88 [.ref 40, .int man] (clsW pn pc tok ship nn tl draft vd log trial sta says seed past marks K) Q := by
  refine ⟨nb rfl, xgo [] 20 ⟨rfl, nb rfl, c_isMan ?_⟩⟩
  have h := vR h
  refine vB0 (fun q => ⟨rfl, h.2 (fun z => q z.1)⟩) (fun q => ?_)
  rcases inI (by omega) (hm ▸ q) with ⟨k, hk, rfl⟩
  refine ⟨vp_in_nI (by omega) (by omega), ?_⟩
  exact And.intro (fun (q2 : _ = _) => ⟨rfl, h.2 (fun z => z.2 q2)⟩) (fun (q2 : ¬ _ = _) => ⟨rfl, h.1 ⟨q, q2⟩⟩)
theorem c_goBelow_40 {n : Nat} {man : Int32} (hn : n ≤ 6) (hm : ship.men = nI n) (h0 : ¬ canBl ship log.crew man → Q (some (.int 0)) (clsW pn pc tok ship nn tl draft vd log trial sta says seed past marks K)) (h1 : canBl ship log.crew man → Q (some (.int 1)) (clsW pn pc tok ship nn tl draft vd (log.wcrew (log.crew.put man.toNatClampNeg (-1))) trial sta says seed past marks K)) : XC (xF L xs) xmeths (d + 3) 89 [.ref 40, .int man] (clsW pn pc tok ship nn tl draft vd log trial sta says seed past marks K) Q := by
  refine ⟨nb rfl, xgo [] 40 ⟨rfl, nb rfl, c_canGoBelow_40 hn hm ?_⟩⟩
  refine vB1 (fun q => ?_) (fun q => ⟨rfl, h0 q⟩)
  have h1 := h1 q
  rcases inI (by omega) (hm ▸ q.1) with ⟨k, hk, rfl⟩
  exact ⟨vp_in_nI (by omega) (by omega), rfl, h1⟩
theorem c_canStand_40 {n p : Nat} {man post : Int32} (hn : n ≤ 6) (hm : ship.men = nI n) (hp : p ≤ 4) (hq : ship.posts = nI p) (h : Q (some (.int (b2i (canSt ship log.crew n man post)))) (clsW pn pc tok ship nn tl draft vd log trial sta says seed past marks K)) : XC (xF L xs) xmeths (d + 2) 82 [.ref 40, .int man, .int post] (clsW pn pc tok ship nn tl draft vd log trial sta says seed past marks K) Q := by
  refine ⟨nb rfl, xgo [] 30 ⟨rfl, nb rfl, c_isMan ?_⟩⟩
  have h := vR h
  refine vB0 (fun q => ⟨rfl, h.2 (fun z => q z.1)⟩) (fun q => ⟨rfl, nb rfl, c_isPost ?_⟩)
  refine vB0 (fun q2 => ⟨rfl, h.2 (fun z => q2 z.2.1)⟩) (fun q2 => ?_)
  rcases inI (by omega) (hm ▸ q) with ⟨k, hk, rfl⟩
  rcases inI (by omega) (hq ▸ q2) with ⟨b, hb, rfl⟩
  refine ⟨vp_in_nI (by omega) (by omega), ?_⟩
  refine And.intro (fun (q3 : _ = _) => ⟨rfl, h.2 (fun z => z.2.2.1 q3)⟩) (fun (q3 : ¬ _ = _) => ?_)
  refine ⟨rfl, nb rfl, c_standingAt_40 hn hm ?_⟩
  refine ⟨rfl, nb rfl, c_bitCount ?_⟩
  refine ⟨vp_in_nI (by omega) (by omega), ?_⟩
  exact And.intro (fun (q4 : _ ≤ _) => ⟨rfl, h.2 (fun z => absurd z.2.2.2 (Int32.not_lt.mpr q4))⟩) (fun (q4 : ¬ _ ≤ _) => ⟨rfl, h.1 ⟨q, q2, q3, Int32.not_le.mp q4⟩⟩)
theorem c_standAt_40 {n p : Nat} {man post : Int32} (hn : n ≤ 6) (hm : ship.men = nI n) (hp : p ≤ 4) (hq : ship.posts = nI p) (h0 : ¬ canSt ship log.crew n man post → Q (some (.int 0)) (clsW pn pc tok ship nn tl draft vd log trial sta says seed past marks K)) (h1 : canSt ship log.crew n man post → Q (some (.int 1)) (clsW pn pc tok ship nn tl draft vd (log.wcrew (log.crew.put man.toNatClampNeg post)) trial sta says seed past marks K)) : XC (xF L xs) xmeths (d + 3) 86 [.ref 40, .int man, .int post] (clsW pn pc tok ship nn tl draft vd log trial sta says seed past marks K) Q := by
  refine ⟨nb rfl, xgo [] 40 ⟨rfl, nb rfl, c_canStand_40 hn hm hp hq ?_⟩⟩
  refine vB1 (fun q => ?_) (fun q => ⟨rfl, h0 q⟩)
  have h1 := h1 q
  rcases inI (by omega) (hm ▸ q.1) with ⟨k, hk, rfl⟩
  exact ⟨vp_in_nI (by omega) (by omega), rfl, h1⟩
theorem c_fallIn_40 {n k : Nat} (hn : n ≤ 6) (hm : ship.men = nI n) (hk : k < n) (h : Q none (clsW pn pc tok ship nn tl draft vd (log.wcrew (log.crew.wg (fallG log.crew.green ship.shade n k))) trial sta says seed past marks K)) : XC (xF L xs) xmeths (d + 2) 94 [.ref 40, .int (nI k)] (clsW pn pc tok ship nn tl draft vd log trial sta says seed past marks K) Q := by
  refine ⟨nb rfl, xgo [] 40 ⟨rfl, nb rfl, c_greenest_40 hn hm ⟨nb rfl, ⟨rfl, nb rfl, c_isMan ?_⟩⟩⟩⟩
  refine vB0 (fun q => absurd ⟨nI_pos' (by omega), hm ▸ nI_lt hk (by omega)⟩ q) (fun _ => ?_)
  rcases bst_in log.crew.green n hn with ⟨rfl, b2⟩ | ⟨b, b1, b2⟩
  · omega
  · refine vF (b2 ▸ nIm1 (by omega)) ?_
    refine ⟨b2 ▸ vp_in_nI (by omega) (by omega), nb rfl, vp_in_nI (by omega) (by omega), ?_⟩
    rw [nI_clamp (by omega)]
    exact ⟨rfl, h⟩
theorem c_seaNow_40 {t z : Nat} (hz : ship.seas = nI z) (hz1 : 0 < z) (hz2 : z ≤ 12) (ht : t < 2 ^ 31) (hov : log.crew.over = nI t) (h : Q (some (.int (ship.sea (t % z)))) (clsW pn pc tok ship nn tl draft vd log trial sta says seed past marks K)) : XC (xF L xs) xmeths (d + 2) 97 [.ref 40] (clsW pn pc tok ship nn tl draft vd log trial sta says seed past marks K) Q := by
  exact ⟨nb rfl, xgo [] 20 ⟨rfl, nb rfl, c_seaAt hov hz hz1 hz2 ht h⟩⟩
theorem c_wetOf_40 {p k : Nat} {w : Int32} (hp : p ≤ 4) (hq : ship.posts = nI p) (hk : k < 6) (h : Q (some (.int (wetV ship log.crew.place k w))) (clsW pn pc tok ship nn tl draft vd log trial sta says seed past marks K)) : XC (xF L xs) xmeths (d + 2) 101 [.ref 40, .int (nI k), .int w] (clsW pn pc tok ship nn tl draft vd log trial sta says seed past marks K) Q := by
  refine ⟨nb rfl, xgo [] 40 ⟨vp_in_nI (by omega) (by omega), ?_⟩⟩
  have ek : (nI k).toNatClampNeg = k := nI_clamp (by omega)
  rw [ek]
  refine And.intro (fun (q : _ = _) => ?_) (fun (q : ¬ _ = _) => ?_)
  · refine ⟨nb rfl, vT rfl ?_⟩
    rw [wetV, if_neg (fun z => z.1 q)] at h
    exact h
  · refine ⟨vp_in_nI (by omega) (by omega), ⟨rfl, nb rfl, c_isPost ?_⟩⟩
    rw [ek]
    refine vB0 (fun q2 => ?_) (fun q2 => ?_)
    · refine ⟨nb rfl, vT rfl ?_⟩
      rw [wetV, if_neg (fun z => q2 z.2)] at h
      exact h
    · refine ⟨nb rfl, vF (show ¬ (1 : Int32) = 0 by decide) ?_⟩
      rw [wetV, if_pos ⟨q, q2⟩] at h
      rcases inI (by omega) (hq ▸ q2) with ⟨b, hb, eb⟩
      refine ⟨vp_in_nI (by omega) (by omega), ?_⟩
      rw [ek]
      refine ⟨eb ▸ vp_in_nI (by omega) (by omega), ?_⟩
      exact h
theorem c_hasSucked_44 {man : Int32} (h : Q (some (.int (b2i (bit trial.sucked man)))) (clsW pn pc tok ship nn tl draft vd log trial sta says seed past marks K)) : XC (xF L xs) xmeths (d + 1) 76 [.ref 44, .int man] (clsW pn pc tok ship nn tl draft vd log trial sta says seed past marks K) Q := by
  refine ⟨nb rfl, xgo [] 20 ?_⟩
  have h := vR h
  exact And.intro (fun (q : ¬ _ = _) => ⟨rfl, h.2 q⟩) (fun (q : ¬ ¬ _ = _) => ⟨rfl, h.1 (Classical.not_not.mp q)⟩)
theorem c_canSuck_44 {man : Int32} (h : Q (some (.int (b2i (canSk ship trial man)))) (clsW pn pc tok ship nn tl draft vd log trial sta says seed past marks K)) : XC (xF L xs) xmeths (d + 2) 91 [.ref 44, .int man] (clsW pn pc tok ship nn tl draft vd log trial sta says seed past marks K) Q := by
  refine ⟨nb rfl, xgo [] 20 ⟨rfl, nb rfl, c_isMan ?_⟩⟩
  have h := vR h
  refine vB0 (fun q => ⟨rfl, h.2 (fun z => q z.1)⟩) (fun q => ⟨rfl, nb rfl, c_hasSucked_44 ?_⟩)
  exact vB1 (fun q2 => ⟨rfl, h.2 (fun z => z.2 q2)⟩) (fun q2 => ⟨rfl, h.1 ⟨q, q2⟩⟩)
theorem c_suckLemon_44 {k : Nat} (hk : k < 6) (h0 : ¬ canSk ship trial (nI k) → Q (some (.int 0)) (clsW pn pc tok ship nn tl draft vd log trial sta says seed past marks K)) (h1 : canSk ship trial (nI k) → Q (some (.int 1)) (clsW pn pc tok ship nn tl draft vd log (trial.suck ship.lemon k) sta says seed past marks K)) : XC (xF L xs) xmeths (d + 3) 92 [.ref 44, .int (nI k)] (clsW pn pc tok ship nn tl draft vd log trial sta says seed past marks K) Q := by
  refine ⟨nb rfl, xgo [] 40 ⟨rfl, nb rfl, c_canSuck_44 ?_⟩⟩
  refine vB1 (fun q => ?_) (fun q => ⟨rfl, h0 q⟩)
  have h1 := h1 q
  refine ⟨vp_in_nI (by omega) (by omega), nb rfl, vp_in_nI (by omega) (by omega), ?_⟩
  rw [nI_clamp (by omega)]
  exact ⟨rfl, h1⟩
theorem c_canGoBelow_44 {n : Nat} {man : Int32} (hn : n ≤ 6) (hm : ship.men = nI n) (h : Q (some (.int (b2i (canBl ship trial man)))) (clsW pn pc tok ship nn tl draft vd log trial sta says seed past marks K)) : XC (xF L xs) xmeths (d + 2) 88 [.ref 44, .int man] (clsW pn pc tok ship nn tl draft vd log trial sta says seed past marks K) Q := by
  refine ⟨nb rfl, xgo [] 20 ⟨rfl, nb rfl, c_isMan ?_⟩⟩
  have h := vR h
  refine vB0 (fun q => ⟨rfl, h.2 (fun z => q z.1)⟩) (fun q => ?_)
  rcases inI (by omega) (hm ▸ q) with ⟨k, hk, rfl⟩
  refine ⟨vp_in_nI (by omega) (by omega), ?_⟩
  exact And.intro (fun (q2 : _ = _) => ⟨rfl, h.2 (fun z => z.2 q2)⟩) (fun (q2 : ¬ _ = _) => ⟨rfl, h.1 ⟨q, q2⟩⟩)
theorem c_goBelow_44 {n : Nat} {man : Int32} (hn : n ≤ 6) (hm : ship.men = nI n) (h0 : ¬ canBl ship trial man → Q (some (.int 0)) (clsW pn pc tok ship nn tl draft vd log trial sta says seed past marks K)) (h1 : canBl ship trial man → Q (some (.int 1)) (clsW pn pc tok ship nn tl draft vd log (trial.put man.toNatClampNeg (-1)) sta says seed past marks K)) : XC (xF L xs) xmeths (d + 3) 89 [.ref 44, .int man] (clsW pn pc tok ship nn tl draft vd log trial sta says seed past marks K) Q := by
  refine ⟨nb rfl, xgo [] 40 ⟨rfl, nb rfl, c_canGoBelow_44 hn hm ?_⟩⟩
  refine vB1 (fun q => ?_) (fun q => ⟨rfl, h0 q⟩)
  have h1 := h1 q
  rcases inI (by omega) (hm ▸ q.1) with ⟨k, hk, rfl⟩
  exact ⟨vp_in_nI (by omega) (by omega), rfl, h1⟩
theorem c_canStand_44 {n p : Nat} {man post : Int32} (hn : n ≤ 6) (hm : ship.men = nI n) (hp : p ≤ 4) (hq : ship.posts = nI p) (h : Q (some (.int (b2i (canSt ship trial n man post)))) (clsW pn pc tok ship nn tl draft vd log trial sta says seed past marks K)) : XC (xF L xs) xmeths (d + 2) 82 [.ref 44, .int man, .int post] (clsW pn pc tok ship nn tl draft vd log trial sta says seed past marks K) Q := by
  refine ⟨nb rfl, xgo [] 30 ⟨rfl, nb rfl, c_isMan ?_⟩⟩
  have h := vR h
  refine vB0 (fun q => ⟨rfl, h.2 (fun z => q z.1)⟩) (fun q => ⟨rfl, nb rfl, c_isPost ?_⟩)
  refine vB0 (fun q2 => ⟨rfl, h.2 (fun z => q2 z.2.1)⟩) (fun q2 => ?_)
  rcases inI (by omega) (hm ▸ q) with ⟨k, hk, rfl⟩
  rcases inI (by omega) (hq ▸ q2) with ⟨b, hb, rfl⟩
  refine ⟨vp_in_nI (by omega) (by omega), ?_⟩
  refine And.intro (fun (q3 : _ = _) => ⟨rfl, h.2 (fun z => z.2.2.1 q3)⟩) (fun (q3 : ¬ _ = _) => ?_)
  refine ⟨rfl, nb rfl, c_standingAt_44 hn hm ?_⟩
  refine ⟨rfl, nb rfl, c_bitCount ?_⟩
  refine ⟨vp_in_nI (by omega) (by omega), ?_⟩
  exact And.intro (fun (q4 : _ ≤ _) => ⟨rfl, h.2 (fun z => absurd z.2.2.2 (Int32.not_lt.mpr q4))⟩) (fun (q4 : ¬ _ ≤ _) => ⟨rfl, h.1 ⟨q, q2, q3, Int32.not_le.mp q4⟩⟩)
theorem c_standAt_44 {n p : Nat} {man post : Int32} (hn : n ≤ 6) (hm : ship.men = nI n) (hp : p ≤ 4) (hq : ship.posts = nI p) (h0 : ¬ canSt ship trial n man post → Q (some (.int 0)) (clsW pn pc tok ship nn tl draft vd log trial sta says seed past marks K)) (h1 : canSt ship trial n man post → Q (some (.int 1)) (clsW pn pc tok ship nn tl draft vd log (trial.put man.toNatClampNeg post) sta says seed past marks K)) : XC (xF L xs) xmeths (d + 3) 86 [.ref 44, .int man, .int post] (clsW pn pc tok ship nn tl draft vd log trial sta says seed past marks K) Q := by
  refine ⟨nb rfl, xgo [] 40 ⟨rfl, nb rfl, c_canStand_44 hn hm hp hq ?_⟩⟩
  refine vB1 (fun q => ?_) (fun q => ⟨rfl, h0 q⟩)
  have h1 := h1 q
  rcases inI (by omega) (hm ▸ q.1) with ⟨k, hk, rfl⟩
  exact ⟨vp_in_nI (by omega) (by omega), rfl, h1⟩
theorem c_fallIn_44 {n k : Nat} (hn : n ≤ 6) (hm : ship.men = nI n) (hk : k < n) (h : Q none (clsW pn pc tok ship nn tl draft vd log (trial.wg (fallG trial.green ship.shade n k)) sta says seed past marks K)) : XC (xF L xs) xmeths (d + 2) 94 [.ref 44, .int (nI k)] (clsW pn pc tok ship nn tl draft vd log trial sta says seed past marks K) Q := by
  refine ⟨nb rfl, xgo [] 40 ⟨rfl, nb rfl, c_greenest_44 hn hm ⟨nb rfl, ⟨rfl, nb rfl, c_isMan ?_⟩⟩⟩⟩
  refine vB0 (fun q => absurd ⟨nI_pos' (by omega), hm ▸ nI_lt hk (by omega)⟩ q) (fun _ => ?_)
  rcases bst_in trial.green n hn with ⟨rfl, b2⟩ | ⟨b, b1, b2⟩
  · omega
  · refine vF (b2 ▸ nIm1 (by omega)) ?_
    refine ⟨b2 ▸ vp_in_nI (by omega) (by omega), nb rfl, vp_in_nI (by omega) (by omega), ?_⟩
    rw [nI_clamp (by omega)]
    exact ⟨rfl, h⟩
theorem c_seaNow_44 {t z : Nat} (hz : ship.seas = nI z) (hz1 : 0 < z) (hz2 : z ≤ 12) (ht : t < 2 ^ 31) (hov : trial.over = nI t) (h : Q (some (.int (ship.sea (t % z)))) (clsW pn pc tok ship nn tl draft vd log trial sta says seed past marks K)) : XC (xF L xs) xmeths (d + 2) 97 [.ref 44] (clsW pn pc tok ship nn tl draft vd log trial sta says seed past marks K) Q := by
  exact ⟨nb rfl, xgo [] 20 ⟨rfl, nb rfl, c_seaAt hov hz hz1 hz2 ht h⟩⟩
theorem c_wetOf_44 {p k : Nat} {w : Int32} (hp : p ≤ 4) (hq : ship.posts = nI p) (hk : k < 6) (h : Q (some (.int (wetV ship trial.place k w))) (clsW pn pc tok ship nn tl draft vd log trial sta says seed past marks K)) : XC (xF L xs) xmeths (d + 2) 101 [.ref 44, .int (nI k), .int w] (clsW pn pc tok ship nn tl draft vd log trial sta says seed past marks K) Q := by
  refine ⟨nb rfl, xgo [] 40 ⟨vp_in_nI (by omega) (by omega), ?_⟩⟩
  have ek : (nI k).toNatClampNeg = k := nI_clamp (by omega)
  rw [ek]
  refine And.intro (fun (q : _ = _) => ?_) (fun (q : ¬ _ = _) => ?_)
  · refine ⟨nb rfl, vT rfl ?_⟩
    rw [wetV, if_neg (fun z => z.1 q)] at h
    exact h
  · refine ⟨vp_in_nI (by omega) (by omega), ⟨rfl, nb rfl, c_isPost ?_⟩⟩
    rw [ek]
    refine vB0 (fun q2 => ?_) (fun q2 => ?_)
    · refine ⟨nb rfl, vT rfl ?_⟩
      rw [wetV, if_neg (fun z => q2 z.2)] at h
      exact h
    · refine ⟨nb rfl, vF (show ¬ (1 : Int32) = 0 by decide) ?_⟩
      rw [wetV, if_pos ⟨q, q2⟩] at h
      rcases inI (by omega) (hq ▸ q2) with ⟨b, hb, eb⟩
      refine ⟨vp_in_nI (by omega) (by omega), ?_⟩
      rw [ek]
      refine ⟨eb ▸ vp_in_nI (by omega) (by omega), ?_⟩
      exact h

end XCS
