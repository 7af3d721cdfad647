/-! tokens -/
def rnE (P : Nat → Bool) : Nat → Nat → Nat
  | 0, i => i
  | m + 1, i => if P i then rnE P m (i + 1) else i
theorem rnE_le {P : Nat → Bool} : ∀ m i, i ≤ rnE P m i ∧ rnE P m i ≤ i + m
  | 0, i => ⟨Nat.le_refl _, Nat.le_refl _⟩
  | m + 1, i => by
    have := rnE_le (P := P) m (i + 1)
    rw [rnE]
    split <;> omega
theorem rnE_in {P : Nat → Bool} : ∀ m i k, i ≤ k → k < rnE P m i → P k = true
  | 0, i, k, h1, h2 => absurd h2 (by simp only [rnE]; omega)
  | m + 1, i, k, h1, h2 => by
    rw [rnE] at h2
    split at h2
    · rename_i q
      rcases Nat.lt_or_ge i k with y | y
      · exact rnE_in m (i + 1) k y h2
      · have e : k = i := by omega
        rw [e]; exact q
    · omega
theorem rnE_out {P : Nat → Bool} : ∀ m i, rnE P m i < i + m → P (rnE P m i) = false
  | 0, i, h => absurd h (by simp only [rnE]; omega)
  | m + 1, i, h => by
    rw [rnE] at h ⊢
    split
    · rename_i q
      rw [if_pos q] at h
      exact rnE_out m (i + 1) (by omega)
    · rename_i q
      simpa using q
abbrev wsN (c : Nat) : Prop := c = 10 ∨ c = 32
abbrev ltN (c : Nat) : Prop := 97 ≤ c ∧ c ≤ 122
abbrev dgN (c : Nat) : Prop := 48 ≤ c ∧ c ≤ 57
abbrev sgN (c : Nat) : Prop := (40 ≤ c ∧ c ≤ 43) ∨ c = 45 ∨ (59 ≤ c ∧ c ≤ 61)
def numN (C : Nat → Nat) (o : Nat) : Nat → Nat
  | 0 => 0
  | j + 1 => numN C o j * 10 + (C (o + j) - 48)
def tkS (C : Nat → Nat) (l p : Nat) : Nat := rnE (fun k => decide (wsN (C k))) (l - p) p
def tkE (C : Nat → Nat) (l s : Nat) : Nat := if l ≤ s then s else if ltN (C s) then rnE (fun k => decide (ltN (C k))) (l - s) s else if dgN (C s) then rnE (fun k => decide (dgN (C k))) (l - s) s else s + 1
def tkK (C : Nat → Nat) (l s : Nat) : Nat := if l ≤ s then 0 else if ltN (C s) then (if tkE C l s - s ≤ 8 then 1 else 4) else if dgN (C s) then (if tkE C l s - s ≤ 4 then 2 else 4) else if sgN (C s) then 3 else 4
theorem tkS_le {C : Nat → Nat} {l p : Nat} (h : p ≤ l) : p ≤ tkS C l p ∧ tkS C l p ≤ l := by
  have := rnE_le (P := fun k => decide (wsN (C k))) (l - p) p
  simp only [tkS]
  omega
theorem tkE_le {C : Nat → Nat} {l s : Nat} (h : s ≤ l) : s ≤ tkE C l s ∧ tkE C l s ≤ l ∧ (s < l → s < tkE C l s) := by
  simp only [tkE]
  split
  · omega
  · rename_i q
    have step : ∀ P : Nat → Bool, P s = true → s < rnE P (l - s) s ∧ rnE P (l - s) s ≤ l := by
      intro P hP
      obtain ⟨m, hm⟩ : ∃ m, l - s = m + 1 := ⟨l - s - 1, by omega⟩
      rw [hm, rnE, if_pos hP]
      have := rnE_le (P := P) m (s + 1)
      omega
    split
    · rename_i q2
      have := step (fun k => decide (ltN (C k))) (decide_eq_true q2)
      omega
    · split
      · rename_i q2
        have := step (fun k => decide (dgN (C k))) (decide_eq_true q2)
        omega
      · omega
/-- the next token's start -/
def tkX (C : Nat → Nat) (l s : Nat) : Nat := tkS C l (tkE C l s)
abbrev RpC (T : Fn) (C : Nat → Nat) (l : Nat) : Prop := ∀ k, k < l → T k = nI (C k) ∧ C k < 128
abbrev TkR (t : TTok) (T : Fn) (C : Nat → Nat) (l s : Nat) : Prop := (t.signs = T) ∧ (t.length = nI l) ∧ (t.kind = nI (tkK C l s)) ∧ (t.start = nI s) ∧ (t.next = nI (tkE C l s)) ∧ (tkK C l s = 1 → t.name = lN (wrd C s (tkE C l s - s))) ∧ (tkK C l s = 2 → t.number = nI (numN C s (tkE C l s - s)))
theorem TkR.signs {t : TTok} {T : Fn} {C : Nat → Nat} {l s : Nat} (h : TkR t T C l s) : t.signs = T := h.1
theorem TkR.length {t : TTok} {T : Fn} {C : Nat → Nat} {l s : Nat} (h : TkR t T C l s) : t.length = nI l := h.2.1
theorem TkR.kind {t : TTok} {T : Fn} {C : Nat → Nat} {l s : Nat} (h : TkR t T C l s) : t.kind = nI (tkK C l s) := h.2.2.1
theorem TkR.start {t : TTok} {T : Fn} {C : Nat → Nat} {l s : Nat} (h : TkR t T C l s) : t.start = nI s := h.2.2.2.1
theorem TkR.next {t : TTok} {T : Fn} {C : Nat → Nat} {l s : Nat} (h : TkR t T C l s) : t.next = nI (tkE C l s) := h.2.2.2.2.1
theorem TkR.name {t : TTok} {T : Fn} {C : Nat → Nat} {l s : Nat} (h : TkR t T C l s) : tkK C l s = 1 → t.name = lN (wrd C s (tkE C l s - s)) := h.2.2.2.2.2.1
theorem TkR.number {t : TTok} {T : Fn} {C : Nat → Nat} {l s : Nat} (h : TkR t T C l s) : tkK C l s = 2 → t.number = nI (numN C s (tkE C l s - s)) := h.2.2.2.2.2.2
section XTK
variable {L : Nat} {xs : Nat → Int32} {d : Nat} {Q : XQt} {pn pc : Int32} {tok : TTok} {ship : TShip} {nn : Int64} {tl : Int32} {draft : TShip} {vd : TVoy} {log : TLog} {trial : TCrew} {sta : TSta} {says : Fn} {seed : Int64} {past : Nat → TCrew} {marks : Nat → TLog} {K : XWd}
variable {C : Nat → Nat} {l s : Nat} {T : Fn}
theorem c_readWord {ta : Int32} {na : Int64} {nu fa ki : Int32} (rp : RpC T C l) (l1 : l ≤ 1000) (hs : s < l) (h : ∀ nm : Int64, nm = lN (wrd C s (rnE (fun k => decide (ltN (C k))) (l - s) s - s)) → Q none (clsW pn pc (T, nI (if rnE (fun k => decide (ltN (C k))) (l - s) s - s ≤ 8 then 1 else 4), nI s, nI (rnE (fun k => decide (ltN (C k))) (l - s) s), nI l, nu, ta, nm, fa) ship nn tl draft vd log trial sta says seed past marks K)) : XC (xF L xs) xmeths (d + 1) 24 [.ref 1] (clsW pn pc (T, ki, nI s, nI s, nI l, nu, ta, na, fa) ship nn tl draft vd log trial sta says seed past marks K) Q := by
  refine ⟨nb rfl, xgo [3] 20 ?_⟩
  have key : ∀ m i, i + m = l → s ≤ i → rnE (fun k => decide (ltN (C k))) (l - s) s = rnE (fun k => decide (ltN (C k))) m i → XWp (xF L xs) none xP24 (XC (xF L xs) xmeths d) Q 3 [orf 1] [] (clsW pn pc (T, ki, nI s, nI i, nI l, nu, ta, lN (wrd C s (i - s)), fa) ship nn tl draft vd log trial sta says seed past marks K) := by
    intro m
    induction m with
    | zero =>
      intro i him hsi hE
      rw [rnE] at hE
      have fin := h (lN (wrd C s (i - s))) (by rw [hE])
      rw [hE] at fin
      refine xgo [46, 57] 40 ?_
      refine pk_le l i (fun _ => ?_) (fun y => by omega) rfl rfl (by omega) (by omega)
      have e : nI i - nI s = nI (i - s) := pk_sub hsi
      refine xgo [57] 40 ?_
      refine pk_lt 8 (i - s) (fun q => ?_) (fun q => ?_) rfl e (by omega) (by omega)
      · rw [if_neg (by omega)] at fin
        exact xgo [] 20 ⟨rfl, fin⟩
      · rw [if_pos (by omega)] at fin
        exact xgo [] 20 ⟨rfl, fin⟩
    | succ m ih =>
      intro i him hsi hE
      have ⟨eT, h128⟩ := rp i (by omega)
      have out : ¬ ltN (C i) → XWp (xF L xs) none xP24 (XC (xF L xs) xmeths d) Q 46 [orf 1] [] (clsW pn pc (T, ki, nI s, nI i, nI l, nu, ta, lN (wrd C s (i - s)), fa) ship nn tl draft vd log trial sta says seed past marks K) := by
        intro y
        rw [rnE, if_neg (by simpa using y)] at hE
        have fin := h (lN (wrd C s (i - s))) (by rw [hE])
        rw [hE] at fin
        have e : nI i - nI s = nI (i - s) := pk_sub hsi
        refine xgo [57] 40 ?_
        refine pk_lt 8 (i - s) (fun q => ?_) (fun q => ?_) rfl e (by omega) (by omega)
        · rw [if_neg (by omega)] at fin
          exact xgo [] 20 ⟨rfl, fin⟩
        · rw [if_pos (by omega)] at fin
          exact xgo [] 20 ⟨rfl, fin⟩
      refine xgo [3, 46] 60 ?_
      refine pk_le l i (fun y => by omega) (fun _ => ?_) rfl rfl (by omega) (by omega)
      refine ⟨vp_in_nI (by omega) (by omega), ?_⟩
      rw [nI_clamp (by omega)]
      refine pk_lt (C i) 97 (fun q => out (fun y => by omega)) (fun q => ?_) eT rfl (by omega) (by omega)
      refine ⟨vp_in_nI (by omega) (by omega), ?_⟩
      rw [nI_clamp (by omega)]
      refine pk_lt 122 (C i) (fun q2 => out (fun y => by omega)) (fun q2 => ?_) rfl eT (by omega) (by omega)
      refine ⟨vp_in_nI (by omega) (by omega), ?_⟩
      rw [nI_clamp (by omega)]
      have en : lN (wrd C s (i - s)) * Int64.ofNat 27 + (T i).toInt64 - Int64.ofNat 97 + Int64.ofNat 1 = lN (wrd C s (i + 1 - s)) := by
        rw [eT, nI_l (by omega), show Int64.ofNat 27 = lN 27 from rfl, show Int64.ofNat 97 = lN 97 from rfl, show Int64.ofNat 1 = lN 1 from rfl, lN_mul, lN_add, lN_sub (by omega), lN_add, show i + 1 - s = (i - s) + 1 by omega, wrd, show s + (i - s) = i by omega]
        congr 1
        omega
      have ih := ih (i + 1) (by omega) (by omega) (by rw [hE, rnE, if_pos (by simpa using ⟨q, q2⟩)])
      rw [← en, nI_succ] at ih
      exact ih
  have k0 := key (l - s) s (by omega) (Nat.le_refl s) rfl
  rw [Nat.sub_self] at k0
  exact k0
theorem c_readNumber {ta : Int32} {na : Int64} {nu fa ki : Int32} (rp : RpC T C l) (l1 : l ≤ 1000) (hs : s < l) (h : ∀ nm : Int32, nm = nI (numN C s (rnE (fun k => decide (dgN (C k))) (l - s) s - s)) → Q none (clsW pn pc (T, nI (if rnE (fun k => decide (dgN (C k))) (l - s) s - s ≤ 4 then 2 else 4), nI s, nI (rnE (fun k => decide (dgN (C k))) (l - s) s), nI l, nm, ta, na, fa) ship nn tl draft vd log trial sta says seed past marks K)) : XC (xF L xs) xmeths (d + 1) 25 [.ref 1] (clsW pn pc (T, ki, nI s, nI s, nI l, nu, ta, na, fa) ship nn tl draft vd log trial sta says seed past marks K) Q := by
  refine ⟨nb rfl, xgo [3] 20 ?_⟩
  have fin43 : ∀ i, s ≤ i → i ≤ l → rnE (fun k => decide (dgN (C k))) (l - s) s = i → XWp (xF L xs) none xP25 (XC (xF L xs) xmeths d) Q 43 [orf 1] [] (clsW pn pc (T, ki, nI s, nI i, nI l, nI (numN C s (i - s)), ta, na, fa) ship nn tl draft vd log trial sta says seed past marks K) := by
    intro i hsi hil hE
    have fin := h (nI (numN C s (i - s))) (by rw [hE])
    rw [hE] at fin
    have e : nI i - nI s = nI (i - s) := pk_sub hsi
    refine xgo [54] 40 ?_
    refine pk_lt 4 (i - s) (fun q => ?_) (fun q => ?_) rfl e (by omega) (by omega)
    · rw [if_neg (by omega)] at fin
      exact xgo [] 20 ⟨rfl, fin⟩
    · rw [if_pos (by omega)] at fin
      exact xgo [] 20 ⟨rfl, fin⟩
  have key : ∀ m i, i + m = l → s ≤ i → rnE (fun k => decide (dgN (C k))) (l - s) s = rnE (fun k => decide (dgN (C k))) m i → XWp (xF L xs) none xP25 (XC (xF L xs) xmeths d) Q 3 [orf 1] [] (clsW pn pc (T, ki, nI s, nI i, nI l, nI (numN C s (i - s)), ta, na, fa) ship nn tl draft vd log trial sta says seed past marks K) := by
    intro m
    induction m with
    | zero =>
      intro i him hsi hE
      rw [rnE] at hE
      refine xgo [43] 40 ?_
      exact pk_le l i (fun _ => fin43 i hsi (by omega) hE) (fun y => by omega) rfl rfl (by omega) (by omega)
    | succ m ih =>
      intro i him hsi hE
      have ⟨eT, h128⟩ := rp i (by omega)
      have out : ¬ dgN (C i) → XWp (xF L xs) none xP25 (XC (xF L xs) xmeths d) Q 43 [orf 1] [] (clsW pn pc (T, ki, nI s, nI i, nI l, nI (numN C s (i - s)), ta, na, fa) ship nn tl draft vd log trial sta says seed past marks K) := by
        intro y
        rw [rnE, if_neg (by simpa using y)] at hE
        exact fin43 i hsi (by omega) hE
      refine xgo [3, 43] 60 ?_
      refine pk_le l i (fun y => by omega) (fun _ => ?_) rfl rfl (by omega) (by omega)
      refine ⟨vp_in_nI (by omega) (by omega), ?_⟩
      rw [nI_clamp (by omega)]
      refine pk_lt (C i) 48 (fun q => out (fun y => by omega)) (fun q => ?_) eT rfl (by omega) (by omega)
      refine ⟨vp_in_nI (by omega) (by omega), ?_⟩
      rw [nI_clamp (by omega)]
      refine pk_lt 57 (C i) (fun q2 => out (fun y => by omega)) (fun q2 => ?_) rfl eT (by omega) (by omega)
      refine ⟨vp_in_nI (by omega) (by omega), ?_⟩
      rw [nI_clamp (by omega)]
      have en : nI (numN C s (i - s)) * Int32.ofInt 10 + T i - Int32.ofInt 48 = nI (numN C s (i + 1 - s)) := by
        rw [eT, show Int32.ofInt 10 = nI 10 from rfl, show Int32.ofInt 48 = nI 48 from rfl, pk_mul, nI_add, pk_sub (by omega), show i + 1 - s = (i - s) + 1 by omega, numN, show s + (i - s) = i by omega]
        congr 1
        omega
      have ih := ih (i + 1) (by omega) (by omega) (by rw [hE, rnE, if_pos (by simpa using ⟨q, q2⟩)])
      rw [← en, nI_succ] at ih
      exact ih
  have k0 := key (l - s) s (by omega) (Nat.le_refl s) rfl
  rw [Nat.sub_self] at k0
  exact k0
theorem c_advance {pp : Nat} {ta : Int32} {na : Int64} {nu fa ki sa : Int32} (hK : K.length < 700000) (rp : RpC T C l) (l1 : l ≤ 1000) (hp : pp ≤ l) (h : ∀ tok : TTok, TkR tok T C l (tkS C l pp) → tok.fault = fa → tok.taken = ta → Q none (clsW pn pc tok ship nn tl draft vd log trial sta says seed past marks K)) : XC (xF L xs) xmeths (d + 6) 23 [.ref 1] (clsW pn pc (T, ki, sa, nI pp, nI l, nu, ta, na, fa) ship nn tl draft vd log trial sta says seed past marks K) Q := by
  refine ⟨nb rfl, ?_⟩
  have hlen : ∀ tok : TTok, (clsW pn pc tok ship nn tl draft vd log trial sta says seed past marks K).length < 1000000 := by
    intro tok
    have e := congrArg List.length (clsW_app (pn := pn) (pc := pc) (tok := tok) (ship := ship) (nn := nn) (tl := tl) (draft := draft) (vd := vd) (log := log) (trial := trial) (sta := sta) (says := says) (seed := seed) (past := past) (marks := marks) (K := K))
    rw [List.length_append, clsW_len] at e
    rw [e]
    omega
  have fin : ∀ s, s ≤ l → tkS C l pp = s → XWp (xF L xs) none xP23 (XC (xF L xs) xmeths (d + 5)) Q 26 [orf 1] [] (clsW pn pc (T, ki, sa, nI s, nI l, nu, ta, na, fa) ship nn tl draft vd log trial sta says seed past marks K) := by
    intro s hsl hS
    rw [hS] at h
    refine xgo [56, 81, 86] 60 ?_
    refine pk_lt s l (fun q => ?_) (fun q => ?_) rfl rfl (by omega) (by omega)
    · have ⟨eT, h128⟩ := rp s q
      have a73 : ¬ ltN (C s) → ¬ dgN (C s) → XWp (xF L xs) none xP23 (XC (xF L xs) xmeths (d + 5)) Q 73 [orf 1] [] (clsW pn pc (T, ki, nI s, nI s, nI l, nu, ta, na, fa) ship nn tl draft vd log trial sta says seed past marks K) := by
        intro y1 y2
        have eE : tkE C l s = s + 1 := by rw [tkE, if_neg (by omega), if_neg y1, if_neg y2]
        have eK : tkK C l s = if sgN (C s) then 3 else 4 := by rw [tkK, if_neg (by omega), if_neg y1, if_neg y2]
        have eC : ∀ c, c < 128 → ((nI c).toUInt32 % 65536).toInt32 = nI c := by decide +kernel
        have a86 : ∀ kd : Nat, kd = tkK C l s → XWp (xF L xs) none xP23 (XC (xF L xs) xmeths (d + 5)) Q 86 [orf 1] [.int (nI kd), .ref 1] (clsW pn pc (T, ki, nI s, nI s, nI l, nu, ta, na, fa) ship nn tl draft vd log trial sta says seed past marks K) := by
          intro kd hkd
          have hk34 : tkK C l s = 3 ∨ tkK C l s = 4 := by rw [eK]; split <;> omega
          have fin := h (T, nI kd, nI s, nI s + 1, nI l, nu, ta, na, fa) ⟨rfl, rfl, by rw [hkd], rfl, by rw [eE, nI_succ], fun z => by omega, fun z => by omega⟩ rfl rfl
          exact xgo [] 20 ⟨rfl, fin⟩
        refine xgo [81] 40 ⟨vp_in_nI (by omega) (by omega), ?_⟩
        rw [nI_clamp (by omega)]
        suffices a81 : ∀ x, x = nI (C s) → XWp (xF L xs) none xP23 (XC (xF L xs) xmeths (d + 5)) Q 81 [orf 1] [.int x,   .ref (xSTR + 0), .ref 1] (clsW pn pc (T, ki, nI s, nI s, nI l, nu, ta, na, fa) ship nn tl draft vd log trial sta says seed past marks K) from a81 _ (by rw [show TTok.signs (T, ki, nI s, nI s, nI l, nu, ta, na, fa) s = T s from rfl, eT, eC _ h128])
        intro x hx
        subst hx
        refine xg_inv (as := [.int (nI (C s))]) (n := 0) (b := [40, 41, 60, 61, 43, 45, 42, 59]) rfl rfl (hlen _) rfl rfl rfl rfl (nb rfl) ?_
        refine c_indexOf (hlen _) rfl h128 (fun r hr => ?_)
        refine xgo [86] 20 ?_
        refine And.intro (fun (z : r < 0) => ?_) (fun (z : ¬ r < 0) => ?_)
        · exact a86 4 (by rw [eK, if_neg (fun w : sgN (C s) => absurd z (Int32.not_lt.mpr (hr.mpr w)))])
        · exact a86 3 (by rw [eK, if_pos (show sgN (C s) from hr.mp (Int32.not_lt.mp z))])
      have a56 : ¬ ltN (C s) → XWp (xF L xs) none xP23 (XC (xF L xs) xmeths (d + 5)) Q 56 [orf 1] [] (clsW pn pc (T, ki, nI s, nI s, nI l, nu, ta, na, fa) ship nn tl draft vd log trial sta says seed past marks K) := by
        intro y1
        refine xgo [73] 40 ⟨vp_in_nI (by omega) (by omega), ?_⟩
        rw [nI_clamp (by omega)]
        refine pk_lt (C s) 48 (fun q2 => a73 y1 (fun y => by omega)) (fun q2 => ?_) eT rfl (by omega) (by omega)
        refine ⟨vp_in_nI (by omega) (by omega), ?_⟩
        rw [nI_clamp (by omega)]
        refine pk_lt 57 (C s) (fun q3 => a73 y1 (fun y => by omega)) (fun q3 => ?_) rfl eT (by omega) (by omega)
        have y2 : dgN (C s) := ⟨q2, q3⟩
        have eE : tkE C l s = rnE (fun k => decide (dgN (C k))) (l - s) s := by rw [tkE, if_neg (by omega), if_neg y1, if_pos y2]
        have eK : tkK C l s = if rnE (fun k => decide (dgN (C k))) (l - s) s - s ≤ 4 then 2 else 4 := by rw [tkK, if_neg (by omega), if_neg y1, if_pos y2, eE]
        refine ⟨rfl, nb rfl, c_readNumber rp l1 q (fun nm hnm => ⟨rfl, ?_⟩)⟩
        refine h _ ⟨rfl, rfl, by rw [eK], rfl, by rw [eE], fun z => ?_, fun _ => by rw [eE]; exact hnm⟩ rfl rfl
        rw [eK] at z
        split at z <;> omega
      refine ⟨vp_in_nI (by omega) (by omega), ?_⟩
      rw [nI_clamp (by omega)]
      refine pk_lt (C s) 97 (fun q2 => a56 (fun y => by omega)) (fun q2 => ?_) eT rfl (by omega) (by omega)
      refine ⟨vp_in_nI (by omega) (by omega), ?_⟩
      rw [nI_clamp (by omega)]
      refine pk_lt 122 (C s) (fun q3 => a56 (fun y => by omega)) (fun q3 => ?_) rfl eT (by omega) (by omega)
      have y : ltN (C s) := ⟨q2, q3⟩
      have eE : tkE C l s = rnE (fun k => decide (ltN (C k))) (l - s) s := by rw [tkE, if_neg (by omega), if_pos y]
      have eK : tkK C l s = if rnE (fun k => decide (ltN (C k))) (l - s) s - s ≤ 8 then 1 else 4 := by rw [tkK, if_neg (by omega), if_pos y, eE]
      refine ⟨rfl, nb rfl, c_readWord rp l1 q (fun nm hnm => ⟨rfl, ?_⟩)⟩
      refine h _ ⟨rfl, rfl, by rw [eK], rfl, by rw [eE], fun _ => by rw [eE]; exact hnm, fun z => ?_⟩ rfl rfl
      rw [eK] at z
      split at z <;> omega
    · have eE : tkE C l s = s := by rw [tkE, if_pos (by omega)]
      have eK : tkK C l s = 0 := by rw [tkK, if_pos (by omega)]
      exact ⟨rfl, h (T, 0, nI s, nI s, nI l, nu, ta, na, fa) ⟨rfl, rfl, by rw [eK]; rfl, rfl, by rw [eE], fun z => by omega, fun z => by omega⟩ rfl rfl⟩
  have key : ∀ m i, i + m = l → tkS C l pp = rnE (fun k => decide (wsN (C k))) m i → XWp (xF L xs) none xP23 (XC (xF L xs) xmeths (d + 5)) Q 0 [orf 1] [] (clsW pn pc (T, ki, sa, nI i, nI l, nu, ta, na, fa) ship nn tl draft vd log trial sta says seed past marks K) := by
    intro m
    induction m with
    | zero =>
      intro i him hS
      rw [rnE] at hS
      refine xgo [26] 40 ?_
      exact pk_le l i (fun _ => fin i (by omega) hS) (fun y => by omega) rfl rfl (by omega) (by omega)
    | succ m ih =>
      intro i him hS
      have ⟨eT, h128⟩ := rp i (by omega)
      have a19 : wsN (C i) → XWp (xF L xs) none xP23 (XC (xF L xs) xmeths (d + 5)) Q 19 [orf 1] [] (clsW pn pc (T, ki, sa, nI i, nI l, nu, ta, na, fa) ship nn tl draft vd log trial sta says seed past marks K) := by
        intro y
        have ih := ih (i + 1) (by omega) (by rw [hS, rnE, if_pos (by simpa using y)])
        rw [nI_succ] at ih
        exact xgo [0] 20 ih
      refine xgo [0, 19, 26] 60 ?_
      refine pk_le l i (fun y => by omega) (fun _ => ?_) rfl rfl (by omega) (by omega)
      refine ⟨vp_in_nI (by omega) (by omega), ?_⟩
      rw [nI_clamp (by omega)]
      refine pk_eq (C i) 10 (fun q => a19 (Or.inl q)) (fun q => ?_) eT rfl (by omega) (by omega)
      refine ⟨vp_in_nI (by omega) (by omega), ?_⟩
      rw [nI_clamp (by omega)]
      refine pk_ne (C i) 32 (fun q2 => ?_) (fun q2 => a19 (Or.inr q2)) eT rfl (by omega) (by omega)
      rw [rnE, if_neg (by simp only [decide_eq_true_eq]; exact fun y => y.elim q q2)] at hS
      exact fin i (by omega) hS
  exact key (l - pp) pp (by omega) rfl
end XTK
