/-! the class: what is asked of a token, what is taken -/
abbrev wdV (C : Nat → Nat) (l s : Nat) : Nat := wrd C s (tkE C l s - s)
abbrev nmV (C : Nat → Nat) (l s : Nat) : Nat := numN C s (tkE C l s - s)
abbrev isG (C : Nat → Nat) (l s c : Nat) : Prop := tkK C l s = 3 ∧ C s = c
abbrev isW (C : Nat → Nat) (l s v : Nat) : Prop := tkK C l s = 1 ∧ wdV C l s = v
def vl1 : List Nat := [9518, 326396, 13987, 10255685, 6485603, 3123329643, 110110744]
def vl2 : List Nat := [9518, 4078175, 4281544, 326396, 10425481, 4555648, 13987, 10255685, 6485603, 3123329643, 110110744, 10492150, 1170473, 389378, 119163, 12257495, 89759, 8740238, 70400, 1888, 149044, 10631, 1111, 423]
def vl3 : List Nat := [8740238, 70400, 1888, 149044]
def vl4 : List Nat := [4078175]
def vl5 : List Nat := [4281544]
def vl6 : List Nat := [10425481]
def vl7 : List Nat := [4555648]
def vl8 : List Nat := [10634, 10553780, 16922, 582341]
def vl9 : List Nat := [10631]
def vl10 : List Nat := [1111, 423]
def vl11 : List Nat := [10492150, 1170473, 389378, 119163, 12257495, 89759]
abbrev isNm (C : Nat → Nat) (l s : Nat) : Prop := tkK C l s = 1 ∧ plN (wdV C l s) 0 vl2 = -1
theorem tkK_le (C : Nat → Nat) (l s : Nat) : tkK C l s ≤ 4 := by
  unfold tkK
  repeat' split
  all_goals omega
theorem tkK_lt {C : Nat → Nat} {l s : Nat} (h : ¬ tkK C l s = 0) : s < l := by
  unfold tkK at h
  split at h
  · exact absurd rfl h
  · omega
theorem num4 {C : Nat → Nat} {o : Nat} : ∀ j, (∀ k, k < j → C (o + k) - 48 ≤ 9) → numN C o j < 10 ^ j
  | 0, _ => by simp [numN]
  | j + 1, h => by
    have := num4 (C := C) (o := o) j (fun k hk => h k (by omega))
    have h2 := h j (by omega)
    rw [numN, Nat.pow_succ]
    omega
theorem tk_num {C : Nat → Nat} {l s : Nat} (h : tkK C l s = 2) : nmV C l s < 10000 := by
  unfold tkK at h
  split at h
  · omega
  · rename_i q
    split at h
    · split at h <;> omega
    · rename_i q2
      split at h
      · rename_i q3
        split at h
        · rename_i q4
          have e : tkE C l s = rnE (fun k => decide (dgN (C k))) (l - s) s := by rw [tkE, if_neg q, if_neg q2, if_pos q3]
          have h1 := num4 (C := C) (o := s) (tkE C l s - s) (fun k hk => by
            have := rnE_in (P := fun k => decide (dgN (C k))) (l - s) s (s + k) (by omega) (by omega)
            have := of_decide_eq_true this
            omega)
          have h2 : 10 ^ (tkE C l s - s) ≤ 10 ^ 4 := Nat.pow_le_pow_right (by decide) q4
          show numN C s (tkE C l s - s) < 10000
          omega
        · omega
      · split at h <;> omega
section XCT
variable {L : Nat} {xs : Nat → Int32} {d : Nat} {Q : XQt} {pn pc : Int32} {tok : TTok} {ship : TShip} {nn : Int64} {tl : Int32} {draft : TShip} {vd : TVoy} {log : TLog} {trial : TCrew} {sta : TSta} {says : Fn} {seed : Int64} {past : Nat → TCrew} {marks : Nat → TLog} {K : XWd}
variable {C : Nat → Nat} {l s : Nat} {T : Fn}
theorem c_place1 (hK : K.length < 700000) (tr : TkR tok T C l s) (rp : RpC T C l) (l1 : l ≤ 1000) (sl : s ≤ l) (h : Q (some (.int (if tkK C l s = 1 then plN (wdV C l s) 0 vl1 else -1))) (clsW pn pc tok ship nn tl draft vd log trial sta says seed past marks K)) : XC (xF L xs) xmeths (d + 5) 37 [.ref 1, .ref (xSTR + 1)] (clsW pn pc tok ship nn tl draft vd log trial sta says seed past marks K) Q :=
  c_placeIn (n := 1) (ms := [3, 4, 3, 5, 5, 7, 6]) (vs := vl1) hK tr rp l1 sl rfl rfl (by decide) (by decide +kernel) (by decide +kernel) (by decide +kernel) h
set_option maxRecDepth 20000 in
theorem c_place2 (hK : K.length < 700000) (tr : TkR tok T C l s) (rp : RpC T C l) (l1 : l ≤ 1000) (sl : s ≤ l) (h : Q (some (.int (if tkK C l s = 1 then plN (wdV C l s) 0 vl2 else -1))) (clsW pn pc tok ship nn tl draft vd log trial sta says seed past marks K)) : XC (xF L xs) xmeths (d + 5) 37 [.ref 1, .ref (xSTR + 2)] (clsW pn pc tok ship nn tl draft vd log trial sta says seed past marks K) Q :=
  c_placeIn (n := 2) (ms := [3, 5, 5, 4, 5, 5, 3, 5, 5, 7, 6, 5, 5, 4, 4, 5, 4, 5, 4, 3, 4, 3, 3, 2]) (vs := vl2) hK tr rp l1 sl rfl rfl (by decide) (by decide +kernel) (by decide +kernel) (by decide +kernel) h
theorem c_place3 (hK : K.length < 700000) (tr : TkR tok T C l s) (rp : RpC T C l) (l1 : l ≤ 1000) (sl : s ≤ l) (h : Q (some (.int (if tkK C l s = 1 then plN (wdV C l s) 0 vl3 else -1))) (clsW pn pc tok ship nn tl draft vd log trial sta says seed past marks K)) : XC (xF L xs) xmeths (d + 5) 37 [.ref 1, .ref (xSTR + 3)] (clsW pn pc tok ship nn tl draft vd log trial sta says seed past marks K) Q :=
  c_placeIn (n := 3) (ms := [5, 4, 3, 4]) (vs := vl3) hK tr rp l1 sl rfl rfl (by decide) (by decide +kernel) (by decide +kernel) (by decide +kernel) h
theorem c_place4 (hK : K.length < 700000) (tr : TkR tok T C l s) (rp : RpC T C l) (l1 : l ≤ 1000) (sl : s ≤ l) (h : Q (some (.int (if tkK C l s = 1 then plN (wdV C l s) 0 vl4 else -1))) (clsW pn pc tok ship nn tl draft vd log trial sta says seed past marks K)) : XC (xF L xs) xmeths (d + 5) 37 [.ref 1, .ref (xSTR + 4)] (clsW pn pc tok ship nn tl draft vd log trial sta says seed past marks K) Q :=
  c_placeIn (n := 4) (ms := [5]) (vs := vl4) hK tr rp l1 sl rfl rfl (by decide) (by decide +kernel) (by decide +kernel) (by decide +kernel) h
theorem c_place5 (hK : K.length < 700000) (tr : TkR tok T C l s) (rp : RpC T C l) (l1 : l ≤ 1000) (sl : s ≤ l) (h : Q (some (.int (if tkK C l s = 1 then plN (wdV C l s) 0 vl5 else -1))) (clsW pn pc tok ship nn tl draft vd log trial sta says seed past marks K)) : XC (xF L xs) xmeths (d + 5) 37 [.ref 1, .ref (xSTR + 5)] (clsW pn pc tok ship nn tl draft vd log trial sta says seed past marks K) Q :=
  c_placeIn (n := 5) (ms := [5]) (vs := vl5) hK tr rp l1 sl rfl rfl (by decide) (by decide +kernel) (by decide +kernel) (by decide +kernel) h
theorem c_place6 (hK : K.length < 700000) (tr : TkR tok T C l s) (rp : RpC T C l) (l1 : l ≤ 1000) (sl : s ≤ l) (h : Q (some (.int (if tkK C l s = 1 then plN (wdV C l s) 0 vl6 else -1))) (clsW pn pc tok ship nn tl draft vd log trial sta says seed past marks K)) : XC (xF L xs) xmeths (d + 5) 37 [.ref 1, .ref (xSTR + 6)] (clsW pn pc tok ship nn tl draft vd log trial sta says seed past marks K) Q :=
  c_placeIn (n := 6) (ms := [5]) (vs := vl6) hK tr rp l1 sl rfl rfl (by decide) (by decide +kernel) (by decide +kernel) (by decide +kernel) h
theorem c_place7 (hK : K.length < 700000) (tr : TkR tok T C l s) (rp : RpC T C l) (l1 : l ≤ 1000) (sl : s ≤ l) (h : Q (some (.int (if tkK C l s = 1 then plN (wdV C l s) 0 vl7 else -1))) (clsW pn pc tok ship nn tl draft vd log trial sta says seed past marks K)) : XC (xF L xs) xmeths (d + 5) 37 [.ref 1, .ref (xSTR + 7)] (clsW pn pc tok ship nn tl draft vd log trial sta says seed past marks K) Q :=
  c_placeIn (n := 7) (ms := [5]) (vs := vl7) hK tr rp l1 sl rfl rfl (by decide) (by decide +kernel) (by decide +kernel) (by decide +kernel) h
theorem c_place8 (hK : K.length < 700000) (tr : TkR tok T C l s) (rp : RpC T C l) (l1 : l ≤ 1000) (sl : s ≤ l) (h : Q (some (.int (if tkK C l s = 1 then plN (wdV C l s) 0 vl8 else -1))) (clsW pn pc tok ship nn tl draft vd log trial sta says seed past marks K)) : XC (xF L xs) xmeths (d + 5) 37 [.ref 1, .ref (xSTR + 8)] (clsW pn pc tok ship nn tl draft vd log trial sta says seed past marks K) Q :=
  c_placeIn (n := 8) (ms := [3, 5, 3, 5]) (vs := vl8) hK tr rp l1 sl rfl rfl (by decide) (by decide +kernel) (by decide +kernel) (by decide +kernel) h
theorem c_place9 (hK : K.length < 700000) (tr : TkR tok T C l s) (rp : RpC T C l) (l1 : l ≤ 1000) (sl : s ≤ l) (h : Q (some (.int (if tkK C l s = 1 then plN (wdV C l s) 0 vl9 else -1))) (clsW pn pc tok ship nn tl draft vd log trial sta says seed past marks K)) : XC (xF L xs) xmeths (d + 5) 37 [.ref 1, .ref (xSTR + 9)] (clsW pn pc tok ship nn tl draft vd log trial sta says seed past marks K) Q :=
  c_placeIn (n := 9) (ms := [3]) (vs := vl9) hK tr rp l1 sl rfl rfl (by decide) (by decide +kernel) (by decide +kernel) (by decide +kernel) h
theorem c_place10 (hK : K.length < 700000) (tr : TkR tok T C l s) (rp : RpC T C l) (l1 : l ≤ 1000) (sl : s ≤ l) (h : Q (some (.int (if tkK C l s = 1 then plN (wdV C l s) 0 vl10 else -1))) (clsW pn pc tok ship nn tl draft vd log trial sta says seed past marks K)) : XC (xF L xs) xmeths (d + 5) 37 [.ref 1, .ref (xSTR + 10)] (clsW pn pc tok ship nn tl draft vd log trial sta says seed past marks K) Q :=
  c_placeIn (n := 10) (ms := [3, 2]) (vs := vl10) hK tr rp l1 sl rfl rfl (by decide) (by decide +kernel) (by decide +kernel) (by decide +kernel) h
theorem c_place11 (hK : K.length < 700000) (tr : TkR tok T C l s) (rp : RpC T C l) (l1 : l ≤ 1000) (sl : s ≤ l) (h : Q (some (.int (if tkK C l s = 1 then plN (wdV C l s) 0 vl11 else -1))) (clsW pn pc tok ship nn tl draft vd log trial sta says seed past marks K)) : XC (xF L xs) xmeths (d + 5) 37 [.ref 1, .ref (xSTR + 11)] (clsW pn pc tok ship nn tl draft vd log trial sta says seed past marks K) Q :=
  c_placeIn (n := 11) (ms := [5, 5, 4, 4, 5, 4]) (vs := vl11) hK tr rp l1 sl rfl rfl (by decide) (by decide +kernel) (by decide +kernel) (by decide +kernel) h
theorem c_adv (hK : K.length < 700000) (tr : TkR tok T C l s) (rp : RpC T C l) (l1 : l ≤ 1000) (sl : s ≤ l) (h : ∀ tok' : TTok, TkR tok' T C l (tkX C l s) → tok'.fault = tok.fault → tok'.taken = tok.taken → Q none (clsW pn pc tok' ship nn tl draft vd log trial sta says seed past marks K)) : XC (xF L xs) xmeths (d + 6) 23 [.ref 1] (clsW pn pc tok ship nn tl draft vd log trial sta says seed past marks K) Q := by
  have ⟨t1, t2, t3, t4, t5, t6, t7⟩ := tr
  rcases tok with ⟨x1, x2, x3, x4, x5, x6, x7, x8, x9⟩
  have t1 : x1 = T := t1
  have t5 : x4 = nI (tkE C l s) := t5
  have t2 : x5 = nI l := t2
  subst t1 t2 t5
  exact c_advance hK rp l1 (tkE_le sl).2.1 h
theorem c_refuse {k : Nat} (tr : TkR tok T C l s) (h : Q (some (.int 0)) (clsW pn pc (tok.signs, tok.kind, tok.start, tok.next, tok.length, tok.number, tok.taken, tok.name, nI (k + 16 * s)) ship nn tl draft vd log trial sta says seed past marks K)) : XC (xF L xs) xmeths (d + 1) 41 [.ref 1, .int (nI k)] (clsW pn pc tok ship nn tl draft vd log trial sta says seed past marks K) Q := by
  refine ⟨nb rfl, xgo [] 20 ⟨rfl, ?_⟩⟩
  have e : nI k + Int32.ofInt 16 * tok.start = nI (k + 16 * s) := by
    rw [tr.start, show Int32.ofInt 16 = nI 16 from rfl, pk_mul, nI_add]
  rw [← e] at h
  exact h
theorem c_isEnd (tr : TkR tok T C l s) (h : Q (some (.int (b2i (tkK C l s = 0)))) (clsW pn pc tok ship nn tl draft vd log trial sta says seed past marks K)) : XC (xF L xs) xmeths (d + 1) 35 [.ref 1] (clsW pn pc tok ship nn tl draft vd log trial sta says seed past marks K) Q := by
  have k4 := tkK_le C l s
  have h := vR h
  refine ⟨nb rfl, xgo [] 20 ?_⟩
  exact pk_ne (tkK C l s) 0 (fun q => ⟨rfl, h.2 q⟩) (fun q => ⟨rfl, h.1 q⟩) tr.kind nI_0.symm (by omega) (by omega)
theorem c_isNumber (tr : TkR tok T C l s) (h : Q (some (.int (b2i (tkK C l s = 2)))) (clsW pn pc tok ship nn tl draft vd log trial sta says seed past marks K)) : XC (xF L xs) xmeths (d + 1) 55 [.ref 1] (clsW pn pc tok ship nn tl draft vd log trial sta says seed past marks K) Q := by
  have k4 := tkK_le C l s
  have h := vR h
  refine ⟨nb rfl, xgo [] 20 ?_⟩
  exact pk_ne (tkK C l s) 2 (fun q => ⟨rfl, h.2 q⟩) (fun q => ⟨rfl, h.1 q⟩) tr.kind rfl (by omega) (by omega)
theorem c_isSign {c : Nat} (tr : TkR tok T C l s) (rp : RpC T C l) (l1 : l ≤ 1000) (c128 : c < 128) (h : Q (some (.int (b2i (isG C l s c)))) (clsW pn pc tok ship nn tl draft vd log trial sta says seed past marks K)) : XC (xF L xs) xmeths (d + 1) 51 [.ref 1, .int (nI c)] (clsW pn pc tok ship nn tl draft vd log trial sta says seed past marks K) Q := by
  have k4 := tkK_le C l s
  have h := vR h
  have out : ¬ isG C l s c → XWp (xF L xs) (some .boolean) xP51 (XC (xF L xs) xmeths d) Q 18 [orf 1, oi (nI c)] [] (clsW pn pc tok ship nn tl draft vd log trial sta says seed past marks K) := fun y => xgo [] 20 ⟨rfl, h.2 y⟩
  refine ⟨nb rfl, xgo [18] 40 ?_⟩
  refine pk_ne (tkK C l s) 3 (fun q => out (fun y => q y.1)) (fun q => ?_) tr.kind rfl (by omega) (by omega)
  have hs := tkK_lt (C := C) (l := l) (s := s) (by omega)
  refine pk_le l s (fun y => by omega) (fun _ => ?_) tr.length tr.start (by omega) (by omega)
  have ⟨eT, h128⟩ := rp s hs
  refine ⟨show vp_in tok.start 1000 from tr.start ▸ vp_in_nI (by omega) (by omega), ?_⟩
  have e : tok.signs tok.start.toNatClampNeg = nI (C s) := by rw [tr.start, nI_clamp (by omega), tr.signs, eT]
  exact pk_ne (C s) c (fun z => out (fun y => z y.2)) (fun z => ⟨rfl, h.1 ⟨q, z⟩⟩) e rfl (by omega) (by omega)
theorem c_isName (hK : K.length < 700000) (tr : TkR tok T C l s) (rp : RpC T C l) (l1 : l ≤ 1000) (sl : s ≤ l) (h : Q (some (.int (b2i (isNm C l s)))) (clsW pn pc tok ship nn tl draft vd log trial sta says seed past marks K)) : XC (xF L xs) xmeths (d + 6) 44 [.ref 1] (clsW pn pc tok ship nn tl draft vd log trial sta says seed past marks K) Q := by
  have k4 := tkK_le C l s
  have h := vR h
  refine ⟨nb rfl, xgo [] 20 ?_⟩
  refine pk_ne (tkK C l s) 1 (fun q => ⟨rfl, h.2 (fun y => q y.1)⟩) (fun q => ?_) tr.kind rfl (by omega) (by omega)
  refine ⟨rfl, nb rfl, c_place2 hK tr rp l1 sl ?_⟩
  rw [if_pos q]
  exact And.intro (fun (z : ¬ plN (wdV C l s) 0 vl2 = -1) => ⟨rfl, h.2 (fun y => z y.2)⟩) (fun (z : ¬ ¬ plN (wdV C l s) 0 vl2 = -1) => ⟨rfl, h.1 ⟨q, Classical.not_not.mp z⟩⟩)
theorem c_takeSign {c : Nat} (hK : K.length < 700000) (tr : TkR tok T C l s) (rp : RpC T C l) (l1 : l ≤ 1000) (sl : s ≤ l) (c128 : c < 128) (h1 : isG C l s c → ∀ tok' : TTok, TkR tok' T C l (tkX C l s) → tok'.fault = tok.fault → tok'.taken = tok.taken → Q (some (.int 1)) (clsW pn pc tok' ship nn tl draft vd log trial sta says seed past marks K)) (h0 : ¬ isG C l s c → Q (some (.int 0)) (clsW pn pc (tok.signs, tok.kind, tok.start, tok.next, tok.length, tok.number, tok.taken, tok.name, nI (1 + 16 * s)) ship nn tl draft vd log trial sta says seed past marks K)) : XC (xF L xs) xmeths (d + 7) 50 [.ref 1, .int (nI c)] (clsW pn pc tok ship nn tl draft vd log trial sta says seed past marks K) Q := by
  refine ⟨nb rfl, xgo [] 40 ⟨rfl, nb rfl, c_isSign tr rp l1 c128 ?_⟩⟩
  refine vB1 (fun q => ?_) (fun q => ?_)
  · exact ⟨rfl, nb rfl, c_adv hK tr rp l1 sl (fun tok' tr' f1 f2 => ⟨rfl, h1 q tok' tr' f1 f2⟩)⟩
  · exact ⟨rfl, nb rfl, c_refuse (k := 1) tr ⟨rfl, h0 q⟩⟩
theorem c_takeNumber {lo hi : Nat} (hK : K.length < 700000) (tr : TkR tok T C l s) (rp : RpC T C l) (l1 : l ≤ 1000) (sl : s ≤ l) (hlo : lo < 10000) (hh : hi < 10000) (h1 : tkK C l s = 2 → lo ≤ nmV C l s → nmV C l s ≤ hi → ∀ tok' : TTok, TkR tok' T C l (tkX C l s) → tok'.fault = tok.fault → tok'.taken = nI (nmV C l s) → Q (some (.int 1)) (clsW pn pc tok' ship nn tl draft vd log trial sta says seed past marks K)) (h0 : ∀ k, (¬ tkK C l s = 2 ∧ k = 1 ∨ tkK C l s = 2 ∧ ¬ (lo ≤ nmV C l s ∧ nmV C l s ≤ hi) ∧ k = 4) → Q (some (.int 0)) (clsW pn pc (tok.signs, tok.kind, tok.start, tok.next, tok.length, tok.number, tok.taken, tok.name, nI (k + 16 * s)) ship nn tl draft vd log trial sta says seed past marks K)) : XC (xF L xs) xmeths (d + 7) 48 [.ref 1, .int (nI lo), .int (nI hi)] (clsW pn pc tok ship nn tl draft vd log trial sta says seed past marks K) Q := by
  have k4 := tkK_le C l s
  refine ⟨nb rfl, xgo [12] 40 ?_⟩
  refine pk_eq (tkK C l s) 2 (fun q => ?_) (fun q => ?_) tr.kind rfl (by omega) (by omega)
  rotate_left
  · exact ⟨rfl, nb rfl, c_refuse (k := 1) tr ⟨rfl, h0 1 (Or.inl ⟨q, rfl⟩)⟩⟩
  have en := tr.number q
  have hn := tk_num q
  refine xgo [] 60 ⟨rfl, nb rfl, c_isWithin ?_⟩
  have hiff : (nI lo ≤ tok.number ∧ tok.number ≤ nI hi) ↔ (lo ≤ nmV C l s ∧ nmV C l s ≤ hi) := by
    have e : tok.number = nI (nmV C l s) := en
    rw [e]
    constructor
    · intro y
      refine ⟨?_, ?_⟩
      · exact Nat.le_of_not_lt (fun z => nI_ge z (by omega) y.1)
      · exact Nat.le_of_not_lt (fun z => nI_ge z (by omega) y.2)
    · exact fun y => ⟨nI_le y.1 (by omega), nI_le y.2 (by omega)⟩
  refine vB1 (fun q2 => ?_) (fun q2 => ?_)
  · have q3 := hiff.mp q2
    refine ⟨rfl, nb rfl, c_adv (tok := (tok.signs, tok.kind, tok.start, tok.next, tok.length, tok.number, tok.number, tok.name, tok.fault)) hK tr rp l1 sl (fun tok' tr' f1 f2 => ⟨rfl, h1 q q3.1 q3.2 tok' tr' f1 (f2.trans en)⟩)⟩
  · exact ⟨rfl, nb rfl, c_refuse (k := 4) tr ⟨rfl, h0 4 (Or.inr ⟨q, fun y => q2 (hiff.mpr y), rfl⟩)⟩⟩
theorem c_takeW4 (hK : K.length < 700000) (tr : TkR tok T C l s) (rp : RpC T C l) (l1 : l ≤ 1000) (sl : s ≤ l) (h1 : isW C l s 4078175 → ∀ tok' : TTok, TkR tok' T C l (tkX C l s) → tok'.fault = tok.fault → tok'.taken = tok.taken → Q (some (.int 1)) (clsW pn pc tok' ship nn tl draft vd log trial sta says seed past marks K)) (h0 : ¬ isW C l s 4078175 → Q (some (.int 0)) (clsW pn pc (tok.signs, tok.kind, tok.start, tok.next, tok.length, tok.number, tok.taken, tok.name, nI (1 + 16 * s)) ship nn tl draft vd log trial sta says seed past marks K)) : XC (xF L xs) xmeths (d + 7) 47 [.ref 1, .ref (xSTR + 4)] (clsW pn pc tok ship nn tl draft vd log trial sta says seed past marks K) Q := by
  have hw : (if tkK C l s = 1 then plN (wdV C l s) 0 vl4 else -1) = if isW C l s 4078175 then 0 else -1 := by
    simp only [isW, vl4, plN]
    by_cases y : tkK C l s = 1
    · by_cases y2 : wdV C l s = 4078175
      · rw [if_pos y, if_pos y2.symm, if_pos ⟨y, y2⟩]; rfl
      · rw [if_pos y, if_neg (fun z => y2 z.symm), if_neg (fun z => y2 z.2)]
    · rw [if_neg y, if_neg (fun z => y z.1)]
  refine ⟨nb rfl, xgo [] 40 ⟨rfl, nb rfl, c_place4 hK tr rp l1 sl ?_⟩⟩
  rw [hw]
  by_cases q : isW C l s 4078175
  · rw [if_pos q]
    exact vTd rfl ⟨rfl, nb rfl, c_adv hK tr rp l1 sl (fun tok' tr' f1 f2 => ⟨rfl, h1 q tok' tr' f1 f2⟩)⟩
  · rw [if_neg q]
    exact vFd rfl ⟨rfl, nb rfl, c_refuse (k := 1) tr ⟨rfl, h0 q⟩⟩
theorem c_takeW5 (hK : K.length < 700000) (tr : TkR tok T C l s) (rp : RpC T C l) (l1 : l ≤ 1000) (sl : s ≤ l) (h1 : isW C l s 4281544 → ∀ tok' : TTok, TkR tok' T C l (tkX C l s) → tok'.fault = tok.fault → tok'.taken = tok.taken → Q (some (.int 1)) (clsW pn pc tok' ship nn tl draft vd log trial sta says seed past marks K)) (h0 : ¬ isW C l s 4281544 → Q (some (.int 0)) (clsW pn pc (tok.signs, tok.kind, tok.start, tok.next, tok.length, tok.number, tok.taken, tok.name, nI (1 + 16 * s)) ship nn tl draft vd log trial sta says seed past marks K)) : XC (xF L xs) xmeths (d + 7) 47 [.ref 1, .ref (xSTR + 5)] (clsW pn pc tok ship nn tl draft vd log trial sta says seed past marks K) Q := by
  have hw : (if tkK C l s = 1 then plN (wdV C l s) 0 vl5 else -1) = if isW C l s 4281544 then 0 else -1 := by
    simp only [isW, vl5, plN]
    by_cases y : tkK C l s = 1
    · by_cases y2 : wdV C l s = 4281544
      · rw [if_pos y, if_pos y2.symm, if_pos ⟨y, y2⟩]; rfl
      · rw [if_pos y, if_neg (fun z => y2 z.symm), if_neg (fun z => y2 z.2)]
    · rw [if_neg y, if_neg (fun z => y z.1)]
  refine ⟨nb rfl, xgo [] 40 ⟨rfl, nb rfl, c_place5 hK tr rp l1 sl ?_⟩⟩
  rw [hw]
  by_cases q : isW C l s 4281544
  · rw [if_pos q]
    exact vTd rfl ⟨rfl, nb rfl, c_adv hK tr rp l1 sl (fun tok' tr' f1 f2 => ⟨rfl, h1 q tok' tr' f1 f2⟩)⟩
  · rw [if_neg q]
    exact vFd rfl ⟨rfl, nb rfl, c_refuse (k := 1) tr ⟨rfl, h0 q⟩⟩
theorem c_takeW6 (hK : K.length < 700000) (tr : TkR tok T C l s) (rp : RpC T C l) (l1 : l ≤ 1000) (sl : s ≤ l) (h1 : isW C l s 10425481 → ∀ tok' : TTok, TkR tok' T C l (tkX C l s) → tok'.fault = tok.fault → tok'.taken = tok.taken → Q (some (.int 1)) (clsW pn pc tok' ship nn tl draft vd log trial sta says seed past marks K)) (h0 : ¬ isW C l s 10425481 → Q (some (.int 0)) (clsW pn pc (tok.signs, tok.kind, tok.start, tok.next, tok.length, tok.number, tok.taken, tok.name, nI (1 + 16 * s)) ship nn tl draft vd log trial sta says seed past marks K)) : XC (xF L xs) xmeths (d + 7) 47 [.ref 1, .ref (xSTR + 6)] (clsW pn pc tok ship nn tl draft vd log trial sta says seed past marks K) Q := by
  have hw : (if tkK C l s = 1 then plN (wdV C l s) 0 vl6 else -1) = if isW C l s 10425481 then 0 else -1 := by
    simp only [isW, vl6, plN]
    by_cases y : tkK C l s = 1
    · by_cases y2 : wdV C l s = 10425481
      · rw [if_pos y, if_pos y2.symm, if_pos ⟨y, y2⟩]; rfl
      · rw [if_pos y, if_neg (fun z => y2 z.symm), if_neg (fun z => y2 z.2)]
    · rw [if_neg y, if_neg (fun z => y z.1)]
  refine ⟨nb rfl, xgo [] 40 ⟨rfl, nb rfl, c_place6 hK tr rp l1 sl ?_⟩⟩
  rw [hw]
  by_cases q : isW C l s 10425481
  · rw [if_pos q]
    exact vTd rfl ⟨rfl, nb rfl, c_adv hK tr rp l1 sl (fun tok' tr' f1 f2 => ⟨rfl, h1 q tok' tr' f1 f2⟩)⟩
  · rw [if_neg q]
    exact vFd rfl ⟨rfl, nb rfl, c_refuse (k := 1) tr ⟨rfl, h0 q⟩⟩
theorem c_takeW7 (hK : K.length < 700000) (tr : TkR tok T C l s) (rp : RpC T C l) (l1 : l ≤ 1000) (sl : s ≤ l) (h1 : isW C l s 4555648 → ∀ tok' : TTok, TkR tok' T C l (tkX C l s) → tok'.fault = tok.fault → tok'.taken = tok.taken → Q (some (.int 1)) (clsW pn pc tok' ship nn tl draft vd log trial sta says seed past marks K)) (h0 : ¬ isW C l s 4555648 → Q (some (.int 0)) (clsW pn pc (tok.signs, tok.kind, tok.start, tok.next, tok.length, tok.number, tok.taken, tok.name, nI (1 + 16 * s)) ship nn tl draft vd log trial sta says seed past marks K)) : XC (xF L xs) xmeths (d + 7) 47 [.ref 1, .ref (xSTR + 7)] (clsW pn pc tok ship nn tl draft vd log trial sta says seed past marks K) Q := by
  have hw : (if tkK C l s = 1 then plN (wdV C l s) 0 vl7 else -1) = if isW C l s 4555648 then 0 else -1 := by
    simp only [isW, vl7, plN]
    by_cases y : tkK C l s = 1
    · by_cases y2 : wdV C l s = 4555648
      · rw [if_pos y, if_pos y2.symm, if_pos ⟨y, y2⟩]; rfl
      · rw [if_pos y, if_neg (fun z => y2 z.symm), if_neg (fun z => y2 z.2)]
    · rw [if_neg y, if_neg (fun z => y z.1)]
  refine ⟨nb rfl, xgo [] 40 ⟨rfl, nb rfl, c_place7 hK tr rp l1 sl ?_⟩⟩
  rw [hw]
  by_cases q : isW C l s 4555648
  · rw [if_pos q]
    exact vTd rfl ⟨rfl, nb rfl, c_adv hK tr rp l1 sl (fun tok' tr' f1 f2 => ⟨rfl, h1 q tok' tr' f1 f2⟩)⟩
  · rw [if_neg q]
    exact vFd rfl ⟨rfl, nb rfl, c_refuse (k := 1) tr ⟨rfl, h0 q⟩⟩
end XCT
