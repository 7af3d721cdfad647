/-! voyages by draws -/
abbrev NX (nx : Nat → Nat) (vl : Nat → Nat → Nat) : Prop := (∀ sd, nx sd = (sd * 1103515245 + 12345) % 2147483648) ∧ (∀ sd, nx sd < 2147483648) ∧ (∀ sd m, vl sd m = sd / 65536 % m) ∧ (∀ sd m, 0 < m → vl sd m < m)
theorem NX.nx {nx : Nat → Nat} {vl : Nat → Nat → Nat} (h : NX nx vl) : ∀ sd, nx sd = (sd * 1103515245 + 12345) % 2147483648 := h.1
theorem NX.lt {nx : Nat → Nat} {vl : Nat → Nat → Nat} (h : NX nx vl) : ∀ sd, nx sd < 2147483648 := h.2.1
theorem NX.vl {nx : Nat → Nat} {vl : Nat → Nat → Nat} (h : NX nx vl) : ∀ sd m, vl sd m = sd / 65536 % m := h.2.2.1
theorem NX.vlt {nx : Nat → Nat} {vl : Nat → Nat → Nat} (h : NX nx vl) : ∀ sd m, 0 < m → vl sd m < m := h.2.2.2
def ordA (nx : Nat → Nat) (vl : Nat → Nat → Nat) (s : TShip) (n q z : Nat) (A : TA) (sd : Nat) : TA :=
  let m := vl (nx sd) n
  let b := vl (nx (nx sd)) (q + 1)
  let c := vl (nx (nx (nx sd))) 20
  let A1 := if b < q then (folA s n z 0 m b A).2 else (folA s n z 1 m 0 A).2
  if c = 0 then (folA s n z 5 0 0 A1).2 else if c = 1 then (folA s n z 3 m 0 A1).2 else A1
def saiA (nx : Nat → Nat) (vl : Nat → Nat → Nat) (s : TShip) (n q z : Nat) (A : TA) (sd : Nat) : Nat → TA × Nat
  | 0 => (A, sd)
  | j + 1 =>
    let r := saiA nx vl s n q z A sd j
    let r1 := if 0 < n then (ordA nx vl s n q z r.1 r.2, nx (nx (nx r.2))) else r
    ((folA s n z 4 0 0 r1.1).2, r1.2)
theorem ord_ok {nx : Nat → Nat} {vl : Nat → Nat → Nat} (nv : NX nx vl) {s : TShip} {n q z sd : Nat} {A : TA} (so : ShOk s n q z) (hn : 0 < n) (h : AOk A n q) : AOk (ordA nx vl s n q z A sd) n q := by
  have hm : vl (nx sd) n < n := nv.vlt _ _ hn
  have h1 : AOk (if vl (nx (nx sd)) (q + 1) < q then (folA s n z 0 (vl (nx sd) n) (vl (nx (nx sd)) (q + 1)) A).2 else (folA s n z 1 (vl (nx sd) n) 0 A).2) n q := by
    split
    · rename_i y
      exact fol_ok so (fun _ => hm) (fun _ => y) h
    · exact fol_ok so (fun _ => hm) (fun y => absurd y (by decide)) h
  simp only [ordA]
  split
  · exact fol_ok so (fun y => absurd y (by decide)) (fun y => absurd y (by decide)) h1
  · split
    · exact fol_ok so (fun _ => hm) (fun y => absurd y (by decide)) h1
    · exact h1
theorem fol_t' {s : TShip} {n z vb m b : Nat} {A : TA} (h : ¬ vb = 4) : (folA s n z vb m b A).2.t = A.t := by
  simp only [folA, if_neg h]
  repeat' split
  all_goals rfl
theorem ord_t {nx : Nat → Nat} {vl : Nat → Nat → Nat} {s : TShip} {n q z sd : Nat} {A : TA} : (ordA nx vl s n q z A sd).t = A.t := by
  have h1 : ∀ x y, (if vl (nx (nx sd)) (q + 1) < q then (folA s n z 0 x y A).2 else (folA s n z 1 x 0 A).2).t = A.t := by
    intro x y
    split
    · exact fol_t' (by decide)
    · exact fol_t' (by decide)
  simp only [ordA]
  split
  · rw [fol_t' (by decide)]; exact h1 _ _
  · split
    · rw [fol_t' (by decide)]; exact h1 _ _
    · exact h1 _ _
theorem sai_ok {nx : Nat → Nat} {vl : Nat → Nat → Nat} (nv : NX nx vl) {s : TShip} {n q z sd : Nat} {A : TA} (so : ShOk s n q z) (h : AOk A n q) (hsd : sd < 2147483648) : ∀ j, AOk (saiA nx vl s n q z A sd j).1 n q ∧ (saiA nx vl s n q z A sd j).2 < 2147483648 ∧ (saiA nx vl s n q z A sd j).1.t = A.t + j
  | 0 => ⟨h, hsd, rfl⟩
  | j + 1 => by
    have ⟨ih, ih2, ih3⟩ := sai_ok nv so h hsd j
    simp only [saiA]
    by_cases hn : 0 < n
    · rw [if_pos hn]
      refine ⟨fol_ok so (fun y => absurd y (by decide)) (fun y => absurd y (by decide)) (ord_ok nv so hn ih), nv.lt _, ?_⟩
      show (ordA nx vl s n q z _ _).t + 1 = _
      rw [ord_t, ih3]
      omega
    · rw [if_neg hn]
      refine ⟨fol_ok so (fun y => absurd y (by decide)) (fun y => absurd y (by decide)) ih, ih2, ?_⟩
      show (saiA nx vl s n q z A sd j).1.t + 1 = _
      rw [ih3]
      omega
section XDW
variable {L : Nat} {xs : Nat → Int32} {d : Nat} {Q : XQt} {pn pc : Int32} {tok : TTok} {ship : TShip} {nn : Int64} {tl : Int32} {draft : TShip} {vd : TVoy} {log : TLog} {trial : TCrew} {sta : TSta} {says : Fn} {seed : Int64} {past : Nat → TCrew} {marks : Nat → TLog} {mi : TMi} {ma : TMa} {mb : TMb} {K : XWd}
variable {stk kn : Fn} {n p z : Nat} {A : TA} {nx : Nat → Nat} {vl : Nat → Nat → Nat}
theorem c_drawUnder {sd m : Nat} (nv : NX nx vl) (hsd : sd < 2147483648) (hs : seed = lN sd) (hm0 : 0 < m) (hm : m ≤ 100) (h : ∀ seed, seed = lN (nx sd) → Q (some (.int (nI (vl (nx sd) m)))) (clsW pn pc tok ship nn tl draft vd log trial sta says seed past marks K)) : XC (xF L xs) xmeths (d + 1) 158 [.ref 48, .int (nI m)] (clsW pn pc tok ship nn tl draft vd log trial sta says seed past marks K) Q := by
  have e1 : seed * Int64.ofNat 1103515245 + Int64.ofNat 12345 - (seed * Int64.ofNat 1103515245 + Int64.ofNat 12345) / Int64.ofNat 2147483648 * Int64.ofNat 2147483648 = lN (nx sd) := by
    rw [hs, nv.nx, show Int64.ofNat 1103515245 = lN 1103515245 from rfl, show Int64.ofNat 12345 = lN 12345 from rfl, show Int64.ofNat 2147483648 = lN 2147483648 from rfl, lN_mul, lN_add]
    exact pk_lRem (by omega) (by decide) (by decide)
  have hl := nv.lt sd
  have hv := nv.vl (nx sd) m
  have e2 : lN (nx sd) / Int64.ofNat 65536 - lN (nx sd) / Int64.ofNat 65536 / (nI m).toInt64 * (nI m).toInt64 = lN (vl (nx sd) m) := by
    rw [hv, nI_l (by omega), show Int64.ofNat 65536 = lN 65536 from rfl, pk_lDiv (by omega) (by decide) (by decide)]
    exact pk_lRem (Nat.lt_of_le_of_lt (Nat.div_le_self _ _) (by omega)) hm0 (by omega)
  refine ⟨nb rfl, xgo [] 60 ⟨(show ¬ Int64.ofNat 2147483648 = 0 by decide), ?_⟩⟩
  rw [e1]
  refine pk_le m 0 (fun q => by omega) (fun q => ?_) rfl nI_0.symm (by omega) (by omega)
  refine ⟨(show ¬ Int64.ofNat 65536 = 0 by decide), ?_⟩
  refine ⟨(show ¬ (nI m).toInt64 = 0 by rw [nI_l (by omega)]; intro y; have := (lN_eq (b := 0) (by omega) (by omega)).mp y; omega), ?_⟩
  have h := h (lN (nx sd)) rfl
  rw [← lN_i, ← e2] at h
  exact h
theorem c_order {sd : Nat} (nv : NX nx vl) (hn : 0 < n) (hsd : sd < 2147483648) (hs : seed = lN sd) (so : ShOk ship n p z) (hkn : KOk kn (RV ship.law)) (ao : AOk A n p) (tr : TrA trial n A) (h : ∀ trial seed, seed = lN (nx (nx (nx sd))) → TrA trial n (ordA nx vl ship n p z A sd) → Q none (clsW pn pc tok (ship.wlaw (ship.law.wm stk kn)) nn tl draft vd log trial sta says seed past marks K)) : XC (xF L xs) xmeths (d + 4) 157 [.ref 48] (clsW pn pc tok (ship.wlaw (ship.law.wm stk kn)) nn tl draft vd log trial sta says seed past marks K) Q := by
  have n6 := so.n6
  have p4 := so.p4
  have hm : vl (nx sd) n < n := nv.vlt _ _ hn
  have hb : vl (nx (nx sd)) (p + 1) < p + 1 := nv.vlt _ _ (by omega)
  have hc : vl (nx (nx (nx sd))) 20 < 20 := nv.vlt _ _ (by decide)
  have go : ∀ (x : Int32), x = nI n → XC (xF L xs) xmeths (d + 3) 158 [.ref 48, .int x] (clsW pn pc tok (ship.wlaw (ship.law.wm stk kn)) nn tl draft vd log trial sta says seed past marks K) (fun v w' => xvc (xF L xs) none xP157 (XC (xF L xs) xmeths (d + 3)) Q [31] 59 5 (xent 4 [.ref 48]) (v.toList ++ []) w') := by
    intro x hx
    subst hx
    refine c_drawUnder nv hsd hs hn (by omega) (fun seed hs => ⟨nb rfl, ?_⟩)
    have ep : ship.posts + Int32.ofInt 1 = nI (p + 1) := by rw [so.posts]; exact (nI_succ p).symm
    have go2 : ∀ y : Int32, y = nI (p + 1) → XC (xF L xs) xmeths (d + 3) 158 [.ref 48, .int y] (clsW pn pc tok (ship.wlaw (ship.law.wm stk kn)) nn tl draft vd log trial sta says seed past marks K) (fun v w' => xvc (xF L xs) none xP157 (XC (xF L xs) xmeths (d + 3)) Q [31] 51 13 (xst (xent 4 [.ref 48]) 1 (.int (nI (vl (nx sd) n)))) (v.toList ++ []) w') := by
      intro y hy
      subst hy
      refine c_drawUnder nv (nv.lt _) hs (by omega) (by omega) (fun seed hs => ⟨nb rfl, ?_⟩)
      generalize hA1 : (if vl (nx (nx sd)) (p + 1) < p then (folA ship n z 0 (vl (nx sd) n) (vl (nx (nx sd)) (p + 1)) A).2 else (folA ship n z 1 (vl (nx sd) n) 0 A).2) = A1
      have ao1 : AOk A1 n p := by
        rw [← hA1]
        split
        · rename_i y
          exact fol_ok so (fun _ => hm) (fun _ => y) ao
        · exact fol_ok so (fun _ => hm) (fun y => absurd y (by decide)) ao
      simp only [ordA, hA1] at h
      generalize vl (nx sd) n = m at *
      generalize vl (nx (nx sd)) (p + 1) = b at *
      have tail : ∀ trial, TrA trial n A1 → XWp (xF L xs) none xP157 (XC (xF L xs) xmeths (d + 3)) Q 31 [orf 48, oi (nI m), oi (nI b), none] [] (clsW pn pc tok (ship.wlaw (ship.law.wm stk kn)) nn tl draft vd log trial sta says seed past marks K) := by
        intro trial tr
        refine xgo [] 60 ⟨rfl, nb rfl, c_drawUnder (m := 20) nv (nv.lt _) hs (by decide) (by decide) (fun seed hs => ⟨nb rfl, ?_⟩)⟩
        generalize vl (nx (nx (nx sd))) 20 = c at *
        refine And.intro (fun (q1 : ¬ nI c = 0) => ?_) (fun (q1 : ¬ ¬ nI c = 0) => ?_)
        · have q1 : ¬ c = 0 := fun y => q1 (by rw [y]; rfl)
          rw [if_neg q1] at h
          refine And.intro (fun (q2 : ¬ nI c = 1) => ?_) (fun (q2 : ¬ ¬ nI c = 1) => ?_)
          · rw [if_neg (fun y => q2 (by rw [y]; rfl))] at h
            exact ⟨rfl, h trial seed hs tr⟩
          · have q2 : c = 1 := (nI_eq (b := 1) (by omega) (by omega)).mp (Classical.not_not.mp q2)
            rw [if_pos q2] at h
            exact ⟨rfl, nb rfl, c_fallIn_44 n6 so.men hm ⟨rfl, h (trial.wg (fallG trial.green ship.shade n m)) seed hs ⟨fallG_congr n6 hm tr.green, tr.place, tr.sucked, tr.over⟩⟩⟩
        · have q1 : c = 0 := (nI_eq (b := 0) (by omega) (by omega)).mp (Classical.not_not.mp q1)
          rw [if_pos q1] at h
          exact ⟨rfl, nb rfl, t_enterHarbour so tr (fun trial tr => ⟨rfl, h trial seed hs tr⟩)⟩
      refine pk_le p b (fun q => ?_) (fun q => ?_) so.posts rfl (by omega) (by omega)
      · rw [if_neg (by omega)] at hA1
        refine ⟨rfl, nb rfl, c_goBelow_44 n6 so.men (fun y => ?_) (fun y => ?_)⟩
        · have y : A.p m = -1 := Classical.not_not.mp (fun z => y ((t_canBelow so tr hm).mpr z))
          have e : (folA ship n z 1 m 0 A).2 = A := by simp [folA, y]
          exact (tail trial (by rw [← hA1, e]; exact tr))
        · have y := (t_canBelow so tr hm).mp y
          have e : (folA ship n z 1 m 0 A).2 = (A.g, upd A.p m (-1), A.su, A.t) := by simp [folA, y]
          exact (tail (trial.put (nI m).toNatClampNeg (-1)) (by rw [← hA1, e, nI_clamp (by omega)]; exact ⟨tr.green, eqN_upd tr.place, tr.sucked, tr.over⟩))
      · rw [if_pos q] at hA1
        refine ⟨rfl, nb rfl, c_standAt_44 n6 so.men p4 so.posts (fun y => ?_) (fun y => ?_)⟩
        · have y := fun z => y ((t_canStand so tr hm q).mpr z)
          have e : (folA ship n z 0 m b A).2 = A := by simp only [folA, if_pos]; rw [if_neg y]
          exact (tail trial (by rw [← hA1, e]; exact tr))
        · have y := (t_canStand so tr hm q).mp y
          have e : (folA ship n z 0 m b A).2 = (A.g, upd A.p m (nI b), A.su, A.t) := by simp only [folA, if_pos]; rw [if_pos y]
          exact (tail (trial.put (nI m).toNatClampNeg (nI b)) (by rw [← hA1, e, nI_clamp (by omega)]; exact ⟨tr.green, eqN_upd tr.place, tr.sucked, tr.over⟩))
    exact ⟨rfl, nb rfl, go2 _ ep⟩
  exact ⟨nb rfl, xgo [31] 64 ⟨rfl, nb rfl, go _ so.men⟩⟩
end XDW
