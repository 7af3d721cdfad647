section XSL
variable {L : Nat} {xs : Nat → Int32} {d : Nat} {Q : XQt} {pn pc : Int32} {tok : TTok} {ship : TShip} {nn : Int64} {tl : Int32} {draft : TShip} {vd : TVoy} {log : TLog} {trial : TCrew} {sta : TSta} {says : Fn} {seed : Int64} {past : Nat → TCrew} {marks : Nat → TLog} {mi : TMi} {ma : TMa} {mb : TMb} {K : XWd}
variable {stk kn : Fn} {n p z : Nat} {A : TA} {nx : Nat → Nat} {vl : Nat → Nat → Nat}
theorem c_sail {sd w : Nat} {what : Int32} (nv : NX nx vl) (hsd : sd ≤ 9999) (hw : w ≤ 100) (so : ShOk ship n p z) (hkn : KOk kn (RV ship.law)) (ao : AOk A n p) (hA : TrA log.crew n A) (ht : A.t < 2 ^ 30) (h : ∀ stk kn trial seed, KOk kn (RV ship.law) → Q (some (.int (if what = 0 then nI (turnsI (fun j => capt (saiA nx vl ship n p z A sd j).1.g n) w) else if what = 1 then capt (saiA nx vl ship n p z A sd w).1.g n else sumF (saiA nx vl ship n p z A sd w).1.g n))) (clsW pn pc tok (ship.wlaw (ship.law.wm stk kn)) nn tl draft vd log trial sta says seed past marks K)) : XC (xF L xs) xmeths (d + 5) 156 [.ref 48, .int (nI sd), .int (nI w), .int what] (clsW pn pc tok (ship.wlaw (ship.law.wm stk kn)) nn tl draft vd log trial sta says seed past marks K) Q := by
  have n6 := so.n6
  have es : (nI sd).toInt64 = lN sd := nI_l (by omega)
  refine ⟨nb rfl, xgo [17] 60 ?_⟩
  refine ⟨rfl, nb rfl, t_copy (pn := pn) (pc := pc) (tok := tok) (ship := ship) (nn := nn) (tl := tl) (draft := draft) (vd := vd) (log := log) (trial := trial) (sta := sta) (says := says) (seed := (nI sd).toInt64) (past := past) (marks := marks) (K := K) (stk := stk) (kn := kn) so hA.over (fun trial tr => ⟨nb rfl, ⟨rfl, nb rfl, t_leader so (tr : Tr trial n log.crew.green log.crew.place log.crew.sucked A.t) ⟨nb rfl, nb rfl, ?_⟩⟩⟩)⟩
  have tr0 : TrA trial n A := ⟨fun k hk => (tr.green k hk).trans (hA.green k hk), fun k hk => (tr.place k hk).trans (hA.place k hk), tr.sucked.trans hA.sucked, tr.over⟩
  have ec : capt log.crew.green n = capt A.g n := capt_congr n6 hA.green
  rw [ec]
  refine up_to (P := fun j => ∀ stk kn trial seed, KOk kn (RV ship.law) → seed = lN (saiA nx vl ship n p z A sd j).2 → TrA trial n (saiA nx vl ship n p z A sd j).1 → XWp (xF L xs) (some .int) xP156 (XC (xF L xs) xmeths (d + 4)) Q 17 [orf 48, oi (nI sd), oi (nI w), oi what, oi (nI (turnsI (fun j => capt (saiA nx vl ship n p z A sd j).1.g n) j)), oi (capt (saiA nx vl ship n p z A sd j).1.g n), oi (nI j)] [] (clsW pn pc tok (ship.wlaw (ship.law.wm stk kn)) nn tl draft vd log trial sta says seed past marks K)) (n := w) (fun j hj ih stk kn trial seed hkn hs tr => xgo [17, 26] 60 ?_) stk kn trial _ hkn es tr0
  have ⟨k1, k2, k3⟩ := sai_ok nv so ao (show sd < 2147483648 by omega) j
  refine pk_le w j (fun q => ?_) (fun q => ?_) rfl rfl (by omega) (by omega)
  · have e : j = w := by omega
    subst e
    have h := h stk kn trial seed hkn
    refine And.intro (fun (q1 : ¬ what = 0) => ?_) (fun (q1 : ¬ ¬ what = 0) => ?_)
    · rw [if_neg q1] at h
      refine And.intro (fun (q2 : ¬ what = 1) => ?_) (fun (q2 : ¬ ¬ what = 1) => ?_)
      · rw [if_neg q2, ← sumF_congr n tr.green] at h
        exact ⟨rfl, nb rfl, c_allGreens_44 n6 so.men h⟩
      · rw [if_pos (Classical.not_not.mp q2)] at h
        exact h
    · rw [if_pos (Classical.not_not.mp q1)] at h
      exact h
  · have ih := ih q
    have body : ∀ (B : TA) (sd' : Nat) trial seed, AOk B n p → B.t = A.t + j → seed = lN sd' → TrA trial n B → saiA nx vl ship n p z A sd (j + 1) = ((folA ship n z 4 0 0 B).2, sd') → XWp (xF L xs) (some .int) xP156 (XC (xF L xs) xmeths (d + 4)) Q 26 [orf 48, oi (nI sd), oi (nI w), oi what, oi (nI (turnsI (fun j => capt (saiA nx vl ship n p z A sd j).1.g n) j)), oi (capt (saiA nx vl ship n p z A sd j).1.g n), oi (nI j)] [] (clsW pn pc tok (ship.wlaw (ship.law.wm stk kn)) nn tl draft vd log trial sta says seed past marks K) := by
      intro B sd' trial seed bo bt hs tr e
      refine xgo [17] 60 ⟨rfl, nb rfl, t_seaNow so tr (by omega) ⟨rfl, nb rfl, t_passWatch so hkn tr bo.gp (so.sea _ (Nat.mod_lt _ so.z1)) (fun stk kn trial hkn tr => ?_)⟩⟩
      have tr : TrA trial n (folA ship n z 4 0 0 B).2 := tr
      have ih := ih stk kn trial seed hkn (by rw [e]; exact hs) (by rw [e]; exact tr)
      rw [turnsI, e, nI_succ] at ih
      refine ⟨rfl, nb rfl, t_leader so tr ?_⟩
      refine And.intro (fun (q2 : capt (folA ship n z 4 0 0 B).2.g n = capt (saiA nx vl ship n p z A sd j).1.g n) => ?_) (fun (q2 : ¬ capt (folA ship n z 4 0 0 B).2.g n = capt (saiA nx vl ship n p z A sd j).1.g n) => ?_)
      · rw [if_pos q2] at ih
        exact ⟨rfl, nb rfl, t_leader so tr ⟨nb rfl, ih⟩⟩
      · rw [if_neg q2, nI_succ] at ih
        exact ⟨rfl, nb rfl, t_leader so tr ⟨nb rfl, ih⟩⟩
    refine pk_le n 0 (fun q1 => ?_) (fun q1 => ?_) so.men nI_0.symm (by omega) (by omega)
    · exact body _ _ trial seed k1 k3 hs tr (by simp only [saiA]; rw [if_neg (by omega)])
    · refine ⟨rfl, nb rfl, c_order nv q1 k2 hs so hkn k1 tr (fun trial seed hs tr => ?_)⟩
      exact body _ _ trial seed (ord_ok nv so q1 k1) (by rw [ord_t]; exact k3) hs tr (by simp only [saiA]; rw [if_pos q1])
end XSL
