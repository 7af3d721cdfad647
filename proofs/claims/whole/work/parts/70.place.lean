/-! which of a text's words a token is -/
theorem tk_word {C : Nat → Nat} {l s : Nat} (h : tkK C l s = 1) : s < l ∧ (∀ k, s ≤ k → k < tkE C l s → ltN (C k)) ∧ s < tkE C l s ∧ tkE C l s ≤ l ∧ tkE C l s - s ≤ 8 := by
  unfold tkK at h
  split at h
  · omega
  · rename_i q
    split at h
    · rename_i q2
      split at h
      · rename_i q3
        have e : tkE C l s = rnE (fun k => decide (ltN (C k))) (l - s) s := by rw [tkE, if_neg q, if_pos q2]
        have le := tkE_le (C := C) (l := l) (s := s) (by omega)
        refine ⟨by omega, fun k h1 h2 => ?_, le.2.2 (by omega), le.2.1, q3⟩
        rw [e] at h2
        have := rnE_in (P := fun k => decide (ltN (C k))) (l - s) s k h1 h2
        simpa using this
      · omega
    · split at h
      · split at h <;> omega
      · split at h <;> omega
section XPL
variable {L : Nat} {xs : Nat → Int32} {d : Nat} {Q : XQt} {pn pc : Int32} {tok : TTok} {ship : TShip} {nn : Int64} {tl : Int32} {draft : TShip} {vd : TVoy} {log : TLog} {trial : TCrew} {sta : TSta} {says : Fn} {seed : Int64} {past : Nat → TCrew} {marks : Nat → TLog} {K : XWd}
variable {C : Nat → Nat} {l s n a : Nat} {T : Fn} {b : List Int32}
theorem cls_len (hK : K.length < 700000) : (clsW pn pc tok ship nn tl draft vd log trial sta says seed past marks K).length < 1000000 := by
  have e := congrArg List.length (clsW_app (pn := pn) (pc := pc) (tok := tok) (ship := ship) (nn := nn) (tl := tl) (draft := draft) (vd := vd) (log := log) (trial := trial) (sta := sta) (says := says) (seed := seed) (past := past) (marks := marks) (K := K))
  rw [List.length_append, clsW_len] at e
  rw [e]
  omega
theorem c_placeIn {ms : List Nat} {vs : List Nat} (hK : K.length < 700000) (tr : TkR tok T C l s) (rp : RpC T C l) (l1 : l ≤ 1000) (sl : s ≤ l) (ha : SA a n) (hn : xnth xbyts n = some b) (hb : b.length ≤ 200) (hc : ∀ k, k < b.length → b.getD k 0 = nI (chr b k) ∧ chr b k < 128) (hsp : spOk (chr b) b.length 0 ms = true) (hv : vls (chr b) 0 ms = vs) (h : Q (some (.int (if tkK C l s = 1 then plN (wrd C s (tkE C l s - s)) 0 vs else -1))) (clsW pn pc tok ship nn tl draft vd log trial sta says seed past marks K)) : XC (xF L xs) xmeths (d + 5) 37 [.ref 1, .ref a] (clsW pn pc tok ship nn tl draft vd log trial sta says seed past marks K) Q := by
  have hlen := cls_len (pn := pn) (pc := pc) (tok := tok) (ship := ship) (nn := nn) (tl := tl) (draft := draft) (vd := vd) (log := log) (trial := trial) (sta := sta) (says := says) (seed := seed) (past := past) (marks := marks) hK
  have k4 : tkK C l s ≤ 4 := by
    unfold tkK
    repeat' split
    all_goals omega
  refine ⟨nb rfl, xgo [12] 20 ?_⟩
  refine pk_eq (tkK C l s) 1 (fun q => ?_) (fun q => ?_) tr.kind rfl (by omega) (by omega)
  rotate_left
  · rw [if_neg q] at h
    exact h
  rw [if_pos q, ← hv] at h
  clear hv
  refine ⟨nb rfl, nb rfl, nb rfl, ?_⟩
  have ⟨w1, w2, w3, w4, w5⟩ := tk_word q
  generalize hE : tkE C l s = e at *
  have hnx : tok.next = nI e := by rw [← hE]; exact tr.next
  have hst : tok.start = nI s := tr.start
  have hsg : tok.signs = T := tr.signs
  have key : ∀ ms o k, spOk (chr b) b.length o ms = true → o ≤ b.length → k ≤ o → ∀ x5, Q (some (.int (plN (wrd C s (e - s)) k (vls (chr b) o ms)))) (clsW pn pc tok ship nn tl draft vd log trial sta says seed past marks K) → XWp (xF L xs) (some .int) xP37 (XC (xF L xs) xmeths (d + 4)) Q 12 [orf 1, orf a, oi (nI k), oi 0, oi (nI o), x5] [] (clsW pn pc tok ship nn tl draft vd log trial sta says seed past marks K) := by
    intro ms
    induction ms with
    | nil => intro o k hs; simp [spOk] at hs
    | cons m ms ih =>
      intro o k hs ho hko x5 h
      have hall : ∀ j, j < m → 97 ≤ chr b (o + j) ∧ chr b (o + j) ≤ 122 := by
        intro j hj
        unfold spOk at hs
        simp only [Bool.and_eq_true, List.all_eq_true, List.mem_range, decide_eq_true_eq] at hs
        exact hs.2 j hj
      have hm : o + m ≤ b.length ∧ (o + m < b.length → chr b (o + m) = 32) := by
        unfold spOk at hs
        simp only [Bool.and_eq_true] at hs
        have h1 := hs.1
        split at h1
        · have := of_decide_eq_true h1
          omega
        · simp only [Bool.and_eq_true, decide_eq_true_eq] at h1
          exact ⟨by omega, fun _ => h1.1.2⟩
      have hnext : ms = [] ∧ o + m = b.length ∨ spOk (chr b) b.length (o + m + 1) ms = true ∧ o + m < b.length := by
        unfold spOk at hs
        simp only [Bool.and_eq_true] at hs
        have h1 := hs.1
        split at h1
        · exact Or.inl ⟨rfl, of_decide_eq_true h1⟩
        · simp only [Bool.and_eq_true, decide_eq_true_eq] at h1
          exact Or.inr ⟨h1.2, h1.1.1⟩
      rw [vls, plN] at h
      -- behind the word
      have blank : ∀ al : Int32, (al = nI (e - s) ↔ wrd (chr b) o m = wrd C s (e - s)) → XWp (xF L xs) (some .int) xP37 (XC (xF L xs) xmeths (d + 4)) Q 29 [orf 1, orf a, oi (nI k), oi al, oi (nI (o + m)), oi 32] [] (clsW pn pc tok ship nn tl draft vd log trial sta says seed past marks K) := by
        intro al hal
        refine xgo [12] 40 ?_
        have e1 : tok.next - tok.start = nI (e - s) := by rw [hnx, hst]; exact pk_sub (by omega)
        refine And.intro (fun (z : ¬ al = tok.next - tok.start) => ?_) (fun (z : ¬ ¬ al = tok.next - tok.start) => ?_)
        · rw [e1] at z
          rw [if_neg (fun y => z (hal.mpr y))] at h
          have nxt : XWp (xF L xs) (some .int) xP37 (XC (xF L xs) xmeths (d + 4)) Q 12 [orf 1, orf a, oi (nI (k + 1)), oi 0, oi (nI (o + m + 1)), oi 32] [] (clsW pn pc tok ship nn tl draft vd log trial sta says seed past marks K) := by
            rcases hnext with ⟨hms, hom⟩ | ⟨hsp, hom⟩
            · subst hms
              rw [vls, plN] at h
              refine xgo [14] 20 ?_
              refine xg_inv (as := []) (st := [.ref a, .int (nI (o + m + 1))]) rfl rfl hlen ha hn rfl rfl (nb rfl) ?_
              refine c_strLen hlen ha hn ?_
              refine xgo [] 20 ?_
              exact pk_lt b.length (o + m + 1) (fun _ => h) (fun y => by omega) rfl rfl (by omega) (by omega)
            · exact ih (o + m + 1) (k + 1) hsp (by omega) (by omega) _ h
          rw [nI_succ k, nI_succ (o + m)] at nxt
          exact ⟨nb rfl, nxt⟩
        · have z := Classical.not_not.mp z
          rw [e1] at z
          rw [if_pos (hal.mp z)] at h
          exact h
      refine up_to (P := fun j => ∀ (al : Int32) x5, ((j ≤ e - s ∧ ∀ t, t < j → C (s + t) = chr b (o + t)) ∧ al = nI j ∨ ¬ (j ≤ e - s ∧ ∀ t, t < j → C (s + t) = chr b (o + t)) ∧ al = -1) → XWp (xF L xs) (some .int) xP37 (XC (xF L xs) xmeths (d + 4)) Q 12 [orf 1, orf a, oi (nI k), oi al, oi (nI (o + j)), x5] [] (clsW pn pc tok ship nn tl draft vd log trial sta says seed past marks K)) (n := m) (fun j hj ih2 al x5 hal => xgo [14] 20 ?_) 0 x5 (Or.inl ⟨⟨Nat.zero_le _, fun t ht => absurd ht (Nat.not_lt_zero t)⟩, rfl⟩)
      refine xg_inv (as := []) (st := [.ref a, .int (nI (o + j))]) rfl rfl hlen ha hn rfl rfl (nb rfl) ?_
      refine c_strLen hlen ha hn ?_
      refine xgo [18] 20 ?_
      refine pk_lt b.length (o + j) (fun y => by omega) (fun _ => ?_) rfl rfl (by omega) (by omega)
      refine xg_inv (as := []) (st := [.ref a, .int (nI (o + j))]) rfl rfl hlen ha hn rfl rfl (nb rfl) ?_
      refine c_strLen hlen ha hn ?_
      refine xgo [22, 25] 20 ?_
      rcases Nat.lt_or_ge j m with hjm | hjm
      · -- within the word
        have ih2 := ih2 hjm
        have ⟨l1', l2'⟩ := hall j hjm
        have ⟨c1, c2⟩ := hc (o + j) (by omega)
        refine pk_le b.length (o + j) (fun y => by omega) (fun _ => ?_) rfl rfl (by omega) (by omega)
        refine xg_inv (as := [.int (nI (o + j))]) (st := [.int (nI (o + j)), .ref a]) rfl rfl hlen ha hn rfl rfl (nb rfl) ?_
        refine c_charAt hlen ha hn (by omega) (by omega) c1 c2 ?_
        have out : ∀ al, ¬ (j + 1 ≤ e - s ∧ ∀ t, t < j + 1 → C (s + t) = chr b (o + t)) → XWp (xF L xs) (some .int) xP37 (XC (xF L xs) xmeths (d + 4)) Q 62 [orf 1, orf a, oi (nI k), oi al, oi (nI (o + j)), oi (nI (chr b (o + j)))] [] (clsW pn pc tok ship nn tl draft vd log trial sta says seed past marks K) := by
          intro al hno
          have ih2 := ih2 (-1) (oi (nI (chr b (o + j)))) (Or.inr ⟨hno, rfl⟩)
          rw [show o + (j + 1) = (o + j) + 1 by omega, nI_succ] at ih2
          exact xgo [12] 20 ⟨nb rfl, ih2⟩
        refine xgo [12, 62] 60 ⟨nb rfl, ?_⟩
        refine pk_ne (chr b (o + j)) 32 (fun _ => ?_) (fun y => by omega) rfl rfl (by omega) (by omega)
        rcases hal with ⟨⟨a1, a2⟩, rfl⟩ | ⟨a1, rfl⟩
        · refine vF (show ¬ nI j < 0 from nI_pos (by omega)) ?_
          have e3 : tok.start + nI j = nI (s + j) := by rw [hst, nI_add]
          refine pk_le e (s + j) (fun y => out _ (fun z => by omega)) (fun y => ?_) hnx e3 (by omega) (by omega)
          refine ⟨show vp_in (tok.start + nI j) 1000 from e3 ▸ vp_in_nI (by omega) (by omega), ?_⟩
          have e4 : tok.signs (tok.start + nI j).toNatClampNeg = nI (C (s + j)) := by
            rw [e3, nI_clamp (by omega), hsg]
            exact (rp (s + j) (by omega)).1
          have c3 := (rp (s + j) (by omega)).2
          refine pk_ne (C (s + j)) (chr b (o + j)) (fun y2 => out _ (fun z => y2 (z.2 j (by omega)))) (fun y2 => ?_) e4 rfl (by omega) (by omega)
          have ih2 := ih2 (nI j + 1) (oi (nI (chr b (o + j)))) (Or.inl ⟨⟨by omega, fun t ht => by
            rcases Nat.lt_or_ge t j with z | z
            · exact a2 t z
            · have e5 : t = j := by omega
              rw [e5]; exact y2⟩, (nI_succ j).symm⟩)
          rw [show o + (j + 1) = (o + j) + 1 by omega, nI_succ] at ih2
          exact ih2
        · exact vTd rfl (out _ (fun z => a1 ⟨by omega, fun t ht => z.2 t (by omega)⟩))
      · -- behind it
        have ejm : j = m := by omega
        subst ejm
        have hal2 : al = nI (e - s) ↔ wrd (chr b) o j = wrd C s (e - s) := by
          constructor
          · intro z
            rcases hal with ⟨⟨a1, a2⟩, rfl⟩ | ⟨a1, rfl⟩
            · have z := (nI_eq (by omega) (by omega)).mp z
              rw [← z]
              exact wrd_congr j (fun t ht => (a2 t ht).symm)
            · exact absurd z.symm (nIm (by omega))
          · intro z
            have ⟨i1, i2⟩ := wrd_inj j (e - s) hall (fun t ht => w2 (s + t) (by omega) (by omega)) z
            rcases hal with ⟨⟨a1, a2⟩, rfl⟩ | ⟨a1, rfl⟩
            · rw [i1]
            · exact absurd ⟨by omega, fun t ht => (i2 t ht).symm⟩ a1
        have go : XWp (xF L xs) (some .int) xP37 (XC (xF L xs) xmeths (d + 4)) Q 25 [orf 1, orf a, oi (nI k), oi al, oi (nI (o + j)), x5] [.int 32] (clsW pn pc tok ship nn tl draft vd log trial sta says seed past marks K) := xgo [29] 20 ⟨nb rfl, vFd rfl (blank al hal2)⟩
        refine pk_le b.length (o + j) (fun y => ?_) (fun y => ?_) rfl rfl (by omega) (by omega)
        · exact go
        · refine xg_inv (as := [.int (nI (o + j))]) (st := [.int (nI (o + j)), .ref a]) rfl rfl hlen ha hn rfl rfl (nb rfl) ?_
          have ⟨c1, c2⟩ := hc (o + j) y
          refine c_charAt hlen ha hn y (by omega) c1 c2 ?_
          rw [hm.2 y]
          exact xgo [25] 20 go
  exact key ms 0 0 hsp (Nat.zero_le _) (Nat.le_refl 0) none h
end XPL
