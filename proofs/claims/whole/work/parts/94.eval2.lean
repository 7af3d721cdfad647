/-! the levels of a law, worked -/
section XEW
variable {C : Nat → Nat} {l d : Nat} {fv : Int32 → Int32} {vo : Fn}
theorem lev1_ev {T1 T2 : Int32 → TW → TW → Prop} {n : Nat} {op : Nat → Nat} {sub : Nat → RL} (h : EvR fv vo d n T1 sub) (ha : ∀ v W W', T1 v W W' → T2 v W W') (hb : ∀ s, ¬ op s = 0 → ∀ v1 v2 W W1, T1 v1 W W1 → ∃ W2, wkStep vo W1 d (nI (op s)) = (W2, d) ∧ wkOk d (nI (op s)) ∧ W2.bn d = W1.bn d ∧ ∀ W3, T1 v2 W2 W3 → T2 (jnV (nI (opS (op s))) v1 v2) W W3) (hk : ∀ s, ¬ op s = 0 → ¬ nI (opS (op s)) &&& 15 ≤ 4 ∧ ¬ nI (opS (op s)) &&& 15 = 5 ∧ nI (opS (op s)) &&& 15 = nI (opS (op s))) : EvR fv vo d (n + 1) T2 (levP C l op sub 1) := by
  intro s s' st cd e g4
  unfold levP at e
  cases e2 : sub s with
  | inl f => rw [e2] at e; exact (inl_ne e).elim
  | inr r =>
    rcases r with ⟨s1, st1, cd1⟩
    rw [e2] at e
    have pre : ∃ z, st = st1 ++ z := st_pre e
    have m4 : (4 : Int32) ∈ st1 → fv 4 = vo 4 := fun y => g4 (by
      obtain ⟨z, ez⟩ := pre
      rw [ez]
      simp [y])
    obtain ⟨v1, c1, w1⟩ := h _ _ _ _ e2 m4
    dsimp only at e
    rw [lpP] at e
    split at e
    · simp only [Sum.inr.injEq, Prod.mk.injEq] at e
      obtain ⟨rfl, rfl, rfl⟩ := e
      exact ⟨v1, c1.mono (by omega), fun W np => by
        obtain ⟨W', a1, a2, a3, a4⟩ := w1 W np
        exact ⟨W', a1, ha _ _ _ a2, a3, a4⟩⟩
    · rename_i q
      cases e3 : sub (tkX C l s1) with
      | inl f => rw [e3] at e; exact (inl_ne e).elim
      | inr r =>
        rcases r with ⟨s2, st2, cd2⟩
        rw [e3] at e
        simp only [lpP, Sum.inr.injEq, Prod.mk.injEq] at e
        obtain ⟨rfl, rfl, rfl⟩ := e
        have m4 : (4 : Int32) ∈ st2 → fv 4 = vo 4 := fun y => g4 (by simp [y])
        obtain ⟨v2, c2, w2⟩ := h _ _ _ _ e3 m4
        have ⟨k1, k2, k3⟩ := hk s1 q
        refine ⟨jnV (nI (opS (op s1))) v1 v2, CV_op (c1.mono (by omega)) c2 k1 k2 k3, fun W np => ?_⟩
        obtain ⟨W1, a1, a2, a3, a4⟩ := w1 W np
        obtain ⟨W2, b1, b2, b3, b4⟩ := hb s1 q v1 v2 W W1 a2
        have np2 : NPd d W2 := by
          show d = 0 ∨ ¬ W2.bn d = 1
          rw [b3, a3]
          exact np
        obtain ⟨W3, d1, d2, d3, d4⟩ := w2 W2 np2
        have eW : wkL vo (W, d) (cd1 ++ (nI (op s1) :: cd2)) = (W3, d) := by
          rw [wkL_app, a1]
          show wkL vo (wkStep vo W1 d (nI (op s1))) cd2 = _
          rw [b1, d1]
        refine ⟨W3, eW, b4 W3 d2, by rw [d3, b3, a3], ?_⟩
        refine okL_app vo _ _ _ a4 ?_
        rw [a1]
        refine ⟨b2, ?_⟩
        show okL vo (wkStep vo W1 d (nI (op s1))) cd2
        rw [b1]
        exact d4
def Tprt (d : Nat) (v : Int32) (W W' : TW) : Prop := W'.te d = (if W.tb d = 0 then v else W.te d * v) ∧ AgW d W W' ∧ W'.ke d = W.ke d ∧ W'.kb d = W.kb d ∧ W'.ah d = W.ah d ∧ W'.ag d = W.ag d ∧ W'.su d = W.su d ∧ W'.sb d = W.sb d
def Tprd (d : Nat) (v : Int32) (W W' : TW) : Prop := (W.tb d = 0 → W'.te d = v) ∧ AgW d W W' ∧ W'.ke d = W.ke d ∧ W'.kb d = W.kb d ∧ W'.ah d = W.ah d ∧ W'.ag d = W.ag d ∧ W'.su d = W.su d ∧ W'.sb d = W.sb d
abbrev sV (d : Nat) (W : TW) : Int32 := smV (W.sb d) (W.su d) (W.te d)
abbrev gV (d : Nat) (W : TW) : Int32 := agV (W.ag d) (W.ah d) (sV d W)
abbrev kV (d : Nat) (W : TW) : Int32 := kpV (W.kb d) (W.ke d) (gV d W)
def Tsum (d : Nat) (v : Int32) (W W' : TW) : Prop := (W.tb d = 0 ∧ W.su d = 0 ∧ W.sb d = 20 → sV d W' = v) ∧ AgW d W W' ∧ W'.ke d = W.ke d ∧ W'.kb d = W.kb d ∧ W'.ah d = W.ah d ∧ W'.ag d = W.ag d
def Ttst (d : Nat) (v : Int32) (W W' : TW) : Prop := (W.tb d = 0 ∧ W.su d = 0 ∧ W.sb d = 20 ∧ W.ag d = 0 → gV d W' = v) ∧ AgW d W W' ∧ W'.ke d = W.ke d ∧ W'.kb d = W.kb d
def Tall (d : Nat) (v : Int32) (W W' : TW) : Prop := (W.tb d = 0 ∧ W.su d = 0 ∧ W.sb d = 20 ∧ W.ag d = 0 ∧ W.kb d = 0 → kV d W' = v) ∧ AgW d W W'
theorem sm20 (x : Int32) : smV 20 0 x = x := by
  show (if (20 : Int32) = 21 then 0 - x else 0 + x) = x
  rw [if_neg (by decide), Int32.zero_add]
theorem ag_tb {W : TW} {x : Int32} : AgW d W (wkTb W d x) := by
  rcases W with ⟨ke, kb, ah, ag, su, sb, te, tb, bn⟩
  exact fun k hk => ⟨rfl, rfl, rfl, rfl, rfl, rfl, rfl, pk_un (by omega), rfl⟩
theorem ag_sums {W : TW} : AgW d W (wkSums W d) := by
  rcases W with ⟨ke, kb, ah, ag, su, sb, te, tb, bn⟩
  exact fun k hk => ⟨rfl, rfl, rfl, rfl, pk_un (by omega), rfl, rfl, pk_un (by omega), rfl⟩
theorem ag_sb {W : TW} {x : Int32} : AgW d W (wkSb W d x) := by
  rcases W with ⟨ke, kb, ah, ag, su, sb, te, tb, bn⟩
  exact fun k hk => ⟨rfl, rfl, rfl, rfl, rfl, pk_un (by omega), rfl, rfl, rfl⟩
theorem ag_ag {W : TW} {x : Int32} : AgW d W (wkAg W d x) := by
  rcases W with ⟨ke, kb, ah, ag, su, sb, te, tb, bn⟩
  exact fun k hk => ⟨rfl, rfl, pk_un (by omega), pk_un (by omega), pk_un (by omega), pk_un (by omega), rfl, rfl, rfl⟩
theorem ag_t3 {W : TW} : AgW d W (wkT3 W d) := by
  rcases W with ⟨ke, kb, ah, ag, su, sb, te, tb, bn⟩
  exact fun k hk => ⟨pk_un (by omega), rfl, rfl, pk_un (by omega), pk_un (by omega), pk_un (by omega), rfl, rfl, rfl⟩
theorem ag_kb {W : TW} {x : Int32} : AgW d W (wkKb W d x) := by
  rcases W with ⟨ke, kb, ah, ag, su, sb, te, tb, bn⟩
  exact fun k hk => ⟨rfl, pk_un (by omega), rfl, rfl, rfl, rfl, rfl, rfl, rfl⟩
theorem ok_of {c : Nat} (hd : d ≤ 5) (hc : 20 ≤ c) (hc2 : c ≤ 30) (h : ¬ c = 28 ∧ ¬ c = 29 ∧ ¬ c = 30) : wkOk d (nI c) := by
  refine ⟨by omega, fun y => by omega, fun y => ?_, fun y => ?_⟩
  · exact absurd ((nI_eq (b := 29) (by omega) (by omega)).mp y) h.2.1
  · exact nI_pos' (by omega)
theorem prd_ev {n m : Nat} {sub : Nat → RL} (hd : d ≤ 5) (h : EvR fv vo d n (Tprt d) sub) : EvR fv vo d (n + 1) (Tprd d) (levP C l (op1 C l) sub m) := by
  refine lev_ev h (fun v W W' t => ⟨fun y => by rw [t.1, if_pos y], t.2⟩) (fun s q v1 v2 W W1 t => ?_) (fun s q => ?_)
  · have e := (op1_of q).2
    rw [e]
    refine ⟨wkTb W1 d 22, rfl, ok_of hd (by decide) (by decide) (by decide), ?_, fun W3 t3 => ?_⟩
    · rcases W1 with ⟨ke, kb, ah, ag, su, sb, te, tb, bn⟩; rfl
    · obtain ⟨t1, t2, u1, u2, u3, u4, u5, u6⟩ := t
      obtain ⟨r1, r2, x1, x2, x3, x4, x5, x6⟩ := t3
      have ag := ag_tb (d := d) (W := W1) (x := 22)
      rcases W1 with ⟨ke, kb, ah, ag', su, sb, te, tb, bn⟩
      refine ⟨fun y => ?_, (t2.trans ag).trans r2, x1.trans u1, x2.trans u2, x3.trans u3, x4.trans u4, x5.trans u5, x6.trans u6⟩
      rw [r1]
      show (if upd tb d 22 d = 0 then v2 else te d * v2) = _
      rw [pk_us, if_neg (by decide)]
      have z : te d = v1 := t1 y
      rw [z]
      rfl
  · rw [(op1_of q).2]; decide
theorem sum_ev {n m : Nat} {sub : Nat → RL} (hd : d ≤ 5) (h : EvR fv vo d n (Tprd d) sub) : EvR fv vo d (n + 1) (Tsum d) (levP C l (op2 C l) sub m) := by
  refine lev_ev h (fun v W W' t => ⟨fun y => ?_, t.2.1, t.2.2.1, t.2.2.2.1, t.2.2.2.2.1, t.2.2.2.2.2.1⟩) (fun s q v1 v2 W W1 t => ?_) (fun s q => ?_)
  · show smV (W'.sb d) (W'.su d) (W'.te d) = v
    rw [t.2.2.2.2.2.2.2, t.2.2.2.2.2.2.1, t.1 y.1, y.2.1, y.2.2, sm20]
  · have key : ∀ c : Nat, (c = 20 ∨ c = 21) → ∃ W2, wkStep vo W1 d (nI c) = (W2, d) ∧ wkOk d (nI c) ∧ W2.bn d = W1.bn d ∧ ∀ W3, Tprd d v2 W2 W3 → Tsum d (jnV (nI (opS c)) v1 v2) W W3 := by
      intro c hc
      obtain ⟨t1, t2, u1, u2, u3, u4⟩ := t
      refine ⟨wkSb (wkSums W1 d) d (nI c), by rcases hc with rfl | rfl <;> rfl, ok_of hd (by omega) (by omega) (by omega), ?_, fun W3 t3 => ?_⟩
      · rcases W1 with ⟨ke, kb, ah, ag, su, sb, te, tb, bn⟩; rfl
      · obtain ⟨r1, r2, x1, x2, x3, x4, x5, x6⟩ := t3
        have ag1 := (ag_sums (d := d) (W := W1)).trans (ag_sb (d := d) (x := nI c))
        rcases W1 with ⟨ke, kb, ah, ag, su, sb, te, tb, bn⟩
        refine ⟨fun y => ?_, (t2.trans ag1).trans r2, x1.trans u1, x2.trans u2, x3.trans u3, x4.trans u4⟩
        have z : smV (sb d) (su d) (te d) = v1 := t1 y
        have w1 : W3.te d = v2 := r1 (pk_us ..)
        have w2 : W3.su d = v1 := x5.trans ((pk_us ..).trans z)
        have w3 : W3.sb d = nI c := x6.trans (pk_us ..)
        show smV (W3.sb d) (W3.su d) (W3.te d) = _
        rw [w1, w2, w3]
        rcases hc with rfl | rfl <;> rfl
    have ⟨q1, e⟩ := op2_of q
    rw [e]
    refine key _ ?_
    split
    · exact Or.inl rfl
    · exact Or.inr rfl
  · rw [(op2_of q).2]
    split <;> decide
theorem tst_ev {n : Nat} {sub : Nat → RL} (hd : d ≤ 5) (h : EvR fv vo d n (Tsum d) sub) : EvR fv vo d (n + 1) (Ttst d) (levP C l (op3 C l) sub 1) := by
  refine lev1_ev h (fun v W W' t => ⟨fun y => ?_, t.2.1, t.2.2.1, t.2.2.2.1⟩) (fun s q v1 v2 W W1 t => ?_) (fun s q => ?_)
  · show agV (W'.ag d) (W'.ah d) (sV d W') = v
    rw [t.2.2.2.2.2, y.2.2.2, t.1 ⟨y.1, y.2.1, y.2.2.1⟩]
    rfl
  · have key : ∀ c : Nat, (c = 24 ∨ c = 25) → ∃ W2, wkStep vo W1 d (nI c) = (W2, d) ∧ wkOk d (nI c) ∧ W2.bn d = W1.bn d ∧ ∀ W3, Tsum d v2 W2 W3 → Ttst d (jnV (nI (opS c)) v1 v2) W W3 := by
      intro c hc
      obtain ⟨t1, t2, u1, u2, u3, u4⟩ := t
      refine ⟨wkAg (wkSums W1 d) d (nI c), by rcases hc with rfl | rfl <;> rfl, ok_of hd (by omega) (by omega) (by omega), ?_, fun W3 t3 => ?_⟩
      · rcases W1 with ⟨ke, kb, ah, ag, su, sb, te, tb, bn⟩; rfl
      · obtain ⟨r1, r2, x1, x2, x3, x4⟩ := t3
        have ag1 := (ag_sums (d := d) (W := W1)).trans (ag_ag (d := d) (x := nI c))
        rcases W1 with ⟨ke, kb, ah, ag, su, sb, te, tb, bn⟩
        refine ⟨fun y => ?_, (t2.trans ag1).trans r2, x1.trans u1, x2.trans u2⟩
        have z : smV (sb d) (su d) (te d) = v1 := t1 ⟨y.1, y.2.1, y.2.2.1⟩
        have w1 : sV d W3 = v2 := r1 ⟨pk_us .., pk_us .., pk_us ..⟩
        have w2 : W3.ah d = v1 := x3.trans ((pk_us ..).trans ((pk_us ..).trans z))
        have w3 : W3.ag d = nI c := x4.trans (pk_us ..)
        show agV (W3.ag d) (W3.ah d) (sV d W3) = _
        rw [w1, w2, w3]
        rcases hc with rfl | rfl <;> rfl
    have ⟨q1, e⟩ := op3_of q
    rw [e]
    refine key _ ?_
    split
    · exact Or.inl rfl
    · exact Or.inr rfl
  · rw [(op3_of q).2]
    split <;> decide
theorem all_ev {n m : Nat} {sub : Nat → RL} (hd : d ≤ 5) (h : EvR fv vo d n (Ttst d) sub) : EvR fv vo d (n + 1) (Tall d) (levP C l (op4 C l) sub m) := by
  refine lev_ev h (fun v W W' t => ⟨fun y => ?_, t.2.1⟩) (fun s q v1 v2 W W1 t => ?_) (fun s q => ?_)
  · show kpV (W'.kb d) (W'.ke d) (gV d W') = v
    rw [t.2.2.2, y.2.2.2.2, t.1 ⟨y.1, y.2.1, y.2.2.1, y.2.2.2.1⟩]
    rfl
  · have key : ∀ c : Nat, (c = 26 ∨ c = 27) → ∃ W2, wkStep vo W1 d (nI c) = (W2, d) ∧ wkOk d (nI c) ∧ W2.bn d = W1.bn d ∧ ∀ W3, Ttst d v2 W2 W3 → Tall d (jnV (nI (opS c)) v1 v2) W W3 := by
      intro c hc
      obtain ⟨t1, t2⟩ := t
      refine ⟨wkKb (wkTests W1 d) d (nI c), by rcases hc with rfl | rfl <;> rfl, ok_of hd (by omega) (by omega) (by omega), ?_, fun W3 t3 => ?_⟩
      · rcases W1 with ⟨ke, kb, ah, ag, su, sb, te, tb, bn⟩; rfl
      · obtain ⟨r1, r2, x1, x2⟩ := t3
        have ag1 := ((ag_sums (d := d) (W := W1)).trans (ag_t3 (d := d))).trans (ag_kb (d := d) (x := nI c))
        rcases W1 with ⟨ke, kb, ah, ag, su, sb, te, tb, bn⟩
        refine ⟨fun y => ?_, (t2.trans ag1).trans r2⟩
        have z : kpV (kb d) (ke d) (agV (ag d) (ah d) (smV (sb d) (su d) (te d))) = v1 := t1 y
        have w1 : gV d W3 = v2 := r1 ⟨pk_us .., pk_us .., pk_us .., pk_us ..⟩
        have w2 : W3.ke d = v1 := by
          refine x1.trans ?_
          show upd ke d (kpV (kb d) (ke d) (agV (ag d) (ah d) (upd su d (smV (sb d) (su d) (te d)) d))) d = _
          rw [pk_us, pk_us]
          exact z
        have w3 : W3.kb d = nI c := x2.trans (pk_us ..)
        show kpV (W3.kb d) (W3.ke d) (gV d W3) = _
        rw [w1, w2, w3]
        rcases hc with rfl | rfl <;> rfl
    have ⟨q1, e⟩ := op4_of q
    rw [e]
    refine key _ ?_
    split
    · exact Or.inl rfl
    · exact Or.inr rfl
  · rw [(op4_of q).2]
    split <;> decide
end XEW
