/-! the law as it is told: its grammar, and the class's reader of it -/
theorem inl_ne {α β : Type} {a : α} {b : β} (h : (Sum.inl a : Sum α β) = Sum.inr b) : False := by cases h
abbrev RL : Type := Sum Nat (Nat × List Int32 × List Int32)
def op1 (C : Nat → Nat) (l s : Nat) : Nat := if isG C l s 42 then 22 else 0
def op2 (C : Nat → Nat) (l s : Nat) : Nat := if isG C l s 43 then 20 else if isG C l s 45 then 21 else 0
def op3 (C : Nat → Nat) (l s : Nat) : Nat := if isG C l s 60 then 24 else if isG C l s 61 then 25 else 0
def op4 (C : Nat → Nat) (l s : Nat) : Nat := if isW C l s 1111 then 26 else if isW C l s 423 then 27 else 0
def opS (c : Nat) : Nat := if c = 22 then 12 else if c = 20 then 10 else if c = 21 then 11 else if c = 24 then 8 else if c = 25 then 9 else if c = 26 then 6 else 7
def fcN (C : Nat → Nat) (l s : Nat) : Nat := if isW C l s 10634 then 1 else if isW C l s 10553780 then 2 else if isW C l s 16922 then 3 else if isW C l s 582341 then 4 else 0
abbrev plP (C : Nat → Nat) (l s : Nat) : Prop := ¬ fcN C l s = 0 ∨ tkK C l s = 2
def stN (C : Nat → Nat) (l s : Nat) : Nat := if fcN C l s = 0 then 16 * nmV C l s else fcN C l s
def cdN (C : Nat → Nat) (l s : Nat) : Nat := if fcN C l s = 0 then 100 + nmV C l s else fcN C l s
def lpP (C : Nat → Nat) (l : Nat) (op : Nat → Nat) (sub : Nat → RL) : Nat → Nat → List Int32 → List Int32 → RL
  | 0, s, st, cd => .inr (s, st, cd)
  | m + 1, s, st, cd => if op s = 0 then .inr (s, st, cd) else
    match sub (tkX C l s) with
    | .inl f => .inl f
    | .inr (s2, st2, cd2) => lpP C l op sub m s2 (st ++ (st2 ++ [nI (opS (op s))])) (cd ++ (nI (op s) :: cd2))
def levP (C : Nat → Nat) (l : Nat) (op : Nat → Nat) (sub : Nat → RL) (m s : Nat) : RL :=
  match sub s with
  | .inl f => .inl f
  | .inr (s1, st, cd) => lpP C l op sub m s1 st cd
abbrev prdP (C : Nat → Nat) (l : Nat) (part : Nat → RL) : Nat → RL := levP C l (op1 C l) part 1000
abbrev sumP (C : Nat → Nat) (l : Nat) (part : Nat → RL) : Nat → RL := levP C l (op2 C l) (prdP C l part) 1000
abbrev tstP (C : Nat → Nat) (l : Nat) (part : Nat → RL) : Nat → RL := levP C l (op3 C l) (sumP C l part) 1
abbrev allP (C : Nat → Nat) (l : Nat) (part : Nat → RL) : Nat → RL := levP C l (op4 C l) (tstP C l part) 1000
def ntP : RL → RL
  | .inl f => .inl f
  | .inr (s, st, cd) => .inr (s, st ++ [5], 30 :: cd)
def prP (C : Nat → Nat) (l : Nat) : RL → RL
  | .inl f => .inl f
  | .inr (s, st, cd) => if isG C l s 41 then .inr (tkX C l s, st, 28 :: (cd ++ [29])) else .inl (1 + 16 * s)
def parP (C : Nat → Nat) (l : Nat) : Nat → Nat → RL
  | 0, s => if ¬ plP C l s ∧ ¬ isW C l s 10631 ∧ ¬ isG C l s 40 then .inl (1 + 16 * s) else .inl (5 + 16 * s)
  | e + 1, s => if plP C l s then .inr (tkX C l s, [nI (stN C l s)], [nI (cdN C l s)])
    else if isW C l s 10631 then ntP (parP C l e (tkX C l s))
    else if isG C l s 40 then prP C l (allP C l (parP C l e) (tkX C l s))
    else .inl (1 + 16 * s)
/-- a reader goes forward -/
def FwP (l : Nat) (sub : Nat → RL) : Prop := ∀ s, s ≤ l → ∀ s' st cd, sub s = .inr (s', st, cd) → s < s' ∧ s' ≤ l ∧ s + st.length ≤ s' ∧ s + cd.length ≤ s' ∧ 0 < cd.length
theorem tkX_le {C : Nat → Nat} {l s : Nat} (h : s ≤ l) : s ≤ tkX C l s ∧ tkX C l s ≤ l ∧ (s < l → s < tkX C l s) := by
  have h1 := tkE_le (C := C) h
  have h2 := tkS_le (C := C) h1.2.1
  unfold tkX
  omega
theorem op1_lt {C : Nat → Nat} {l s : Nat} (h : ¬ op1 C l s = 0) : s < l := by
  unfold op1 at h
  split at h
  · rename_i q; exact tkK_lt (by rw [q.1]; decide)
  · omega
theorem op2_lt {C : Nat → Nat} {l s : Nat} (h : ¬ op2 C l s = 0) : s < l := by
  unfold op2 at h
  split at h
  · rename_i q; exact tkK_lt (by rw [q.1]; decide)
  · split at h
    · rename_i q; exact tkK_lt (by rw [q.1]; decide)
    · omega
theorem op3_lt {C : Nat → Nat} {l s : Nat} (h : ¬ op3 C l s = 0) : s < l := by
  unfold op3 at h
  split at h
  · rename_i q; exact tkK_lt (by rw [q.1]; decide)
  · split at h
    · rename_i q; exact tkK_lt (by rw [q.1]; decide)
    · omega
theorem op4_lt {C : Nat → Nat} {l s : Nat} (h : ¬ op4 C l s = 0) : s < l := by
  unfold op4 at h
  split at h
  · rename_i q; exact tkK_lt (by rw [q.1]; decide)
  · split at h
    · rename_i q; exact tkK_lt (by rw [q.1]; decide)
    · omega
theorem lp_fw {C : Nat → Nat} {l : Nat} {op : Nat → Nat} {sub : Nat → RL} (ho : ∀ s, ¬ op s = 0 → s < l) (hs : FwP l sub) : ∀ m s0 s st cd, s ≤ l → s0 < s → s0 + st.length ≤ s → s0 + cd.length ≤ s → 0 < cd.length → ∀ s' st' cd', lpP C l op sub m s st cd = .inr (s', st', cd') → s0 < s' ∧ s' ≤ l ∧ s0 + st'.length ≤ s' ∧ s0 + cd'.length ≤ s' ∧ 0 < cd'.length
  | 0, s0, s, st, cd, h1, h2, h3, h4, h5, s', st', cd', h => by
    simp only [lpP, Sum.inr.injEq, Prod.mk.injEq] at h
    obtain ⟨rfl, rfl, rfl⟩ := h
    exact ⟨h2, h1, h3, h4, h5⟩
  | m + 1, s0, s, st, cd, h1, h2, h3, h4, h5, s', st', cd', h => by
    rw [lpP] at h
    split at h
    · simp only [Sum.inr.injEq, Prod.mk.injEq] at h
      obtain ⟨rfl, rfl, rfl⟩ := h
      exact ⟨h2, h1, h3, h4, h5⟩
    · rename_i q
      have hx := tkX_le (C := C) h1
      have hq := ho s q
      cases e : sub (tkX C l s) with
      | inl f => rw [e] at h; exact (inl_ne h).elim
      | inr r =>
        rcases r with ⟨s2, st2, cd2⟩
        rw [e] at h
        have z := hs _ hx.2.1 _ _ _ e
        refine lp_fw ho hs m s0 s2 _ _ z.2.1 (by omega) ?_ ?_ ?_ s' st' cd' h
        · simp only [List.length_append, List.length_cons, List.length_nil]; omega
        · simp only [List.length_append, List.length_cons]; omega
        · simp only [List.length_append, List.length_cons]; omega
theorem lev_fw {C : Nat → Nat} {l : Nat} {op : Nat → Nat} {sub : Nat → RL} {m : Nat} (ho : ∀ s, ¬ op s = 0 → s < l) (hs : FwP l sub) : FwP l (levP C l op sub m) := by
  intro s hsl s' st cd h
  unfold levP at h
  cases e : sub s with
  | inl f => rw [e] at h; exact (inl_ne h).elim
  | inr r =>
    rcases r with ⟨s2, st2, cd2⟩
    rw [e] at h
    have z := hs _ hsl _ _ _ e
    exact lp_fw ho hs m s s2 _ _ z.2.1 z.1 z.2.2.1 z.2.2.2.1 z.2.2.2.2 s' st cd h
theorem all_fw {C : Nat → Nat} {l : Nat} {part : Nat → RL} (h : FwP l part) : FwP l (allP C l part) :=
  lev_fw (fun _ => op4_lt) (lev_fw (fun _ => op3_lt) (lev_fw (fun _ => op2_lt) (lev_fw (fun _ => op1_lt) h)))
theorem fc_lt {C : Nat → Nat} {l s : Nat} (h : ¬ fcN C l s = 0) : tkK C l s = 1 := by
  unfold fcN at h
  split at h
  · rename_i q; exact q.1
  · split at h
    · rename_i q; exact q.1
    · split at h
      · rename_i q; exact q.1
      · split at h
        · rename_i q; exact q.1
        · omega
theorem par_fw {C : Nat → Nat} {l : Nat} : ∀ e, FwP l (parP C l e)
  | 0, s, hsl, s', st, cd, h => by
    rw [parP] at h
    split at h <;> exact (inl_ne h).elim
  | e + 1, s, hsl, s', st, cd, h => by
    have hx := tkX_le (C := C) hsl
    rw [parP] at h
    split at h
    · rename_i q
      have hs : s < l := q.elim (fun q => tkK_lt (by rw [fc_lt q]; decide)) (fun q => tkK_lt (by rw [q]; decide))
      simp only [Sum.inr.injEq, Prod.mk.injEq] at h
      obtain ⟨rfl, rfl, rfl⟩ := h
      simp only [List.length_cons, List.length_nil]
      omega
    · split at h
      · rename_i q
        have hs : s < l := tkK_lt (by rw [q.1]; decide)
        cases e2 : parP C l e (tkX C l s) with
        | inl f => rw [e2] at h; exact (inl_ne h).elim
        | inr r =>
          rcases r with ⟨s2, st2, cd2⟩
          rw [e2] at h
          have z := par_fw e _ hx.2.1 _ _ _ e2
          simp only [ntP, Sum.inr.injEq, Prod.mk.injEq] at h
          obtain ⟨rfl, rfl, rfl⟩ := h
          simp only [List.length_append, List.length_cons, List.length_nil]
          omega
      · split at h
        · rename_i q
          have hs : s < l := tkK_lt (by rw [q.1]; decide)
          cases e2 : allP C l (parP C l e) (tkX C l s) with
          | inl f => rw [e2] at h; exact (inl_ne h).elim
          | inr r =>
            rcases r with ⟨s2, st2, cd2⟩
            rw [e2] at h
            have z := all_fw (par_fw e) _ hx.2.1 _ _ _ e2
            simp only [prP] at h
            split at h
            · rename_i q2
              have hs2 : s2 < l := tkK_lt (by rw [q2.1]; decide)
              have hx2 := tkX_le (C := C) z.2.1
              simp only [Sum.inr.injEq, Prod.mk.injEq] at h
              obtain ⟨rfl, rfl, rfl⟩ := h
              simp only [List.length_append, List.length_cons, List.length_nil]
              omega
            · exact (inl_ne h).elim
        · exact (inl_ne h).elim
/-- a step laid -/
def lwS (L : TLaw) (x : Int32) : TLaw := (upd L.steps L.size.toNatClampNeg x, L.stack, L.known, L.size + 1, if x = 4 then 1 else L.looks)
def lwA (L : TLaw) (st : List Int32) : TLaw := st.foldl lwS L
theorem lwA_app (L : TLaw) (a b : List Int32) : lwA L (a ++ b) = lwA (lwA L a) b := List.foldl_append ..
theorem lwA_size : ∀ (st : List Int32) (L : TLaw) (z : Nat), L.size = nI z → (lwA L st).size = nI (z + st.length)
  | [], _, _, h => h
  | x :: st, L, z, h => by
    have := lwA_size st (lwS L x) (z + 1) (by show L.size + 1 = _; rw [h, nI_succ])
    rw [List.length_cons, show z + (st.length + 1) = z + 1 + st.length by omega]
    exact this
theorem lwA_looks : ∀ (st : List Int32) (L : TLaw), (L.looks = 0 ∨ L.looks = 1) → (lwA L st).looks = 0 ∨ (lwA L st).looks = 1
  | [], _, h => h
  | x :: st, L, h => lwA_looks st (lwS L x) (by
    show (if x = 4 then (1 : Int32) else L.looks) = 0 ∨ (if x = 4 then (1 : Int32) else L.looks) = 1
    split
    · exact Or.inr rfl
    · exact h)
section XLW
variable {L : Nat} {xs : Nat → Int32} {d : Nat} {Q : XQt} {pn pc : Int32} {tok : TTok} {ship : TShip} {nn : Int64} {tl : Int32} {draft : TShip} {vd : TVoy} {log : TLog} {trial : TCrew} {sta : TSta} {says : Fn} {seed : Int64} {past : Nat → TCrew} {marks : Nat → TLog} {K : XWd}
variable {C : Nat → Nat} {l s : Nat} {T : Fn}
theorem c_addStep {k v : Int32} {z : Nat} (hz : draft.law.size = nI z) (z1 : z ≤ 1000) (h1 : z < 1000 → Q none (clsW pn pc tok ship nn tl (draft.wlaw (upd draft.law.steps z (k + 16 * v), draft.law.stack, draft.law.known, draft.law.size + 1, draft.law.looks)) vd log trial sta says seed past marks K)) (h0 : ¬ z < 1000 → Q none (clsW pn pc tok ship nn tl draft vd log trial sta says seed past marks K)) : XC (xF L xs) xmeths (d + 1) 8 [.ref 26, .int k, .int v] (clsW pn pc tok ship nn tl draft vd log trial sta says seed past marks K) Q := by
  refine ⟨nb rfl, xgo [] 60 ?_⟩
  refine pk_le 1000 z (fun q => ⟨rfl, h0 (by omega)⟩) (fun q => ?_) rfl hz (by omega) (by omega)
  have e : draft.law.size.toNatClampNeg = z := by rw [hz, nI_clamp (by omega)]
  refine ⟨show vp_in draft.law.size 1000 from hz ▸ vp_in_nI (by omega) (by omega), ⟨rfl, ?_⟩⟩
  have h1 := h1 (by omega)
  rw [← e] at h1
  exact h1
end XLW
