/-! the reference's way through a law: one loop, told as steps; that it goes the grammar's way -/
def popD (op : Fn) : Nat → Nat
  | 0 => 0
  | d + 1 => if op (d + 1) = 1 then popD op d else d + 1
theorem popD_eq {op op' : Fn} : ∀ d, (∀ k, k ≤ d → op' k = op k) → popD op' d = popD op d
  | 0, _ => rfl
  | d + 1, h => by
    rw [popD, popD, h (d + 1) (Nat.le_refl _), popD_eq d (fun k hk => h k (by omega))]
theorem popD_le {op : Fn} : ∀ d, popD op d ≤ d
  | 0 => Nat.le_refl _
  | d + 1 => by
    have := popD_le (op := op) d
    rw [popD]
    split <;> omega
theorem popD_no {op : Fn} : ∀ d, (d = 0 ∨ ¬ op d = 1) → popD op d = d
  | 0, _ => rfl
  | d + 1, h => by
    rw [popD, if_neg (h.elim (fun y => by omega) id)]
def layF (cs : Fn) (c : Nat) : List Int32 → Fn
  | [] => cs
  | x :: xs => layF (upd cs c x) (c + 1) xs
theorem layF_app : ∀ (a b : List Int32) (cs : Fn) (c : Nat), layF cs c (a ++ b) = layF (layF cs c a) (c + a.length) b
  | [], b, cs, c => rfl
  | x :: a, b, cs, c => by
    rw [List.cons_append, layF, layF, layF_app a b, List.length_cons, show c + 1 + a.length = c + (a.length + 1) by omega]
abbrev HdT : Type := Nat → Nat → Fn → Fn → Fn → Nat → Prop
abbrev Aut (C : Nat → Nat) (l : Nat) (H1 H0 : HdT) (Flt : Nat → Prop) : Prop := (∀ d s op cm cs c, d ≤ 5 → s ≤ l → c ≤ 1000 + s → ¬ plP C l s ∧ ¬ isW C l s 10631 ∧ ¬ isG C l s 40 → Flt (1 + 16 * s) → H1 d s op cm cs c) ∧ (∀ s op cm cs c, s ≤ l → c ≤ 1000 + s → ¬ (¬ plP C l s ∧ ¬ isW C l s 10631 ∧ ¬ isG C l s 40) → Flt (5 + 16 * s) → H1 5 s op cm cs c) ∧ (∀ d s op cm cs c, d < 5 → s < l → c ≤ 1000 + s → plP C l s → H0 (popD op d) (tkX C l s) op cm (upd cs c (nI (cdN C l s))) (c + 1) → H1 d s op cm cs c) ∧ (∀ d s op cm cs c, d < 5 → s < l → c ≤ 1000 + s → isW C l s 10631 → H1 (d + 1) (tkX C l s) (upd op (d + 1) 1) (upd cm (d + 1) 0) (upd cs c 30) (c + 1) → H1 d s op cm cs c) ∧ (∀ d s op cm cs c, d < 5 → s < l → c ≤ 1000 + s → isG C l s 40 → H1 (d + 1) (tkX C l s) (upd op (d + 1) 2) (upd cm (d + 1) 0) (upd cs c 28) (c + 1) → H1 d s op cm cs c) ∧ (∀ d s op cm cs c, d ≤ 5 → s < l → c ≤ 1000 + s → ¬ op1 C l s = 0 → H1 d (tkX C l s) op cm (upd cs c (nI (op1 C l s))) (c + 1) → H0 d s op cm cs c) ∧ (∀ d s op cm cs c, d ≤ 5 → s < l → c ≤ 1000 + s → ¬ op2 C l s = 0 → H1 d (tkX C l s) op cm (upd cs c (nI (op2 C l s))) (c + 1) → H0 d s op cm cs c) ∧ (∀ d s op cm cs c, d ≤ 5 → s < l → c ≤ 1000 + s → ¬ op3 C l s = 0 → cm d = 0 → H1 d (tkX C l s) op (upd cm d 1) (upd cs c (nI (op3 C l s))) (c + 1) → H0 d s op cm cs c) ∧ (∀ d s op cm cs c, d ≤ 5 → s < l → c ≤ 1000 + s → ¬ op4 C l s = 0 → H1 d (tkX C l s) op (upd cm d 0) (upd cs c (nI (op4 C l s))) (c + 1) → H0 d s op cm cs c) ∧ (∀ d s op cm cs c, d < 5 → s < l → c ≤ 1000 + s → isG C l s 41 → H0 (popD op d) (tkX C l s) op cm (upd cs c 29) (c + 1) → H0 (d + 1) s op cm cs c) ∧ (∀ d s op cm cs c, d ≤ 5 → s ≤ l → c ≤ 1000 + s → op1 C l s = 0 → op2 C l s = 0 → op4 C l s = 0 → (op3 C l s = 0 ∨ ¬ cm d = 0) → (isG C l s 41 → d = 0) → (isG C l s 59 → ¬ d = 0) → Flt (1 + 16 * s) → H0 d s op cm cs c)
theorem Aut.none {C : Nat → Nat} {l : Nat} {H1 H0 : HdT} {Flt : Nat → Prop} (h : Aut C l H1 H0 Flt) : ∀ d s op cm cs c, d ≤ 5 → s ≤ l → c ≤ 1000 + s → ¬ plP C l s ∧ ¬ isW C l s 10631 ∧ ¬ isG C l s 40 → Flt (1 + 16 * s) → H1 d s op cm cs c := h.1
theorem Aut.deep {C : Nat → Nat} {l : Nat} {H1 H0 : HdT} {Flt : Nat → Prop} (h : Aut C l H1 H0 Flt) : ∀ s op cm cs c, s ≤ l → c ≤ 1000 + s → ¬ (¬ plP C l s ∧ ¬ isW C l s 10631 ∧ ¬ isG C l s 40) → Flt (5 + 16 * s) → H1 5 s op cm cs c := h.2.1
theorem Aut.plain {C : Nat → Nat} {l : Nat} {H1 H0 : HdT} {Flt : Nat → Prop} (h : Aut C l H1 H0 Flt) : ∀ d s op cm cs c, d < 5 → s < l → c ≤ 1000 + s → plP C l s → H0 (popD op d) (tkX C l s) op cm (upd cs c (nI (cdN C l s))) (c + 1) → H1 d s op cm cs c := h.2.2.1
theorem Aut.nots {C : Nat → Nat} {l : Nat} {H1 H0 : HdT} {Flt : Nat → Prop} (h : Aut C l H1 H0 Flt) : ∀ d s op cm cs c, d < 5 → s < l → c ≤ 1000 + s → isW C l s 10631 → H1 (d + 1) (tkX C l s) (upd op (d + 1) 1) (upd cm (d + 1) 0) (upd cs c 30) (c + 1) → H1 d s op cm cs c := h.2.2.2.1
theorem Aut.opens {C : Nat → Nat} {l : Nat} {H1 H0 : HdT} {Flt : Nat → Prop} (h : Aut C l H1 H0 Flt) : ∀ d s op cm cs c, d < 5 → s < l → c ≤ 1000 + s → isG C l s 40 → H1 (d + 1) (tkX C l s) (upd op (d + 1) 2) (upd cm (d + 1) 0) (upd cs c 28) (c + 1) → H1 d s op cm cs c := h.2.2.2.2.1
theorem Aut.bin1 {C : Nat → Nat} {l : Nat} {H1 H0 : HdT} {Flt : Nat → Prop} (h : Aut C l H1 H0 Flt) : ∀ d s op cm cs c, d ≤ 5 → s < l → c ≤ 1000 + s → ¬ op1 C l s = 0 → H1 d (tkX C l s) op cm (upd cs c (nI (op1 C l s))) (c + 1) → H0 d s op cm cs c := h.2.2.2.2.2.1
theorem Aut.bin2 {C : Nat → Nat} {l : Nat} {H1 H0 : HdT} {Flt : Nat → Prop} (h : Aut C l H1 H0 Flt) : ∀ d s op cm cs c, d ≤ 5 → s < l → c ≤ 1000 + s → ¬ op2 C l s = 0 → H1 d (tkX C l s) op cm (upd cs c (nI (op2 C l s))) (c + 1) → H0 d s op cm cs c := h.2.2.2.2.2.2.1
theorem Aut.cmp {C : Nat → Nat} {l : Nat} {H1 H0 : HdT} {Flt : Nat → Prop} (h : Aut C l H1 H0 Flt) : ∀ d s op cm cs c, d ≤ 5 → s < l → c ≤ 1000 + s → ¬ op3 C l s = 0 → cm d = 0 → H1 d (tkX C l s) op (upd cm d 1) (upd cs c (nI (op3 C l s))) (c + 1) → H0 d s op cm cs c := h.2.2.2.2.2.2.2.1
theorem Aut.con {C : Nat → Nat} {l : Nat} {H1 H0 : HdT} {Flt : Nat → Prop} (h : Aut C l H1 H0 Flt) : ∀ d s op cm cs c, d ≤ 5 → s < l → c ≤ 1000 + s → ¬ op4 C l s = 0 → H1 d (tkX C l s) op (upd cm d 0) (upd cs c (nI (op4 C l s))) (c + 1) → H0 d s op cm cs c := h.2.2.2.2.2.2.2.2.1
theorem Aut.clo {C : Nat → Nat} {l : Nat} {H1 H0 : HdT} {Flt : Nat → Prop} (h : Aut C l H1 H0 Flt) : ∀ d s op cm cs c, d < 5 → s < l → c ≤ 1000 + s → isG C l s 41 → H0 (popD op d) (tkX C l s) op cm (upd cs c 29) (c + 1) → H0 (d + 1) s op cm cs c := h.2.2.2.2.2.2.2.2.2.1
theorem Aut.bad {C : Nat → Nat} {l : Nat} {H1 H0 : HdT} {Flt : Nat → Prop} (h : Aut C l H1 H0 Flt) : ∀ d s op cm cs c, d ≤ 5 → s ≤ l → c ≤ 1000 + s → op1 C l s = 0 → op2 C l s = 0 → op4 C l s = 0 → (op3 C l s = 0 ∨ ¬ cm d = 0) → (isG C l s 41 → d = 0) → (isG C l s 59 → ¬ d = 0) → Flt (1 + 16 * s) → H0 d s op cm cs c := h.2.2.2.2.2.2.2.2.2.2
section XAU
variable {C : Nat → Nat} {l : Nat} {H1 H0 : HdT} {Flt : Nat → Prop}
def PartR (C : Nat → Nat) (l : Nat) (H1 H0 : HdT) (Flt : Nat → Prop) (e : Nat) : Prop := ∀ d s op cm cs c, d + e = 5 → s ≤ l → c ≤ 1000 + s →
  (∀ f, parP C l e s = .inl f → Flt f → H1 d s op cm cs c) ∧
  (∀ s' st cd, parP C l e s = .inr (s', st, cd) → (∀ op' cm', (∀ k, k ≤ d → op' k = op k) → (∀ k, k ≤ d → cm' k = cm k) → H0 (popD op' d) s' op' cm' (layF cs c cd) (c + cd.length)) → H1 d s op cm cs c)
def LevR (C : Nat → Nat) (l : Nat) (H1 H0 : HdT) (Flt : Nat → Prop) (d : Nat) (Pre : Fn → Prop) (Ex : Nat → Fn → Prop) (sub : Nat → RL) : Prop := ∀ s op cm cs c, s ≤ l → c ≤ 1000 + s → (d = 0 ∨ ¬ op d = 1) → Pre cm →
  (∀ f, sub s = .inl f → Flt f → H1 d s op cm cs c) ∧
  (∀ s' st cd, sub s = .inr (s', st, cd) → (∀ op' cm', (∀ k, k ≤ d → op' k = op k) → (∀ k, k < d → cm' k = cm k) → Ex s' cm' → H0 d s' op' cm' (layF cs c cd) (c + cd.length)) → H1 d s op cm cs c)
theorem np_of {op op' : Fn} {d : Nat} (h : d = 0 ∨ ¬ op d = 1) (e : ∀ k, k ≤ d → op' k = op k) : d = 0 ∨ ¬ op' d = 1 := by
  rw [e d (Nat.le_refl _)]
  exact h
theorem lp_pre {opf : Nat → Nat} {sub : Nat → RL} : ∀ {m s st cd s' st' cd'}, lpP C l opf sub m s st cd = .inr (s', st', cd') → ∃ cd2, cd' = cd ++ cd2
  | 0, s, st, cd, s', st', cd', h => by
    simp only [lpP, Sum.inr.injEq, Prod.mk.injEq] at h
    exact ⟨[], by rw [List.append_nil, h.2.2]⟩
  | m + 1, s, st, cd, s', st', cd', h => by
    rw [lpP] at h
    split at h
    · simp only [Sum.inr.injEq, Prod.mk.injEq] at h
      exact ⟨[], by rw [List.append_nil, h.2.2]⟩
    · cases e : sub (tkX C l s) with
      | inl g => rw [e] at h; exact (inl_ne h).elim
      | inr r =>
        rcases r with ⟨s2, st2, cd2⟩
        rw [e] at h
        obtain ⟨cd3, e3⟩ := lp_pre h
        exact ⟨nI (opf s) :: cd2 ++ cd3, by rw [e3]; simp⟩
theorem lp_run {d : Nat} {Pre : Fn → Prop} {Ex : Nat → Fn → Prop} {opf : Nat → Nat} {sub : Nat → RL} (hs : FwP l sub) (ho : ∀ s, ¬ opf s = 0 → s < l) (hsub : LevR C l H1 H0 Flt d Pre Ex sub) (hstep : ∀ s op cm cs c, s < l → c ≤ 1000 + s → ¬ opf s = 0 → Ex s cm → (∀ cm2, Pre cm2 → (∀ k, k < d → cm2 k = cm k) → H1 d (tkX C l s) op cm2 (upd cs c (nI (opf s))) (c + 1)) → H0 d s op cm cs c) : ∀ m s st cd op cm cs c, s ≤ l → l ≤ s + m → c ≤ 1000 + s → (d = 0 ∨ ¬ op d = 1) → Ex s cm →
    (∀ f, lpP C l opf sub m s st cd = .inl f → Flt f → H0 d s op cm cs c) ∧
    (∀ s' st' cd', lpP C l opf sub m s st cd = .inr (s', st', cd') → ∃ cd2, cd' = cd ++ cd2 ∧ ((∀ op' cm', (∀ k, k ≤ d → op' k = op k) → (∀ k, k < d → cm' k = cm k) → Ex s' cm' → opf s' = 0 → H0 d s' op' cm' (layF cs c cd2) (c + cd2.length)) → H0 d s op cm cs c)) := by
  intro m
  induction m with
  | zero =>
    intro s st cd op cm cs c sl lm cb np ex
    refine ⟨fun f h => (by rw [lpP] at h; cases h), fun s' st' cd' h => ?_⟩
    simp only [lpP, Sum.inr.injEq, Prod.mk.injEq] at h
    obtain ⟨rfl, rfl, rfl⟩ := h
    refine ⟨[], by rw [List.append_nil], fun k => k op cm (fun _ _ => rfl) (fun _ _ => rfl) ex ?_⟩
    exact Classical.byContradiction (fun y => by have := ho _ y; omega)
  | succ m ih =>
    intro s st cd op cm cs c sl lm cb np ex
    rw [lpP]
    by_cases q : opf s = 0
    · rw [if_pos q]
      refine ⟨fun f h => (by cases h), fun s' st' cd' h => ?_⟩
      simp only [Sum.inr.injEq, Prod.mk.injEq] at h
      obtain ⟨rfl, rfl, rfl⟩ := h
      exact ⟨[], by rw [List.append_nil], fun k => k op cm (fun _ _ => rfl) (fun _ _ => rfl) ex q⟩
    rw [if_neg q]
    have hsl := ho s q
    have hx := tkX_le (C := C) sl
    have hx3 := hx.2.2 hsl
    cases e : sub (tkX C l s) with
    | inl g =>
      refine ⟨fun f h fl => ?_, fun s' st' cd' h => (inl_ne h).elim⟩
      have h : Sum.inl g = Sum.inl f := h
      cases h
      refine hstep s op cm cs c hsl cb q ex (fun cm2 pre ag => ?_)
      exact (hsub _ op cm2 _ _ hx.2.1 (by omega) np pre).1 g e fl
    | inr r =>
      rcases r with ⟨s2, st2, cd2⟩
      have fw := hs _ hx.2.1 _ _ _ e
      refine ⟨fun f h fl => ?_, fun s' st' cd' h => ?_⟩
      · refine hstep s op cm cs c hsl cb q ex (fun cm2 pre ag => ?_)
        refine (hsub _ op cm2 _ _ hx.2.1 (by omega) np pre).2 s2 st2 cd2 e (fun op' cm' a1 a2 a3 => ?_)
        exact (ih s2 _ _ op' cm' _ _ fw.2.1 (by omega) (by omega) (np_of np a1) a3).1 f h fl
      · have key := fun op' cm' cs' c' w1 w2 w3 => (ih s2 (st ++ (st2 ++ [nI (opS (opf s))])) (cd ++ (nI (opf s) :: cd2)) op' cm' cs' c' fw.2.1 (by omega) w1 w2 w3).2 s' st' cd' h
        have hex : ∃ cd3, cd' = cd ++ (nI (opf s) :: cd2) ++ cd3 := by
          clear ih key hstep hsub
          exact lp_pre h
        obtain ⟨cd3, e3⟩ := hex
        refine ⟨nI (opf s) :: cd2 ++ cd3, by rw [e3]; simp, fun k => ?_⟩
        refine hstep s op cm cs c hsl cb q ex (fun cm2 pre ag => ?_)
        refine (hsub _ op cm2 _ _ hx.2.1 (by omega) np pre).2 s2 st2 cd2 e (fun op' cm' a1 a2 a3 => ?_)
        obtain ⟨cd4, e4, key⟩ := key op' cm' (layF (upd cs c (nI (opf s))) (c + 1) cd2) (c + 1 + cd2.length) (by omega) (np_of np a1) a3
        have e5 : cd4 = cd3 := List.append_cancel_left (e4.symm.trans e3)
        subst e5
        refine key (fun op2 cm3 b1 b2 b3 b4 => ?_)
        have k := k op2 cm3 (fun j hj => (b1 j hj).trans (a1 j hj)) (fun j hj => (b2 j hj).trans ((a2 j hj).trans (ag j hj))) b3 b4
        rw [List.cons_append, layF, layF_app, List.length_cons, List.length_append, show c + (cd2.length + cd4.length + 1) = c + 1 + cd2.length + cd4.length by omega] at k
        exact k
theorem lev_run {d : Nat} {Pre : Fn → Prop} {Ex : Nat → Fn → Prop} {opf : Nat → Nat} {sub : Nat → RL} (l1 : l ≤ 1000) (hs : FwP l sub) (ho : ∀ s, ¬ opf s = 0 → s < l) (hsub : LevR C l H1 H0 Flt d Pre Ex sub) (hstep : ∀ s op cm cs c, s < l → c ≤ 1000 + s → ¬ opf s = 0 → Ex s cm → (∀ cm2, Pre cm2 → (∀ k, k < d → cm2 k = cm k) → H1 d (tkX C l s) op cm2 (upd cs c (nI (opf s))) (c + 1)) → H0 d s op cm cs c) : LevR C l H1 H0 Flt d Pre (fun s cm => Ex s cm ∧ opf s = 0) (levP C l opf sub 1000) := by
  intro s op cm cs c sl cb np pre
  unfold levP
  cases e : sub s with
  | inl g =>
    refine ⟨fun f h fl => ?_, fun s' st' cd' h => (inl_ne h).elim⟩
    have h : Sum.inl g = Sum.inl f := h
    cases h
    exact (hsub s op cm cs c sl cb np pre).1 g e fl
  | inr r =>
    rcases r with ⟨s1, st1, cd1⟩
    have fw := hs _ sl _ _ _ e
    refine ⟨fun f h fl => ?_, fun s' st' cd' h k => ?_⟩
    · refine (hsub s op cm cs c sl cb np pre).2 s1 st1 cd1 e (fun op' cm' a1 a2 a3 => ?_)
      exact (lp_run hs ho hsub hstep 1000 s1 st1 cd1 op' cm' _ _ fw.2.1 (by omega) (by omega) (np_of np a1) a3).1 f h fl
    · refine (hsub s op cm cs c sl cb np pre).2 s1 st1 cd1 e (fun op' cm' a1 a2 a3 => ?_)
      obtain ⟨cd2, e2, key⟩ := (lp_run hs ho hsub hstep 1000 s1 st1 cd1 op' cm' (layF cs c cd1) (c + cd1.length) fw.2.1 (by omega) (by omega) (np_of np a1) a3).2 s' st' cd' h
      subst e2
      refine key (fun op2 cm3 b1 b2 b3 b4 => ?_)
      have k := k op2 cm3 (fun j hj => (b1 j hj).trans (a1 j hj)) (fun j hj => (b2 j hj).trans (a2 j hj)) ⟨b3, b4⟩
      rw [layF_app, List.length_append, show c + (cd1.length + cd2.length) = c + cd1.length + cd2.length by omega] at k
      exact k
theorem LevR.weak {d : Nat} {Pre : Fn → Prop} {Ex Ex' : Nat → Fn → Prop} {sub : Nat → RL} (h : LevR C l H1 H0 Flt d Pre Ex sub) (w : ∀ s cm, Ex s cm → Ex' s cm) : LevR C l H1 H0 Flt d Pre Ex' sub := by
  intro s op cm cs c sl cb np pre
  refine ⟨(h s op cm cs c sl cb np pre).1, fun s' st' cd' e k => ?_⟩
  exact (h s op cm cs c sl cb np pre).2 s' st' cd' e (fun op' cm' a1 a2 a3 => k op' cm' a1 a2 (w _ _ a3))
/-- the four levels over a part, at one depth -/
theorem levs_run {d e : Nat} (l1 : l ≤ 1000) (A : Aut C l H1 H0 Flt) (hd : d + e = 5) (hp : PartR C l H1 H0 Flt e) : LevR C l H1 H0 Flt d (fun cm => cm d = 0) (fun s cm => (op1 C l s = 0 ∧ op2 C l s = 0 ∧ (op3 C l s = 0 ∨ ¬ cm d = 0)) ∧ op4 C l s = 0) (allP C l (parP C l e)) := by
  have f0 := par_fw (C := C) (l := l) e
  have f1 := lev_fw (C := C) (m := 1000) (op := op1 C l) (fun _ => op1_lt) f0
  have f2 := lev_fw (C := C) (m := 1000) (op := op2 C l) (fun _ => op2_lt) f1
  have f3 := lev_fw (C := C) (m := 1) (op := op3 C l) (fun _ => op3_lt) f2
  have r0 : ∀ x : Int32, LevR C l H1 H0 Flt d (fun cm => cm d = x) (fun s cm => cm d = x) (parP C l e) := by
    intro x s op cm cs c sl cb np pre
    refine ⟨(hp d s op cm cs c hd sl cb).1, fun s' st cd e k => ?_⟩
    refine (hp d s op cm cs c hd sl cb).2 s' st cd e (fun op' cm' a1 a2 => ?_)
    rw [popD_no d (np_of np a1)]
    exact k op' cm' a1 (fun j hj => a2 j (by omega)) ((a2 d (Nat.le_refl _)).trans pre)
  have r1 : ∀ x : Int32, LevR C l H1 H0 Flt d (fun cm => cm d = x) (fun s cm => cm d = x ∧ op1 C l s = 0) (prdP C l (parP C l e)) := by
    intro x
    exact lev_run l1 f0 (fun _ => op1_lt) (r0 x) (fun s op cm cs c sl cb q ex k => A.bin1 d s op cm cs c (by omega) sl cb q (k cm ex (fun _ _ => rfl)))
  have r2 : ∀ x : Int32, LevR C l H1 H0 Flt d (fun cm => cm d = x) (fun s cm => (cm d = x ∧ op1 C l s = 0) ∧ op2 C l s = 0) (sumP C l (parP C l e)) := by
    intro x
    exact lev_run l1 f1 (fun _ => op2_lt) (r1 x) (fun s op cm cs c sl cb q ex k => A.bin2 d s op cm cs c (by omega) sl cb q (k cm ex.1 (fun _ _ => rfl)))
  have r3 : LevR C l H1 H0 Flt d (fun cm => cm d = 0) (fun s cm => op1 C l s = 0 ∧ op2 C l s = 0 ∧ (op3 C l s = 0 ∨ ¬ cm d = 0)) (tstP C l (parP C l e)) := by
    intro s op cm cs c sl cb np pre
    unfold tstP levP
    cases e1 : sumP C l (parP C l e) s with
    | inl g =>
      refine ⟨fun f h fl => ?_, fun s' st' cd' h => (inl_ne h).elim⟩
      have h : Sum.inl g = Sum.inl f := h
      cases h
      exact (r2 0 s op cm cs c sl cb np pre).1 g e1 fl
    | inr r =>
      rcases r with ⟨s1, st1, cd1⟩
      have fw := f2 _ sl _ _ _ e1
      have key := (r2 0 s op cm cs c sl cb np pre).2 s1 st1 cd1 e1
      dsimp only
      rw [lpP]
      by_cases q : op3 C l s1 = 0
      · rw [if_pos q]
        refine ⟨fun f h => (by cases h), fun s' st' cd' h k => key (fun op' cm' a1 a2 a3 => ?_)⟩
        simp only [Sum.inr.injEq, Prod.mk.injEq] at h
        obtain ⟨rfl, rfl, rfl⟩ := h
        exact k op' cm' a1 a2 ⟨a3.1.2, a3.2, Or.inl q⟩
      rw [if_neg q]
      have hsl := op3_lt q
      have hx := tkX_le (C := C) fw.2.1
      have hx3 := hx.2.2 hsl
      cases e2 : sumP C l (parP C l e) (tkX C l s1) with
      | inl g =>
        refine ⟨fun f h fl => key (fun op' cm' a1 a2 a3 => ?_), fun s' st' cd' h => (inl_ne h).elim⟩
        have h : Sum.inl g = Sum.inl f := h
        cases h
        refine A.cmp d s1 op' cm' _ _ (by omega) hsl (by omega) q a3.1.1 ?_
        exact (r2 1 _ op' _ _ _ hx.2.1 (by omega) (np_of np a1) (pk_us ..)).1 g e2 fl
      | inr r =>
        rcases r with ⟨s2, st2, cd2⟩
        refine ⟨fun f h => (by simp only [lpP] at h; cases h), fun s' st' cd' h k => key (fun op' cm' a1 a2 a3 => ?_)⟩
        simp only [lpP, Sum.inr.injEq, Prod.mk.injEq] at h
        obtain ⟨rfl, rfl, rfl⟩ := h
        refine A.cmp d s1 op' cm' _ _ (by omega) hsl (by omega) q a3.1.1 ?_
        refine (r2 1 _ op' _ _ _ hx.2.1 (by omega) (np_of np a1) (pk_us ..)).2 s2 st2 cd2 e2 (fun op2 cm2 b1 b2 b3 => ?_)
        have k := k op2 cm2 (fun j hj => (b1 j hj).trans (a1 j hj)) (fun j hj => (b2 j hj).trans ((pk_un (by omega)).trans (a2 j hj))) ⟨b3.1.2, b3.2, Or.inr (by rw [b3.1.1]; decide)⟩
        rw [layF_app, layF, List.length_append, List.length_cons, show c + (cd1.length + (cd2.length + 1)) = c + cd1.length + 1 + cd2.length by omega] at k
        exact k
  exact lev_run l1 f3 (fun _ => op4_lt) r3 (fun s op cm cs c sl cb q ex k => A.con d s op cm cs c (by omega) sl cb q (k _ (pk_us ..) (fun j hj => pk_un (by omega))))
theorem part_run (l1 : l ≤ 1000) (A : Aut C l H1 H0 Flt) : ∀ e, PartR C l H1 H0 Flt e
  | 0 => by
    intro d s op cm cs c hd sl cb
    have hd : d = 5 := by omega
    subst hd
    rw [parP]
    split
    · rename_i q
      refine ⟨fun f h fl => ?_, fun s' st cd h => (inl_ne h).elim⟩
      cases h
      exact A.none 5 s op cm cs c (by omega) sl cb q fl
    · rename_i q
      refine ⟨fun f h fl => ?_, fun s' st cd h => (inl_ne h).elim⟩
      cases h
      exact A.deep s op cm cs c sl cb q fl
  | e + 1 => by
    have ih := part_run l1 A e
    intro d s op cm cs c hd sl cb
    have hx := tkX_le (C := C) sl
    rw [parP]
    by_cases q : plP C l s
    · rw [if_pos q]
      have hsl : s < l := q.elim (fun q => tkK_lt (by rw [fc_lt q]; decide)) (fun q => tkK_lt (by rw [q]; decide))
      refine ⟨fun f h => (by cases h), fun s' st cd h k => ?_⟩
      simp only [Sum.inr.injEq, Prod.mk.injEq] at h
      obtain ⟨rfl, rfl, rfl⟩ := h
      exact A.plain d s op cm cs c (by omega) hsl cb q (k op cm (fun _ _ => rfl) (fun _ _ => rfl))
    rw [if_neg q]
    by_cases q2 : isW C l s 10631
    · rw [if_pos q2]
      have hsl : s < l := tkK_lt (by rw [q2.1]; decide)
      have hx3 := hx.2.2 hsl
      have ih := ih (d + 1) (tkX C l s) (upd op (d + 1) 1) (upd cm (d + 1) 0) (upd cs c 30) (c + 1) (by omega) hx.2.1 (by omega)
      cases e2 : parP C l e (tkX C l s) with
      | inl g =>
        refine ⟨fun f h fl => ?_, fun s' st' cd' h => (inl_ne h).elim⟩
        have h : Sum.inl g = Sum.inl f := h
        cases h
        exact A.nots d s op cm cs c (by omega) hsl cb q2 (ih.1 g e2 fl)
      | inr r =>
        rcases r with ⟨s2, st2, cd2⟩
        refine ⟨fun f h => (by simp only [ntP] at h; cases h), fun s' st cd h k => ?_⟩
        simp only [ntP, Sum.inr.injEq, Prod.mk.injEq] at h
        obtain ⟨rfl, rfl, rfl⟩ := h
        refine A.nots d s op cm cs c (by omega) hsl cb q2 (ih.2 s2 st2 cd2 e2 (fun op' cm' a1 a2 => ?_))
        have o1 : op' (d + 1) = 1 := (a1 (d + 1) (Nat.le_refl _)).trans (pk_us ..)
        rw [popD, if_pos o1]
        have k := k op' cm' (fun j hj => (a1 j (by omega)).trans (pk_un (by omega))) (fun j hj => (a2 j (by omega)).trans (pk_un (by omega)))
        rw [layF, List.length_cons, show c + (cd2.length + 1) = c + 1 + cd2.length by omega] at k
        exact k
    rw [if_neg q2]
    by_cases q3 : isG C l s 40
    · rw [if_pos q3]
      have hsl : s < l := tkK_lt (by rw [q3.1]; decide)
      have hx3 := hx.2.2 hsl
      have np : d + 1 = 0 ∨ ¬ upd op (d + 1) 2 (d + 1) = 1 := Or.inr (by rw [pk_us]; decide)
      have lv := levs_run (d := d + 1) l1 A (by omega) ih (tkX C l s) (upd op (d + 1) 2) (upd cm (d + 1) 0) (upd cs c 28) (c + 1) hx.2.1 (by omega) np (pk_us ..)
      cases e2 : allP C l (parP C l e) (tkX C l s) with
      | inl g =>
        refine ⟨fun f h fl => ?_, fun s' st' cd' h => (inl_ne h).elim⟩
        have h : Sum.inl g = Sum.inl f := h
        cases h
        exact A.opens d s op cm cs c (by omega) hsl cb q3 (lv.1 g e2 fl)
      | inr r =>
        rcases r with ⟨s2, st2, cd2⟩
        have fw := all_fw (par_fw e) _ hx.2.1 _ _ _ e2
        by_cases q4 : isG C l s2 41
        · simp only [prP, if_pos q4]
          have hsl2 : s2 < l := tkK_lt (by rw [q4.1]; decide)
          refine ⟨fun f h => (by cases h), fun s' st cd h k => ?_⟩
          simp only [Sum.inr.injEq, Prod.mk.injEq] at h
          obtain ⟨rfl, rfl, rfl⟩ := h
          refine A.opens d s op cm cs c (by omega) hsl cb q3 (lv.2 s2 st2 cd2 e2 (fun op' cm' a1 a2 a3 => ?_))
          refine A.clo d s2 op' cm' _ _ (by omega) hsl2 (by omega) q4 ?_
          have k := k op' cm' (fun j hj => (a1 j (by omega)).trans (pk_un (by omega))) (fun j hj => (a2 j (by omega)).trans (pk_un (by omega)))
          rw [layF, layF_app, layF, layF, List.length_cons, List.length_append, List.length_cons, List.length_nil, show c + (cd2.length + (0 + 1) + 1) = c + 1 + cd2.length + 1 by omega] at k
          exact k
        · simp only [prP, if_neg q4]
          refine ⟨fun f h fl => ?_, fun s' st' cd' h => (inl_ne h).elim⟩
          cases h
          refine A.opens d s op cm cs c (by omega) hsl cb q3 (lv.2 s2 st2 cd2 e2 (fun op' cm' a1 a2 a3 => ?_))
          exact A.bad (d + 1) s2 op' cm' _ _ (by omega) fw.2.1 (by omega) a3.1.1 a3.1.2.1 a3.2 a3.1.2.2 (fun y => absurd y q4) (fun _ => by omega) fl
    rw [if_neg q3]
    refine ⟨fun f h fl => ?_, fun s' st' cd' h => (inl_ne h).elim⟩
    cases h
    exact A.none d s op cm cs c (by omega) sl cb ⟨q, q2, q3⟩ fl
/-- the whole law -/
theorem law_run (l1 : l ≤ 1000) (A : Aut C l H1 H0 Flt) : LevR C l H1 H0 Flt 0 (fun cm => cm 0 = 0) (fun s cm => (op1 C l s = 0 ∧ op2 C l s = 0 ∧ (op3 C l s = 0 ∨ ¬ cm 0 = 0)) ∧ op4 C l s = 0) (allP C l (parP C l 5)) := levs_run (d := 0) l1 A rfl (part_run l1 A 5)
end XAU
