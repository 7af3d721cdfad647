def XCm (C : XCt) : Prop := ∀ (y : Nat) (a : List Value) (w : XWd) (Q Q' : XQt), (∀ v w', Q v w' → Q' v w') → C y a w Q → C y a w Q'
def XCx (C : XCt) : Prop := ∀ (y : Nat) (a : List Value) (w : XWd) (Q : XQt), C y a w Q → ∃ v w', Q v w' ∧ w.length ≤ w'.length ∧ xsl w ≤ xsl w' ∧ C y a w (fun a b => a = v ∧ b = w')
theorem xi_mono {F : XF} {rt : Option FieldType} {K K' : XKt} {C C' : XCt} {Q Q' : XQt} {ins : Option Instr} {i : Nat} {loc : XL} {st : List Value} {w : XWd} (hK : ∀ j l s w, K j l s w → K' j l s w)
    (hC : ∀ (y : Nat) (a : List Value) (w : XWd) (Q Q' : XQt), (∀ v w', Q v w' → Q' v w') → C y a w Q → C' y a w Q') (hQ : ∀ v w, Q v w → Q' v w) (h : xi F rt K C Q ins i loc st w) : xi F rt K' C' Q' ins i loc st w := by
  rcases xi_cases h with ⟨j, l, s, w1, h1, -, -, h2⟩ | ⟨v, h1, h2⟩ | ⟨y, a, l, s, h1, h2⟩
  · exact h2 _ _ _ (hK _ _ _ _ h1)
  · exact h2 _ _ _ (hQ _ _ h1)
  · exact h2 _ _ _ (hC _ _ _ _ _ (fun v w' h => hK _ _ _ _ h) h1)
theorem XWp.fold {F : XF} {rt : Option FieldType} {P : List Instr} {C : XCt} {Q : XQt} (hC : XCm C) {i : Nat} {loc : XL} {st : List Value} {w : XWd} (h : xi F rt (XWp F rt P C Q) C Q (xnth P i) i loc st w) : XWp F rt P C Q i loc st w :=
  fun R hR => hR _ _ _ _ (xi_mono (fun _ _ _ _ k => k R hR) hC (fun _ _ h => h) h)
theorem XWp.mono {F : XF} {rt : Option FieldType} {P : List Instr} {C C' : XCt} {Q Q' : XQt} (hC' : XCm C') (hC : ∀ y a w Q, C y a w Q → C' y a w Q) (hQ : ∀ v w, Q v w → Q' v w) {i : Nat} {loc : XL} {st : List Value} {w : XWd} (h : XWp F rt P C Q i loc st w) : XWp F rt P C' Q' i loc st w := by
  refine h (XWp F rt P C' Q') (fun i loc st w g => XWp.fold hC' (xi_mono (fun _ _ _ _ k => k) (fun y a w Q Q' hq hc => hC' y a w Q Q' hq (hC _ _ _ _ hc)) hQ g))
theorem XC_mono {F : XF} {M : List XM} : ∀ d, XCm (XC F M d)
  | 0, _, _, _, _, _, _, h => h
  | d + 1, y, a, w, Q, Q', hq, h => by
    simp only [XC] at h ⊢
    split at h
    · exact ⟨h.1, XWp.mono (XC_mono d) (fun _ _ _ _ h => h) hq h.2⟩
    · exact h.elim
theorem XC_succ {F : XF} {M : List XM} : ∀ d y a w Q, XC F M d y a w Q → XC F M (d + 1) y a w Q
  | 0, _, _, _, _, h => h.elim
  | d + 1, y, a, w, Q, h => by
    rw [XC] at h ⊢
    cases hm : xnth M y with
    | none => rw [hm] at h; exact h.elim
    | some q =>
      obtain ⟨n, rt, P⟩ := q
      rw [hm] at h ⊢
      exact ⟨h.1, XWp.mono (XC_mono (d + 1)) (XC_succ d) (fun _ _ h => h) h.2⟩
theorem XC_le {F : XF} {M : List XM} {d d' : Nat} (hd : d ≤ d') {y : Nat} {a : List Value} {w : XWd} {Q : XQt} (h : XC F M d y a w Q) : XC F M d' y a w Q := by
  induction hd with
  | refl => exact h
  | step _ ih => exact XC_succ _ _ _ _ _ ih
theorem xvc_sound {F : XF} {rt : Option FieldType} {P : List Instr} {C : XCt} {Q : XQt} (hC : XCm C) (S : List Nat) : ∀ (n : Nat) {i : Nat} {loc : XL} {st : List Value} {w : XWd}, xvc F rt P C Q S n i loc st w → XWp F rt P C Q i loc st w
  | 0, _, _, _, _, h => h
  | n + 1, i, loc, st, w, h => by
    have h1 : xi F rt (fun j l s w' => match xin S j with
      | true => XWp F rt P C Q j l s w'
      | false => xvc F rt P C Q S n j l s w') C Q (xnth P i) i loc st w := h
    refine XWp.fold hC (xi_mono (fun j l s w k => ?_) hC (fun _ _ h => h) h1)
    cases hx : xin S j with
    | true => rw [hx] at k; exact k
    | false => rw [hx] at k; exact xvc_sound hC S n k
/-- go on: at most n instructions, as far as S -/
theorem xgo {F : XF} {M : List XM} {d : Nat} {rt : Option FieldType} {P : List Instr} {Q : XQt} (S : List Nat) (n : Nat) {i : Nat} {loc : XL} {st : List Value} {w : XWd} (h : xvc F rt P (XC F M d) Q S n i loc st w) : XWp F rt P (XC F M d) Q i loc st w := xvc_sound (XC_mono d) S n h
theorem XWp.exact {F : XF} {rt : Option FieldType} {P : List Instr} {C : XCt} {Q : XQt} (hm : XCm C) (hx : XCx C) {i : Nat} {loc : XL} {st : List Value} {w : XWd} (h : XWp F rt P C Q i loc st w) :
    ∃ v w', Q v w' ∧ w.length ≤ w'.length ∧ xsl w ≤ xsl w' ∧ XWp F rt P C (fun a b => a = v ∧ b = w') i loc st w := by
  refine h (fun i loc st w => ∃ v w', Q v w' ∧ w.length ≤ w'.length ∧ xsl w ≤ xsl w' ∧ XWp F rt P C (fun a b => a = v ∧ b = w') i loc st w) (fun i loc st w g => ?_)
  rcases xi_cases g with ⟨j, l, s, w1, ⟨v, w', q1, q2, q3, q4⟩, l1, l2, h2⟩ | ⟨v, h1, h2⟩ | ⟨y, a, l, s, h1, h2⟩
  · exact ⟨v, w', q1, Nat.le_trans l1 q2, Nat.le_trans l2 q3, XWp.fold hm (h2 _ _ _ q4)⟩
  · exact ⟨v, w, h1, Nat.le_refl _, Nat.le_refl _, XWp.fold hm (h2 _ _ _ ⟨rfl, rfl⟩)⟩
  · obtain ⟨v1, w1, ⟨v, w', q1, q2, q3, q4⟩, l1, l2, h3⟩ := hx _ _ _ _ h1
    refine ⟨v, w', q1, Nat.le_trans l1 q2, Nat.le_trans l2 q3, XWp.fold hm (h2 _ _ _ (hm _ _ _ _ _ (fun a b hab => ?_) h3))⟩
    obtain ⟨e1, e2⟩ := hab
    subst e1; subst e2
    exact q4
theorem XC_exact {F : XF} {M : List XM} : ∀ d, XCx (XC F M d)
  | 0, _, _, _, _, h => h.elim
  | d + 1, y, a, w, Q, h => by
    simp only [XC] at h
    cases hm : xnth M y with
    | none => rw [hm] at h; exact h.elim
    | some q =>
      obtain ⟨n, rt, P⟩ := q
      rw [hm] at h
      obtain ⟨v, w', h1, h2, h3, h4⟩ := XWp.exact (XC_mono d) (XC_exact d) h.2
      refine ⟨v, w', h1, h2, h3, ?_⟩
      simp only [XC, hm]
      exact ⟨h.1, h4⟩
/-- the same, with points at which one may stop -/
def XWs (F : XF) (rt : Option FieldType) (P : List Instr) (C : XCt) (Q : XQt) (St : XKt) : XKt := fun i loc st w => ∀ R : XKt, (∀ i loc st w, St i loc st w → R i loc st w) → (∀ i loc st w, xi F rt R C Q (xnth P i) i loc st w → R i loc st w) → R i loc st w
def xvs (F : XF) (rt : Option FieldType) (P : List Instr) (C : XCt) (Q : XQt) (St : XKt) (S S2 : List Nat) : Nat → XKt
  | 0 => XWs F rt P C Q St
  | n + 1 => fun i loc st w => xi F rt (fun j l s w' => match xin S2 j with
    | true => St j l s w'
    | false => match xin S j with
      | true => XWs F rt P C Q St j l s w'
      | false => xvs F rt P C Q St S S2 n j l s w') C Q (xnth P i) i loc st w
theorem XWs.fold {F : XF} {rt : Option FieldType} {P : List Instr} {C : XCt} {Q : XQt} {St : XKt} (hC : XCm C) {i : Nat} {loc : XL} {st : List Value} {w : XWd} (h : xi F rt (XWs F rt P C Q St) C Q (xnth P i) i loc st w) : XWs F rt P C Q St i loc st w :=
  fun R hS hR => hR _ _ _ _ (xi_mono (fun _ _ _ _ k => k R hS hR) hC (fun _ _ h => h) h)
theorem xvs_sound {F : XF} {rt : Option FieldType} {P : List Instr} {C : XCt} {Q : XQt} {St : XKt} (hC : XCm C) (S S2 : List Nat) : ∀ (n : Nat) {i : Nat} {loc : XL} {st : List Value} {w : XWd}, xvs F rt P C Q St S S2 n i loc st w → XWs F rt P C Q St i loc st w
  | 0, _, _, _, _, h => h
  | n + 1, i, loc, st, w, h => by
    have h1 : xi F rt (fun j l s w' => match xin S2 j with
      | true => St j l s w'
      | false => match xin S j with
        | true => XWs F rt P C Q St j l s w'
        | false => xvs F rt P C Q St S S2 n j l s w') C Q (xnth P i) i loc st w := h
    refine XWs.fold hC (xi_mono (fun j l s w k => ?_) hC (fun _ _ h => h) h1)
    cases hx2 : xin S2 j with
    | true => rw [hx2] at k; exact fun R hS hR => hS _ _ _ _ k
    | false =>
      rw [hx2] at k
      cases hx : xin S j with
      | true => rw [hx] at k; exact k
      | false => rw [hx] at k; exact xvs_sound hC S S2 n k
