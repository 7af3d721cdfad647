set_option maxHeartbeats 4000000 in
/-- what one instruction comes to: it goes on; or the method ends; or it calls -/
theorem xi_cases {F : XF} {rt : Option FieldType} {K : XKt} {C : XCt} {Q : XQt} {ins : Option Instr} {i : Nat} {loc : XL} {st : List Value} {w : XWd} (h : xi F rt K C Q ins i loc st w) :
    (∃ (j : Nat) (l : XL) (s : List Value) (w1 : XWd), K j l s w1 ∧ w.length ≤ w1.length ∧ xsl w ≤ xsl w1 ∧ ∀ (K' : XKt) (C' : XCt) (Q' : XQt), K' j l s w1 → xi F rt K' C' Q' ins i loc st w) ∨
    (∃ v : Option Value, Q v w ∧ ∀ (K' : XKt) (C' : XCt) (Q' : XQt), Q' v w → xi F rt K' C' Q' ins i loc st w) ∨
    (∃ (y : Nat) (a : List Value) (l : XL) (s : List Value), C y a w (fun v w' => K (i + 1) l (v.toList ++ s) w') ∧ ∀ (K' : XKt) (C' : XCt) (Q' : XQt), C' y a w (fun v w' => K' (i + 1) l (v.toList ++ s) w') → xi F rt K' C' Q' ins i loc st w) := by
  have le := Nat.le_refl w.length
  have ls := Nat.le_refl (xsl w)
  cases ins with
  | none => exact (show False from h).elim
  | some ins =>
    cases ins with
    | iconst n => exact Or.inl ⟨_, _, _, _, h, le, ls, fun K' C' Q' h' => h'⟩
    | ldc2_w n => exact Or.inl ⟨_, _, _, _, h, le, ls, fun K' C' Q' h' => h'⟩
    | ldc n => exact Or.inl ⟨_, _, _, _, h, le, ls, fun K' C' Q' h' => h'⟩
    | goto t => exact Or.inl ⟨_, _, _, _, h, le, ls, fun K' C' Q' h' => h'⟩
    | getstatic n =>
      cases n with
      | zero => exact Or.inl ⟨_, _, _, _, h, le, ls, fun K' C' Q' h' => h'⟩
      | succ n => exact Or.inl ⟨_, _, _, _, h, le, ls, fun K' C' Q' h' => h'⟩
    | iload k =>
      obtain ⟨v, e, h⟩ := xld_of h
      cases v with
      | int x => exact Or.inl ⟨_, _, _, _, h, le, ls, fun K' C' Q' h' => xld_mk e h'⟩
      | _ => exact (show False from h).elim
    | lload k =>
      obtain ⟨v, e, h⟩ := xld_of h
      cases v with
      | long x => exact Or.inl ⟨_, _, _, _, h, le, ls, fun K' C' Q' h' => xld_mk e h'⟩
      | _ => exact (show False from h).elim
    | aload k =>
      obtain ⟨v, e, h⟩ := xld_of h
      cases v with
      | ref x => exact Or.inl ⟨_, _, _, _, h, le, ls, fun K' C' Q' h' => xld_mk e h'⟩
      | _ => exact (show False from h).elim
    | iinc k n =>
      obtain ⟨v, e, h⟩ := xld_of h
      cases v with
      | int x => exact Or.inl ⟨_, _, _, _, h, le, ls, fun K' C' Q' h' => xld_mk e h'⟩
      | _ => exact (show False from h).elim
    | istore k =>
      obtain ⟨x, r, rfl, h⟩ := x1_of h
      exact Or.inl ⟨_, _, _, _, h.2, le, ls, fun K' C' Q' h' => ⟨h.1, h'⟩⟩
    | lstore k =>
      obtain ⟨x, r, rfl, h⟩ := x1l_of h
      exact Or.inl ⟨_, _, _, _, h.2, le, ls, fun K' C' Q' h' => ⟨h.1, h'⟩⟩
    | astore k =>
      obtain ⟨x, r, rfl, h⟩ := x1r_of h
      exact Or.inl ⟨_, _, _, _, h.2, le, ls, fun K' C' Q' h' => ⟨h.1, h'⟩⟩
    | iadd =>
      have h2 := x2_of h; clear h; obtain ⟨x, y, r, e0, h⟩ := h2; subst e0
      exact Or.inl ⟨_, _, _, _, h, le, ls, fun K' C' Q' h' => h'⟩
    | isub =>
      have h2 := x2_of h; clear h; obtain ⟨x, y, r, e0, h⟩ := h2; subst e0
      exact Or.inl ⟨_, _, _, _, h, le, ls, fun K' C' Q' h' => h'⟩
    | imul =>
      have h2 := x2_of h; clear h; obtain ⟨x, y, r, e0, h⟩ := h2; subst e0
      exact Or.inl ⟨_, _, _, _, h, le, ls, fun K' C' Q' h' => h'⟩
    | iand =>
      have h2 := x2_of h; clear h; obtain ⟨x, y, r, e0, h⟩ := h2; subst e0
      exact Or.inl ⟨_, _, _, _, h, le, ls, fun K' C' Q' h' => h'⟩
    | ior =>
      have h2 := x2_of h; clear h; obtain ⟨x, y, r, e0, h⟩ := h2; subst e0
      exact Or.inl ⟨_, _, _, _, h, le, ls, fun K' C' Q' h' => h'⟩
    | ixor =>
      have h2 := x2_of h; clear h; obtain ⟨x, y, r, e0, h⟩ := h2; subst e0
      exact Or.inl ⟨_, _, _, _, h, le, ls, fun K' C' Q' h' => h'⟩
    | ishl =>
      have h2 := x2_of h; clear h; obtain ⟨x, y, r, e0, h⟩ := h2; subst e0
      exact Or.inl ⟨_, _, _, _, h, le, ls, fun K' C' Q' h' => h'⟩
    | ishr =>
      have h2 := x2_of h; clear h; obtain ⟨x, y, r, e0, h⟩ := h2; subst e0
      exact Or.inl ⟨_, _, _, _, h, le, ls, fun K' C' Q' h' => h'⟩
    | iushr =>
      have h2 := x2_of h; clear h; obtain ⟨x, y, r, e0, h⟩ := h2; subst e0
      exact Or.inl ⟨_, _, _, _, h, le, ls, fun K' C' Q' h' => h'⟩
    | idiv =>
      have h2 := x2_of h; clear h; obtain ⟨x, y, r, e0, h⟩ := h2; subst e0
      exact Or.inl ⟨_, _, _, _, h.2, le, ls, fun K' C' Q' h' => ⟨h.1, h'⟩⟩
    | irem =>
      have h2 := x2_of h; clear h; obtain ⟨x, y, r, e0, h⟩ := h2; subst e0
      exact Or.inl ⟨_, _, _, _, h.2, le, ls, fun K' C' Q' h' => ⟨h.1, h'⟩⟩
    | fadd =>
      have h2 := x2_of h; clear h; obtain ⟨x, y, r, e0, h⟩ := h2; subst e0
      exact Or.inl ⟨_, _, _, _, h.2, le, ls, fun K' C' Q' h' => ⟨h.1, h'⟩⟩
    | fsub =>
      have h2 := x2_of h; clear h; obtain ⟨x, y, r, e0, h⟩ := h2; subst e0
      exact Or.inl ⟨_, _, _, _, h.2, le, ls, fun K' C' Q' h' => ⟨h.1, h'⟩⟩
    | ineg =>
      have h2 := x1_of h; clear h; obtain ⟨x, r, e0, h⟩ := h2; subst e0
      exact Or.inl ⟨_, _, _, _, h, le, ls, fun K' C' Q' h' => h'⟩
    | i2l =>
      have h2 := x1_of h; clear h; obtain ⟨x, r, e0, h⟩ := h2; subst e0
      exact Or.inl ⟨_, _, _, _, h, le, ls, fun K' C' Q' h' => h'⟩
    | i2b =>
      have h2 := x1_of h; clear h; obtain ⟨x, r, e0, h⟩ := h2; subst e0
      exact Or.inl ⟨_, _, _, _, h, le, ls, fun K' C' Q' h' => h'⟩
    | i2c =>
      have h2 := x1_of h; clear h; obtain ⟨x, r, e0, h⟩ := h2; subst e0
      exact Or.inl ⟨_, _, _, _, h, le, ls, fun K' C' Q' h' => h'⟩
    | fneg =>
      have h2 := x1_of h; clear h; obtain ⟨x, r, e0, h⟩ := h2; subst e0
      exact Or.inl ⟨_, _, _, _, h.2, le, ls, fun K' C' Q' h' => ⟨h.1, h'⟩⟩
    | l2i =>
      have h2 := x1l_of h; clear h; obtain ⟨x, r, e0, h⟩ := h2; subst e0
      exact Or.inl ⟨_, _, _, _, h, le, ls, fun K' C' Q' h' => h'⟩
    | ladd =>
      have h2 := x2l_of h; clear h; obtain ⟨x, y, r, e0, h⟩ := h2; subst e0
      exact Or.inl ⟨_, _, _, _, h, le, ls, fun K' C' Q' h' => h'⟩
    | lsub =>
      have h2 := x2l_of h; clear h; obtain ⟨x, y, r, e0, h⟩ := h2; subst e0
      exact Or.inl ⟨_, _, _, _, h, le, ls, fun K' C' Q' h' => h'⟩
    | lmul =>
      have h2 := x2l_of h; clear h; obtain ⟨x, y, r, e0, h⟩ := h2; subst e0
      exact Or.inl ⟨_, _, _, _, h, le, ls, fun K' C' Q' h' => h'⟩
    | land =>
      have h2 := x2l_of h; clear h; obtain ⟨x, y, r, e0, h⟩ := h2; subst e0
      exact Or.inl ⟨_, _, _, _, h, le, ls, fun K' C' Q' h' => h'⟩
    | lor =>
      have h2 := x2l_of h; clear h; obtain ⟨x, y, r, e0, h⟩ := h2; subst e0
      exact Or.inl ⟨_, _, _, _, h, le, ls, fun K' C' Q' h' => h'⟩
    | lcmp =>
      have h2 := x2l_of h; clear h; obtain ⟨x, y, r, e0, h⟩ := h2; subst e0
      exact Or.inl ⟨_, _, _, _, h, le, ls, fun K' C' Q' h' => h'⟩
    | ldiv =>
      have h2 := x2l_of h; clear h; obtain ⟨x, y, r, e0, h⟩ := h2; subst e0
      exact Or.inl ⟨_, _, _, _, h.2, le, ls, fun K' C' Q' h' => ⟨h.1, h'⟩⟩
    | lrem =>
      have h2 := x2l_of h; clear h; obtain ⟨x, y, r, e0, h⟩ := h2; subst e0
      exact Or.inl ⟨_, _, _, _, h.2, le, ls, fun K' C' Q' h' => ⟨h.1, h'⟩⟩
    | lshl =>
      have h2 := xli_of h; clear h; obtain ⟨x, y, r, e0, h⟩ := h2; subst e0
      exact Or.inl ⟨_, _, _, _, h, le, ls, fun K' C' Q' h' => h'⟩
    | lshr =>
      have h2 := xli_of h; clear h; obtain ⟨x, y, r, e0, h⟩ := h2; subst e0
      exact Or.inl ⟨_, _, _, _, h, le, ls, fun K' C' Q' h' => h'⟩
    | lushr =>
      have h2 := xli_of h; clear h; obtain ⟨x, y, r, e0, h⟩ := h2; subst e0
      exact Or.inl ⟨_, _, _, _, h, le, ls, fun K' C' Q' h' => h'⟩
    | dup =>
      simp only [xi] at h
      split at h
      · exact Or.inl ⟨_, _, _, _, h, le, ls, fun K' C' Q' h' => h'⟩
      · exact Or.inl ⟨_, _, _, _, h, le, ls, fun K' C' Q' h' => h'⟩
      · exact h.elim
    | dup2 =>
      simp only [xi] at h
      split at h
      · exact Or.inl ⟨_, _, _, _, h, le, ls, fun K' C' Q' h' => h'⟩
      · exact Or.inl ⟨_, _, _, _, h, le, ls, fun K' C' Q' h' => h'⟩
      · exact h.elim
    | dup_x1 =>
      simp only [xi] at h
      split at h
      · exact Or.inl ⟨_, _, _, _, h, le, ls, fun K' C' Q' h' => h'⟩
      · exact h.elim
    | pop2 =>
      simp only [xi] at h
      split at h
      · exact Or.inl ⟨_, _, _, _, h, le, ls, fun K' C' Q' h' => h'⟩
      · exact h.elim
    | pop =>
      have h2 := x1r_of h; clear h; obtain ⟨x, r, e0, h⟩ := h2; subst e0
      exact Or.inl ⟨_, _, _, _, h.2, le, ls, fun K' C' Q' h' => ⟨h.1, h'⟩⟩
    | ifCond c t =>
      have h2 := x1_of h; clear h; obtain ⟨x, r, e0, h⟩ := h2; subst e0
      by_cases hc : xcnd c x 0
      · exact Or.inl ⟨_, _, _, _, h.1 hc, le, ls, fun K' C' Q' h' => ⟨fun _ => h', fun hn => absurd hc hn⟩⟩
      · exact Or.inl ⟨_, _, _, _, h.2 hc, le, ls, fun K' C' Q' h' => ⟨fun hp => absurd hp hc, fun _ => h'⟩⟩
    | if_icmp c t =>
      have h2 := x2_of h; clear h; obtain ⟨x, y, r, e0, h⟩ := h2; subst e0
      by_cases hc : xcnd c x y
      · exact Or.inl ⟨_, _, _, _, h.1 hc, le, ls, fun K' C' Q' h' => ⟨fun _ => h', fun hn => absurd hc hn⟩⟩
      · exact Or.inl ⟨_, _, _, _, h.2 hc, le, ls, fun K' C' Q' h' => ⟨fun hp => absurd hp hc, fun _ => h'⟩⟩
    | tableswitch d lo hi ts =>
      have h2 := x1_of h; clear h; obtain ⟨x, r, e0, h⟩ := h2; subst e0
      rcases xsw_of h with ⟨t, h1, h2⟩ | ⟨h1, h2⟩
      · exact Or.inl ⟨_, _, _, _, h1, le, ls, fun K' C' Q' h' => h2 _ _ h'⟩
      · exact Or.inl ⟨_, _, _, _, h1, le, ls, fun K' C' Q' h' => h2 _ _ h'⟩
    | getfield ck =>
      have h2 := x1r_of h; clear h; obtain ⟨a, r, e0, h⟩ := h2; subst e0
      split at h
      · rename_i ci fs hw
        split at h
        · rename_i hc
          split at h
          · rename_i v hv
            exact Or.inl ⟨_, _, _, _, h, le, ls, fun K' C' Q' h' => by simp only [xi, x1r, hw, hv, if_pos hc]; exact h'⟩
          · exact h.elim
        · exact h.elim
      · exact h.elim
      · rename_i hw
        split at h
        · rename_i b hb
          split at h
          · rename_i ha
            split at h
            · rename_i hk
              exact Or.inl ⟨_, _, _, _, h, le, ls, fun K' C' Q' h' => by simp only [xi, x1r, hw, hb, if_pos ha, if_pos hk]; exact h'⟩
            · rename_i hk
              split at h
              · rename_i hk2
                exact Or.inl ⟨_, _, _, _, h, le, ls, fun K' C' Q' h' => by simp only [xi, x1r, hw, hb, if_pos ha, if_neg hk, if_pos hk2]; exact h'⟩
              · exact h.elim
          · exact h.elim
        · exact h.elim
    | putfield ck =>
      simp only [xi] at h
      split at h
      · rename_i v a r
        split at h
        · rename_i ci fs hw
          split at h
          · rename_i hc
            split at h
            · rename_i tys ht
              split at h
              · rename_i ty ov hty hov
                obtain ⟨h1, h2⟩ := xkp_of h
                refine Or.inl ⟨_, _, _, _, h1, by rw [xset_len]; exact le, Nat.le_of_eq (Eq.symm (xset_sl w a _ _ hw (by simp [xsz, xint, xlng, xref, xset_len]))), fun K' C' Q' h' => ?_⟩
                simp only [xi, hw, ht, hty, hov, if_pos hc]
                exact h2 _ h'
              · exact h.elim
            · exact h.elim
          · exact h.elim
        · exact h.elim
      · exact h.elim
    | new ci =>
      simp only [xi] at h
      split at h
      · rename_i tys ht
        refine Or.inl ⟨_, _, _, _, h, by simp, by rw [xsl_app]; omega, fun K' C' Q' h' => ?_⟩
        simp only [xi, ht]
        exact h'
      · exact h.elim
    | newarray t =>
      have h2 := x1_of h; clear h; obtain ⟨x, r, e0, h0, h1, h⟩ := h2; subst e0
      cases t with
      | int => exact Or.inl ⟨_, _, _, _, h, by simp, by rw [xsl_app]; omega, fun K' C' Q' h' => ⟨h0, h1, h'⟩⟩
      | byte => exact Or.inl ⟨_, _, _, _, h, by simp, by rw [xsl_app]; omega, fun K' C' Q' h' => ⟨h0, h1, h'⟩⟩
      | boolean => exact Or.inl ⟨_, _, _, _, h, by simp, by rw [xsl_app]; omega, fun K' C' Q' h' => ⟨h0, h1, h'⟩⟩
      | long => exact Or.inl ⟨_, _, _, _, h, by simp, by rw [xsl_app]; omega, fun K' C' Q' h' => ⟨h0, h1, h'⟩⟩
      | _ => exact (show False from h).elim
    | anewarray ci =>
      have h2 := x1_of h; clear h; obtain ⟨x, r, e0, h0, h1, h⟩ := h2; subst e0
      split at h
      · exact Or.inl ⟨_, _, _, _, h, by simp, by rw [xsl_app]; omega, fun K' C' Q' h' => ⟨h0, h1, h'⟩⟩
      · exact Or.inl ⟨_, _, _, _, h, by simp, by rw [xsl_app]; omega, fun K' C' Q' h' => ⟨h0, h1, h'⟩⟩
      · exact h.elim
    | arraylength =>
      have h2 := x1r_of h; clear h; obtain ⟨a, r, e0, h⟩ := h2; subst e0
      split at h
      · rename_i n f hw
        exact Or.inl ⟨_, _, _, _, h, le, ls, fun K' C' Q' h' => by simp only [xi, x1r, hw]; exact h'⟩
      · exact h.elim
      · rename_i hw
        split at h
        · rename_i ha
          exact Or.inl ⟨_, _, _, _, h, le, ls, fun K' C' Q' h' => by simp only [xi, x1r, hw, if_pos ha]; exact h'⟩
        · rename_i ha
          split at h
          · rename_i b hb
            split at h
            · rename_i hk
              exact Or.inl ⟨_, _, _, _, h, le, ls, fun K' C' Q' h' => by simp only [xi, x1r, hw, if_neg ha, hb, if_pos hk]; exact h'⟩
            · exact h.elim
          · exact h.elim
    | iaload =>
      have h2 := xir_of h; clear h; obtain ⟨a, j, r, e0, h⟩ := h2; subst e0
      split at h
      · rename_i n f hw
        exact Or.inl ⟨_, _, _, _, h.2, le, ls, fun K' C' Q' h' => by simp only [xi, xir, hw]; exact ⟨h.1, h'⟩⟩
      · exact h.elim
      · rename_i hw
        exact Or.inl ⟨_, _, _, _, h.2.2, le, ls, fun K' C' Q' h' => by simp only [xi, xir, hw]; exact ⟨h.1, h.2.1, h'⟩⟩
    | laload =>
      have h2 := xir_of h; clear h; obtain ⟨a, j, r, e0, h⟩ := h2; subst e0
      split at h
      · rename_i n f hw
        exact Or.inl ⟨_, _, _, _, h.2, le, ls, fun K' C' Q' h' => by simp only [xi, xir, hw]; exact ⟨h.1, h'⟩⟩
      · exact h.elim
    | aaload =>
      have h2 := xir_of h; clear h; obtain ⟨a, j, r, e0, h⟩ := h2; subst e0
      split at h
      · rename_i C0 n f hw
        obtain ⟨h00, h0, h⟩ := h
        split at h
        · rename_i b hb
          exact Or.inl ⟨_, _, _, _, h, le, ls, fun K' C' Q' h' => by simp only [xi, xir, hw, hb]; exact ⟨h00, h0, h'⟩⟩
        · exact h.elim
      · exact h.elim
    | baload =>
      have h2 := xir_of h; clear h; obtain ⟨a, j, r, e0, h⟩ := h2; subst e0
      split at h
      · rename_i n f hw
        exact Or.inl ⟨_, _, _, _, h.2, le, ls, fun K' C' Q' h' => by simp only [xi, xir, hw]; exact ⟨h.1, h'⟩⟩
      · rename_i n f hw
        exact Or.inl ⟨_, _, _, _, h.2, le, ls, fun K' C' Q' h' => by simp only [xi, xir, hw]; exact ⟨h.1, h'⟩⟩
      · exact h.elim
      · rename_i hw
        split at h
        · rename_i b hb
          exact Or.inl ⟨_, _, _, _, h.2.2, le, ls, fun K' C' Q' h' => by simp only [xi, xir, hw, hb]; exact ⟨h.1, h.2.1, h'⟩⟩
        · exact h.elim
    | iastore =>
      have h2 := x1_of h; clear h; obtain ⟨x, r0, e0, h⟩ := h2; subst e0
      have h2 := xir_of h; clear h; obtain ⟨a, j, r, e0, h⟩ := h2; subst e0
      split at h
      · rename_i n f hw
        exact Or.inl ⟨_, _, _, _, h.2, by rw [xset_len]; exact le, Nat.le_of_eq (Eq.symm (xset_sl w a _ _ hw (by simp [xsz, xint, xlng, xref, xset_len]))), fun K' C' Q' h' => by simp only [xi, x1, xir, hw]; exact ⟨h.1, h'⟩⟩
      · exact h.elim
    | lastore =>
      have h2 := x1l_of h; clear h; obtain ⟨x, r0, e0, h⟩ := h2; subst e0
      have h2 := xir_of h; clear h; obtain ⟨a, j, r, e0, h⟩ := h2; subst e0
      split at h
      · rename_i n f hw
        exact Or.inl ⟨_, _, _, _, h.2, by rw [xset_len]; exact le, Nat.le_of_eq (Eq.symm (xset_sl w a _ _ hw (by simp [xsz, xint, xlng, xref, xset_len]))), fun K' C' Q' h' => by simp only [xi, x1l, xir, hw]; exact ⟨h.1, h'⟩⟩
      · exact h.elim
    | bastore =>
      have h2 := x1_of h; clear h; obtain ⟨x, r0, e0, h⟩ := h2; subst e0
      have h2 := xir_of h; clear h; obtain ⟨a, j, r, e0, h⟩ := h2; subst e0
      split at h
      · rename_i n f hw
        exact Or.inl ⟨_, _, _, _, h.2, by rw [xset_len]; exact le, Nat.le_of_eq (Eq.symm (xset_sl w a _ _ hw (by simp [xsz, xint, xlng, xref, xset_len]))), fun K' C' Q' h' => by simp only [xi, x1, xir, hw]; exact ⟨h.1, h'⟩⟩
      · rename_i n f hw
        exact Or.inl ⟨_, _, _, _, h.2, by rw [xset_len]; exact le, Nat.le_of_eq (Eq.symm (xset_sl w a _ _ hw (by simp [xsz, xint, xlng, xref, xset_len]))), fun K' C' Q' h' => by simp only [xi, x1, xir, hw]; exact ⟨h.1, h'⟩⟩
      · exact h.elim
    | aastore =>
      have h2 := x1r_of h; clear h; obtain ⟨b, r0, e0, h⟩ := h2; subst e0
      have h2 := xir_of h; clear h; obtain ⟨a, j, r, e0, h⟩ := h2; subst e0
      split at h
      · rename_i C0 n f hw
        split at h
        · rename_i ci fs hb
          exact Or.inl ⟨_, _, _, _, h.2.2, by rw [xset_len]; exact le, Nat.le_of_eq (Eq.symm (xset_sl w a _ _ hw (by simp [xsz, xint, xlng, xref, xset_len]))), fun K' C' Q' h' => by simp only [xi, x1r, xir, hw, hb]; exact ⟨h.1, h.2.1, h'⟩⟩
        · exact h.elim
      · exact h.elim
    | monitorenter =>
      simp only [xi] at h
      split at h
      · rename_i n dp d sp s0 r
        obtain ⟨h0, h⟩ := h
        split at h
        · rename_i n0 f n1 g hs hd
          exact Or.inl ⟨_, _, _, _, h.2, by rw [xset_len]; exact le, Nat.le_of_eq (Eq.symm (xset_sl w d _ _ hd (by simp [xsz, xint, xlng, xref, xset_len]))), fun K' C' Q' h' => by simp only [xi, hs, hd]; exact ⟨h0, h.1, h'⟩⟩
        · rename_i n0 f n1 g hs hd
          exact Or.inl ⟨_, _, _, _, h.2, by rw [xset_len]; exact le, Nat.le_of_eq (Eq.symm (xset_sl w d _ _ hd (by simp [xsz, xint, xlng, xref, xset_len]))), fun K' C' Q' h' => by simp only [xi, hs, hd]; exact ⟨h0, h.1, h'⟩⟩
        · exact h.elim
      · exact h.elim
    | invokeinterface y cnt =>
      simp only [xi] at h
      obtain ⟨h0, h1, h⟩ := h
      split at h
      · rename_i hc
        exact Or.inr (Or.inr ⟨_, _, _, _, h, fun K' C' Q' h' => by simp only [xi, hc]; exact ⟨h0, h1, h'⟩⟩)
      · rename_i ci hc
        split at h
        · rename_i a r hr
          split at h
          · rename_i cj fs hw
            split at h
            · rename_i he
              exact Or.inr (Or.inr ⟨_, _, _, _, h, fun K' C' Q' h' => by simp only [xi, hc, hr, hw, if_pos he] at h' ⊢; exact ⟨h0, h1, h'⟩⟩)
            · exact h.elim
          · exact h.elim
          · rename_i hw
            split at h
            · rename_i b hb
              split at h
              · rename_i he
                exact Or.inr (Or.inr ⟨_, _, _, _, h, fun K' C' Q' h' => by simp only [xi, hc, hr, hw, hb, if_pos he] at h' ⊢; exact ⟨h0, h1, h'⟩⟩)
              · exact h.elim
            · exact h.elim
        · exact h.elim
    | invokedynamic n =>
      simp only [xi] at h
      split at h
      · exact Or.inr (Or.inr ⟨_, _, _, _, h.2, fun K' C' Q' h' => ⟨h.1, h'⟩⟩)
      · exact h.elim
    | return_ =>
      simp only [xi] at h
      split at h
      · exact Or.inr (Or.inl ⟨_, h.2, fun K' C' Q' h' => ⟨h.1, h'⟩⟩)
      · exact h.elim
    | ireturn =>
      simp only [xi] at h
      split at h
      · obtain ⟨h1, h2⟩ := xrt_of h
        exact Or.inr (Or.inl ⟨_, h1, fun K' C' Q' h' => h2 _ h'⟩)
      · exact h.elim
    | lreturn =>
      simp only [xi] at h
      split at h
      · obtain ⟨h1, h2⟩ := xrt_of h
        exact Or.inr (Or.inl ⟨_, h1, fun K' C' Q' h' => h2 _ h'⟩)
      · exact h.elim
    | _ => exact (show False from h).elim
