section XHP
variable {p : Program} {l : Launch} {e : Env} {R : Room} {s : State} {m : MethodId} {args : Array Value} {below : List Frame} {meth : Method} {c : Code} {Qf : State → Prop} {own : String} {ini : Bool} {cc : ByteArray} {nL : Nat} {Ts : List Jvm.Cond} {D : va_G} {ka : FieldType → ClassId} {B : Nat} {fo : Nat → Nat} {F : XF} {ss : XSt} {nw : List Jvm.Cond} {sg : XSg} {w0 wf : XWd} {d : Nat} {rt : Option FieldType} {C : XCt} {Q : XQt} {pcs : List Nat} {pc len i : Nat} {ci : Instr} {js : List Nat} {loc : XL} {st : List Value} {w : XWd}
/-- what the classes' tables say -/
def XClF (F : XF) : Prop := ∀ (ci : Nat) (q : vw_C), xnth xcl ci = some q → ∃ tys, xnth F.2.2.2 ci = some tys ∧ tys.length = q.2.2 ∧ (∀ (k : Nat) (ty : FieldType), xnth tys k = some ty → parseFieldDescriptor (q.2.1 k).2.2.1 = some ty) ∧ (∀ a, a < q.2.2 → ∀ b, b < q.2.2 → a ≠ b → (q.2.1 a).2.1 ≠ (q.2.1 b).2.1) ∧ ∀ u ∈ u_ws q.1 q.2.1 q.2.2, u ∈ xTB
theorem xcl_at {ci : Nat} {q : vw_C} (h : xnth xcl ci = some q) : xcl[ci]? = some q := by rw [← xnth_eq]; exact h
theorem xP_cls {fs : List Value} {a k : Nat} {H : Heap} (hP : va_P D xcl (xws (xphi B fo) ka w) H) (hw : xnth w a = some (.inr (k, fs))) : ∃ q, xnth xcl k = some q := by
  obtain ⟨r, h1, -⟩ := hP a _ (xws_at hw)
  exact ⟨r, by rw [xnth_eq]; exact h1⟩
theorem xmap_at {f : Nat → Nat} {fs : List Value} {k : Nat} {v : Value} (h : xnth fs k = some v) : (fs.map (xv f))[k]? = some (xv f v) := by
  rw [List.getElem?_map, ← xnth_eq, h]
  rfl
theorem xmap_set {f : Nat → Nat} {fs : List Value} {k : Nat} {v : Value} : (fs.map (xv f)).set k (xv f v) = (xset fs k v).map (xv f) := by
  rw [xset_eq, List.map_set]
theorem xkp_fit {f : Nat → Nat} {ty : FieldType} {v : Value} {k : Prop} (h : xkp ty v k) : narrow ty (xv f v) = xv f v ∧ fits ty (xv f v) = true := by
  unfold xkp at h
  split at h
  · exact ⟨rfl, rfl⟩
  · exact ⟨rfl, rfl⟩
  · exact ⟨rfl, rfl⟩
  · exact ⟨rfl, rfl⟩
  · rename_i n1 n2 n3 n4
    cases v with
    | ref a =>
      cases ty with
      | object C => exact (n3 C a rfl rfl).elim
      | array t => exact (n4 t a rfl rfl).elim
      | _ => exact absurd h.1.2 (by simp [fits])
    | _ => exact h.1
/-- the words of a class among the method's -/
theorem xin_cls (X : XCx0 p R s m args meth c own ini cc nL Ts D ka B fo F ss nw w0 wf d) (hF : XClF F) {k : Nat} {q : vw_C} (h : xnth xcl k = some q) : ∀ u ∈ u_ws q.1 q.2.1 q.2.2, u ∈ Ts := by
  obtain ⟨tys, -, -, -, -, h5⟩ := hF k q h
  exact fun u hu => X.2.2.2.2.2.1 u (h5 u hu)
theorem xK (X : XCx0 p R s m args meth c own ini cc nL Ts D ka B fo F ss nw w0 wf d) : va_K D xcl (xkt ka) s := X.2.2.2.2.2.2.2.1.1
theorem xHB (X : XCx0 p R s m args meth c own ini cc nL Ts D ka B fo F ss nw w0 wf d) {q : Nat} (h : s.heap.size ≤ q) : B ≤ q := by
  have := X.2.2.2.2.2.2.2.2.1
  omega
theorem xs_getfield (hF : XClF F) {ck : Nat} (X : XCx0 p R s m args meth c own ini cc nL Ts D ka B fo F ss nw w0 wf d) (hbw : w.length ≤ 601024) (hd : decode cc pc = .ok (ci, len)) (hk : xck ss nw sg own ini pcs pc ci len js (.getfield ck) = true) (hn : xnth pcs (i + 1) = some (pc + len)) (h : xi F rt (XGoal p l e R s m args below meth c Qf D ka B fo nL pcs w0 wf) C Q (some (.getfield ck)) i loc st w) : XNow p l e R s m args below meth c Qf D ka B fo nL w0 pc loc st w := by
  have h9 := x1r_of h; clear h; obtain ⟨a, r, e0, h⟩ := h9; subst e0
  intro H locs ls cells slots hP hS h1 h2 hl
  simp only [xck] at hk
  split at hk
  · rename_i kx
    simp only [Bool.and_eq_true, beq_iff_eq] at hk
    obtain ⟨rfl, hk⟩ := hk
    split at h
    · rename_i cj fs hw
      split at h
      · rename_i hc
        subst hc
        split at h
        · rename_i v hv
          obtain ⟨q, hq⟩ := xP_cls hP hw
          have n1 : ¬ ck = 6400 := by
            intro e
            subst e
            cases (show (none : Option vw_C) = some q from hq)
          have n2 : ¬ ck = 6401 := by
            intro e
            subst e
            cases (show (none : Option vw_C) = some q from hq)
          rw [if_neg n1, if_neg n2] at hk
          simp only [hq, Bool.and_eq_true, decide_eq_true_eq] at hk
          exact va_get (D := D) X.1 X.2.1 X.2.2.2.2.1 (xin_cls X hF hq) X.2.2.2.1 (xK X) hP a (xws_at hw) (xcl_at hq) (ck % 64) hk.1 (xword X (xwj_in hk.2)) (fun _ z => z) (xmap_at hv) hd (h.2 _ H locs ls cells slots hn hP hS h1 h2 hl)
        · exact h.elim
      · exact h.elim
    · exact h.elim
    · split at h
      · rename_i hw b hb
        split at h
        · rename_i ha
          obtain ⟨j, rfl⟩ : ∃ j : Nat, a = xSTR + j := ⟨a - xSTR, (Nat.add_sub_cancel' ha).symm⟩
          rw [Nat.add_sub_cancel_left] at hb
          have hj := xnth_lt hb
          have hE := (X.2.2.2.2.2.2.2.1.2.2.1.1 j hj)
          have e1 : xv (xphi B fo) (.ref (xSTR + j)) = .ref (fo (xSTR + j)) := congrArg Value.ref (xphi_fo (by show 1000000 ≤ 1000001 + j; omega))
          split at h
          · rename_i hck
            rw [if_pos hck] at hk
            have g := h.2 _ H locs ls cells slots hn hP hS h1 h2 hl
            have e2 : xv (xphi B fo) (.ref (xSTR + j + 100)) = .ref (fo (xBYT + j)) := by
              have e3 : xSTR + j + 100 = xBYT + j := by show 1000001 + j + 100 = 1000101 + j; omega
              rw [e3]
              exact congrArg Value.ref (xphi_fo (by show 1000000 ≤ 1000101 + j; omega))
            rw [List.map_cons, e2] at g
            rw [List.map_cons, e1]
            exact vk_getf X.1 X.2.1 hE.2.2.1 hS X.2.2.2.1 (xword X (xwj_in hk)) (fun _ z => z) hd g
          · rename_i hck
            rw [if_neg hck] at hk
            split at h
            · rename_i hck2
              rw [if_pos hck2] at hk
              have g := h.2 _ H locs ls cells slots hn hP hS h1 h2 hl
              rw [List.map_cons, e1]
              exact vk_getf X.1 X.2.1 hE.2.1 hS X.2.2.2.1 (xword X (xwj_in hk)) (fun _ z => z) hd g
            · exact h.elim
        · exact h.elim
      · exact h.elim
  · cases hk
theorem xs_putfield (hF : XClF F) {ck : Nat} (X : XCx0 p R s m args meth c own ini cc nL Ts D ka B fo F ss nw w0 wf d) (hbw : w.length ≤ 601024) (hd : decode cc pc = .ok (ci, len)) (hk : xck ss nw sg own ini pcs pc ci len js (.putfield ck) = true) (hn : xnth pcs (i + 1) = some (pc + len)) (h : xi F rt (XGoal p l e R s m args below meth c Qf D ka B fo nL pcs w0 wf) C Q (some (.putfield ck)) i loc st w) : XNow p l e R s m args below meth c Qf D ka B fo nL w0 pc loc st w := by
  simp only [xi] at h
  split at h
  · rename_i v a r
    split at h
    · rename_i cj fs hw
      split at h
      · rename_i hc
        subst hc
        split at h
        · rename_i tys ht
          split at h
          · rename_i ty ov hty hov
            have hfit := xkp_fit (f := xphi B fo) h
            have h := (xkp_of h).1
            intro H locs ls cells slots hP hS h1 h2 hl
            obtain ⟨q, hq⟩ := xP_cls hP hw
            obtain ⟨tys', t1, t2, t3, t4, t5⟩ := hF _ q hq
            have et : tys' = tys := Option.some.inj (t1.symm.trans ht)
            subst et
            simp only [xck] at hk
            split at hk
            · simp only [Bool.and_eq_true, beq_iff_eq, hq, decide_eq_true_eq, Bool.or_eq_true] at hk
              obtain ⟨rfl, ⟨⟨hlt, hw1⟩, hfin⟩⟩ := hk
              have hlen : ck % 64 < (fs.map (xv (xphi B fo))).length := by rw [List.length_map]; exact xnth_lt hov
              have hty0 : ∀ k, k < q.2.2 → parseFieldDescriptor (q.2.1 k).2.2.1 = some (tys'.getD k .int) := by
                intro k hk9
                obtain ⟨t9, ht9⟩ := xnth_some (l := tys') (j := k) (by rw [t2]; exact hk9)
                rw [t3 k t9 ht9]
                rw [xnth_eq] at ht9
                rw [List.getD_eq_getElem?_getD, ht9]
                rfl
              have fin : ∀ (H1 : Heap) (locs1 : List Loc), va_P D xcl ((xws (xphi B fo) ka w).set a (xphi B fo a, .inr (ck / 64, (fs.map (xv (xphi B fo))).set (ck % 64) (xv (xphi B fo) v)))) H1 → va_D (fun q => B ≤ q) ((xws (xphi B fo) ka w).set a (xphi B fo a, .inr (ck / 64, (fs.map (xv (xphi B fo))).set (ck % 64) (xv (xphi B fo) v)))) → va_S (fun q => B ≤ q) s.heap H1 locs1 → W p l e R s m args below meth c H1 locs1 cells slots Qf (F0 m (pc + 3) ls (r.map (xv (xphi B fo)))) := by
                intro H1 locs1 g1 g2 g3
                rw [xmap_set] at g1
                have g1 : va_P D xcl ((xws (xphi B fo) ka w).set a (xphi B fo a, xe (xphi B fo) ka (.inr (ck / 64, xset fs (ck % 64) v)))) H1 := g1
                rw [xws_set] at g1
                exact h.2 _ H1 locs1 ls cells slots hn g1 g3 (by rw [xset_len]; exact h1) (by rw [xset_sl w a _ _ hw (by simp [xsz, xset_len])]; exact h2) hl
              rcases hfin with hfin | ⟨hi, hdecl⟩
              · exact va_put (D := D) X.1 X.2.1 X.2.2.2.2.1 (xin_cls X hF hq) (fun k => tys'.getD k .int) hty0 t4 X.2.2.2.1 (xK X) hP (xws_D (by omega)) hS a (xws_at hw) (xcl_at hq) (ck % 64) hlt (xword X (xwj_in hw1)) (fun _ z => z) hfin (t3 _ _ hty) hfit.1 hfit.2 hlen hd fin
              · by_cases hf2 : (q.2.1 (ck % 64)).2.2.2 = false
                · exact va_put (D := D) X.1 X.2.1 X.2.2.2.2.1 (xin_cls X hF hq) (fun k => tys'.getD k .int) hty0 t4 X.2.2.2.1 (xK X) hP (xws_D (by omega)) hS a (xws_at hw) (xcl_at hq) (ck % 64) hlt (xword X (xwj_in hw1)) (fun _ z => z) hf2 (t3 _ _ hty) hfit.1 hfit.2 hlen hd fin
                · exact va_putF (D := D) X.1 X.2.1 X.2.2.2.2.1 (xin_cls X hF hq) (fun k => tys'.getD k .int) hty0 t4 X.2.2.2.1 (xK X) hP (xws_D (by omega)) hS a (xws_at hw) (xcl_at hq) (ck % 64) hlt (xword X (xwj_in hw1)) (fun _ z => z) (by simpa using hf2) (X.2.2.2.2.2.2.1 hi) hdecl (t3 _ _ hty) hfit.1 hfit.2 hlen hd fin
            · cases hk
          · exact h.elim
        · exact h.elim
      · exact h.elim
    · exact h.elim
  · exact h.elim
theorem xs_getstatic {k : Nat} (X : XCx0 p R s m args meth c own ini cc nL Ts D ka B fo F ss nw w0 wf d) (hbw : w.length ≤ 601024) (hd : decode cc pc = .ok (ci, len)) (hk : xck ss nw sg own ini pcs pc ci len js (.getstatic k) = true) (hn : xnth pcs (i + 1) = some (pc + len)) (h : xi F rt (XGoal p l e R s m args below meth c Qf D ka B fo nL pcs w0 wf) C Q (some (.getstatic k)) i loc st w) : XNow p l e R s m args below meth c Qf D ka B fo nL w0 pc loc st w := by
  cases k with
  | zero =>
    have h : XGoal p l e R s m args below meth c Qf D ka B fo nL pcs w0 wf (i + 1) loc (.int 1 :: st) w := h
    intro H locs ls cells slots hP hS h1 h2 hl
    simp only [xck] at hk
    split at hk
    · simp only [Bool.and_eq_true, beq_iff_eq] at hk
      obtain ⟨rfl, hk⟩ := hk
      exact va_gets X.1 X.2.1 X.2.2.2.2.2.2.2.1.2.2.2.2.1.1 hS X.2.2.2.1 (xword X (xwj_in hk)) (fun _ z => z) hd (h.2 _ H locs ls cells slots hn hP hS h1 h2 hl)
    · cases hk
  | succ k =>
    have h : XGoal p l e R s m args below meth c Qf D ka B fo nL pcs w0 wf (i + 1) loc (xsio F :: st) w := h
    intro H locs ls cells slots hP hS h1 h2 hl
    simp only [xck] at hk
    split at hk
    · simp only [Bool.and_eq_true, beq_iff_eq] at hk
      obtain ⟨rfl, hk⟩ := hk
      exact va_gets X.1 X.2.1 X.2.2.2.2.2.2.2.1.2.2.2.2.1.2 hS X.2.2.2.1 (xword X (xwj_in hk)) (fun _ z => z) hd (h.2 _ H locs ls cells slots hn hP hS h1 h2 hl)
    · cases hk
/-- a new cell is the next one -/
theorem xfresh {q : Nat} {E : va_E} {H1 : Heap} (X : XCx0 p R s m args meth c own ini cc nL Ts D ka B fo F ss nw w0 wf d) (hbw : w.length ≤ 601024) {cells : Nat} (h1 : cells + w0.length = w.length) (hP : va_P D xcl (xws (xphi B fo) ka w ++ [(q, E)]) H1) (hD : va_D (fun q => B ≤ q) (xws (xphi B fo) ka w ++ [(q, E)])) (hz : H1.size ≤ s.heap.size + (cells + 1)) : q = xphi B fo w.length := by
  have hs := X.2.2.2.2.2.2.2.2.1
  have hlen : (xws (xphi B fo) ka w).length = w.length := by
    have : ∀ (w : XWd) (k : Nat), (xwsF (xphi B fo) ka k w).length = w.length := by
      intro w
      induction w with
      | nil => intro k; rfl
      | cons a w ih => intro k; simp [xwsF, ih]
    exact this w 0
  have hq : (xws (xphi B fo) ka w ++ [(q, E)])[w.length]? = some (q, E) := by
    rw [List.getElem?_append_right (by omega), hlen, Nat.sub_self]
    rfl
  have g1 : q < H1.size := (hP _ _ hq).lt
  have g2 : B ≤ q := hD.2 _ _ hq
  rw [xphi_in (by omega)]
  rcases Nat.lt_or_ge q (B + w.length) with g | g
  · obtain ⟨e9, he⟩ := xnth_some (l := w) (j := q - B) (by omega)
    have g3 := xws_at (f := xphi B fo) (ka := ka) he
    have g4 : (xws (xphi B fo) ka w ++ [(q, E)])[q - B]? = some (xphi B fo (q - B), xe (xphi B fo) ka e9) := by
      rw [List.getElem?_append_left (by omega)]
      exact g3
    have g5 := hD.1 _ _ _ _ g4 hq (by show xphi B fo (q - B) = q; rw [xphi_in (by omega)]; omega)
    omega
  · omega
theorem xv_dv (f : Nat → Nat) (ty : FieldType) : xv f (xdv ty) = xdv ty := by cases ty <;> rfl
theorem xs_new (hF : XClF F) {k : Nat} (X : XCx0 p R s m args meth c own ini cc nL Ts D ka B fo F ss nw w0 wf d) (hbw : w.length ≤ 601024) (hd : decode cc pc = .ok (ci, len)) (hk : xck ss nw sg own ini pcs pc ci len js (.new k) = true) (hn : xnth pcs (i + 1) = some (pc + len)) (h : xi F rt (XGoal p l e R s m args below meth c Qf D ka B fo nL pcs w0 wf) C Q (some (.new k)) i loc st w) : XNow p l e R s m args below meth c Qf D ka B fo nL w0 pc loc st w := by
  simp only [xi] at h
  split at h
  · rename_i tys ht
    intro H locs ls cells slots hP hS h1 h2 hl
    simp only [xck] at hk
    split at hk
    · simp only [Bool.and_eq_true, beq_iff_eq] at hk
      obtain ⟨rfl, hk⟩ := hk
      split at hk
      · rename_i q hq
        simp only [Bool.and_eq_true] at hk
        obtain ⟨⟨k1, k2⟩, k3⟩ := hk
        obtain ⟨tys', t1, t2, t3, t4, t5⟩ := hF _ q hq
        have et : tys' = tys := Option.some.inj (t1.symm.trans ht)
        subst et
        have hty0 : ∀ k, k < q.2.2 → parseFieldDescriptor (q.2.1 k).2.2.1 = some (tys'.getD k .int) := by
          intro k hk9
          obtain ⟨t9, ht9⟩ := xnth_some (l := tys') (j := k) (by rw [t2]; exact hk9)
          rw [t3 k t9 ht9]
          rw [xnth_eq] at ht9
          rw [List.getD_eq_getElem?_getD, ht9]
          rfl
        have hb1 := h.1
        rw [List.length_append, List.length_singleton, xsl_app] at hb1
        have hsz : xsz (.inr (k, tys'.map xdv)) = q.2.2 := by simp [xsz, t2]
        rw [hsz] at hb1
        obtain ⟨-, -, r3, r4, -⟩ := X.2.2.2.2.2.2.2.2.2
        refine va_new (fs := (tys'.map xdv)) X.1 X.2.1 X.2.2.2.2.1 (xin_cls X hF hq) (fun k => tys'.getD k .int) hty0 X.2.2.2.1 (xword X (xwj_in k1)) (xword X (xwj_in k2)) (xword X (xwj_in k3)) (xK X) hP (xws_D (by omega)) hS (fun q h => xHB X h) (xcl_at hq) (fun j hj => ?_) (by omega) (by omega) hd (fun q9 H1 g1 g2 g3 => ?_)
        · have hj' : j < tys'.length := by rw [t2]; exact hj
          simp [vp_V, List.getD_eq_getElem?_getD, hj', xdv]
        · refine xW_size (fun hz => ?_)
          have e9 := xfresh X hbw h1 g1 g2 hz
          subst e9
          have e8 : (tys'.map xdv).map (xv (xphi B fo)) = tys'.map xdv := by
            rw [List.map_map]
            exact List.map_congr_left (fun t _ => xv_dv _ t)
          have g1 : va_P D xcl (xws (xphi B fo) ka w ++ [(xphi B fo w.length, .inr (k, tys'.map xdv))]) H1 := g1
          rw [← e8] at g1
          have g1 : va_P D xcl (xws (xphi B fo) ka w ++ [(xphi B fo w.length, xe (xphi B fo) ka (.inr (k, tys'.map xdv)))]) H1 := g1
          rw [← xws_app] at g1
          exact h.2 _ H1 locs ls (cells + 1) (slots + q.2.2) hn g1 g3 (by rw [List.length_append, List.length_singleton]; omega) (by rw [xsl_app, hsz]; omega) hl
      · cases hk
    · cases hk
  · exact h.elim
theorem xkA {ty : FieldType} {cA : ClassId} (hn : ∀ C, ty ≠ .object C) (h1 : va_RA s cA ty) (h2 : va_RA s (ka ty) ty) : cA = ka ty := by
  cases ty with
  | object C => exact absurd rfl (hn C)
  | _ => exact Option.some.inj (h1.symm.trans h2)
theorem xs_newarray {t : ArrayType} (X : XCx0 p R s m args meth c own ini cc nL Ts D ka B fo F ss nw w0 wf d) (hbw : w.length ≤ 601024) (hd : decode cc pc = .ok (ci, len)) (hk : xck ss nw sg own ini pcs pc ci len js (.newarray t) = true) (hn : xnth pcs (i + 1) = some (pc + len)) (h : xi F rt (XGoal p l e R s m args below meth c Qf D ka B fo nL pcs w0 wf) C Q (some (.newarray t)) i loc st w) : XNow p l e R s m args below meth c Qf D ka B fo nL w0 pc loc st w := by
  have h9 := x1_of h; clear h; obtain ⟨x, r, e0, h⟩ := h9; subst e0
  obtain ⟨q0, q1, h⟩ := h
  intro H locs ls cells slots hP hS h1 h2 hl
  simp only [xck] at hk
  split at hk
  · simp only [Bool.and_eq_true, decide_eq_true_eq, beq_iff_eq] at hk
    obtain ⟨⟨rfl, rfl⟩, hk⟩ := hk
    rename_i t
    obtain ⟨-, -, r3, r4, -⟩ := X.2.2.2.2.2.2.2.2.2
    cases t with
    | int =>
      have h : XGoal p l e R s m args below meth c Qf D ka B fo nL pcs w0 wf (i + 1) loc (.ref w.length :: r) (w ++ [xint .int x.toNatClampNeg (fun _ => 0)]) := h
      have hb1 := h.1
      rw [List.length_append, List.length_singleton, xsl_app] at hb1
      have hsz : xsz (xint .int x.toNatClampNeg (fun _ => 0)) = x.toNatClampNeg := rfl
      rw [hsz] at hb1
      refine va_newa (ty := .int) (a0 := (x.toNatClampNeg, .inl (fun _ => 0))) X.1 X.2.1 (xword X (xwj_in hk)) rfl (xK X) hP (xws_D (by omega)) hS (fun q h => xHB X h) (fun cA => rfl) q0 rfl (by simp only [componentBytes]; omega) (by omega) (by omega) hd (fun q9 cA H1 gK g1 g2 g3 => ?_)
      refine xW_size (fun hz => ?_)
      have e9 := xfresh X hbw h1 g1 g2 hz
      subst e9
      have ec : cA = ka .int := xkA (fun _ q => by cases q) (gK.2 6 (cA, .int) rfl).2 ((xK X).2 0 (ka .int, .int) rfl).2
      subst ec
      have g1 : va_P D xcl (xws (xphi B fo) ka w ++ [(xphi B fo w.length, xe (xphi B fo) ka (xint .int x.toNatClampNeg (fun _ => 0)))]) H1 := g1
      rw [← xws_app] at g1
      exact h.2 _ H1 locs ls (cells + 1) (slots + x.toNatClampNeg) hn g1 g3 (by rw [List.length_append, List.length_singleton]; omega) (by rw [xsl_app, hsz]; omega) hl
    | byte =>
      have h : XGoal p l e R s m args below meth c Qf D ka B fo nL pcs w0 wf (i + 1) loc (.ref w.length :: r) (w ++ [xint .byte x.toNatClampNeg (fun _ => 0)]) := h
      have hb1 := h.1
      rw [List.length_append, List.length_singleton, xsl_app] at hb1
      have hsz : xsz (xint .byte x.toNatClampNeg (fun _ => 0)) = x.toNatClampNeg := rfl
      rw [hsz] at hb1
      refine va_newa (ty := .byte) (a0 := (x.toNatClampNeg, .inl (fun _ => 0))) X.1 X.2.1 (xword X (xwj_in hk)) rfl (xK X) hP (xws_D (by omega)) hS (fun q h => xHB X h) (fun cA => rfl) q0 rfl (by simp only [componentBytes]; omega) (by omega) (by omega) hd (fun q9 cA H1 gK g1 g2 g3 => ?_)
      refine xW_size (fun hz => ?_)
      have e9 := xfresh X hbw h1 g1 g2 hz
      subst e9
      have ec : cA = ka .byte := xkA (fun _ q => by cases q) (gK.2 6 (cA, .byte) rfl).2 ((xK X).2 2 (ka .byte, .byte) rfl).2
      subst ec
      have g1 : va_P D xcl (xws (xphi B fo) ka w ++ [(xphi B fo w.length, xe (xphi B fo) ka (xint .byte x.toNatClampNeg (fun _ => 0)))]) H1 := g1
      rw [← xws_app] at g1
      exact h.2 _ H1 locs ls (cells + 1) (slots + x.toNatClampNeg) hn g1 g3 (by rw [List.length_append, List.length_singleton]; omega) (by rw [xsl_app, hsz]; omega) hl
    | boolean =>
      have h : XGoal p l e R s m args below meth c Qf D ka B fo nL pcs w0 wf (i + 1) loc (.ref w.length :: r) (w ++ [xint .boolean x.toNatClampNeg (fun _ => 0)]) := h
      have hb1 := h.1
      rw [List.length_append, List.length_singleton, xsl_app] at hb1
      have hsz : xsz (xint .boolean x.toNatClampNeg (fun _ => 0)) = x.toNatClampNeg := rfl
      rw [hsz] at hb1
      refine va_newa (ty := .boolean) (a0 := (x.toNatClampNeg, .inl (fun _ => 0))) X.1 X.2.1 (xword X (xwj_in hk)) rfl (xK X) hP (xws_D (by omega)) hS (fun q h => xHB X h) (fun cA => rfl) q0 rfl (by simp only [componentBytes]; omega) (by omega) (by omega) hd (fun q9 cA H1 gK g1 g2 g3 => ?_)
      refine xW_size (fun hz => ?_)
      have e9 := xfresh X hbw h1 g1 g2 hz
      subst e9
      have ec : cA = ka .boolean := xkA (fun _ q => by cases q) (gK.2 6 (cA, .boolean) rfl).2 ((xK X).2 3 (ka .boolean, .boolean) rfl).2
      subst ec
      have g1 : va_P D xcl (xws (xphi B fo) ka w ++ [(xphi B fo w.length, xe (xphi B fo) ka (xint .boolean x.toNatClampNeg (fun _ => 0)))]) H1 := g1
      rw [← xws_app] at g1
      exact h.2 _ H1 locs ls (cells + 1) (slots + x.toNatClampNeg) hn g1 g3 (by rw [List.length_append, List.length_singleton]; omega) (by rw [xsl_app, hsz]; omega) hl
    | long =>
      have h : XGoal p l e R s m args below meth c Qf D ka B fo nL pcs w0 wf (i + 1) loc (.ref w.length :: r) (w ++ [xlng x.toNatClampNeg (fun _ => 0)]) := h
      have hb1 := h.1
      rw [List.length_append, List.length_singleton, xsl_app] at hb1
      have hsz : xsz (xlng x.toNatClampNeg (fun _ => 0)) = x.toNatClampNeg := rfl
      rw [hsz] at hb1
      refine va_newa (ty := .long) (a0 := (x.toNatClampNeg, .inr (.inl (fun _ => 0)))) X.1 X.2.1 (xword X (xwj_in hk)) rfl (xK X) hP (xws_D (by omega)) hS (fun q h => xHB X h) (fun cA => rfl) q0 rfl (by simp only [componentBytes]; omega) (by omega) (by omega) hd (fun q9 cA H1 gK g1 g2 g3 => ?_)
      refine xW_size (fun hz => ?_)
      have e9 := xfresh X hbw h1 g1 g2 hz
      subst e9
      have ec : cA = ka .long := xkA (fun _ q => by cases q) (gK.2 6 (cA, .long) rfl).2 ((xK X).2 1 (ka .long, .long) rfl).2
      subst ec
      have g1 : va_P D xcl (xws (xphi B fo) ka w ++ [(xphi B fo w.length, xe (xphi B fo) ka (xlng x.toNatClampNeg (fun _ => 0)))]) H1 := g1
      rw [← xws_app] at g1
      exact h.2 _ H1 locs ls (cells + 1) (slots + x.toNatClampNeg) hn g1 g3 (by rw [List.length_append, List.length_singleton]; omega) (by rw [xsl_app, hsz]; omega) hl
    | _ => exact (show False from h).elim
  · cases hk
theorem xs_anewarray {k : Nat} (X : XCx0 p R s m args meth c own ini cc nL Ts D ka B fo F ss nw w0 wf d) (hbw : w.length ≤ 601024) (hd : decode cc pc = .ok (ci, len)) (hk : xck ss nw sg own ini pcs pc ci len js (.anewarray k) = true) (hn : xnth pcs (i + 1) = some (pc + len)) (h : xi F rt (XGoal p l e R s m args below meth c Qf D ka B fo nL pcs w0 wf) C Q (some (.anewarray k)) i loc st w) : XNow p l e R s m args below meth c Qf D ka B fo nL w0 pc loc st w := by
  have h9 := x1_of h; clear h; obtain ⟨x, r, e0, h⟩ := h9; subst e0
  obtain ⟨q0, q1, h⟩ := h
  intro H locs ls cells slots hP hS h1 h2 hl
  simp only [xck] at hk
  split at hk
  · simp only [Bool.and_eq_true, beq_iff_eq] at hk
    obtain ⟨rfl, hk⟩ := hk
    obtain ⟨-, -, r3, r4, -⟩ := X.2.2.2.2.2.2.2.2.2
    split at h
    · have hk : xwj (.classLink own _ "GreenButtons$Crew") js 0 = true := hk
      have hb1 := h.1
      rw [List.length_append, List.length_singleton, xsl_app] at hb1
      have hsz : xsz (xref "GreenButtons$Crew" x.toNatClampNeg (fun _ => none)) = x.toNatClampNeg := rfl
      rw [hsz] at hb1
      refine va_newq (C := "GreenButtons$Crew") X.1 X.2.1 X.2.2.2.1 (xword X (xwj_in hk)) X.2.2.2.2.2.2.2.1.2.2.2.2.2.2.1 (xK X) hP (xws_D (by omega)) hS (fun q h => xHB X h) q0 rfl (by omega) (by omega) (by omega) hd (fun q9 cA H1 gK g1 g2 g3 => ?_)
      refine xW_size (fun hz => ?_)
      have e9 := xfresh X hbw h1 g1 g2 hz
      subst e9
      have ec : cA = ka (.object "GreenButtons$Crew") := by
        obtain ⟨-, -, -, -, -, c1⟩ := (gK.2 6 (cA, .object "GreenButtons$Crew") rfl).2
        obtain ⟨-, -, -, -, -, c2⟩ := ((xK X).2 4 (ka (.object "GreenButtons$Crew"), .object "GreenButtons$Crew") rfl).2
        exact Option.some.inj (c1.symm.trans c2)
      subst ec
      have g1 : va_P D xcl (xws (xphi B fo) ka w ++ [(xphi B fo w.length, xe (xphi B fo) ka (xref "GreenButtons$Crew" x.toNatClampNeg (fun _ => none)))]) H1 := g1
      rw [← xws_app] at g1
      exact h.2 _ H1 locs ls (cells + 1) (slots + x.toNatClampNeg) hn g1 g3 (by rw [List.length_append, List.length_singleton]; omega) (by rw [xsl_app, hsz]; omega) hl
    · have hk : xwj (.classLink own _ "GreenButtons$Log") js 0 = true := hk
      have hb1 := h.1
      rw [List.length_append, List.length_singleton, xsl_app] at hb1
      have hsz : xsz (xref "GreenButtons$Log" x.toNatClampNeg (fun _ => none)) = x.toNatClampNeg := rfl
      rw [hsz] at hb1
      refine va_newq (C := "GreenButtons$Log") X.1 X.2.1 X.2.2.2.1 (xword X (xwj_in hk)) X.2.2.2.2.2.2.2.1.2.2.2.2.2.2.2.1 (xK X) hP (xws_D (by omega)) hS (fun q h => xHB X h) q0 rfl (by omega) (by omega) (by omega) hd (fun q9 cA H1 gK g1 g2 g3 => ?_)
      refine xW_size (fun hz => ?_)
      have e9 := xfresh X hbw h1 g1 g2 hz
      subst e9
      have ec : cA = ka (.object "GreenButtons$Log") := by
        obtain ⟨-, -, -, -, -, c1⟩ := (gK.2 6 (cA, .object "GreenButtons$Log") rfl).2
        obtain ⟨-, -, -, -, -, c2⟩ := ((xK X).2 5 (ka (.object "GreenButtons$Log"), .object "GreenButtons$Log") rfl).2
        exact Option.some.inj (c1.symm.trans c2)
      subst ec
      have g1 : va_P D xcl (xws (xphi B fo) ka w ++ [(xphi B fo w.length, xe (xphi B fo) ka (xref "GreenButtons$Log" x.toNatClampNeg (fun _ => none)))]) H1 := g1
      rw [← xws_app] at g1
      exact h.2 _ H1 locs ls (cells + 1) (slots + x.toNatClampNeg) hn g1 g3 (by rw [List.length_append, List.length_singleton]; omega) (by rw [xsl_app, hsz]; omega) hl
    · exact h.elim
  · cases hk
theorem xs_arraylength (X : XCx0 p R s m args meth c own ini cc nL Ts D ka B fo F ss nw w0 wf d) (hbw : w.length ≤ 601024) (hd : decode cc pc = .ok (ci, len)) (hk : xck ss nw sg own ini pcs pc ci len js (.arraylength) = true) (hn : xnth pcs (i + 1) = some (pc + len)) (h : xi F rt (XGoal p l e R s m args below meth c Qf D ka B fo nL pcs w0 wf) C Q (some (.arraylength)) i loc st w) : XNow p l e R s m args below meth c Qf D ka B fo nL w0 pc loc st w := by
  have h9 := x1r_of h; clear h; obtain ⟨a, r, e0, h⟩ := h9; subst e0
  have hk : (decide (ci = Instr.arraylength) && len == 1) = true := hk
  simp only [Bool.and_eq_true, decide_eq_true_eq, beq_iff_eq] at hk
  obtain ⟨rfl, rfl⟩ := hk
  intro H locs ls cells slots hP hS h1 h2 hl
  split at h
  · rename_i n f hw
    exact va_alen X.1 X.2.1 (xK X) hP a 0 (xws_at hw) (ty := .int) rfl rfl hd (h.2 _ H locs ls cells slots hn hP hS h1 h2 hl)
  · exact h.elim
  · rename_i hw
    split at h
    · rename_i ha
      subst ha
      have g := h.2 _ H locs ls cells slots hn hP hS h1 h2 hl
      have e1 : xv (xphi B fo) (.ref xSCR) = .ref (fo xSCR) := congrArg Value.ref (xphi_fo (Nat.le_refl 1000000))
      obtain ⟨hX, hb⟩ := X.2.2.2.2.2.2.2.1.2.1
      have hbl : fo xSCR < s.heap.size := by obtain ⟨scr, q1, -⟩ := hX; exact (Array.getElem?_eq_some_iff.mp q1).1
      rw [List.map_cons, e1]
      exact va_slen (A := fun q => B ≤ q) X.1 X.2.1 hX hbl hb hS hd g
    · split at h
      · rename_i b hb
        split at h
        · rename_i ha
          obtain ⟨j, rfl⟩ : ∃ j : Nat, a = xBYT + j := ⟨a - xBYT, (Nat.add_sub_cancel' ha).symm⟩
          rw [Nat.add_sub_cancel_left] at hb
          have hE := (X.2.2.2.2.2.2.2.1.2.2.1.1 j (xnth_lt hb))
          have e1 : xv (xphi B fo) (.ref (xBYT + j)) = .ref (fo (xBYT + j)) := congrArg Value.ref (xphi_fo (by show 1000000 ≤ 1000101 + j; omega))
          have g := h.2 _ H locs ls cells slots hn hP hS h1 h2 hl
          rw [List.map_cons, e1]
          refine va_tlen X.1 X.2.1 hE.2.2.2 hS ?_ hd g
          rw [List.getD_eq_getElem?_getD, List.getElem?_map, ← xnth_eq, hb]
          rfl
        · exact h.elim
      · exact h.elim
theorem xs_iaload (X : XCx0 p R s m args meth c own ini cc nL Ts D ka B fo F ss nw w0 wf d) (hbw : w.length ≤ 601024) (hd : decode cc pc = .ok (ci, len)) (hk : xck ss nw sg own ini pcs pc ci len js (.iaload) = true) (hn : xnth pcs (i + 1) = some (pc + len)) (h : xi F rt (XGoal p l e R s m args below meth c Qf D ka B fo nL pcs w0 wf) C Q (some (.iaload)) i loc st w) : XNow p l e R s m args below meth c Qf D ka B fo nL w0 pc loc st w := by
  have h9 := xir_of h; clear h; obtain ⟨a, j, r, e0, h⟩ := h9; subst e0
  have hk : (decide (ci = Instr.iaload) && len == 1) = true := hk
  simp only [Bool.and_eq_true, decide_eq_true_eq, beq_iff_eq] at hk
  obtain ⟨rfl, rfl⟩ := hk
  intro H locs ls cells slots hP hS h1 h2 hl
  split at h
  · rename_i n f hw
    exact va_iald X.1 X.2.1 (xK X) hP a 0 (xws_at hw) rfl h.1 hd (h.2.2 _ H locs ls cells slots hn hP hS h1 h2 hl)
  · exact h.elim
  · obtain ⟨rfl, q1, h⟩ := h
    have g := h.2 _ H locs ls cells slots hn hP hS h1 h2 hl
    have e1 : xv (xphi B fo) (.ref xSCR) = .ref (fo xSCR) := congrArg Value.ref (xphi_fo (Nat.le_refl 1000000))
    obtain ⟨hX, hb⟩ := X.2.2.2.2.2.2.2.1.2.1
    have hbl : fo xSCR < s.heap.size := by obtain ⟨scr, q1, -⟩ := hX; exact (Array.getElem?_eq_some_iff.mp q1).1
    rw [List.map_cons, List.map_cons, e1]
    exact va_sld (A := fun q => B ≤ q) X.1 X.2.1 hX hbl hb hS q1 hd g
theorem xs_laload (X : XCx0 p R s m args meth c own ini cc nL Ts D ka B fo F ss nw w0 wf d) (hbw : w.length ≤ 601024) (hd : decode cc pc = .ok (ci, len)) (hk : xck ss nw sg own ini pcs pc ci len js (.laload) = true) (hn : xnth pcs (i + 1) = some (pc + len)) (h : xi F rt (XGoal p l e R s m args below meth c Qf D ka B fo nL pcs w0 wf) C Q (some (.laload)) i loc st w) : XNow p l e R s m args below meth c Qf D ka B fo nL w0 pc loc st w := by
  have h9 := xir_of h; clear h; obtain ⟨a, j, r, e0, h⟩ := h9; subst e0
  have hk : (decide (ci = Instr.laload) && len == 1) = true := hk
  simp only [Bool.and_eq_true, decide_eq_true_eq, beq_iff_eq] at hk
  obtain ⟨rfl, rfl⟩ := hk
  intro H locs ls cells slots hP hS h1 h2 hl
  split at h
  · rename_i n f hw
    exact va_lald X.1 X.2.1 (xK X) hP a 1 (xws_at hw) rfl h.1 hd (h.2.2 _ H locs ls cells slots hn hP hS h1 h2 hl)
  · exact h.elim
theorem xs_baload (X : XCx0 p R s m args meth c own ini cc nL Ts D ka B fo F ss nw w0 wf d) (hbw : w.length ≤ 601024) (hd : decode cc pc = .ok (ci, len)) (hk : xck ss nw sg own ini pcs pc ci len js (.baload) = true) (hn : xnth pcs (i + 1) = some (pc + len)) (h : xi F rt (XGoal p l e R s m args below meth c Qf D ka B fo nL pcs w0 wf) C Q (some (.baload)) i loc st w) : XNow p l e R s m args below meth c Qf D ka B fo nL w0 pc loc st w := by
  have h9 := xir_of h; clear h; obtain ⟨a, j, r, e0, h⟩ := h9; subst e0
  have hk : (decide (ci = Instr.baload) && len == 1) = true := hk
  simp only [Bool.and_eq_true, decide_eq_true_eq, beq_iff_eq] at hk
  obtain ⟨rfl, rfl⟩ := hk
  intro H locs ls cells slots hP hS h1 h2 hl
  split at h
  · rename_i n f hw
    exact va_bald X.1 X.2.1 (xK X) hP a 2 (xws_at hw) rfl h.1 hd (h.2.2 _ H locs ls cells slots hn hP hS h1 h2 hl)
  · rename_i n f hw
    exact va_zald X.1 X.2.1 (xK X) hP a 3 (xws_at hw) rfl h.1 hd (h.2.2 _ H locs ls cells slots hn hP hS h1 h2 hl)
  · exact h.elim
  · split at h
    · rename_i b hb
      obtain ⟨ha, q1, h⟩ := h
      obtain ⟨k, rfl⟩ : ∃ k : Nat, a = xBYT + k := ⟨a - xBYT, (Nat.add_sub_cancel' ha).symm⟩
      rw [Nat.add_sub_cancel_left] at hb
      have hE := (X.2.2.2.2.2.2.2.1.2.2.1.1 k (xnth_lt hb))
      have e1 : xv (xphi B fo) (.ref (xBYT + k)) = .ref (fo (xBYT + k)) := congrArg Value.ref (xphi_fo (by show 1000000 ≤ 1000101 + k; omega))
      have g := h.2 _ H locs ls cells slots hn hP hS h1 h2 hl
      have e2 : F.2.2.1.getD k [] = b := by rw [List.getD_eq_getElem?_getD, ← xnth_eq, hb]; rfl
      have e3 : (F.2.2.1.map List.length).getD k 0 = b.length := by rw [List.getD_eq_getElem?_getD, List.getElem?_map, ← xnth_eq, hb]; rfl
      rw [List.map_cons, List.map_cons, e1]
      refine va_tb X.1 X.2.1 hE.2.2.2 hS (by rw [e3]; exact q1) (by rw [e2]; rfl) hd g
    · exact h.elim
theorem xs_aaload (X : XCx0 p R s m args meth c own ini cc nL Ts D ka B fo F ss nw w0 wf d) (hbw : w.length ≤ 601024) (hd : decode cc pc = .ok (ci, len)) (hk : xck ss nw sg own ini pcs pc ci len js (.aaload) = true) (hn : xnth pcs (i + 1) = some (pc + len)) (h : xi F rt (XGoal p l e R s m args below meth c Qf D ka B fo nL pcs w0 wf) C Q (some (.aaload)) i loc st w) : XNow p l e R s m args below meth c Qf D ka B fo nL w0 pc loc st w := by
  have h9 := xir_of h; clear h; obtain ⟨a, j, r, e0, h⟩ := h9; subst e0
  have hk : (decide (ci = Instr.aaload) && len == 1) = true := hk
  simp only [Bool.and_eq_true, decide_eq_true_eq, beq_iff_eq] at hk
  obtain ⟨rfl, rfl⟩ := hk
  intro H locs ls cells slots hP hS h1 h2 hl
  split at h
  · rename_i C0 n f hw
    obtain ⟨q0, q1, h⟩ := h
    split at h
    · rename_i b hb
      have g := h.2 _ H locs ls cells slots hn hP hS h1 h2 hl
      have e1 : va_rf ((f j.toNatClampNeg).map (xphi B fo)) = xv (xphi B fo) (.ref b) := by rw [hb]; rfl
      rcases q0 with rfl | rfl
      · refine va_aldq X.1 X.2.1 (xK X) hP a 4 (xws_at hw) rfl q1 hd ?_
        rw [e1]
        exact g
      · refine va_aldq X.1 X.2.1 (xK X) hP a 5 (xws_at hw) rfl q1 hd ?_
        rw [e1]
        exact g
    · exact h.elim
  · exact h.elim
theorem xs_iastore (X : XCx0 p R s m args meth c own ini cc nL Ts D ka B fo F ss nw w0 wf d) (hbw : w.length ≤ 601024) (hd : decode cc pc = .ok (ci, len)) (hk : xck ss nw sg own ini pcs pc ci len js (.iastore) = true) (hn : xnth pcs (i + 1) = some (pc + len)) (h : xi F rt (XGoal p l e R s m args below meth c Qf D ka B fo nL pcs w0 wf) C Q (some (.iastore)) i loc st w) : XNow p l e R s m args below meth c Qf D ka B fo nL w0 pc loc st w := by
  have h9 := x1_of h; clear h; obtain ⟨x, r0, e0, h⟩ := h9; subst e0
  have h9 := xir_of h; clear h; obtain ⟨a, j, r, e0, h⟩ := h9; subst e0
  have hk : (decide (ci = Instr.iastore) && len == 1) = true := hk
  simp only [Bool.and_eq_true, decide_eq_true_eq, beq_iff_eq] at hk
  obtain ⟨rfl, rfl⟩ := hk
  intro H locs ls cells slots hP hS h1 h2 hl
  split at h
  · rename_i n f hw
    refine va_iast X.1 X.2.1 (xK X) hP (xws_D (by omega)) hS a 0 (xws_at hw) rfl h.1 hd (fun H1 locs1 g1 g2 g3 => ?_)
    have g1 : va_P D xcl ((xws (xphi B fo) ka w).set a (xphi B fo a, xe (xphi B fo) ka (xint .int n (upd f j.toNatClampNeg x)))) H1 := g1
    rw [xws_set] at g1
    exact h.2.2 _ H1 locs1 ls cells slots hn g1 g3 (by rw [xset_len]; exact h1) (h2.trans (xset_sl w a _ _ hw (by simp [xsz, xint, xlng, xref])).symm) hl
  · exact h.elim
theorem xs_lastore (X : XCx0 p R s m args meth c own ini cc nL Ts D ka B fo F ss nw w0 wf d) (hbw : w.length ≤ 601024) (hd : decode cc pc = .ok (ci, len)) (hk : xck ss nw sg own ini pcs pc ci len js (.lastore) = true) (hn : xnth pcs (i + 1) = some (pc + len)) (h : xi F rt (XGoal p l e R s m args below meth c Qf D ka B fo nL pcs w0 wf) C Q (some (.lastore)) i loc st w) : XNow p l e R s m args below meth c Qf D ka B fo nL w0 pc loc st w := by
  have h9 := x1l_of h; clear h; obtain ⟨x, r0, e0, h⟩ := h9; subst e0
  have h9 := xir_of h; clear h; obtain ⟨a, j, r, e0, h⟩ := h9; subst e0
  have hk : (decide (ci = Instr.lastore) && len == 1) = true := hk
  simp only [Bool.and_eq_true, decide_eq_true_eq, beq_iff_eq] at hk
  obtain ⟨rfl, rfl⟩ := hk
  intro H locs ls cells slots hP hS h1 h2 hl
  split at h
  · rename_i n f hw
    refine va_last X.1 X.2.1 (xK X) hP (xws_D (by omega)) hS a 1 (xws_at hw) rfl h.1 hd (fun H1 locs1 g1 g2 g3 => ?_)
    have g1 : va_P D xcl ((xws (xphi B fo) ka w).set a (xphi B fo a, xe (xphi B fo) ka (xlng n (vp_updL f j.toNatClampNeg x)))) H1 := g1
    rw [xws_set] at g1
    exact h.2.2 _ H1 locs1 ls cells slots hn g1 g3 (by rw [xset_len]; exact h1) (h2.trans (xset_sl w a _ _ hw (by simp [xsz, xint, xlng, xref])).symm) hl
  · exact h.elim
theorem xs_bastore (X : XCx0 p R s m args meth c own ini cc nL Ts D ka B fo F ss nw w0 wf d) (hbw : w.length ≤ 601024) (hd : decode cc pc = .ok (ci, len)) (hk : xck ss nw sg own ini pcs pc ci len js (.bastore) = true) (hn : xnth pcs (i + 1) = some (pc + len)) (h : xi F rt (XGoal p l e R s m args below meth c Qf D ka B fo nL pcs w0 wf) C Q (some (.bastore)) i loc st w) : XNow p l e R s m args below meth c Qf D ka B fo nL w0 pc loc st w := by
  have h9 := x1_of h; clear h; obtain ⟨x, r0, e0, h⟩ := h9; subst e0
  have h9 := xir_of h; clear h; obtain ⟨a, j, r, e0, h⟩ := h9; subst e0
  have hk : (decide (ci = Instr.bastore) && len == 1) = true := hk
  simp only [Bool.and_eq_true, decide_eq_true_eq, beq_iff_eq] at hk
  obtain ⟨rfl, rfl⟩ := hk
  intro H locs ls cells slots hP hS h1 h2 hl
  split at h
  · rename_i n f hw
    refine va_bast X.1 X.2.1 (xK X) hP (xws_D (by omega)) hS a 2 (xws_at hw) rfl h.1 hd (fun H1 locs1 g1 g2 g3 => ?_)
    have g1 : va_P D xcl ((xws (xphi B fo) ka w).set a (xphi B fo a, xe (xphi B fo) ka (xint .byte n (upd f j.toNatClampNeg (vp_nar .byte x))))) H1 := g1
    rw [xws_set] at g1
    exact h.2.2 _ H1 locs1 ls cells slots hn g1 g3 (by rw [xset_len]; exact h1) (h2.trans (xset_sl w a _ _ hw (by simp [xsz, xint, xlng, xref])).symm) hl
  · rename_i n f hw
    refine va_zast X.1 X.2.1 (xK X) hP (xws_D (by omega)) hS a 3 (xws_at hw) rfl h.1 hd (fun H1 locs1 g1 g2 g3 => ?_)
    have g1 : va_P D xcl ((xws (xphi B fo) ka w).set a (xphi B fo a, xe (xphi B fo) ka (xint .boolean n (upd f j.toNatClampNeg (vp_nar .boolean x))))) H1 := g1
    rw [xws_set] at g1
    exact h.2.2 _ H1 locs1 ls cells slots hn g1 g3 (by rw [xset_len]; exact h1) (h2.trans (xset_sl w a _ _ hw (by simp [xsz, xint, xlng, xref])).symm) hl
  · exact h.elim
theorem xs_aastore (X : XCx0 p R s m args meth c own ini cc nL Ts D ka B fo F ss nw w0 wf d) (hbw : w.length ≤ 601024) (hd : decode cc pc = .ok (ci, len)) (hk : xck ss nw sg own ini pcs pc ci len js (.aastore) = true) (hn : xnth pcs (i + 1) = some (pc + len)) (h : xi F rt (XGoal p l e R s m args below meth c Qf D ka B fo nL pcs w0 wf) C Q (some (.aastore)) i loc st w) : XNow p l e R s m args below meth c Qf D ka B fo nL w0 pc loc st w := by
  have h9 := x1r_of h; clear h; obtain ⟨b, r0, e0, h⟩ := h9; subst e0
  have h9 := xir_of h; clear h; obtain ⟨a, j, r, e0, h⟩ := h9; subst e0
  have hk : (decide (ci = Instr.aastore) && len == 1) = true := hk
  simp only [Bool.and_eq_true, decide_eq_true_eq, beq_iff_eq] at hk
  obtain ⟨rfl, rfl⟩ := hk
  intro H locs ls cells slots hP hS h1 h2 hl
  split at h
  · rename_i C0 n f hw
    split at h
    · rename_i cj fs hb
      obtain ⟨q0, q1, h⟩ := h
      have ef : (fun k => (va_up f j.toNatClampNeg (some b) k).map (xphi B fo)) = va_up (fun k => (f k).map (xphi B fo)) j.toNatClampNeg (some (xphi B fo b)) := by
        funext k
        simp only [va_up]
        split <;> rfl
      have fin : ∀ (H1 : Heap) (locs1 : List Loc), va_P D xcl ((xws (xphi B fo) ka w).set a (xphi B fo a, .inl (ka (.object C0), n, .inr (.inr (.inr (.inr (va_up (fun k => (f k).map (xphi B fo)) j.toNatClampNeg (some (xphi B fo b))))))))) H1 → va_S (fun q => B ≤ q) s.heap H1 locs1 → W p l e R s m args below meth c H1 locs1 cells slots Qf (F0 m (pc + 1) ls (r.map (xv (xphi B fo)))) := by
        intro H1 locs1 g1 g3
        rw [← ef] at g1
        have g1 : va_P D xcl ((xws (xphi B fo) ka w).set a (xphi B fo a, xe (xphi B fo) ka (xref C0 n (va_up f j.toNatClampNeg (some b))))) H1 := g1
        rw [xws_set] at g1
        exact h.2 _ H1 locs1 ls cells slots hn g1 g3 (by rw [xset_len]; exact h1) (h2.trans (xset_sl w a _ _ hw (by simp [xsz, xint, xlng, xref])).symm) hl
      split at q0
      · rename_i hc
        subst hc
        subst q0
        exact va_astq (r := (RX0, TX0, 6)) X.1 X.2.1 (xK X) hP (xws_D (by omega)) hS a 4 b 0 (xws_at hw) rfl (xws_at hb) rfl q1 hd (fun H1 locs1 g1 g2 g3 => fin H1 locs1 g1 g3)
      · split at q0
        · rename_i hc
          subst hc
          subst q0
          exact va_astq (r := (RX4, TX4, 4)) X.1 X.2.1 (xK X) hP (xws_D (by omega)) hS a 5 b 4 (xws_at hw) rfl (xws_at hb) rfl q1 hd (fun H1 locs1 g1 g2 g3 => fin H1 locs1 g1 g3)
        · exact q0.elim
    · exact h.elim
  · exact h.elim
theorem xs_pop (hob : Jvm.Cond.code objectInit ⟨#[0xb1]⟩ 1 none ∈ xTB) (X : XCx0 p R s m args meth c own ini cc nL Ts D ka B fo F ss nw w0 wf d) (hbw : w.length ≤ 601024) (hd : decode cc pc = .ok (ci, len)) (hk : xck ss nw sg own ini pcs pc ci len js (.pop) = true) (hn : xnth pcs (i + 1) = some (pc + len)) (h : xi F rt (XGoal p l e R s m args below meth c Qf D ka B fo nL pcs w0 wf) C Q (some (.pop)) i loc st w) : XNow p l e R s m args below meth c Qf D ka B fo nL w0 pc loc st w := by
  have h9 := x1r_of h; clear h; obtain ⟨a, r, e0, h⟩ := h9; subst e0
  intro H locs ls cells slots hP hS h1 h2 hl
  simp only [xck] at hk
  split at hk
  · simp only [Bool.and_eq_true, beq_iff_eq] at hk
    obtain ⟨⟨rfl, k1⟩, k2⟩ := hk
    obtain ⟨r1, r2, -, -, -⟩ := X.2.2.2.2.2.2.2.2.2
    refine W.objInit (a := xphi B fo a) (rest := r.map (xv (xphi B fo))) X.1 X.2.1 X.2.2.2.1 (xword X (xwj_in k1)) (xword X (xwj_in k2)) (xword X hob) rfl (hl.1.trans X.2.2.1.symm) rfl hd (by omega) ?_ (h.2.2 _ H locs ls cells slots hn hP hS h1 h2 hl)
    have e1 : ((r.map (xv (xphi B fo))).map fun v => v.category) = r.map fun v => v.category := by
      rw [List.map_map]
      exact List.map_congr_left (fun v _ => xv_cat _ v)
    rw [e1]
    have := h.1
    show 2 * 0 + _ + 12 ≤ _
    omega
  · cases hk
theorem xs_pop2 (X : XCx0 p R s m args meth c own ini cc nL Ts D ka B fo F ss nw w0 wf d) (hbw : w.length ≤ 601024) (hd : decode cc pc = .ok (ci, len)) (hk : xck ss nw sg own ini pcs pc ci len js (.pop2) = true) (hn : xnth pcs (i + 1) = some (pc + len)) (h : xi F rt (XGoal p l e R s m args below meth c Qf D ka B fo nL pcs w0 wf) C Q (some (.pop2)) i loc st w) : XNow p l e R s m args below meth c Qf D ka B fo nL w0 pc loc st w := by
  simp only [xi] at h
  split at h
  · rename_i x r
    intro H locs ls cells slots hP hS h1 h2 hl
    simp only [xck] at hk
    split at hk
    · simp only [beq_iff_eq] at hk
      subst hk
      exact lv_pop X.1 X.2.1 hd rfl (h.2 _ H locs ls cells slots hn hP hS h1 h2 hl)
    · cases hk
  · exact h.elim
theorem xs_copy (X : XCx0 p R s m args meth c own ini cc nL Ts D ka B fo F ss nw w0 wf d) (hbw : w.length ≤ 601024) (hd : decode cc pc = .ok (ci, len)) (hk : xck ss nw sg own ini pcs pc ci len js (.monitorenter) = true) (hn : xnth pcs (i + 1) = some (pc + len)) (h : xi F rt (XGoal p l e R s m args below meth c Qf D ka B fo nL pcs w0 wf) C Q (some (.monitorenter)) i loc st w) : XNow p l e R s m args below meth c Qf D ka B fo nL w0 pc loc st w := by
  simp only [xi] at h
  split at h
  · rename_i n dp dd sp sd r
    obtain ⟨h0, h⟩ := h
    intro H locs ls cells slots hP hS h1 h2 hl
    obtain ⟨r1, r2, -, -, -⟩ := X.2.2.2.2.2.2.2.2.2
    have e1 : ((r.map (xv (xphi B fo))).map fun v => v.category) = r.map fun v => v.category := by
      rw [List.map_map]
      exact List.map_congr_left (fun v _ => xv_cat _ v)
    have hloc : ((r.map (xv (xphi B fo))).map fun v => v.category).sum + (nativeFrameWords "java/lang/System" "arraycopy" 5 + 11) ≤ R.locals := by
      rw [e1]
      have : nativeFrameWords "java/lang/System" "arraycopy" 5 = 7 := by decide +kernel
      omega
    simp only [xck] at hk
    split at hk
    · simp only [Bool.and_eq_true, beq_iff_eq] at hk
      obtain ⟨⟨⟨⟨rfl, k1⟩, k2⟩, k3⟩, k4⟩ := hk
      split at h
      · rename_i n0 f n1 g hs9 hd9
        obtain ⟨⟨b1, b2, b3, b4, b5⟩, h⟩ := h
        refine va_copyi X.1 X.2.1 (X.2.2.1.trans hl.1.symm) X.2.2.2.1 (xword X (xwj_in k1)) (xword X (xwj_in k2)) (xword X (xwj_in k3)) (xword X (xwj_in k4)) (xK X) hP (xws_D (by omega)) hS _ _ 0 0 (xws_at hs9) (xws_at hd9) rfl rfl rfl b1 b2 b3 b4 b5 (fun _ _ => rfl) (by omega) hloc hd (fun H1 locs1 g1 g2 g3 => ?_)
        have g1 : va_P D xcl ((xws (xphi B fo) ka w).set _ (xphi B fo _, xe (xphi B fo) ka (xint .int n1 (va_cpy f g sp.toNatClampNeg dp.toNatClampNeg n.toNatClampNeg)))) H1 := g1
        rw [xws_set] at g1
        exact h.2 _ H1 locs1 ls cells slots hn g1 g3 (by rw [xset_len]; exact h1) (h2.trans (xset_sl w _ _ _ hd9 (by simp [xsz, xint, xlng, xref])).symm) hl
      · rename_i n0 f n1 g hs9 hd9
        obtain ⟨⟨b1, b2, b3, b4, b5⟩, h⟩ := h
        refine va_copyl X.1 X.2.1 (X.2.2.1.trans hl.1.symm) X.2.2.2.1 (xword X (xwj_in k1)) (xword X (xwj_in k2)) (xword X (xwj_in k3)) (xword X (xwj_in k4)) (xK X) hP (xws_D (by omega)) hS _ _ 1 1 (xws_at hs9) (xws_at hd9) rfl rfl rfl b1 b2 b3 b4 b5 (fun _ _ => rfl) (by omega) hloc hd (fun H1 locs1 g1 g2 g3 => ?_)
        have g1 : va_P D xcl ((xws (xphi B fo) ka w).set _ (xphi B fo _, xe (xphi B fo) ka (xlng n1 (va_cpy f g sp.toNatClampNeg dp.toNatClampNeg n.toNatClampNeg)))) H1 := g1
        rw [xws_set] at g1
        exact h.2 _ H1 locs1 ls cells slots hn g1 g3 (by rw [xset_len]; exact h1) (h2.trans (xset_sl w _ _ _ hd9 (by simp [xsz, xint, xlng, xref])).symm) hl
      · exact h.elim
    · cases hk
  · exact h.elim
theorem xs_fadd (hcd : Jvm.Cond.code Lib.Math.max.name Lib.Math.max.code 2 (some .int) ∈ xTB) (X : XCx0 p R s m args meth c own ini cc nL Ts D ka B fo F ss nw w0 wf d) (hbw : w.length ≤ 601024) (hd : decode cc pc = .ok (ci, len)) (hk : xck ss nw sg own ini pcs pc ci len js (.fadd) = true) (hn : xnth pcs (i + 1) = some (pc + len)) (h : xi F rt (XGoal p l e R s m args below meth c Qf D ka B fo nL pcs w0 wf) C Q (some (.fadd)) i loc st w) : XNow p l e R s m args below meth c Qf D ka B fo nL w0 pc loc st w := by
  have h9 := x2_of h; clear h; obtain ⟨x, y, r, e0, h⟩ := h9; subst e0
  intro H locs ls cells slots hP hS h1 h2 hl
  simp only [xck] at hk
  split at hk
  · simp only [Bool.and_eq_true, beq_iff_eq] at hk
    obtain ⟨⟨⟨rfl, k1⟩, k2⟩, k3⟩ := hk
    obtain ⟨r1, r2, r3, r4, -⟩ := X.2.2.2.2.2.2.2.2.2
    have hb := h.2.1
    refine va_mmax X.1 X.2.1 (X.2.2.1.trans hl.1.symm) X.2.2.2.1 (xword X (xwj_in k1)) (xword X (xwj_in k2)) (xword X (xwj_in k3)) (xword X hcd) (by omega) ?_ (by omega) (by omega) hd (h.2.2 _ H locs ls cells slots hn hP hS h1 h2 hl)
    have e1 : ((r.map (xv (xphi B fo))).map fun v => v.category) = r.map fun v => v.category := by
      rw [List.map_map]
      exact List.map_congr_left (fun v _ => xv_cat _ v)
    rw [e1]
    have := h.1
    omega
  · cases hk
theorem xs_fsub (hcd : Jvm.Cond.code Lib.Math.min.name Lib.Math.min.code 2 (some .int) ∈ xTB) (X : XCx0 p R s m args meth c own ini cc nL Ts D ka B fo F ss nw w0 wf d) (hbw : w.length ≤ 601024) (hd : decode cc pc = .ok (ci, len)) (hk : xck ss nw sg own ini pcs pc ci len js (.fsub) = true) (hn : xnth pcs (i + 1) = some (pc + len)) (h : xi F rt (XGoal p l e R s m args below meth c Qf D ka B fo nL pcs w0 wf) C Q (some (.fsub)) i loc st w) : XNow p l e R s m args below meth c Qf D ka B fo nL w0 pc loc st w := by
  have h9 := x2_of h; clear h; obtain ⟨x, y, r, e0, h⟩ := h9; subst e0
  intro H locs ls cells slots hP hS h1 h2 hl
  simp only [xck] at hk
  split at hk
  · simp only [Bool.and_eq_true, beq_iff_eq] at hk
    obtain ⟨⟨⟨rfl, k1⟩, k2⟩, k3⟩ := hk
    obtain ⟨r1, r2, r3, r4, -⟩ := X.2.2.2.2.2.2.2.2.2
    have hb := h.2.1
    refine va_mmin X.1 X.2.1 (X.2.2.1.trans hl.1.symm) X.2.2.2.1 (xword X (xwj_in k1)) (xword X (xwj_in k2)) (xword X (xwj_in k3)) (xword X hcd) (by omega) ?_ (by omega) (by omega) hd (h.2.2 _ H locs ls cells slots hn hP hS h1 h2 hl)
    have e1 : ((r.map (xv (xphi B fo))).map fun v => v.category) = r.map fun v => v.category := by
      rw [List.map_map]
      exact List.map_congr_left (fun v _ => xv_cat _ v)
    rw [e1]
    have := h.1
    omega
  · cases hk
theorem xs_fneg (hcd : Jvm.Cond.code Lib.Math.abs.name Lib.Math.abs.code 1 (some .int) ∈ xTB) (X : XCx0 p R s m args meth c own ini cc nL Ts D ka B fo F ss nw w0 wf d) (hbw : w.length ≤ 601024) (hd : decode cc pc = .ok (ci, len)) (hk : xck ss nw sg own ini pcs pc ci len js (.fneg) = true) (hn : xnth pcs (i + 1) = some (pc + len)) (h : xi F rt (XGoal p l e R s m args below meth c Qf D ka B fo nL pcs w0 wf) C Q (some (.fneg)) i loc st w) : XNow p l e R s m args below meth c Qf D ka B fo nL w0 pc loc st w := by
  have h9 := x1_of h; clear h; obtain ⟨x, r, e0, h⟩ := h9; subst e0
  intro H locs ls cells slots hP hS h1 h2 hl
  simp only [xck] at hk
  split at hk
  · simp only [Bool.and_eq_true, beq_iff_eq] at hk
    obtain ⟨⟨⟨rfl, k1⟩, k2⟩, k3⟩ := hk
    obtain ⟨r1, r2, r3, r4, -⟩ := X.2.2.2.2.2.2.2.2.2
    have hb := h.2.1
    refine va_mabs X.1 X.2.1 (X.2.2.1.trans hl.1.symm) X.2.2.2.1 (xword X (xwj_in k1)) (xword X (xwj_in k2)) (xword X (xwj_in k3)) (xword X hcd) (by omega) ?_ (by omega) (by omega) hd (h.2.2 _ H locs ls cells slots hn hP hS h1 h2 hl)
    have e1 : ((r.map (xv (xphi B fo))).map fun v => v.category) = r.map fun v => v.category := by
      rw [List.map_map]
      exact List.map_congr_left (fun v _ => xv_cat _ v)
    rw [e1]
    have := h.1
    omega
  · cases hk
/-- methods of the JDK that are rows of the kit -/
def XPrim : Prop := Jvm.Cond.code objectInit ⟨#[0xb1]⟩ 1 none ∈ xTB ∧ Jvm.Cond.code Lib.Math.max.name Lib.Math.max.code 2 (some .int) ∈ xTB ∧ Jvm.Cond.code Lib.Math.min.name Lib.Math.min.code 2 (some .int) ∈ xTB ∧ Jvm.Cond.code Lib.Math.abs.name Lib.Math.abs.code 1 (some .int) ∈ xTB
end XHP
