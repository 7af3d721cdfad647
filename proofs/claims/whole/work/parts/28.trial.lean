/-! what is told of men 0 .. n - 1 alone; the trial crew -/
abbrev eqN (n : Nat) (f g : Fn) : Prop := ∀ k, k < n → f k = g k
theorem cnt_congr {p q : Nat → Bool} : ∀ n, (∀ k, k < n → p k = q k) → cnt p n = cnt q n
  | 0, _ => rfl
  | n + 1, h => by
    simp only [cnt, h n (by omega), cnt_congr n (fun k hk => h k (by omega))]
theorem bset_congr {p q : Nat → Bool} : ∀ n, (∀ k, k < n → p k = q k) → bset p n = bset q n
  | 0, _ => rfl
  | n + 1, h => by
    simp only [bset, h n (by omega), bset_congr n (fun k hk => h k (by omega))]
theorem sumF_congr {f g : Fn} : ∀ n, eqN n f g → sumF f n = sumF g n
  | 0, _ => rfl
  | n + 1, h => by
    simp only [sumF, h n (by omega), sumF_congr n (fun k hk => h k (by omega))]
theorem bst_congr {f g : Fn} : ∀ n, n ≤ 6 → eqN n f g → bst f n = bst g n
  | 0, _, _ => rfl
  | n + 1, h6, h => by
    have ih := bst_congr n (by omega) (fun k hk => h k (by omega))
    simp only [bst, ih, h n (by omega)]
    rcases bst_in g n (by omega) with ⟨rfl, e⟩ | ⟨b, hb, e⟩
    · simp [e]
    · rw [e, nI_clamp (by omega), h b (by omega)]
theorem capt_congr {f g : Fn} {n : Nat} (hn : n ≤ 6) (h : eqN n f g) : capt f n = capt g n := by
  have e := bst_congr n hn h
  simp only [capt, e]
  have : tie f n (bst g n) = tie g n (bst g n) := by
    rcases bst_in g n hn with ⟨rfl, e⟩ | ⟨b, hb, e⟩
    · rfl
    · rw [e]
      simp only [tie, nI_clamp (show b < 2 ^ 31 by omega), h b hb]
      apply Bool.eq_iff_iff.mpr
      simp only [List.any_eq_true, List.mem_range, Bool.and_eq_true, decide_eq_true_eq]
      constructor
      · rintro ⟨m, hm, h1, h2⟩
        exact ⟨m, hm, h1, by rw [← h m hm]; exact h2⟩
      · rintro ⟨m, hm, h1, h2⟩
        exact ⟨m, hm, h1, by rw [h m hm]; exact h2⟩
  rw [this]
theorem riseV_congr {s : TShip} {g g' p p' : Fn} {w : Int32} {n k : Nat} (hg : eqN n g g') (hp : eqN n p p') (hk : k < n) : riseV s g p w n k = riseV s g' p' w n k := by
  have ew : wetV s p k w = wetV s p' k w := by simp only [wetV, hp k hk]
  have ec : cnt (fun o => decide (g k < g o)) n = cnt (fun o => decide (g' k < g' o)) n := cnt_congr n (fun o ho => by rw [hg k hk, hg o ho])
  unfold riseV
  rw [ew, ec, hg k hk]
theorem newG_congr {s : TShip} {g g' p p' : Fn} {w : Int32} {n : Nat} (hg : eqN n g g') (hp : eqN n p p') : eqN n (newG s g p w n) (newG s g' p' w n) := by
  intro k hk
  simp only [newG, if_pos hk, hg k hk, riseV_congr hg hp hk]
theorem harbG_congr {s : TShip} {g g' : Fn} {n : Nat} (hg : eqN n g g') : eqN n (harbG s g n) (harbG s g' n) := by
  intro k hk
  simp only [harbG, hg k hk]
theorem harbP_congr {p p' : Fn} {n : Nat} : eqN n (harbP p n) (harbP p' n) := by
  intro k hk
  simp only [harbP, if_pos hk]
theorem fallG_congr {g g' : Fn} {s : Int32} {n k : Nat} (hn : n ≤ 6) (hk : k < n) (hg : eqN n g g') : eqN n (fallG g s n k) (fallG g' s n k) := by
  intro j hj
  simp only [fallG, upd, bst_congr n hn hg]
  rcases bst_in g' n hn with ⟨rfl, e⟩ | ⟨b, hb, e⟩
  · omega
  · rw [e, nI_clamp (by omega), hg b hb, hg j hj]
abbrev GP (g p : Fn) (n q : Nat) : Prop := (∀ k, k < n → rng (g k) 99) ∧ (∀ k, k < n → p k = -1 ∨ ∃ b, b < q ∧ p k = nI b)
theorem GP.green {g p : Fn} {n q : Nat} (h : GP g p n q) : ∀ k, k < n → rng (g k) 99 := h.1
theorem GP.place {g p : Fn} {n q : Nat} (h : GP g p n q) : ∀ k, k < n → p k = -1 ∨ ∃ b, b < q ∧ p k = nI b := h.2
abbrev Tr (c : TCrew) (n : Nat) (g p : Fn) (su : Int32) (t : Nat) : Prop := (∀ k, k < n → c.green k = g k) ∧ (∀ k, k < n → c.place k = p k) ∧ (c.sucked = su) ∧ (c.over = nI t)
theorem Tr.green {c : TCrew} {n : Nat} {g p : Fn} {su : Int32} {t : Nat} (h : Tr c n g p su t) : ∀ k, k < n → c.green k = g k := h.1
theorem Tr.place {c : TCrew} {n : Nat} {g p : Fn} {su : Int32} {t : Nat} (h : Tr c n g p su t) : ∀ k, k < n → c.place k = p k := h.2.1
theorem Tr.sucked {c : TCrew} {n : Nat} {g p : Fn} {su : Int32} {t : Nat} (h : Tr c n g p su t) : c.sucked = su := h.2.2.1
theorem Tr.over {c : TCrew} {n : Nat} {g p : Fn} {su : Int32} {t : Nat} (h : Tr c n g p su t) : c.over = nI t := h.2.2.2
theorem GP.congr {g p g' p' : Fn} {n q : Nat} (h : GP g p n q) (hg : eqN n g' g) (hp : eqN n p' p) : GP g' p' n q := ⟨fun k hk => by rw [hg k hk]; exact h.green k hk, fun k hk => by rw [hp k hk]; exact h.place k hk⟩
theorem mn99 {a b : Nat} (ha : a ≤ 200) (hb : b ≤ 200) : rng (mn 99 (nI a + nI b)) 99 := by
  rw [nI_add]
  simp only [mn]
  split
  · rename_i q
    exact ⟨a + b, by
      have := (nI_ltI (b := 99) (by omega) (by omega)).mp q
      omega, rfl⟩
  · exact ⟨99, by omega, rfl⟩
theorem mx0 {a b : Nat} {m : Nat} (ha : a ≤ m) (hm : m ≤ 200) (hb : b ≤ 200) : rng (mx 0 (nI a - nI b)) m := by
  simp only [mx]
  rcases Nat.le_total b a with y | y
  · rw [pk_sub y]
    split
    · exact ⟨a - b, by omega, rfl⟩
    · exact ⟨0, by omega, rfl⟩
  · have : ¬ 0 < nI a - nI b := by
      rw [Int32.lt_iff_toInt_lt, pk_sub_toInt (by omega) (by omega)]
      have : (0 : Int32).toInt = 0 := by decide
      omega
    rw [if_neg this]
    exact ⟨0, by omega, rfl⟩
theorem newG_ok {s : TShip} {g p : Fn} {n q : Nat} {w : Int32} (h : GP g p n q) : GP (newG s g p w n) p n q := by
  refine ⟨fun k hk => ?_, h.place⟩
  simp only [newG, if_pos hk]
  rcases h.green k hk with ⟨a, ha, e⟩
  rw [e]
  have : ∃ b, b ≤ 9 ∧ riseV s g p w n k = nI b := by
    simp only [riseV]
    split
    · exact ⟨0, by omega, rfl⟩
    · exact ⟨_, RV_le _ _ _ _ _, rfl⟩
  rcases this with ⟨b, hb, e2⟩
  rw [e2]
  exact mn99 (by omega) (by omega)
theorem harb_ok {s : TShip} {g p : Fn} {n q : Nat} (hh : rng s.harbour 9) (h : GP g p n q) : GP (harbG s g n) (harbP p n) n q := by
  refine ⟨fun k hk => ?_, fun k hk => Or.inl (by simp only [harbP, if_pos hk])⟩
  simp only [harbG]
  rcases h.green k hk with ⟨a, ha, e⟩
  rcases hh with ⟨b, hb, e2⟩
  split
  · rw [e, e2]
    exact mx0 ha (by omega) (by omega)
  · exact ⟨a, ha, e⟩
theorem fall_ok {s : TShip} {g p : Fn} {n q k : Nat} (hn : n ≤ 6) (hk : k < n) (hs : rng s.shade 9) (h : GP g p n q) : GP (fallG g s.shade n k) p n q := by
  refine ⟨fun j hj => ?_, h.place⟩
  simp only [fallG, upd]
  split
  · rcases bst_in g n hn with ⟨rfl, e⟩ | ⟨b, hb, e⟩
    · omega
    · rw [e, nI_clamp (by omega)]
      rcases h.green b hb with ⟨a, ha, e⟩
      rcases hs with ⟨c, hc, e2⟩
      rw [e, e2]
      exact mn99 (by omega) (by omega)
  · exact h.green j hj
section XTR
variable {L : Nat} {xs : Nat → Int32} {d : Nat} {Q : XQt} {pn pc : Int32} {tok : TTok} {ship : TShip} {nn : Int64} {tl : Int32} {draft : TShip} {vd : TVoy} {log : TLog} {trial : TCrew} {sta : TSta} {says : Fn} {seed : Int64} {past : Nat → TCrew} {marks : Nat → TLog} {mi : TMi} {ma : TMa} {mb : TMb} {K : XWd}
variable {stk kn : Fn} {n p z t : Nat} {g pl : Fn} {su : Int32}
theorem t_leader (so : ShOk ship n p z) (tr : Tr trial n g pl su t) (h : Q (some (.int (capt g n))) (clsW pn pc tok (ship.wlaw (ship.law.wm stk kn)) nn tl draft vd log trial sta says seed past marks K)) : XC (xF L xs) xmeths (d + 2) 112 [.ref 44] (clsW pn pc tok (ship.wlaw (ship.law.wm stk kn)) nn tl draft vd log trial sta says seed past marks K) Q := by
  rw [← capt_congr so.n6 tr.green] at h
  exact c_leader_44 so.n6 so.men h
theorem t_greenest (so : ShOk ship n p z) (tr : Tr trial n g pl su t) (h : Q (some (.int (bst g n))) (clsW pn pc tok (ship.wlaw (ship.law.wm stk kn)) nn tl draft vd log trial sta says seed past marks K)) : XC (xF L xs) xmeths (d + 1) 95 [.ref 44] (clsW pn pc tok (ship.wlaw (ship.law.wm stk kn)) nn tl draft vd log trial sta says seed past marks K) Q := by
  rw [← bst_congr n so.n6 tr.green] at h
  exact c_greenest_44 so.n6 so.men h
theorem t_seaNow (so : ShOk ship n p z) (tr : Tr trial n g pl su t) (ht : t < 2 ^ 31) (h : Q (some (.int (ship.sea (t % z)))) (clsW pn pc tok (ship.wlaw (ship.law.wm stk kn)) nn tl draft vd log trial sta says seed past marks K)) : XC (xF L xs) xmeths (d + 2) 97 [.ref 44] (clsW pn pc tok (ship.wlaw (ship.law.wm stk kn)) nn tl draft vd log trial sta says seed past marks K) Q := c_seaNow_44 so.seas so.z1 so.z12 ht tr.over h
theorem t_passWatch {x : Int32} (so : ShOk ship n p z) (hkn : KOk kn (RV ship.law)) (tr : Tr trial n g pl su t) (gp : GP g pl n p) (hx : rng x 3) (h : ∀ stk kn trial, KOk kn (RV ship.law) → Tr trial n (newG ship g pl x n) pl su (t + 1) → Q none (clsW pn pc tok (ship.wlaw (ship.law.wm stk kn)) nn tl draft vd log trial sta says seed past marks K)) : XC (xF L xs) xmeths (d + 4) 99 [.ref 44, .int x] (clsW pn pc tok (ship.wlaw (ship.law.wm stk kn)) nn tl draft vd log trial sta says seed past marks K) Q := by
  rcases hx with ⟨w, hw, rfl⟩
  refine c_passWatch_44 (so.memo hkn) (gp.congr tr.green tr.place) hw (fun ri stk kn hk => ?_)
  refine h stk kn (ri, newG ship trial.green trial.place (nI w) n, trial.place, trial.sucked, trial.over + 1) hk ⟨newG_congr tr.green tr.place, tr.place, tr.sucked, ?_⟩
  show trial.over + 1 = _
  rw [tr.over, nI_succ]
theorem t_enterHarbour (so : ShOk ship n p z) (tr : Tr trial n g pl su t) (h : ∀ trial, Tr trial n (harbG ship g n) (harbP pl n) su t → Q none (clsW pn pc tok (ship.wlaw (ship.law.wm stk kn)) nn tl draft vd log trial sta says seed past marks K)) : XC (xF L xs) xmeths (d + 1) 107 [.ref 44] (clsW pn pc tok (ship.wlaw (ship.law.wm stk kn)) nn tl draft vd log trial sta says seed past marks K) Q :=
  c_enterHarbour_44 so.n6 so.men (h (trial.rise, harbG ship trial.green n, harbP trial.place n, trial.sucked, trial.over) ⟨harbG_congr tr.green, harbP_congr, tr.sucked, tr.over⟩)
theorem t_copy (so : ShOk ship n p z) (lo : log.crew.over = nI t) (h : ∀ trial, Tr trial n log.crew.green log.crew.place log.crew.sucked t → Q none (clsW pn pc tok (ship.wlaw (ship.law.wm stk kn)) nn tl draft vd log trial sta says seed past marks K)) : XC (xF L xs) xmeths (d + 1) 85 [.ref 44, .ref 40] (clsW pn pc tok (ship.wlaw (ship.law.wm stk kn)) nn tl draft vd log trial sta says seed past marks K) Q := by
  have n6 := so.n6
  exact c_copyTrial (h (trial.cp log.crew) ⟨fun k hk => cp6_lt (by omega), fun k hk => cp6_lt (by omega), rfl, lo⟩)
end XTR
