/-! where all should stand -/
abbrev TB : Type := Nat × Nat × Fn
def rkS (s : TShip) (g : Fn) (n z t w he : Nat) (row : Fn) : Nat := cnt (fun o => decide (runG s row n z t g w he < runG s row n z t g w o)) n
def leafS (rk : Fn → Nat) (row : Fn) (spr : Nat) (x : TB) : TB := if rk row < x.1 ∨ (rk row = x.1 ∧ spr < x.2.1) then (rk row, spr, row) else x
def iterP (f : Nat → TB → TB) : Nat → TB → TB
  | 0, x => x
  | b + 1, x => f b (iterP f b x)
def dealS (rk : Fn → Nat) (sp : Nat → Nat) (n q : Nat) : Nat → Fn → (Nat → Nat) → Nat → TB → TB
  | 0, row, _, spr, x => leafS rk row spr x
  | r + 1, row, free, spr, x => dealS rk sp n q r (upd row (n - (r + 1)) (-1)) free spr (iterP (fun b x => if 0 < free b then dealS rk sp n q r (upd row (n - (r + 1)) (nI b)) (fun c => if c = b then free b - 1 else free c) (spr + sp b) x else x) q x)
theorem deal_prune {rk : Fn → Nat} {sp : Nat → Nat} {n q : Nat} : ∀ r row free spr (x : TB), x.1 = 0 → x.2.1 ≤ spr → dealS rk sp n q r row free spr x = x
  | 0, row, free, spr, x, h1, h2 => by
    simp only [dealS, leafS]
    rw [if_neg (by omega)]
  | r + 1, row, free, spr, x, h1, h2 => by
    have hi : ∀ b, iterP (fun b x => if 0 < free b then dealS rk sp n q r (upd row (n - (r + 1)) (nI b)) (fun c => if c = b then free b - 1 else free c) (spr + sp b) x else x) b x = x := by
      intro b
      induction b with
      | zero => rfl
      | succ b ih =>
        simp only [iterP]
        rw [ih]
        split
        · exact deal_prune r _ _ _ x h1 (by omega)
        · rfl
    simp only [dealS]
    rw [hi q]
    exact deal_prune r _ _ _ x h1 h2
theorem leaf_le {rk : Fn → Nat} (h : ∀ row, rk row ≤ 6) (row : Fn) (spr : Nat) {x : TB} (hx : x.1 ≤ 6) : (leafS rk row spr x).1 ≤ 6 := by
  simp only [leafS]
  split
  · exact h row
  · exact hx
abbrev BR (s : TSta) (n : Nat) (x : TB) : Prop := (s.bestRank = nI x.1) ∧ (x.1 ≤ 6) ∧ (s.bestSpray = nI x.2.1) ∧ (x.2.1 ≤ 100) ∧ (x.1 < 6 → ∀ k, k < n → s.bestRow k = x.2.2 k)
theorem BR.rank {s : TSta} {n : Nat} {x : TB} (h : BR s n x) : s.bestRank = nI x.1 := h.1
theorem BR.r6 {s : TSta} {n : Nat} {x : TB} (h : BR s n x) : x.1 ≤ 6 := h.2.1
theorem BR.spray {s : TSta} {n : Nat} {x : TB} (h : BR s n x) : s.bestSpray = nI x.2.1 := h.2.2.1
theorem BR.s100 {s : TSta} {n : Nat} {x : TB} (h : BR s n x) : x.2.1 ≤ 100 := h.2.2.2.1
theorem BR.row {s : TSta} {n : Nat} {x : TB} (h : BR s n x) : x.1 < 6 → ∀ k, k < n → s.bestRow k = x.2.2 k := h.2.2.2.2
theorem rkS_congr {s : TShip} {g : Fn} {n z t w he : Nat} {row row' : Fn} (hhe : he < n) (h : eqN n row row') : rkS s g n z t w he row = rkS s g n z t w he row' := by
  simp only [rkS]
  refine cnt_congr n (fun o ho => ?_)
  rw [runG_congr (s := s) (z := z) (t := t) (fun k _ => rfl) h w he hhe, runG_congr (s := s) (z := z) (t := t) (fun k _ => rfl) h w o ho]
section XDL
variable {L : Nat} {xs : Nat → Int32} {d : Nat} {Q : XQt} {pn pc : Int32} {tok : TTok} {ship : TShip} {nn : Int64} {tl : Int32} {draft : TShip} {vd : TVoy} {log : TLog} {trial : TCrew} {sta : TSta} {says : Fn} {seed : Int64} {past : Nat → TCrew} {marks : Nat → TLog} {mi : TMi} {ma : TMa} {mb : TMb} {K : XWd}
variable {stk kn : Fn} {n p z t w he : Nat}
theorem c_weigh {spr : Nat} {row : Fn} {x : TB} (hspr : spr ≤ 100) (so : ShOk ship n p z) (hkn : KOk kn (RV ship.law)) (gp : GP log.crew.green row n p) (lo : log.crew.over = nI t) (ht : t < 2 ^ 30) (hhe : he < n) (hw : w ≤ 100) (s1 : sta.target = nI he) (s2 : sta.watches = nI w) (hrow : eqN n sta.row row) (br : BR sta n x) (h : ∀ stk kn trial sta', KOk kn (RV ship.law) → sta'.target = sta.target → sta'.watches = sta.watches → sta'.free = sta.free → sta'.row = sta.row → BR sta' n (leafS (rkS ship log.crew.green n z t w he) row spr x) → Q none (clsW pn pc tok (ship.wlaw (ship.law.wm stk kn)) nn tl draft vd log trial sta' says seed past marks K)) : XC (xF L xs) xmeths (d + 5) 129 [.ref 49, .int (nI spr)] (clsW pn pc tok (ship.wlaw (ship.law.wm stk kn)) nn tl draft vd log trial sta says seed past marks K) Q := by
  have n6 := so.n6
  have r6 := br.r6
  have s100 := br.s100
  refine ⟨nb rfl, xgo [16] 60 ⟨rfl, nb rfl, t_copy so lo (fun trial tr => ⟨nb rfl, ⟨by decide, by decide, by decide, nb rfl, nb rfl⟩, nb rfl, ?_⟩)⟩⟩
  refine up_to (P := fun j => ∀ stk kn trial, KOk kn (RV ship.law) → Tr trial n (runG ship row n z t log.crew.green j) row log.crew.sucked (t + j) → XWp (xF L xs) none xP129 (XC (xF L xs) xmeths (d + 4)) Q 16 [orf 49, oi (nI spr), oi (nI j)] [] (clsW pn pc tok (ship.wlaw (ship.law.wm stk kn)) nn tl draft vd log trial sta says seed past marks K)) (n := w) (fun j hj ih stk kn trial hkn tr => xgo [16, 46] 60 ?_) stk kn (trial.rise, trial.green, cp6 sta.row trial.place, trial.sucked, trial.over) hkn ⟨tr.green, fun k hk => (cp6_lt (by omega)).trans (hrow k hk), tr.sucked, tr.over⟩
  refine pk_le w j (fun q => ?_) (fun q => ?_) s2 rfl (by omega) (by omega)
  · have e : j = w := by omega
    subst e
    have ek : cnt (fun o => decide (trial.green he < trial.green o)) n = rkS ship log.crew.green n z t j he row := by
      simp only [rkS]
      exact cnt_congr n (fun o ho => by rw [tr.green he hhe, tr.green o ho])
    have hr5 : rkS ship log.crew.green n z t j he row < n := cnt_lt (k := he) (by simp) n hhe
    generalize hk : rkS ship log.crew.green n z t j he row = rk at *
    have call : ∀ y : Int32, y = nI he → XC (xF L xs) xmeths (d + 4) 77 [.ref 44, .int y] (clsW pn pc tok (ship.wlaw (ship.law.wm stk kn)) nn tl draft vd log trial sta says seed past marks K) (fun v w' => xvc (xF L xs) none xP129 (XC (xF L xs) xmeths (d + 4)) Q [16, 46] 51 33 [orf 49, oi (nI spr), oi (nI j)] (v.toList ++ []) w') := by
      intro y hy
      subst hy
      refine c_rankOf_44 n6 so.men (by omega) ⟨nb rfl, ?_⟩
      rw [ek]
      have better : rk < x.1 ∨ (rk = x.1 ∧ spr < x.2.1) → XWp (xF L xs) none xP129 (XC (xF L xs) xmeths (d + 4)) Q 46 [orf 49, oi (nI spr), oi (nI rk)] [] (clsW pn pc tok (ship.wlaw (ship.law.wm stk kn)) nn tl draft vd log trial sta says seed past marks K) := by
        intro hb
        refine xgo [] 60 ⟨nb rfl, ⟨by decide, by decide, by decide, nb rfl, nb rfl⟩, rfl, ?_⟩
        refine h stk kn trial (sta.row, sta.free, sta.target, sta.watches, cp6 sta.row sta.bestRow, nI rk, nI spr) hkn rfl rfl rfl rfl ?_
        simp only [leafS, hk]
        rw [if_pos hb]
        exact ⟨rfl, show rk ≤ 6 by omega, rfl, hspr, fun _ k hk => (cp6_lt (by omega)).trans (hrow k hk)⟩
      have worse : ¬ (rk < x.1 ∨ (rk = x.1 ∧ spr < x.2.1)) → Q none (clsW pn pc tok (ship.wlaw (ship.law.wm stk kn)) nn tl draft vd log trial sta says seed past marks K) := by
        intro hb
        refine h stk kn trial sta hkn rfl rfl rfl rfl ?_
        simp only [leafS, hk]
        rw [if_neg hb]
        exact br
      refine pk_lt rk x.1 (fun q1 => better (Or.inl q1)) (fun q1 => ?_) rfl br.rank (by omega) (by omega)
      refine And.intro (fun (q2 : ¬ nI rk = sta.bestRank) => ⟨rfl, worse ?_⟩) (fun (q2 : ¬ ¬ nI rk = sta.bestRank) => ?_)
      · rw [br.rank, nI_eq (by omega) (by omega)] at q2
        omega
      · have q2 := Classical.not_not.mp q2
        rw [br.rank, nI_eq (by omega) (by omega)] at q2
        refine pk_le x.2.1 spr (fun q3 => ⟨rfl, worse ?_⟩) (fun q3 => better (Or.inr ⟨q2, q3⟩)) br.spray rfl (by omega) (by omega)
        omega
    exact ⟨rfl, nb rfl, call _ s1⟩
  · have ih := ih q
    refine ⟨rfl, nb rfl, t_seaNow so tr (by omega) ⟨rfl, nb rfl, t_passWatch so hkn tr (runG_ok gp j) (so.sea _ (Nat.mod_lt _ so.z1)) (fun stk kn trial hkn tr => ?_)⟩⟩
    have ih := ih stk kn trial hkn tr
    rw [nI_succ] at ih
    exact ih
end XDL
