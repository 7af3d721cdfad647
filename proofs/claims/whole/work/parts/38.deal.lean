section XDE
variable {L : Nat} {xs : Nat → Int32} {d : Nat} {Q : XQt} {pn pc : Int32} {tok : TTok} {ship : TShip} {nn : Int64} {tl : Int32} {draft : TShip} {vd : TVoy} {log : TLog} {trial : TCrew} {sta : TSta} {says : Fn} {seed : Int64} {past : Nat → TCrew} {marks : Nat → TLog} {mi : TMi} {ma : TMa} {mb : TMb} {K : XWd}
variable {n p z t w he : Nat}
theorem c_deal {sp : Nat → Nat} (so : ShOk ship n p z) (gg : ∀ k, k < n → rng (log.crew.green k) 99) (lo : log.crew.over = nI t) (ht : t < 2 ^ 30) (hhe : he < n) (hw : w ≤ 100) (hsp : ∀ b, b < p → ship.spray b = nI (sp b) ∧ sp b ≤ 9) : ∀ r, r ≤ n → ∀ (Q : XQt) (stk kn : Fn) (trial : TCrew) (sta : TSta) (row : Fn) (free : Nat → Nat) (spr : Nat) (x : TB) (y1 y2 : Int32), y1 = nI (n - r) → y2 = nI spr → spr + 9 * r ≤ 54 → KOk kn (RV ship.law) → sta.target = nI he → sta.watches = nI w → (∀ b, b < p → sta.free b = nI (free b) ∧ free b ≤ 6) → (∀ k, k < n - r → sta.row k = row k ∧ (row k = -1 ∨ ∃ b, b < p ∧ row k = nI b)) → BR sta n x → (∀ stk kn trial sta', KOk kn (RV ship.law) → sta'.target = nI he → sta'.watches = nI w → (∀ b, b < p → sta'.free b = nI (free b) ∧ free b ≤ 6) → (∀ k, k < n - r → sta'.row k = row k ∧ (row k = -1 ∨ ∃ b, b < p ∧ row k = nI b)) → BR sta' n (dealS (rkS ship log.crew.green n z t w he) sp n p r row free spr x) → Q none (clsW pn pc tok (ship.wlaw (ship.law.wm stk kn)) nn tl draft vd log trial sta' says seed past marks K)) → XC (xF L xs) xmeths (d + 6 + r) 128 [.ref 49, .int y1, .int y2] (clsW pn pc tok (ship.wlaw (ship.law.wm stk kn)) nn tl draft vd log trial sta says seed past marks K) Q := by
  have n6 := so.n6
  have p4 := so.p4
  intro r
  induction r with
  | zero =>
    intro hr Q stk kn trial sta row free spr x y1 y2 e1 e2 hspr hkn s1 s2 hfree hrow br h
    subst e1 e2
    have r6 := br.r6
    have s100 := br.s100
    have prune : x.1 = 0 → x.2.1 ≤ spr → Q none (clsW pn pc tok (ship.wlaw (ship.law.wm stk kn)) nn tl draft vd log trial sta says seed past marks K) := fun a b => by
      have h := h stk kn trial sta hkn s1 s2 hfree hrow
      rw [deal_prune _ _ _ _ _ a b] at h
      exact h br
    have go : XWp (xF L xs) none xP128 (XC (xF L xs) xmeths (d + 5)) Q 8 [orf 49, oi (nI (n - 0)), oi (nI spr), none] [] (clsW pn pc tok (ship.wlaw (ship.law.wm stk kn)) nn tl draft vd log trial sta says seed past marks K) := by
      refine xgo [] 60 ?_
      refine pk_le n (n - 0) (fun q => ?_) (fun q => by omega) so.men rfl (by omega) (by omega)
      refine ⟨rfl, nb rfl, c_weigh (by omega) so hkn ⟨gg, fun k hk => (hrow k hk).2⟩ lo ht hhe hw s1 s2 (fun k hk => (hrow k hk).1) br (fun stk kn trial sta' hkn f1 f2 f3 f4 br => ⟨rfl, h stk kn trial sta' hkn (f1.trans s1) (f2.trans s2) (fun b hb => by rw [f3]; exact hfree b hb) (fun k hk => by rw [f4]; exact hrow k hk) br⟩)⟩
    refine ⟨nb rfl, xgo [8] 60 ?_⟩
    refine And.intro (fun (q : ¬ sta.bestRank = 0) => go) (fun (q : ¬ ¬ sta.bestRank = 0) => ?_)
    have q := Classical.not_not.mp q
    rw [br.rank] at q
    have q := (nI_eq (b := 0) (by omega) (by omega)).mp q
    exact pk_lt spr x.2.1 (fun _ => go) (fun q2 => ⟨rfl, prune q q2⟩) rfl br.spray (by omega) (by omega)
  | succ r ihr =>
    intro hr Q stk kn trial sta row free spr x y1 y2 e1 e2 hspr hkn s1 s2 hfree hrow br h
    subst e1 e2
    have ihr := ihr (by omega)
    have r6 := br.r6
    have s100 := br.s100
    have em : n - r = n - (r + 1) + 1 := by omega
    have hmn : n - (r + 1) < n := by omega
    have prune : x.1 = 0 → x.2.1 ≤ spr → Q none (clsW pn pc tok (ship.wlaw (ship.law.wm stk kn)) nn tl draft vd log trial sta says seed past marks K) := fun a b => by
      have h := h stk kn trial sta hkn s1 s2 hfree hrow
      rw [deal_prune _ _ _ _ _ a b] at h
      exact h br
    simp only [dealS] at h
    generalize hm : n - (r + 1) = m at *
    have emn : (nI m).toNatClampNeg = m := nI_clamp (by omega)
    have go : XWp (xF L xs) none xP128 (XC (xF L xs) xmeths (d + 6 + r)) Q 8 [orf 49, oi (nI m), oi (nI spr), none] [] (clsW pn pc tok (ship.wlaw (ship.law.wm stk kn)) nn tl draft vd log trial sta says seed past marks K) := by
      refine xgo [22] 60 ?_
      refine pk_le n m (fun q => by omega) (fun q => ?_) so.men rfl (by omega) (by omega)
      refine pk_lt m 6 (fun _ => ?_) (fun q => by omega) rfl rfl (by omega) (by omega)
      refine ⟨nb rfl, ?_⟩
      refine up_to (P := fun b => ∀ stk kn trial sta, KOk kn (RV ship.law) → sta.target = nI he → sta.watches = nI w → (∀ b, b < p → sta.free b = nI (free b) ∧ free b ≤ 6) → (∀ k, k < m → sta.row k = row k ∧ (row k = -1 ∨ ∃ b, b < p ∧ row k = nI b)) → BR sta n (iterP (fun b x => if 0 < free b then dealS (rkS ship log.crew.green n z t w he) sp n p r (upd row m (nI b)) (fun c => if c = b then free b - 1 else free c) (spr + sp b) x else x) b x) → XWp (xF L xs) none xP128 (XC (xF L xs) xmeths (d + 6 + r)) Q 22 [orf 49, oi (nI m), oi (nI spr), oi (nI b)] [] (clsW pn pc tok (ship.wlaw (ship.law.wm stk kn)) nn tl draft vd log trial sta says seed past marks K)) (n := p) (fun b hb ih stk kn trial sta hkn s1 s2 hfree hrow br => xgo [22] 60 ?_) stk kn trial sta hkn s1 s2 hfree hrow br
      refine pk_le p b (fun q => ?_) (fun qb => ?_) so.posts rfl (by omega) (by omega)
      · have e : b = p := by omega
        subst e
        refine ⟨vp_in_nI (by omega) (by omega), ?_⟩
        rw [emn]
        refine ⟨rfl, nb rfl, ihr _ stk kn trial (upd sta.row m (-1), sta.free, sta.target, sta.watches, sta.bestRow, sta.bestRank, sta.bestSpray) (upd row m (-1)) free spr _ _ _ (by rw [em, nI_succ]; rfl) rfl (by omega) hkn s1 s2 hfree (fun k hk => ?_) br (fun stk kn trial sta' hkn f1 f2 f3 f4 br => ⟨rfl, h stk kn trial sta' hkn f1 f2 f3 (fun k hk => ?_) br⟩)⟩
        · show upd sta.row m (-1) k = upd row m (-1) k ∧ (upd row m (-1) k = -1 ∨ ∃ b', b' < b ∧ upd row m (-1) k = nI b')
          by_cases y : k = m
          · subst y
            rw [pk_us, pk_us]
            exact ⟨rfl, Or.inl rfl⟩
          · rw [pk_un y, pk_un y]
            exact hrow k (by omega)
        · have := f4 k (by omega)
          rw [pk_un (by omega)] at this
          exact this
      · have ih := ih qb
        have ⟨fb1, fb2⟩ := hfree b qb
        have ⟨sb1, sb2⟩ := hsp b qb
        have eb : (nI b).toNatClampNeg = b := nI_clamp (by omega)
        refine ⟨vp_in_nI (by omega) (by omega), ?_⟩
        rw [eb]
        have fb1' : sta.free b = nI (free b) := fb1
        refine pk_le (free b) 0 (fun q1 => ?_) (fun q1 => ?_) fb1' nI_0.symm (by omega) (by omega)
        · have ih := ih stk kn trial sta hkn s1 s2 hfree hrow (by
            simp only [iterP]
            rw [if_neg (by omega)]
            exact br)
          rw [nI_succ] at ih
          exact ih
        · refine ⟨vp_in_nI (by omega) (by omega), vp_in_nI (by omega) (by omega), vp_in_nI (by omega) (by omega), vp_in_nI (by omega) (by omega), ?_⟩
          rw [eb, emn]
          refine ⟨rfl, nb rfl, ihr _ stk kn trial (upd sta.row m (nI b), upd sta.free b (sta.free b - 1), sta.target, sta.watches, sta.bestRow, sta.bestRank, sta.bestSpray) (upd row m (nI b)) (fun c => if c = b then free b - 1 else free c) (spr + sp b) _ _ _ (by rw [em, nI_succ]; rfl) (by rw [sb1, nI_add]) (by omega) hkn s1 s2 (fun c hc => ?_) (fun k hk => ?_) br (fun stk kn trial sta' hkn f1 f2 f3 f4 br => ?_)⟩
          · show upd sta.free b (sta.free b - 1) c = _ ∧ _
            by_cases y : c = b
            · subst y
              rw [pk_us, fb1']
              simp only [if_pos]
              exact ⟨pk_sub (b := 1) q1, by omega⟩
            · rw [pk_un y]
              simp only [if_neg y]
              exact hfree c hc
          · show upd sta.row m (nI b) k = upd row m (nI b) k ∧ (upd row m (nI b) k = -1 ∨ ∃ b', b' < p ∧ upd row m (nI b) k = nI b')
            by_cases y : k = m
            · subst y
              rw [pk_us, pk_us]
              exact ⟨rfl, Or.inr ⟨b, qb, rfl⟩⟩
            · rw [pk_un y, pk_un y]
              exact hrow k (by omega)
          · refine ⟨vp_in_nI (by omega) (by omega), vp_in_nI (by omega) (by omega), ?_⟩
            rw [eb]
            have ih := ih stk kn trial (sta'.row, upd sta'.free b (sta'.free b + 1), sta'.target, sta'.watches, sta'.bestRow, sta'.bestRank, sta'.bestSpray) hkn f1 f2 (fun c hc => by
              have := f3 c hc
              show upd sta'.free b (sta'.free b + 1) c = _ ∧ _
              by_cases y : c = b
              · subst y
                simp only [if_pos] at this
                rw [pk_us, this.1, ← nI_succ, Nat.sub_add_cancel q1]
                exact ⟨rfl, fb2⟩
              · simp only [if_neg y] at this
                rw [pk_un y]
                exact this) (fun k hk => by
              have := f4 k (by omega)
              rw [pk_un (by omega)] at this
              exact this) (by
              simp only [iterP]
              rw [if_pos q1]
              exact br)
            rw [nI_succ] at ih
            exact ih
    refine ⟨nb rfl, xgo [8] 60 ?_⟩
    refine And.intro (fun (q : ¬ sta.bestRank = 0) => go) (fun (q : ¬ ¬ sta.bestRank = 0) => ?_)
    have q := Classical.not_not.mp q
    rw [br.rank] at q
    have q := (nI_eq (b := 0) (by omega) (by omega)).mp q
    exact pk_lt spr x.2.1 (fun _ => go) (fun q2 => ⟨rfl, prune q q2⟩) rfl br.spray (by omega) (by omega)
theorem c_find {stk kn : Fn} {sp hd : Nat → Nat} (so : ShOk ship n p z) (hkn : KOk kn (RV ship.law)) (gg : ∀ k, k < n → rng (log.crew.green k) 99) (lo : log.crew.over = nI t) (ht : t < 2 ^ 30) (hhe : he < n) (hw : w ≤ 100) (hsp : ∀ b, b < p → ship.spray b = nI (sp b) ∧ sp b ≤ 9) (hhd : ∀ b, b < p → ship.holds b = nI (hd b) ∧ hd b ≤ 6) (h : ∀ row stk kn trial sta', KOk kn (RV ship.law) → BR sta' n (dealS (rkS ship log.crew.green n z t w he) sp n p n row hd 0 (6, 0, row)) → Q none (clsW pn pc tok (ship.wlaw (ship.law.wm stk kn)) nn tl draft vd log trial sta' says seed past marks K)) : XC (xF L xs) xmeths (d + 13) 127 [.ref 49, .int (nI he), .int (nI w)] (clsW pn pc tok (ship.wlaw (ship.law.wm stk kn)) nn tl draft vd log trial sta says seed past marks K) Q := by
  have n6 := so.n6
  have p4 := so.p4
  have key : XC (xF L xs) xmeths (d + 6 - n + 6 + n) 128 [.ref 49, .int 0, .int 0] (clsW pn pc tok (ship.wlaw (ship.law.wm stk kn)) nn tl draft vd log trial (sta.row, va_cpy ship.holds sta.free 0 0 4, nI he, nI w, sta.bestRow, 6, 0) says seed past marks K) (fun v w' => xvc (xF L xs) none xP127 (XC (xF L xs) xmeths (d + 12)) Q [] 35 25 [orf 49, oi (nI he), oi (nI w)] (v.toList ++ []) w') := c_deal (d := d + 6 - n) so gg lo ht hhe hw hsp n (Nat.le_refl n) (fun v w' => xvc (xF L xs) none xP127 (XC (xF L xs) xmeths (d + 12)) Q [] 35 25 [orf 49, oi (nI he), oi (nI w)] (v.toList ++ []) w') stk kn trial (sta.row, va_cpy ship.holds sta.free 0 0 4, nI he, nI w, sta.bestRow, 6, 0) sta.row hd 0 (6, 0, sta.row) 0 0 (by rw [Nat.sub_self]; rfl) rfl (by omega) hkn rfl rfl (fun b hb => by
    show va_cpy ship.holds sta.free 0 0 4 b = _ ∧ _
    rw [pk_cpy_in (Nat.zero_le b) (by omega)]
    simpa using hhd b hb) (fun k hk => by omega) ⟨rfl, Nat.le_refl 6, rfl, Nat.zero_le _, fun y => absurd y (Nat.lt_irrefl 6)⟩ (fun stk kn trial sta' hkn f1 f2 f3 f4 br => And.intro rfl (h sta.row stk kn trial sta' hkn br))
  have ed : d + 6 - n + 6 + n = d + 12 := by omega
  rw [ed] at key
  exact ⟨nb rfl, xgo [] 60 ⟨nb rfl, ⟨by decide, by decide, by decide, nb rfl, nb rfl⟩, rfl, nb rfl, key⟩⟩
end XDE
