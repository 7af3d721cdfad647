/-! the reckoning of a method, calls and all -/
def afill (as : List Value) (w : AWd) : Option AWd := match as with
  | [.ref a, .int x] => match xnth w a with
    | some (.inl (0, n, none, [], rs)) => if n ≤ 10000 then some (xset w a (.inl (0, n, some x, [], rs))) else none
    | _ => none
  | _ => none
def aTgt (cnt : Nat) (st : List Value) (w : AWd) : Bool := match (st.take (cnt % 64)).reverse with
  | .ref a :: _ => (match xnth w a with
    | some (.inr (cj, _)) => decide (cnt / 64 = cj + 1)
    | _ => false)
  | _ => false
def aRet (st : List Value) (rt : Option FieldType) (w : AWd) : Option AWd := match st, rt with
  | [], none => some w
  | _, _ => none
def arun : Nat → Nat → Option FieldType → List Instr → Nat → XL → List Value → AWd → Option AWd
  | 0, _, _, _, _, _, _, _ => none
  | f + 1, d, rt, P, i, loc, st, w => match xnth P i with
    | none => none
    | some ins => match ins with
      | .return_ => aRet st rt w
      | .invokeinterface y cnt => if (st.drop (cnt % 64)).length + cnt % 64 = st.length ∧ ((st.drop (cnt % 64)).map fun v => v.category).sum ≤ 8 ∧ (cnt / 64 = 0 ∨ aTgt cnt st w = true) then (match d with
        | 0 => none
        | d' + 1 => if y = 4 then (match afill (st.take (cnt % 64)).reverse w with
            | some w1 => arun f (d' + 1) rt P (i + 1) loc (st.drop (cnt % 64)) w1
            | none => none)
          else (match xnth xmeths y with
            | some (n, rt', P') => if (xargs (st.take (cnt % 64)).reverse).length ≤ n then (match arun f d' rt' P' 0 (xent n (st.take (cnt % 64)).reverse) [] w with
              | some w1 => arun f (d' + 1) rt P (i + 1) loc (st.drop (cnt % 64)) w1
              | none => none) else none
            | none => none)) else none
      | ins => match aex ins i loc st w with
        | some s' => arun f d rt P s'.1 s'.2.1 s'.2.2.1 s'.2.2.2
        | none => none
theorem xi_len0 {F' : XF} {rt : Option FieldType} {K' : XKt} {C : XCt} {Q : XQt} {i z n : Nat} {loc : XL} {r : List Value} {w : XWd} {f : Fn} (h0 : xnth w z = some (xint .int n f)) : xi F' rt K' C Q (some .arraylength) i loc (.ref z :: r) w = K' (i + 1) loc (.int (Int32.ofNat n) :: r) w := by
  unfold xi
  simp only [x1r, h0, xint]
theorem xi_ias {F' : XF} {rt : Option FieldType} {K' : XKt} {C : XCt} {Q : XQt} {i z n : Nat} {loc : XL} {r : List Value} {w : XWd} {f : Fn} {x j : Int32} (h0 : xnth w z = some (xint .int n f)) : xi F' rt K' C Q (some .iastore) i loc (.int x :: .int j :: .ref z :: r) w = (vp_in j n ∧ K' (i + 1) loc r (xset w z (xint .int n (upd f j.toNatClampNeg x)))) := by
  unfold xi
  simp only [x1, xir, h0, xint]
theorem xnth_st1 {α : Type} : ∀ (w : List α) (a : Nat) (e e0 : α), xnth w a = some e0 → xnth (xset w a e) a = some e
  | [], a, e, e0, h => by cases a <;> cases h
  | x :: w, 0, e, e0, h => rfl
  | x :: w, a + 1, e, e0, h => xnth_st1 w a e e0 h
theorem xset_set {α : Type} : ∀ (w : List α) (a : Nat) (e e' : α), xset (xset w a e) a e' = xset w a e'
  | [], a, e, e' => by cases a <;> rfl
  | x :: w, 0, e, e' => rfl
  | x :: w, a + 1, e, e' => congrArg (List.cons x) (xset_set w a e e')
theorem xset_same {α : Type} : ∀ (w : List α) (a : Nat) (e : α), xnth w a = some e → xset w a e = w
  | [], a, e, h => by cases a <;> cases h
  | x :: w, 0, e, h => by cases h; rfl
  | x :: w, a + 1, e, h => congrArg (List.cons x) (xset_same w a e h)
section XAR
variable {L : Nat} {xs : Nat → Int32} {d : Nat} {Q : XQt}
theorem c_fillG {w : XWd} {a n : Nat} {x : Int32} {f : Fn} (hw : xnth w a = some (xint .int n f)) (hn : n ≤ 10000) (h : Q none (xset w a (xint .int n (fil f x n)))) : XC (xF L xs) xmeths (d + 1) 4 [.ref a, .int x] w Q := by
  have fo : ∀ {i loc st w}, xi (xF L xs) none (XWp (xF L xs) none xP4 (XC (xF L xs) xmeths d) Q) (XC (xF L xs) xmeths d) Q (xnth xP4 i) i loc st w → XWp (xF L xs) none xP4 (XC (xF L xs) xmeths d) Q i loc st w := fun h => XWp.fold (XC_mono d) h
  have start := up_to (P := fun j => XWp (xF L xs) none xP4 (XC (xF L xs) xmeths d) Q 5 [orf a, oi x, oi (nI j), oi (nI n)] [] (xset w a (xint .int n (fil f x j)))) (n := n) (fun j hj ih => xgo [8, 14] 40 ?_)
  · rw [fil_zero, xset_same w a _ hw] at start
    refine ⟨nb rfl, xgo [3] 20 ⟨nb rfl, ?_⟩⟩
    refine fo ?_
    show xi (xF L xs) none _ _ Q (some .arraylength) 3 _ _ w
    rw [xi_len0 hw]
    exact xgo [5] 20 ⟨nb rfl, start⟩
  · refine pk_le n j (fun q => ?_) (fun q => ?_) rfl rfl (by omega) (by omega)
    · have e : j = n := by omega
      subst e
      exact xgo [] 5 ⟨rfl, h⟩
    · have ih := ih q
      rw [fil_succ, nI_succ] at ih
      refine xgo [11] 20 ?_
      refine fo ?_
      show xi (xF L xs) none _ _ Q (some .iastore) 11 _ [.int x, .int (nI j), .ref a] (xset w a (xint .int n (fil f x j)))
      rw [xi_ias (xnth_st1 w a _ _ hw)]
      refine ⟨vp_in_nI (by omega) (by omega), ?_⟩
      rw [nI_clamp (by omega), xset_set]
      exact xgo [5] 20 ih
theorem afill_ok {as : List Value} {w w' : AWd} (h : afill as w = some w') (hQ : Q none (wd w')) : XC (xF L xs) xmeths (d + 1) 4 as (wd w) Q := by
  unfold afill at h
  split at h
  · split at h
    · rename_i n rs e
      split at h
      · rename_i q
        cases h
        have e1 := wd_at e
        refine c_fillG e1 q ?_
        simp only [wd_set, ace] at hQ
        exact hQ
      · cases h
    · cases h
  · cases h
theorem tgt_ok {F' : XF} {rt : Option FieldType} {K' : XKt} {C : XCt} {i cnt y : Nat} {loc : XL} {st : List Value} {w : AWd} (h1 : (st.drop (cnt % 64)).length + cnt % 64 = st.length) (h2 : ((st.drop (cnt % 64)).map fun v => v.category).sum ≤ 8) (h3 : cnt / 64 = 0 ∨ aTgt cnt st w = true) (h : C y (st.take (cnt % 64)).reverse (wd w) fun v w' => K' (i + 1) loc (v.toList ++ st.drop (cnt % 64)) w') : xi F' rt K' C Q (some (.invokeinterface y cnt)) i loc st (wd w) := by
  unfold xi
  refine ⟨h1, h2, ?_⟩
  rcases h3 with h3 | h3
  · simp only [h3]
    exact h
  · unfold aTgt at h3
    split at h3
    · rename_i a as ea
      split at h3
      · rename_i cj fs ew
        have e1 := wd_at ew
        have ec := of_decide_eq_true h3
        simp only [ec, ea, e1, ace, if_pos rfl]
        rw [ea] at h
        exact h
      · cases h3
    · cases h3
theorem arun_ok : ∀ f d rt P i loc st w w', arun f d rt P i loc st w = some w' → ∀ Q : XQt, Q none (wd w') → XWp (xF L xs) rt P (XC (xF L xs) xmeths d) Q i loc st (wd w) := by
  intro f
  induction f with
  | zero =>
    intro d rt P i loc st w w' h
    cases h
  | succ f ih =>
    intro d rt P i loc st w w' h Q hQ
    rw [arun] at h
    refine XWp.fold (XC_mono d) ?_
    split at h
    · cases h
    · rename_i ins e
      rw [e]
      split at h
      · unfold aRet at h
        split at h
        · cases h
          exact ⟨rfl, hQ⟩
        · cases h
      · rename_i y cnt
        split at h
        · rename_i q
          split at h
          · cases h
          · rename_i d'
            refine tgt_ok q.1 q.2.1 q.2.2 ?_
            split at h
            · rename_i y4
              subst y4
              split at h
              · rename_i w1 e1
                refine afill_ok e1 ?_
                exact ih _ _ _ _ _ _ _ _ h Q hQ
              · cases h
            · split at h
              · rename_i n rt' P' em
                split at h
                · rename_i ln
                  split at h
                  · rename_i w1 e1
                    have g := ih _ _ _ _ _ _ _ _ e1 (fun v w' => XWp (xF L xs) rt P (XC (xF L xs) xmeths (d' + 1)) Q (i + 1) loc (v.toList ++ st.drop (cnt % 64)) w') (ih _ _ _ _ _ _ _ _ h Q hQ)
                    show (match xnth xmeths y with
                      | some (n, rt, P) => (xargs (st.take (cnt % 64)).reverse).length ≤ n ∧ XWp (xF L xs) rt P (XC (xF L xs) xmeths d') _ 0 (xent n (st.take (cnt % 64)).reverse) [] (wd w)
                      | none => False)
                    rw [em]
                    exact ⟨ln, g⟩
                  · cases h
                · cases h
              · cases h
        · cases h
      · split at h
        · rename_i s' e1
          exact aex_ok e1 (ih _ _ _ _ _ _ _ _ h Q hQ)
        · cases h
end XAR
