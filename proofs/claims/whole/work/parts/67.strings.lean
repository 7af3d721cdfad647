/-! texts -/
theorem xnth_none {α : Type} : ∀ (l : List α) (n : Nat), l.length ≤ n → xnth l n = none
  | [], n, _ => by cases n <;> rfl
  | a :: l, 0, h => absurd h (by simp)
  | a :: l, n + 1, h => xnth_none l n (by simp only [List.length_cons] at h; omega)
theorem xsio_or (F' : XF) : xsio F' = .null ∨ xsio F' = .ref xSIO := by
  unfold xsio
  split
  · exact Or.inl rfl
  · exact Or.inr rfl
/-- where text n lies, and its bytes -/
def SA (a n : Nat) : Prop := a = xSTR + n
theorem SA.ge {a n : Nat} (h : SA a n) : 1000001 ≤ a := by simp only [SA, xSTR] at h; omega
theorem SA.le {a n : Nat} (h : SA a n) : xSTR ≤ a := by simp only [SA] at h; omega
theorem SA.sub {a n : Nat} (h : SA a n) : a - xSTR = n := by simp only [SA] at h; omega
theorem SA.leB {a n : Nat} (h : SA a n) : xBYT ≤ a + 100 := by simp only [SA, xSTR] at h; simp only [xBYT]; omega
theorem SA.subB {a n : Nat} (h : SA a n) : a + 100 - xBYT = n := by simp only [SA, xSTR] at h; simp only [xBYT]; omega
theorem SA.neB {a n : Nat} (h : SA a n) : ¬ a + 100 = xSCR := by simp only [SA, xSTR] at h; simp only [xSCR]; omega
section XTX
variable {L : Nat} {xs : Nat → Int32} {d : Nat} {Q : XQt} {w : XWd} {rt : Option FieldType} {P : List Instr} {i n a : Nat} {loc : XL} {r : List Value} {b : List Int32}
theorem xi_val {F' : XF} {K' : XKt} {C : XCt} {z y : Nat} (h0 : xnth w z = none) (h2 : z - xSTR = y) {b : List Int32} (h3 : xnth F'.2.2.1 y = some b) (h4 : xSTR ≤ z) : xi F' rt K' C Q (some (.getfield 6400)) i loc (.ref z :: r) w = K' (i + 1) loc (.ref (z + 100) :: r) w := by
  unfold xi
  simp only [x1r, h0, h2, h3, if_pos h4, if_true]
theorem xi_cod {F' : XF} {K' : XKt} {C : XCt} {z y : Nat} (h0 : xnth w z = none) (h2 : z - xSTR = y) {b : List Int32} (h3 : xnth F'.2.2.1 y = some b) (h4 : xSTR ≤ z) : xi F' rt K' C Q (some (.getfield 6401)) i loc (.ref z :: r) w = K' (i + 1) loc (.int 0 :: r) w := by
  unfold xi
  simp only [x1r, h0, h2, h3, if_pos h4, if_true, if_neg (show ¬ (6401 : Nat) = 6400 by decide)]
theorem xg_val (hP : xnth P i = some (.getfield 6400)) (hw : w.length < 1000000) (ha : SA a n) (hn : xnth xbyts n = some b) (h : XWp (xF L xs) rt P (XC (xF L xs) xmeths d) Q (i + 1) loc (.ref (a + 100) :: r) w) : XWp (xF L xs) rt P (XC (xF L xs) xmeths d) Q i loc (.ref a :: r) w := by
  have h1 := ha.ge
  have h2 := ha.le
  have h3 := ha.sub
  clear ha
  refine XWp.fold (XC_mono d) ?_
  rw [hP, xi_val (xnth_none w a (by omega)) h3 hn h2]
  exact h
theorem xg_cod (hP : xnth P i = some (.getfield 6401)) (hw : w.length < 1000000) (ha : SA a n) (hn : xnth xbyts n = some b) (h : XWp (xF L xs) rt P (XC (xF L xs) xmeths d) Q (i + 1) loc (.int 0 :: r) w) : XWp (xF L xs) rt P (XC (xF L xs) xmeths d) Q i loc (.ref a :: r) w := by
  have h1 := ha.ge
  have h2 := ha.le
  have h3 := ha.sub
  clear ha
  refine XWp.fold (XC_mono d) ?_
  rw [hP, xi_cod (xnth_none w a (by omega)) h3 hn h2]
  exact h
theorem xi_len {F' : XF} {K' : XKt} {C : XCt} {z y : Nat} (h0 : xnth w z = none) (h1 : ¬ z = xSCR) (h2 : z - xBYT = y) {b : List Int32} (h3 : xnth F'.2.2.1 y = some b) (h4 : xBYT ≤ z) : xi F' rt K' C Q (some .arraylength) i loc (.ref z :: r) w = K' (i + 1) loc (.int (Int32.ofNat b.length) :: r) w := by
  unfold xi
  simp only [x1r, h0, if_neg h1, h2, h3, if_pos h4]
theorem xi_bal {F' : XF} {K' : XKt} {C : XCt} {z y : Nat} {x : Int32} (h0 : xnth w z = none) (h2 : z - xBYT = y) {b : List Int32} (h3 : xnth F'.2.2.1 y = some b) : xi F' rt K' C Q (some .baload) i loc (.int x :: .ref z :: r) w = (xBYT ≤ z ∧ vp_in x b.length ∧ K' (i + 1) loc (.int (b.getD x.toNatClampNeg 0) :: r) w) := by
  unfold xi
  simp only [xir, h0, h2, h3]
theorem xg_len {a' : Nat} (hP : xnth P i = some .arraylength) (hw : w.length < 1000000) (ea : a' = a + 100) (ha : SA a n) (hn : xnth xbyts n = some b) (h : XWp (xF L xs) rt P (XC (xF L xs) xmeths d) Q (i + 1) loc (.int (Int32.ofNat b.length) :: r) w) : XWp (xF L xs) rt P (XC (xF L xs) xmeths d) Q i loc (.ref a' :: r) w := by
  have h1 := ha.ge
  have h2 := ha.leB
  have h3 := ha.subB
  have h4 := ha.neB
  rw [← ea] at h2 h3 h4
  have h5 : 1000000 ≤ a' := by omega
  clear ha ea
  refine XWp.fold (XC_mono d) ?_
  rw [hP]
  rw [xi_len (xnth_none w a' (by omega)) h4 h3 hn h2]
  exact h
theorem xg_bal {a' k : Nat} {x : Int32} (hx : x = nI k) (hP : xnth P i = some .baload) (hw : w.length < 1000000) (ea : a' = a + 100) (ha : SA a n) (hn : xnth xbyts n = some b) (hk : k < b.length) (hb : b.length < 2 ^ 31) (h : XWp (xF L xs) rt P (XC (xF L xs) xmeths d) Q (i + 1) loc (.int (b.getD k 0) :: r) w) : XWp (xF L xs) rt P (XC (xF L xs) xmeths d) Q i loc (.int x :: .ref a' :: r) w := by
  have h1 := ha.ge
  have h2 := ha.leB
  have h3 := ha.subB
  rw [← ea] at h2 h3
  have h5 : 1000000 ≤ a' := by omega
  clear ha ea
  subst hx
  refine XWp.fold (XC_mono d) ?_
  rw [hP]
  rw [xi_bal (xnth_none w a' (by omega)) h3 hn]
  refine ⟨h2, vp_in_nI hk hb, ?_⟩
  rw [nI_clamp (by omega)]
  exact h
theorem xi_inv {F' : XF} {K' : XKt} {C : XCt} {z y m cnt : Nat} {as st : List Value} (hc : cnt / 64 = 101) (e1 : (st.take (cnt % 64)).reverse = .ref z :: as) (h0 : xnth w z = none) (h2 : z - xSTR = y) {b : List Int32} (h3 : xnth F'.2.2.1 y = some b) (h4 : xSTR ≤ z) : xi F' rt K' C Q (some (.invokeinterface m cnt)) i loc st w = ((st.drop (cnt % 64)).length + cnt % 64 = st.length ∧ ((st.drop (cnt % 64)).map fun v => v.category).sum ≤ 8 ∧ C m (.ref z :: as) w fun v w' => K' (i + 1) loc (v.toList ++ st.drop (cnt % 64)) w') := by
  unfold xi
  simp only [hc, e1, h0, h2, h3, and_true, if_pos h4]
theorem xg_inv {y : Nat} {cnt : Nat} {as : List Value} (hP : xnth P i = some (.invokeinterface y cnt)) (hc : cnt / 64 = 101) (hw : w.length < 1000000) (ha : SA a n) (hn : xnth xbyts n = some b) {st : List Value} (hst : st.take (cnt % 64) = as.reverse ++ [.ref a]) (hl : (st.drop (cnt % 64)).length + cnt % 64 = st.length) (hs : ((st.drop (cnt % 64)).map fun v => v.category).sum ≤ 8) (h : XC (xF L xs) xmeths d y (.ref a :: as) w fun v w' => XWp (xF L xs) rt P (XC (xF L xs) xmeths d) Q (i + 1) loc (v.toList ++ st.drop (cnt % 64)) w') : XWp (xF L xs) rt P (XC (xF L xs) xmeths d) Q i loc st w := by
  have h1 := ha.ge
  have h2 := ha.le
  have h3 := ha.sub
  clear ha
  refine XWp.fold (XC_mono d) ?_
  have e1 : (st.take (cnt % 64)).reverse = .ref a :: as := by rw [hst]; simp
  rw [hP, xi_inv hc e1 (xnth_none w a (by omega)) h3 hn h2]
  exact ⟨hl, hs, h⟩
theorem c_preCheck {k m : Nat} {v : Value} (hv : v = .null ∨ v = .ref xSIO) (hk : k < m) (hm : m < 2 ^ 31) (h : Q (some (.int (nI k))) w) : XC (xF L xs) xmeths (d + 1) 267 [.int (nI k), .int (nI m), v] w Q := by
  rcases hv with rfl | rfl
  · refine ⟨nb rfl, xgo [] 20 ?_⟩
    refine vF (show ¬ nI k < 0 from nI_pos (by omega)) ?_
    exact pk_lt k m (fun _ => h) (fun y => by omega) rfl rfl (by omega) (by omega)
  · refine ⟨nb rfl, xgo [] 20 ?_⟩
    refine vF (show ¬ nI k < 0 from nI_pos (by omega)) ?_
    exact pk_lt k m (fun _ => h) (fun y => by omega) rfl rfl (by omega) (by omega)
theorem c_checkIndex {k m : Nat} (hk : k < m) (hm : m < 2 ^ 31) (h : Q none w) : XC (xF L xs) xmeths (d + 2) 40 [.int (nI k), .int (nI m)] w Q := by
  refine ⟨nb rfl, xgo [] 20 ⟨rfl, nb rfl, ?_⟩⟩
  exact c_preCheck (xsio_or (xF L xs)) hk hm ⟨rfl, h⟩
theorem c_isLatin1 (hw : w.length < 1000000) (ha : SA a n) (hn : xnth xbyts n = some b) (h : Q (some (.int 1)) w) : XC (xF L xs) xmeths (d + 1) 28 [.ref a] w Q := by
  refine ⟨nb rfl, xgo [3] 20 (vFd rfl ?_)⟩
  refine xg_cod rfl hw ha hn ?_
  exact xgo [] 20 (vFd rfl ⟨rfl, h⟩)
theorem c_coder (hw : w.length < 1000000) (ha : SA a n) (hn : xnth xbyts n = some b) (h : Q (some (.int 0)) w) : XC (xF L xs) xmeths (d + 1) 30 [.ref a] w Q := by
  refine ⟨nb rfl, xgo [3] 20 (vFd rfl ?_)⟩
  refine xg_cod rfl hw ha hn ?_
  exact xgo [] 20 ⟨rfl, h⟩
theorem c_strLen (hw : w.length < 1000000) (ha : SA a n) (hn : xnth xbyts n = some b) (h : Q (some (.int (nI b.length))) w) : XC (xF L xs) xmeths (d + 2) 29 [.ref a] w Q := by
  refine ⟨nb rfl, xgo [1] 20 ?_⟩
  refine xg_val rfl hw ha hn ?_
  refine xg_len rfl hw rfl ha hn (xgo [4] 5 ?_)
  refine xg_inv (as := []) rfl rfl hw ha hn rfl rfl (nb rfl) ?_
  refine c_coder hw ha hn ?_
  refine xgo [] 20 ?_
  have e : Int32.ofNat b.length >>> ((0 : Int32) &&& 31) = nI b.length := by
    show nI b.length >>> ((0 : Int32) &&& 31) = nI b.length
    apply Int32.toBitVec_inj.mp
    show (nI b.length).toBitVec.sshiftRight _ = _
    rw [show (((0 : Int32) &&& 31).toBitVec.smod 32).toNat = 0 by decide]
    simp
  rw [← e] at h
  exact h
theorem c_charAt {k c : Nat} (hw : w.length < 1000000) (ha : SA a n) (hn : xnth xbyts n = some b) (hk : k < b.length) (hb : b.length < 2 ^ 31) (hc : b.getD k 0 = nI c) (c128 : c < 128) (h : Q (some (.int (nI c))) w) : XC (xF L xs) xmeths (d + 4) 38 [.ref a, .int (nI k)] w Q := by
  have eC : ∀ c, c < 128 → ((nI c &&& Int32.ofInt 255).toUInt32 % 65536).toInt32 = nI c := by decide +kernel
  have nC : ∀ c, c < 128 → narrow .char (.int (nI c)) = .int (nI c) := by decide +kernel
  have inner : ∀ {d : Nat} {Q : XQt}, Q (some (.int (nI c))) w → XC (xF L xs) xmeths (d + 3) 39 [.ref (a + 100), .int (nI k)] w Q := by
    intro d Q h
    refine ⟨nb rfl, xgo [2] 20 ?_⟩
    refine xg_len rfl hw rfl ha hn (xgo [6] 20 ⟨rfl, nb rfl, c_checkIndex (m := b.length) hk hb ?_⟩)
    refine xg_bal rfl rfl hw rfl ha hn hk hb ?_
    rw [hc]
    have fin : narrow .char (.int (nI c)) = .int (nI c) ∧ Q (some (.int (nI c))) w := ⟨nC c c128, h⟩
    rw [← eC c c128] at fin
    exact xgo [] 20 fin
  refine ⟨nb rfl, xgo [1] 20 ?_⟩
  refine xg_inv (as := []) rfl rfl hw ha hn rfl rfl (nb rfl) ?_
  refine c_isLatin1 hw ha hn ?_
  refine xgo [4] 20 (vFd rfl ?_)
  refine xg_val rfl hw ha hn (xgo [] 20 ⟨rfl, nb rfl, inner ⟨nC c c128, h⟩⟩)
end XTX
