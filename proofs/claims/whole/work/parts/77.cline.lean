/-! the class: a ship's lines are read -/
theorem vTs {x y : Int32} {A B : Prop} (h : decide (x = y) = true) (a : A) : (x = y → A) ∧ (¬ x = y → B) := ⟨fun _ => a, fun n => absurd (of_decide_eq_true h) n⟩
theorem vFs {x y : Int32} {A B : Prop} (h : decide (x = y) = false) (b : B) : (x = y → A) ∧ (¬ x = y → B) := ⟨fun p => absurd p (of_decide_eq_false h), fun _ => b⟩
def bup (tf : Nat → Bool) (j : Nat) : Nat → Bool := fun k => if k = j then true else tf k
theorem bup_or {tf : Nat → Bool} {j : Nat} (hj : j < 7) : nI (bsN tf 7) ||| ((1 : Int32) <<< (nI j &&& 31)) = nI (bsN (bup tf j) 7) := by
  rw [shl_of j hj, nI_or]
  congr 1
  refine Nat.eq_of_testBit_eq (fun k => ?_)
  rw [Nat.testBit_or, bsN_test, bsN_test, Nat.testBit_two_pow]
  unfold bup
  by_cases q : k = j
  · subst q
    simp [hj]
  · have : ¬ j = k := fun z => q z.symm
    simp [q, this]
theorem bup_bit {tf : Nat → Bool} {j : Nat} (hj : j < 7) : bit (nI (bsN tf 7)) (nI j) ↔ tf j = true := by
  have h := bsN_lt tf 7
  rw [bit_iff (by omega) hj, bsN_test, decide_eq_true hj, Bool.true_and]
def onP {α : Type} (tf : Nat → Bool) (j s : Nat) (x : Sum Nat α) : Sum Nat α := if tf j = true then .inl (3 + 16 * s) else x
abbrev KSt : Type := Nat → TShip → Nat → Nat → Nat → (Nat → Bool) → List Int32 → RSt
def lawP (C : Nat → Nat) (l s : Nat) (D : TShip) (k : Nat → TShip → List Int32 → RSt) : RSt :=
  match allP C l (parP C l 5) s with
  | .inl f => .inl f
  | .inr (s', st, cd) => k s' (D.wlaw (lwA (D.law.steps, D.law.stack, D.law.known, 0, 0) st)) cd
def linP (C : Nat → Nat) (l s : Nat) (D : TShip) (n p z : Nat) (tf : Nat → Bool) (cd : List Int32) (k : KSt) : RSt :=
  if isW C l s 9518 then manP C l s D n p (fun s D => cloP C l s (fun s => k s D (n + 1) p z tf cd))
  else if isW C l s 326396 then pstP C l s D n p (fun s D => cloP C l s (fun s => k s D n (p + 1) z tf cd))
  else if isW C l s 13987 then onP tf 2 s (seaP C l (fun z s D => cloP C l s (fun s => k s D n p z (bup tf 2) cd)) 12 0 (tkX C l s) D)
  else if isW C l s 10255685 then onP tf 3 s (numP C l 1 9 (tkX C l s) (fun v s => cloP C l s (fun s => k s (D.kind, D.green, D.hands, D.manName, D.spray, D.holds, D.postName, D.sea, D.law, D.men, D.posts, D.seas, nI v, D.lemon, D.harbour) n p z (bup tf 3) cd)))
  else if isW C l s 6485603 then onP tf 4 s (numP C l 1 20 (tkX C l s) (fun v s => cloP C l s (fun s => k s (D.kind, D.green, D.hands, D.manName, D.spray, D.holds, D.postName, D.sea, D.law, D.men, D.posts, D.seas, D.shade, nI v, D.harbour) n p z (bup tf 4) cd)))
  else if isW C l s 3123329643 then onP tf 5 s (numP C l 0 9 (tkX C l s) (fun v s => cloP C l s (fun s => k s (D.kind, D.green, D.hands, D.manName, D.spray, D.holds, D.postName, D.sea, D.law, D.men, D.posts, D.seas, D.shade, D.lemon, nI v) n p z (bup tf 5) cd)))
  else if isW C l s 110110744 then onP tf 6 s (lawP C l (tkX C l s) D (fun s D cd => cloP C l s (fun s => k s D n p z (bup tf 6) cd)))
  else .inl (1 + 16 * s)
def allL (C : Nat → Nat) (l : Nat) : Nat → KSt
  | 0, s, D, n, p, z, tf, cd => .inr (s, D, n, p, z, tf, cd)
  | m + 1, s, D, n, p, z, tf, cd => if tkK C l s = 0 then .inr (s, D, n, p, z, tf, cd) else linP C l s D n p z tf cd (allL C l m)
section XCL
variable {L : Nat} {xs : Nat → Int32} {d : Nat} {Q : XQt} {pn pc : Int32} {tok : TTok} {ship : TShip} {nn : Int64} {tl : Int32} {draft : TShip} {vd : TVoy} {log : TLog} {trial : TCrew} {sta : TSta} {says : Fn} {seed : Int64} {past : Nat → TCrew} {marks : Nat → TLog} {K : XWd}
variable {C : Nat → Nat} {l s n p z : Nat} {T : Fn} {H : RSt → Prop} {tf : Nat → Bool}
theorem c_once2 {k : Nat → Nat → TShip → RSt} (ht : tl = nI (bsN tf 7)) (hK : K.length < 700000) (tr : TkR tok T C l s) (rp : RpC T C l) (l1 : l ≤ 1000) (sl : s ≤ l) (h : H (onP tf 2 s (seaP C l k 12 0 (tkX C l s) draft))) (h0 : ∀ f, H (.inl f) → ∀ (tok : TTok) draft tl, tok.fault = nI f → Q (some (.int 0)) (clsW pn pc tok ship nn tl draft vd log trial sta says seed past marks K)) (h1 : ∀ i s' D, 0 < i → i ≤ 12 → H (k i s' D) → D.men = draft.men → D.posts = draft.posts → s ≤ s' → s' ≤ l → ∀ (tok' : TTok), TkR tok' T C l s' → tok'.fault = tok.fault → Q (some (.int 1)) (clsW pn pc tok' ship nn (nI (bsN (bup tf 2) 7)) D vd log trial sta says seed past marks K)) : XC (xF L xs) xmeths (d + 9) 53 [.ref 16, .int 2] (clsW pn pc tok ship nn tl draft vd log trial sta says seed past marks K) Q := by
  subst ht
  unfold onP at h
  refine ⟨nb rfl, xgo [] 60 ?_⟩
  refine And.intro (fun (q : ¬ bit (nI (bsN tf 7)) (nI 2)) => ?_) (fun (q : ¬ ¬ bit (nI (bsN tf 7)) (nI 2)) => ?_)
  rotate_left
  · rw [if_pos ((bup_bit (by decide)).mp (Classical.not_not.mp q))] at h
    exact ⟨rfl, nb rfl, c_refuse (k := 3) tr ⟨rfl, h0 _ h _ _ _ rfl⟩⟩
  rw [if_neg (fun y => q ((bup_bit (by decide)).mpr y))] at h
  rw [← bup_or (by decide)] at h1
  have s1 := tkX_le (C := C) sl
  refine ⟨rfl, nb rfl, c_adv (tl := nI (bsN tf 7) ||| ((1 : Int32) <<< (nI 2 &&& 31))) hK tr rp l1 sl (fun tok2 tr2 f2 _ => ?_)⟩
  exact vTs rfl ⟨rfl, nb rfl, c_readSea hK tr2 rp l1 s1.2.1 h (fun f hf tok draft ef => ⟨rfl, h0 f hf tok draft _ ef⟩) (fun i s' D a1 a2 a3 a4 a5 a6 a7 tok' tr' f' => ⟨rfl, h1 i s' D a1 a2 a3 a4 a5 (by omega) a7 tok' tr' (by rw [f', f2])⟩)⟩
theorem c_once3 {k : Nat → TShip → RSt} {D : TShip} (ht : tl = nI (bsN tf 7)) (hK : K.length < 700000) (tr : TkR tok T C l s) (rp : RpC T C l) (l1 : l ≤ 1000) (sl : s ≤ l) (h : H (onP tf 3 s (numP C l 1 9 (tkX C l s) (fun v s => k s (D.kind, D.green, D.hands, D.manName, D.spray, D.holds, D.postName, D.sea, D.law, D.men, D.posts, D.seas, nI v, D.lemon, D.harbour))))) (h0 : ∀ f, H (.inl f) → ∀ (tok : TTok) draft tl, tok.fault = nI f → Q (some (.int 0)) (clsW pn pc tok ship nn tl draft vd log trial sta says seed past marks K)) (h1 : ∀ s' D', H (k s' D') → D'.men = D.men → D'.posts = D.posts → s ≤ s' → s' ≤ l → ∀ (tok' : TTok), TkR tok' T C l s' → tok'.fault = tok.fault → Q (some (.int 1)) (clsW pn pc tok' ship nn (nI (bsN (bup tf 3) 7)) D' vd log trial sta says seed past marks K)) : XC (xF L xs) xmeths (d + 9) 53 [.ref 16, .int 3] (clsW pn pc tok ship nn tl D vd log trial sta says seed past marks K) Q := by
  subst ht
  unfold onP at h
  refine ⟨nb rfl, xgo [] 60 ?_⟩
  refine And.intro (fun (q : ¬ bit (nI (bsN tf 7)) (nI 3)) => ?_) (fun (q : ¬ ¬ bit (nI (bsN tf 7)) (nI 3)) => ?_)
  rotate_left
  · rw [if_pos ((bup_bit (by decide)).mp (Classical.not_not.mp q))] at h
    exact ⟨rfl, nb rfl, c_refuse (k := 3) tr ⟨rfl, h0 _ h _ _ _ rfl⟩⟩
  rw [if_neg (fun y => q ((bup_bit (by decide)).mpr y))] at h
  rw [← bup_or (by decide)] at h1
  have s1 := tkX_le (C := C) sl
  refine ⟨rfl, nb rfl, c_adv (tl := nI (bsN tf 7) ||| ((1 : Int32) <<< (nI 3 &&& 31))) hK tr rp l1 sl (fun tok2 tr2 f2 _ => ?_)⟩
  exact vFs rfl (vTs rfl ⟨rfl, nb rfl, c_readShade hK tr2 rp l1 s1.2.1 h (fun f hf tok draft ef => ⟨rfl, h0 f hf tok draft _ ef⟩) (fun s' D a3 a4 a5 a6 a7 tok' tr' f' => ⟨rfl, h1 s' D a3 a4 a5 (by omega) a7 tok' tr' (by rw [f', f2])⟩)⟩)
theorem c_once4 {k : Nat → TShip → RSt} {D : TShip} (ht : tl = nI (bsN tf 7)) (hK : K.length < 700000) (tr : TkR tok T C l s) (rp : RpC T C l) (l1 : l ≤ 1000) (sl : s ≤ l) (h : H (onP tf 4 s (numP C l 1 20 (tkX C l s) (fun v s => k s (D.kind, D.green, D.hands, D.manName, D.spray, D.holds, D.postName, D.sea, D.law, D.men, D.posts, D.seas, D.shade, nI v, D.harbour))))) (h0 : ∀ f, H (.inl f) → ∀ (tok : TTok) draft tl, tok.fault = nI f → Q (some (.int 0)) (clsW pn pc tok ship nn tl draft vd log trial sta says seed past marks K)) (h1 : ∀ s' D', H (k s' D') → D'.men = D.men → D'.posts = D.posts → s ≤ s' → s' ≤ l → ∀ (tok' : TTok), TkR tok' T C l s' → tok'.fault = tok.fault → Q (some (.int 1)) (clsW pn pc tok' ship nn (nI (bsN (bup tf 4) 7)) D' vd log trial sta says seed past marks K)) : XC (xF L xs) xmeths (d + 9) 53 [.ref 16, .int 4] (clsW pn pc tok ship nn tl D vd log trial sta says seed past marks K) Q := by
  subst ht
  unfold onP at h
  refine ⟨nb rfl, xgo [] 60 ?_⟩
  refine And.intro (fun (q : ¬ bit (nI (bsN tf 7)) (nI 4)) => ?_) (fun (q : ¬ ¬ bit (nI (bsN tf 7)) (nI 4)) => ?_)
  rotate_left
  · rw [if_pos ((bup_bit (by decide)).mp (Classical.not_not.mp q))] at h
    exact ⟨rfl, nb rfl, c_refuse (k := 3) tr ⟨rfl, h0 _ h _ _ _ rfl⟩⟩
  rw [if_neg (fun y => q ((bup_bit (by decide)).mpr y))] at h
  rw [← bup_or (by decide)] at h1
  have s1 := tkX_le (C := C) sl
  refine ⟨rfl, nb rfl, c_adv (tl := nI (bsN tf 7) ||| ((1 : Int32) <<< (nI 4 &&& 31))) hK tr rp l1 sl (fun tok2 tr2 f2 _ => ?_)⟩
  exact vFs rfl (vFs rfl (vTs rfl ⟨rfl, nb rfl, c_readLemon hK tr2 rp l1 s1.2.1 h (fun f hf tok draft ef => ⟨rfl, h0 f hf tok draft _ ef⟩) (fun s' D a3 a4 a5 a6 a7 tok' tr' f' => ⟨rfl, h1 s' D a3 a4 a5 (by omega) a7 tok' tr' (by rw [f', f2])⟩)⟩))
theorem c_once5 {k : Nat → TShip → RSt} {D : TShip} (ht : tl = nI (bsN tf 7)) (hK : K.length < 700000) (tr : TkR tok T C l s) (rp : RpC T C l) (l1 : l ≤ 1000) (sl : s ≤ l) (h : H (onP tf 5 s (numP C l 0 9 (tkX C l s) (fun v s => k s (D.kind, D.green, D.hands, D.manName, D.spray, D.holds, D.postName, D.sea, D.law, D.men, D.posts, D.seas, D.shade, D.lemon, nI v))))) (h0 : ∀ f, H (.inl f) → ∀ (tok : TTok) draft tl, tok.fault = nI f → Q (some (.int 0)) (clsW pn pc tok ship nn tl draft vd log trial sta says seed past marks K)) (h1 : ∀ s' D', H (k s' D') → D'.men = D.men → D'.posts = D.posts → s ≤ s' → s' ≤ l → ∀ (tok' : TTok), TkR tok' T C l s' → tok'.fault = tok.fault → Q (some (.int 1)) (clsW pn pc tok' ship nn (nI (bsN (bup tf 5) 7)) D' vd log trial sta says seed past marks K)) : XC (xF L xs) xmeths (d + 9) 53 [.ref 16, .int 5] (clsW pn pc tok ship nn tl D vd log trial sta says seed past marks K) Q := by
  subst ht
  unfold onP at h
  refine ⟨nb rfl, xgo [] 60 ?_⟩
  refine And.intro (fun (q : ¬ bit (nI (bsN tf 7)) (nI 5)) => ?_) (fun (q : ¬ ¬ bit (nI (bsN tf 7)) (nI 5)) => ?_)
  rotate_left
  · rw [if_pos ((bup_bit (by decide)).mp (Classical.not_not.mp q))] at h
    exact ⟨rfl, nb rfl, c_refuse (k := 3) tr ⟨rfl, h0 _ h _ _ _ rfl⟩⟩
  rw [if_neg (fun y => q ((bup_bit (by decide)).mpr y))] at h
  rw [← bup_or (by decide)] at h1
  have s1 := tkX_le (C := C) sl
  refine ⟨rfl, nb rfl, c_adv (tl := nI (bsN tf 7) ||| ((1 : Int32) <<< (nI 5 &&& 31))) hK tr rp l1 sl (fun tok2 tr2 f2 _ => ?_)⟩
  exact vFs rfl (vFs rfl (vFs rfl (vTs rfl ⟨rfl, nb rfl, c_readHarbour hK tr2 rp l1 s1.2.1 h (fun f hf tok draft ef => ⟨rfl, h0 f hf tok draft _ ef⟩) (fun s' D a3 a4 a5 a6 a7 tok' tr' f' => ⟨rfl, h1 s' D a3 a4 a5 (by omega) a7 tok' tr' (by rw [f', f2])⟩)⟩)))

theorem c_once6 {k : Nat → TShip → List Int32 → RSt} (ht : tl = nI (bsN tf 7)) (hK : K.length < 700000) (tr : TkR tok T C l s) (rp : RpC T C l) (l1 : l ≤ 1000) (sl : s ≤ l) (h : H (onP tf 6 s (lawP C l (tkX C l s) draft k))) (h0 : ∀ f, H (.inl f) → ∀ (tok : TTok) draft tl, tok.fault = nI f → Q (some (.int 0)) (clsW pn pc tok ship nn tl draft vd log trial sta says seed past marks K)) (h1 : ∀ s' D cd, H (k s' D cd) → D.men = draft.men → D.posts = draft.posts → s ≤ s' → s' ≤ l → ∀ (tok' : TTok), TkR tok' T C l s' → tok'.fault = tok.fault → Q (some (.int 1)) (clsW pn pc tok' ship nn (nI (bsN (bup tf 6) 7)) D vd log trial sta says seed past marks K)) : XC (xF L xs) xmeths (d + 41) 53 [.ref 16, .int 6] (clsW pn pc tok ship nn tl draft vd log trial sta says seed past marks K) Q := by
  subst ht
  unfold onP at h
  refine ⟨nb rfl, xgo [] 60 ?_⟩
  refine And.intro (fun (q : ¬ bit (nI (bsN tf 7)) (nI 6)) => ?_) (fun (q : ¬ ¬ bit (nI (bsN tf 7)) (nI 6)) => ?_)
  rotate_left
  · rw [if_pos ((bup_bit (by decide)).mp (Classical.not_not.mp q))] at h
    exact ⟨rfl, nb rfl, c_refuse (k := 3) tr ⟨rfl, h0 _ h _ _ _ rfl⟩⟩
  rw [if_neg (fun y => q ((bup_bit (by decide)).mpr y))] at h
  rw [← bup_or (by decide)] at h1
  have s1 := tkX_le (C := C) sl
  unfold lawP at h
  refine ⟨rfl, nb rfl, c_adv (tl := nI (bsN tf 7) ||| ((1 : Int32) <<< (nI 6 &&& 31))) hK tr rp l1 sl (fun tok2 tr2 f2 _ => ?_)⟩
  refine vFs rfl (vFs rfl (vFs rfl (vFs rfl ⟨rfl, nb rfl, c_lawRead hK rp l1 tr2 s1.2.1 (fun f ef tok' draft' e' => ⟨rfl, ?_⟩) (fun s' st cd e2 tok' tr' f' => ⟨rfl, ?_⟩)⟩)))
  · rw [ef] at h
    exact h0 f h tok' draft' _ e'
  · rw [e2] at h
    have fw := all_fw (par_fw 5) _ s1.2.1 _ _ _ e2
    exact h1 s' _ cd h rfl rfl (by omega) fw.2.1 tok' tr' (by rw [f', f2])
theorem c_cloE {k : Nat → RSt} {b : Nat} (hb : b = 22 ∨ b = 34 ∨ b = 46) (hK : K.length < 700000) (tr : TkR tok T C l s) (rp : RpC T C l) (l1 : l ≤ 1000) (sl : s ≤ l) (h : H (cloP C l s k)) (h0 : ∀ f, H (.inl f) → ∀ (tok : TTok), tok.fault = nI f → Q (some (.int 0)) (clsW pn pc tok ship nn tl draft vd log trial sta says seed past marks K)) (h1 : ∀ s', H (k s') → s ≤ s' → s' ≤ l → ∀ (tok' : TTok), TkR tok' T C l s' → tok'.fault = tok.fault → Q (some (.int 1)) (clsW pn pc tok' ship nn tl draft vd log trial sta says seed past marks K)) : XC (xF L xs) xmeths (d + 7) 50 [.ref 1, .int 59] (clsW pn pc tok ship nn tl draft vd log trial sta says seed past marks K) Q := by
  refine c_takeSign (c := 59) hK tr rp l1 sl (by decide) (fun q tok' tr' f' _ => ?_) (fun q => ?_)
  · unfold cloP at h
    rw [if_pos q] at h
    have s1 := tkX_le (C := C) sl
    exact h1 _ h s1.1 s1.2.1 tok' tr' f'
  · unfold cloP at h
    rw [if_neg q] at h
    exact h0 _ h _ rfl
theorem vl1_of {C : Nat → Nat} {l s : Nat} : ∀ x, x = (if tkK C l s = 1 then plN (wdV C l s) 0 vl1 else -1) → (isW C l s 9518 ∧ x = 0) ∨ (¬ isW C l s 9518 ∧ ((isW C l s 326396 ∧ x = 1) ∨ (¬ isW C l s 326396 ∧ ((isW C l s 13987 ∧ x = 2) ∨ (¬ isW C l s 13987 ∧ ((isW C l s 10255685 ∧ x = 3) ∨ (¬ isW C l s 10255685 ∧ ((isW C l s 6485603 ∧ x = 4) ∨ (¬ isW C l s 6485603 ∧ ((isW C l s 3123329643 ∧ x = 5) ∨ (¬ isW C l s 3123329643 ∧ ((isW C l s 110110744 ∧ x = 6) ∨ (¬ isW C l s 110110744 ∧ x = -1))))))))))))) := by
  intro x hx
  by_cases y : tkK C l s = 1
  · rw [if_pos y] at hx
    simp only [isW, y, true_and]
    simp only [vl1, plN] at hx
    have st : ∀ {w : Nat} {a b : Int32} {A : Prop}, x = (if w = wdV C l s then a else b) → (¬ wdV C l s = w → x = b → A) → (wdV C l s = w ∧ x = a) ∨ (¬ wdV C l s = w ∧ A) := by
      intro w a b A hx f
      by_cases q : wdV C l s = w
      · rw [if_pos q.symm] at hx
        exact Or.inl ⟨q, hx⟩
      · rw [if_neg (fun z => q z.symm)] at hx
        exact Or.inr ⟨q, f q hx⟩
    refine st hx (fun _ hx => st hx (fun _ hx => st hx (fun _ hx => st hx (fun _ hx => st hx (fun _ hx => st hx (fun _ hx => st hx (fun _ hx => hx)))))))
  · rw [if_neg y] at hx
    simp only [isW, y, false_and, not_false_eq_true, true_and, false_or]
    exact hx
theorem c_readLine {k : KSt} {cd : List Int32} (ht : tl = nI (bsN tf 7)) (hK : K.length < 700000) (tr : TkR tok T C l s) (rp : RpC T C l) (l1 : l ≤ 1000) (sl : s ≤ l) (n6 : n ≤ 6) (p4 : p ≤ 4) (hm : draft.men = nI n) (hp : draft.posts = nI p) (h : H (linP C l s draft n p z tf cd k)) (h0 : ∀ f, H (.inl f) → ∀ (tok : TTok) nn draft tl, tok.fault = nI f → Q (some (.int 0)) (clsW pn pc tok ship nn tl draft vd log trial sta says seed past marks K)) (h1 : ∀ s' D n' p' z' tf' cd', H (k s' D n' p' z' tf' cd') → n' ≤ 6 → p' ≤ 4 → D.men = nI n' → D.posts = nI p' → s' ≤ l → ∀ (tok' : TTok) nn, TkR tok' T C l s' → tok'.fault = tok.fault → Q (some (.int 1)) (clsW pn pc tok' ship nn (nI (bsN tf' 7)) D vd log trial sta says seed past marks K)) : XC (xF L xs) xmeths (d + 42) 36 [.ref 16] (clsW pn pc tok ship nn tl draft vd log trial sta says seed past marks K) Q := by
  subst ht
  refine ⟨nb rfl, xgo [22, 34, 46, 23, 35, 47, 48] 60 ⟨rfl, nb rfl, c_place1 hK tr rp l1 sl ?_⟩⟩
  generalize hx : (if tkK C l s = 1 then plN (wdV C l s) 0 vl1 else -1) = x
  have hx := vl1_of x hx.symm
  refine ⟨nb rfl, ?_⟩
  unfold linP at h
  have n22 : ∀ x1 tok nn draft tl f, H (.inl f) → tok.fault = nI f → XWp (xF L xs) (some .boolean) xP36 (XC (xF L xs) xmeths (d + 41)) Q 22 [orf 16, x1] [] (clsW pn pc tok ship nn tl draft vd log trial sta says seed past marks K) := fun x1 tok nn draft tl f hf ef => xgo [] 20 ⟨rfl, h0 f hf tok nn draft tl ef⟩
  have n34 : ∀ x1 tok nn draft tl f, H (.inl f) → tok.fault = nI f → XWp (xF L xs) (some .boolean) xP36 (XC (xF L xs) xmeths (d + 41)) Q 34 [orf 16, x1] [] (clsW pn pc tok ship nn tl draft vd log trial sta says seed past marks K) := fun x1 tok nn draft tl f hf ef => xgo [] 20 ⟨rfl, h0 f hf tok nn draft tl ef⟩
  have n47 : ∀ x1 tok nn draft tl f, H (.inl f) → tok.fault = nI f → XWp (xF L xs) (some .boolean) xP36 (XC (xF L xs) xmeths (d + 41)) Q 47 [orf 16, x1] [] (clsW pn pc tok ship nn tl draft vd log trial sta says seed past marks K) := fun x1 tok nn draft tl f hf ef => xgo [] 20 ⟨rfl, h0 f hf tok nn draft tl ef⟩
  rcases hx with ⟨q, rfl⟩ | ⟨q, hx⟩
  · rw [if_pos q] at h
    refine vFs rfl (vTs rfl ⟨rfl, nb rfl, c_readMan hK tr rp l1 sl n6 p4 hm hp h (fun f hf tok nn draft ef => vTd rfl (n22 _ tok nn draft _ f hf ef)) (fun s' D a1 a2 a3 a4 a5 a6 tok' nn' tr' f' => ?_)⟩)
    refine vFd rfl ⟨rfl, nb rfl, c_cloE (b := 22) (Or.inl rfl) hK tr' rp l1 a6 a2 (fun f hf tok ef => vTd rfl (n22 _ tok nn' D _ f hf ef)) (fun s2 b1 b2 b3 tok2 tr2 f2 => vFd rfl (xgo [] 20 ⟨rfl, ?_⟩))⟩
    exact h1 s2 D _ _ _ _ _ b1 (by omega) p4 a3 a4 b3 tok2 nn' tr2 (by rw [f2, f'])
  rw [if_neg q] at h
  rcases hx with ⟨q, rfl⟩ | ⟨q, hx⟩
  · rw [if_pos q] at h
    refine vFs rfl (vFs rfl (vTs rfl ⟨rfl, nb rfl, c_readPost hK tr rp l1 sl n6 p4 hm hp h (fun f hf tok nn draft ef => vTd rfl (n34 _ tok nn draft _ f hf ef)) (fun s' D a1 a2 a3 a4 a5 a6 tok' nn' tr' f' => ?_)⟩))
    refine vFd rfl ⟨rfl, nb rfl, c_cloE (b := 22) (Or.inl rfl) hK tr' rp l1 a6 a2 (fun f hf tok ef => vTd rfl (n34 _ tok nn' D _ f hf ef)) (fun s2 b1 b2 b3 tok2 tr2 f2 => vFd rfl (xgo [] 20 ⟨rfl, ?_⟩))⟩
    exact h1 s2 D _ _ _ _ _ b1 n6 (by omega) a3 a4 b3 tok2 nn' tr2 (by rw [f2, f'])
  rw [if_neg q] at h
  rcases hx with ⟨q, rfl⟩ | ⟨q, hx⟩
  · rw [if_pos q] at h
    refine vFs rfl (vFs rfl (vFs rfl ⟨rfl, nb rfl, c_once2 rfl hK tr rp l1 sl h (fun f hf tok draft tl ef => vTd rfl (n47 _ tok nn draft tl f hf ef)) (fun i s' D a1 a2 a3 a4 a5 a6 a7 tok' tr' f' => ?_)⟩))
    refine vFd rfl ⟨rfl, nb rfl, c_cloE (b := 22) (Or.inl rfl) hK tr' rp l1 a7 a3 (fun f hf tok ef => vTd rfl (n47 _ tok nn D _ f hf ef)) (fun s2 b1 b2 b3 tok2 tr2 f2 => vFd rfl (xgo [] 20 ⟨rfl, ?_⟩))⟩
    exact h1 s2 D _ _ _ _ _ b1 n6 p4 (a4.trans hm) (a5.trans hp) b3 tok2 nn tr2 (by rw [f2, f'])
  rw [if_neg q] at h
  rcases hx with ⟨q, rfl⟩ | ⟨q, hx⟩
  · rw [if_pos q] at h
    refine vFs rfl (vFs rfl (vFs rfl ⟨rfl, nb rfl, c_once3 (k := fun s D => cloP C l s (fun s => k s D n p z (bup tf 3) cd)) rfl hK tr rp l1 sl h (fun f hf tok draft tl ef => vTd rfl (n47 _ tok nn draft tl f hf ef)) (fun s' D a3 a4 a5 a6 a7 tok' tr' f' => ?_)⟩))
    refine vFd rfl ⟨rfl, nb rfl, c_cloE (b := 22) (Or.inl rfl) hK tr' rp l1 a7 a3 (fun f hf tok ef => vTd rfl (n47 _ tok nn D _ f hf ef)) (fun s2 b1 b2 b3 tok2 tr2 f2 => vFd rfl (xgo [] 20 ⟨rfl, ?_⟩))⟩
    exact h1 s2 D _ _ _ _ _ b1 n6 p4 (a4.trans hm) (a5.trans hp) b3 tok2 nn tr2 (by rw [f2, f'])
  rw [if_neg q] at h
  rcases hx with ⟨q, rfl⟩ | ⟨q, hx⟩
  · rw [if_pos q] at h
    refine vFs rfl (vFs rfl (vFs rfl ⟨rfl, nb rfl, c_once4 (k := fun s D => cloP C l s (fun s => k s D n p z (bup tf 4) cd)) rfl hK tr rp l1 sl h (fun f hf tok draft tl ef => vTd rfl (n47 _ tok nn draft tl f hf ef)) (fun s' D a3 a4 a5 a6 a7 tok' tr' f' => ?_)⟩))
    refine vFd rfl ⟨rfl, nb rfl, c_cloE (b := 22) (Or.inl rfl) hK tr' rp l1 a7 a3 (fun f hf tok ef => vTd rfl (n47 _ tok nn D _ f hf ef)) (fun s2 b1 b2 b3 tok2 tr2 f2 => vFd rfl (xgo [] 20 ⟨rfl, ?_⟩))⟩
    exact h1 s2 D _ _ _ _ _ b1 n6 p4 (a4.trans hm) (a5.trans hp) b3 tok2 nn tr2 (by rw [f2, f'])
  rw [if_neg q] at h
  rcases hx with ⟨q, rfl⟩ | ⟨q, hx⟩
  · rw [if_pos q] at h
    refine vFs rfl (vFs rfl (vFs rfl ⟨rfl, nb rfl, c_once5 (k := fun s D => cloP C l s (fun s => k s D n p z (bup tf 5) cd)) rfl hK tr rp l1 sl h (fun f hf tok draft tl ef => vTd rfl (n47 _ tok nn draft tl f hf ef)) (fun s' D a3 a4 a5 a6 a7 tok' tr' f' => ?_)⟩))
    refine vFd rfl ⟨rfl, nb rfl, c_cloE (b := 22) (Or.inl rfl) hK tr' rp l1 a7 a3 (fun f hf tok ef => vTd rfl (n47 _ tok nn D _ f hf ef)) (fun s2 b1 b2 b3 tok2 tr2 f2 => vFd rfl (xgo [] 20 ⟨rfl, ?_⟩))⟩
    exact h1 s2 D _ _ _ _ _ b1 n6 p4 (a4.trans hm) (a5.trans hp) b3 tok2 nn tr2 (by rw [f2, f'])
  rw [if_neg q] at h

  rcases hx with ⟨q, rfl⟩ | ⟨q, rfl⟩
  · rw [if_pos q] at h
    refine vFs rfl (vFs rfl (vFs rfl ⟨rfl, nb rfl, c_once6 rfl hK tr rp l1 sl h (fun f hf tok draft tl ef => vTd rfl (n47 _ tok nn draft tl f hf ef)) (fun s' D cd' a3 a4 a5 a6 a7 tok' tr' f' => ?_)⟩))
    refine vFd rfl ⟨rfl, nb rfl, c_cloE (b := 22) (Or.inl rfl) hK tr' rp l1 a7 a3 (fun f hf tok ef => vTd rfl (n47 _ tok nn D _ f hf ef)) (fun s2 b1 b2 b3 tok2 tr2 f2 => vFd rfl (xgo [] 20 ⟨rfl, ?_⟩))⟩
    exact h1 s2 D _ _ _ _ _ b1 n6 p4 (a4.trans hm) (a5.trans hp) b3 tok2 nn tr2 (by rw [f2, f'])
  rw [if_neg q] at h
  exact vTs rfl ⟨rfl, nb rfl, c_refuse (k := 1) tr ⟨rfl, h0 _ h _ _ _ _ rfl⟩⟩
end XCL
