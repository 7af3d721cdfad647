/-! the law's start, and the law -/
def zz : Fn := fun _ => 0
def zl : Fl := fun _ => 0
def cr0 : TCrew := (zz, zz, zz, 0, 0)
def lg0 : TLog := ((zz, 0), (zz, zz, zz, zz, 0), cr0, 0)
def sh0 : TShip := (zz, zz, zz, zl, zz, zz, zl, ain none 12 [(0, 1)], (ain none 1000 [(2, 10), (1, 2), (0, 3)], zz, ain (some (-1)) 4096 [], 3, 0), 0, 0, 1, 3, 5, 2)
theorem past_eq : arf [(15, 116), (14, 112), (13, 108), (12, 104), (11, 100), (10, 96), (9, 92), (8, 88), (7, 84), (6, 80), (5, 76), (4, 72), (3, 68), (2, 64), (1, 60), (0, 56)] = xpastR := by
  funext i
  simp only [arf, List.foldr, va_up, xpastR]
  by_cases h : i < 16
  · rcases (by omega : i = 0 ∨ i = 1 ∨ i = 2 ∨ i = 3 ∨ i = 4 ∨ i = 5 ∨ i = 6 ∨ i = 7 ∨ i = 8 ∨ i = 9 ∨ i = 10 ∨ i = 11 ∨ i = 12 ∨ i = 13 ∨ i = 14 ∨ i = 15) with rfl | rfl | rfl | rfl | rfl | rfl | rfl | rfl | rfl | rfl | rfl | rfl | rfl | rfl | rfl | rfl <;> rfl
  · rw [if_neg (by omega : ¬ i = 15), if_neg (by omega : ¬ i = 14), if_neg (by omega : ¬ i = 13), if_neg (by omega : ¬ i = 12), if_neg (by omega : ¬ i = 11), if_neg (by omega : ¬ i = 10), if_neg (by omega : ¬ i = 9), if_neg (by omega : ¬ i = 8), if_neg (by omega : ¬ i = 7), if_neg (by omega : ¬ i = 6), if_neg (by omega : ¬ i = 5), if_neg (by omega : ¬ i = 4), if_neg (by omega : ¬ i = 3), if_neg (by omega : ¬ i = 2), if_neg (by omega : ¬ i = 1), if_neg (by omega : ¬ i = 0), if_neg h]
theorem mark_eq : arf [(3, 157), (2, 145), (1, 133), (0, 121)] = xmarkR := by
  funext i
  simp only [arf, List.foldr, va_up, xmarkR]
  by_cases h : i < 4
  · rcases (by omega : i = 0 ∨ i = 1 ∨ i = 2 ∨ i = 3) with rfl | rfl | rfl | rfl <;> rfl
  · rw [if_neg (by omega : ¬ i = 3), if_neg (by omega : ¬ i = 2), if_neg (by omega : ¬ i = 1), if_neg (by omega : ¬ i = 0), if_neg h]
set_option maxRecDepth 100000 in
theorem start_eq : wd (aW0 ++ aWm) ++ [xlng 1 (fun _ => 0)] = (clsW 0 0 (zz, 0, 0, 0, 0, 0, 0, 0, 0) sh0 0 0 sh0 (zz, 0) lg0 cr0 (zz, zz, 0, 0, zz, 0, 0) zz 0 (fun _ => cr0) (fun _ => lg0) (mdlX 0 0 0 0 0 0 0 0 0 0 0 0 0 0 (-1) 0 0 0 zz (ain none 12 [(5, 0), (4, 2), (3, 5), (2, 3), (1, 0), (0, 0)]) zl zl zz zz zz zz zz zz zz zz zz zz zz zz zz zz zz zz zz zz zz zz zz zz zz zz zz zz zz zz zz zz zz zz zz zz zz zz zz zz zz zl ([xlng 1 zl]))) := by
  have e : wd (aW0 ++ aWm) ++ [xlng 1 (fun _ => 0)] = clsP 0 0 (zz, 0, 0, 0, 0, 0, 0, 0, 0) sh0 0 0 sh0 (zz, 0) lg0 cr0 (zz, zz, 0, 0, zz, 0, 0) zz 0 (xref "GreenButtons$Crew" 16 (arf [(15, 116), (14, 112), (13, 108), (12, 104), (11, 100), (10, 96), (9, 92), (8, 88), (7, 84), (6, 80), (5, 76), (4, 72), (3, 68), (2, 64), (1, 60), (0, 56)]) :: gP0 cr0 (gP1 cr0 (gP2 cr0 (gP3 cr0 (gP4 cr0 (gP5 cr0 (gP6 cr0 (gP7 cr0 (gP8 cr0 (gP9 cr0 (gP10 cr0 (gP11 cr0 (gP12 cr0 (gP13 cr0 (gP14 cr0 (gP15 cr0 (xref "GreenButtons$Log" 4 (arf [(3, 157), (2, 145), (1, 133), (0, 121)]) :: gM0 lg0 (gM1 lg0 (gM2 lg0 (gM3 lg0 (mdlX 0 0 0 0 0 0 0 0 0 0 0 0 0 0 (-1) 0 0 0 zz (ain none 12 [(5, 0), (4, 2), (3, 5), (2, 3), (1, 0), (0, 0)]) zl zl zz zz zz zz zz zz zz zz zz zz zz zz zz zz zz zz zz zz zz zz zz zz zz zz zz zz zz zz zz zz zz zz zz zz zz zz zz zz zz zl ([xlng 1 zl])))))))))))))))))))))) := rfl
  rw [e, past_eq, mark_eq]
  rfl
theorem inv0 : (Inv 0 0 0 1 0 0 0 0 0 0 0 (fun _ => (zz, zz, 0, 0)) 0 0 (zz, 0, 0, 0, 0, 0, 0, 0, 0) sh0 sh0.law.known lg0 (fun _ => cr0) (fun _ => lg0) 0 0 (-1) zz (ain none 12 [(5, 0), (4, 2), (3, 5), (2, 3), (1, 0), (0, 0)]) zz zz zz zz zz zz zz zz zz zl zl zz zz zz zz zz zz zz zz zz zz zz zz zz ([xlng 1 zl])) := by
  refine ⟨⟨rfl, by decide, rfl, by decide, rfl, by decide, by decide, fun k hk => absurd hk (Nat.not_lt_zero k), fun k hk => absurd hk (Nat.not_lt_zero k), fun k hk => absurd hk (Nat.not_lt_zero k), fun k hk => absurd hk (Nat.not_lt_zero k), fun k hk => absurd hk (Nat.not_lt_zero k), fun i hi => ?_, ⟨3, by decide, by decide, rfl⟩, ⟨5, by decide, rfl⟩, ⟨2, by decide, rfl⟩, ⟨3, by decide, rfl⟩, fun s hs => Or.inl (if_pos hs)⟩, ⟨rfl, rfl, rfl, rfl, rfl, Or.inr ⟨rfl, rfl, rfl⟩, fun k hk => absurd hk (Nat.not_lt_zero k), fun k hk => absurd hk (Nat.not_lt_zero k), fun k hk => absurd hk (Nat.not_lt_zero k), fun k hk => absurd hk (Nat.not_lt_zero k), fun k hk => absurd hk (Nat.not_lt_zero k), fun k hk => absurd hk (Nat.not_lt_zero k), fun k hk => absurd hk (Nat.not_lt_zero k), ⟨0, 0, rfl, rfl, by decide, by decide, Or.inl ⟨Nat.le_refl _, law_usual rfl rfl rfl rfl⟩⟩⟩, fun s hs => Or.inl (if_pos hs), ⟨rfl, by decide, rfl, Nat.le_refl _, ⟨fun k hk => absurd hk (Nat.not_lt_zero k), fun k hk => absurd hk (Nat.not_lt_zero k)⟩, ⟨rfl, rfl, fun k hk => absurd hk (Nat.not_lt_zero k), fun k hk => absurd hk (Nat.not_lt_zero k), fun k _ _ => rfl⟩⟩, ⟨rfl, by decide, rfl, by decide, rfl, fun k hk => absurd hk (Nat.not_lt_zero k), fun k hk => absurd hk (Nat.not_lt_zero k)⟩, tp0 rfl, ⟨⟨rfl, by decide, fun k hk => absurd hk (Nat.not_lt_zero k)⟩, ⟨rfl, fun k hk => absurd hk (Nat.not_lt_zero k), fun k hk => absurd hk (Nat.not_lt_zero k), fun k hk => absurd hk (Nat.not_lt_zero k)⟩⟩, ⟨⟨rfl, by decide, fun k hk => absurd hk (Nat.not_lt_zero k), fun k hk => absurd hk (Nat.not_lt_zero k), fun k hk => absurd hk (Nat.not_lt_zero k)⟩, ⟨rfl, fun k hk => absurd hk (Nat.not_lt_zero k), fun k hk => absurd hk (Nat.not_lt_zero k), fun k hk => absurd hk (Nat.not_lt_zero k), fun k hk => absurd hk (Nat.not_lt_zero k)⟩, fun k hk => absurd hk (Nat.not_lt_zero k)⟩, fun i hi => ⟨rfl, Or.inl rfl⟩, rfl, ⟨zl, [], rfl, Nat.le_refl _, Nat.le_refl _⟩⟩
  have : i = 0 := by omega
  subst this
  exact ⟨1, by decide, rfl⟩
theorem IW0 : IW 0 (wd (aW0 ++ aWm) ++ [xlng 1 (fun _ => 0)]) := by
  rw [start_eq]
  exact IW_U inv0
theorem nx_ok : NX (fun sd => (sd * 1103515245 + 12345) % 2147483648) (fun sd m => sd / 65536 % m) := ⟨fun _ => rfl, fun _ => Nat.mod_lt _ (by decide), fun _ _ => rfl, fun _ _ h => Nat.mod_lt _ h⟩
section XHP
variable {L : Nat} {xs : Nat → Int32}
set_option maxRecDepth 100000 in
theorem law_pure (hL : L ≤ 3584) : LV L xs 0 [orf xSCR, none, none, none, none, none, none] [] [] := by
  have a13 : LV L xs 13 (lcs (nI (7 * 0)) none none) [] (wd (aW0 ++ aWm) ++ [xlng 1 (fun _ => 0)]) := lv_loop nx_ok hL (L / 7) 0 (by omega) _ _ _ IW0
  have z0 : xnth (wd (aW0 ++ [aO13])) 169 = some (ace aO13) := rfl
  refine lw_fold ?_
  rw [show xnth xPL 0 = some (.new 12) by decide +kernel]
  show LV L xs 1 [orf xSCR, none, none, none, none, none, none] [.ref 0] (wd [aO12])
  refine lw_fold ?_
  rw [show xnth xPL 1 = some .dup by decide +kernel]
  show LV L xs 2 [orf xSCR, none, none, none, none, none, none] [.ref 0, .ref 0] (wd [aO12])
  refine lw_call (k := 12) (y := 0) (cnt := 833) (z := 0) (as := []) (r := [.ref 0]) (by decide +kernel) rfl rfl (by show 1 ≤ 8; decide) (show xnth (wd [aO12]) 0 = some (ace aO12) from rfl) ⟨nb rfl, arun_ok 5000 99 none xP0 0 _ [] [aO12] aW0 run0 _ ?_⟩
  show LV L xs 3 [orf xSCR, none, none, none, none, none, none] [.ref 0] (wd aW0)
  refine lw_fold ?_
  rw [show xnth xPL 3 = some (.astore 1) by decide +kernel]
  refine ⟨nb rfl, ?_⟩
  show LV L xs 4 [orf xSCR, orf 0, none, none, none, none, none] [] (wd aW0)
  refine lw_fold ?_
  rw [show xnth xPL 4 = some (.new 13) by decide +kernel]
  show LV L xs 5 [orf xSCR, orf 0, none, none, none, none, none] [.ref (wd aW0).length] (wd aW0 ++ [ace aO13])
  rw [show (wd aW0).length = 169 from rfl, ← wd_app]
  refine lw_fold ?_
  rw [show xnth xPL 5 = some .dup by decide +kernel]
  show LV L xs 6 [orf xSCR, orf 0, none, none, none, none, none] [.ref 169, .ref 169] (wd (aW0 ++ [aO13]))
  refine lw_call (k := 13) (y := 166) (cnt := 897) (z := 169) (as := []) (r := [.ref 169]) (by decide +kernel) rfl rfl (by show 1 ≤ 8; decide) z0 ⟨nb rfl, arun_ok 1000 99 none xP166 0 _ [] (aW0 ++ [aO13]) (aW0 ++ aWm) run1 _ ?_⟩
  show LV L xs 7 [orf xSCR, orf 0, none, none, none, none, none] [.ref 169] (wd (aW0 ++ aWm))
  refine lw_fold ?_
  rw [show xnth xPL 7 = some (.astore 2) by decide +kernel]
  refine ⟨nb rfl, ?_⟩
  show LV L xs 8 [orf xSCR, orf 0, orf 169, none, none, none, none] [] (wd (aW0 ++ aWm))
  refine lw_fold ?_
  rw [show xnth xPL 8 = some (.iconst 1) by decide +kernel]
  show LV L xs 9 [orf xSCR, orf 0, orf 169, none, none, none, none] [.int 1] (wd (aW0 ++ aWm))
  refine lw_fold ?_
  rw [show xnth xPL 9 = some (.newarray .long) by decide +kernel]
  refine ⟨by decide, by decide, ?_⟩
  show LV L xs 10 [orf xSCR, orf 0, orf 169, none, none, none, none] [.ref (wd (aW0 ++ aWm)).length] (wd (aW0 ++ aWm) ++ [xlng 1 (fun _ => 0)])
  rw [show (wd (aW0 ++ aWm)).length = 214 from rfl]
  refine lw_fold ?_
  rw [show xnth xPL 10 = some (.astore 3) by decide +kernel]
  refine ⟨nb rfl, ?_⟩
  show LV L xs 11 [orf xSCR, orf 0, orf 169, orf 214, none, none, none] [] (wd (aW0 ++ aWm) ++ [xlng 1 (fun _ => 0)])
  refine lw_fold ?_
  rw [show xnth xPL 11 = some (.iconst 0) by decide +kernel]
  show LV L xs 12 [orf xSCR, orf 0, orf 169, orf 214, none, none, none] [.int 0] (wd (aW0 ++ aWm) ++ [xlng 1 (fun _ => 0)])
  refine lw_fold ?_
  rw [show xnth xPL 12 = some (.istore 4) by decide +kernel]
  refine ⟨nb rfl, ?_⟩
  exact a13
end XHP
