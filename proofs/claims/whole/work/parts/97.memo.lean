/-! what is kept of the law's answers changes nothing -/
section XME
variable {s : TShip} {stk kn : Fn}
theorem runG_m {p g : Fn} {n z t : Nat} : ∀ j, runG (s.wlaw (s.law.wm stk kn)) p n z t g j = runG s p n z t g j
  | 0 => rfl
  | j + 1 => by
    rw [runG, runG, runG_m j]
    rfl
theorem harbR_m {g : Fn} {n : Nat} : ∀ j, harbR (s.wlaw (s.law.wm stk kn)) n g j = harbR s n g j
  | 0 => rfl
  | j + 1 => by
    rw [harbR, harbR, harbR_m j]
    rfl
theorem runS_m {p g : Fn} {n b : Nat} : ∀ j, runS (s.wlaw (s.law.wm stk kn)) p n b g j = runS s p n b g j
  | 0 => rfl
  | j + 1 => by
    rw [runS, runS, runS_m j]
    rfl
theorem ldA_m {g pl : Fn} {n z t w : Nat} {man : Int32} : ldA (s.wlaw (s.law.wm stk kn)) g pl n z t w man = ldA s g pl n z t w man := by
  funext b
  unfold ldA
  rw [runG_m]
theorem chnV_m {g pl : Fn} {n w : Nat} {od man : Int32} : ∀ b, chnV (s.wlaw (s.law.wm stk kn)) g pl n w od man b = chnV s g pl n w od man b
  | 0 => rfl
  | b + 1 => by rw [chnV, chnV, chnV_m b, runS_m]
theorem setG_m {g pl : Fn} {n z t b : Nat} : setG (s.wlaw (s.law.wm stk kn)) g pl n z t b = setG s g pl n z t b := by
  funext j
  exact runG_m j
theorem fitV_m {g pl : Fn} {se : TSeen} {n z t c b : Nat} : fitV (s.wlaw (s.law.wm stk kn)) g pl se n z t c b = fitV s g pl se n z t c b := by
  unfold fitV
  rw [setG_m]
theorem folA_m {n z vb m b : Nat} {A : TA} : folA (s.wlaw (s.law.wm stk kn)) n z vb m b A = folA s n z vb m b A := rfl
theorem vdA_m {n z : Nat} {v : TVoy} {A : TA} : ∀ i, vdA (s.wlaw (s.law.wm stk kn)) n z v A i = vdA s n z v A i
  | 0 => rfl
  | i + 1 => by
    rw [vdA, vdA, vdA_m i]
    rfl
theorem ordA_m {nx : Nat → Nat} {vl : Nat → Nat → Nat} {n q z sd : Nat} {A : TA} : ordA nx vl (s.wlaw (s.law.wm stk kn)) n q z A sd = ordA nx vl s n q z A sd := rfl
theorem saiA_m {nx : Nat → Nat} {vl : Nat → Nat → Nat} {n q z sd : Nat} {A : TA} : ∀ j, saiA nx vl (s.wlaw (s.law.wm stk kn)) n q z A sd j = saiA nx vl s n q z A sd j
  | 0 => rfl
  | j + 1 => by
    rw [saiA, saiA, saiA_m j]
    rfl
theorem rkS_m {g : Fn} {n z t w he : Nat} : rkS (s.wlaw (s.law.wm stk kn)) g n z t w he = rkS s g n z t w he := by
  funext row
  unfold rkS
  rw [runG_m]
theorem staD_m {A : TA} {n p z w he : Nat} : staD (s.wlaw (s.law.wm stk kn)) A n p z w he = staD s A n p z w he := by
  unfold staD
  rw [rkS_m]
theorem MS.memo {n p z : Nat} {a_ship a_kind a_green a_hands a_spray a_holds a_sea a_from a_to a_codes : Fn} {a_man a_post : Fl} (h : MS s n p z a_ship a_kind a_green a_hands a_spray a_holds a_sea a_from a_to a_codes a_man a_post) : MS (s.wlaw (s.law.wm stk kn)) n p z a_ship a_kind a_green a_hands a_spray a_holds a_sea a_from a_to a_codes a_man a_post :=
  ⟨h.men, h.posts, h.shade, h.lemon, h.harbour, h.seas, h.kind, h.green, h.hands, h.man, h.spray, h.holds, h.post, h.law⟩
end XME
