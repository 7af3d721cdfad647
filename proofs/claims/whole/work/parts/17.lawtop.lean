/-- the premises, one by one -/
def xFL : List Jvm.Cond := flatC (Jvm.Cond.and given_1 narrow_1)
def xtm (i : Nat) : Jvm.Term := match xnth xstrs i with
  | some q => .string q.1 q.2.1
  | none => .string "" 0
def xat (ps : List Nat) (i : Nat) (u : Jvm.Cond) : Bool := match xnth ps i with
  | some j => decide (xFL[j]? = some u)
  | none => false
theorem xat_in {ps : List Nat} {i : Nat} {u : Jvm.Cond} {args : Array Value} {s : State} (hgv : (Jvm.Cond.and given_1 narrow_1).before args s = true) (h : xat ps i u = true) : u.before args s = true := by
  unfold xat at h
  split at h
  · exact flat_of_before _ hgv u (List.mem_of_getElem? (of_decide_eq_true h))
  · cases h
def xlens : List Nat := xbyts.map List.length
theorem xst1 : (List.range 14).all (fun i => xat [54, 66, 110, 243, 269, 282, 296, 311, 327, 358, 374, 394, 441, 469] i (.exactly (xtm i) "java/lang/String")) = true := by decide +kernel
theorem xst2_ : (List.range 14).all (fun i => xat [55, 67, 111, 244, 270, 283, 297, 312, 328, 359, 375, 395, 442, 470] i (.eq (.field (xtm i) "java/lang/String" "coder" "B") (.int 0))) = true := by decide +kernel
theorem xst3 : (List.range 14).all (fun i => xat [56, 68, 112, 245, 271, 284, 298, 313, 329, 360, 376, 396, 443, 471] i (.arrayOf (.field (xtm i) "java/lang/String" "value" "[B") .byte)) = true := by decide +kernel
theorem xst4 : (List.range 14).all (fun i => xat [57, 69, 113, 246, 272, 285, 299, 314, 330, 361, 377, 397, 444, 472] i (.eq (.length (.field (xtm i) "java/lang/String" "value" "[B")) (.int (Int32.ofNat (xlens.getD i 0))))) = true := by decide +kernel
def xpel : List (List Nat) := [[58, 59, 60, 61, 62, 63, 64, 65], [70, 71, 72, 73, 74, 75, 76, 77, 78, 79, 80, 81, 82, 83, 84, 85, 86, 87, 88, 89, 90, 91, 92, 93, 94, 95, 96, 97, 98, 99, 100, 101, 102, 103, 104, 105, 106, 107, 108], [114, 115, 116, 117, 118, 119, 120, 121, 122, 123, 124, 125, 126, 127, 128, 129, 130, 131, 132, 133, 134, 135, 136, 137, 138, 139, 140, 141, 142, 143, 144, 145, 146, 147, 148, 149, 150, 151, 152, 153, 154, 155, 156, 157, 158, 159, 160, 161, 162, 163, 164, 165, 166, 167, 168, 169, 170, 171, 172, 173, 174, 175, 176, 177, 178, 179, 180, 181, 182, 183, 184, 185, 186, 187, 188, 189, 190, 191, 192, 193, 194, 195, 196, 197, 198, 199, 200, 201, 202, 203, 204, 205, 206, 207, 208, 209, 210, 211, 212, 213, 214, 215, 216, 217, 218, 219, 220, 221, 222, 223, 224, 225, 226, 227, 228, 229, 230, 231, 232, 233, 234, 235, 236, 237, 238, 239, 240], [247, 248, 249, 250, 251, 252, 253, 254, 255, 256, 257, 258, 259, 260, 261, 262, 263, 264, 265], [273, 274, 275, 276, 277], [286, 287, 288, 289, 290], [300, 301, 302, 303, 304], [315, 316, 317, 318, 319], [331, 332, 333, 334, 335, 336, 337, 338, 339, 340, 341, 342, 343, 344, 345, 346, 347, 348, 349], [362, 363, 364], [378, 379, 380, 381, 382, 383], [398, 399, 400, 401, 402, 403, 404, 405, 406, 407, 408, 409, 410, 411, 412, 413, 414, 415, 416, 417, 418, 419, 420, 421, 422, 423, 424, 425, 426, 427, 428, 429], [445, 446, 447, 448, 449, 450, 451, 452, 453, 454, 455, 456], [473, 474, 475, 476, 477, 478, 479, 480, 481, 482, 483, 484]]
theorem xst5 : (List.range 14).all (fun i => (List.range (xlens.getD i 0)).all (fun j => xat (xpel.getD i []) j (.eq (.elem (.field (xtm i) "java/lang/String" "value" "[B") (.int (Int32.ofNat j))) (.int ((xbyts.getD i []).getD j 0))))) = true := by decide +kernel
def xpne : List (List Nat) := [[0, 109, 241, 266, 278, 291, 305, 320, 350, 365, 384, 430, 457, 485], [109, 0, 242, 267, 279, 292, 306, 321, 351, 366, 385, 431, 458, 486], [241, 242, 0, 268, 280, 293, 307, 322, 352, 367, 386, 432, 459, 487], [266, 267, 268, 0, 281, 294, 308, 323, 353, 368, 387, 433, 460, 488], [278, 279, 280, 281, 0, 295, 309, 324, 354, 369, 388, 434, 461, 489], [291, 292, 293, 294, 295, 0, 310, 325, 355, 370, 389, 435, 462, 490], [305, 306, 307, 308, 309, 310, 0, 326, 356, 371, 390, 436, 463, 491], [320, 321, 322, 323, 324, 325, 326, 0, 357, 372, 391, 437, 464, 492], [350, 351, 352, 353, 354, 355, 356, 357, 0, 373, 392, 438, 465, 493], [365, 366, 367, 368, 369, 370, 371, 372, 373, 0, 393, 439, 466, 494], [384, 385, 386, 387, 388, 389, 390, 391, 392, 393, 0, 440, 467, 495], [430, 431, 432, 433, 434, 435, 436, 437, 438, 439, 440, 0, 468, 496], [457, 458, 459, 460, 461, 462, 463, 464, 465, 466, 467, 468, 0, 497], [485, 486, 487, 488, 489, 490, 491, 492, 493, 494, 495, 496, 497, 0]]
theorem xst6 : (List.range 14).all (fun i => (List.range 14).all (fun j => decide (i = j) || xat (xpne.getD i []) j (.not (.eq (xtm i) (xtm j))) || xat (xpne.getD i []) j (.not (.eq (xtm j) (xtm i))))) = true := by decide +kernel
theorem xst7 : xat [4] 0 (.eq (.static "java/lang/String" "COMPACT_STRINGS" "Z") (.int 1)) = true := by decide +kernel
theorem xst7b : xat [5] 0 (.isRef (.static "jdk/internal/util/Preconditions" "SIOOBE_FORMATTER" "Ljava/util/function/BiFunction;")) = true := by decide +kernel
theorem xst8 : xat [9] 0 (.isRef (.static Bundle.tN "UNASSIGNED_STACK" "[Ljava/lang/StackTraceElement;")) = true := by decide +kernel
theorem xst9 : xat [10] 0 (.isRef (.static Bundle.tN "SUPPRESSED_SENTINEL" "Ljava/util/List;")) = true := by decide +kernel
theorem xlen14 : xbyts.length = 14 := by decide
def xfo (b : Nat) (adK adV : Nat → Nat) (r : Nat) : Nat := if r = xSCR then b else if r < xBYT then adK (r - xSTR) else adV (r - xBYT)
theorem xfo_K (b : Nat) (adK adV : Nat → Nat) {i : Nat} (h : i < 14) : xfo b adK adV (xSTR + i) = adK i := by
  have e1 : xSTR = 1000001 := rfl
  have e2 : xBYT = 1000101 := rfl
  have e3 : xSCR = 1000000 := rfl
  unfold xfo
  rw [if_neg (by omega), if_pos (by omega), Nat.add_sub_cancel_left]
theorem xfo_V (b : Nat) (adK adV : Nat → Nat) (i : Nat) : xfo b adK adV (xBYT + i) = adV i := by
  have e1 : xSTR = 1000001 := rfl
  have e2 : xBYT = 1000101 := rfl
  have e3 : xSCR = 1000000 := rfl
  unfold xfo
  rw [if_neg (by omega), if_neg (by omega), Nat.add_sub_cancel_left]
/-- the class of arrays of a type -/
theorem xkaP {ty : FieldType} {s : State} {args : Array Value} (h : (Jvm.Cond.arrayClass ty).before args s = true) (hn : ∀ C, ty ≠ .object C) : ∃ cA, ArrOfT s cA ty ∧ va_RA s cA ty := by
  obtain ⟨cA, kA, comp, h1, h2, h3⟩ := Cond.arrayClass_spec (args := args) (first := s) (o := none) (s := s) (idx := []) h
  refine ⟨cA, fun n z => ⟨fun k h => (by cases h), kA, h2, comp, h3⟩, ?_⟩
  cases ty with
  | object C => exact absurd rfl (hn C)
  | _ => exact h1
theorem xkaR {C : String} {s : State} {args : Array Value} (h : (Jvm.Cond.arrayOver (.object C)).before args s = true) : ∃ cA, ArrOfT s cA (.object C) ∧ va_RA s cA (.object C) := by
  obtain ⟨comp, cA, kA, h1, -, h2, h3, h4⟩ := Cond.arrayOver_spec (args := args) (first := s) (o := none) (s := s) (idx := []) h
  exact ⟨cA, fun n z => ⟨fun k h => (by cases h), kA, h2, comp, h3⟩, kA, comp, h2, h3, h1, h4⟩
set_option maxRecDepth 50000 in
theorem xkcl {s : State} {args : Array Value} (hts : ∀ w ∈ lw_tbl, w.before args s = true) : ∃ (D : va_G), ∀ (k : Nat) (q : vw_C), xcl[k]? = some q → u_Kn s q.1 q.2.1 q.2.2 (D.1 k) (D.2 k) := by
  have hw : ∀ {j : Nat} {u : Jvm.Cond}, lw_tbl[j]? = some u → u.before args s = true := fun h => hts _ (List.mem_of_getElem? h)
  have sub : ∀ {us : List Jvm.Cond}, (∀ u ∈ us, u ∈ xTB) → ∀ u ∈ us, u ∈ lw_tbl := fun h u hu => (List.mem_filter.mp (h u hu)).1
  obtain ⟨c0, i0, k0⟩ := u_known (C := RX0) (T := TX0) (N := 6) (n := 6) hts (sub xci0) (hw (j := 374) rfl)
  obtain ⟨c1, i1, k1⟩ := u_known (C := RX1) (T := TX1) (N := 4) (n := 4) hts (sub xci1) (hw (j := 428) rfl)
  obtain ⟨c2, i2, k2⟩ := u_known (C := RX2) (T := TX2) (N := 4) (n := 4) hts (sub xci2) (hw (j := 428) rfl)
  obtain ⟨c3, i3, k3⟩ := u_known (C := RX3) (T := TX3) (N := 5) (n := 5) hts (sub xci3) (hw (j := 177) rfl)
  obtain ⟨c4, i4, k4⟩ := u_known (C := RX4) (T := TX4) (N := 4) (n := 4) hts (sub xci4) (hw (j := 343) rfl)
  obtain ⟨c5, i5, k5⟩ := u_known (C := RX5) (T := TX5) (N := 5) (n := 5) hts (sub xci5) (hw (j := 351) rfl)
  obtain ⟨c6, i6, k6⟩ := u_known (C := RX6) (T := TX6) (N := 15) (n := 15) hts (sub xci6) (hw (j := 171) rfl)
  obtain ⟨c7, i7, k7⟩ := u_known (C := RX7) (T := TX7) (N := 4) (n := 4) hts (sub xci7) (hw (j := 307) rfl)
  obtain ⟨c8, i8, k8⟩ := u_known (C := RX8) (T := TX8) (N := 10) (n := 10) hts (sub xci8) (hw (j := 447) rfl)
  obtain ⟨c9, i9, k9⟩ := u_known (C := RX9) (T := TX9) (N := 4) (n := 4) hts (sub xci9) (hw (j := 487) rfl)
  obtain ⟨c10, i10, k10⟩ := u_known (C := RX10) (T := TX10) (N := 9) (n := 9) hts (sub xci10) (hw (j := 128) rfl)
  obtain ⟨c11, i11, k11⟩ := u_known (C := RX11) (T := TX11) (N := 2) (n := 2) hts (sub xci11) (hw (j := 329) rfl)
  obtain ⟨c12, i12, k12⟩ := u_known (C := RX12) (T := TX12) (N := 13) (n := 13) hts (sub xci12) (hw (j := 120) rfl)
  obtain ⟨c13, i13, k13⟩ := u_known (C := RX13) (T := TX13) (N := 62) (n := 62) hts (sub xci13) (hw (j := 1366) rfl)
  obtain ⟨c14, i14, k14⟩ := u_known (C := xEN) (T := xET) (N := 0) (n := 6) hts (fun u h => by simp [u_ws] at h) (hw (j := 1294) rfl)
  refine ⟨(fun k => match k with
    | 0 => c0
    | 1 => c1
    | 2 => c2
    | 3 => c3
    | 4 => c4
    | 5 => c5
    | 6 => c6
    | 7 => c7
    | 8 => c8
    | 9 => c9
    | 10 => c10
    | 11 => c11
    | 12 => c12
    | 13 => c13
    | _ => c14, fun k => match k with
    | 0 => i0
    | 1 => i1
    | 2 => i2
    | 3 => i3
    | 4 => i4
    | 5 => i5
    | 6 => i6
    | 7 => i7
    | 8 => i8
    | 9 => i9
    | 10 => i10
    | 11 => i11
    | 12 => i12
    | 13 => i13
    | _ => i14), fun k q h => ?_⟩
  match k, h with
  | 0, h => cases h; exact k0
  | 1, h => cases h; exact k1
  | 2, h => cases h; exact k2
  | 3, h => cases h; exact k3
  | 4, h => cases h; exact k4
  | 5, h => cases h; exact k5
  | 6, h => cases h; exact k6
  | 7, h => cases h; exact k7
  | 8, h => cases h; exact k8
  | 9, h => cases h; exact k9
  | 10, h => cases h; exact k10
  | 11, h => cases h; exact k11
  | 12, h => cases h; exact k12
  | 13, h => cases h; exact k13
  | 14, h => cases h; exact k14
  | n + 15, h => simp [xcl] at h
set_option maxHeartbeats 1000000 in
set_option maxRecDepth 50000 in
theorem xenv {p : Program} {s : State} {m : MethodId} {meth : Method} {c : Code} {b L : Nat} {xs : Nat → Int32} (C0 : lw_At p s m meth c b L xs) : ∃ (D : va_G) (ka : FieldType → ClassId) (fo : Nat → Nat) (xs' : Nat → Int32), XEv D ka s.heap.size fo (L, xs', xbyts, xtys) xstrs xnests s s.heap ∧ fo xSCR = b := by
  obtain ⟨hx, hb, hr, hml, hown, hts, hX, hbl, hlocks, hgv⟩ := C0
  have hw : ∀ {j : Nat} {u : Jvm.Cond}, lw_tbl[j]? = some u → u.before #[Value.ref b] s = true := fun h => hts _ (List.mem_of_getElem? h)
  obtain ⟨D, hD⟩ := xkcl hts
  obtain ⟨aI, hI⟩ := xkaP (ty := .int) (hw (j := 202) rfl) (fun _ h => by cases h)
  obtain ⟨aJ, hJ⟩ := xkaP (ty := .long) (hw (j := 203) rfl) (fun _ h => by cases h)
  obtain ⟨aB, hB⟩ := xkaP (ty := .byte) (hw (j := 169) rfl) (fun _ h => by cases h)
  obtain ⟨aZ, hZ⟩ := xkaP (ty := .boolean) (hw (j := 1562) rfl) (fun _ h => by cases h)
  have hoC : (Jvm.Cond.arrayOver (.object "GreenButtons$Crew")).before #[Value.ref b] s = true := hw (j := 505) rfl
  have hoL : (Jvm.Cond.arrayOver (.object "GreenButtons$Log")).before #[Value.ref b] s = true := hw (j := 506) rfl
  obtain ⟨aC, hC⟩ := xkaR hoC
  obtain ⟨aL, hL⟩ := xkaR hoL
  obtain ⟨ka, e1, e2, e3, e4, e5, e6⟩ : ∃ ka : FieldType → ClassId, ka .int = aI ∧ ka .long = aJ ∧ ka .byte = aB ∧ ka .boolean = aZ ∧ ka (.object "GreenButtons$Crew") = aC ∧ ka (.object "GreenButtons$Log") = aL :=
    ⟨fun ty => if ty = .int then aI else if ty = .long then aJ else if ty = .byte then aB else if ty = .boolean then aZ else if ty = .object "GreenButtons$Crew" then aC else aL, by simp, by simp, by simp, by simp, by simp, by simp⟩
  have hA : ∀ a : Nat, a < s.heap.size → ¬ (fun q => s.heap.size ≤ q) a := fun a h => Nat.not_le.mpr h
  have rg : ∀ {n : Nat} {f : Nat → Bool}, (List.range n).all f = true → ∀ i, i < n → f i = true := fun h i hi => List.all_eq_true.mp h i (List.mem_range.mpr hi)
  obtain ⟨adK0, adV, hS, hE⟩ := vk_Sof (args := #[Value.ref b]) (s := s) (N := 14) (tm := xtm) (len := xlens) (byt := xbyts) (A := fun q => s.heap.size ≤ q) (fun i hi => by
      have : ∀ i, i < 14 → xlens.getD i 0 < 2 ^ 31 := by decide
      exact this i hi) (fun i hi => xat_in hgv (rg xst1 i hi)) (fun i hi => xat_in hgv (rg xst2_ i hi)) (fun i hi => xat_in hgv (rg xst3 i hi)) (fun i hi => xat_in hgv (rg xst4 i hi)) (fun i hi j hj => xat_in hgv (rg (rg xst5 i hi) j hj)) (fun i j hi hj hij => by
      have := rg (rg xst6 i hi) j hj
      simp only [Bool.or_eq_true, decide_eq_true_eq] at this
      rcases this with (h | h) | h
      · exact absurd h hij
      · exact Or.inl (xat_in hgv h)
      · exact Or.inr (xat_in hgv h)) hA
  obtain ⟨t, fl, hZs⟩ : ∃ (t : Nat) (fl : Int32), va_Z "jdk/internal/util/Preconditions" "SIOOBE_FORMATTER" "Ljava/util/function/BiFunction;" (if fl = 0 then .null else .ref t) (fun q => s.heap.size ≤ q) s s.heap := by
    rcases va_Zqof (hw (j := 639) rfl) (hw (j := 111) rfl) (xat_in hgv xst7b) hA with h | ⟨t, h⟩
    · exact ⟨0, 0, h⟩
    · exact ⟨t, 1, h⟩
  obtain ⟨adK, ea, et⟩ : ∃ adK : Nat → Nat, (∀ i, i < 14 → adK i = adK0 i) ∧ adK 98 = t := ⟨fun i => if i = 98 then t else adK0 i, fun i hi => if_neg (by omega), if_pos rfl⟩
  have hX : va_X b L (fun k => if k = L then fl else xs k) s s.heap := by
    obtain ⟨scr, k1, k2, k3, k4, k5⟩ := hX
    exact ⟨scr, k1, k2, k3, k4, fun j hj => by show scr.slots[j]? = some (Value.int (if j = L then fl else xs j)); rw [if_neg (by omega)]; exact k5 j hj⟩
  refine ⟨D, ka, xfo b adK adV, fun k => if k = L then fl else xs k, ⟨⟨hD, ?_⟩, ⟨hX, Nat.not_le.mpr hbl⟩, ?_, ?_, ?_, ?_, va_AO.of hoC, va_AO.of hoL, ?_, ?_⟩, rfl⟩
  · intro k q h
    match k, h with
    | 0, h => cases h; rw [e1]; exact hI
    | 1, h => cases h; rw [e2]; exact hJ
    | 2, h => cases h; rw [e3]; exact hB
    | 3, h => cases h; rw [e4]; exact hZ
    | 4, h => cases h; rw [e5]; exact hC
    | 5, h => cases h; rw [e6]; exact hL
    | n + 6, h => simp [xkt] at h
  · show vk_S xbyts.length xlens xbyts (fun i => xfo b adK adV (xSTR + i)) (fun i => xfo b adK adV (xBYT + i)) (fun q => s.heap.size ≤ q) s s.heap
    rw [xlen14]
    refine ⟨fun i hi => ?_, fun i j hi hj h => ?_⟩
    · have := hS.1 i hi
      simp only [xfo_K b adK adV hi, xfo_V b adK adV i, ea i hi]
      exact this
    · simp only [xfo_K b adK adV hi, xfo_K b adK adV hj, ea i hi, ea j hj] at h
      exact hS.2 i j hi hj h
  · intro i q hq
    have hi : i < 14 := xnth_lt (l := xstrs) hq
    rw [xfo_K b adK adV hi, ea i hi]
    have h1 := hE i hi
    match i, hq with
    | 0, hq => cases hq; exact vk_R.of (A := #[Value.ref b]) (hw (j := 582) rfl) h1
    | 1, hq => cases hq; exact vk_R.of (A := #[Value.ref b]) (hw (j := 677) rfl) h1
    | 2, hq => cases hq; exact vk_R.of (A := #[Value.ref b]) (hw (j := 720) rfl) h1
    | 3, hq => cases hq; exact vk_R.of (A := #[Value.ref b]) (hw (j := 730) rfl) h1
    | 4, hq => cases hq; exact vk_R.of (A := #[Value.ref b]) (hw (j := 731) rfl) h1
    | 5, hq => cases hq; exact vk_R.of (A := #[Value.ref b]) (hw (j := 744) rfl) h1
    | 6, hq => cases hq; exact vk_R.of (A := #[Value.ref b]) (hw (j := 757) rfl) h1
    | 7, hq => cases hq; exact vk_R.of (A := #[Value.ref b]) (hw (j := 758) rfl) h1
    | 8, hq => cases hq; exact vk_R.of (A := #[Value.ref b]) (hw (j := 808) rfl) h1
    | 9, hq => cases hq; exact vk_R.of (A := #[Value.ref b]) (hw (j := 810) rfl) h1
    | 10, hq => cases hq; exact vk_R.of (A := #[Value.ref b]) (hw (j := 816) rfl) h1
    | 11, hq => cases hq; exact vk_R.of (A := #[Value.ref b]) (hw (j := 853) rfl) h1
    | 12, hq => cases hq; exact vk_R.of (A := #[Value.ref b]) (hw (j := 1332) rfl) h1
    | 13, hq => cases hq; exact vk_R.of (A := #[Value.ref b]) (hw (j := 1364) rfl) h1
    | n + 14, hq => exact absurd hi (by omega)
  · refine ⟨va_Zof (hw (j := 596) rfl) (hw (j := 107) rfl) (va_eqt (xat_in hgv xst7)) hA, ?_⟩
    have e9 : xv (xphi s.heap.size (xfo b adK adV)) (xsio (L, (fun k => if k = L then fl else xs k), xbyts, xtys)) = if fl = 0 then .null else .ref t := by
      simp only [xsio, if_true]
      split
      · rfl
      · show Value.ref (xphi s.heap.size (xfo b adK adV) xSIO) = _
        rw [xphi_fo (r := xSIO) (by decide), ← et]
        rfl
    rw [e9]
    exact hZs
  · intro w hw9
    simp only [xnests, List.mem_cons, List.not_mem_nil, or_false] at hw9
    rcases hw9 with rfl | rfl | rfl | rfl | rfl | rfl
    · exact ⟨_, _, _, _, rfl, va_Nw.of rfl (hw (j := 129) rfl)⟩
    · exact ⟨_, _, _, _, rfl, va_Nw.of rfl (hw (j := 330) rfl)⟩
    · exact ⟨_, _, _, _, rfl, va_Nw.of rfl (hw (j := 349) rfl)⟩
    · exact ⟨_, _, _, _, rfl, va_Nw.of rfl (hw (j := 352) rfl)⟩
    · exact ⟨_, _, _, _, rfl, va_Nw.of rfl (hw (j := 741) rfl)⟩
    · exact ⟨_, _, _, _, rfl, va_Nw.of rfl (hw (j := 771) rfl)⟩
  · exact vx_Zqof (hw (j := 1320) rfl) (hw (j := 115) rfl) (xat_in hgv xst8) hA
  · exact vx_Zqof (hw (j := 1322) rfl) (hw (j := 115) rfl) (xat_in hgv xst9) hA
