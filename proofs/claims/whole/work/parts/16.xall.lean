def xall3 (ss : XSt) (nw : List Jvm.Cond) (sg : XSg) : XSg → List XI → List XM → Prop
  | g :: gs, q :: qs, m :: ms => (q.1 = g ∧ XOk ss nw sg q m ∧ Jvm.Cond.code g.1 q.2.1 m.1 m.2.1 ∈ xTB ∧ (g.1.name = "<init>" → m.2.1 = none)) ∧ xall3 ss nw sg gs qs ms
  | [], [], [] => True
  | _, _, _ => False
theorem xall3_at {ss : XSt} {nw : List Jvm.Cond} {sg : XSg} : ∀ {gs : XSg} {qs : List XI} {ms : List XM} {y : Nat} {g : MethodName × Nat}, xall3 ss nw sg gs qs ms → xnth gs y = some g → ∃ (q : XI) (mm : XM), xnth qs y = some q ∧ xnth ms y = some mm ∧ q.1 = g ∧ XOk ss nw sg q mm ∧ Jvm.Cond.code g.1 q.2.1 mm.1 mm.2.1 ∈ xTB ∧ (g.1.name = "<init>" → mm.2.1 = none)
  | [], qs, ms, y, g, _, h => by simp [xnth] at h
  | a :: gs, [], ms, y, g, h0, h => by cases ms <;> exact (show False from h0).elim
  | a :: gs, b :: qs, [], y, g, h0, h => (show False from h0).elim
  | a :: gs, b :: qs, c :: ms, 0, g, h0, h => by
    simp only [xnth, Option.some.injEq] at h
    subst h
    exact ⟨b, c, rfl, rfl, h0.1⟩
  | a :: gs, b :: qs, c :: ms, y + 1, g, h0, h => xall3_at (y := y) h0.2 h
theorem xmemT {j : Nat} {u : Jvm.Cond} (h : lw_tbl[j]? = some u) (hg : goodWord u = true) : u ∈ xTB := List.mem_filter.mpr ⟨List.mem_of_getElem? h, hg⟩
theorem xlt (a b : List Jvm.Cond) (n j : Nat) (u : Jvm.Cond) (hn : a.length = n) (h : b[j]? = some u) : (a ++ b)[n + j]? = some u := by
  rw [List.getElem?_append_right (by omega), hn, Nat.add_sub_cancel_left]
  exact h
set_option maxRecDepth 50000 in
theorem xm0 : Jvm.Cond.code ⟨"GreenButtons", "<init>", "()V"⟩ prog_1_method_1_code 2 (none : Option FieldType) ∈ xTB := xmemT (j := 123) rfl rfl
set_option maxRecDepth 50000 in
theorem xm1 : Jvm.Cond.code ⟨"GreenButtons$Tokens", "<init>", "()V"⟩ prog_11_method_1_code 1 (none : Option FieldType) ∈ xTB := xmemT (j := 131) rfl rfl
set_option maxRecDepth 50000 in
theorem xm2 : Jvm.Cond.code ⟨"GreenButtons$Ship", "<init>", "()V"⟩ prog_7_method_1_code 1 (none : Option FieldType) ∈ xTB := xmemT (j := 174) rfl rfl
set_option maxRecDepth 50000 in
theorem xm3 : Jvm.Cond.code ⟨"GreenButtons$Law", "<init>", "()V"⟩ prog_4_method_1_code 1 (none : Option FieldType) ∈ xTB := xmemT (j := 180) rfl rfl
set_option maxRecDepth 50000 in
theorem xm4 : Jvm.Cond.code ⟨"java/util/Arrays", "fill", "([II)V"⟩ prog_30_method_103_code 4 (none : Option FieldType) ∈ xTB := xmemT (j := 184) rfl rfl
set_option maxRecDepth 50000 in
theorem xm5 : Jvm.Cond.code ⟨"GreenButtons$Ship", "clear", "()V"⟩ prog_7_method_2_code 1 (none : Option FieldType) ∈ xTB := xmemT (j := 207) rfl rfl
set_option maxRecDepth 50000 in
theorem xm6 : Jvm.Cond.code ⟨"GreenButtons$Law", "beUsual", "()V"⟩ prog_4_method_2_code 1 (none : Option FieldType) ∈ xTB := xmemT (j := 211) rfl rfl
set_option maxRecDepth 50000 in
theorem xm7 : Jvm.Cond.code ⟨"GreenButtons$Law", "clear", "()V"⟩ prog_4_method_5_code 1 (none : Option FieldType) ∈ xTB := xmemT (j := 215) rfl rfl
set_option maxRecDepth 50000 in
theorem xm8 : Jvm.Cond.code ⟨"GreenButtons$Law", "addStep", "(II)V"⟩ prog_4_method_6_code 3 (none : Option FieldType) ∈ xTB := xmemT (j := 219) rfl rfl
set_option maxRecDepth 50000 in
theorem xm9 : Jvm.Cond.code ⟨"GreenButtons$ShipReader", "<init>", "(LGreenButtons$Tokens;)V"⟩ prog_8_method_1_code 2 (none : Option FieldType) ∈ xTB := xmemT (j := 310) rfl rfl
set_option maxRecDepth 50000 in
theorem xm10 : Jvm.Cond.code ⟨"GreenButtons$Voyage", "<init>", "()V"⟩ prog_12_method_1_code 1 (none : Option FieldType) ∈ xTB := xmemT (j := 332) rfl rfl
set_option maxRecDepth 50000 in
theorem xm11 : Jvm.Cond.code ⟨"GreenButtons$Log", "<init>", "(LGreenButtons$Ship;)V"⟩ prog_5_method_1_code 2 (none : Option FieldType) ∈ xTB := xmemT (j := 346) rfl rfl
set_option maxRecDepth 50000 in
theorem xm12 : Jvm.Cond.code ⟨"GreenButtons$Seen", "<init>", "()V"⟩ prog_6_method_1_code 1 (none : Option FieldType) ∈ xTB := xmemT (j := 354) rfl rfl
set_option maxRecDepth 50000 in
theorem xm13 : Jvm.Cond.code ⟨"GreenButtons$Crew", "<init>", "(LGreenButtons$Ship;)V"⟩ prog_2_method_1_code 2 (none : Option FieldType) ∈ xTB := xmemT (j := 377) rfl rfl
set_option maxRecDepth 50000 in
theorem xm14 : Jvm.Cond.code ⟨"GreenButtons$Forecast", "<init>", "(LGreenButtons$Ship;LGreenButtons$Crew;LGreenButtons$Crew;)V"⟩ prog_3_method_1_code 4 (none : Option FieldType) ∈ xTB := xmemT (j := 431) rfl rfl
set_option maxRecDepth 50000 in
theorem xm15 : Jvm.Cond.code ⟨"GreenButtons$Stations", "<init>", "(LGreenButtons$Ship;LGreenButtons$Crew;LGreenButtons$Crew;)V"⟩ prog_9_method_1_code 4 (none : Option FieldType) ∈ xTB := xmemT (j := 450) rfl rfl
set_option maxRecDepth 50000 in
theorem xm16 : Jvm.Cond.code ⟨"GreenButtons$Suspects", "<init>", "(LGreenButtons$Ship;LGreenButtons$Log;LGreenButtons$Crew;)V"⟩ prog_10_method_1_code 4 (none : Option FieldType) ∈ xTB := xmemT (j := 490) rfl rfl
set_option maxRecDepth 50000 in
theorem xm17 : Jvm.Cond.code ⟨"GreenButtons$Forecast", "<init>", "(LGreenButtons$Ship;LGreenButtons$Crew;LGreenButtons$Crew;)V"⟩ prog_3_method_1_code 4 (none : Option FieldType) ∈ xTB := xmemT (j := 431) rfl rfl
set_option maxRecDepth 50000 in
theorem xm18 : Jvm.Cond.code ⟨"GreenButtons", "feed", "(JJJ)I"⟩ prog_1_method_2_code 7 (some FieldType.int) ∈ xTB := xmemT (j := 550) rfl rfl
set_option maxRecDepth 50000 in
theorem xm19 : Jvm.Cond.code ⟨"GreenButtons$Tokens", "addSigns", "(J)V"⟩ prog_11_method_2_code 6 (none : Option FieldType) ∈ xTB := xmemT (j := 554) rfl rfl
set_option maxRecDepth 50000 in
theorem xm20 : Jvm.Cond.code ⟨"GreenButtons", "ship", "()I"⟩ prog_1_method_3_code 2 (some FieldType.int) ∈ xTB := xmemT (j := 558) rfl rfl
set_option maxRecDepth 50000 in
theorem xm21 : Jvm.Cond.code ⟨"GreenButtons$ShipReader", "read", "()I"⟩ prog_8_method_2_code 3 (some FieldType.int) ∈ xTB := xmemT (j := 562) rfl rfl
set_option maxRecDepth 50000 in
theorem xm22 : Jvm.Cond.code ⟨"GreenButtons$Tokens", "begin", "()V"⟩ prog_11_method_3_code 1 (none : Option FieldType) ∈ xTB := xmemT (j := 567) rfl rfl
set_option maxRecDepth 50000 in
theorem xm23 : Jvm.Cond.code ⟨"GreenButtons$Tokens", "advance", "()V"⟩ prog_11_method_4_code 1 (none : Option FieldType) ∈ xTB := xmemT (j := 571) rfl rfl
set_option maxRecDepth 50000 in
theorem xm24 : Jvm.Cond.code ⟨"GreenButtons$Tokens", "readWord", "()V"⟩ prog_11_method_5_code 1 (none : Option FieldType) ∈ xTB := xmemT (j := 575) rfl rfl
set_option maxRecDepth 50000 in
theorem xm25 : Jvm.Cond.code ⟨"GreenButtons$Tokens", "readNumber", "()V"⟩ prog_11_method_6_code 1 (none : Option FieldType) ∈ xTB := xmemT (j := 581) rfl rfl
set_option maxRecDepth 50000 in
theorem xm26 : Jvm.Cond.code ⟨"java/lang/String", "indexOf", "(I)I"⟩ prog_23_method_79_code 2 (some FieldType.int) ∈ xTB := xmemT (j := 586) rfl rfl
set_option maxRecDepth 50000 in
theorem xm27 : Jvm.Cond.code ⟨"java/lang/String", "indexOf", "(II)I"⟩ prog_23_method_80_code 3 (some FieldType.int) ∈ xTB := xmemT (j := 590) rfl rfl
set_option maxRecDepth 50000 in
theorem xm28 : Jvm.Cond.code ⟨"java/lang/String", "isLatin1", "()Z"⟩ prog_23_method_154_code 1 (some FieldType.boolean) ∈ xTB := xmemT (j := 594) rfl rfl
set_option maxRecDepth 50000 in
theorem xm29 : Jvm.Cond.code ⟨"java/lang/String", "length", "()I"⟩ prog_23_method_54_code 1 (some FieldType.int) ∈ xTB := xmemT (j := 600) rfl rfl
set_option maxRecDepth 50000 in
theorem xm30 : Jvm.Cond.code ⟨"java/lang/String", "coder", "()B"⟩ prog_23_method_152_code 1 (some FieldType.byte) ∈ xTB := xmemT (j := 604) rfl rfl
set_option maxRecDepth 50000 in
theorem xm31 : Jvm.Cond.code ⟨"java/lang/StringLatin1", "indexOf", "([BIII)I"⟩ prog_24_method_22_code 4 (some FieldType.int) ∈ xTB := xmemT (j := 607) rfl rfl
set_option maxRecDepth 50000 in
theorem xm32 : Jvm.Cond.code ⟨"java/lang/StringLatin1", "canEncode", "(I)Z"⟩ prog_24_method_4_code 1 (some FieldType.boolean) ∈ xTB := xmemT (j := 610) rfl rfl
set_option maxRecDepth 50000 in
theorem xm33 : Jvm.Cond.code ⟨"java/lang/StringLatin1", "indexOfChar", "([BIII)I"⟩ prog_24_method_23_code 6 (some FieldType.int) ∈ xTB := xmemT (j := 619) rfl rfl
set_option maxRecDepth 50000 in
theorem xm34 : Jvm.Cond.code ⟨"java/lang/String", "checkBoundsBeginEnd", "(III)V"⟩ prog_23_method_158_code 3 (none : Option FieldType) ∈ xTB := xmemT (j := 637) rfl rfl
set_option maxRecDepth 50000 in
theorem xm35 : Jvm.Cond.code ⟨"GreenButtons$Tokens", "isEnd", "()Z"⟩ prog_11_method_7_code 1 (some FieldType.boolean) ∈ xTB := xmemT (j := 672) rfl rfl
set_option maxRecDepth 50000 in
theorem xm36 : Jvm.Cond.code ⟨"GreenButtons$ShipReader", "readLine", "()Z"⟩ prog_8_method_3_code 2 (some FieldType.boolean) ∈ xTB := xmemT (j := 676) rfl rfl
set_option maxRecDepth 50000 in
theorem xm37 : Jvm.Cond.code ⟨"GreenButtons$Tokens", "placeIn", "(Ljava/lang/String;)I"⟩ prog_11_method_11_code 6 (some FieldType.int) ∈ xTB := xmemT (j := 681) rfl rfl
set_option maxRecDepth 50000 in
theorem xm38 : Jvm.Cond.code ⟨"java/lang/String", "charAt", "(I)C"⟩ prog_23_method_56_code 2 (some FieldType.char) ∈ xTB := xmemT (j := 686) rfl rfl
set_option maxRecDepth 50000 in
theorem xm39 : Jvm.Cond.code ⟨"java/lang/StringLatin1", "charAt", "([BI)C"⟩ prog_24_method_2_code 2 (some FieldType.char) ∈ xTB := xmemT (j := 689) rfl rfl
set_option maxRecDepth 50000 in
theorem xm40 : Jvm.Cond.code ⟨"java/lang/String", "checkIndex", "(II)V"⟩ prog_23_method_155_code 2 (none : Option FieldType) ∈ xTB := xmemT (j := 692) rfl rfl
set_option maxRecDepth 50000 in
theorem xm41 : Jvm.Cond.code ⟨"GreenButtons$Tokens", "refuse", "(I)Z"⟩ prog_11_method_12_code 2 (some FieldType.boolean) ∈ xTB := xmemT (j := 706) rfl rfl
set_option maxRecDepth 50000 in
theorem xm42 : Jvm.Cond.code ⟨"GreenButtons$ShipReader", "readMan", "()Z"⟩ prog_8_method_4_code 2 (some FieldType.boolean) ∈ xTB := xmemT (j := 710) rfl rfl
set_option maxRecDepth 50000 in
theorem xm43 : Jvm.Cond.code ⟨"GreenButtons$ShipReader", "takeNewName", "()Z"⟩ prog_8_method_6_code 1 (some FieldType.boolean) ∈ xTB := xmemT (j := 715) rfl rfl
set_option maxRecDepth 50000 in
theorem xm44 : Jvm.Cond.code ⟨"GreenButtons$Tokens", "isName", "()Z"⟩ prog_11_method_10_code 1 (some FieldType.boolean) ∈ xTB := xmemT (j := 719) rfl rfl
set_option maxRecDepth 50000 in
theorem xm45 : Jvm.Cond.code ⟨"GreenButtons$Ship", "manCalled", "(J)I"⟩ prog_7_method_7_code 4 (some FieldType.int) ∈ xTB := xmemT (j := 725) rfl rfl
set_option maxRecDepth 50000 in
theorem xm46 : Jvm.Cond.code ⟨"GreenButtons$Ship", "postCalled", "(J)I"⟩ prog_7_method_8_code 4 (some FieldType.int) ∈ xTB := xmemT (j := 729) rfl rfl
set_option maxRecDepth 50000 in
theorem xm47 : Jvm.Cond.code ⟨"GreenButtons$Tokens", "takeWord", "(Ljava/lang/String;)Z"⟩ prog_11_method_14_code 2 (some FieldType.boolean) ∈ xTB := xmemT (j := 735) rfl rfl
set_option maxRecDepth 50000 in
theorem xm48 : Jvm.Cond.code ⟨"GreenButtons$Tokens", "takeNumber", "(II)Z"⟩ prog_11_method_15_code 3 (some FieldType.boolean) ∈ xTB := xmemT (j := 740) rfl rfl
set_option maxRecDepth 50000 in
theorem xm49 : Jvm.Cond.code ⟨"GreenButtons", "isWithin", "(III)Z"⟩ prog_1_method_37_code 3 (some FieldType.boolean) ∈ xTB := xmemT (j := 743) rfl rfl
set_option maxRecDepth 50000 in
theorem xm50 : Jvm.Cond.code ⟨"GreenButtons$Tokens", "takeSign", "(C)Z"⟩ prog_11_method_13_code 2 (some FieldType.boolean) ∈ xTB := xmemT (j := 748) rfl rfl
set_option maxRecDepth 50000 in
theorem xm51 : Jvm.Cond.code ⟨"GreenButtons$Tokens", "isSign", "(C)Z"⟩ prog_11_method_9_code 2 (some FieldType.boolean) ∈ xTB := xmemT (j := 752) rfl rfl
set_option maxRecDepth 50000 in
theorem xm52 : Jvm.Cond.code ⟨"GreenButtons$ShipReader", "readPost", "()Z"⟩ prog_8_method_5_code 2 (some FieldType.boolean) ∈ xTB := xmemT (j := 756) rfl rfl
set_option maxRecDepth 50000 in
theorem xm53 : Jvm.Cond.code ⟨"GreenButtons$ShipReader", "readOnce", "(I)Z"⟩ prog_8_method_7_code 2 (some FieldType.boolean) ∈ xTB := xmemT (j := 762) rfl rfl
set_option maxRecDepth 50000 in
theorem xm54 : Jvm.Cond.code ⟨"GreenButtons$ShipReader", "readSea", "()Z"⟩ prog_8_method_8_code 2 (some FieldType.boolean) ∈ xTB := xmemT (j := 766) rfl rfl
set_option maxRecDepth 50000 in
theorem xm55 : Jvm.Cond.code ⟨"GreenButtons$Tokens", "isNumber", "()Z"⟩ prog_11_method_8_code 1 (some FieldType.boolean) ∈ xTB := xmemT (j := 770) rfl rfl
set_option maxRecDepth 50000 in
theorem xm56 : Jvm.Cond.code ⟨"GreenButtons$ShipReader", "readShade", "()Z"⟩ prog_8_method_9_code 1 (some FieldType.boolean) ∈ xTB := xmemT (j := 775) rfl rfl
set_option maxRecDepth 50000 in
theorem xm57 : Jvm.Cond.code ⟨"GreenButtons$ShipReader", "readLemon", "()Z"⟩ prog_8_method_10_code 1 (some FieldType.boolean) ∈ xTB := xmemT (j := 779) rfl rfl
set_option maxRecDepth 50000 in
theorem xm58 : Jvm.Cond.code ⟨"GreenButtons$ShipReader", "readHarbour", "()Z"⟩ prog_8_method_11_code 1 (some FieldType.boolean) ∈ xTB := xmemT (j := 783) rfl rfl
set_option maxRecDepth 50000 in
theorem xm59 : Jvm.Cond.code ⟨"GreenButtons$Law", "read", "(LGreenButtons$Tokens;)Z"⟩ prog_4_method_4_code 2 (some FieldType.boolean) ∈ xTB := xmemT (j := 787) rfl rfl
set_option maxRecDepth 50000 in
theorem xm60 : Jvm.Cond.code ⟨"GreenButtons$Law", "readAll", "(LGreenButtons$Tokens;I)Z"⟩ prog_4_method_7_code 6 (some FieldType.boolean) ∈ xTB := xmemT (j := 791) rfl rfl
set_option maxRecDepth 50000 in
theorem xm61 : Jvm.Cond.code ⟨"GreenButtons$Law", "readTest", "(LGreenButtons$Tokens;I)Z"⟩ prog_4_method_8_code 5 (some FieldType.boolean) ∈ xTB := xmemT (j := 795) rfl rfl
set_option maxRecDepth 50000 in
theorem xm62 : Jvm.Cond.code ⟨"GreenButtons$Law", "readSum", "(LGreenButtons$Tokens;I)Z"⟩ prog_4_method_9_code 6 (some FieldType.boolean) ∈ xTB := xmemT (j := 799) rfl rfl
set_option maxRecDepth 50000 in
theorem xm63 : Jvm.Cond.code ⟨"GreenButtons$Law", "readProduct", "(LGreenButtons$Tokens;I)Z"⟩ prog_4_method_10_code 5 (some FieldType.boolean) ∈ xTB := xmemT (j := 803) rfl rfl
set_option maxRecDepth 50000 in
theorem xm64 : Jvm.Cond.code ⟨"GreenButtons$Law", "readPart", "(LGreenButtons$Tokens;I)Z"⟩ prog_4_method_11_code 8 (some FieldType.boolean) ∈ xTB := xmemT (j := 807) rfl rfl
set_option maxRecDepth 50000 in
theorem xm65 : Jvm.Cond.code ⟨"GreenButtons", "launch", "()V"⟩ prog_1_method_35_code 2 (none : Option FieldType) ∈ xTB := xmemT (j := 820) rfl rfl
set_option maxRecDepth 50000 in
theorem xm66 : Jvm.Cond.code ⟨"GreenButtons$Ship", "copyFrom", "(LGreenButtons$Ship;)V"⟩ prog_7_method_3_code 2 (none : Option FieldType) ∈ xTB := xmemT (j := 824) rfl rfl
set_option maxRecDepth 50000 in
theorem xm67 : Jvm.Cond.code ⟨"GreenButtons$Law", "copyFrom", "(LGreenButtons$Law;)V"⟩ prog_4_method_3_code 2 (none : Option FieldType) ∈ xTB := xmemT (j := 831) rfl rfl
set_option maxRecDepth 50000 in
theorem xm68 : Jvm.Cond.code ⟨"GreenButtons$Crew", "boardAnew", "()V"⟩ prog_2_method_2_code 1 (none : Option FieldType) ∈ xTB := xmemT (j := 836) rfl rfl
set_option maxRecDepth 50000 in
theorem xm69 : Jvm.Cond.code ⟨"GreenButtons", "voyage", "()I"⟩ prog_1_method_4_code 2 (some FieldType.int) ∈ xTB := xmemT (j := 842) rfl rfl
set_option maxRecDepth 50000 in
theorem xm70 : Jvm.Cond.code ⟨"GreenButtons$Voyage", "read", "(LGreenButtons$Tokens;LGreenButtons$Ship;)I"⟩ prog_12_method_3_code 5 (some FieldType.int) ∈ xTB := xmemT (j := 846) rfl rfl
set_option maxRecDepth 50000 in
theorem xm71 : Jvm.Cond.code ⟨"GreenButtons$Voyage", "readLine", "(LGreenButtons$Tokens;LGreenButtons$Ship;)Z"⟩ prog_12_method_4_code 4 (some FieldType.boolean) ∈ xTB := xmemT (j := 852) rfl rfl
set_option maxRecDepth 50000 in
theorem xm72 : Jvm.Cond.code ⟨"GreenButtons$Voyage", "takeKnown", "(LGreenButtons$Tokens;II)Z"⟩ prog_12_method_5_code 4 (some FieldType.boolean) ∈ xTB := xmemT (j := 861) rfl rfl
set_option maxRecDepth 50000 in
theorem xm73 : Jvm.Cond.code ⟨"GreenButtons$Voyage", "copyFrom", "(LGreenButtons$Voyage;)V"⟩ prog_12_method_2_code 2 (none : Option FieldType) ∈ xTB := xmemT (j := 868) rfl rfl
set_option maxRecDepth 50000 in
theorem xm74 : Jvm.Cond.code ⟨"GreenButtons", "man", "(II)I"⟩ prog_1_method_5_code 3 (some FieldType.int) ∈ xTB := xmemT (j := 873) rfl rfl
set_option maxRecDepth 50000 in
theorem xm75 : Jvm.Cond.code ⟨"GreenButtons$Ship", "isMan", "(I)Z"⟩ prog_7_method_4_code 2 (some FieldType.boolean) ∈ xTB := xmemT (j := 877) rfl rfl
set_option maxRecDepth 50000 in
theorem xm76 : Jvm.Cond.code ⟨"GreenButtons$Crew", "hasSucked", "(I)Z"⟩ prog_2_method_8_code 2 (some FieldType.boolean) ∈ xTB := xmemT (j := 881) rfl rfl
set_option maxRecDepth 50000 in
theorem xm77 : Jvm.Cond.code ⟨"GreenButtons$Crew", "rankOf", "(I)I"⟩ prog_2_method_17_code 4 (some FieldType.int) ∈ xTB := xmemT (j := 885) rfl rfl
set_option maxRecDepth 50000 in
theorem xm78 : Jvm.Cond.code ⟨"GreenButtons", "post", "(II)I"⟩ prog_1_method_6_code 3 (some FieldType.int) ∈ xTB := xmemT (j := 889) rfl rfl
set_option maxRecDepth 50000 in
theorem xm79 : Jvm.Cond.code ⟨"GreenButtons$Ship", "isPost", "(I)Z"⟩ prog_7_method_5_code 2 (some FieldType.boolean) ∈ xTB := xmemT (j := 893) rfl rfl
set_option maxRecDepth 50000 in
theorem xm80 : Jvm.Cond.code ⟨"GreenButtons$Crew", "standingAt", "(I)I"⟩ prog_2_method_20_code 4 (some FieldType.int) ∈ xTB := xmemT (j := 897) rfl rfl
set_option maxRecDepth 50000 in
theorem xm81 : Jvm.Cond.code ⟨"GreenButtons", "stand", "(II)Z"⟩ prog_1_method_7_code 3 (some FieldType.boolean) ∈ xTB := xmemT (j := 901) rfl rfl
set_option maxRecDepth 50000 in
theorem xm82 : Jvm.Cond.code ⟨"GreenButtons$Crew", "canStand", "(II)Z"⟩ prog_2_method_4_code 3 (some FieldType.boolean) ∈ xTB := xmemT (j := 905) rfl rfl
set_option maxRecDepth 50000 in
theorem xm83 : Jvm.Cond.code ⟨"java/lang/Integer", "bitCount", "(I)I"⟩ prog_20_method_49_code 1 (some FieldType.int) ∈ xTB := xmemT (j := 911) rfl rfl
set_option maxRecDepth 50000 in
theorem xm84 : Jvm.Cond.code ⟨"GreenButtons", "keepPast", "()V"⟩ prog_1_method_36_code 1 (none : Option FieldType) ∈ xTB := xmemT (j := 918) rfl rfl
set_option maxRecDepth 50000 in
theorem xm85 : Jvm.Cond.code ⟨"GreenButtons$Crew", "copyFrom", "(LGreenButtons$Crew;)V"⟩ prog_2_method_3_code 2 (none : Option FieldType) ∈ xTB := xmemT (j := 922) rfl rfl
set_option maxRecDepth 50000 in
theorem xm86 : Jvm.Cond.code ⟨"GreenButtons$Crew", "standAt", "(II)Z"⟩ prog_2_method_5_code 3 (some FieldType.boolean) ∈ xTB := xmemT (j := 927) rfl rfl
set_option maxRecDepth 50000 in
theorem xm87 : Jvm.Cond.code ⟨"GreenButtons", "below", "(I)Z"⟩ prog_1_method_8_code 2 (some FieldType.boolean) ∈ xTB := xmemT (j := 932) rfl rfl
set_option maxRecDepth 50000 in
theorem xm88 : Jvm.Cond.code ⟨"GreenButtons$Crew", "canGoBelow", "(I)Z"⟩ prog_2_method_6_code 2 (some FieldType.boolean) ∈ xTB := xmemT (j := 936) rfl rfl
set_option maxRecDepth 50000 in
theorem xm89 : Jvm.Cond.code ⟨"GreenButtons$Crew", "goBelow", "(I)Z"⟩ prog_2_method_7_code 2 (some FieldType.boolean) ∈ xTB := xmemT (j := 940) rfl rfl
set_option maxRecDepth 50000 in
theorem xm90 : Jvm.Cond.code ⟨"GreenButtons", "suck", "(I)I"⟩ prog_1_method_9_code 2 (some FieldType.int) ∈ xTB := xmemT (j := 945) rfl rfl
set_option maxRecDepth 50000 in
theorem xm91 : Jvm.Cond.code ⟨"GreenButtons$Crew", "canSuck", "(I)Z"⟩ prog_2_method_9_code 2 (some FieldType.boolean) ∈ xTB := xmemT (j := 949) rfl rfl
set_option maxRecDepth 50000 in
theorem xm92 : Jvm.Cond.code ⟨"GreenButtons$Crew", "suckLemon", "(I)Z"⟩ prog_2_method_10_code 2 (some FieldType.boolean) ∈ xTB := xmemT (j := 954) rfl rfl
set_option maxRecDepth 50000 in
theorem xm93 : Jvm.Cond.code ⟨"GreenButtons", "fall", "(I)I"⟩ prog_1_method_10_code 2 (some FieldType.int) ∈ xTB := xmemT (j := 960) rfl rfl
set_option maxRecDepth 50000 in
theorem xm94 : Jvm.Cond.code ⟨"GreenButtons$Crew", "fallIn", "(I)V"⟩ prog_2_method_12_code 3 (none : Option FieldType) ∈ xTB := xmemT (j := 964) rfl rfl
set_option maxRecDepth 50000 in
theorem xm95 : Jvm.Cond.code ⟨"GreenButtons$Crew", "greenest", "()I"⟩ prog_2_method_18_code 3 (some FieldType.int) ∈ xTB := xmemT (j := 968) rfl rfl
set_option maxRecDepth 50000 in
theorem xm96 : Jvm.Cond.code ⟨"GreenButtons", "watch", "()I"⟩ prog_1_method_11_code 1 (some FieldType.int) ∈ xTB := xmemT (j := 973) rfl rfl
set_option maxRecDepth 50000 in
theorem xm97 : Jvm.Cond.code ⟨"GreenButtons$Crew", "seaNow", "()I"⟩ prog_2_method_13_code 1 (some FieldType.int) ∈ xTB := xmemT (j := 977) rfl rfl
set_option maxRecDepth 50000 in
theorem xm98 : Jvm.Cond.code ⟨"GreenButtons$Ship", "seaAt", "(I)I"⟩ prog_7_method_10_code 2 (some FieldType.int) ∈ xTB := xmemT (j := 981) rfl rfl
set_option maxRecDepth 50000 in
theorem xm99 : Jvm.Cond.code ⟨"GreenButtons$Crew", "passWatch", "(I)V"⟩ prog_2_method_14_code 5 (none : Option FieldType) ∈ xTB := xmemT (j := 985) rfl rfl
set_option maxRecDepth 50000 in
theorem xm100 : Jvm.Cond.code ⟨"GreenButtons$Ship", "sweatOf", "(I)I"⟩ prog_7_method_9_code 2 (some FieldType.int) ∈ xTB := xmemT (j := 990) rfl rfl
set_option maxRecDepth 50000 in
theorem xm101 : Jvm.Cond.code ⟨"GreenButtons$Crew", "wetOf", "(II)I"⟩ prog_2_method_15_code 4 (some FieldType.int) ∈ xTB := xmemT (j := 994) rfl rfl
set_option maxRecDepth 50000 in
theorem xm102 : Jvm.Cond.code ⟨"GreenButtons$Law", "riseFor", "(IIII)I"⟩ prog_4_method_12_code 8 (some FieldType.int) ∈ xTB := xmemT (j := 998) rfl rfl
set_option maxRecDepth 50000 in
theorem xm103 : Jvm.Cond.code ⟨"GreenButtons$Law", "valueFor", "(IIII)I"⟩ prog_4_method_13_code 8 (some FieldType.int) ∈ xTB := xmemT (j := 1002) rfl rfl
set_option maxRecDepth 50000 in
theorem xm104 : Jvm.Cond.code ⟨"GreenButtons$Law", "factOf", "(IIIII)I"⟩ prog_4_method_14_code 5 (some FieldType.int) ∈ xTB := xmemT (j := 1005) rfl rfl
set_option maxRecDepth 50000 in
theorem xm105 : Jvm.Cond.code ⟨"GreenButtons$Law", "joined", "(III)I"⟩ prog_4_method_15_code 3 (some FieldType.int) ∈ xTB := xmemT (j := 1008) rfl rfl
set_option maxRecDepth 50000 in
theorem xm106 : Jvm.Cond.code ⟨"GreenButtons", "dock", "()I"⟩ prog_1_method_12_code 1 (some FieldType.int) ∈ xTB := xmemT (j := 1014) rfl rfl
set_option maxRecDepth 50000 in
theorem xm107 : Jvm.Cond.code ⟨"GreenButtons$Crew", "enterHarbour", "()V"⟩ prog_2_method_16_code 2 (none : Option FieldType) ∈ xTB := xmemT (j := 1018) rfl rfl
set_option maxRecDepth 50000 in
theorem xm108 : Jvm.Cond.code ⟨"GreenButtons$Crew", "allGreens", "()I"⟩ prog_2_method_21_code 3 (some FieldType.int) ∈ xTB := xmemT (j := 1022) rfl rfl
set_option maxRecDepth 50000 in
theorem xm109 : Jvm.Cond.code ⟨"GreenButtons", "undo", "()Z"⟩ prog_1_method_13_code 1 (some FieldType.boolean) ∈ xTB := xmemT (j := 1026) rfl rfl
set_option maxRecDepth 50000 in
theorem xm110 : Jvm.Cond.code ⟨"GreenButtons", "judged", "(I)I"⟩ prog_1_method_14_code 2 (some FieldType.int) ∈ xTB := xmemT (j := 1030) rfl rfl
set_option maxRecDepth 50000 in
theorem xm111 : Jvm.Cond.code ⟨"GreenButtons$Voyage", "verdict", "(LGreenButtons$Crew;I)I"⟩ prog_12_method_6_code 8 (some FieldType.int) ∈ xTB := xmemT (j := 1035) rfl rfl
set_option maxRecDepth 50000 in
theorem xm112 : Jvm.Cond.code ⟨"GreenButtons$Crew", "leader", "()I"⟩ prog_2_method_19_code 3 (some FieldType.int) ∈ xTB := xmemT (j := 1040) rfl rfl
set_option maxRecDepth 50000 in
theorem xm113 : Jvm.Cond.code ⟨"GreenButtons$Voyage", "follow", "(LGreenButtons$Crew;I)Z"⟩ prog_12_method_7_code 3 (some FieldType.boolean) ∈ xTB := xmemT (j := 1043) rfl rfl
set_option maxRecDepth 50000 in
theorem xm114 : Jvm.Cond.code ⟨"GreenButtons", "captain", "()I"⟩ prog_1_method_15_code 1 (some FieldType.int) ∈ xTB := xmemT (j := 1055) rfl rfl
set_option maxRecDepth 50000 in
theorem xm115 : Jvm.Cond.code ⟨"GreenButtons", "argues", "(I)I"⟩ prog_1_method_16_code 2 (some FieldType.int) ∈ xTB := xmemT (j := 1060) rfl rfl
set_option maxRecDepth 50000 in
theorem xm116 : Jvm.Cond.code ⟨"GreenButtons$Crew", "quarrelling", "(I)I"⟩ prog_2_method_22_code 4 (some FieldType.int) ∈ xTB := xmemT (j := 1064) rfl rfl
set_option maxRecDepth 50000 in
theorem xm117 : Jvm.Cond.code ⟨"GreenButtons", "salutes", "(I)I"⟩ prog_1_method_17_code 2 (some FieldType.int) ∈ xTB := xmemT (j := 1071) rfl rfl
set_option maxRecDepth 50000 in
theorem xm118 : Jvm.Cond.code ⟨"GreenButtons$Crew", "saluted", "(I)I"⟩ prog_2_method_23_code 4 (some FieldType.int) ∈ xTB := xmemT (j := 1075) rfl rfl
set_option maxRecDepth 50000 in
theorem xm119 : Jvm.Cond.code ⟨"GreenButtons", "when", "(I)I"⟩ prog_1_method_18_code 2 (some FieldType.int) ∈ xTB := xmemT (j := 1079) rfl rfl
set_option maxRecDepth 50000 in
theorem xm120 : Jvm.Cond.code ⟨"GreenButtons$Forecast", "untilLeading", "(I)I"⟩ prog_3_method_2_code 3 (some FieldType.int) ∈ xTB := xmemT (j := 1083) rfl rfl
set_option maxRecDepth 50000 in
theorem xm121 : Jvm.Cond.code ⟨"GreenButtons", "passes", "(II)I"⟩ prog_1_method_19_code 3 (some FieldType.int) ∈ xTB := xmemT (j := 1091) rfl rfl
set_option maxRecDepth 50000 in
theorem xm122 : Jvm.Cond.code ⟨"GreenButtons$Ship", "isPair", "(II)Z"⟩ prog_7_method_6_code 3 (some FieldType.boolean) ∈ xTB := xmemT (j := 1095) rfl rfl
set_option maxRecDepth 50000 in
theorem xm123 : Jvm.Cond.code ⟨"GreenButtons$Forecast", "untilGreener", "(II)I"⟩ prog_3_method_3_code 4 (some FieldType.int) ∈ xTB := xmemT (j := 1100) rfl rfl
set_option maxRecDepth 50000 in
theorem xm124 : Jvm.Cond.code ⟨"GreenButtons", "changes", "(I)I"⟩ prog_1_method_20_code 2 (some FieldType.int) ∈ xTB := xmemT (j := 1104) rfl rfl
set_option maxRecDepth 50000 in
theorem xm125 : Jvm.Cond.code ⟨"GreenButtons$Forecast", "leaderTurns", "(I)I"⟩ prog_3_method_5_code 5 (some FieldType.int) ∈ xTB := xmemT (j := 1108) rfl rfl
set_option maxRecDepth 50000 in
theorem xm126 : Jvm.Cond.code ⟨"GreenButtons", "stations", "(III)I"⟩ prog_1_method_21_code 5 (some FieldType.int) ∈ xTB := xmemT (j := 1112) rfl rfl
set_option maxRecDepth 50000 in
theorem xm127 : Jvm.Cond.code ⟨"GreenButtons$Stations", "find", "(II)V"⟩ prog_9_method_2_code 3 (none : Option FieldType) ∈ xTB := xmemT (j := 1116) rfl rfl
set_option maxRecDepth 50000 in
theorem xm128 : Jvm.Cond.code ⟨"GreenButtons$Stations", "deal", "(II)V"⟩ prog_9_method_3_code 4 (none : Option FieldType) ∈ xTB := xmemT (j := 1121) rfl rfl
set_option maxRecDepth 50000 in
theorem xm129 : Jvm.Cond.code ⟨"GreenButtons$Stations", "weigh", "(I)V"⟩ prog_9_method_4_code 3 (none : Option FieldType) ∈ xTB := xmemT (j := 1125) rfl rfl
set_option maxRecDepth 50000 in
theorem xm130 : Jvm.Cond.code ⟨"GreenButtons", "lemons", "(II)I"⟩ prog_1_method_22_code 4 (some FieldType.int) ∈ xTB := xmemT (j := 1133) rfl rfl
set_option maxRecDepth 50000 in
theorem xm131 : Jvm.Cond.code ⟨"GreenButtons$Forecast", "fewestSucking", "(II)I"⟩ prog_3_method_6_code 7 (some FieldType.int) ∈ xTB := xmemT (j := 1137) rfl rfl
set_option maxRecDepth 50000 in
theorem xm132 : Jvm.Cond.code ⟨"GreenButtons$Forecast", "leadsAfter", "(III)Z"⟩ prog_3_method_7_code 5 (some FieldType.boolean) ∈ xTB := xmemT (j := 1142) rfl rfl
set_option maxRecDepth 50000 in
theorem xm133 : Jvm.Cond.code ⟨"GreenButtons$Crew", "suckLemons", "(I)V"⟩ prog_2_method_11_code 3 (none : Option FieldType) ∈ xTB := xmemT (j := 1146) rfl rfl
set_option maxRecDepth 50000 in
theorem xm134 : Jvm.Cond.code ⟨"GreenButtons", "docks", "(I)I"⟩ prog_1_method_23_code 2 (some FieldType.int) ∈ xTB := xmemT (j := 1151) rfl rfl
set_option maxRecDepth 50000 in
theorem xm135 : Jvm.Cond.code ⟨"GreenButtons$Forecast", "harboursUntilTurn", "(I)I"⟩ prog_3_method_8_code 4 (some FieldType.int) ∈ xTB := xmemT (j := 1155) rfl rfl
set_option maxRecDepth 50000 in
theorem xm136 : Jvm.Cond.code ⟨"GreenButtons", "twins", "()I"⟩ prog_1_method_24_code 1 (some FieldType.int) ∈ xTB := xmemT (j := 1160) rfl rfl
set_option maxRecDepth 50000 in
theorem xm137 : Jvm.Cond.code ⟨"GreenButtons$Crew", "equalPairs", "()I"⟩ prog_2_method_24_code 4 (some FieldType.int) ∈ xTB := xmemT (j := 1164) rfl rfl
set_option maxRecDepth 50000 in
theorem xm138 : Jvm.Cond.code ⟨"GreenButtons", "shades", "()I"⟩ prog_1_method_25_code 1 (some FieldType.int) ∈ xTB := xmemT (j := 1168) rfl rfl
set_option maxRecDepth 50000 in
theorem xm139 : Jvm.Cond.code ⟨"GreenButtons$Crew", "differentShades", "()I"⟩ prog_2_method_25_code 5 (some FieldType.int) ∈ xTB := xmemT (j := 1172) rfl rfl
set_option maxRecDepth 50000 in
theorem xm140 : Jvm.Cond.code ⟨"GreenButtons$Crew", "shadeOf", "(I)I"⟩ prog_2_method_26_code 2 (some FieldType.int) ∈ xTB := xmemT (j := 1176) rfl rfl
set_option maxRecDepth 50000 in
theorem xm141 : Jvm.Cond.code ⟨"GreenButtons", "first", "(II)I"⟩ prog_1_method_26_code 3 (some FieldType.int) ∈ xTB := xmemT (j := 1180) rfl rfl
set_option maxRecDepth 50000 in
theorem xm142 : Jvm.Cond.code ⟨"GreenButtons$Forecast", "soonerLeading", "(II)I"⟩ prog_3_method_4_code 6 (some FieldType.int) ∈ xTB := xmemT (j := 1184) rfl rfl
set_option maxRecDepth 50000 in
theorem xm143 : Jvm.Cond.code ⟨"GreenButtons", "see", "(IIIZ)Z"⟩ prog_1_method_27_code 6 (some FieldType.boolean) ∈ xTB := xmemT (j := 1189) rfl rfl
set_option maxRecDepth 50000 in
theorem xm144 : Jvm.Cond.code ⟨"GreenButtons$Seen", "add", "(IIIZ)Z"⟩ prog_6_method_3_code 5 (some FieldType.boolean) ∈ xTB := xmemT (j := 1193) rfl rfl
set_option maxRecDepth 50000 in
theorem xm145 : Jvm.Cond.code ⟨"GreenButtons", "sets", "(I)I"⟩ prog_1_method_28_code 2 (some FieldType.int) ∈ xTB := xmemT (j := 1197) rfl rfl
set_option maxRecDepth 50000 in
theorem xm146 : Jvm.Cond.code ⟨"GreenButtons$Suspects", "fittingSets", "(I)I"⟩ prog_10_method_3_code 6 (some FieldType.int) ∈ xTB := xmemT (j := 1201) rfl rfl
set_option maxRecDepth 50000 in
theorem xm147 : Jvm.Cond.code ⟨"GreenButtons$Suspects", "fits", "(I)Z"⟩ prog_10_method_2_code 4 (some FieldType.boolean) ∈ xTB := xmemT (j := 1205) rfl rfl
set_option maxRecDepth 50000 in
theorem xm148 : Jvm.Cond.code ⟨"GreenButtons$Seen", "lastWatch", "()I"⟩ prog_6_method_4_code 3 (some FieldType.int) ∈ xTB := xmemT (j := 1211) rfl rfl
set_option maxRecDepth 50000 in
theorem xm149 : Jvm.Cond.code ⟨"GreenButtons$Seen", "agrees", "(LGreenButtons$Crew;I)Z"⟩ prog_6_method_5_code 5 (some FieldType.boolean) ∈ xTB := xmemT (j := 1216) rfl rfl
set_option maxRecDepth 50000 in
theorem xm150 : Jvm.Cond.code ⟨"GreenButtons", "ask", "(I)I"⟩ prog_1_method_29_code 2 (some FieldType.int) ∈ xTB := xmemT (j := 1222) rfl rfl
set_option maxRecDepth 50000 in
theorem xm151 : Jvm.Cond.code ⟨"GreenButtons$Suspects", "bestPair", "(I)I"⟩ prog_10_method_4_code 9 (some FieldType.int) ∈ xTB := xmemT (j := 1226) rfl rfl
set_option maxRecDepth 50000 in
theorem xm152 : Jvm.Cond.code ⟨"GreenButtons$Suspects", "hear", "(II)V"⟩ prog_10_method_5_code 5 (none : Option FieldType) ∈ xTB := xmemT (j := 1231) rfl rfl
set_option maxRecDepth 50000 in
theorem xm153 : Jvm.Cond.code ⟨"GreenButtons", "chance", "(III)I"⟩ prog_1_method_30_code 5 (some FieldType.int) ∈ xTB := xmemT (j := 1236) rfl rfl
set_option maxRecDepth 50000 in
theorem xm154 : Jvm.Cond.code ⟨"GreenButtons$Forecast", "leadingMillionths", "(III)I"⟩ prog_3_method_9_code 9 (some FieldType.int) ∈ xTB := xmemT (j := 1240) rfl rfl
set_option maxRecDepth 50000 in
theorem xm155 : Jvm.Cond.code ⟨"GreenButtons", "voyages", "(III)I"⟩ prog_1_method_32_code 5 (some FieldType.int) ∈ xTB := xmemT (j := 1245) rfl rfl
set_option maxRecDepth 50000 in
theorem xm156 : Jvm.Cond.code ⟨"GreenButtons$Forecast", "sail", "(III)I"⟩ prog_3_method_10_code 7 (some FieldType.int) ∈ xTB := xmemT (j := 1249) rfl rfl
set_option maxRecDepth 50000 in
theorem xm157 : Jvm.Cond.code ⟨"GreenButtons$Forecast", "order", "()V"⟩ prog_3_method_11_code 4 (none : Option FieldType) ∈ xTB := xmemT (j := 1253) rfl rfl
set_option maxRecDepth 50000 in
theorem xm158 : Jvm.Cond.code ⟨"GreenButtons$Forecast", "drawUnder", "(I)I"⟩ prog_3_method_12_code 2 (some FieldType.int) ∈ xTB := xmemT (j := 1257) rfl rfl
set_option maxRecDepth 50000 in
theorem xm159 : Jvm.Cond.code ⟨"GreenButtons", "mark", "(IZ)Z"⟩ prog_1_method_33_code 3 (some FieldType.boolean) ∈ xTB := xmemT (j := 1269) rfl rfl
set_option maxRecDepth 50000 in
theorem xm160 : Jvm.Cond.code ⟨"GreenButtons$Log", "copyFrom", "(LGreenButtons$Log;)V"⟩ prog_5_method_2_code 2 (none : Option FieldType) ∈ xTB := xmemT (j := 1273) rfl rfl
set_option maxRecDepth 50000 in
theorem xm161 : Jvm.Cond.code ⟨"GreenButtons$Seen", "copyFrom", "(LGreenButtons$Seen;)V"⟩ prog_6_method_2_code 2 (none : Option FieldType) ∈ xTB := xmemT (j := 1279) rfl rfl
set_option maxRecDepth 50000 in
theorem xm162 : Jvm.Cond.code ⟨"GreenButtons", "count", "(I)I"⟩ prog_1_method_34_code 2 (some FieldType.int) ∈ xTB := xmemT (j := 1284) rfl rfl
set_option maxRecDepth 50000 in
theorem xm163 : Jvm.Cond.code ⟨"GreenButtons", "rests", "(IIII)I"⟩ prog_1_method_31_code 8 (some FieldType.int) ∈ xTB := xmemT (j := 1292) rfl rfl
set_option maxRecDepth 50000 in
theorem xm164 : Jvm.Cond.code ⟨"GreenButtons", "isAtRest", "(IIII)Z"⟩ prog_1_method_38_code 8 (some FieldType.boolean) ∈ xTB := xmemT (j := 1360) rfl rfl
set_option maxRecDepth 50000 in
theorem xm165 : Jvm.Cond.code ⟨"GreenButtons", "payOf", "(IIIII)I"⟩ prog_1_method_39_code 5 (some FieldType.int) ∈ xTB := xmemT (j := 1363) rfl rfl
set_option maxRecDepth 50000 in
theorem xm166 : Jvm.Cond.code ⟨"GreenButtonsModel", "<init>", "()V"⟩ prog_14_method_1_code 1 (none : Option FieldType) ∈ xTB := xmemT (j := 1369) rfl rfl
set_option maxRecDepth 50000 in
theorem xm167 : Jvm.Cond.code ⟨"GreenButtonsModel", "usual", "(I)V"⟩ prog_14_method_12_code 2 (none : Option FieldType) ∈ xTB := xmemT (j := 1374) rfl rfl
set_option maxRecDepth 50000 in
theorem xm168 : Jvm.Cond.code ⟨"GreenButtonsModel", "thrown", "()I"⟩ prog_14_method_2_code 1 (some FieldType.int) ∈ xTB := xmemT (j := 1566) rfl rfl
set_option maxRecDepth 50000 in
theorem xm169 : Jvm.Cond.code ⟨"GreenButtonsModel", "feed", "(JJJ)I"⟩ prog_14_method_6_code 11 (some FieldType.int) ∈ xTB := xmemT (j := 1570) rfl rfl
set_option maxRecDepth 50000 in
theorem xm170 : Jvm.Cond.code ⟨"GreenButtonsModel", "ship", "()I"⟩ prog_14_method_42_code 2 (some FieldType.int) ∈ xTB := xmemT (j := 1575) rfl rfl
set_option maxRecDepth 50000 in
theorem xm171 : Jvm.Cond.code ⟨"GreenButtonsModel", "readsAll", "()Z"⟩ prog_14_method_33_code 2 (some FieldType.boolean) ∈ xTB := xmemT (j := 1579) rfl rfl
set_option maxRecDepth 50000 in
theorem xm172 : Jvm.Cond.code ⟨"GreenButtonsModel", "begins", "()V"⟩ prog_14_method_32_code 1 (none : Option FieldType) ∈ xTB := xmemT (j := 1583) rfl rfl
set_option maxRecDepth 50000 in
theorem xm173 : Jvm.Cond.code ⟨"GreenButtonsModel", "nextToken", "()V"⟩ prog_14_method_8_code 2 (none : Option FieldType) ∈ xTB := xmemT (j := 1587) rfl rfl
set_option maxRecDepth 50000 in
theorem xm174 : Jvm.Cond.code ⟨"GreenButtonsModel", "signAt", "(I)I"⟩ prog_14_method_7_code 2 (some FieldType.int) ∈ xTB := xmemT (j := 1591) rfl rfl
set_option maxRecDepth 50000 in
theorem xm175 : Jvm.Cond.code ⟨"GreenButtonsModel", "isWord", "(J)Z"⟩ prog_14_method_9_code 3 (some FieldType.boolean) ∈ xTB := xmemT (j := 1598) rfl rfl
set_option maxRecDepth 50000 in
theorem xm176 : Jvm.Cond.code ⟨"GreenButtonsModel", "readsMan", "()Z"⟩ prog_14_method_27_code 2 (some FieldType.boolean) ∈ xTB := xmemT (j := 1602) rfl rfl
set_option maxRecDepth 50000 in
theorem xm177 : Jvm.Cond.code ⟨"GreenButtonsModel", "fails", "(I)Z"⟩ prog_14_method_11_code 2 (some FieldType.boolean) ∈ xTB := xmemT (j := 1606) rfl rfl
set_option maxRecDepth 50000 in
theorem xm178 : Jvm.Cond.code ⟨"GreenButtonsModel", "needsNew", "()Z"⟩ prog_14_method_26_code 1 (some FieldType.boolean) ∈ xTB := xmemT (j := 1610) rfl rfl
set_option maxRecDepth 50000 in
theorem xm179 : Jvm.Cond.code ⟨"GreenButtonsModel", "isKept", "()Z"⟩ prog_14_method_20_code 1 (some FieldType.boolean) ∈ xTB := xmemT (j := 1614) rfl rfl
set_option maxRecDepth 50000 in
theorem xm180 : Jvm.Cond.code ⟨"GreenButtonsModel", "manNamed", "(I)I"⟩ prog_14_method_21_code 3 (some FieldType.int) ∈ xTB := xmemT (j := 1641) rfl rfl
set_option maxRecDepth 50000 in
theorem xm181 : Jvm.Cond.code ⟨"GreenButtonsModel", "postNamed", "(I)I"⟩ prog_14_method_22_code 3 (some FieldType.int) ∈ xTB := xmemT (j := 1645) rfl rfl
set_option maxRecDepth 50000 in
theorem xm182 : Jvm.Cond.code ⟨"GreenButtonsModel", "needsBoth", "(JII)Z"⟩ prog_14_method_24_code 5 (some FieldType.boolean) ∈ xTB := xmemT (j := 1649) rfl rfl
set_option maxRecDepth 50000 in
theorem xm183 : Jvm.Cond.code ⟨"GreenButtonsModel", "needsNumber", "(II)Z"⟩ prog_14_method_23_code 3 (some FieldType.boolean) ∈ xTB := xmemT (j := 1653) rfl rfl
set_option maxRecDepth 50000 in
theorem xm184 : Jvm.Cond.code ⟨"GreenButtonsModel", "within", "(III)Z"⟩ prog_14_method_3_code 3 (some FieldType.boolean) ∈ xTB := xmemT (j := 1656) rfl rfl
set_option maxRecDepth 50000 in
theorem xm185 : Jvm.Cond.code ⟨"GreenButtonsModel", "closes", "()Z"⟩ prog_14_method_25_code 1 (some FieldType.boolean) ∈ xTB := xmemT (j := 1660) rfl rfl
set_option maxRecDepth 50000 in
theorem xm186 : Jvm.Cond.code ⟨"GreenButtonsModel", "isSign", "(I)Z"⟩ prog_14_method_10_code 2 (some FieldType.boolean) ∈ xTB := xmemT (j := 1664) rfl rfl
set_option maxRecDepth 50000 in
theorem xm187 : Jvm.Cond.code ⟨"GreenButtonsModel", "readsPost", "()Z"⟩ prog_14_method_28_code 2 (some FieldType.boolean) ∈ xTB := xmemT (j := 1668) rfl rfl
set_option maxRecDepth 50000 in
theorem xm188 : Jvm.Cond.code ⟨"GreenButtonsModel", "readsSea", "()Z"⟩ prog_14_method_29_code 1 (some FieldType.boolean) ∈ xTB := xmemT (j := 1672) rfl rfl
set_option maxRecDepth 50000 in
theorem xm189 : Jvm.Cond.code ⟨"GreenButtonsModel", "readsOne", "(III)Z"⟩ prog_14_method_30_code 4 (some FieldType.boolean) ∈ xTB := xmemT (j := 1676) rfl rfl
set_option maxRecDepth 50000 in
theorem xm190 : Jvm.Cond.code ⟨"GreenButtonsModel", "readsGreens", "()Z"⟩ prog_14_method_31_code 1 (some FieldType.boolean) ∈ xTB := xmemT (j := 1680) rfl rfl
set_option maxRecDepth 50000 in
theorem xm191 : Jvm.Cond.code ⟨"GreenButtonsModel", "reads", "()Z"⟩ prog_14_method_15_code 6 (some FieldType.boolean) ∈ xTB := xmemT (j := 1684) rfl rfl
set_option maxRecDepth 50000 in
theorem xm192 : Jvm.Cond.code ⟨"GreenButtonsModel", "fact", "()I"⟩ prog_14_method_14_code 1 (some FieldType.int) ∈ xTB := xmemT (j := 1688) rfl rfl
set_option maxRecDepth 50000 in
theorem xm193 : Jvm.Cond.code ⟨"GreenButtonsModel", "puts", "(I)V"⟩ prog_14_method_13_code 2 (none : Option FieldType) ∈ xTB := xmemT (j := 1696) rfl rfl
set_option maxRecDepth 50000 in
theorem xm194 : Jvm.Cond.code ⟨"GreenButtonsModel", "lays", "()V"⟩ prog_14_method_36_code 1 (none : Option FieldType) ∈ xTB := xmemT (j := 1700) rfl rfl
set_option maxRecDepth 50000 in
theorem xm195 : Jvm.Cond.code ⟨"GreenButtonsModel", "shifts", "([II)V"⟩ prog_14_method_34_code 3 (none : Option FieldType) ∈ xTB := xmemT (j := 1703) rfl rfl
set_option maxRecDepth 50000 in
theorem xm196 : Jvm.Cond.code ⟨"GreenButtonsModel", "shiftsNames", "([JI)V"⟩ prog_14_method_35_code 3 (none : Option FieldType) ∈ xTB := xmemT (j := 1706) rfl rfl
set_option maxRecDepth 50000 in
theorem xm197 : Jvm.Cond.code ⟨"GreenButtonsModel", "fresh0", "()V"⟩ prog_14_method_41_code 2 (none : Option FieldType) ∈ xTB := xmemT (j := 1710) rfl rfl
set_option maxRecDepth 50000 in
theorem xm198 : Jvm.Cond.code ⟨"GreenButtonsModel", "voyage", "()I"⟩ prog_14_method_43_code 1 (some FieldType.int) ∈ xTB := xmemT (j := 1714) rfl rfl
set_option maxRecDepth 50000 in
theorem xm199 : Jvm.Cond.code ⟨"GreenButtonsModel", "readsLine", "()Z"⟩ prog_14_method_38_code 3 (some FieldType.boolean) ∈ xTB := xmemT (j := 1718) rfl rfl
set_option maxRecDepth 50000 in
theorem xm200 : Jvm.Cond.code ⟨"GreenButtonsModel", "laysLines", "(II)V"⟩ prog_14_method_39_code 4 (none : Option FieldType) ∈ xTB := xmemT (j := 1722) rfl rfl
set_option maxRecDepth 50000 in
theorem xm201 : Jvm.Cond.code ⟨"GreenButtonsModel", "man", "(II)I"⟩ prog_14_method_58_code 3 (some FieldType.int) ∈ xTB := xmemT (j := 1726) rfl rfl
set_option maxRecDepth 50000 in
theorem xm202 : Jvm.Cond.code ⟨"GreenButtonsModel", "isMan", "(I)Z"⟩ prog_14_method_44_code 2 (some FieldType.boolean) ∈ xTB := xmemT (j := 1730) rfl rfl
set_option maxRecDepth 50000 in
theorem xm203 : Jvm.Cond.code ⟨"GreenButtonsModel", "greenerThan", "(I)I"⟩ prog_14_method_46_code 4 (some FieldType.int) ∈ xTB := xmemT (j := 1734) rfl rfl
set_option maxRecDepth 50000 in
theorem xm204 : Jvm.Cond.code ⟨"GreenButtonsModel", "bits", "(I)I"⟩ prog_14_method_5_code 3 (some FieldType.int) ∈ xTB := xmemT (j := 1737) rfl rfl
set_option maxRecDepth 50000 in
theorem xm205 : Jvm.Cond.code ⟨"GreenButtonsModel", "post", "(II)I"⟩ prog_14_method_59_code 3 (some FieldType.int) ∈ xTB := xmemT (j := 1741) rfl rfl
set_option maxRecDepth 50000 in
theorem xm206 : Jvm.Cond.code ⟨"GreenButtonsModel", "isPost", "(I)Z"⟩ prog_14_method_45_code 2 (some FieldType.boolean) ∈ xTB := xmemT (j := 1745) rfl rfl
set_option maxRecDepth 50000 in
theorem xm207 : Jvm.Cond.code ⟨"GreenButtonsModel", "standing", "(I)I"⟩ prog_14_method_48_code 4 (some FieldType.int) ∈ xTB := xmemT (j := 1749) rfl rfl
set_option maxRecDepth 50000 in
theorem xm208 : Jvm.Cond.code ⟨"GreenButtonsModel", "stand", "(II)Z"⟩ prog_14_method_61_code 3 (some FieldType.boolean) ∈ xTB := xmemT (j := 1753) rfl rfl
set_option maxRecDepth 50000 in
theorem xm209 : Jvm.Cond.code ⟨"GreenButtonsModel", "canStand", "(II)Z"⟩ prog_14_method_53_code 3 (some FieldType.boolean) ∈ xTB := xmemT (j := 1757) rfl rfl
set_option maxRecDepth 50000 in
theorem xm210 : Jvm.Cond.code ⟨"GreenButtonsModel", "keeps", "()V"⟩ prog_14_method_60_code 2 (none : Option FieldType) ∈ xTB := xmemT (j := 1761) rfl rfl
set_option maxRecDepth 50000 in
theorem xm211 : Jvm.Cond.code ⟨"GreenButtonsModel", "copies", "([II[II)V"⟩ prog_14_method_37_code 5 (none : Option FieldType) ∈ xTB := xmemT (j := 1764) rfl rfl
set_option maxRecDepth 50000 in
theorem xm212 : Jvm.Cond.code ⟨"GreenButtonsModel", "below", "(I)Z"⟩ prog_14_method_62_code 2 (some FieldType.boolean) ∈ xTB := xmemT (j := 1768) rfl rfl
set_option maxRecDepth 50000 in
theorem xm213 : Jvm.Cond.code ⟨"GreenButtonsModel", "suck", "(I)I"⟩ prog_14_method_63_code 2 (some FieldType.int) ∈ xTB := xmemT (j := 1772) rfl rfl
set_option maxRecDepth 50000 in
theorem xm214 : Jvm.Cond.code ⟨"GreenButtonsModel", "hasSucked", "(I)Z"⟩ prog_14_method_54_code 2 (some FieldType.boolean) ∈ xTB := xmemT (j := 1776) rfl rfl
set_option maxRecDepth 50000 in
theorem xm215 : Jvm.Cond.code ⟨"GreenButtonsModel", "sucks", "(I)V"⟩ prog_14_method_55_code 2 (none : Option FieldType) ∈ xTB := xmemT (j := 1780) rfl rfl
set_option maxRecDepth 50000 in
theorem xm216 : Jvm.Cond.code ⟨"GreenButtonsModel", "fall", "(I)I"⟩ prog_14_method_64_code 2 (some FieldType.int) ∈ xTB := xmemT (j := 1785) rfl rfl
set_option maxRecDepth 50000 in
theorem xm217 : Jvm.Cond.code ⟨"GreenButtonsModel", "falls", "(I)V"⟩ prog_14_method_56_code 4 (none : Option FieldType) ∈ xTB := xmemT (j := 1789) rfl rfl
set_option maxRecDepth 50000 in
theorem xm218 : Jvm.Cond.code ⟨"GreenButtonsModel", "watch", "()I"⟩ prog_14_method_65_code 1 (some FieldType.int) ∈ xTB := xmemT (j := 1794) rfl rfl
set_option maxRecDepth 50000 in
theorem xm219 : Jvm.Cond.code ⟨"GreenButtonsModel", "passesWatch", "()V"⟩ prog_14_method_52_code 3 (none : Option FieldType) ∈ xTB := xmemT (j := 1798) rfl rfl
set_option maxRecDepth 50000 in
theorem xm220 : Jvm.Cond.code ⟨"GreenButtonsModel", "seaOf", "(I)I"⟩ prog_14_method_50_code 2 (some FieldType.int) ∈ xTB := xmemT (j := 1802) rfl rfl
set_option maxRecDepth 50000 in
theorem xm221 : Jvm.Cond.code ⟨"GreenButtonsModel", "moreFor", "(II)I"⟩ prog_14_method_51_code 6 (some FieldType.int) ∈ xTB := xmemT (j := 1806) rfl rfl
set_option maxRecDepth 50000 in
theorem xm222 : Jvm.Cond.code ⟨"GreenButtonsModel", "worked", "(I)I"⟩ prog_14_method_19_code 6 (some FieldType.int) ∈ xTB := xmemT (j := 1810) rfl rfl
set_option maxRecDepth 50000 in
theorem xm223 : Jvm.Cond.code ⟨"GreenButtonsModel", "opens", "(I)V"⟩ prog_14_method_16_code 2 (none : Option FieldType) ∈ xTB := xmemT (j := 1814) rfl rfl
set_option maxRecDepth 50000 in
theorem xm224 : Jvm.Cond.code ⟨"GreenButtonsModel", "sums", "(I)V"⟩ prog_14_method_17_code 2 (none : Option FieldType) ∈ xTB := xmemT (j := 1818) rfl rfl
set_option maxRecDepth 50000 in
theorem xm225 : Jvm.Cond.code ⟨"GreenButtonsModel", "tests", "(I)V"⟩ prog_14_method_18_code 3 (none : Option FieldType) ∈ xTB := xmemT (j := 1822) rfl rfl
set_option maxRecDepth 50000 in
theorem xm226 : Jvm.Cond.code ⟨"GreenButtonsModel", "between", "(III)I"⟩ prog_14_method_4_code 3 (some FieldType.int) ∈ xTB := xmemT (j := 1825) rfl rfl
set_option maxRecDepth 50000 in
theorem xm227 : Jvm.Cond.code ⟨"GreenButtonsModel", "dock", "()I"⟩ prog_14_method_66_code 1 (some FieldType.int) ∈ xTB := xmemT (j := 1829) rfl rfl
set_option maxRecDepth 50000 in
theorem xm228 : Jvm.Cond.code ⟨"GreenButtonsModel", "docks0", "()V"⟩ prog_14_method_57_code 2 (none : Option FieldType) ∈ xTB := xmemT (j := 1833) rfl rfl
set_option maxRecDepth 50000 in
theorem xm229 : Jvm.Cond.code ⟨"GreenButtonsModel", "allGreens", "()I"⟩ prog_14_method_49_code 3 (some FieldType.int) ∈ xTB := xmemT (j := 1837) rfl rfl
set_option maxRecDepth 50000 in
theorem xm230 : Jvm.Cond.code ⟨"GreenButtonsModel", "undo", "()Z"⟩ prog_14_method_67_code 1 (some FieldType.boolean) ∈ xTB := xmemT (j := 1841) rfl rfl
set_option maxRecDepth 50000 in
theorem xm231 : Jvm.Cond.code ⟨"GreenButtonsModel", "judged", "(I)I"⟩ prog_14_method_70_code 6 (some FieldType.int) ∈ xTB := xmemT (j := 1845) rfl rfl
set_option maxRecDepth 50000 in
theorem xm232 : Jvm.Cond.code ⟨"GreenButtonsModel", "captainNow", "()I"⟩ prog_14_method_47_code 4 (some FieldType.int) ∈ xTB := xmemT (j := 1849) rfl rfl
set_option maxRecDepth 50000 in
theorem xm233 : Jvm.Cond.code ⟨"GreenButtonsModel", "goes", "(I)Z"⟩ prog_14_method_68_code 4 (some FieldType.boolean) ∈ xTB := xmemT (j := 1853) rfl rfl
set_option maxRecDepth 50000 in
theorem xm234 : Jvm.Cond.code ⟨"GreenButtonsModel", "greenest", "()I"⟩ prog_14_method_69_code 3 (some FieldType.int) ∈ xTB := xmemT (j := 1857) rfl rfl
set_option maxRecDepth 50000 in
theorem xm235 : Jvm.Cond.code ⟨"GreenButtonsModel", "captain", "()I"⟩ prog_14_method_71_code 1 (some FieldType.int) ∈ xTB := xmemT (j := 1861) rfl rfl
set_option maxRecDepth 50000 in
theorem xm236 : Jvm.Cond.code ⟨"GreenButtonsModel", "argues", "(I)I"⟩ prog_14_method_72_code 4 (some FieldType.int) ∈ xTB := xmemT (j := 1865) rfl rfl
set_option maxRecDepth 50000 in
theorem xm237 : Jvm.Cond.code ⟨"GreenButtonsModel", "salutes", "(I)I"⟩ prog_14_method_73_code 4 (some FieldType.int) ∈ xTB := xmemT (j := 1870) rfl rfl
set_option maxRecDepth 50000 in
theorem xm238 : Jvm.Cond.code ⟨"GreenButtonsModel", "when", "(I)I"⟩ prog_14_method_75_code 2 (some FieldType.int) ∈ xTB := xmemT (j := 1874) rfl rfl
set_option maxRecDepth 50000 in
theorem xm239 : Jvm.Cond.code ⟨"GreenButtonsModel", "whenOf", "(I)I"⟩ prog_14_method_74_code 3 (some FieldType.int) ∈ xTB := xmemT (j := 1878) rfl rfl
set_option maxRecDepth 50000 in
theorem xm240 : Jvm.Cond.code ⟨"GreenButtonsModel", "passes", "(II)I"⟩ prog_14_method_76_code 4 (some FieldType.int) ∈ xTB := xmemT (j := 1882) rfl rfl
set_option maxRecDepth 50000 in
theorem xm241 : Jvm.Cond.code ⟨"GreenButtonsModel", "changes", "(I)I"⟩ prog_14_method_77_code 5 (some FieldType.int) ∈ xTB := xmemT (j := 1886) rfl rfl
set_option maxRecDepth 50000 in
theorem xm242 : Jvm.Cond.code ⟨"GreenButtonsModel", "first", "(II)I"⟩ prog_14_method_78_code 5 (some FieldType.int) ∈ xTB := xmemT (j := 1890) rfl rfl
set_option maxRecDepth 50000 in
theorem xm243 : Jvm.Cond.code ⟨"GreenButtonsModel", "stations", "(III)I"⟩ prog_14_method_80_code 5 (some FieldType.int) ∈ xTB := xmemT (j := 1894) rfl rfl
set_option maxRecDepth 50000 in
theorem xm244 : Jvm.Cond.code ⟨"GreenButtonsModel", "deals", "(IIII)V"⟩ prog_14_method_79_code 7 (none : Option FieldType) ∈ xTB := xmemT (j := 1898) rfl rfl
set_option maxRecDepth 50000 in
theorem xm245 : Jvm.Cond.code ⟨"GreenButtonsModel", "lemons", "(II)I"⟩ prog_14_method_83_code 7 (some FieldType.int) ∈ xTB := xmemT (j := 1902) rfl rfl
set_option maxRecDepth 50000 in
theorem xm246 : Jvm.Cond.code ⟨"GreenButtonsModel", "maySuck", "()I"⟩ prog_14_method_81_code 1 (some FieldType.int) ∈ xTB := xmemT (j := 1906) rfl rfl
set_option maxRecDepth 50000 in
theorem xm247 : Jvm.Cond.code ⟨"GreenButtonsModel", "suckAll", "(I)V"⟩ prog_14_method_82_code 3 (none : Option FieldType) ∈ xTB := xmemT (j := 1910) rfl rfl
set_option maxRecDepth 50000 in
theorem xm248 : Jvm.Cond.code ⟨"GreenButtonsModel", "docks", "(I)I"⟩ prog_14_method_84_code 5 (some FieldType.int) ∈ xTB := xmemT (j := 1914) rfl rfl
set_option maxRecDepth 50000 in
theorem xm249 : Jvm.Cond.code ⟨"GreenButtonsModel", "twins", "()I"⟩ prog_14_method_85_code 4 (some FieldType.int) ∈ xTB := xmemT (j := 1918) rfl rfl
set_option maxRecDepth 50000 in
theorem xm250 : Jvm.Cond.code ⟨"GreenButtonsModel", "shades", "()I"⟩ prog_14_method_86_code 5 (some FieldType.int) ∈ xTB := xmemT (j := 1922) rfl rfl
set_option maxRecDepth 50000 in
theorem xm251 : Jvm.Cond.code ⟨"GreenButtonsModel", "see", "(IIIZ)Z"⟩ prog_14_method_89_code 5 (some FieldType.boolean) ∈ xTB := xmemT (j := 1926) rfl rfl
set_option maxRecDepth 50000 in
theorem xm252 : Jvm.Cond.code ⟨"GreenButtonsModel", "sets", "(I)I"⟩ prog_14_method_91_code 7 (some FieldType.int) ∈ xTB := xmemT (j := 1930) rfl rfl
set_option maxRecDepth 50000 in
theorem xm253 : Jvm.Cond.code ⟨"GreenButtonsModel", "laysGreener", "(I)V"⟩ prog_14_method_87_code 7 (none : Option FieldType) ∈ xTB := xmemT (j := 1934) rfl rfl
set_option maxRecDepth 50000 in
theorem xm254 : Jvm.Cond.code ⟨"GreenButtonsModel", "isAsSeen", "(I)Z"⟩ prog_14_method_90_code 3 (some FieldType.boolean) ∈ xTB := xmemT (j := 1938) rfl rfl
set_option maxRecDepth 50000 in
theorem xm255 : Jvm.Cond.code ⟨"GreenButtonsModel", "isGreenerBy", "(IIII)Z"⟩ prog_14_method_88_code 5 (some FieldType.boolean) ∈ xTB := xmemT (j := 1942) rfl rfl
set_option maxRecDepth 50000 in
theorem xm256 : Jvm.Cond.code ⟨"GreenButtonsModel", "ask", "(I)I"⟩ prog_14_method_92_code 11 (some FieldType.int) ∈ xTB := xmemT (j := 1946) rfl rfl
set_option maxRecDepth 50000 in
theorem xm257 : Jvm.Cond.code ⟨"GreenButtonsModel", "chance", "(III)I"⟩ prog_14_method_93_code 13 (some FieldType.int) ∈ xTB := xmemT (j := 1951) rfl rfl
set_option maxRecDepth 50000 in
theorem xm258 : Jvm.Cond.code ⟨"GreenButtonsModel", "rests", "(IIII)I"⟩ prog_14_method_95_code 9 (some FieldType.int) ∈ xTB := xmemT (j := 1957) rfl rfl
set_option maxRecDepth 50000 in
theorem xm259 : Jvm.Cond.code ⟨"GreenButtonsModel", "getsBy", "(IIIII)I"⟩ prog_14_method_94_code 5 (some FieldType.int) ∈ xTB := xmemT (j := 1960) rfl rfl
set_option maxRecDepth 50000 in
theorem xm260 : Jvm.Cond.code ⟨"GreenButtonsModel", "voyages", "(III)I"⟩ prog_14_method_98_code 7 (some FieldType.int) ∈ xTB := xmemT (j := 1964) rfl rfl
set_option maxRecDepth 50000 in
theorem xm261 : Jvm.Cond.code ⟨"GreenButtonsModel", "livesWatch", "()V"⟩ prog_14_method_97_code 4 (none : Option FieldType) ∈ xTB := xmemT (j := 1968) rfl rfl
set_option maxRecDepth 50000 in
theorem xm262 : Jvm.Cond.code ⟨"GreenButtonsModel", "draws", "(I)I"⟩ prog_14_method_96_code 2 (some FieldType.int) ∈ xTB := xmemT (j := 1972) rfl rfl
set_option maxRecDepth 50000 in
theorem xm263 : Jvm.Cond.code ⟨"GreenButtonsModel", "mark", "(IZ)Z"⟩ prog_14_method_99_code 5 (some FieldType.boolean) ∈ xTB := xmemT (j := 1980) rfl rfl
set_option maxRecDepth 50000 in
theorem xm264 : Jvm.Cond.code ⟨"GreenButtonsModel", "laysSeen", "(II)V"⟩ prog_14_method_40_code 4 (none : Option FieldType) ∈ xTB := xmemT (j := 1984) rfl rfl
set_option maxRecDepth 50000 in
theorem xm265 : Jvm.Cond.code ⟨"GreenButtonsModel", "count", "(I)I"⟩ prog_14_method_101_code 2 (some FieldType.int) ∈ xTB := xmemT (j := 1988) rfl rfl
set_option maxRecDepth 50000 in
theorem xm266 : Jvm.Cond.code ⟨"GreenButtonsModel", "allBelow", "()I"⟩ prog_14_method_100_code 3 (some FieldType.int) ∈ xTB := xmemT (j := 1992) rfl rfl
set_option maxRecDepth 50000 in
theorem xm267 : Jvm.Cond.code ⟨"jdk/internal/util/Preconditions", "checkIndex", "(IILjava/util/function/BiFunction;)I"⟩ prog_32_method_11_code 3 (some FieldType.int) ∈ xTB := xmemT (j := 695) rfl rfl
set_option maxRecDepth 50000 in
theorem xall : XAll xstrs xnests xsg xinfo xmeths := fun y g h => xall3_at (gs := xsg) (qs := xinfo) (ms := xmeths) (
  And.intro ⟨rfl, xq0, xm0, fun _ => rfl⟩ (
  And.intro ⟨rfl, xq1, xm1, fun _ => rfl⟩ (
  And.intro ⟨rfl, xq2, xm2, fun _ => rfl⟩ (
  And.intro ⟨rfl, xq3, xm3, fun _ => rfl⟩ (
  And.intro ⟨rfl, xq4, xm4, fun h => absurd h (by decide)⟩ (
  And.intro ⟨rfl, xq5, xm5, fun h => absurd h (by decide)⟩ (
  And.intro ⟨rfl, xq6, xm6, fun h => absurd h (by decide)⟩ (
  And.intro ⟨rfl, xq7, xm7, fun h => absurd h (by decide)⟩ (
  And.intro ⟨rfl, xq8, xm8, fun h => absurd h (by decide)⟩ (
  And.intro ⟨rfl, xq9, xm9, fun _ => rfl⟩ (
  And.intro ⟨rfl, xq10, xm10, fun _ => rfl⟩ (
  And.intro ⟨rfl, xq11, xm11, fun _ => rfl⟩ (
  And.intro ⟨rfl, xq12, xm12, fun _ => rfl⟩ (
  And.intro ⟨rfl, xq13, xm13, fun _ => rfl⟩ (
  And.intro ⟨rfl, xq14, xm14, fun _ => rfl⟩ (
  And.intro ⟨rfl, xq15, xm15, fun _ => rfl⟩ (
  And.intro ⟨rfl, xq16, xm16, fun _ => rfl⟩ (
  And.intro ⟨rfl, xq17, xm17, fun _ => rfl⟩ (
  And.intro ⟨rfl, xq18, xm18, fun h => absurd h (by decide)⟩ (
  And.intro ⟨rfl, xq19, xm19, fun h => absurd h (by decide)⟩ (
  And.intro ⟨rfl, xq20, xm20, fun h => absurd h (by decide)⟩ (
  And.intro ⟨rfl, xq21, xm21, fun h => absurd h (by decide)⟩ (
  And.intro ⟨rfl, xq22, xm22, fun h => absurd h (by decide)⟩ (
  And.intro ⟨rfl, xq23, xm23, fun h => absurd h (by decide)⟩ (
  And.intro ⟨rfl, xq24, xm24, fun h => absurd h (by decide)⟩ (
  And.intro ⟨rfl, xq25, xm25, fun h => absurd h (by decide)⟩ (
  And.intro ⟨rfl, xq26, xm26, fun h => absurd h (by decide)⟩ (
  And.intro ⟨rfl, xq27, xm27, fun h => absurd h (by decide)⟩ (
  And.intro ⟨rfl, xq28, xm28, fun h => absurd h (by decide)⟩ (
  And.intro ⟨rfl, xq29, xm29, fun h => absurd h (by decide)⟩ (
  And.intro ⟨rfl, xq30, xm30, fun h => absurd h (by decide)⟩ (
  And.intro ⟨rfl, xq31, xm31, fun h => absurd h (by decide)⟩ (
  And.intro ⟨rfl, xq32, xm32, fun h => absurd h (by decide)⟩ (
  And.intro ⟨rfl, xq33, xm33, fun h => absurd h (by decide)⟩ (
  And.intro ⟨rfl, xq34, xm34, fun h => absurd h (by decide)⟩ (
  And.intro ⟨rfl, xq35, xm35, fun h => absurd h (by decide)⟩ (
  And.intro ⟨rfl, xq36, xm36, fun h => absurd h (by decide)⟩ (
  And.intro ⟨rfl, xq37, xm37, fun h => absurd h (by decide)⟩ (
  And.intro ⟨rfl, xq38, xm38, fun h => absurd h (by decide)⟩ (
  And.intro ⟨rfl, xq39, xm39, fun h => absurd h (by decide)⟩ (
  And.intro ⟨rfl, xq40, xm40, fun h => absurd h (by decide)⟩ (
  And.intro ⟨rfl, xq41, xm41, fun h => absurd h (by decide)⟩ (
  And.intro ⟨rfl, xq42, xm42, fun h => absurd h (by decide)⟩ (
  And.intro ⟨rfl, xq43, xm43, fun h => absurd h (by decide)⟩ (
  And.intro ⟨rfl, xq44, xm44, fun h => absurd h (by decide)⟩ (
  And.intro ⟨rfl, xq45, xm45, fun h => absurd h (by decide)⟩ (
  And.intro ⟨rfl, xq46, xm46, fun h => absurd h (by decide)⟩ (
  And.intro ⟨rfl, xq47, xm47, fun h => absurd h (by decide)⟩ (
  And.intro ⟨rfl, xq48, xm48, fun h => absurd h (by decide)⟩ (
  And.intro ⟨rfl, xq49, xm49, fun h => absurd h (by decide)⟩ (
  And.intro ⟨rfl, xq50, xm50, fun h => absurd h (by decide)⟩ (
  And.intro ⟨rfl, xq51, xm51, fun h => absurd h (by decide)⟩ (
  And.intro ⟨rfl, xq52, xm52, fun h => absurd h (by decide)⟩ (
  And.intro ⟨rfl, xq53, xm53, fun h => absurd h (by decide)⟩ (
  And.intro ⟨rfl, xq54, xm54, fun h => absurd h (by decide)⟩ (
  And.intro ⟨rfl, xq55, xm55, fun h => absurd h (by decide)⟩ (
  And.intro ⟨rfl, xq56, xm56, fun h => absurd h (by decide)⟩ (
  And.intro ⟨rfl, xq57, xm57, fun h => absurd h (by decide)⟩ (
  And.intro ⟨rfl, xq58, xm58, fun h => absurd h (by decide)⟩ (
  And.intro ⟨rfl, xq59, xm59, fun h => absurd h (by decide)⟩ (
  And.intro ⟨rfl, xq60, xm60, fun h => absurd h (by decide)⟩ (
  And.intro ⟨rfl, xq61, xm61, fun h => absurd h (by decide)⟩ (
  And.intro ⟨rfl, xq62, xm62, fun h => absurd h (by decide)⟩ (
  And.intro ⟨rfl, xq63, xm63, fun h => absurd h (by decide)⟩ (
  And.intro ⟨rfl, xq64, xm64, fun h => absurd h (by decide)⟩ (
  And.intro ⟨rfl, xq65, xm65, fun h => absurd h (by decide)⟩ (
  And.intro ⟨rfl, xq66, xm66, fun h => absurd h (by decide)⟩ (
  And.intro ⟨rfl, xq67, xm67, fun h => absurd h (by decide)⟩ (
  And.intro ⟨rfl, xq68, xm68, fun h => absurd h (by decide)⟩ (
  And.intro ⟨rfl, xq69, xm69, fun h => absurd h (by decide)⟩ (
  And.intro ⟨rfl, xq70, xm70, fun h => absurd h (by decide)⟩ (
  And.intro ⟨rfl, xq71, xm71, fun h => absurd h (by decide)⟩ (
  And.intro ⟨rfl, xq72, xm72, fun h => absurd h (by decide)⟩ (
  And.intro ⟨rfl, xq73, xm73, fun h => absurd h (by decide)⟩ (
  And.intro ⟨rfl, xq74, xm74, fun h => absurd h (by decide)⟩ (
  And.intro ⟨rfl, xq75, xm75, fun h => absurd h (by decide)⟩ (
  And.intro ⟨rfl, xq76, xm76, fun h => absurd h (by decide)⟩ (
  And.intro ⟨rfl, xq77, xm77, fun h => absurd h (by decide)⟩ (
  And.intro ⟨rfl, xq78, xm78, fun h => absurd h (by decide)⟩ (
  And.intro ⟨rfl, xq79, xm79, fun h => absurd h (by decide)⟩ (
  And.intro ⟨rfl, xq80, xm80, fun h => absurd h (by decide)⟩ (
  And.intro ⟨rfl, xq81, xm81, fun h => absurd h (by decide)⟩ (
  And.intro ⟨rfl, xq82, xm82, fun h => absurd h (by decide)⟩ (
  And.intro ⟨rfl, xq83, xm83, fun h => absurd h (by decide)⟩ (
  And.intro ⟨rfl, xq84, xm84, fun h => absurd h (by decide)⟩ (
  And.intro ⟨rfl, xq85, xm85, fun h => absurd h (by decide)⟩ (
  And.intro ⟨rfl, xq86, xm86, fun h => absurd h (by decide)⟩ (
  And.intro ⟨rfl, xq87, xm87, fun h => absurd h (by decide)⟩ (
  And.intro ⟨rfl, xq88, xm88, fun h => absurd h (by decide)⟩ (
  And.intro ⟨rfl, xq89, xm89, fun h => absurd h (by decide)⟩ (
  And.intro ⟨rfl, xq90, xm90, fun h => absurd h (by decide)⟩ (
  And.intro ⟨rfl, xq91, xm91, fun h => absurd h (by decide)⟩ (
  And.intro ⟨rfl, xq92, xm92, fun h => absurd h (by decide)⟩ (
  And.intro ⟨rfl, xq93, xm93, fun h => absurd h (by decide)⟩ (
  And.intro ⟨rfl, xq94, xm94, fun h => absurd h (by decide)⟩ (
  And.intro ⟨rfl, xq95, xm95, fun h => absurd h (by decide)⟩ (
  And.intro ⟨rfl, xq96, xm96, fun h => absurd h (by decide)⟩ (
  And.intro ⟨rfl, xq97, xm97, fun h => absurd h (by decide)⟩ (
  And.intro ⟨rfl, xq98, xm98, fun h => absurd h (by decide)⟩ (
  And.intro ⟨rfl, xq99, xm99, fun h => absurd h (by decide)⟩ (
  And.intro ⟨rfl, xq100, xm100, fun h => absurd h (by decide)⟩ (
  And.intro ⟨rfl, xq101, xm101, fun h => absurd h (by decide)⟩ (
  And.intro ⟨rfl, xq102, xm102, fun h => absurd h (by decide)⟩ (
  And.intro ⟨rfl, xq103, xm103, fun h => absurd h (by decide)⟩ (
  And.intro ⟨rfl, xq104, xm104, fun h => absurd h (by decide)⟩ (
  And.intro ⟨rfl, xq105, xm105, fun h => absurd h (by decide)⟩ (
  And.intro ⟨rfl, xq106, xm106, fun h => absurd h (by decide)⟩ (
  And.intro ⟨rfl, xq107, xm107, fun h => absurd h (by decide)⟩ (
  And.intro ⟨rfl, xq108, xm108, fun h => absurd h (by decide)⟩ (
  And.intro ⟨rfl, xq109, xm109, fun h => absurd h (by decide)⟩ (
  And.intro ⟨rfl, xq110, xm110, fun h => absurd h (by decide)⟩ (
  And.intro ⟨rfl, xq111, xm111, fun h => absurd h (by decide)⟩ (
  And.intro ⟨rfl, xq112, xm112, fun h => absurd h (by decide)⟩ (
  And.intro ⟨rfl, xq113, xm113, fun h => absurd h (by decide)⟩ (
  And.intro ⟨rfl, xq114, xm114, fun h => absurd h (by decide)⟩ (
  And.intro ⟨rfl, xq115, xm115, fun h => absurd h (by decide)⟩ (
  And.intro ⟨rfl, xq116, xm116, fun h => absurd h (by decide)⟩ (
  And.intro ⟨rfl, xq117, xm117, fun h => absurd h (by decide)⟩ (
  And.intro ⟨rfl, xq118, xm118, fun h => absurd h (by decide)⟩ (
  And.intro ⟨rfl, xq119, xm119, fun h => absurd h (by decide)⟩ (
  And.intro ⟨rfl, xq120, xm120, fun h => absurd h (by decide)⟩ (
  And.intro ⟨rfl, xq121, xm121, fun h => absurd h (by decide)⟩ (
  And.intro ⟨rfl, xq122, xm122, fun h => absurd h (by decide)⟩ (
  And.intro ⟨rfl, xq123, xm123, fun h => absurd h (by decide)⟩ (
  And.intro ⟨rfl, xq124, xm124, fun h => absurd h (by decide)⟩ (
  And.intro ⟨rfl, xq125, xm125, fun h => absurd h (by decide)⟩ (
  And.intro ⟨rfl, xq126, xm126, fun h => absurd h (by decide)⟩ (
  And.intro ⟨rfl, xq127, xm127, fun h => absurd h (by decide)⟩ (
  And.intro ⟨rfl, xq128, xm128, fun h => absurd h (by decide)⟩ (
  And.intro ⟨rfl, xq129, xm129, fun h => absurd h (by decide)⟩ (
  And.intro ⟨rfl, xq130, xm130, fun h => absurd h (by decide)⟩ (
  And.intro ⟨rfl, xq131, xm131, fun h => absurd h (by decide)⟩ (
  And.intro ⟨rfl, xq132, xm132, fun h => absurd h (by decide)⟩ (
  And.intro ⟨rfl, xq133, xm133, fun h => absurd h (by decide)⟩ (
  And.intro ⟨rfl, xq134, xm134, fun h => absurd h (by decide)⟩ (
  And.intro ⟨rfl, xq135, xm135, fun h => absurd h (by decide)⟩ (
  And.intro ⟨rfl, xq136, xm136, fun h => absurd h (by decide)⟩ (
  And.intro ⟨rfl, xq137, xm137, fun h => absurd h (by decide)⟩ (
  And.intro ⟨rfl, xq138, xm138, fun h => absurd h (by decide)⟩ (
  And.intro ⟨rfl, xq139, xm139, fun h => absurd h (by decide)⟩ (
  And.intro ⟨rfl, xq140, xm140, fun h => absurd h (by decide)⟩ (
  And.intro ⟨rfl, xq141, xm141, fun h => absurd h (by decide)⟩ (
  And.intro ⟨rfl, xq142, xm142, fun h => absurd h (by decide)⟩ (
  And.intro ⟨rfl, xq143, xm143, fun h => absurd h (by decide)⟩ (
  And.intro ⟨rfl, xq144, xm144, fun h => absurd h (by decide)⟩ (
  And.intro ⟨rfl, xq145, xm145, fun h => absurd h (by decide)⟩ (
  And.intro ⟨rfl, xq146, xm146, fun h => absurd h (by decide)⟩ (
  And.intro ⟨rfl, xq147, xm147, fun h => absurd h (by decide)⟩ (
  And.intro ⟨rfl, xq148, xm148, fun h => absurd h (by decide)⟩ (
  And.intro ⟨rfl, xq149, xm149, fun h => absurd h (by decide)⟩ (
  And.intro ⟨rfl, xq150, xm150, fun h => absurd h (by decide)⟩ (
  And.intro ⟨rfl, xq151, xm151, fun h => absurd h (by decide)⟩ (
  And.intro ⟨rfl, xq152, xm152, fun h => absurd h (by decide)⟩ (
  And.intro ⟨rfl, xq153, xm153, fun h => absurd h (by decide)⟩ (
  And.intro ⟨rfl, xq154, xm154, fun h => absurd h (by decide)⟩ (
  And.intro ⟨rfl, xq155, xm155, fun h => absurd h (by decide)⟩ (
  And.intro ⟨rfl, xq156, xm156, fun h => absurd h (by decide)⟩ (
  And.intro ⟨rfl, xq157, xm157, fun h => absurd h (by decide)⟩ (
  And.intro ⟨rfl, xq158, xm158, fun h => absurd h (by decide)⟩ (
  And.intro ⟨rfl, xq159, xm159, fun h => absurd h (by decide)⟩ (
  And.intro ⟨rfl, xq160, xm160, fun h => absurd h (by decide)⟩ (
  And.intro ⟨rfl, xq161, xm161, fun h => absurd h (by decide)⟩ (
  And.intro ⟨rfl, xq162, xm162, fun h => absurd h (by decide)⟩ (
  And.intro ⟨rfl, xq163, xm163, fun h => absurd h (by decide)⟩ (
  And.intro ⟨rfl, xq164, xm164, fun h => absurd h (by decide)⟩ (
  And.intro ⟨rfl, xq165, xm165, fun h => absurd h (by decide)⟩ (
  And.intro ⟨rfl, xq166, xm166, fun _ => rfl⟩ (
  And.intro ⟨rfl, xq167, xm167, fun h => absurd h (by decide)⟩ (
  And.intro ⟨rfl, xq168, xm168, fun h => absurd h (by decide)⟩ (
  And.intro ⟨rfl, xq169, xm169, fun h => absurd h (by decide)⟩ (
  And.intro ⟨rfl, xq170, xm170, fun h => absurd h (by decide)⟩ (
  And.intro ⟨rfl, xq171, xm171, fun h => absurd h (by decide)⟩ (
  And.intro ⟨rfl, xq172, xm172, fun h => absurd h (by decide)⟩ (
  And.intro ⟨rfl, xq173, xm173, fun h => absurd h (by decide)⟩ (
  And.intro ⟨rfl, xq174, xm174, fun h => absurd h (by decide)⟩ (
  And.intro ⟨rfl, xq175, xm175, fun h => absurd h (by decide)⟩ (
  And.intro ⟨rfl, xq176, xm176, fun h => absurd h (by decide)⟩ (
  And.intro ⟨rfl, xq177, xm177, fun h => absurd h (by decide)⟩ (
  And.intro ⟨rfl, xq178, xm178, fun h => absurd h (by decide)⟩ (
  And.intro ⟨rfl, xq179, xm179, fun h => absurd h (by decide)⟩ (
  And.intro ⟨rfl, xq180, xm180, fun h => absurd h (by decide)⟩ (
  And.intro ⟨rfl, xq181, xm181, fun h => absurd h (by decide)⟩ (
  And.intro ⟨rfl, xq182, xm182, fun h => absurd h (by decide)⟩ (
  And.intro ⟨rfl, xq183, xm183, fun h => absurd h (by decide)⟩ (
  And.intro ⟨rfl, xq184, xm184, fun h => absurd h (by decide)⟩ (
  And.intro ⟨rfl, xq185, xm185, fun h => absurd h (by decide)⟩ (
  And.intro ⟨rfl, xq186, xm186, fun h => absurd h (by decide)⟩ (
  And.intro ⟨rfl, xq187, xm187, fun h => absurd h (by decide)⟩ (
  And.intro ⟨rfl, xq188, xm188, fun h => absurd h (by decide)⟩ (
  And.intro ⟨rfl, xq189, xm189, fun h => absurd h (by decide)⟩ (
  And.intro ⟨rfl, xq190, xm190, fun h => absurd h (by decide)⟩ (
  And.intro ⟨rfl, xq191, xm191, fun h => absurd h (by decide)⟩ (
  And.intro ⟨rfl, xq192, xm192, fun h => absurd h (by decide)⟩ (
  And.intro ⟨rfl, xq193, xm193, fun h => absurd h (by decide)⟩ (
  And.intro ⟨rfl, xq194, xm194, fun h => absurd h (by decide)⟩ (
  And.intro ⟨rfl, xq195, xm195, fun h => absurd h (by decide)⟩ (
  And.intro ⟨rfl, xq196, xm196, fun h => absurd h (by decide)⟩ (
  And.intro ⟨rfl, xq197, xm197, fun h => absurd h (by decide)⟩ (
  And.intro ⟨rfl, xq198, xm198, fun h => absurd h (by decide)⟩ (
  And.intro ⟨rfl, xq199, xm199, fun h => absurd h (by decide)⟩ (
  And.intro ⟨rfl, xq200, xm200, fun h => absurd h (by decide)⟩ (
  And.intro ⟨rfl, xq201, xm201, fun h => absurd h (by decide)⟩ (
  And.intro ⟨rfl, xq202, xm202, fun h => absurd h (by decide)⟩ (
  And.intro ⟨rfl, xq203, xm203, fun h => absurd h (by decide)⟩ (
  And.intro ⟨rfl, xq204, xm204, fun h => absurd h (by decide)⟩ (
  And.intro ⟨rfl, xq205, xm205, fun h => absurd h (by decide)⟩ (
  And.intro ⟨rfl, xq206, xm206, fun h => absurd h (by decide)⟩ (
  And.intro ⟨rfl, xq207, xm207, fun h => absurd h (by decide)⟩ (
  And.intro ⟨rfl, xq208, xm208, fun h => absurd h (by decide)⟩ (
  And.intro ⟨rfl, xq209, xm209, fun h => absurd h (by decide)⟩ (
  And.intro ⟨rfl, xq210, xm210, fun h => absurd h (by decide)⟩ (
  And.intro ⟨rfl, xq211, xm211, fun h => absurd h (by decide)⟩ (
  And.intro ⟨rfl, xq212, xm212, fun h => absurd h (by decide)⟩ (
  And.intro ⟨rfl, xq213, xm213, fun h => absurd h (by decide)⟩ (
  And.intro ⟨rfl, xq214, xm214, fun h => absurd h (by decide)⟩ (
  And.intro ⟨rfl, xq215, xm215, fun h => absurd h (by decide)⟩ (
  And.intro ⟨rfl, xq216, xm216, fun h => absurd h (by decide)⟩ (
  And.intro ⟨rfl, xq217, xm217, fun h => absurd h (by decide)⟩ (
  And.intro ⟨rfl, xq218, xm218, fun h => absurd h (by decide)⟩ (
  And.intro ⟨rfl, xq219, xm219, fun h => absurd h (by decide)⟩ (
  And.intro ⟨rfl, xq220, xm220, fun h => absurd h (by decide)⟩ (
  And.intro ⟨rfl, xq221, xm221, fun h => absurd h (by decide)⟩ (
  And.intro ⟨rfl, xq222, xm222, fun h => absurd h (by decide)⟩ (
  And.intro ⟨rfl, xq223, xm223, fun h => absurd h (by decide)⟩ (
  And.intro ⟨rfl, xq224, xm224, fun h => absurd h (by decide)⟩ (
  And.intro ⟨rfl, xq225, xm225, fun h => absurd h (by decide)⟩ (
  And.intro ⟨rfl, xq226, xm226, fun h => absurd h (by decide)⟩ (
  And.intro ⟨rfl, xq227, xm227, fun h => absurd h (by decide)⟩ (
  And.intro ⟨rfl, xq228, xm228, fun h => absurd h (by decide)⟩ (
  And.intro ⟨rfl, xq229, xm229, fun h => absurd h (by decide)⟩ (
  And.intro ⟨rfl, xq230, xm230, fun h => absurd h (by decide)⟩ (
  And.intro ⟨rfl, xq231, xm231, fun h => absurd h (by decide)⟩ (
  And.intro ⟨rfl, xq232, xm232, fun h => absurd h (by decide)⟩ (
  And.intro ⟨rfl, xq233, xm233, fun h => absurd h (by decide)⟩ (
  And.intro ⟨rfl, xq234, xm234, fun h => absurd h (by decide)⟩ (
  And.intro ⟨rfl, xq235, xm235, fun h => absurd h (by decide)⟩ (
  And.intro ⟨rfl, xq236, xm236, fun h => absurd h (by decide)⟩ (
  And.intro ⟨rfl, xq237, xm237, fun h => absurd h (by decide)⟩ (
  And.intro ⟨rfl, xq238, xm238, fun h => absurd h (by decide)⟩ (
  And.intro ⟨rfl, xq239, xm239, fun h => absurd h (by decide)⟩ (
  And.intro ⟨rfl, xq240, xm240, fun h => absurd h (by decide)⟩ (
  And.intro ⟨rfl, xq241, xm241, fun h => absurd h (by decide)⟩ (
  And.intro ⟨rfl, xq242, xm242, fun h => absurd h (by decide)⟩ (
  And.intro ⟨rfl, xq243, xm243, fun h => absurd h (by decide)⟩ (
  And.intro ⟨rfl, xq244, xm244, fun h => absurd h (by decide)⟩ (
  And.intro ⟨rfl, xq245, xm245, fun h => absurd h (by decide)⟩ (
  And.intro ⟨rfl, xq246, xm246, fun h => absurd h (by decide)⟩ (
  And.intro ⟨rfl, xq247, xm247, fun h => absurd h (by decide)⟩ (
  And.intro ⟨rfl, xq248, xm248, fun h => absurd h (by decide)⟩ (
  And.intro ⟨rfl, xq249, xm249, fun h => absurd h (by decide)⟩ (
  And.intro ⟨rfl, xq250, xm250, fun h => absurd h (by decide)⟩ (
  And.intro ⟨rfl, xq251, xm251, fun h => absurd h (by decide)⟩ (
  And.intro ⟨rfl, xq252, xm252, fun h => absurd h (by decide)⟩ (
  And.intro ⟨rfl, xq253, xm253, fun h => absurd h (by decide)⟩ (
  And.intro ⟨rfl, xq254, xm254, fun h => absurd h (by decide)⟩ (
  And.intro ⟨rfl, xq255, xm255, fun h => absurd h (by decide)⟩ (
  And.intro ⟨rfl, xq256, xm256, fun h => absurd h (by decide)⟩ (
  And.intro ⟨rfl, xq257, xm257, fun h => absurd h (by decide)⟩ (
  And.intro ⟨rfl, xq258, xm258, fun h => absurd h (by decide)⟩ (
  And.intro ⟨rfl, xq259, xm259, fun h => absurd h (by decide)⟩ (
  And.intro ⟨rfl, xq260, xm260, fun h => absurd h (by decide)⟩ (
  And.intro ⟨rfl, xq261, xm261, fun h => absurd h (by decide)⟩ (
  And.intro ⟨rfl, xq262, xm262, fun h => absurd h (by decide)⟩ (
  And.intro ⟨rfl, xq263, xm263, fun h => absurd h (by decide)⟩ (
  And.intro ⟨rfl, xq264, xm264, fun h => absurd h (by decide)⟩ (
  And.intro ⟨rfl, xq265, xm265, fun h => absurd h (by decide)⟩ (
  And.intro ⟨rfl, xq266, xm266, fun h => absurd h (by decide)⟩ (
  And.intro ⟨rfl, xq267, xm267, fun h => absurd h (by decide)⟩ (
  trivial))))))))))))))))))))))))))))))))))))))))))))))))))))))))))))))))))))))))))))))))))))))))))))))))))))))))))))))))))))))))))))))))))))))))))))))))))))))))))))))))))))))))))))))))))))))))))))))))))))))))))))))))))))))))))))))))))))))))))))))))))))))))))))))))))))))))))))) h
set_option maxRecDepth 50000 in
theorem xprim : XPrim := ⟨xmemT (j := 126) rfl rfl, xmemT (j := 613) rfl rfl, xmemT (j := 616) rfl rfl, xmemT (j := 1067) rfl rfl⟩
theorem xcls_in {C : String} {T : u_T} {N : Nat} (ps : List Nat) (h : (List.range N).all (fun k => match xnth ps k with
    | some j => decide (lw_tbl[j]? = some (u_lay C T k)) && goodWord (u_lay C T k)
    | none => false) = true) : ∀ u ∈ u_ws C T N, u ∈ xTB := by
  intro u hu
  obtain ⟨k, hk, rfl⟩ := List.mem_map.mp hu
  have := List.all_eq_true.mp h k hk
  split at this
  · simp only [Bool.and_eq_true, decide_eq_true_eq] at this
    exact xmemT this.1 this.2
  · cases this
theorem xtys_ok {T : u_T} {N : Nat} {tys : List FieldType} {ty : Nat → FieldType} (hl : tys.length = N) (h1 : ∀ k, k < N → xnth tys k = some (ty k)) (h2 : ∀ k, k < N → parseFieldDescriptor (T k).2.2.1 = some (ty k)) : ∀ (k : Nat) (t : FieldType), xnth tys k = some t → parseFieldDescriptor (T k).2.2.1 = some t := by
  intro k t h
  have hk : k < N := by rw [← hl]; exact xnth_lt h
  rw [h2 k hk, ← h1 k hk, h]
theorem xci0 : ∀ u ∈ u_ws RX0 TX0 6, u ∈ xTB := xcls_in [394, 396, 398, 400, 402, 404] (by decide +kernel)
theorem xci1 : ∀ u ∈ u_ws RX1 TX1 4, u ∈ xTB := xcls_in [437, 439, 441, 443] (by decide +kernel)
theorem xci2 : ∀ u ∈ u_ws RX2 TX2 4, u ∈ xTB := xcls_in [437, 439, 441, 443] (by decide +kernel)
theorem xci3 : ∀ u ∈ u_ws RX3 TX3 5, u ∈ xTB := xcls_in [191, 193, 195, 197, 199] (by decide +kernel)
theorem xci4 : ∀ u ∈ u_ws RX4 TX4 4, u ∈ xTB := xcls_in [416, 418, 420, 422] (by decide +kernel)
theorem xci5 : ∀ u ∈ u_ws RX5 TX5 5, u ∈ xTB := xcls_in [362, 364, 366, 368, 370] (by decide +kernel)
theorem xci6 : ∀ u ∈ u_ws RX6 TX6 15, u ∈ xTB := xcls_in [275, 277, 279, 281, 283, 285, 287, 289, 291, 293, 295, 297, 299, 301, 303] (by decide +kernel)
theorem xci7 : ∀ u ∈ u_ws RX7 TX7 4, u ∈ xTB := xcls_in [319, 321, 323, 325] (by decide +kernel)
theorem xci8 : ∀ u ∈ u_ws RX8 TX8 10, u ∈ xTB := xcls_in [465, 467, 469, 471, 473, 475, 477, 479, 481, 483] (by decide +kernel)
theorem xci9 : ∀ u ∈ u_ws RX9 TX9 4, u ∈ xTB := xcls_in [496, 498, 500, 502] (by decide +kernel)
theorem xci10 : ∀ u ∈ u_ws RX10 TX10 9, u ∈ xTB := xcls_in [150, 152, 154, 156, 158, 160, 162, 164, 166] (by decide +kernel)
theorem xci11 : ∀ u ∈ u_ws RX11 TX11 2, u ∈ xTB := xcls_in [337, 339] (by decide +kernel)
theorem xci12 : ∀ u ∈ u_ws RX12 TX12 13, u ∈ xTB := xcls_in [520, 522, 524, 526, 528, 530, 532, 534, 536, 538, 540, 542, 544] (by decide +kernel)
theorem xci13 : ∀ u ∈ u_ws RX13 TX13 62, u ∈ xTB := xcls_in [1437, 1439, 1441, 1443, 1445, 1447, 1449, 1451, 1453, 1455, 1457, 1459, 1461, 1463, 1465, 1467, 1469, 1471, 1473, 1475, 1477, 1479, 1481, 1483, 1485, 1487, 1489, 1491, 1493, 1495, 1497, 1499, 1501, 1503, 1505, 1507, 1509, 1511, 1513, 1515, 1517, 1519, 1521, 1523, 1525, 1527, 1529, 1531, 1533, 1535, 1537, 1539, 1541, 1543, 1545, 1547, 1549, 1551, 1553, 1555, 1557, 1559] (by decide +kernel)
theorem xclF (L : Nat) (xs : Nat → Int32) : XClF (L, xs, xbyts, xtys) := by
  intro ci q h
  match ci, h with
  | 0, h => cases h; exact ⟨_, rfl, rfl, xtys_ok rfl (ty := tyX0) (by decide) tyX0_ok, nmX0, xci0⟩
  | 1, h => cases h; exact ⟨_, rfl, rfl, xtys_ok rfl (ty := tyX1) (by decide) tyX1_ok, nmX1, xci1⟩
  | 2, h => cases h; exact ⟨_, rfl, rfl, xtys_ok rfl (ty := tyX2) (by decide) tyX2_ok, nmX2, xci2⟩
  | 3, h => cases h; exact ⟨_, rfl, rfl, xtys_ok rfl (ty := tyX3) (by decide) tyX3_ok, nmX3, xci3⟩
  | 4, h => cases h; exact ⟨_, rfl, rfl, xtys_ok rfl (ty := tyX4) (by decide) tyX4_ok, nmX4, xci4⟩
  | 5, h => cases h; exact ⟨_, rfl, rfl, xtys_ok rfl (ty := tyX5) (by decide) tyX5_ok, nmX5, xci5⟩
  | 6, h => cases h; exact ⟨_, rfl, rfl, xtys_ok rfl (ty := tyX6) (by decide) tyX6_ok, nmX6, xci6⟩
  | 7, h => cases h; exact ⟨_, rfl, rfl, xtys_ok rfl (ty := tyX7) (by decide) tyX7_ok, nmX7, xci7⟩
  | 8, h => cases h; exact ⟨_, rfl, rfl, xtys_ok rfl (ty := tyX8) (by decide) tyX8_ok, nmX8, xci8⟩
  | 9, h => cases h; exact ⟨_, rfl, rfl, xtys_ok rfl (ty := tyX9) (by decide) tyX9_ok, nmX9, xci9⟩
  | 10, h => cases h; exact ⟨_, rfl, rfl, xtys_ok rfl (ty := tyX10) (by decide) tyX10_ok, nmX10, xci10⟩
  | 11, h => cases h; exact ⟨_, rfl, rfl, xtys_ok rfl (ty := tyX11) (by decide) tyX11_ok, nmX11, xci11⟩
  | 12, h => cases h; exact ⟨_, rfl, rfl, xtys_ok rfl (ty := tyX12) (by decide) tyX12_ok, nmX12, xci12⟩
  | 13, h => cases h; exact ⟨_, rfl, rfl, xtys_ok rfl (ty := tyX13) (by decide) tyX13_ok, nmX13, xci13⟩
  | 14, h => cases h; exact ⟨_, rfl, rfl, fun k t h => by simp [xnth] at h, fun a h => absurd h (Nat.not_lt_zero a), fun u h => by simp [u_ws] at h⟩
  | n + 15, h => cases h
theorem x999 : xnth xmeths 999 = none := by decide +kernel
