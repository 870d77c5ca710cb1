theorem wmX11_1 : Cond.methodLink RX11 1 objectInit ∈ kT := kTm 122 (by decide +kernel) rfl
theorem wkX11_7 : Cond.classLink RX11 7 RX8 ∈ kT := kTm 125 (by decide +kernel) rfl
theorem wnX8 : Cond.instantiable RX8 10 ∈ kT := kTm 126 (by decide +kernel) rfl
theorem wiX8 : Cond.initialized RX8 ∈ kT := kTm 95 (by decide +kernel) rfl
theorem wmX11_9 : Cond.methodLinkNest RX11 9 yX8_init "KitchenCards" ∈ kNs := kNm 127 (by decide +kernel) rfl
theorem mwX8_init : kMI yX8_init cX8_init 1 := ⟨kTm 129 (by decide +kernel) rfl, kTm 95 (by decide +kernel) rfl, kTm 128 (by decide +kernel) rfl⟩
theorem wfX11_10 : Cond.fieldLink RX11 10 (TX11 0).1 (TX11 0).2.1 (TX11 0).2.2.1 ∈ kT := kTm 452 (by decide +kernel) rfl
theorem wfX11_16 : Cond.fieldLink RX11 16 (TX11 1).1 (TX11 1).2.1 (TX11 1).2.2.1 ∈ kT := kTm 453 (by decide +kernel) rfl
theorem wfX11_19 : Cond.fieldLink RX11 19 (TX11 2).1 (TX11 2).2.1 (TX11 2).2.2.1 ∈ kT := kTm 454 (by decide +kernel) rfl
theorem wkX11_23 : Cond.classLink RX11 23 RX6 ∈ kT := kTm 171 (by decide +kernel) rfl
theorem wfX11_25 : Cond.fieldLink RX11 25 (TX11 3).1 (TX11 3).2.1 (TX11 3).2.2.1 ∈ kT := kTm 455 (by decide +kernel) rfl
theorem wkX11_29 : Cond.classLink RX11 29 RX2 ∈ kT := kTm 173 (by decide +kernel) rfl
theorem wnX2 : Cond.instantiable RX2 5 ∈ kT := kTm 174 (by decide +kernel) rfl
theorem wiX2 : Cond.initialized RX2 ∈ kT := kTm 96 (by decide +kernel) rfl
theorem wmX11_31 : Cond.methodLinkNest RX11 31 yX2_init "KitchenCards" ∈ kNs := kNm 175 (by decide +kernel) rfl
theorem mwX2_init : kMI yX2_init cX2_init 1 := ⟨kTm 177 (by decide +kernel) rfl, kTm 96 (by decide +kernel) rfl, kTm 176 (by decide +kernel) rfl⟩
theorem wfX11_32 : Cond.fieldLink RX11 32 (TX11 4).1 (TX11 4).2.1 (TX11 4).2.2.1 ∈ kT := kTm 456 (by decide +kernel) rfl
theorem wkX11_36 : Cond.classLink RX11 36 RX10 ∈ kT := kTm 240 (by decide +kernel) rfl
theorem wnX10 : Cond.instantiable RX10 4 ∈ kT := kTm 241 (by decide +kernel) rfl
theorem wiX10 : Cond.initialized RX10 ∈ kT := kTm 99 (by decide +kernel) rfl
theorem wmX11_38 : Cond.methodLinkNest RX11 38 yX10_init "KitchenCards" ∈ kNs := kNm 242 (by decide +kernel) rfl
theorem mwX10_init : kMI yX10_init cX10_init 1 := ⟨kTm 244 (by decide +kernel) rfl, kTm 99 (by decide +kernel) rfl, kTm 243 (by decide +kernel) rfl⟩
theorem wfX11_39 : Cond.fieldLink RX11 39 (TX11 5).1 (TX11 5).2.1 (TX11 5).2.2.1 ∈ kT := kTm 457 (by decide +kernel) rfl
theorem wkX11_43 : Cond.classLink RX11 43 RX4 ∈ kT := kTm 259 (by decide +kernel) rfl
theorem wmX11_45 : Cond.methodLinkNest RX11 45 yX4_init "KitchenCards" ∈ kNs := kNm 261 (by decide +kernel) rfl
theorem wfX11_46 : Cond.fieldLink RX11 46 (TX11 6).1 (TX11 6).2.1 (TX11 6).2.2.1 ∈ kT := kTm 458 (by decide +kernel) rfl
theorem wkX11_50 : Cond.classLink RX11 50 RX9 ∈ kT := kTm 272 (by decide +kernel) rfl
theorem wnX9 : Cond.instantiable RX9 4 ∈ kT := kTm 273 (by decide +kernel) rfl
theorem wiX9 : Cond.initialized RX9 ∈ kT := kTm 101 (by decide +kernel) rfl
theorem wmX11_52 : Cond.methodLinkNest RX11 52 yX9_init "KitchenCards" ∈ kNs := kNm 274 (by decide +kernel) rfl
theorem mwX9_init : kMI yX9_init cX9_init 1 := ⟨kTm 276 (by decide +kernel) rfl, kTm 101 (by decide +kernel) rfl, kTm 275 (by decide +kernel) rfl⟩
theorem wfX11_53 : Cond.fieldLink RX11 53 (TX11 7).1 (TX11 7).2.1 (TX11 7).2.2.1 ∈ kT := kTm 459 (by decide +kernel) rfl
theorem wkX11_57 : Cond.classLink RX11 57 RX7 ∈ kT := kTm 294 (by decide +kernel) rfl
theorem wnX7 : Cond.instantiable RX7 2 ∈ kT := kTm 295 (by decide +kernel) rfl
theorem wiX7 : Cond.initialized RX7 ∈ kT := kTm 102 (by decide +kernel) rfl
theorem wmX11_59 : Cond.methodLinkNest RX11 59 yX7_init "KitchenCards" ∈ kNs := kNm 296 (by decide +kernel) rfl
theorem mwX7_init : kMI yX7_init cX7_init 1 := ⟨kTm 298 (by decide +kernel) rfl, kTm 102 (by decide +kernel) rfl, kTm 297 (by decide +kernel) rfl⟩
theorem wfX11_60 : Cond.fieldLink RX11 60 (TX11 8).1 (TX11 8).2.1 (TX11 8).2.2.1 ∈ kT := kTm 460 (by decide +kernel) rfl
theorem wkX11_64 : Cond.classLink RX11 64 RX5 ∈ kT := kTm 309 (by decide +kernel) rfl
theorem wnX5 : Cond.instantiable RX5 19 ∈ kT := kTm 310 (by decide +kernel) rfl
theorem wiX5 : Cond.initialized RX5 ∈ kT := kTm 103 (by decide +kernel) rfl
theorem wmX11_66 : Cond.methodLink RX11 66 yX5_init ∈ kT := kTm 311 (by decide +kernel) rfl
theorem mwX5_init : kMI yX5_init cX5_init 2 := ⟨kTm 313 (by decide +kernel) rfl, kTm 103 (by decide +kernel) rfl, kTm 312 (by decide +kernel) rfl⟩
theorem wfX11_67 : Cond.fieldLink RX11 67 (TX11 9).1 (TX11 9).2.1 (TX11 9).2.2.1 ∈ kT := kTm 461 (by decide +kernel) rfl
theorem wkX11_71 : Cond.classLink RX11 71 RX3 ∈ kT := kTm 384 (by decide +kernel) rfl
theorem wnX3 : Cond.instantiable RX3 9 ∈ kT := kTm 385 (by decide +kernel) rfl
theorem wiX3 : Cond.initialized RX3 ∈ kT := kTm 104 (by decide +kernel) rfl
theorem wmX11_73 : Cond.methodLink RX11 73 yX3_init ∈ kT := kTm 386 (by decide +kernel) rfl
theorem mwX3_init : kMI yX3_init cX3_init 2 := ⟨kTm 388 (by decide +kernel) rfl, kTm 104 (by decide +kernel) rfl, kTm 387 (by decide +kernel) rfl⟩
theorem wfX11_76 : Cond.fieldLink RX11 76 (TX11 10).1 (TX11 10).2.1 (TX11 10).2.2.1 ∈ kT := kTm 462 (by decide +kernel) rfl
theorem wfX11_80 : Cond.fieldLink RX11 80 (TX11 11).1 (TX11 11).2.1 (TX11 11).2.2.1 ∈ kT := kTm 463 (by decide +kernel) rfl
theorem wfX11_84 : Cond.fieldLink RX11 84 (TX11 12).1 (TX11 12).2.1 (TX11 12).2.2.1 ∈ kT := kTm 464 (by decide +kernel) rfl
theorem wfX11_88 : Cond.fieldLink RX11 88 (TX11 13).1 (TX11 13).2.1 (TX11 13).2.2.1 ∈ kT := kTm 465 (by decide +kernel) rfl
theorem wnX6 : Cond.instantiable RX6 4 ∈ kT := kTm 425 (by decide +kernel) rfl
theorem wiX6 : Cond.initialized RX6 ∈ kT := kTm 105 (by decide +kernel) rfl
theorem wmX11_91 : Cond.methodLinkNest RX11 91 yX6_init "KitchenCards" ∈ kNs := kNm 426 (by decide +kernel) rfl
theorem mwX6_init : kMI yX6_init cX6_init 1 := ⟨kTm 428 (by decide +kernel) rfl, kTm 105 (by decide +kernel) rfl, kTm 427 (by decide +kernel) rfl⟩
theorem wmX11_92 : Cond.methodLinkNest RX11 92 yX3_addAct "KitchenCards" ∈ kNs := kNm 447 (by decide +kernel) rfl
theorem wcX11_95 : Cond.constant RX11 95 (1000000 : Int32) ∈ kT := kTm 451 (by decide +kernel) rfl
theorem wfX11_96 : Cond.fieldLinkNest RX11 96 (TX3 4).1 (TX3 4).2.1 (TX3 4).2.2.1 "KitchenCards" ∈ kNs := kNm 400 (by decide +kernel) rfl
def lX11_init_0 : List (Nat × Instr × Nat) := [(0, .aload_n 0, 1), (1, .invokespecial 1, 3), (4, .aload_n 0, 1), (5, .new 7, 3), (8, .dup, 1), (9, .invokespecial 9, 3), (12, .putfield 10, 3), (15, .aload_n 0, 1), (16, .new 7, 3), (19, .dup, 1), (20, .invokespecial 9, 3), (23, .putfield 16, 3), (26, .aload_n 0, 1), (27, .iconst 0, 1), (28, .putfield 19, 3), (31, .aload_n 0, 1), (32, .bipush 8, 2), (34, .anewarray 23, 3), (37, .putfield 25, 3), (40, .aload_n 0, 1), (41, .new 29, 3), (44, .dup, 1), (45, .invokespecial 31, 3), (48, .putfield 32, 3), (51, .aload_n 0, 1), (52, .new 36, 3), (55, .dup, 1), (56, .invokespecial 38, 3), (59, .putfield 39, 3), (62, .aload_n 0, 1), (63, .new 43, 3), (66, .dup, 1), (67, .invokespecial 45, 3), (70, .putfield 46, 3), (73, .aload_n 0, 1), (74, .new 50, 3), (77, .dup, 1), (78, .invokespecial 52, 3), (81, .putfield 53, 3), (84, .aload_n 0, 1), (85, .new 57, 3), (88, .dup, 1), (89, .invokespecial 59, 3), (92, .putfield 60, 3), (95, .aload_n 0, 1), (96, .new 64, 3), (99, .dup, 1), (100, .invokespecial 66, 3), (103, .putfield 67, 3), (106, .aload_n 0, 1), (107, .new 71, 3), (110, .dup, 1), (111, .iconst 2, 1), (112, .invokespecial 73, 3), (115, .putfield 76, 3), (118, .aload_n 0, 1), (119, .iconst 3, 1), (120, .newarray .int, 2), (122, .putfield 80, 3), (125, .aload_n 0, 1), (126, .iconst 0, 1), (127, .putfield 84, 3), (130, .aload_n 0, 1), (131, .iconst 0, 1), (132, .putfield 88, 3), (135, .iconst 0, 1), (136, .istore_n 1, 1), (137, .iload_n 1, 1), (138, .bipush 8, 2), (140, .if_icmp .ge 22, 3), (143, .aload_n 0, 1), (144, .getfield 25, 3), (147, .iload_n 1, 1), (148, .new 23, 3), (151, .dup, 1), (152, .invokespecial 91, 3), (155, .aastore, 1), (156, .iinc 1 1, 3), (159, .goto (-22), 3), (162, .aload_n 0, 1)]
theorem dtX11_init_0 : kDec cX11_init lX11_init_0 = true := by decide +kernel
def lX11_init_1 : List (Nat × Instr × Nat) := [(163, .getfield 76, 3), (166, .bipush 100, 2), (168, .invokevirtual 92, 3), (171, .aload_n 0, 1), (172, .getfield 76, 3), (175, .bipush 99, 2), (177, .invokevirtual 92, 3), (180, .aload_n 0, 1), (181, .getfield 76, 3), (184, .ldc 95, 2), (186, .putfield 96, 3), (189, .return_, 1)]
theorem dtX11_init_1 : kDec cX11_init lX11_init_1 = true := by decide +kernel
noncomputable def fX11_init (x0 : Nat) (w : kW) : Option kW :=
  (knO w 8).bind fun w1 =>
  (fX8_init (kSz w) w1).bind fun w2 =>
  (kpP w2 11 (some x0) 0 (some (kSz w))).bind fun w4 =>
  (knO w4 8).bind fun w5 =>
  (fX8_init (kSz w4) w5).bind fun w6 =>
  (kpP w6 11 (some x0) 1 (some (kSz w4))).bind fun w8 =>
  (kpI w8 11 (some x0) 2 (0 : Int32)).bind fun w9 =>
  (knA w9 18 (8 : Int32)).bind fun w10 =>
  (kpP w10 11 (some x0) 3 (some (kSz w9))).bind fun w11 =>
  (knO w11 2).bind fun w12 =>
  (fX2_init (kSz w11) w12).bind fun w13 =>
  (kpP w13 11 (some x0) 4 (some (kSz w11))).bind fun w15 =>
  (knO w15 10).bind fun w16 =>
  (fX10_init (kSz w15) w16).bind fun w17 =>
  (kpP w17 11 (some x0) 5 (some (kSz w15))).bind fun w19 =>
  (knO w19 4).bind fun w20 =>
  (fX4_init (kSz w19) w20).bind fun w21 =>
  (kpP w21 11 (some x0) 6 (some (kSz w19))).bind fun w23 =>
  (knO w23 9).bind fun w24 =>
  (fX9_init (kSz w23) w24).bind fun w25 =>
  (kpP w25 11 (some x0) 7 (some (kSz w23))).bind fun w27 =>
  (knO w27 7).bind fun w28 =>
  (fX7_init (kSz w27) w28).bind fun w29 =>
  (kpP w29 11 (some x0) 8 (some (kSz w27))).bind fun w31 =>
  (knO w31 5).bind fun w32 =>
  (fX5_init (kSz w31) w32).bind fun w33 =>
  (kpP w33 11 (some x0) 9 (some (kSz w31))).bind fun w35 =>
  (knO w35 3).bind fun w36 =>
  (fX3_init (kSz w35) (2 : Int32) w36).bind fun w37 =>
  (kpP w37 11 (some x0) 10 (some (kSz w35))).bind fun w39 =>
  (knA w39 14 (3 : Int32)).bind fun w40 =>
  (kpP w40 11 (some x0) 11 (some (kSz w39))).bind fun w41 =>
  (kpI w41 11 (some x0) 12 (0 : Int32)).bind fun w42 =>
  (kpI w42 11 (some x0) 13 (0 : Int32)).bind fun w43 =>
  (kgP w43 11 (some x0) 3).bind fun v44 =>
  (knO w43 6).bind fun w45 =>
  (fX6_init (kSz w43) w45).bind fun w46 =>
  (ksP w46 18 v44 (0 : Int32) (some (kSz w43))).bind fun w48 =>
  (kgP w48 11 (some x0) 3).bind fun v49 =>
  (knO w48 6).bind fun w50 =>
  (fX6_init (kSz w48) w50).bind fun w51 =>
  (ksP w51 18 v49 (1 : Int32) (some (kSz w48))).bind fun w53 =>
  (kgP w53 11 (some x0) 3).bind fun v54 =>
  (knO w53 6).bind fun w55 =>
  (fX6_init (kSz w53) w55).bind fun w56 =>
  (ksP w56 18 v54 (2 : Int32) (some (kSz w53))).bind fun w58 =>
  (kgP w58 11 (some x0) 3).bind fun v59 =>
  (knO w58 6).bind fun w60 =>
  (fX6_init (kSz w58) w60).bind fun w61 =>
  (ksP w61 18 v59 (3 : Int32) (some (kSz w58))).bind fun w63 =>
  (kgP w63 11 (some x0) 3).bind fun v64 =>
  (knO w63 6).bind fun w65 =>
  (fX6_init (kSz w63) w65).bind fun w66 =>
  (ksP w66 18 v64 (4 : Int32) (some (kSz w63))).bind fun w68 =>
  (kgP w68 11 (some x0) 3).bind fun v69 =>
  (knO w68 6).bind fun w70 =>
  (fX6_init (kSz w68) w70).bind fun w71 =>
  (ksP w71 18 v69 (5 : Int32) (some (kSz w68))).bind fun w73 =>
  (kgP w73 11 (some x0) 3).bind fun v74 =>
  (knO w73 6).bind fun w75 =>
  (fX6_init (kSz w73) w75).bind fun w76 =>
  (ksP w76 18 v74 (6 : Int32) (some (kSz w73))).bind fun w78 =>
  (kgP w78 11 (some x0) 3).bind fun v79 =>
  (knO w78 6).bind fun w80 =>
  (fX6_init (kSz w78) w80).bind fun w81 =>
  (ksP w81 18 v79 (7 : Int32) (some (kSz w78))).bind fun w83 =>
  (kgP w83 11 (some x0) 10).bind fun v84 =>
  (kRc w83 3 v84).bind fun b85 =>
  (fX3_addAct b85 (100 : Int32) w83).bind fun w86 =>
  (kgP w86 11 (some x0) 10).bind fun v88 =>
  (kRc w86 3 v88).bind fun b89 =>
  (fX3_addAct b89 (99 : Int32) w86).bind fun w90 =>
  (kgP w90 11 (some x0) 10).bind fun v92 =>
  (kpI w90 3 v92 4 (1000000 : Int32)).bind fun w93 =>
  some w93

set_option maxHeartbeats 4000000 in
set_option maxRecDepth 100000 in
theorem rX11_init (l : Launch) (D : va_G) (aC : Nat → ClassId) {x0 : Nat} {w : kW} {wR : kW} (h : fX11_init x0 w = some wR) : kC l D aC yX11_init cX11_init 2 none 3 64 [.ref x0] w none wR 236 32782 := by
  refine kOf (own := RX11) (by decide) rfl (Nat.le_of_ble_eq_true rfl) ?_
  intro p e s m below meth c ls F hml hr hlocks hnm hX hZ hl
  obtain ⟨hx, hb, hts, hown, hK⟩ := id F
  have hl : lv_has ls 2 [(0, .ref x0)] := hl
  have hf := h
  rw [fX11_init] at hf
  refine lv_aload_n hx hb (kd dtX11_init_0 0 rfl) rfl (lv_at hl 0 rfl) ?_
  refine kobj F (hml.trans hl.1.symm) wmX11_1 (Nat.le_of_ble_eq_true rfl) (Nat.le_of_ble_eq_true rfl) (kd dtX11_init_0 1 rfl) ?_
  refine lv_aload_n hx hb (kd dtX11_init_0 2 rfl) rfl (lv_at hl 0 rfl) ?_
  obtain ⟨w1, hw1, hf⟩ := kbind hf
  refine knewo (k := 8) hw1 F hX hinX8 tyX8_ok (by decide +kernel) rfl rfl (by decide) wkX11_7 wnX8 wiX8 (Nat.le_of_ble_eq_true rfl) (Nat.le_of_ble_eq_true rfl) (kd dtX11_init_0 3 rfl) (fun H hX => ?_)
  refine lv_dup hx hb (kd dtX11_init_0 4 rfl) rfl ?_
  obtain ⟨w2, h3, hf⟩ := kbind hf
  refine kcallIN (n := 0) [] [.ref (kSz w), .ref x0] [.ref (kSz w), .ref x0] (rX8_init l D aC h3) F hml hX hZ hl.1 mwX8_init wmX11_9 rfl (by decide +kernel) ⟨(by decide), (by decide)⟩ rfl rfl rfl (Nat.le_of_ble_eq_true rfl) (kd dtX11_init_0 5 rfl) ⟨Nat.le_of_ble_eq_true rfl, Nat.le_of_ble_eq_true rfl⟩ (fun H locs hX => ?_)
  obtain ⟨w4, hw4, hf⟩ := kbind hf
  refine kputP hw4 F hX hinX11 tyX11_ok nmX11 rfl rfl rfl (by decide) (by decide) wfX11_10 (Or.inr ⟨rfl, hnm, rfl⟩) (kd dtX11_init_0 6 rfl) (fun H locs hX => ?_)
  refine lv_aload_n hx hb (kd dtX11_init_0 7 rfl) rfl (lv_at hl 0 rfl) ?_
  obtain ⟨w5, hw5, hf⟩ := kbind hf
  refine knewo (k := 8) hw5 F hX hinX8 tyX8_ok (by decide +kernel) rfl rfl (by decide) wkX11_7 wnX8 wiX8 (Nat.le_of_ble_eq_true rfl) (Nat.le_of_ble_eq_true rfl) (kd dtX11_init_0 8 rfl) (fun H hX => ?_)
  refine lv_dup hx hb (kd dtX11_init_0 9 rfl) rfl ?_
  obtain ⟨w6, h7, hf⟩ := kbind hf
  refine kcallIN (n := 0) [] [.ref (kSz w4), .ref x0] [.ref (kSz w4), .ref x0] (rX8_init l D aC h7) F hml hX hZ hl.1 mwX8_init wmX11_9 rfl (by decide +kernel) ⟨(by decide), (by decide)⟩ rfl rfl rfl (Nat.le_of_ble_eq_true rfl) (kd dtX11_init_0 10 rfl) ⟨Nat.le_of_ble_eq_true rfl, Nat.le_of_ble_eq_true rfl⟩ (fun H locs hX => ?_)
  obtain ⟨w8, hw8, hf⟩ := kbind hf
  refine kputP hw8 F hX hinX11 tyX11_ok nmX11 rfl rfl rfl (by decide) (by decide) wfX11_16 (Or.inr ⟨rfl, hnm, rfl⟩) (kd dtX11_init_0 11 rfl) (fun H locs hX => ?_)
  refine lv_aload_n hx hb (kd dtX11_init_0 12 rfl) rfl (lv_at hl 0 rfl) ?_
  refine lv_iconst (v := (0 : Int32)) hx hb (kd dtX11_init_0 13 rfl) (by decide) ?_
  obtain ⟨w9, hw9, hf⟩ := kbind hf
  refine kputI hw9 F hX hinX11 tyX11_ok nmX11 rfl rfl rfl (by decide) (by decide) wfX11_19 rfl rfl (Or.inl rfl) (kd dtX11_init_0 14 rfl) (fun H locs hX => ?_)
  refine lv_aload_n hx hb (kd dtX11_init_0 15 rfl) rfl (lv_at hl 0 rfl) ?_
  refine lv_bipush (v := (8 : Int32)) hx hb (kd dtX11_init_0 16 rfl) (by decide) ?_
  obtain ⟨w10, hw10, hf⟩ := kbind hf
  refine knewq (mx := 8) hw10 rfl (by decide) (by decide) F hX hZ.2.1.2.2 wkX11_23 (by decide) (by decide) (Nat.le_of_ble_eq_true rfl) (Nat.le_of_ble_eq_true rfl) (kd dtX11_init_0 17 rfl) (fun H hX => ?_)
  obtain ⟨w11, hw11, hf⟩ := kbind hf
  refine kputP hw11 F hX hinX11 tyX11_ok nmX11 rfl rfl rfl (by decide) (by decide) wfX11_25 (Or.inr ⟨rfl, hnm, rfl⟩) (kd dtX11_init_0 18 rfl) (fun H locs hX => ?_)
  refine lv_aload_n hx hb (kd dtX11_init_0 19 rfl) rfl (lv_at hl 0 rfl) ?_
  obtain ⟨w12, hw12, hf⟩ := kbind hf
  refine knewo (k := 2) hw12 F hX hinX2 tyX2_ok (by decide +kernel) rfl rfl (by decide) wkX11_29 wnX2 wiX2 (Nat.le_of_ble_eq_true rfl) (Nat.le_of_ble_eq_true rfl) (kd dtX11_init_0 20 rfl) (fun H hX => ?_)
  refine lv_dup hx hb (kd dtX11_init_0 21 rfl) rfl ?_
  obtain ⟨w13, h14, hf⟩ := kbind hf
  refine kcallIN (n := 0) [] [.ref (kSz w11), .ref x0] [.ref (kSz w11), .ref x0] (rX2_init l D aC h14) F hml hX hZ hl.1 mwX2_init wmX11_31 rfl (by decide +kernel) ⟨(by decide), (by decide)⟩ rfl rfl rfl (Nat.le_of_ble_eq_true rfl) (kd dtX11_init_0 22 rfl) ⟨Nat.le_of_ble_eq_true rfl, Nat.le_of_ble_eq_true rfl⟩ (fun H locs hX => ?_)
  obtain ⟨w15, hw15, hf⟩ := kbind hf
  refine kputP hw15 F hX hinX11 tyX11_ok nmX11 rfl rfl rfl (by decide) (by decide) wfX11_32 (Or.inr ⟨rfl, hnm, rfl⟩) (kd dtX11_init_0 23 rfl) (fun H locs hX => ?_)
  refine lv_aload_n hx hb (kd dtX11_init_0 24 rfl) rfl (lv_at hl 0 rfl) ?_
  obtain ⟨w16, hw16, hf⟩ := kbind hf
  refine knewo (k := 10) hw16 F hX hinX10 tyX10_ok (by decide +kernel) rfl rfl (by decide) wkX11_36 wnX10 wiX10 (Nat.le_of_ble_eq_true rfl) (Nat.le_of_ble_eq_true rfl) (kd dtX11_init_0 25 rfl) (fun H hX => ?_)
  refine lv_dup hx hb (kd dtX11_init_0 26 rfl) rfl ?_
  obtain ⟨w17, h18, hf⟩ := kbind hf
  refine kcallIN (n := 0) [] [.ref (kSz w15), .ref x0] [.ref (kSz w15), .ref x0] (rX10_init l D aC h18) F hml hX hZ hl.1 mwX10_init wmX11_38 rfl (by decide +kernel) ⟨(by decide), (by decide)⟩ rfl rfl rfl (Nat.le_of_ble_eq_true rfl) (kd dtX11_init_0 27 rfl) ⟨Nat.le_of_ble_eq_true rfl, Nat.le_of_ble_eq_true rfl⟩ (fun H locs hX => ?_)
  obtain ⟨w19, hw19, hf⟩ := kbind hf
  refine kputP hw19 F hX hinX11 tyX11_ok nmX11 rfl rfl rfl (by decide) (by decide) wfX11_39 (Or.inr ⟨rfl, hnm, rfl⟩) (kd dtX11_init_0 28 rfl) (fun H locs hX => ?_)
  refine lv_aload_n hx hb (kd dtX11_init_0 29 rfl) rfl (lv_at hl 0 rfl) ?_
  obtain ⟨w20, hw20, hf⟩ := kbind hf
  refine knewo (k := 4) hw20 F hX hinX4 tyX4_ok (by decide +kernel) rfl rfl (by decide) wkX11_43 wnX4 wiX4 (Nat.le_of_ble_eq_true rfl) (Nat.le_of_ble_eq_true rfl) (kd dtX11_init_0 30 rfl) (fun H hX => ?_)
  refine lv_dup hx hb (kd dtX11_init_0 31 rfl) rfl ?_
  obtain ⟨w21, h22, hf⟩ := kbind hf
  refine kcallIN (n := 0) [] [.ref (kSz w19), .ref x0] [.ref (kSz w19), .ref x0] (rX4_init l D aC h22) F hml hX hZ hl.1 mwX4_init wmX11_45 rfl (by decide +kernel) ⟨(by decide), (by decide)⟩ rfl rfl rfl (Nat.le_of_ble_eq_true rfl) (kd dtX11_init_0 32 rfl) ⟨Nat.le_of_ble_eq_true rfl, Nat.le_of_ble_eq_true rfl⟩ (fun H locs hX => ?_)
  obtain ⟨w23, hw23, hf⟩ := kbind hf
  refine kputP hw23 F hX hinX11 tyX11_ok nmX11 rfl rfl rfl (by decide) (by decide) wfX11_46 (Or.inr ⟨rfl, hnm, rfl⟩) (kd dtX11_init_0 33 rfl) (fun H locs hX => ?_)
  refine lv_aload_n hx hb (kd dtX11_init_0 34 rfl) rfl (lv_at hl 0 rfl) ?_
  obtain ⟨w24, hw24, hf⟩ := kbind hf
  refine knewo (k := 9) hw24 F hX hinX9 tyX9_ok (by decide +kernel) rfl rfl (by decide) wkX11_50 wnX9 wiX9 (Nat.le_of_ble_eq_true rfl) (Nat.le_of_ble_eq_true rfl) (kd dtX11_init_0 35 rfl) (fun H hX => ?_)
  refine lv_dup hx hb (kd dtX11_init_0 36 rfl) rfl ?_
  obtain ⟨w25, h26, hf⟩ := kbind hf
  refine kcallIN (n := 0) [] [.ref (kSz w23), .ref x0] [.ref (kSz w23), .ref x0] (rX9_init l D aC h26) F hml hX hZ hl.1 mwX9_init wmX11_52 rfl (by decide +kernel) ⟨(by decide), (by decide)⟩ rfl rfl rfl (Nat.le_of_ble_eq_true rfl) (kd dtX11_init_0 37 rfl) ⟨Nat.le_of_ble_eq_true rfl, Nat.le_of_ble_eq_true rfl⟩ (fun H locs hX => ?_)
  obtain ⟨w27, hw27, hf⟩ := kbind hf
  refine kputP hw27 F hX hinX11 tyX11_ok nmX11 rfl rfl rfl (by decide) (by decide) wfX11_53 (Or.inr ⟨rfl, hnm, rfl⟩) (kd dtX11_init_0 38 rfl) (fun H locs hX => ?_)
  refine lv_aload_n hx hb (kd dtX11_init_0 39 rfl) rfl (lv_at hl 0 rfl) ?_
  obtain ⟨w28, hw28, hf⟩ := kbind hf
  refine knewo (k := 7) hw28 F hX hinX7 tyX7_ok (by decide +kernel) rfl rfl (by decide) wkX11_57 wnX7 wiX7 (Nat.le_of_ble_eq_true rfl) (Nat.le_of_ble_eq_true rfl) (kd dtX11_init_0 40 rfl) (fun H hX => ?_)
  refine lv_dup hx hb (kd dtX11_init_0 41 rfl) rfl ?_
  obtain ⟨w29, h30, hf⟩ := kbind hf
  refine kcallIN (n := 0) [] [.ref (kSz w27), .ref x0] [.ref (kSz w27), .ref x0] (rX7_init l D aC h30) F hml hX hZ hl.1 mwX7_init wmX11_59 rfl (by decide +kernel) ⟨(by decide), (by decide)⟩ rfl rfl rfl (Nat.le_of_ble_eq_true rfl) (kd dtX11_init_0 42 rfl) ⟨Nat.le_of_ble_eq_true rfl, Nat.le_of_ble_eq_true rfl⟩ (fun H locs hX => ?_)
  obtain ⟨w31, hw31, hf⟩ := kbind hf
  refine kputP hw31 F hX hinX11 tyX11_ok nmX11 rfl rfl rfl (by decide) (by decide) wfX11_60 (Or.inr ⟨rfl, hnm, rfl⟩) (kd dtX11_init_0 43 rfl) (fun H locs hX => ?_)
  refine lv_aload_n hx hb (kd dtX11_init_0 44 rfl) rfl (lv_at hl 0 rfl) ?_
  obtain ⟨w32, hw32, hf⟩ := kbind hf
  refine knewo (k := 5) hw32 F hX hinX5 tyX5_ok (by decide +kernel) rfl rfl (by decide) wkX11_64 wnX5 wiX5 (Nat.le_of_ble_eq_true rfl) (Nat.le_of_ble_eq_true rfl) (kd dtX11_init_0 45 rfl) (fun H hX => ?_)
  refine lv_dup hx hb (kd dtX11_init_0 46 rfl) rfl ?_
  obtain ⟨w33, h34, hf⟩ := kbind hf
  refine kcallI (n := 0) [] [.ref (kSz w31), .ref x0] [.ref (kSz w31), .ref x0] (rX5_init l D aC h34) F hml hX hZ hl.1 mwX5_init wmX11_66 rfl (by decide +kernel) ⟨(by decide), (by decide)⟩ rfl rfl rfl (Nat.le_of_ble_eq_true rfl) (kd dtX11_init_0 47 rfl) ⟨Nat.le_of_ble_eq_true rfl, Nat.le_of_ble_eq_true rfl⟩ (fun H locs hX => ?_)
  obtain ⟨w35, hw35, hf⟩ := kbind hf
  refine kputP hw35 F hX hinX11 tyX11_ok nmX11 rfl rfl rfl (by decide) (by decide) wfX11_67 (Or.inr ⟨rfl, hnm, rfl⟩) (kd dtX11_init_0 48 rfl) (fun H locs hX => ?_)
  refine lv_aload_n hx hb (kd dtX11_init_0 49 rfl) rfl (lv_at hl 0 rfl) ?_
  obtain ⟨w36, hw36, hf⟩ := kbind hf
  refine knewo (k := 3) hw36 F hX hinX3 tyX3_ok (by decide +kernel) rfl rfl (by decide) wkX11_71 wnX3 wiX3 (Nat.le_of_ble_eq_true rfl) (Nat.le_of_ble_eq_true rfl) (kd dtX11_init_0 50 rfl) (fun H hX => ?_)
  refine lv_dup hx hb (kd dtX11_init_0 51 rfl) rfl ?_
  refine lv_iconst (v := (2 : Int32)) hx hb (kd dtX11_init_0 52 rfl) (by decide) ?_
  obtain ⟨w37, h38, hf⟩ := kbind hf
  refine kcallI (n := 1) [.int (2 : Int32)] [.ref (kSz w35), .ref x0] [.ref (kSz w35), .ref x0] (rX3_init l D aC h38) F hml hX hZ hl.1 mwX3_init wmX11_73 rfl (by decide +kernel) ⟨(by decide), (by decide)⟩ rfl rfl rfl (Nat.le_of_ble_eq_true rfl) (kd dtX11_init_0 53 rfl) ⟨Nat.le_of_ble_eq_true rfl, Nat.le_of_ble_eq_true rfl⟩ (fun H locs hX => ?_)
  obtain ⟨w39, hw39, hf⟩ := kbind hf
  refine kputP hw39 F hX hinX11 tyX11_ok nmX11 rfl rfl rfl (by decide) (by decide) wfX11_76 (Or.inr ⟨rfl, hnm, rfl⟩) (kd dtX11_init_0 54 rfl) (fun H locs hX => ?_)
  refine lv_aload_n hx hb (kd dtX11_init_0 55 rfl) rfl (lv_at hl 0 rfl) ?_
  refine lv_iconst (v := (3 : Int32)) hx hb (kd dtX11_init_0 56 rfl) (by decide) ?_
  obtain ⟨w40, hw40, hf⟩ := kbind hf
  refine knewa (mx := 3) hw40 rfl (fun _ => rfl) (by decide) (by decide) F hX wA14 (by decide) (by decide) (Nat.le_of_ble_eq_true rfl) (Nat.le_of_ble_eq_true rfl) (kd dtX11_init_0 57 rfl) (fun H hX => ?_)
  obtain ⟨w41, hw41, hf⟩ := kbind hf
  refine kputP hw41 F hX hinX11 tyX11_ok nmX11 rfl rfl rfl (by decide) (by decide) wfX11_80 (Or.inr ⟨rfl, hnm, rfl⟩) (kd dtX11_init_0 58 rfl) (fun H locs hX => ?_)
  refine lv_aload_n hx hb (kd dtX11_init_0 59 rfl) rfl (lv_at hl 0 rfl) ?_
  refine lv_iconst (v := (0 : Int32)) hx hb (kd dtX11_init_0 60 rfl) (by decide) ?_
  obtain ⟨w42, hw42, hf⟩ := kbind hf
  refine kputI hw42 F hX hinX11 tyX11_ok nmX11 rfl rfl rfl (by decide) (by decide) wfX11_84 rfl rfl (Or.inl rfl) (kd dtX11_init_0 61 rfl) (fun H locs hX => ?_)
  refine lv_aload_n hx hb (kd dtX11_init_0 62 rfl) rfl (lv_at hl 0 rfl) ?_
  refine lv_iconst (v := (0 : Int32)) hx hb (kd dtX11_init_0 63 rfl) (by decide) ?_
  obtain ⟨w43, hw43, hf⟩ := kbind hf
  refine kputI hw43 F hX hinX11 tyX11_ok nmX11 rfl rfl rfl (by decide) (by decide) wfX11_88 rfl rfl (Or.inl rfl) (kd dtX11_init_0 64 rfl) (fun H locs hX => ?_)
  refine lv_iconst (v := (0 : Int32)) hx hb (kd dtX11_init_0 65 rfl) (by decide) ?_
  refine lv_istore_n (lv' := [(1, .int (0 : Int32)), (0, .ref x0)]) hx hb (kd dtX11_init_0 66 rfl) rfl hl (by decide) rfl (fun ls hl => ?_)
  refine lv_iload_n hx hb (kd dtX11_init_0 67 rfl) rfl (lv_at hl 0 rfl) ?_
  refine lv_bipush (v := (8 : Int32)) hx hb (kd dtX11_init_0 68 rfl) (by decide) ?_
  refine lv_icmp_ge (tgt := 162) hx hb (kd dtX11_init_0 69 rfl) (by decide) (fun hc => ?_) (fun hc => ?_)
  · exact absurd hc (by decide)
  · skip
    refine lv_aload_n hx hb (kd dtX11_init_0 70 rfl) rfl (lv_at hl 1 rfl) ?_
    obtain ⟨v44, hv44, hf⟩ := kbind hf
    refine kgetP hv44 F hX hinX11 rfl rfl rfl (by decide) (by decide) wfX11_25 (kd dtX11_init_0 71 rfl) ?_
    refine lv_iload_n hx hb (kd dtX11_init_0 72 rfl) rfl (lv_at hl 0 rfl) ?_
    obtain ⟨w45, hw45, hf⟩ := kbind hf
    refine knewo (k := 6) hw45 F hX hinX6 tyX6_ok (by decide +kernel) rfl rfl (by decide) wkX11_23 wnX6 wiX6 (Nat.le_of_ble_eq_true rfl) (Nat.le_of_ble_eq_true rfl) (kd dtX11_init_0 73 rfl) (fun H hX => ?_)
    refine lv_dup hx hb (kd dtX11_init_0 74 rfl) rfl ?_
    obtain ⟨w46, h47, hf⟩ := kbind hf
    refine kcallIN (n := 0) [] [.ref (kSz w43), .int (0 : Int32), va_rf v44] [.ref (kSz w43), .int (0 : Int32), va_rf v44] (rX6_init l D aC h47) F hml hX hZ hl.1 mwX6_init wmX11_91 rfl (by decide +kernel) ⟨(by decide), (by decide)⟩ rfl rfl rfl (by simp [kcat_rf, kcat_i, kcat_r, kcat_l]) (kd dtX11_init_0 75 rfl) ⟨Nat.le_of_ble_eq_true rfl, Nat.le_of_ble_eq_true rfl⟩ (fun H locs hX => ?_)
    obtain ⟨w48, hw48, hf⟩ := kbind hf
    refine kqst18 hw48 F hX (kd dtX11_init_0 76 rfl) (fun H locs hX => ?_)
    refine lv_iinc (v := (1 : Int32)) (lv' := [(1, .int (1 : Int32)), (0, .ref x0)]) hx hb (kd dtX11_init_0 77 rfl) hl (k := 0) rfl (by decide) (by decide) rfl (fun ls hl => ?_)
    refine lv_goto (tgt := 137) hx hb (kd dtX11_init_0 78 rfl) (by decide) ?_
    refine lv_iload_n hx hb (kd dtX11_init_0 67 rfl) rfl (lv_at hl 0 rfl) ?_
    refine lv_bipush (v := (8 : Int32)) hx hb (kd dtX11_init_0 68 rfl) (by decide) ?_
    refine lv_icmp_ge (tgt := 162) hx hb (kd dtX11_init_0 69 rfl) (by decide) (fun hc => ?_) (fun hc => ?_)
    · exact absurd hc (by decide)
    · skip
      refine lv_aload_n hx hb (kd dtX11_init_0 70 rfl) rfl (lv_at hl 1 rfl) ?_
      obtain ⟨v49, hv49, hf⟩ := kbind hf
      refine kgetP hv49 F hX hinX11 rfl rfl rfl (by decide) (by decide) wfX11_25 (kd dtX11_init_0 71 rfl) ?_
      refine lv_iload_n hx hb (kd dtX11_init_0 72 rfl) rfl (lv_at hl 0 rfl) ?_
      obtain ⟨w50, hw50, hf⟩ := kbind hf
      refine knewo (k := 6) hw50 F hX hinX6 tyX6_ok (by decide +kernel) rfl rfl (by decide) wkX11_23 wnX6 wiX6 (Nat.le_of_ble_eq_true rfl) (Nat.le_of_ble_eq_true rfl) (kd dtX11_init_0 73 rfl) (fun H hX => ?_)
      refine lv_dup hx hb (kd dtX11_init_0 74 rfl) rfl ?_
      obtain ⟨w51, h52, hf⟩ := kbind hf
      refine kcallIN (n := 0) [] [.ref (kSz w48), .int (1 : Int32), va_rf v49] [.ref (kSz w48), .int (1 : Int32), va_rf v49] (rX6_init l D aC h52) F hml hX hZ hl.1 mwX6_init wmX11_91 rfl (by decide +kernel) ⟨(by decide), (by decide)⟩ rfl rfl rfl (by simp [kcat_rf, kcat_i, kcat_r, kcat_l]) (kd dtX11_init_0 75 rfl) ⟨Nat.le_of_ble_eq_true rfl, Nat.le_of_ble_eq_true rfl⟩ (fun H locs hX => ?_)
      obtain ⟨w53, hw53, hf⟩ := kbind hf
      refine kqst18 hw53 F hX (kd dtX11_init_0 76 rfl) (fun H locs hX => ?_)
      refine lv_iinc (v := (2 : Int32)) (lv' := [(1, .int (2 : Int32)), (0, .ref x0)]) hx hb (kd dtX11_init_0 77 rfl) hl (k := 0) rfl (by decide) (by decide) rfl (fun ls hl => ?_)
      refine lv_goto (tgt := 137) hx hb (kd dtX11_init_0 78 rfl) (by decide) ?_
      refine lv_iload_n hx hb (kd dtX11_init_0 67 rfl) rfl (lv_at hl 0 rfl) ?_
      refine lv_bipush (v := (8 : Int32)) hx hb (kd dtX11_init_0 68 rfl) (by decide) ?_
      refine lv_icmp_ge (tgt := 162) hx hb (kd dtX11_init_0 69 rfl) (by decide) (fun hc => ?_) (fun hc => ?_)
      · exact absurd hc (by decide)
      · skip
        refine lv_aload_n hx hb (kd dtX11_init_0 70 rfl) rfl (lv_at hl 1 rfl) ?_
        obtain ⟨v54, hv54, hf⟩ := kbind hf
        refine kgetP hv54 F hX hinX11 rfl rfl rfl (by decide) (by decide) wfX11_25 (kd dtX11_init_0 71 rfl) ?_
        refine lv_iload_n hx hb (kd dtX11_init_0 72 rfl) rfl (lv_at hl 0 rfl) ?_
        obtain ⟨w55, hw55, hf⟩ := kbind hf
        refine knewo (k := 6) hw55 F hX hinX6 tyX6_ok (by decide +kernel) rfl rfl (by decide) wkX11_23 wnX6 wiX6 (Nat.le_of_ble_eq_true rfl) (Nat.le_of_ble_eq_true rfl) (kd dtX11_init_0 73 rfl) (fun H hX => ?_)
        refine lv_dup hx hb (kd dtX11_init_0 74 rfl) rfl ?_
        obtain ⟨w56, h57, hf⟩ := kbind hf
        refine kcallIN (n := 0) [] [.ref (kSz w53), .int (2 : Int32), va_rf v54] [.ref (kSz w53), .int (2 : Int32), va_rf v54] (rX6_init l D aC h57) F hml hX hZ hl.1 mwX6_init wmX11_91 rfl (by decide +kernel) ⟨(by decide), (by decide)⟩ rfl rfl rfl (by simp [kcat_rf, kcat_i, kcat_r, kcat_l]) (kd dtX11_init_0 75 rfl) ⟨Nat.le_of_ble_eq_true rfl, Nat.le_of_ble_eq_true rfl⟩ (fun H locs hX => ?_)
        obtain ⟨w58, hw58, hf⟩ := kbind hf
        refine kqst18 hw58 F hX (kd dtX11_init_0 76 rfl) (fun H locs hX => ?_)
        refine lv_iinc (v := (3 : Int32)) (lv' := [(1, .int (3 : Int32)), (0, .ref x0)]) hx hb (kd dtX11_init_0 77 rfl) hl (k := 0) rfl (by decide) (by decide) rfl (fun ls hl => ?_)
        refine lv_goto (tgt := 137) hx hb (kd dtX11_init_0 78 rfl) (by decide) ?_
        refine lv_iload_n hx hb (kd dtX11_init_0 67 rfl) rfl (lv_at hl 0 rfl) ?_
        refine lv_bipush (v := (8 : Int32)) hx hb (kd dtX11_init_0 68 rfl) (by decide) ?_
        refine lv_icmp_ge (tgt := 162) hx hb (kd dtX11_init_0 69 rfl) (by decide) (fun hc => ?_) (fun hc => ?_)
        · exact absurd hc (by decide)
        · skip
          refine lv_aload_n hx hb (kd dtX11_init_0 70 rfl) rfl (lv_at hl 1 rfl) ?_
          obtain ⟨v59, hv59, hf⟩ := kbind hf
          refine kgetP hv59 F hX hinX11 rfl rfl rfl (by decide) (by decide) wfX11_25 (kd dtX11_init_0 71 rfl) ?_
          refine lv_iload_n hx hb (kd dtX11_init_0 72 rfl) rfl (lv_at hl 0 rfl) ?_
          obtain ⟨w60, hw60, hf⟩ := kbind hf
          refine knewo (k := 6) hw60 F hX hinX6 tyX6_ok (by decide +kernel) rfl rfl (by decide) wkX11_23 wnX6 wiX6 (Nat.le_of_ble_eq_true rfl) (Nat.le_of_ble_eq_true rfl) (kd dtX11_init_0 73 rfl) (fun H hX => ?_)
          refine lv_dup hx hb (kd dtX11_init_0 74 rfl) rfl ?_
          obtain ⟨w61, h62, hf⟩ := kbind hf
          refine kcallIN (n := 0) [] [.ref (kSz w58), .int (3 : Int32), va_rf v59] [.ref (kSz w58), .int (3 : Int32), va_rf v59] (rX6_init l D aC h62) F hml hX hZ hl.1 mwX6_init wmX11_91 rfl (by decide +kernel) ⟨(by decide), (by decide)⟩ rfl rfl rfl (by simp [kcat_rf, kcat_i, kcat_r, kcat_l]) (kd dtX11_init_0 75 rfl) ⟨Nat.le_of_ble_eq_true rfl, Nat.le_of_ble_eq_true rfl⟩ (fun H locs hX => ?_)
          obtain ⟨w63, hw63, hf⟩ := kbind hf
          refine kqst18 hw63 F hX (kd dtX11_init_0 76 rfl) (fun H locs hX => ?_)
          refine lv_iinc (v := (4 : Int32)) (lv' := [(1, .int (4 : Int32)), (0, .ref x0)]) hx hb (kd dtX11_init_0 77 rfl) hl (k := 0) rfl (by decide) (by decide) rfl (fun ls hl => ?_)
          refine lv_goto (tgt := 137) hx hb (kd dtX11_init_0 78 rfl) (by decide) ?_
          refine lv_iload_n hx hb (kd dtX11_init_0 67 rfl) rfl (lv_at hl 0 rfl) ?_
          refine lv_bipush (v := (8 : Int32)) hx hb (kd dtX11_init_0 68 rfl) (by decide) ?_
          refine lv_icmp_ge (tgt := 162) hx hb (kd dtX11_init_0 69 rfl) (by decide) (fun hc => ?_) (fun hc => ?_)
          · exact absurd hc (by decide)
          · skip
            refine lv_aload_n hx hb (kd dtX11_init_0 70 rfl) rfl (lv_at hl 1 rfl) ?_
            obtain ⟨v64, hv64, hf⟩ := kbind hf
            refine kgetP hv64 F hX hinX11 rfl rfl rfl (by decide) (by decide) wfX11_25 (kd dtX11_init_0 71 rfl) ?_
            refine lv_iload_n hx hb (kd dtX11_init_0 72 rfl) rfl (lv_at hl 0 rfl) ?_
            obtain ⟨w65, hw65, hf⟩ := kbind hf
            refine knewo (k := 6) hw65 F hX hinX6 tyX6_ok (by decide +kernel) rfl rfl (by decide) wkX11_23 wnX6 wiX6 (Nat.le_of_ble_eq_true rfl) (Nat.le_of_ble_eq_true rfl) (kd dtX11_init_0 73 rfl) (fun H hX => ?_)
            refine lv_dup hx hb (kd dtX11_init_0 74 rfl) rfl ?_
            obtain ⟨w66, h67, hf⟩ := kbind hf
            refine kcallIN (n := 0) [] [.ref (kSz w63), .int (4 : Int32), va_rf v64] [.ref (kSz w63), .int (4 : Int32), va_rf v64] (rX6_init l D aC h67) F hml hX hZ hl.1 mwX6_init wmX11_91 rfl (by decide +kernel) ⟨(by decide), (by decide)⟩ rfl rfl rfl (by simp [kcat_rf, kcat_i, kcat_r, kcat_l]) (kd dtX11_init_0 75 rfl) ⟨Nat.le_of_ble_eq_true rfl, Nat.le_of_ble_eq_true rfl⟩ (fun H locs hX => ?_)
            obtain ⟨w68, hw68, hf⟩ := kbind hf
            refine kqst18 hw68 F hX (kd dtX11_init_0 76 rfl) (fun H locs hX => ?_)
            refine lv_iinc (v := (5 : Int32)) (lv' := [(1, .int (5 : Int32)), (0, .ref x0)]) hx hb (kd dtX11_init_0 77 rfl) hl (k := 0) rfl (by decide) (by decide) rfl (fun ls hl => ?_)
            refine lv_goto (tgt := 137) hx hb (kd dtX11_init_0 78 rfl) (by decide) ?_
            refine lv_iload_n hx hb (kd dtX11_init_0 67 rfl) rfl (lv_at hl 0 rfl) ?_
            refine lv_bipush (v := (8 : Int32)) hx hb (kd dtX11_init_0 68 rfl) (by decide) ?_
            refine lv_icmp_ge (tgt := 162) hx hb (kd dtX11_init_0 69 rfl) (by decide) (fun hc => ?_) (fun hc => ?_)
            · exact absurd hc (by decide)
            · skip
              refine lv_aload_n hx hb (kd dtX11_init_0 70 rfl) rfl (lv_at hl 1 rfl) ?_
              obtain ⟨v69, hv69, hf⟩ := kbind hf
              refine kgetP hv69 F hX hinX11 rfl rfl rfl (by decide) (by decide) wfX11_25 (kd dtX11_init_0 71 rfl) ?_
              refine lv_iload_n hx hb (kd dtX11_init_0 72 rfl) rfl (lv_at hl 0 rfl) ?_
              obtain ⟨w70, hw70, hf⟩ := kbind hf
              refine knewo (k := 6) hw70 F hX hinX6 tyX6_ok (by decide +kernel) rfl rfl (by decide) wkX11_23 wnX6 wiX6 (Nat.le_of_ble_eq_true rfl) (Nat.le_of_ble_eq_true rfl) (kd dtX11_init_0 73 rfl) (fun H hX => ?_)
              refine lv_dup hx hb (kd dtX11_init_0 74 rfl) rfl ?_
              obtain ⟨w71, h72, hf⟩ := kbind hf
              refine kcallIN (n := 0) [] [.ref (kSz w68), .int (5 : Int32), va_rf v69] [.ref (kSz w68), .int (5 : Int32), va_rf v69] (rX6_init l D aC h72) F hml hX hZ hl.1 mwX6_init wmX11_91 rfl (by decide +kernel) ⟨(by decide), (by decide)⟩ rfl rfl rfl (by simp [kcat_rf, kcat_i, kcat_r, kcat_l]) (kd dtX11_init_0 75 rfl) ⟨Nat.le_of_ble_eq_true rfl, Nat.le_of_ble_eq_true rfl⟩ (fun H locs hX => ?_)
              obtain ⟨w73, hw73, hf⟩ := kbind hf
              refine kqst18 hw73 F hX (kd dtX11_init_0 76 rfl) (fun H locs hX => ?_)
              refine lv_iinc (v := (6 : Int32)) (lv' := [(1, .int (6 : Int32)), (0, .ref x0)]) hx hb (kd dtX11_init_0 77 rfl) hl (k := 0) rfl (by decide) (by decide) rfl (fun ls hl => ?_)
              refine lv_goto (tgt := 137) hx hb (kd dtX11_init_0 78 rfl) (by decide) ?_
              refine lv_iload_n hx hb (kd dtX11_init_0 67 rfl) rfl (lv_at hl 0 rfl) ?_
              refine lv_bipush (v := (8 : Int32)) hx hb (kd dtX11_init_0 68 rfl) (by decide) ?_
              refine lv_icmp_ge (tgt := 162) hx hb (kd dtX11_init_0 69 rfl) (by decide) (fun hc => ?_) (fun hc => ?_)
              · exact absurd hc (by decide)
              · skip
                refine lv_aload_n hx hb (kd dtX11_init_0 70 rfl) rfl (lv_at hl 1 rfl) ?_
                obtain ⟨v74, hv74, hf⟩ := kbind hf
                refine kgetP hv74 F hX hinX11 rfl rfl rfl (by decide) (by decide) wfX11_25 (kd dtX11_init_0 71 rfl) ?_
                refine lv_iload_n hx hb (kd dtX11_init_0 72 rfl) rfl (lv_at hl 0 rfl) ?_
                obtain ⟨w75, hw75, hf⟩ := kbind hf
                refine knewo (k := 6) hw75 F hX hinX6 tyX6_ok (by decide +kernel) rfl rfl (by decide) wkX11_23 wnX6 wiX6 (Nat.le_of_ble_eq_true rfl) (Nat.le_of_ble_eq_true rfl) (kd dtX11_init_0 73 rfl) (fun H hX => ?_)
                refine lv_dup hx hb (kd dtX11_init_0 74 rfl) rfl ?_
                obtain ⟨w76, h77, hf⟩ := kbind hf
                refine kcallIN (n := 0) [] [.ref (kSz w73), .int (6 : Int32), va_rf v74] [.ref (kSz w73), .int (6 : Int32), va_rf v74] (rX6_init l D aC h77) F hml hX hZ hl.1 mwX6_init wmX11_91 rfl (by decide +kernel) ⟨(by decide), (by decide)⟩ rfl rfl rfl (by simp [kcat_rf, kcat_i, kcat_r, kcat_l]) (kd dtX11_init_0 75 rfl) ⟨Nat.le_of_ble_eq_true rfl, Nat.le_of_ble_eq_true rfl⟩ (fun H locs hX => ?_)
                obtain ⟨w78, hw78, hf⟩ := kbind hf
                refine kqst18 hw78 F hX (kd dtX11_init_0 76 rfl) (fun H locs hX => ?_)
                refine lv_iinc (v := (7 : Int32)) (lv' := [(1, .int (7 : Int32)), (0, .ref x0)]) hx hb (kd dtX11_init_0 77 rfl) hl (k := 0) rfl (by decide) (by decide) rfl (fun ls hl => ?_)
                refine lv_goto (tgt := 137) hx hb (kd dtX11_init_0 78 rfl) (by decide) ?_
                refine lv_iload_n hx hb (kd dtX11_init_0 67 rfl) rfl (lv_at hl 0 rfl) ?_
                refine lv_bipush (v := (8 : Int32)) hx hb (kd dtX11_init_0 68 rfl) (by decide) ?_
                refine lv_icmp_ge (tgt := 162) hx hb (kd dtX11_init_0 69 rfl) (by decide) (fun hc => ?_) (fun hc => ?_)
                · exact absurd hc (by decide)
                · skip
                  refine lv_aload_n hx hb (kd dtX11_init_0 70 rfl) rfl (lv_at hl 1 rfl) ?_
                  obtain ⟨v79, hv79, hf⟩ := kbind hf
                  refine kgetP hv79 F hX hinX11 rfl rfl rfl (by decide) (by decide) wfX11_25 (kd dtX11_init_0 71 rfl) ?_
                  refine lv_iload_n hx hb (kd dtX11_init_0 72 rfl) rfl (lv_at hl 0 rfl) ?_
                  obtain ⟨w80, hw80, hf⟩ := kbind hf
                  refine knewo (k := 6) hw80 F hX hinX6 tyX6_ok (by decide +kernel) rfl rfl (by decide) wkX11_23 wnX6 wiX6 (Nat.le_of_ble_eq_true rfl) (Nat.le_of_ble_eq_true rfl) (kd dtX11_init_0 73 rfl) (fun H hX => ?_)
                  refine lv_dup hx hb (kd dtX11_init_0 74 rfl) rfl ?_
                  obtain ⟨w81, h82, hf⟩ := kbind hf
                  refine kcallIN (n := 0) [] [.ref (kSz w78), .int (7 : Int32), va_rf v79] [.ref (kSz w78), .int (7 : Int32), va_rf v79] (rX6_init l D aC h82) F hml hX hZ hl.1 mwX6_init wmX11_91 rfl (by decide +kernel) ⟨(by decide), (by decide)⟩ rfl rfl rfl (by simp [kcat_rf, kcat_i, kcat_r, kcat_l]) (kd dtX11_init_0 75 rfl) ⟨Nat.le_of_ble_eq_true rfl, Nat.le_of_ble_eq_true rfl⟩ (fun H locs hX => ?_)
                  obtain ⟨w83, hw83, hf⟩ := kbind hf
                  refine kqst18 hw83 F hX (kd dtX11_init_0 76 rfl) (fun H locs hX => ?_)
                  refine lv_iinc (v := (8 : Int32)) (lv' := [(1, .int (8 : Int32)), (0, .ref x0)]) hx hb (kd dtX11_init_0 77 rfl) hl (k := 0) rfl (by decide) (by decide) rfl (fun ls hl => ?_)
                  refine lv_goto (tgt := 137) hx hb (kd dtX11_init_0 78 rfl) (by decide) ?_
                  refine lv_iload_n hx hb (kd dtX11_init_0 67 rfl) rfl (lv_at hl 0 rfl) ?_
                  refine lv_bipush (v := (8 : Int32)) hx hb (kd dtX11_init_0 68 rfl) (by decide) ?_
                  refine lv_icmp_ge (tgt := 162) hx hb (kd dtX11_init_0 69 rfl) (by decide) (fun hc => ?_) (fun hc => ?_)
                  · skip
                    refine lv_aload_n hx hb (kd dtX11_init_0 79 rfl) rfl (lv_at hl 1 rfl) ?_
                    obtain ⟨v84, hv84, hf⟩ := kbind hf
                    refine kgetP hv84 F hX hinX11 rfl rfl rfl (by decide) (by decide) wfX11_76 (kd dtX11_init_1 0 rfl) ?_
                    refine lv_bipush (v := (100 : Int32)) hx hb (kd dtX11_init_1 1 rfl) (by decide) ?_
                    obtain ⟨b85, hb85, hf⟩ := kbind hf
                    obtain ⟨hrb85, hkb85⟩ := kRc_s hb85
                    obtain ⟨w86, h87, hf⟩ := kbind hf
                    refine kcallVN (n := 1) [.int (100 : Int32)] [] [] (rX3_addAct l D aC h87) hrb85 hkb85 F hml hX hZ hl.1 mwX3_addAct wmX11_92 rfl (by decide) (by decide +kernel) ⟨(by decide), (by decide)⟩ rfl rfl rfl (Nat.le_of_ble_eq_true rfl) (kd dtX11_init_1 2 rfl) ⟨Nat.le_of_ble_eq_true rfl, Nat.le_of_ble_eq_true rfl⟩ (fun H locs hX => ?_)
                    refine lv_aload_n hx hb (kd dtX11_init_1 3 rfl) rfl (lv_at hl 1 rfl) ?_
                    obtain ⟨v88, hv88, hf⟩ := kbind hf
                    refine kgetP hv88 F hX hinX11 rfl rfl rfl (by decide) (by decide) wfX11_76 (kd dtX11_init_1 4 rfl) ?_
                    refine lv_bipush (v := (99 : Int32)) hx hb (kd dtX11_init_1 5 rfl) (by decide) ?_
                    obtain ⟨b89, hb89, hf⟩ := kbind hf
                    obtain ⟨hrb89, hkb89⟩ := kRc_s hb89
                    obtain ⟨w90, h91, hf⟩ := kbind hf
                    refine kcallVN (n := 1) [.int (99 : Int32)] [] [] (rX3_addAct l D aC h91) hrb89 hkb89 F hml hX hZ hl.1 mwX3_addAct wmX11_92 rfl (by decide) (by decide +kernel) ⟨(by decide), (by decide)⟩ rfl rfl rfl (Nat.le_of_ble_eq_true rfl) (kd dtX11_init_1 6 rfl) ⟨Nat.le_of_ble_eq_true rfl, Nat.le_of_ble_eq_true rfl⟩ (fun H locs hX => ?_)
                    refine lv_aload_n hx hb (kd dtX11_init_1 7 rfl) rfl (lv_at hl 1 rfl) ?_
                    obtain ⟨v92, hv92, hf⟩ := kbind hf
                    refine kgetP hv92 F hX hinX11 rfl rfl rfl (by decide) (by decide) wfX11_76 (kd dtX11_init_1 8 rfl) ?_
                    refine lv_ldc (v := (1000000 : Int32)) hx hb hown (hts _ wcX11_95) (kd dtX11_init_1 9 rfl) ?_
                    obtain ⟨w93, hw93, hf⟩ := kbind hf
                    refine kputIN hw93 F hX hinX3 tyX3_ok nmX3 rfl rfl rfl (by decide) (by decide) hZ wfX11_96 rfl rfl rfl (kd dtX11_init_1 10 rfl) (fun H locs hX => ?_)
                    obtain rfl := Option.some.inj hf
                    refine W.widen (k := 236) (n := 32782) (Nat.le_of_ble_eq_true rfl) (Nat.le_of_ble_eq_true rfl) ?_
                    exact kvret F hX hr hlocks rfl (kd dtX11_init_1 11 rfl)
                  · exact absurd hc (by decide)
def lX11_shelfAt_0 : List (Nat × Instr × Nat) := [(0, .iload_n 1, 1), (1, .ifCond .lt 18, 3), (4, .iload_n 1, 1), (5, .bipush 8, 2), (7, .if_icmp .ge 12, 3), (10, .aload_n 0, 1), (11, .getfield 25, 3), (14, .iload_n 1, 1), (15, .aaload, 1), (16, .goto 4, 3), (19, .aconst_null, 1), (20, .areturn, 1)]
theorem dtX11_shelfAt_0 : kDec cX11_shelfAt lX11_shelfAt_0 = true := by decide +kernel
noncomputable def fX11_shelfAt (x0 : Nat) (x1 : Int32) (w : kW) : Option (Option Nat) :=
  if x1 < 0 then
  some none
  else
  if (8 : Int32) ≤ x1 then
  some none
  else
  (kgP w 11 (some x0) 3).bind fun v1 =>
  (kaP w 18 v1 x1).bind fun v2 =>
  some v2

set_option maxHeartbeats 4000000 in
set_option maxRecDepth 100000 in
theorem rX11_shelfAt (l : Launch) (D : va_G) (aC : Nat → ClassId) {x0 : Nat} {x1 : Int32} {w : kW} {oR : Option Nat} (h : fX11_shelfAt x0 x1 w = some oR) : kC l D aC yX11_shelfAt cX11_shelfAt 2 (some (.object "KitchenCards$Shelf")) 1 12 [.ref x0, .int x1] w (some (va_rf oR)) w 0 0 := by
  refine kOf (own := RX11) (by decide) rfl (Nat.le_of_ble_eq_true rfl) ?_
  intro p e s m below meth c ls F hml hr hlocks hnm hX hZ hl
  obtain ⟨hx, hb, hts, hown, hK⟩ := id F
  have hl : lv_has ls 2 [(0, .ref x0), (1, .int x1)] := hl
  have hf := h
  rw [fX11_shelfAt] at hf
  refine lv_iload_n hx hb (kd dtX11_shelfAt_0 0 rfl) rfl (lv_at hl 1 rfl) ?_
  refine lv_if_lt (tgt := 19) hx hb (kd dtX11_shelfAt_0 1 rfl) (by decide) (fun hc => ?_) (fun hc => ?_)
  · have hf := kif_pos hc hf
    refine lv_null hx hb (kd dtX11_shelfAt_0 10 rfl) ?_
    obtain rfl := Option.some.inj hf
    exact karet F hX hr hlocks rfl (kd dtX11_shelfAt_0 11 rfl)
  · have hf := kif_neg hc hf
    refine lv_iload_n hx hb (kd dtX11_shelfAt_0 2 rfl) rfl (lv_at hl 1 rfl) ?_
    refine lv_bipush (v := (8 : Int32)) hx hb (kd dtX11_shelfAt_0 3 rfl) (by decide) ?_
    refine lv_icmp_ge (tgt := 19) hx hb (kd dtX11_shelfAt_0 4 rfl) (by decide) (fun hc => ?_) (fun hc => ?_)
    · have hf := kif_pos hc hf
      refine lv_null hx hb (kd dtX11_shelfAt_0 10 rfl) ?_
      obtain rfl := Option.some.inj hf
      exact karet F hX hr hlocks rfl (kd dtX11_shelfAt_0 11 rfl)
    · have hf := kif_neg hc hf
      refine lv_aload_n hx hb (kd dtX11_shelfAt_0 5 rfl) rfl (lv_at hl 0 rfl) ?_
      obtain ⟨v1, hv1, hf⟩ := kbind hf
      refine kgetP hv1 F hX hinX11 rfl rfl rfl (by decide) (by decide) wfX11_25 (kd dtX11_shelfAt_0 6 rfl) ?_
      refine lv_iload_n hx hb (kd dtX11_shelfAt_0 7 rfl) rfl (lv_at hl 1 rfl) ?_
      obtain ⟨v2, hv2, hf⟩ := kbind hf
      refine kqld18 hv2 F hX (kd dtX11_shelfAt_0 8 rfl) ?_
      refine lv_goto (tgt := 20) hx hb (kd dtX11_shelfAt_0 9 rfl) (by decide) ?_
      obtain rfl := Option.some.inj hf
      exact karet F hX hr hlocks rfl (kd dtX11_shelfAt_0 11 rfl)
theorem wmX11_99 : Cond.methodLink RX11 99 yX11_shelfAt ∈ kT := kTm 499 (by decide +kernel) rfl
theorem mwX11_shelfAt : kMV RX11 yX11_shelfAt cX11_shelfAt 2 (some (.object "KitchenCards$Shelf")) := ⟨kTm 502 (by decide +kernel) rfl, kTm 94 (by decide +kernel) rfl, kTm 501 (by decide +kernel) rfl, kTm 1 (by decide +kernel) rfl⟩
theorem wmX11_103 : Cond.methodLink RX11 103 yX6_bytesRefusal ∈ kT := kTm 503 (by decide +kernel) rfl
theorem mwX6_bytesRefusal : kMV RX6 yX6_bytesRefusal cX6_bytesRefusal 1 (some .int) := ⟨kTm 506 (by decide +kernel) rfl, kTm 105 (by decide +kernel) rfl, kTm 504 (by decide +kernel) rfl, kTm 505 (by decide +kernel) rfl⟩
theorem wfX11_107 : Cond.fieldLinkNest RX11 107 (TX6 0).1 (TX6 0).2.1 (TX6 0).2.2.1 "KitchenCards" ∈ kNs := kNm 431 (by decide +kernel) rfl
theorem wfX11_110 : Cond.fieldLinkNest RX11 110 (TX6 2).1 (TX6 2).2.1 (TX6 2).2.2.1 "KitchenCards" ∈ kNs := kNm 435 (by decide +kernel) rfl
theorem wmX11_113 : Cond.methodLink RX11 113 yX2_readText ∈ kT := kTm 511 (by decide +kernel) rfl
theorem mwX2_readText : kMV RX2 yX2_readText cX2_readText 4 (some .int) := ⟨kTm 514 (by decide +kernel) rfl, kTm 96 (by decide +kernel) rfl, kTm 512 (by decide +kernel) rfl, kTm 513 (by decide +kernel) rfl⟩
def lX11_fault_0 : List (Nat × Instr × Nat) := [(0, .aload_n 0, 1), (1, .iload_n 1, 1), (2, .invokevirtual 99, 3), (5, .astore_n 2, 1), (6, .aload_n 2, 1), (7, .ifnonnull 5, 3), (10, .iconst (-1), 1), (11, .ireturn, 1), (12, .aload_n 2, 1), (13, .invokevirtual 103, 3), (16, .istore_n 3, 1), (17, .iload_n 3, 1), (18, .ifCond .eq 7, 3), (21, .iload_n 3, 1), (22, .goto 18, 3), (25, .aload_n 0, 1), (26, .getfield 32, 3), (29, .aload_n 2, 1), (30, .getfield 107, 3), (33, .aload_n 2, 1), (34, .getfield 110, 3), (37, .invokevirtual 113, 3), (40, .ireturn, 1)]
theorem dtX11_fault_0 : kDec cX11_fault lX11_fault_0 = true := by decide +kernel
noncomputable def fX11_fault (x0 : Nat) (x1 : Int32) (w : kW) : Option (Int32 × kW) :=
  (kRc w 11 (some x0)).bind fun b1 =>
  (fX11_shelfAt b1 x1 w).bind fun v3 =>
  if v3 = none then
  some ((-1 : Int32), w)
  else
  (kRc w 6 v3).bind fun b4 =>
  (fX6_bytesRefusal b4 w).bind fun v6 =>
  if v6 = 0 then
  (kgP w 11 (some x0) 4).bind fun v7 =>
  (kgP w 6 v3 0).bind fun v8 =>
  (kgI w 6 v3 2).bind fun v9 =>
  (kRc w 2 v7).bind fun b10 =>
  kb2 (fX2_readText b10 v8 v9 w) fun v13 w11 =>
  some (v13, w11)
  else
  some (v6, w)

set_option maxHeartbeats 4000000 in
set_option maxRecDepth 100000 in
theorem rX11_fault (l : Launch) (D : va_G) (aC : Nat → ClassId) {x0 : Nat} {x1 : Int32} {w : kW} {wR : kW} {oR : Int32} (h : fX11_fault x0 x1 w = some (oR, wR)) : kC l D aC yX11_fault cX11_fault 4 (some .int) 5 100 [.ref x0, .int x1] w (some (.int oR)) wR 0 0 := by
  refine kOf (own := RX11) (by decide) rfl (Nat.le_of_ble_eq_true rfl) ?_
  intro p e s m below meth c ls F hml hr hlocks hnm hX hZ hl
  obtain ⟨hx, hb, hts, hown, hK⟩ := id F
  have hl : lv_has ls 4 [(0, .ref x0), (1, .int x1)] := hl
  have hf := h
  rw [fX11_fault] at hf
  refine lv_aload_n hx hb (kd dtX11_fault_0 0 rfl) rfl (lv_at hl 0 rfl) ?_
  refine lv_iload_n hx hb (kd dtX11_fault_0 1 rfl) rfl (lv_at hl 1 rfl) ?_
  obtain ⟨b1, hb1, hf⟩ := kbind hf
  obtain ⟨hrb1, hkb1⟩ := kRc_s hb1
  obtain ⟨v3, h2, hf⟩ := kbind hf
  refine kcallV (n := 1) [.int x1] [] [va_rf v3] (rX11_shelfAt l D aC h2) hrb1 hkb1 F hml hX hZ hl.1 mwX11_shelfAt wmX11_99 rfl (by decide) (by decide +kernel) ⟨(by decide), (by decide)⟩ rfl rfl rfl (Nat.le_of_ble_eq_true rfl) (kd dtX11_fault_0 2 rfl) ⟨Nat.zero_le _, Nat.zero_le _⟩ (fun H locs hX => ?_)
  refine kastore_n (lv' := [(2, va_rf v3), (0, .ref x0), (1, .int x1)]) hx hb (kd dtX11_fault_0 3 rfl) rfl hl (by decide) rfl (fun ls hl => ?_)
  refine kaload_n hx hb (kd dtX11_fault_0 4 rfl) rfl (lv_at hl 0 rfl) ?_
  refine kifnonnull (tgt := 12) hx hb (kd dtX11_fault_0 5 rfl) (by decide) (fun hc => ?_) (fun hc => ?_)
  · have hf := kif_pos hc hf
    refine lv_iconst (v := (-1 : Int32)) hx hb (kd dtX11_fault_0 6 rfl) (by decide) ?_
    obtain ⟨rfl, rfl⟩ := Prod.mk.inj (Option.some.inj hf)
    exact kiret F hX hr hlocks rfl (kd dtX11_fault_0 7 rfl)
  · have hf := kif_neg hc hf
    refine kaload_n hx hb (kd dtX11_fault_0 8 rfl) rfl (lv_at hl 0 rfl) ?_
    obtain ⟨b4, hb4, hf⟩ := kbind hf
    obtain ⟨hrb4, hkb4⟩ := kRc_s hb4
    obtain ⟨v6, h5, hf⟩ := kbind hf
    refine kcallV (n := 0) [] [] [.int v6] (rX6_bytesRefusal l D aC h5) hrb4 hkb4 F hml hX hZ hl.1 mwX6_bytesRefusal wmX11_103 rfl (by decide) (by decide +kernel) ⟨(by decide), (by decide)⟩ rfl rfl rfl (Nat.le_of_ble_eq_true rfl) (kd dtX11_fault_0 9 rfl) ⟨Nat.zero_le _, Nat.zero_le _⟩ (fun H locs hX => ?_)
    refine lv_istore_n (i := 3) (lv' := [(3, .int v6), (2, va_rf v3), (0, .ref x0), (1, .int x1)]) hx hb (kd dtX11_fault_0 10 rfl) rfl hl (by decide) (by simp [kcat_rf, kcat_i, kcat_r, kcat_l]) (fun ls hl => ?_)
    refine lv_iload_n hx hb (kd dtX11_fault_0 11 rfl) rfl (lv_at hl 0 rfl) ?_
    refine lv_if_eq (tgt := 25) hx hb (kd dtX11_fault_0 12 rfl) (by decide) (fun hc => ?_) (fun hc => ?_)
    · have hf := kif_pos hc hf
      refine lv_aload_n hx hb (kd dtX11_fault_0 15 rfl) rfl (lv_at hl 2 rfl) ?_
      obtain ⟨v7, hv7, hf⟩ := kbind hf
      refine kgetP hv7 F hX hinX11 rfl rfl rfl (by decide) (by decide) wfX11_32 (kd dtX11_fault_0 16 rfl) ?_
      refine kaload_n hx hb (kd dtX11_fault_0 17 rfl) rfl (lv_at hl 1 rfl) ?_
      obtain ⟨v8, hv8, hf⟩ := kbind hf
      refine kgetPN hv8 F hX hinX6 rfl rfl rfl (by decide) (by decide) hZ wfX11_107 (kd dtX11_fault_0 18 rfl) ?_
      refine kaload_n hx hb (kd dtX11_fault_0 19 rfl) rfl (lv_at hl 1 rfl) ?_
      obtain ⟨v9, hv9, hf⟩ := kbind hf
      refine kgetIN hv9 F hX hinX6 rfl rfl rfl (by decide) (by decide) hZ wfX11_110 (kd dtX11_fault_0 20 rfl) ?_
      obtain ⟨b10, hb10, hf⟩ := kbind hf
      obtain ⟨hrb10, hkb10⟩ := kRc_s hb10
      obtain ⟨v13, w11, h12, hf⟩ := kbind2 hf
      refine kcallV (n := 2) [va_rf v8, .int v9] [] [.int v13] (rX2_readText l D aC h12) hrb10 hkb10 F hml hX hZ hl.1 mwX2_readText wmX11_113 rfl (by decide) (by decide +kernel) ⟨(by decide), (by decide)⟩ rfl rfl rfl (Nat.le_of_ble_eq_true rfl) (kd dtX11_fault_0 21 rfl) ⟨Nat.zero_le _, Nat.zero_le _⟩ (fun H locs hX => ?_)
      obtain ⟨rfl, rfl⟩ := Prod.mk.inj (Option.some.inj hf)
      exact kiret F hX hr hlocks rfl (kd dtX11_fault_0 22 rfl)
    · have hf := kif_neg hc hf
      refine lv_iload_n hx hb (kd dtX11_fault_0 13 rfl) rfl (lv_at hl 0 rfl) ?_
      refine lv_goto (tgt := 40) hx hb (kd dtX11_fault_0 14 rfl) (by decide) ?_
      obtain ⟨rfl, rfl⟩ := Prod.mk.inj (Option.some.inj hf)
      exact kiret F hX hr hlocks rfl (kd dtX11_fault_0 22 rfl)
theorem wfX11_117 : Cond.fieldLinkNest RX11 117 (TX8 7).1 (TX8 7).2.1 (TX8 7).2.2.1 "KitchenCards" ∈ kNs := kNm 143 (by decide +kernel) rfl
theorem wmX11_120 : Cond.methodLink RX11 120 yX2_madeLine ∈ kT := kTm 550 (by decide +kernel) rfl
theorem mwX2_madeLine : kMV RX2 yX2_madeLine cX2_madeLine 2 (some (.object "KitchenCards$Line")) := ⟨kTm 553 (by decide +kernel) rfl, kTm 96 (by decide +kernel) rfl, kTm 551 (by decide +kernel) rfl, kTm 552 (by decide +kernel) rfl⟩
theorem wmX11_124 : Cond.methodLink RX11 124 yX8_addLine ∈ kT := kTm 620 (by decide +kernel) rfl
theorem mwX8_addLine : kMV RX8 yX8_addLine cX8_addLine 2 (some .int) := ⟨kTm 623 (by decide +kernel) rfl, kTm 95 (by decide +kernel) rfl, kTm 621 (by decide +kernel) rfl, kTm 622 (by decide +kernel) rfl⟩
def lX11_line_0 : List (Nat × Instr × Nat) := [(0, .aload_n 0, 1), (1, .iload_n 1, 1), (2, .invokevirtual 99, 3), (5, .astore_n 2, 1), (6, .aload_n 2, 1), (7, .ifnonnull 5, 3), (10, .iconst (-1), 1), (11, .ireturn, 1), (12, .aload_n 0, 1), (13, .getfield 10, 3), (16, .getfield 117, 3), (19, .bipush 40, 2), (21, .if_icmp .lt 6, 3), (24, .bipush (-2), 2), (26, .ireturn, 1), (27, .aload_n 2, 1), (28, .invokevirtual 103, 3), (31, .istore_n 3, 1), (32, .iload_n 3, 1), (33, .ifCond .eq 5, 3), (36, .iload_n 3, 1), (37, .ireturn, 1), (38, .aload_n 0, 1), (39, .getfield 32, 3), (42, .aload_n 2, 1), (43, .getfield 107, 3), (46, .aload_n 2, 1), (47, .getfield 110, 3), (50, .invokevirtual 113, 3), (53, .istore 4, 2), (55, .iload 4, 2), (57, .ifCond .lt 11, 3), (60, .bipush (-100), 2), (62, .iload 4, 2), (64, .isub, 1), (65, .goto 17, 3), (68, .aload_n 0, 1), (69, .getfield 10, 3), (72, .aload_n 0, 1), (73, .getfield 32, 3), (76, .invokevirtual 120, 3), (79, .invokevirtual 124, 3), (82, .ireturn, 1)]
theorem dtX11_line_0 : kDec cX11_line lX11_line_0 = true := by decide +kernel
noncomputable def fX11_line (x0 : Nat) (x1 : Int32) (w : kW) : Option (Int32 × kW) :=
  (kRc w 11 (some x0)).bind fun b1 =>
  (fX11_shelfAt b1 x1 w).bind fun v3 =>
  if v3 = none then
  some ((-1 : Int32), w)
  else
  (kgP w 11 (some x0) 0).bind fun v4 =>
  (kgI w 8 v4 7).bind fun v5 =>
  if v5 < (40 : Int32) then
  (kRc w 6 v3).bind fun b6 =>
  (fX6_bytesRefusal b6 w).bind fun v8 =>
  if v8 = 0 then
  (kgP w 11 (some x0) 4).bind fun v9 =>
  (kgP w 6 v3 0).bind fun v10 =>
  (kgI w 6 v3 2).bind fun v11 =>
  (kRc w 2 v9).bind fun b12 =>
  kb2 (fX2_readText b12 v10 v11 w) fun v15 w13 =>
  if v15 < 0 then
  (kgP w13 11 (some x0) 0).bind fun v16 =>
  (kgP w13 11 (some x0) 4).bind fun v17 =>
  (kRc w13 2 v17).bind fun b18 =>
  kb2 (fX2_madeLine b18 w13) fun v21 w19 =>
  (kRc w19 8 v16).bind fun b22 =>
  kb2 (fX8_addLine b22 v21 w19) fun v25 w23 =>
  some (v25, w23)
  else
  some ((-100 : Int32) - v15, w13)
  else
  some (v8, w)
  else
  some ((-2 : Int32), w)

set_option maxHeartbeats 4000000 in
set_option maxRecDepth 100000 in
theorem rX11_line (l : Launch) (D : va_G) (aC : Nat → ClassId) {x0 : Nat} {x1 : Int32} {w : kW} {wR : kW} {oR : Int32} (h : fX11_line x0 x1 w = some (oR, wR)) : kC l D aC yX11_line cX11_line 5 (some .int) 5 106 [.ref x0, .int x1] w (some (.int oR)) wR 6 1008 := by
  refine kOf (own := RX11) (by decide) rfl (Nat.le_of_ble_eq_true rfl) ?_
  intro p e s m below meth c ls F hml hr hlocks hnm hX hZ hl
  obtain ⟨hx, hb, hts, hown, hK⟩ := id F
  have hl : lv_has ls 5 [(0, .ref x0), (1, .int x1)] := hl
  have hf := h
  rw [fX11_line] at hf
  refine lv_aload_n hx hb (kd dtX11_line_0 0 rfl) rfl (lv_at hl 0 rfl) ?_
  refine lv_iload_n hx hb (kd dtX11_line_0 1 rfl) rfl (lv_at hl 1 rfl) ?_
  obtain ⟨b1, hb1, hf⟩ := kbind hf
  obtain ⟨hrb1, hkb1⟩ := kRc_s hb1
  obtain ⟨v3, h2, hf⟩ := kbind hf
  refine kcallV (n := 1) [.int x1] [] [va_rf v3] (rX11_shelfAt l D aC h2) hrb1 hkb1 F hml hX hZ hl.1 mwX11_shelfAt wmX11_99 rfl (by decide) (by decide +kernel) ⟨(by decide), (by decide)⟩ rfl rfl rfl (Nat.le_of_ble_eq_true rfl) (kd dtX11_line_0 2 rfl) ⟨Nat.zero_le _, Nat.zero_le _⟩ (fun H locs hX => ?_)
  refine kastore_n (lv' := [(2, va_rf v3), (0, .ref x0), (1, .int x1)]) hx hb (kd dtX11_line_0 3 rfl) rfl hl (by decide) rfl (fun ls hl => ?_)
  refine kaload_n hx hb (kd dtX11_line_0 4 rfl) rfl (lv_at hl 0 rfl) ?_
  refine kifnonnull (tgt := 12) hx hb (kd dtX11_line_0 5 rfl) (by decide) (fun hc => ?_) (fun hc => ?_)
  · have hf := kif_pos hc hf
    refine lv_iconst (v := (-1 : Int32)) hx hb (kd dtX11_line_0 6 rfl) (by decide) ?_
    obtain ⟨rfl, rfl⟩ := Prod.mk.inj (Option.some.inj hf)
    refine W.widen (k := 6) (n := 1008) (Nat.le_of_ble_eq_true rfl) (Nat.le_of_ble_eq_true rfl) ?_
    exact kiret F hX hr hlocks rfl (kd dtX11_line_0 7 rfl)
  · have hf := kif_neg hc hf
    refine lv_aload_n hx hb (kd dtX11_line_0 8 rfl) rfl (lv_at hl 1 rfl) ?_
    obtain ⟨v4, hv4, hf⟩ := kbind hf
    refine kgetP hv4 F hX hinX11 rfl rfl rfl (by decide) (by decide) wfX11_10 (kd dtX11_line_0 9 rfl) ?_
    obtain ⟨v5, hv5, hf⟩ := kbind hf
    refine kgetIN hv5 F hX hinX8 rfl rfl rfl (by decide) (by decide) hZ wfX11_117 (kd dtX11_line_0 10 rfl) ?_
    refine lv_bipush (v := (40 : Int32)) hx hb (kd dtX11_line_0 11 rfl) (by decide) ?_
    refine lv_icmp_lt (tgt := 27) hx hb (kd dtX11_line_0 12 rfl) (by decide) (fun hc => ?_) (fun hc => ?_)
    · have hf := kif_pos hc hf
      refine kaload_n hx hb (kd dtX11_line_0 15 rfl) rfl (lv_at hl 0 rfl) ?_
      obtain ⟨b6, hb6, hf⟩ := kbind hf
      obtain ⟨hrb6, hkb6⟩ := kRc_s hb6
      obtain ⟨v8, h7, hf⟩ := kbind hf
      refine kcallV (n := 0) [] [] [.int v8] (rX6_bytesRefusal l D aC h7) hrb6 hkb6 F hml hX hZ hl.1 mwX6_bytesRefusal wmX11_103 rfl (by decide) (by decide +kernel) ⟨(by decide), (by decide)⟩ rfl rfl rfl (Nat.le_of_ble_eq_true rfl) (kd dtX11_line_0 16 rfl) ⟨Nat.zero_le _, Nat.zero_le _⟩ (fun H locs hX => ?_)
      refine lv_istore_n (i := 3) (lv' := [(3, .int v8), (2, va_rf v3), (0, .ref x0), (1, .int x1)]) hx hb (kd dtX11_line_0 17 rfl) rfl hl (by decide) (by simp [kcat_rf, kcat_i, kcat_r, kcat_l]) (fun ls hl => ?_)
      refine lv_iload_n hx hb (kd dtX11_line_0 18 rfl) rfl (lv_at hl 0 rfl) ?_
      refine lv_if_eq (tgt := 38) hx hb (kd dtX11_line_0 19 rfl) (by decide) (fun hc => ?_) (fun hc => ?_)
      · have hf := kif_pos hc hf
        refine lv_aload_n hx hb (kd dtX11_line_0 22 rfl) rfl (lv_at hl 2 rfl) ?_
        obtain ⟨v9, hv9, hf⟩ := kbind hf
        refine kgetP hv9 F hX hinX11 rfl rfl rfl (by decide) (by decide) wfX11_32 (kd dtX11_line_0 23 rfl) ?_
        refine kaload_n hx hb (kd dtX11_line_0 24 rfl) rfl (lv_at hl 1 rfl) ?_
        obtain ⟨v10, hv10, hf⟩ := kbind hf
        refine kgetPN hv10 F hX hinX6 rfl rfl rfl (by decide) (by decide) hZ wfX11_107 (kd dtX11_line_0 25 rfl) ?_
        refine kaload_n hx hb (kd dtX11_line_0 26 rfl) rfl (lv_at hl 1 rfl) ?_
        obtain ⟨v11, hv11, hf⟩ := kbind hf
        refine kgetIN hv11 F hX hinX6 rfl rfl rfl (by decide) (by decide) hZ wfX11_110 (kd dtX11_line_0 27 rfl) ?_
        obtain ⟨b12, hb12, hf⟩ := kbind hf
        obtain ⟨hrb12, hkb12⟩ := kRc_s hb12
        obtain ⟨v15, w13, h14, hf⟩ := kbind2 hf
        refine kcallV (n := 2) [va_rf v10, .int v11] [] [.int v15] (rX2_readText l D aC h14) hrb12 hkb12 F hml hX hZ hl.1 mwX2_readText wmX11_113 rfl (by decide) (by decide +kernel) ⟨(by decide), (by decide)⟩ rfl rfl rfl (Nat.le_of_ble_eq_true rfl) (kd dtX11_line_0 28 rfl) ⟨Nat.zero_le _, Nat.zero_le _⟩ (fun H locs hX => ?_)
        refine lv_istore (lv' := [(4, .int v15), (3, .int v8), (2, va_rf v3), (0, .ref x0), (1, .int x1)]) hx hb (kd dtX11_line_0 29 rfl) hl (by decide) rfl (fun ls hl => ?_)
        refine lv_iload hx hb (kd dtX11_line_0 30 rfl) (lv_at hl 0 rfl) ?_
        refine lv_if_lt (tgt := 68) hx hb (kd dtX11_line_0 31 rfl) (by decide) (fun hc => ?_) (fun hc => ?_)
        · have hf := kif_pos hc hf
          refine lv_aload_n hx hb (kd dtX11_line_0 36 rfl) rfl (lv_at hl 3 rfl) ?_
          obtain ⟨v16, hv16, hf⟩ := kbind hf
          refine kgetP hv16 F hX hinX11 rfl rfl rfl (by decide) (by decide) wfX11_10 (kd dtX11_line_0 37 rfl) ?_
          refine lv_aload_n hx hb (kd dtX11_line_0 38 rfl) rfl (lv_at hl 3 rfl) ?_
          obtain ⟨v17, hv17, hf⟩ := kbind hf
          refine kgetP hv17 F hX hinX11 rfl rfl rfl (by decide) (by decide) wfX11_32 (kd dtX11_line_0 39 rfl) ?_
          obtain ⟨b18, hb18, hf⟩ := kbind hf
          obtain ⟨hrb18, hkb18⟩ := kRc_s hb18
          obtain ⟨v21, w19, h20, hf⟩ := kbind2 hf
          refine kcallV (n := 0) [] [va_rf v16] [va_rf v21, va_rf v16] (rX2_madeLine l D aC h20) hrb18 hkb18 F hml hX hZ hl.1 mwX2_madeLine wmX11_120 rfl (by decide) (by decide +kernel) ⟨(by decide), (by decide)⟩ rfl rfl rfl (by simp [kcat_rf, kcat_i, kcat_r, kcat_l]) (kd dtX11_line_0 40 rfl) ⟨Nat.le_of_ble_eq_true rfl, Nat.le_of_ble_eq_true rfl⟩ (fun H locs hX => ?_)
          obtain ⟨b22, hb22, hf⟩ := kbind hf
          obtain ⟨hrb22, hkb22⟩ := kRc_s hb22
          obtain ⟨v25, w23, h24, hf⟩ := kbind2 hf
          refine kcallV (n := 1) [va_rf v21] [] [.int v25] (rX8_addLine l D aC h24) hrb22 hkb22 F hml hX hZ hl.1 mwX8_addLine wmX11_124 rfl (by decide) (by decide +kernel) ⟨(by decide), (by decide)⟩ rfl rfl rfl (Nat.le_of_ble_eq_true rfl) (kd dtX11_line_0 41 rfl) ⟨Nat.le_of_ble_eq_true rfl, Nat.le_of_ble_eq_true rfl⟩ (fun H locs hX => ?_)
          obtain ⟨rfl, rfl⟩ := Prod.mk.inj (Option.some.inj hf)
          refine W.widen (k := 6) (n := 1008) (Nat.le_of_ble_eq_true rfl) (Nat.le_of_ble_eq_true rfl) ?_
          exact kiret F hX hr hlocks rfl (kd dtX11_line_0 42 rfl)
        · have hf := kif_neg hc hf
          refine lv_bipush (v := (-100 : Int32)) hx hb (kd dtX11_line_0 32 rfl) (by decide) ?_
          refine lv_iload hx hb (kd dtX11_line_0 33 rfl) (lv_at hl 0 rfl) ?_
          refine lv_isub hx hb (kd dtX11_line_0 34 rfl) ?_
          refine lv_goto (tgt := 82) hx hb (kd dtX11_line_0 35 rfl) (by decide) ?_
          obtain ⟨rfl, rfl⟩ := Prod.mk.inj (Option.some.inj hf)
          refine W.widen (k := 6) (n := 1008) (Nat.le_of_ble_eq_true rfl) (Nat.le_of_ble_eq_true rfl) ?_
          exact kiret F hX hr hlocks rfl (kd dtX11_line_0 42 rfl)
      · have hf := kif_neg hc hf
        refine lv_iload_n hx hb (kd dtX11_line_0 20 rfl) rfl (lv_at hl 0 rfl) ?_
        obtain ⟨rfl, rfl⟩ := Prod.mk.inj (Option.some.inj hf)
        refine W.widen (k := 6) (n := 1008) (Nat.le_of_ble_eq_true rfl) (Nat.le_of_ble_eq_true rfl) ?_
        exact kiret F hX hr hlocks rfl (kd dtX11_line_0 21 rfl)
    · have hf := kif_neg hc hf
      refine lv_bipush (v := (-2 : Int32)) hx hb (kd dtX11_line_0 13 rfl) (by decide) ?_
      obtain ⟨rfl, rfl⟩ := Prod.mk.inj (Option.some.inj hf)
      refine W.widen (k := 6) (n := 1008) (Nat.le_of_ble_eq_true rfl) (Nat.le_of_ble_eq_true rfl) ?_
      exact kiret F hX hr hlocks rfl (kd dtX11_line_0 14 rfl)
theorem wmX11_128 : Cond.methodLink RX11 128 yX8_lineAt ∈ kT := kTm 628 (by decide +kernel) rfl
theorem wfX11_132 : Cond.fieldLinkNest RX11 132 (TX1 5).1 (TX1 5).2.1 (TX1 5).2.2.1 "KitchenCards" ∈ kNs := kNm 197 (by decide +kernel) rfl
theorem wmX11_135 : Cond.methodLink RX11 135 yX1_levelAt ∈ kT := kTm 632 (by decide +kernel) rfl
theorem wmX11_139 : Cond.methodLink RX11 139 yX1_placesAt ∈ kT := kTm 633 (by decide +kernel) rfl
theorem wmX11_142 : Cond.methodLink RX11 142 yX1_unlikeAt ∈ kT := kTm 634 (by decide +kernel) rfl
theorem wmX11_145 : Cond.methodLink RX11 145 yX1_isTrue ∈ kT := kTm 635 (by decide +kernel) rfl
theorem wmX11_149 : Cond.methodLink RX11 149 yX8_howIs ∈ kT := kTm 639 (by decide +kernel) rfl
theorem wmX11_152 : Cond.methodLink RX11 152 yX8_placeOf ∈ kT := kTm 643 (by decide +kernel) rfl
theorem mwX8_placeOf : kMV RX8 yX8_placeOf cX8_placeOf 3 (some .int) := ⟨kTm 646 (by decide +kernel) rfl, kTm 95 (by decide +kernel) rfl, kTm 644 (by decide +kernel) rfl, kTm 645 (by decide +kernel) rfl⟩
def lX11_of_0 : List (Nat × Instr × Nat) := [(0, .aload_n 0, 1), (1, .getfield 10, 3), (4, .iload_n 1, 1), (5, .invokevirtual 128, 3), (8, .astore_n 3, 1), (9, .aload_n 3, 1), (10, .ifnonnull 5, 3), (13, .iconst (-1), 1), (14, .ireturn, 1), (15, .iload_n 2, 1), (16, .tableswitch 98 0 6 #[44, 49, 55, 61, 67, 80, 89], 44), (60, .aload_n 3, 1), (61, .getfield 132, 3), (64, .ireturn, 1), (65, .aload_n 3, 1), (66, .iconst 0, 1), (67, .invokevirtual 135, 3), (70, .ireturn, 1), (71, .aload_n 3, 1), (72, .iconst 0, 1), (73, .invokevirtual 139, 3), (76, .ireturn, 1), (77, .aload_n 3, 1), (78, .iconst 0, 1), (79, .invokevirtual 142, 3), (82, .ireturn, 1), (83, .aload_n 3, 1), (84, .invokevirtual 145, 3), (87, .ifCond .eq 7, 3), (90, .iconst 1, 1), (91, .goto 4, 3), (94, .iconst 0, 1), (95, .ireturn, 1), (96, .aload_n 0, 1), (97, .getfield 10, 3), (100, .iload_n 1, 1), (101, .invokevirtual 149, 3), (104, .ireturn, 1), (105, .aload_n 0, 1), (106, .getfield 10, 3), (109, .iload_n 1, 1), (110, .invokevirtual 152, 3), (113, .ireturn, 1), (114, .iconst (-1), 1), (115, .ireturn, 1)]
theorem dtX11_of_0 : kDec cX11_of lX11_of_0 = true := by decide +kernel
noncomputable def fX11_of (x0 : Nat) (x1 : Int32) (x2 : Int32) (w : kW) : Option Int32 :=
  (kgP w 11 (some x0) 0).bind fun v1 =>
  (kRc w 8 v1).bind fun b2 =>
  (fX8_lineAt b2 x1 w).bind fun v4 =>
  if v4 = none then
  some (-1 : Int32)
  else
  if x2 = (0 : Int32) then
  (kgI w 1 v4 5).bind fun v5 =>
  some v5
  else if x2 = (1 : Int32) then
  (kRc w 1 v4).bind fun b6 =>
  (fX1_levelAt b6 (0 : Int32) w).bind fun v8 =>
  some v8
  else if x2 = (2 : Int32) then
  (kRc w 1 v4).bind fun b9 =>
  (fX1_placesAt b9 (0 : Int32) w).bind fun v11 =>
  some v11
  else if x2 = (3 : Int32) then
  (kRc w 1 v4).bind fun b12 =>
  (fX1_unlikeAt b12 (0 : Int32) w).bind fun v14 =>
  some v14
  else if x2 = (4 : Int32) then
  (kRc w 1 v4).bind fun b15 =>
  (fX1_isTrue b15 w).bind fun v17 =>
  if v17 = 0 then
  some (0 : Int32)
  else
  some (1 : Int32)
  else if x2 = (5 : Int32) then
  (kgP w 11 (some x0) 0).bind fun v18 =>
  (kRc w 8 v18).bind fun b19 =>
  (fX8_howIs b19 x1 w).bind fun v21 =>
  some v21
  else if x2 = (6 : Int32) then
  (kgP w 11 (some x0) 0).bind fun v22 =>
  (kRc w 8 v22).bind fun b23 =>
  (fX8_placeOf b23 x1 w).bind fun v25 =>
  some v25
  else 
  some (-1 : Int32)

set_option maxHeartbeats 4000000 in
set_option maxRecDepth 100000 in
theorem rX11_of (l : Launch) (D : va_G) (aC : Nat → ClassId) {x0 : Nat} {x1 : Int32} {x2 : Int32} {w : kW} {oR : Int32} (h : fX11_of x0 x1 x2 w = some oR) : kC l D aC yX11_of cX11_of 4 (some .int) 4 73 [.ref x0, .int x1, .int x2] w (some (.int oR)) w 0 0 := by
  refine kOf (own := RX11) (by decide) rfl (Nat.le_of_ble_eq_true rfl) ?_
  intro p e s m below meth c ls F hml hr hlocks hnm hX hZ hl
  obtain ⟨hx, hb, hts, hown, hK⟩ := id F
  have hl : lv_has ls 4 [(0, .ref x0), (1, .int x1), (2, .int x2)] := hl
  have hf := h
  rw [fX11_of] at hf
  refine lv_aload_n hx hb (kd dtX11_of_0 0 rfl) rfl (lv_at hl 0 rfl) ?_
  obtain ⟨v1, hv1, hf⟩ := kbind hf
  refine kgetP hv1 F hX hinX11 rfl rfl rfl (by decide) (by decide) wfX11_10 (kd dtX11_of_0 1 rfl) ?_
  refine lv_iload_n hx hb (kd dtX11_of_0 2 rfl) rfl (lv_at hl 1 rfl) ?_
  obtain ⟨b2, hb2, hf⟩ := kbind hf
  obtain ⟨hrb2, hkb2⟩ := kRc_s hb2
  obtain ⟨v4, h3, hf⟩ := kbind hf
  refine kcallV (n := 1) [.int x1] [] [va_rf v4] (rX8_lineAt l D aC h3) hrb2 hkb2 F hml hX hZ hl.1 mwX8_lineAt wmX11_128 rfl (by decide) (by decide +kernel) ⟨(by decide), (by decide)⟩ rfl rfl rfl (Nat.le_of_ble_eq_true rfl) (kd dtX11_of_0 3 rfl) ⟨Nat.zero_le _, Nat.zero_le _⟩ (fun H locs hX => ?_)
  refine kastore_n (lv' := [(3, va_rf v4), (0, .ref x0), (1, .int x1), (2, .int x2)]) hx hb (kd dtX11_of_0 4 rfl) rfl hl (by decide) rfl (fun ls hl => ?_)
  refine kaload_n hx hb (kd dtX11_of_0 5 rfl) rfl (lv_at hl 0 rfl) ?_
  refine kifnonnull (tgt := 15) hx hb (kd dtX11_of_0 6 rfl) (by decide) (fun hc => ?_) (fun hc => ?_)
  · have hf := kif_pos hc hf
    refine lv_iconst (v := (-1 : Int32)) hx hb (kd dtX11_of_0 7 rfl) (by decide) ?_
    obtain rfl := Option.some.inj hf
    exact kiret F hX hr hlocks rfl (kd dtX11_of_0 8 rfl)
  · have hf := kif_neg hc hf
    refine lv_iload_n hx hb (kd dtX11_of_0 9 rfl) rfl (lv_at hl 3 rfl) ?_
    by_cases hc0 : x2 = (0 : Int32)
    · have hf := kif_pos hc0 hf
      have hq : (x2).toInt = 0 := by rw [hc0]; rfl
      refine lv_tableIn (off := 44) (tgt := 60) hx hb (kd dtX11_of_0 10 rfl) (by rw [hq]; decide) (by rw [hq]; decide) (by rw [hq]; rfl) (by decide) ?_
      refine kaload_n hx hb (kd dtX11_of_0 11 rfl) rfl (lv_at hl 0 rfl) ?_
      obtain ⟨v5, hv5, hf⟩ := kbind hf
      refine kgetIN hv5 F hX hinX1 rfl rfl rfl (by decide) (by decide) hZ wfX11_132 (kd dtX11_of_0 12 rfl) ?_
      obtain rfl := Option.some.inj hf
      exact kiret F hX hr hlocks rfl (kd dtX11_of_0 13 rfl)
    have hf := kif_neg hc0 hf
    by_cases hc1 : x2 = (1 : Int32)
    · have hf := kif_pos hc1 hf
      have hq : (x2).toInt = 1 := by rw [hc1]; rfl
      refine lv_tableIn (off := 49) (tgt := 65) hx hb (kd dtX11_of_0 10 rfl) (by rw [hq]; decide) (by rw [hq]; decide) (by rw [hq]; rfl) (by decide) ?_
      refine kaload_n hx hb (kd dtX11_of_0 14 rfl) rfl (lv_at hl 0 rfl) ?_
      refine lv_iconst (v := (0 : Int32)) hx hb (kd dtX11_of_0 15 rfl) (by decide) ?_
      obtain ⟨b6, hb6, hf⟩ := kbind hf
      obtain ⟨hrb6, hkb6⟩ := kRc_s hb6
      obtain ⟨v8, h7, hf⟩ := kbind hf
      refine kcallV (n := 1) [.int (0 : Int32)] [] [.int v8] (rX1_levelAt l D aC h7) hrb6 hkb6 F hml hX hZ hl.1 mwX1_levelAt wmX11_135 rfl (by decide) (by decide +kernel) ⟨(by decide), (by decide)⟩ rfl rfl rfl (Nat.le_of_ble_eq_true rfl) (kd dtX11_of_0 16 rfl) ⟨Nat.zero_le _, Nat.zero_le _⟩ (fun H locs hX => ?_)
      obtain rfl := Option.some.inj hf
      exact kiret F hX hr hlocks rfl (kd dtX11_of_0 17 rfl)
    have hf := kif_neg hc1 hf
    by_cases hc2 : x2 = (2 : Int32)
    · have hf := kif_pos hc2 hf
      have hq : (x2).toInt = 2 := by rw [hc2]; rfl
      refine lv_tableIn (off := 55) (tgt := 71) hx hb (kd dtX11_of_0 10 rfl) (by rw [hq]; decide) (by rw [hq]; decide) (by rw [hq]; rfl) (by decide) ?_
      refine kaload_n hx hb (kd dtX11_of_0 18 rfl) rfl (lv_at hl 0 rfl) ?_
      refine lv_iconst (v := (0 : Int32)) hx hb (kd dtX11_of_0 19 rfl) (by decide) ?_
      obtain ⟨b9, hb9, hf⟩ := kbind hf
      obtain ⟨hrb9, hkb9⟩ := kRc_s hb9
      obtain ⟨v11, h10, hf⟩ := kbind hf
      refine kcallV (n := 1) [.int (0 : Int32)] [] [.int v11] (rX1_placesAt l D aC h10) hrb9 hkb9 F hml hX hZ hl.1 mwX1_placesAt wmX11_139 rfl (by decide) (by decide +kernel) ⟨(by decide), (by decide)⟩ rfl rfl rfl (Nat.le_of_ble_eq_true rfl) (kd dtX11_of_0 20 rfl) ⟨Nat.zero_le _, Nat.zero_le _⟩ (fun H locs hX => ?_)
      obtain rfl := Option.some.inj hf
      exact kiret F hX hr hlocks rfl (kd dtX11_of_0 21 rfl)
    have hf := kif_neg hc2 hf
    by_cases hc3 : x2 = (3 : Int32)
    · have hf := kif_pos hc3 hf
      have hq : (x2).toInt = 3 := by rw [hc3]; rfl
      refine lv_tableIn (off := 61) (tgt := 77) hx hb (kd dtX11_of_0 10 rfl) (by rw [hq]; decide) (by rw [hq]; decide) (by rw [hq]; rfl) (by decide) ?_
      refine kaload_n hx hb (kd dtX11_of_0 22 rfl) rfl (lv_at hl 0 rfl) ?_
      refine lv_iconst (v := (0 : Int32)) hx hb (kd dtX11_of_0 23 rfl) (by decide) ?_
      obtain ⟨b12, hb12, hf⟩ := kbind hf
      obtain ⟨hrb12, hkb12⟩ := kRc_s hb12
      obtain ⟨v14, h13, hf⟩ := kbind hf
      refine kcallV (n := 1) [.int (0 : Int32)] [] [.int v14] (rX1_unlikeAt l D aC h13) hrb12 hkb12 F hml hX hZ hl.1 mwX1_unlikeAt wmX11_142 rfl (by decide) (by decide +kernel) ⟨(by decide), (by decide)⟩ rfl rfl rfl (Nat.le_of_ble_eq_true rfl) (kd dtX11_of_0 24 rfl) ⟨Nat.zero_le _, Nat.zero_le _⟩ (fun H locs hX => ?_)
      obtain rfl := Option.some.inj hf
      exact kiret F hX hr hlocks rfl (kd dtX11_of_0 25 rfl)
    have hf := kif_neg hc3 hf
    by_cases hc4 : x2 = (4 : Int32)
    · have hf := kif_pos hc4 hf
      have hq : (x2).toInt = 4 := by rw [hc4]; rfl
      refine lv_tableIn (off := 67) (tgt := 83) hx hb (kd dtX11_of_0 10 rfl) (by rw [hq]; decide) (by rw [hq]; decide) (by rw [hq]; rfl) (by decide) ?_
      refine kaload_n hx hb (kd dtX11_of_0 26 rfl) rfl (lv_at hl 0 rfl) ?_
      obtain ⟨b15, hb15, hf⟩ := kbind hf
      obtain ⟨hrb15, hkb15⟩ := kRc_s hb15
      obtain ⟨v17, h16, hf⟩ := kbind hf
      refine kcallV (n := 0) [] [] [.int v17] (rX1_isTrue l D aC h16) hrb15 hkb15 F hml hX hZ hl.1 mwX1_isTrue wmX11_145 rfl (by decide) (by decide +kernel) ⟨(by decide), (by decide)⟩ rfl rfl rfl (Nat.le_of_ble_eq_true rfl) (kd dtX11_of_0 27 rfl) ⟨Nat.zero_le _, Nat.zero_le _⟩ (fun H locs hX => ?_)
      refine lv_if_eq (tgt := 94) hx hb (kd dtX11_of_0 28 rfl) (by decide) (fun hc => ?_) (fun hc => ?_)
      · have hf := kif_pos hc hf
        refine lv_iconst (v := (0 : Int32)) hx hb (kd dtX11_of_0 31 rfl) (by decide) ?_
        obtain rfl := Option.some.inj hf
        exact kiret F hX hr hlocks rfl (kd dtX11_of_0 32 rfl)
      · have hf := kif_neg hc hf
        refine lv_iconst (v := (1 : Int32)) hx hb (kd dtX11_of_0 29 rfl) (by decide) ?_
        refine lv_goto (tgt := 95) hx hb (kd dtX11_of_0 30 rfl) (by decide) ?_
        obtain rfl := Option.some.inj hf
        exact kiret F hX hr hlocks rfl (kd dtX11_of_0 32 rfl)
    have hf := kif_neg hc4 hf
    by_cases hc5 : x2 = (5 : Int32)
    · have hf := kif_pos hc5 hf
      have hq : (x2).toInt = 5 := by rw [hc5]; rfl
      refine lv_tableIn (off := 80) (tgt := 96) hx hb (kd dtX11_of_0 10 rfl) (by rw [hq]; decide) (by rw [hq]; decide) (by rw [hq]; rfl) (by decide) ?_
      refine lv_aload_n hx hb (kd dtX11_of_0 33 rfl) rfl (lv_at hl 1 rfl) ?_
      obtain ⟨v18, hv18, hf⟩ := kbind hf
      refine kgetP hv18 F hX hinX11 rfl rfl rfl (by decide) (by decide) wfX11_10 (kd dtX11_of_0 34 rfl) ?_
      refine lv_iload_n hx hb (kd dtX11_of_0 35 rfl) rfl (lv_at hl 2 rfl) ?_
      obtain ⟨b19, hb19, hf⟩ := kbind hf
      obtain ⟨hrb19, hkb19⟩ := kRc_s hb19
      obtain ⟨v21, h20, hf⟩ := kbind hf
      refine kcallV (n := 1) [.int x1] [] [.int v21] (rX8_howIs l D aC h20) hrb19 hkb19 F hml hX hZ hl.1 mwX8_howIs wmX11_149 rfl (by decide) (by decide +kernel) ⟨(by decide), (by decide)⟩ rfl rfl rfl (Nat.le_of_ble_eq_true rfl) (kd dtX11_of_0 36 rfl) ⟨Nat.zero_le _, Nat.zero_le _⟩ (fun H locs hX => ?_)
      obtain rfl := Option.some.inj hf
      exact kiret F hX hr hlocks rfl (kd dtX11_of_0 37 rfl)
    have hf := kif_neg hc5 hf
    by_cases hc6 : x2 = (6 : Int32)
    · have hf := kif_pos hc6 hf
      have hq : (x2).toInt = 6 := by rw [hc6]; rfl
      refine lv_tableIn (off := 89) (tgt := 105) hx hb (kd dtX11_of_0 10 rfl) (by rw [hq]; decide) (by rw [hq]; decide) (by rw [hq]; rfl) (by decide) ?_
      refine lv_aload_n hx hb (kd dtX11_of_0 38 rfl) rfl (lv_at hl 1 rfl) ?_
      obtain ⟨v22, hv22, hf⟩ := kbind hf
      refine kgetP hv22 F hX hinX11 rfl rfl rfl (by decide) (by decide) wfX11_10 (kd dtX11_of_0 39 rfl) ?_
      refine lv_iload_n hx hb (kd dtX11_of_0 40 rfl) rfl (lv_at hl 2 rfl) ?_
      obtain ⟨b23, hb23, hf⟩ := kbind hf
      obtain ⟨hrb23, hkb23⟩ := kRc_s hb23
      obtain ⟨v25, h24, hf⟩ := kbind hf
      refine kcallV (n := 1) [.int x1] [] [.int v25] (rX8_placeOf l D aC h24) hrb23 hkb23 F hml hX hZ hl.1 mwX8_placeOf wmX11_152 rfl (by decide) (by decide +kernel) ⟨(by decide), (by decide)⟩ rfl rfl rfl (Nat.le_of_ble_eq_true rfl) (kd dtX11_of_0 41 rfl) ⟨Nat.zero_le _, Nat.zero_le _⟩ (fun H locs hX => ?_)
      obtain rfl := Option.some.inj hf
      exact kiret F hX hr hlocks rfl (kd dtX11_of_0 42 rfl)
    have hf := kif_neg hc6 hf
    have hq0 := lv_neT (k := (0 : Int32)) hc0 (a := 0) rfl
    have hq1 := lv_neT (k := (1 : Int32)) hc1 (a := 1) rfl
    have hq2 := lv_neT (k := (2 : Int32)) hc2 (a := 2) rfl
    have hq3 := lv_neT (k := (3 : Int32)) hc3 (a := 3) rfl
    have hq4 := lv_neT (k := (4 : Int32)) hc4 (a := 4) rfl
    have hq5 := lv_neT (k := (5 : Int32)) hc5 (a := 5) rfl
    have hq6 := lv_neT (k := (6 : Int32)) hc6 (a := 6) rfl
    refine lv_tableOut (tgt := 114) hx hb (kd dtX11_of_0 10 rfl) (by omega) (by decide) ?_
    refine lv_iconst (v := (-1 : Int32)) hx hb (kd dtX11_of_0 43 rfl) (by decide) ?_
    obtain rfl := Option.some.inj hf
    exact kiret F hX hr hlocks rfl (kd dtX11_of_0 44 rfl)
theorem wmX11_155 : Cond.methodLink RX11 155 yX10_byteOf ∈ kT := kTm 655 (by decide +kernel) rfl
theorem mwX10_byteOf : kMV RX10 yX10_byteOf cX10_byteOf 6 (some .int) := ⟨kTm 658 (by decide +kernel) rfl, kTm 99 (by decide +kernel) rfl, kTm 656 (by decide +kernel) rfl, kTm 657 (by decide +kernel) rfl⟩
def lX11_letter_0 : List (Nat × Instr × Nat) := [(0, .aload_n 0, 1), (1, .getfield 10, 3), (4, .iload_n 1, 1), (5, .invokevirtual 128, 3), (8, .astore_n 3, 1), (9, .aload_n 3, 1), (10, .ifnull 7, 3), (13, .iload_n 2, 1), (14, .ifCond .ge 5, 3), (17, .iconst (-1), 1), (18, .ireturn, 1), (19, .aload_n 0, 1), (20, .getfield 39, 3), (23, .aload_n 3, 1), (24, .iconst 0, 1), (25, .iload_n 2, 1), (26, .invokevirtual 155, 3), (29, .ireturn, 1)]
theorem dtX11_letter_0 : kDec cX11_letter lX11_letter_0 = true := by decide +kernel
noncomputable def fX11_letter (x0 : Nat) (x1 : Int32) (x2 : Int32) (w : kW) : Option (Int32 × kW) :=
  (kgP w 11 (some x0) 0).bind fun v1 =>
  (kRc w 8 v1).bind fun b2 =>
  (fX8_lineAt b2 x1 w).bind fun v4 =>
  if v4 = none then
  some ((-1 : Int32), w)
  else
  if 0 ≤ x2 then
  (kgP w 11 (some x0) 5).bind fun v5 =>
  (kRc w 10 v5).bind fun b6 =>
  kb2 (fX10_byteOf b6 v4 (0 : Int32) x2 w) fun v9 w7 =>
  some (v9, w7)
  else
  some ((-1 : Int32), w)

set_option maxHeartbeats 4000000 in
set_option maxRecDepth 100000 in
theorem rX11_letter (l : Launch) (D : va_G) (aC : Nat → ClassId) {x0 : Nat} {x1 : Int32} {x2 : Int32} {w : kW} {wR : kW} {oR : Int32} (h : fX11_letter x0 x1 x2 w = some (oR, wR)) : kC l D aC yX11_letter cX11_letter 4 (some .int) 5 100 [.ref x0, .int x1, .int x2] w (some (.int oR)) wR 0 0 := by
  refine kOf (own := RX11) (by decide) rfl (Nat.le_of_ble_eq_true rfl) ?_
  intro p e s m below meth c ls F hml hr hlocks hnm hX hZ hl
  obtain ⟨hx, hb, hts, hown, hK⟩ := id F
  have hl : lv_has ls 4 [(0, .ref x0), (1, .int x1), (2, .int x2)] := hl
  have hf := h
  rw [fX11_letter] at hf
  refine lv_aload_n hx hb (kd dtX11_letter_0 0 rfl) rfl (lv_at hl 0 rfl) ?_
  obtain ⟨v1, hv1, hf⟩ := kbind hf
  refine kgetP hv1 F hX hinX11 rfl rfl rfl (by decide) (by decide) wfX11_10 (kd dtX11_letter_0 1 rfl) ?_
  refine lv_iload_n hx hb (kd dtX11_letter_0 2 rfl) rfl (lv_at hl 1 rfl) ?_
  obtain ⟨b2, hb2, hf⟩ := kbind hf
  obtain ⟨hrb2, hkb2⟩ := kRc_s hb2
  obtain ⟨v4, h3, hf⟩ := kbind hf
  refine kcallV (n := 1) [.int x1] [] [va_rf v4] (rX8_lineAt l D aC h3) hrb2 hkb2 F hml hX hZ hl.1 mwX8_lineAt wmX11_128 rfl (by decide) (by decide +kernel) ⟨(by decide), (by decide)⟩ rfl rfl rfl (Nat.le_of_ble_eq_true rfl) (kd dtX11_letter_0 3 rfl) ⟨Nat.zero_le _, Nat.zero_le _⟩ (fun H locs hX => ?_)
  refine kastore_n (lv' := [(3, va_rf v4), (0, .ref x0), (1, .int x1), (2, .int x2)]) hx hb (kd dtX11_letter_0 4 rfl) rfl hl (by decide) rfl (fun ls hl => ?_)
  refine kaload_n hx hb (kd dtX11_letter_0 5 rfl) rfl (lv_at hl 0 rfl) ?_
  refine kifnull (tgt := 17) hx hb (kd dtX11_letter_0 6 rfl) (by decide) (fun hc => ?_) (fun hc => ?_)
  · have hf := kif_pos hc hf
    refine lv_iconst (v := (-1 : Int32)) hx hb (kd dtX11_letter_0 9 rfl) (by decide) ?_
    obtain ⟨rfl, rfl⟩ := Prod.mk.inj (Option.some.inj hf)
    exact kiret F hX hr hlocks rfl (kd dtX11_letter_0 10 rfl)
  · have hf := kif_neg hc hf
    refine lv_iload_n hx hb (kd dtX11_letter_0 7 rfl) rfl (lv_at hl 3 rfl) ?_
    refine lv_if_ge (tgt := 19) hx hb (kd dtX11_letter_0 8 rfl) (by decide) (fun hc => ?_) (fun hc => ?_)
    · have hf := kif_pos hc hf
      refine lv_aload_n hx hb (kd dtX11_letter_0 11 rfl) rfl (lv_at hl 1 rfl) ?_
      obtain ⟨v5, hv5, hf⟩ := kbind hf
      refine kgetP hv5 F hX hinX11 rfl rfl rfl (by decide) (by decide) wfX11_39 (kd dtX11_letter_0 12 rfl) ?_
      refine kaload_n hx hb (kd dtX11_letter_0 13 rfl) rfl (lv_at hl 0 rfl) ?_
      refine lv_iconst (v := (0 : Int32)) hx hb (kd dtX11_letter_0 14 rfl) (by decide) ?_
      refine lv_iload_n hx hb (kd dtX11_letter_0 15 rfl) rfl (lv_at hl 3 rfl) ?_
      obtain ⟨b6, hb6, hf⟩ := kbind hf
      obtain ⟨hrb6, hkb6⟩ := kRc_s hb6
      obtain ⟨v9, w7, h8, hf⟩ := kbind2 hf
      refine kcallV (n := 3) [va_rf v4, .int (0 : Int32), .int x2] [] [.int v9] (rX10_byteOf l D aC h8) hrb6 hkb6 F hml hX hZ hl.1 mwX10_byteOf wmX11_155 rfl (by decide) (by decide +kernel) ⟨(by decide), (by decide)⟩ rfl rfl rfl (Nat.le_of_ble_eq_true rfl) (kd dtX11_letter_0 16 rfl) ⟨Nat.zero_le _, Nat.zero_le _⟩ (fun H locs hX => ?_)
      obtain ⟨rfl, rfl⟩ := Prod.mk.inj (Option.some.inj hf)
      exact kiret F hX hr hlocks rfl (kd dtX11_letter_0 17 rfl)
    · have hf := kif_neg hc hf
      refine lv_iconst (v := (-1 : Int32)) hx hb (kd dtX11_letter_0 9 rfl) (by decide) ?_
      obtain ⟨rfl, rfl⟩ := Prod.mk.inj (Option.some.inj hf)
      exact kiret F hX hr hlocks rfl (kd dtX11_letter_0 10 rfl)
theorem wmX11_159 : Cond.methodLink RX11 159 yX8_makeKnown ∈ kT := kTm 682 (by decide +kernel) rfl
theorem mwX8_makeKnown : kMV RX8 yX8_makeKnown cX8_makeKnown 3 none := ⟨kTm 685 (by decide +kernel) rfl, kTm 95 (by decide +kernel) rfl, kTm 683 (by decide +kernel) rfl, kTm 684 (by decide +kernel) rfl⟩
def lX11_give_0 : List (Nat × Instr × Nat) := [(0, .aload_n 0, 1), (1, .getfield 10, 3), (4, .iload_n 1, 1), (5, .invokevirtual 128, 3), (8, .ifnonnull 5, 3), (11, .iconst (-1), 1), (12, .ireturn, 1), (13, .aload_n 0, 1), (14, .getfield 10, 3), (17, .iload_n 1, 1), (18, .invokevirtual 149, 3), (21, .ifCond .eq 5, 3), (24, .iconst 0, 1), (25, .ireturn, 1), (26, .aload_n 0, 1), (27, .getfield 10, 3), (30, .iload_n 1, 1), (31, .iconst 1, 1), (32, .invokevirtual 159, 3), (35, .iconst 1, 1), (36, .ireturn, 1)]
theorem dtX11_give_0 : kDec cX11_give lX11_give_0 = true := by decide +kernel
noncomputable def fX11_give (x0 : Nat) (x1 : Int32) (w : kW) : Option (Int32 × kW) :=
  (kgP w 11 (some x0) 0).bind fun v1 =>
  (kRc w 8 v1).bind fun b2 =>
  (fX8_lineAt b2 x1 w).bind fun v4 =>
  if v4 = none then
  some ((-1 : Int32), w)
  else
  (kgP w 11 (some x0) 0).bind fun v5 =>
  (kRc w 8 v5).bind fun b6 =>
  (fX8_howIs b6 x1 w).bind fun v8 =>
  if v8 = 0 then
  (kgP w 11 (some x0) 0).bind fun v9 =>
  (kRc w 8 v9).bind fun b10 =>
  (fX8_makeKnown b10 x1 (1 : Int32) w).bind fun w11 =>
  some ((1 : Int32), w11)
  else
  some ((0 : Int32), w)

set_option maxHeartbeats 4000000 in
set_option maxRecDepth 100000 in
theorem rX11_give (l : Launch) (D : va_G) (aC : Nat → ClassId) {x0 : Nat} {x1 : Int32} {w : kW} {wR : kW} {oR : Int32} (h : fX11_give x0 x1 w = some (oR, wR)) : kC l D aC yX11_give cX11_give 2 (some .int) 2 34 [.ref x0, .int x1] w (some (.int oR)) wR 0 0 := by
  refine kOf (own := RX11) (by decide) rfl (Nat.le_of_ble_eq_true rfl) ?_
  intro p e s m below meth c ls F hml hr hlocks hnm hX hZ hl
  obtain ⟨hx, hb, hts, hown, hK⟩ := id F
  have hl : lv_has ls 2 [(0, .ref x0), (1, .int x1)] := hl
  have hf := h
  rw [fX11_give] at hf
  refine lv_aload_n hx hb (kd dtX11_give_0 0 rfl) rfl (lv_at hl 0 rfl) ?_
  obtain ⟨v1, hv1, hf⟩ := kbind hf
  refine kgetP hv1 F hX hinX11 rfl rfl rfl (by decide) (by decide) wfX11_10 (kd dtX11_give_0 1 rfl) ?_
  refine lv_iload_n hx hb (kd dtX11_give_0 2 rfl) rfl (lv_at hl 1 rfl) ?_
  obtain ⟨b2, hb2, hf⟩ := kbind hf
  obtain ⟨hrb2, hkb2⟩ := kRc_s hb2
  obtain ⟨v4, h3, hf⟩ := kbind hf
  refine kcallV (n := 1) [.int x1] [] [va_rf v4] (rX8_lineAt l D aC h3) hrb2 hkb2 F hml hX hZ hl.1 mwX8_lineAt wmX11_128 rfl (by decide) (by decide +kernel) ⟨(by decide), (by decide)⟩ rfl rfl rfl (Nat.le_of_ble_eq_true rfl) (kd dtX11_give_0 3 rfl) ⟨Nat.zero_le _, Nat.zero_le _⟩ (fun H locs hX => ?_)
  refine kifnonnull (tgt := 13) hx hb (kd dtX11_give_0 4 rfl) (by decide) (fun hc => ?_) (fun hc => ?_)
  · have hf := kif_pos hc hf
    refine lv_iconst (v := (-1 : Int32)) hx hb (kd dtX11_give_0 5 rfl) (by decide) ?_
    obtain ⟨rfl, rfl⟩ := Prod.mk.inj (Option.some.inj hf)
    exact kiret F hX hr hlocks rfl (kd dtX11_give_0 6 rfl)
  · have hf := kif_neg hc hf
    refine lv_aload_n hx hb (kd dtX11_give_0 7 rfl) rfl (lv_at hl 0 rfl) ?_
    obtain ⟨v5, hv5, hf⟩ := kbind hf
    refine kgetP hv5 F hX hinX11 rfl rfl rfl (by decide) (by decide) wfX11_10 (kd dtX11_give_0 8 rfl) ?_
    refine lv_iload_n hx hb (kd dtX11_give_0 9 rfl) rfl (lv_at hl 1 rfl) ?_
    obtain ⟨b6, hb6, hf⟩ := kbind hf
    obtain ⟨hrb6, hkb6⟩ := kRc_s hb6
    obtain ⟨v8, h7, hf⟩ := kbind hf
    refine kcallV (n := 1) [.int x1] [] [.int v8] (rX8_howIs l D aC h7) hrb6 hkb6 F hml hX hZ hl.1 mwX8_howIs wmX11_149 rfl (by decide) (by decide +kernel) ⟨(by decide), (by decide)⟩ rfl rfl rfl (Nat.le_of_ble_eq_true rfl) (kd dtX11_give_0 10 rfl) ⟨Nat.zero_le _, Nat.zero_le _⟩ (fun H locs hX => ?_)
    refine lv_if_eq (tgt := 26) hx hb (kd dtX11_give_0 11 rfl) (by decide) (fun hc => ?_) (fun hc => ?_)
    · have hf := kif_pos hc hf
      refine lv_aload_n hx hb (kd dtX11_give_0 14 rfl) rfl (lv_at hl 0 rfl) ?_
      obtain ⟨v9, hv9, hf⟩ := kbind hf
      refine kgetP hv9 F hX hinX11 rfl rfl rfl (by decide) (by decide) wfX11_10 (kd dtX11_give_0 15 rfl) ?_
      refine lv_iload_n hx hb (kd dtX11_give_0 16 rfl) rfl (lv_at hl 1 rfl) ?_
      refine lv_iconst (v := (1 : Int32)) hx hb (kd dtX11_give_0 17 rfl) (by decide) ?_
      obtain ⟨b10, hb10, hf⟩ := kbind hf
      obtain ⟨hrb10, hkb10⟩ := kRc_s hb10
      obtain ⟨w11, h12, hf⟩ := kbind hf
      refine kcallV (n := 2) [.int x1, .int (1 : Int32)] [] [] (rX8_makeKnown l D aC h12) hrb10 hkb10 F hml hX hZ hl.1 mwX8_makeKnown wmX11_159 rfl (by decide) (by decide +kernel) ⟨(by decide), (by decide)⟩ rfl rfl rfl (Nat.le_of_ble_eq_true rfl) (kd dtX11_give_0 18 rfl) ⟨Nat.zero_le _, Nat.zero_le _⟩ (fun H locs hX => ?_)
      refine lv_iconst (v := (1 : Int32)) hx hb (kd dtX11_give_0 19 rfl) (by decide) ?_
      obtain ⟨rfl, rfl⟩ := Prod.mk.inj (Option.some.inj hf)
      exact kiret F hX hr hlocks rfl (kd dtX11_give_0 20 rfl)
    · have hf := kif_neg hc hf
      refine lv_iconst (v := (0 : Int32)) hx hb (kd dtX11_give_0 12 rfl) (by decide) ?_
      obtain ⟨rfl, rfl⟩ := Prod.mk.inj (Option.some.inj hf)
      exact kiret F hX hr hlocks rfl (kd dtX11_give_0 13 rfl)
theorem wfX11_163 : Cond.fieldLinkNest RX11 163 (TX1 7).1 (TX1 7).2.1 (TX1 7).2.2.1 "KitchenCards" ∈ kNs := kNm 204 (by decide +kernel) rfl
def lX11_table_0 : List (Nat × Instr × Nat) := [(0, .aload_n 0, 1), (1, .getfield 10, 3), (4, .iload_n 1, 1), (5, .invokevirtual 128, 3), (8, .astore_n 2, 1), (9, .aload_n 2, 1), (10, .ifnonnull 7, 3), (13, .iconst (-1), 1), (14, .goto 7, 3), (17, .aload_n 2, 1), (18, .getfield 163, 3), (21, .ireturn, 1)]
theorem dtX11_table_0 : kDec cX11_table lX11_table_0 = true := by decide +kernel
noncomputable def fX11_table (x0 : Nat) (x1 : Int32) (w : kW) : Option Int32 :=
  (kgP w 11 (some x0) 0).bind fun v1 =>
  (kRc w 8 v1).bind fun b2 =>
  (fX8_lineAt b2 x1 w).bind fun v4 =>
  if v4 = none then
  some (-1 : Int32)
  else
  (kgI w 1 v4 7).bind fun v5 =>
  some v5

set_option maxHeartbeats 4000000 in
set_option maxRecDepth 100000 in
theorem rX11_table (l : Launch) (D : va_G) (aC : Nat → ClassId) {x0 : Nat} {x1 : Int32} {w : kW} {oR : Int32} (h : fX11_table x0 x1 w = some oR) : kC l D aC yX11_table cX11_table 3 (some .int) 2 33 [.ref x0, .int x1] w (some (.int oR)) w 0 0 := by
  refine kOf (own := RX11) (by decide) rfl (Nat.le_of_ble_eq_true rfl) ?_
  intro p e s m below meth c ls F hml hr hlocks hnm hX hZ hl
  obtain ⟨hx, hb, hts, hown, hK⟩ := id F
  have hl : lv_has ls 3 [(0, .ref x0), (1, .int x1)] := hl
  have hf := h
  rw [fX11_table] at hf
  refine lv_aload_n hx hb (kd dtX11_table_0 0 rfl) rfl (lv_at hl 0 rfl) ?_
  obtain ⟨v1, hv1, hf⟩ := kbind hf
  refine kgetP hv1 F hX hinX11 rfl rfl rfl (by decide) (by decide) wfX11_10 (kd dtX11_table_0 1 rfl) ?_
  refine lv_iload_n hx hb (kd dtX11_table_0 2 rfl) rfl (lv_at hl 1 rfl) ?_
  obtain ⟨b2, hb2, hf⟩ := kbind hf
  obtain ⟨hrb2, hkb2⟩ := kRc_s hb2
  obtain ⟨v4, h3, hf⟩ := kbind hf
  refine kcallV (n := 1) [.int x1] [] [va_rf v4] (rX8_lineAt l D aC h3) hrb2 hkb2 F hml hX hZ hl.1 mwX8_lineAt wmX11_128 rfl (by decide) (by decide +kernel) ⟨(by decide), (by decide)⟩ rfl rfl rfl (Nat.le_of_ble_eq_true rfl) (kd dtX11_table_0 3 rfl) ⟨Nat.zero_le _, Nat.zero_le _⟩ (fun H locs hX => ?_)
  refine kastore_n (lv' := [(2, va_rf v4), (0, .ref x0), (1, .int x1)]) hx hb (kd dtX11_table_0 4 rfl) rfl hl (by decide) rfl (fun ls hl => ?_)
  refine kaload_n hx hb (kd dtX11_table_0 5 rfl) rfl (lv_at hl 0 rfl) ?_
  refine kifnonnull (tgt := 17) hx hb (kd dtX11_table_0 6 rfl) (by decide) (fun hc => ?_) (fun hc => ?_)
  · have hf := kif_pos hc hf
    refine lv_iconst (v := (-1 : Int32)) hx hb (kd dtX11_table_0 7 rfl) (by decide) ?_
    refine lv_goto (tgt := 21) hx hb (kd dtX11_table_0 8 rfl) (by decide) ?_
    obtain rfl := Option.some.inj hf
    exact kiret F hX hr hlocks rfl (kd dtX11_table_0 11 rfl)
  · have hf := kif_neg hc hf
    refine kaload_n hx hb (kd dtX11_table_0 9 rfl) rfl (lv_at hl 0 rfl) ?_
    obtain ⟨v5, hv5, hf⟩ := kbind hf
    refine kgetIN hv5 F hX hinX1 rfl rfl rfl (by decide) (by decide) hZ wfX11_163 (kd dtX11_table_0 10 rfl) ?_
    obtain rfl := Option.some.inj hf
    exact kiret F hX hr hlocks rfl (kd dtX11_table_0 11 rfl)
theorem wmX11_166 : Cond.methodLink RX11 166 yX1_samePart ∈ kT := kTm 694 (by decide +kernel) rfl
theorem wmX11_170 : Cond.methodLink RX11 170 yX1_isLike ∈ kT := kTm 698 (by decide +kernel) rfl
theorem wmX11_173 : Cond.methodLink RX11 173 yX4_makes ∈ kT := kTm 702 (by decide +kernel) rfl
def lX11_pair_0 : List (Nat × Instr × Nat) := [(0, .aload_n 0, 1), (1, .getfield 10, 3), (4, .iload_n 1, 1), (5, .invokevirtual 128, 3), (8, .astore 4, 2), (10, .aload_n 0, 1), (11, .getfield 10, 3), (14, .iload_n 2, 1), (15, .invokevirtual 128, 3), (18, .astore 5, 2), (20, .aload 4, 2), (22, .ifnull 8, 3), (25, .aload 5, 2), (27, .ifnonnull 5, 3), (30, .iconst (-1), 1), (31, .ireturn, 1), (32, .iload_n 3, 1), (33, .tableswitch 85 0 2 #[27, 45, 63], 27), (60, .aload 4, 2), (62, .iconst 0, 1), (63, .aload 5, 2), (65, .iconst 0, 1), (66, .invokevirtual 166, 3), (69, .ifCond .eq 7, 3), (72, .iconst 1, 1), (73, .goto 4, 3), (76, .iconst 0, 1), (77, .ireturn, 1), (78, .aload 4, 2), (80, .iconst 0, 1), (81, .aload 5, 2), (83, .iconst 0, 1), (84, .invokevirtual 170, 3), (87, .ifCond .eq 7, 3), (90, .iconst 1, 1), (91, .goto 4, 3), (94, .iconst 0, 1), (95, .ireturn, 1), (96, .aload_n 0, 1), (97, .getfield 46, 3), (100, .aload 4, 2), (102, .iconst 0, 1), (103, .aload 5, 2), (105, .iconst 0, 1), (106, .invokevirtual 173, 3), (109, .ifCond .eq 7, 3), (112, .iconst 1, 1), (113, .goto 4, 3), (116, .iconst 0, 1), (117, .ireturn, 1), (118, .iconst (-1), 1), (119, .ireturn, 1)]
theorem dtX11_pair_0 : kDec cX11_pair lX11_pair_0 = true := by decide +kernel
noncomputable def fX11_pair (x0 : Nat) (x1 : Int32) (x2 : Int32) (x3 : Int32) (w : kW) : Option (Int32 × kW) :=
  (kgP w 11 (some x0) 0).bind fun v1 =>
  (kRc w 8 v1).bind fun b2 =>
  (fX8_lineAt b2 x1 w).bind fun v4 =>
  (kgP w 11 (some x0) 0).bind fun v5 =>
  (kRc w 8 v5).bind fun b6 =>
  (fX8_lineAt b6 x2 w).bind fun v8 =>
  if v4 = none then
  some ((-1 : Int32), w)
  else
  if v8 = none then
  some ((-1 : Int32), w)
  else
  if x3 = (0 : Int32) then
  (kRc w 1 v4).bind fun b9 =>
  (fX1_samePart b9 (0 : Int32) v8 (0 : Int32) w).bind fun v11 =>
  if v11 = 0 then
  some ((0 : Int32), w)
  else
  some ((1 : Int32), w)
  else if x3 = (1 : Int32) then
  (kRc w 1 v4).bind fun b12 =>
  (fX1_isLike b12 (0 : Int32) v8 (0 : Int32) w).bind fun v14 =>
  if v14 = 0 then
  some ((0 : Int32), w)
  else
  some ((1 : Int32), w)
  else if x3 = (2 : Int32) then
  (kgP w 11 (some x0) 6).bind fun v15 =>
  (kRc w 4 v15).bind fun b16 =>
  kb2 (fX4_makes b16 v4 (0 : Int32) v8 (0 : Int32) w) fun v19 w17 =>
  if v19 = 0 then
  some ((0 : Int32), w17)
  else
  some ((1 : Int32), w17)
  else 
  some ((-1 : Int32), w)

set_option maxHeartbeats 4000000 in
set_option maxRecDepth 100000 in
theorem rX11_pair (l : Launch) (D : va_G) (aC : Nat → ClassId) {x0 : Nat} {x1 : Int32} {x2 : Int32} {x3 : Int32} {w : kW} {wR : kW} {oR : Int32} (h : fX11_pair x0 x1 x2 x3 w = some (oR, wR)) : kC l D aC yX11_pair cX11_pair 6 (some .int) 4 86 [.ref x0, .int x1, .int x2, .int x3] w (some (.int oR)) wR 0 0 := by
  refine kOf (own := RX11) (by decide) rfl (Nat.le_of_ble_eq_true rfl) ?_
  intro p e s m below meth c ls F hml hr hlocks hnm hX hZ hl
  obtain ⟨hx, hb, hts, hown, hK⟩ := id F
  have hl : lv_has ls 6 [(0, .ref x0), (1, .int x1), (2, .int x2), (3, .int x3)] := hl
  have hf := h
  rw [fX11_pair] at hf
  refine lv_aload_n hx hb (kd dtX11_pair_0 0 rfl) rfl (lv_at hl 0 rfl) ?_
  obtain ⟨v1, hv1, hf⟩ := kbind hf
  refine kgetP hv1 F hX hinX11 rfl rfl rfl (by decide) (by decide) wfX11_10 (kd dtX11_pair_0 1 rfl) ?_
  refine lv_iload_n hx hb (kd dtX11_pair_0 2 rfl) rfl (lv_at hl 1 rfl) ?_
  obtain ⟨b2, hb2, hf⟩ := kbind hf
  obtain ⟨hrb2, hkb2⟩ := kRc_s hb2
  obtain ⟨v4, h3, hf⟩ := kbind hf
  refine kcallV (n := 1) [.int x1] [] [va_rf v4] (rX8_lineAt l D aC h3) hrb2 hkb2 F hml hX hZ hl.1 mwX8_lineAt wmX11_128 rfl (by decide) (by decide +kernel) ⟨(by decide), (by decide)⟩ rfl rfl rfl (Nat.le_of_ble_eq_true rfl) (kd dtX11_pair_0 3 rfl) ⟨Nat.zero_le _, Nat.zero_le _⟩ (fun H locs hX => ?_)
  refine kastore (lv' := [(4, va_rf v4), (0, .ref x0), (1, .int x1), (2, .int x2), (3, .int x3)]) hx hb (kd dtX11_pair_0 4 rfl) hl (by decide) rfl (fun ls hl => ?_)
  refine lv_aload_n hx hb (kd dtX11_pair_0 5 rfl) rfl (lv_at hl 1 rfl) ?_
  obtain ⟨v5, hv5, hf⟩ := kbind hf
  refine kgetP hv5 F hX hinX11 rfl rfl rfl (by decide) (by decide) wfX11_10 (kd dtX11_pair_0 6 rfl) ?_
  refine lv_iload_n hx hb (kd dtX11_pair_0 7 rfl) rfl (lv_at hl 3 rfl) ?_
  obtain ⟨b6, hb6, hf⟩ := kbind hf
  obtain ⟨hrb6, hkb6⟩ := kRc_s hb6
  obtain ⟨v8, h7, hf⟩ := kbind hf
  refine kcallV (n := 1) [.int x2] [] [va_rf v8] (rX8_lineAt l D aC h7) hrb6 hkb6 F hml hX hZ hl.1 mwX8_lineAt wmX11_128 rfl (by decide) (by decide +kernel) ⟨(by decide), (by decide)⟩ rfl rfl rfl (Nat.le_of_ble_eq_true rfl) (kd dtX11_pair_0 8 rfl) ⟨Nat.zero_le _, Nat.zero_le _⟩ (fun H locs hX => ?_)
  refine kastore (i := 5) (lv' := [(5, va_rf v8), (4, va_rf v4), (0, .ref x0), (1, .int x1), (2, .int x2), (3, .int x3)]) hx hb (kd dtX11_pair_0 9 rfl) hl (by decide) (by simp [kcat_rf, kcat_i, kcat_r, kcat_l]) (fun ls hl => ?_)
  refine kaload hx hb (kd dtX11_pair_0 10 rfl) (lv_at hl 1 rfl) ?_
  refine kifnull (tgt := 30) hx hb (kd dtX11_pair_0 11 rfl) (by decide) (fun hc => ?_) (fun hc => ?_)
  · have hf := kif_pos hc hf
    refine lv_iconst (v := (-1 : Int32)) hx hb (kd dtX11_pair_0 14 rfl) (by decide) ?_
    obtain ⟨rfl, rfl⟩ := Prod.mk.inj (Option.some.inj hf)
    exact kiret F hX hr hlocks rfl (kd dtX11_pair_0 15 rfl)
  · have hf := kif_neg hc hf
    refine kaload hx hb (kd dtX11_pair_0 12 rfl) (lv_at hl 0 rfl) ?_
    refine kifnonnull (tgt := 32) hx hb (kd dtX11_pair_0 13 rfl) (by decide) (fun hc => ?_) (fun hc => ?_)
    · have hf := kif_pos hc hf
      refine lv_iconst (v := (-1 : Int32)) hx hb (kd dtX11_pair_0 14 rfl) (by decide) ?_
      obtain ⟨rfl, rfl⟩ := Prod.mk.inj (Option.some.inj hf)
      exact kiret F hX hr hlocks rfl (kd dtX11_pair_0 15 rfl)
    · have hf := kif_neg hc hf
      refine lv_iload_n hx hb (kd dtX11_pair_0 16 rfl) rfl (lv_at hl 5 rfl) ?_
      by_cases hc0 : x3 = (0 : Int32)
      · have hf := kif_pos hc0 hf
        have hq : (x3).toInt = 0 := by rw [hc0]; rfl
        refine lv_tableIn (off := 27) (tgt := 60) hx hb (kd dtX11_pair_0 17 rfl) (by rw [hq]; decide) (by rw [hq]; decide) (by rw [hq]; rfl) (by decide) ?_
        refine kaload hx hb (kd dtX11_pair_0 18 rfl) (lv_at hl 1 rfl) ?_
        refine lv_iconst (v := (0 : Int32)) hx hb (kd dtX11_pair_0 19 rfl) (by decide) ?_
        refine kaload hx hb (kd dtX11_pair_0 20 rfl) (lv_at hl 0 rfl) ?_
        refine lv_iconst (v := (0 : Int32)) hx hb (kd dtX11_pair_0 21 rfl) (by decide) ?_
        obtain ⟨b9, hb9, hf⟩ := kbind hf
        obtain ⟨hrb9, hkb9⟩ := kRc_s hb9
        obtain ⟨v11, h10, hf⟩ := kbind hf
        refine kcallV (n := 3) [.int (0 : Int32), va_rf v8, .int (0 : Int32)] [] [.int v11] (rX1_samePart l D aC h10) hrb9 hkb9 F hml hX hZ hl.1 mwX1_samePart wmX11_166 rfl (by decide) (by decide +kernel) ⟨(by decide), (by decide)⟩ rfl rfl rfl (Nat.le_of_ble_eq_true rfl) (kd dtX11_pair_0 22 rfl) ⟨Nat.zero_le _, Nat.zero_le _⟩ (fun H locs hX => ?_)
        refine lv_if_eq (tgt := 76) hx hb (kd dtX11_pair_0 23 rfl) (by decide) (fun hc => ?_) (fun hc => ?_)
        · have hf := kif_pos hc hf
          refine lv_iconst (v := (0 : Int32)) hx hb (kd dtX11_pair_0 26 rfl) (by decide) ?_
          obtain ⟨rfl, rfl⟩ := Prod.mk.inj (Option.some.inj hf)
          exact kiret F hX hr hlocks rfl (kd dtX11_pair_0 27 rfl)
        · have hf := kif_neg hc hf
          refine lv_iconst (v := (1 : Int32)) hx hb (kd dtX11_pair_0 24 rfl) (by decide) ?_
          refine lv_goto (tgt := 77) hx hb (kd dtX11_pair_0 25 rfl) (by decide) ?_
          obtain ⟨rfl, rfl⟩ := Prod.mk.inj (Option.some.inj hf)
          exact kiret F hX hr hlocks rfl (kd dtX11_pair_0 27 rfl)
      have hf := kif_neg hc0 hf
      by_cases hc1 : x3 = (1 : Int32)
      · have hf := kif_pos hc1 hf
        have hq : (x3).toInt = 1 := by rw [hc1]; rfl
        refine lv_tableIn (off := 45) (tgt := 78) hx hb (kd dtX11_pair_0 17 rfl) (by rw [hq]; decide) (by rw [hq]; decide) (by rw [hq]; rfl) (by decide) ?_
        refine kaload hx hb (kd dtX11_pair_0 28 rfl) (lv_at hl 1 rfl) ?_
        refine lv_iconst (v := (0 : Int32)) hx hb (kd dtX11_pair_0 29 rfl) (by decide) ?_
        refine kaload hx hb (kd dtX11_pair_0 30 rfl) (lv_at hl 0 rfl) ?_
        refine lv_iconst (v := (0 : Int32)) hx hb (kd dtX11_pair_0 31 rfl) (by decide) ?_
        obtain ⟨b12, hb12, hf⟩ := kbind hf
        obtain ⟨hrb12, hkb12⟩ := kRc_s hb12
        obtain ⟨v14, h13, hf⟩ := kbind hf
        refine kcallV (n := 3) [.int (0 : Int32), va_rf v8, .int (0 : Int32)] [] [.int v14] (rX1_isLike l D aC h13) hrb12 hkb12 F hml hX hZ hl.1 mwX1_isLike wmX11_170 rfl (by decide) (by decide +kernel) ⟨(by decide), (by decide)⟩ rfl rfl rfl (Nat.le_of_ble_eq_true rfl) (kd dtX11_pair_0 32 rfl) ⟨Nat.zero_le _, Nat.zero_le _⟩ (fun H locs hX => ?_)
        refine lv_if_eq (tgt := 94) hx hb (kd dtX11_pair_0 33 rfl) (by decide) (fun hc => ?_) (fun hc => ?_)
        · have hf := kif_pos hc hf
          refine lv_iconst (v := (0 : Int32)) hx hb (kd dtX11_pair_0 36 rfl) (by decide) ?_
          obtain ⟨rfl, rfl⟩ := Prod.mk.inj (Option.some.inj hf)
          exact kiret F hX hr hlocks rfl (kd dtX11_pair_0 37 rfl)
        · have hf := kif_neg hc hf
          refine lv_iconst (v := (1 : Int32)) hx hb (kd dtX11_pair_0 34 rfl) (by decide) ?_
          refine lv_goto (tgt := 95) hx hb (kd dtX11_pair_0 35 rfl) (by decide) ?_
          obtain ⟨rfl, rfl⟩ := Prod.mk.inj (Option.some.inj hf)
          exact kiret F hX hr hlocks rfl (kd dtX11_pair_0 37 rfl)
      have hf := kif_neg hc1 hf
      by_cases hc2 : x3 = (2 : Int32)
      · have hf := kif_pos hc2 hf
        have hq : (x3).toInt = 2 := by rw [hc2]; rfl
        refine lv_tableIn (off := 63) (tgt := 96) hx hb (kd dtX11_pair_0 17 rfl) (by rw [hq]; decide) (by rw [hq]; decide) (by rw [hq]; rfl) (by decide) ?_
        refine lv_aload_n hx hb (kd dtX11_pair_0 38 rfl) rfl (lv_at hl 2 rfl) ?_
        obtain ⟨v15, hv15, hf⟩ := kbind hf
        refine kgetP hv15 F hX hinX11 rfl rfl rfl (by decide) (by decide) wfX11_46 (kd dtX11_pair_0 39 rfl) ?_
        refine kaload hx hb (kd dtX11_pair_0 40 rfl) (lv_at hl 1 rfl) ?_
        refine lv_iconst (v := (0 : Int32)) hx hb (kd dtX11_pair_0 41 rfl) (by decide) ?_
        refine kaload hx hb (kd dtX11_pair_0 42 rfl) (lv_at hl 0 rfl) ?_
        refine lv_iconst (v := (0 : Int32)) hx hb (kd dtX11_pair_0 43 rfl) (by decide) ?_
        obtain ⟨b16, hb16, hf⟩ := kbind hf
        obtain ⟨hrb16, hkb16⟩ := kRc_s hb16
        obtain ⟨v19, w17, h18, hf⟩ := kbind2 hf
        refine kcallV (n := 4) [va_rf v4, .int (0 : Int32), va_rf v8, .int (0 : Int32)] [] [.int v19] (rX4_makes l D aC h18) hrb16 hkb16 F hml hX hZ hl.1 mwX4_makes wmX11_173 rfl (by decide) (by decide +kernel) ⟨(by decide), (by decide)⟩ rfl rfl rfl (Nat.le_of_ble_eq_true rfl) (kd dtX11_pair_0 44 rfl) ⟨Nat.zero_le _, Nat.zero_le _⟩ (fun H locs hX => ?_)
        refine lv_if_eq (tgt := 116) hx hb (kd dtX11_pair_0 45 rfl) (by decide) (fun hc => ?_) (fun hc => ?_)
        · have hf := kif_pos hc hf
          refine lv_iconst (v := (0 : Int32)) hx hb (kd dtX11_pair_0 48 rfl) (by decide) ?_
          obtain ⟨rfl, rfl⟩ := Prod.mk.inj (Option.some.inj hf)
          exact kiret F hX hr hlocks rfl (kd dtX11_pair_0 49 rfl)
        · have hf := kif_neg hc hf
          refine lv_iconst (v := (1 : Int32)) hx hb (kd dtX11_pair_0 46 rfl) (by decide) ?_
          refine lv_goto (tgt := 117) hx hb (kd dtX11_pair_0 47 rfl) (by decide) ?_
          obtain ⟨rfl, rfl⟩ := Prod.mk.inj (Option.some.inj hf)
          exact kiret F hX hr hlocks rfl (kd dtX11_pair_0 49 rfl)
      have hf := kif_neg hc2 hf
      have hq0 := lv_neT (k := (0 : Int32)) hc0 (a := 0) rfl
      have hq1 := lv_neT (k := (1 : Int32)) hc1 (a := 1) rfl
      have hq2 := lv_neT (k := (2 : Int32)) hc2 (a := 2) rfl
      refine lv_tableOut (tgt := 118) hx hb (kd dtX11_pair_0 17 rfl) (by omega) (by decide) ?_
      refine lv_iconst (v := (-1 : Int32)) hx hb (kd dtX11_pair_0 50 rfl) (by decide) ?_
      obtain ⟨rfl, rfl⟩ := Prod.mk.inj (Option.some.inj hf)
      exact kiret F hX hr hlocks rfl (kd dtX11_pair_0 51 rfl)
theorem wmX11_177 : Cond.methodLink RX11 177 yX9_makeAlike ∈ kT := kTm 717 (by decide +kernel) rfl
theorem mwX9_makeAlike : kMV RX9 yX9_makeAlike cX9_makeAlike 5 (some .boolean) := ⟨kTm 720 (by decide +kernel) rfl, kTm 101 (by decide +kernel) rfl, kTm 718 (by decide +kernel) rfl, kTm 719 (by decide +kernel) rfl⟩
theorem wfX11_181 : Cond.fieldLinkNest RX11 181 (TX9 0).1 (TX9 0).2.1 (TX9 0).2.2.1 "KitchenCards" ∈ kNs := kNm 281 (by decide +kernel) rfl
def lX11_widest_0 : List (Nat × Instr × Nat) := [(0, .aload_n 0, 1), (1, .getfield 10, 3), (4, .iload_n 1, 1), (5, .invokevirtual 128, 3), (8, .astore 4, 2), (10, .aload_n 0, 1), (11, .getfield 10, 3), (14, .iload_n 2, 1), (15, .invokevirtual 128, 3), (18, .astore 5, 2), (20, .aload 4, 2), (22, .ifnull 13, 3), (25, .aload 5, 2), (27, .ifnull 8, 3), (30, .iload_n 3, 1), (31, .iconst (-1), 1), (32, .if_icmp .ge 5, 3), (35, .iconst (-1), 1), (36, .ireturn, 1), (37, .aload_n 0, 1), (38, .getfield 53, 3), (41, .aload 4, 2), (43, .aload 5, 2), (45, .invokevirtual 177, 3), (48, .ifCond .ne 6, 3), (51, .bipush (-4), 2), (53, .ireturn, 1), (54, .iload_n 3, 1), (55, .ifCond .ge 16, 3), (58, .aload_n 0, 1), (59, .getfield 53, 3), (62, .getfield 181, 3), (65, .getfield 132, 3), (68, .goto 19, 3), (71, .aload_n 0, 1), (72, .getfield 39, 3), (75, .aload_n 0, 1), (76, .getfield 53, 3), (79, .getfield 181, 3), (82, .iconst 0, 1), (83, .iload_n 3, 1), (84, .invokevirtual 155, 3), (87, .ireturn, 1)]
theorem dtX11_widest_0 : kDec cX11_widest lX11_widest_0 = true := by decide +kernel
noncomputable def fX11_widest (x0 : Nat) (x1 : Int32) (x2 : Int32) (x3 : Int32) (w : kW) : Option (Int32 × kW) :=
  (kgP w 11 (some x0) 0).bind fun v1 =>
  (kRc w 8 v1).bind fun b2 =>
  (fX8_lineAt b2 x1 w).bind fun v4 =>
  (kgP w 11 (some x0) 0).bind fun v5 =>
  (kRc w 8 v5).bind fun b6 =>
  (fX8_lineAt b6 x2 w).bind fun v8 =>
  if v4 = none then
  some ((-1 : Int32), w)
  else
  if v8 = none then
  some ((-1 : Int32), w)
  else
  if (-1 : Int32) ≤ x3 then
  (kgP w 11 (some x0) 7).bind fun v9 =>
  (kRc w 9 v9).bind fun b10 =>
  kb2 (fX9_makeAlike b10 v4 v8 w) fun v13 w11 =>
  if v13 = 0 then
  some ((-4 : Int32), w11)
  else
  if 0 ≤ x3 then
  (kgP w11 11 (some x0) 5).bind fun v14 =>
  (kgP w11 11 (some x0) 7).bind fun v15 =>
  (kgP w11 9 v15 0).bind fun v16 =>
  (kRc w11 10 v14).bind fun b17 =>
  kb2 (fX10_byteOf b17 v16 (0 : Int32) x3 w11) fun v20 w18 =>
  some (v20, w18)
  else
  (kgP w11 11 (some x0) 7).bind fun v21 =>
  (kgP w11 9 v21 0).bind fun v22 =>
  (kgI w11 1 v22 5).bind fun v23 =>
  some (v23, w11)
  else
  some ((-1 : Int32), w)

set_option maxHeartbeats 4000000 in
set_option maxRecDepth 100000 in
theorem rX11_widest (l : Launch) (D : va_G) (aC : Nat → ClassId) {x0 : Nat} {x1 : Int32} {x2 : Int32} {x3 : Int32} {w : kW} {wR : kW} {oR : Int32} (h : fX11_widest x0 x1 x2 x3 w = some (oR, wR)) : kC l D aC yX11_widest cX11_widest 6 (some .int) 7 155 [.ref x0, .int x1, .int x2, .int x3] w (some (.int oR)) wR 0 0 := by
  refine kOf (own := RX11) (by decide) rfl (Nat.le_of_ble_eq_true rfl) ?_
  intro p e s m below meth c ls F hml hr hlocks hnm hX hZ hl
  obtain ⟨hx, hb, hts, hown, hK⟩ := id F
  have hl : lv_has ls 6 [(0, .ref x0), (1, .int x1), (2, .int x2), (3, .int x3)] := hl
  have hf := h
  rw [fX11_widest] at hf
  refine lv_aload_n hx hb (kd dtX11_widest_0 0 rfl) rfl (lv_at hl 0 rfl) ?_
  obtain ⟨v1, hv1, hf⟩ := kbind hf
  refine kgetP hv1 F hX hinX11 rfl rfl rfl (by decide) (by decide) wfX11_10 (kd dtX11_widest_0 1 rfl) ?_
  refine lv_iload_n hx hb (kd dtX11_widest_0 2 rfl) rfl (lv_at hl 1 rfl) ?_
  obtain ⟨b2, hb2, hf⟩ := kbind hf
  obtain ⟨hrb2, hkb2⟩ := kRc_s hb2
  obtain ⟨v4, h3, hf⟩ := kbind hf
  refine kcallV (n := 1) [.int x1] [] [va_rf v4] (rX8_lineAt l D aC h3) hrb2 hkb2 F hml hX hZ hl.1 mwX8_lineAt wmX11_128 rfl (by decide) (by decide +kernel) ⟨(by decide), (by decide)⟩ rfl rfl rfl (Nat.le_of_ble_eq_true rfl) (kd dtX11_widest_0 3 rfl) ⟨Nat.zero_le _, Nat.zero_le _⟩ (fun H locs hX => ?_)
  refine kastore (lv' := [(4, va_rf v4), (0, .ref x0), (1, .int x1), (2, .int x2), (3, .int x3)]) hx hb (kd dtX11_widest_0 4 rfl) hl (by decide) rfl (fun ls hl => ?_)
  refine lv_aload_n hx hb (kd dtX11_widest_0 5 rfl) rfl (lv_at hl 1 rfl) ?_
  obtain ⟨v5, hv5, hf⟩ := kbind hf
  refine kgetP hv5 F hX hinX11 rfl rfl rfl (by decide) (by decide) wfX11_10 (kd dtX11_widest_0 6 rfl) ?_
  refine lv_iload_n hx hb (kd dtX11_widest_0 7 rfl) rfl (lv_at hl 3 rfl) ?_
  obtain ⟨b6, hb6, hf⟩ := kbind hf
  obtain ⟨hrb6, hkb6⟩ := kRc_s hb6
  obtain ⟨v8, h7, hf⟩ := kbind hf
  refine kcallV (n := 1) [.int x2] [] [va_rf v8] (rX8_lineAt l D aC h7) hrb6 hkb6 F hml hX hZ hl.1 mwX8_lineAt wmX11_128 rfl (by decide) (by decide +kernel) ⟨(by decide), (by decide)⟩ rfl rfl rfl (Nat.le_of_ble_eq_true rfl) (kd dtX11_widest_0 8 rfl) ⟨Nat.zero_le _, Nat.zero_le _⟩ (fun H locs hX => ?_)
  refine kastore (i := 5) (lv' := [(5, va_rf v8), (4, va_rf v4), (0, .ref x0), (1, .int x1), (2, .int x2), (3, .int x3)]) hx hb (kd dtX11_widest_0 9 rfl) hl (by decide) (by simp [kcat_rf, kcat_i, kcat_r, kcat_l]) (fun ls hl => ?_)
  refine kaload hx hb (kd dtX11_widest_0 10 rfl) (lv_at hl 1 rfl) ?_
  refine kifnull (tgt := 35) hx hb (kd dtX11_widest_0 11 rfl) (by decide) (fun hc => ?_) (fun hc => ?_)
  · have hf := kif_pos hc hf
    refine lv_iconst (v := (-1 : Int32)) hx hb (kd dtX11_widest_0 17 rfl) (by decide) ?_
    obtain ⟨rfl, rfl⟩ := Prod.mk.inj (Option.some.inj hf)
    exact kiret F hX hr hlocks rfl (kd dtX11_widest_0 18 rfl)
  · have hf := kif_neg hc hf
    refine kaload hx hb (kd dtX11_widest_0 12 rfl) (lv_at hl 0 rfl) ?_
    refine kifnull (tgt := 35) hx hb (kd dtX11_widest_0 13 rfl) (by decide) (fun hc => ?_) (fun hc => ?_)
    · have hf := kif_pos hc hf
      refine lv_iconst (v := (-1 : Int32)) hx hb (kd dtX11_widest_0 17 rfl) (by decide) ?_
      obtain ⟨rfl, rfl⟩ := Prod.mk.inj (Option.some.inj hf)
      exact kiret F hX hr hlocks rfl (kd dtX11_widest_0 18 rfl)
    · have hf := kif_neg hc hf
      refine lv_iload_n hx hb (kd dtX11_widest_0 14 rfl) rfl (lv_at hl 5 rfl) ?_
      refine lv_iconst (v := (-1 : Int32)) hx hb (kd dtX11_widest_0 15 rfl) (by decide) ?_
      refine lv_icmp_ge (tgt := 37) hx hb (kd dtX11_widest_0 16 rfl) (by decide) (fun hc => ?_) (fun hc => ?_)
      · have hf := kif_pos hc hf
        refine lv_aload_n hx hb (kd dtX11_widest_0 19 rfl) rfl (lv_at hl 2 rfl) ?_
        obtain ⟨v9, hv9, hf⟩ := kbind hf
        refine kgetP hv9 F hX hinX11 rfl rfl rfl (by decide) (by decide) wfX11_53 (kd dtX11_widest_0 20 rfl) ?_
        refine kaload hx hb (kd dtX11_widest_0 21 rfl) (lv_at hl 1 rfl) ?_
        refine kaload hx hb (kd dtX11_widest_0 22 rfl) (lv_at hl 0 rfl) ?_
        obtain ⟨b10, hb10, hf⟩ := kbind hf
        obtain ⟨hrb10, hkb10⟩ := kRc_s hb10
        obtain ⟨v13, w11, h12, hf⟩ := kbind2 hf
        refine kcallV (n := 2) [va_rf v4, va_rf v8] [] [.int v13] (rX9_makeAlike l D aC h12) hrb10 hkb10 F hml hX hZ hl.1 mwX9_makeAlike wmX11_177 rfl (by decide) (by decide +kernel) ⟨(by decide), (by decide)⟩ rfl rfl rfl (Nat.le_of_ble_eq_true rfl) (kd dtX11_widest_0 23 rfl) ⟨Nat.zero_le _, Nat.zero_le _⟩ (fun H locs hX => ?_)
        refine lv_if_ne (tgt := 54) hx hb (kd dtX11_widest_0 24 rfl) (by decide) (fun hc => ?_) (fun hc => ?_)
        · have hf := kif_neg hc hf
          refine lv_iload_n hx hb (kd dtX11_widest_0 27 rfl) rfl (lv_at hl 5 rfl) ?_
          refine lv_if_ge (tgt := 71) hx hb (kd dtX11_widest_0 28 rfl) (by decide) (fun hc => ?_) (fun hc => ?_)
          · have hf := kif_pos hc hf
            refine lv_aload_n hx hb (kd dtX11_widest_0 34 rfl) rfl (lv_at hl 2 rfl) ?_
            obtain ⟨v14, hv14, hf⟩ := kbind hf
            refine kgetP hv14 F hX hinX11 rfl rfl rfl (by decide) (by decide) wfX11_39 (kd dtX11_widest_0 35 rfl) ?_
            refine lv_aload_n hx hb (kd dtX11_widest_0 36 rfl) rfl (lv_at hl 2 rfl) ?_
            obtain ⟨v15, hv15, hf⟩ := kbind hf
            refine kgetP hv15 F hX hinX11 rfl rfl rfl (by decide) (by decide) wfX11_53 (kd dtX11_widest_0 37 rfl) ?_
            obtain ⟨v16, hv16, hf⟩ := kbind hf
            refine kgetPN hv16 F hX hinX9 rfl rfl rfl (by decide) (by decide) hZ wfX11_181 (kd dtX11_widest_0 38 rfl) ?_
            refine lv_iconst (v := (0 : Int32)) hx hb (kd dtX11_widest_0 39 rfl) (by decide) ?_
            refine lv_iload_n hx hb (kd dtX11_widest_0 40 rfl) rfl (lv_at hl 5 rfl) ?_
            obtain ⟨b17, hb17, hf⟩ := kbind hf
            obtain ⟨hrb17, hkb17⟩ := kRc_s hb17
            obtain ⟨v20, w18, h19, hf⟩ := kbind2 hf
            refine kcallV (n := 3) [va_rf v16, .int (0 : Int32), .int x3] [] [.int v20] (rX10_byteOf l D aC h19) hrb17 hkb17 F hml hX hZ hl.1 mwX10_byteOf wmX11_155 rfl (by decide) (by decide +kernel) ⟨(by decide), (by decide)⟩ rfl rfl rfl (Nat.le_of_ble_eq_true rfl) (kd dtX11_widest_0 41 rfl) ⟨Nat.zero_le _, Nat.zero_le _⟩ (fun H locs hX => ?_)
            obtain ⟨rfl, rfl⟩ := Prod.mk.inj (Option.some.inj hf)
            exact kiret F hX hr hlocks rfl (kd dtX11_widest_0 42 rfl)
          · have hf := kif_neg hc hf
            refine lv_aload_n hx hb (kd dtX11_widest_0 29 rfl) rfl (lv_at hl 2 rfl) ?_
            obtain ⟨v21, hv21, hf⟩ := kbind hf
            refine kgetP hv21 F hX hinX11 rfl rfl rfl (by decide) (by decide) wfX11_53 (kd dtX11_widest_0 30 rfl) ?_
            obtain ⟨v22, hv22, hf⟩ := kbind hf
            refine kgetPN hv22 F hX hinX9 rfl rfl rfl (by decide) (by decide) hZ wfX11_181 (kd dtX11_widest_0 31 rfl) ?_
            obtain ⟨v23, hv23, hf⟩ := kbind hf
            refine kgetIN hv23 F hX hinX1 rfl rfl rfl (by decide) (by decide) hZ wfX11_132 (kd dtX11_widest_0 32 rfl) ?_
            refine lv_goto (tgt := 87) hx hb (kd dtX11_widest_0 33 rfl) (by decide) ?_
            obtain ⟨rfl, rfl⟩ := Prod.mk.inj (Option.some.inj hf)
            exact kiret F hX hr hlocks rfl (kd dtX11_widest_0 42 rfl)
        · have hf := kif_pos hc hf
          refine lv_bipush (v := (-4 : Int32)) hx hb (kd dtX11_widest_0 25 rfl) (by decide) ?_
          obtain ⟨rfl, rfl⟩ := Prod.mk.inj (Option.some.inj hf)
          exact kiret F hX hr hlocks rfl (kd dtX11_widest_0 26 rfl)
      · have hf := kif_neg hc hf
        refine lv_iconst (v := (-1 : Int32)) hx hb (kd dtX11_widest_0 17 rfl) (by decide) ?_
        obtain ⟨rfl, rfl⟩ := Prod.mk.inj (Option.some.inj hf)
        exact kiret F hX hr hlocks rfl (kd dtX11_widest_0 18 rfl)
theorem wmX11_185 : Cond.methodLink RX11 185 yX11_letterOf ∈ kT := kTm 748 (by decide +kernel) rfl
theorem wmX11_188 : Cond.methodLink RX11 188 yX4_startOf ∈ kT := kTm 749 (by decide +kernel) rfl
def lX11_must_0 : List (Nat × Instr × Nat) := [(0, .aload_n 0, 1), (1, .getfield 10, 3), (4, .iload_n 1, 1), (5, .invokevirtual 128, 3), (8, .astore 5, 2), (10, .aload_n 0, 1), (11, .getfield 10, 3), (14, .iload_n 2, 1), (15, .invokevirtual 128, 3), (18, .astore 6, 2), (20, .iload_n 3, 1), (21, .invokestatic 185, 3), (24, .istore 7, 2), (26, .aload 5, 2), (28, .ifnull 18, 3), (31, .aload 6, 2), (33, .ifnull 13, 3), (36, .iload 7, 2), (38, .ifCond .lt 8, 3), (41, .iload 4, 2), (43, .ifCond .ge 5, 3), (46, .iconst (-1), 1), (47, .ireturn, 1), (48, .aload_n 0, 1), (49, .getfield 46, 3), (52, .aload 5, 2), (54, .iconst 0, 1), (55, .aload 6, 2), (57, .iconst 0, 1), (58, .invokevirtual 173, 3), (61, .ifCond .ne 6, 3), (64, .bipush (-4), 2), (66, .ireturn, 1), (67, .aload_n 0, 1), (68, .getfield 46, 3), (71, .iload 7, 2), (73, .invokevirtual 188, 3), (76, .istore 8, 2), (78, .iload 8, 2), (80, .ifCond .ge 8, 3), (83, .bipush (-4), 2), (85, .goto 16, 3), (88, .aload_n 0, 1), (89, .getfield 39, 3), (92, .aload 6, 2), (94, .iload 8, 2), (96, .iload 4, 2), (98, .invokevirtual 155, 3), (101, .ireturn, 1)]
theorem dtX11_must_0 : kDec cX11_must lX11_must_0 = true := by decide +kernel
noncomputable def fX11_must (x0 : Nat) (x1 : Int32) (x2 : Int32) (x3 : Int32) (x4 : Int32) (w : kW) : Option (Int32 × kW) :=
  (kgP w 11 (some x0) 0).bind fun v1 =>
  (kRc w 8 v1).bind fun b2 =>
  (fX8_lineAt b2 x1 w).bind fun v4 =>
  (kgP w 11 (some x0) 0).bind fun v5 =>
  (kRc w 8 v5).bind fun b6 =>
  (fX8_lineAt b6 x2 w).bind fun v8 =>
  (fX11_letterOf x3).bind fun v10 =>
  if v4 = none then
  some ((-1 : Int32), w)
  else
  if v8 = none then
  some ((-1 : Int32), w)
  else
  if v10 < 0 then
  some ((-1 : Int32), w)
  else
  if 0 ≤ x4 then
  (kgP w 11 (some x0) 6).bind fun v11 =>
  (kRc w 4 v11).bind fun b12 =>
  kb2 (fX4_makes b12 v4 (0 : Int32) v8 (0 : Int32) w) fun v15 w13 =>
  if v15 = 0 then
  some ((-4 : Int32), w13)
  else
  (kgP w13 11 (some x0) 6).bind fun v16 =>
  (kRc w13 4 v16).bind fun b17 =>
  (fX4_startOf b17 v10 w13).bind fun v19 =>
  if 0 ≤ v19 then
  (kgP w13 11 (some x0) 5).bind fun v20 =>
  (kRc w13 10 v20).bind fun b21 =>
  kb2 (fX10_byteOf b21 v8 v19 x4 w13) fun v24 w22 =>
  some (v24, w22)
  else
  some ((-4 : Int32), w13)
  else
  some ((-1 : Int32), w)

set_option maxHeartbeats 4000000 in
set_option maxRecDepth 100000 in
theorem rX11_must (l : Launch) (D : va_G) (aC : Nat → ClassId) {x0 : Nat} {x1 : Int32} {x2 : Int32} {x3 : Int32} {x4 : Int32} {w : kW} {wR : kW} {oR : Int32} (h : fX11_must x0 x1 x2 x3 x4 w = some (oR, wR)) : kC l D aC yX11_must cX11_must 9 (some .int) 5 100 [.ref x0, .int x1, .int x2, .int x3, .int x4] w (some (.int oR)) wR 0 0 := by
  refine kOf (own := RX11) (by decide) rfl (Nat.le_of_ble_eq_true rfl) ?_
  intro p e s m below meth c ls F hml hr hlocks hnm hX hZ hl
  obtain ⟨hx, hb, hts, hown, hK⟩ := id F
  have hl : lv_has ls 9 [(0, .ref x0), (1, .int x1), (2, .int x2), (3, .int x3), (4, .int x4)] := hl
  have hf := h
  rw [fX11_must] at hf
  refine lv_aload_n hx hb (kd dtX11_must_0 0 rfl) rfl (lv_at hl 0 rfl) ?_
  obtain ⟨v1, hv1, hf⟩ := kbind hf
  refine kgetP hv1 F hX hinX11 rfl rfl rfl (by decide) (by decide) wfX11_10 (kd dtX11_must_0 1 rfl) ?_
  refine lv_iload_n hx hb (kd dtX11_must_0 2 rfl) rfl (lv_at hl 1 rfl) ?_
  obtain ⟨b2, hb2, hf⟩ := kbind hf
  obtain ⟨hrb2, hkb2⟩ := kRc_s hb2
  obtain ⟨v4, h3, hf⟩ := kbind hf
  refine kcallV (n := 1) [.int x1] [] [va_rf v4] (rX8_lineAt l D aC h3) hrb2 hkb2 F hml hX hZ hl.1 mwX8_lineAt wmX11_128 rfl (by decide) (by decide +kernel) ⟨(by decide), (by decide)⟩ rfl rfl rfl (Nat.le_of_ble_eq_true rfl) (kd dtX11_must_0 3 rfl) ⟨Nat.zero_le _, Nat.zero_le _⟩ (fun H locs hX => ?_)
  refine kastore (lv' := [(5, va_rf v4), (0, .ref x0), (1, .int x1), (2, .int x2), (3, .int x3), (4, .int x4)]) hx hb (kd dtX11_must_0 4 rfl) hl (by decide) rfl (fun ls hl => ?_)
  refine lv_aload_n hx hb (kd dtX11_must_0 5 rfl) rfl (lv_at hl 1 rfl) ?_
  obtain ⟨v5, hv5, hf⟩ := kbind hf
  refine kgetP hv5 F hX hinX11 rfl rfl rfl (by decide) (by decide) wfX11_10 (kd dtX11_must_0 6 rfl) ?_
  refine lv_iload_n hx hb (kd dtX11_must_0 7 rfl) rfl (lv_at hl 3 rfl) ?_
  obtain ⟨b6, hb6, hf⟩ := kbind hf
  obtain ⟨hrb6, hkb6⟩ := kRc_s hb6
  obtain ⟨v8, h7, hf⟩ := kbind hf
  refine kcallV (n := 1) [.int x2] [] [va_rf v8] (rX8_lineAt l D aC h7) hrb6 hkb6 F hml hX hZ hl.1 mwX8_lineAt wmX11_128 rfl (by decide) (by decide +kernel) ⟨(by decide), (by decide)⟩ rfl rfl rfl (Nat.le_of_ble_eq_true rfl) (kd dtX11_must_0 8 rfl) ⟨Nat.zero_le _, Nat.zero_le _⟩ (fun H locs hX => ?_)
  refine kastore (i := 6) (lv' := [(6, va_rf v8), (5, va_rf v4), (0, .ref x0), (1, .int x1), (2, .int x2), (3, .int x3), (4, .int x4)]) hx hb (kd dtX11_must_0 9 rfl) hl (by decide) (by simp [kcat_rf, kcat_i, kcat_r, kcat_l]) (fun ls hl => ?_)
  refine lv_iload_n hx hb (kd dtX11_must_0 10 rfl) rfl (lv_at hl 5 rfl) ?_
  obtain ⟨v10, h9, hf⟩ := kbind hf
  refine kcallS (n := 1) [.int x3] [] [.int v10] (rX11_letterOf l D aC w h9) F hml hX hZ hl.1 mwX11_letterOf wmX11_185 (by decide +kernel) ⟨(by decide), (by decide)⟩ rfl rfl rfl (Nat.le_of_ble_eq_true rfl) (kd dtX11_must_0 11 rfl) ⟨Nat.zero_le _, Nat.zero_le _⟩ (fun H locs hX => ?_)
  refine lv_istore (i := 7) (lv' := [(7, .int v10), (6, va_rf v8), (5, va_rf v4), (0, .ref x0), (1, .int x1), (2, .int x2), (3, .int x3), (4, .int x4)]) hx hb (kd dtX11_must_0 12 rfl) hl (by decide) (by simp [kcat_rf, kcat_i, kcat_r, kcat_l]) (fun ls hl => ?_)
  refine kaload hx hb (kd dtX11_must_0 13 rfl) (lv_at hl 2 rfl) ?_
  refine kifnull (tgt := 46) hx hb (kd dtX11_must_0 14 rfl) (by decide) (fun hc => ?_) (fun hc => ?_)
  · have hf := kif_pos hc hf
    refine lv_iconst (v := (-1 : Int32)) hx hb (kd dtX11_must_0 21 rfl) (by decide) ?_
    obtain ⟨rfl, rfl⟩ := Prod.mk.inj (Option.some.inj hf)
    exact kiret F hX hr hlocks rfl (kd dtX11_must_0 22 rfl)
  · have hf := kif_neg hc hf
    refine kaload hx hb (kd dtX11_must_0 15 rfl) (lv_at hl 1 rfl) ?_
    refine kifnull (tgt := 46) hx hb (kd dtX11_must_0 16 rfl) (by decide) (fun hc => ?_) (fun hc => ?_)
    · have hf := kif_pos hc hf
      refine lv_iconst (v := (-1 : Int32)) hx hb (kd dtX11_must_0 21 rfl) (by decide) ?_
      obtain ⟨rfl, rfl⟩ := Prod.mk.inj (Option.some.inj hf)
      exact kiret F hX hr hlocks rfl (kd dtX11_must_0 22 rfl)
    · have hf := kif_neg hc hf
      refine lv_iload hx hb (kd dtX11_must_0 17 rfl) (lv_at hl 0 rfl) ?_
      refine lv_if_lt (tgt := 46) hx hb (kd dtX11_must_0 18 rfl) (by decide) (fun hc => ?_) (fun hc => ?_)
      · have hf := kif_pos hc hf
        refine lv_iconst (v := (-1 : Int32)) hx hb (kd dtX11_must_0 21 rfl) (by decide) ?_
        obtain ⟨rfl, rfl⟩ := Prod.mk.inj (Option.some.inj hf)
        exact kiret F hX hr hlocks rfl (kd dtX11_must_0 22 rfl)
      · have hf := kif_neg hc hf
        refine lv_iload hx hb (kd dtX11_must_0 19 rfl) (lv_at hl 7 rfl) ?_
        refine lv_if_ge (tgt := 48) hx hb (kd dtX11_must_0 20 rfl) (by decide) (fun hc => ?_) (fun hc => ?_)
        · have hf := kif_pos hc hf
          refine lv_aload_n hx hb (kd dtX11_must_0 23 rfl) rfl (lv_at hl 3 rfl) ?_
          obtain ⟨v11, hv11, hf⟩ := kbind hf
          refine kgetP hv11 F hX hinX11 rfl rfl rfl (by decide) (by decide) wfX11_46 (kd dtX11_must_0 24 rfl) ?_
          refine kaload hx hb (kd dtX11_must_0 25 rfl) (lv_at hl 2 rfl) ?_
          refine lv_iconst (v := (0 : Int32)) hx hb (kd dtX11_must_0 26 rfl) (by decide) ?_
          refine kaload hx hb (kd dtX11_must_0 27 rfl) (lv_at hl 1 rfl) ?_
          refine lv_iconst (v := (0 : Int32)) hx hb (kd dtX11_must_0 28 rfl) (by decide) ?_
          obtain ⟨b12, hb12, hf⟩ := kbind hf
          obtain ⟨hrb12, hkb12⟩ := kRc_s hb12
          obtain ⟨v15, w13, h14, hf⟩ := kbind2 hf
          refine kcallV (n := 4) [va_rf v4, .int (0 : Int32), va_rf v8, .int (0 : Int32)] [] [.int v15] (rX4_makes l D aC h14) hrb12 hkb12 F hml hX hZ hl.1 mwX4_makes wmX11_173 rfl (by decide) (by decide +kernel) ⟨(by decide), (by decide)⟩ rfl rfl rfl (Nat.le_of_ble_eq_true rfl) (kd dtX11_must_0 29 rfl) ⟨Nat.zero_le _, Nat.zero_le _⟩ (fun H locs hX => ?_)
          refine lv_if_ne (tgt := 67) hx hb (kd dtX11_must_0 30 rfl) (by decide) (fun hc => ?_) (fun hc => ?_)
          · have hf := kif_neg hc hf
            refine lv_aload_n hx hb (kd dtX11_must_0 33 rfl) rfl (lv_at hl 3 rfl) ?_
            obtain ⟨v16, hv16, hf⟩ := kbind hf
            refine kgetP hv16 F hX hinX11 rfl rfl rfl (by decide) (by decide) wfX11_46 (kd dtX11_must_0 34 rfl) ?_
            refine lv_iload hx hb (kd dtX11_must_0 35 rfl) (lv_at hl 0 rfl) ?_
            obtain ⟨b17, hb17, hf⟩ := kbind hf
            obtain ⟨hrb17, hkb17⟩ := kRc_s hb17
            obtain ⟨v19, h18, hf⟩ := kbind hf
            refine kcallV (n := 1) [.int v10] [] [.int v19] (rX4_startOf l D aC h18) hrb17 hkb17 F hml hX hZ hl.1 mwX4_startOf wmX11_188 rfl (by decide) (by decide +kernel) ⟨(by decide), (by decide)⟩ rfl rfl rfl (Nat.le_of_ble_eq_true rfl) (kd dtX11_must_0 36 rfl) ⟨Nat.zero_le _, Nat.zero_le _⟩ (fun H locs hX => ?_)
            refine lv_istore (lv' := [(8, .int v19), (7, .int v10), (6, va_rf v8), (5, va_rf v4), (0, .ref x0), (1, .int x1), (2, .int x2), (3, .int x3), (4, .int x4)]) hx hb (kd dtX11_must_0 37 rfl) hl (by decide) rfl (fun ls hl => ?_)
            refine lv_iload hx hb (kd dtX11_must_0 38 rfl) (lv_at hl 0 rfl) ?_
            refine lv_if_ge (tgt := 88) hx hb (kd dtX11_must_0 39 rfl) (by decide) (fun hc => ?_) (fun hc => ?_)
            · have hf := kif_pos hc hf
              refine lv_aload_n hx hb (kd dtX11_must_0 42 rfl) rfl (lv_at hl 4 rfl) ?_
              obtain ⟨v20, hv20, hf⟩ := kbind hf
              refine kgetP hv20 F hX hinX11 rfl rfl rfl (by decide) (by decide) wfX11_39 (kd dtX11_must_0 43 rfl) ?_
              refine kaload hx hb (kd dtX11_must_0 44 rfl) (lv_at hl 2 rfl) ?_
              refine lv_iload hx hb (kd dtX11_must_0 45 rfl) (lv_at hl 0 rfl) ?_
              refine lv_iload hx hb (kd dtX11_must_0 46 rfl) (lv_at hl 8 rfl) ?_
              obtain ⟨b21, hb21, hf⟩ := kbind hf
              obtain ⟨hrb21, hkb21⟩ := kRc_s hb21
              obtain ⟨v24, w22, h23, hf⟩ := kbind2 hf
              refine kcallV (n := 3) [va_rf v8, .int v19, .int x4] [] [.int v24] (rX10_byteOf l D aC h23) hrb21 hkb21 F hml hX hZ hl.1 mwX10_byteOf wmX11_155 rfl (by decide) (by decide +kernel) ⟨(by decide), (by decide)⟩ rfl rfl rfl (Nat.le_of_ble_eq_true rfl) (kd dtX11_must_0 47 rfl) ⟨Nat.zero_le _, Nat.zero_le _⟩ (fun H locs hX => ?_)
              obtain ⟨rfl, rfl⟩ := Prod.mk.inj (Option.some.inj hf)
              exact kiret F hX hr hlocks rfl (kd dtX11_must_0 48 rfl)
            · have hf := kif_neg hc hf
              refine lv_bipush (v := (-4 : Int32)) hx hb (kd dtX11_must_0 40 rfl) (by decide) ?_
              refine lv_goto (tgt := 101) hx hb (kd dtX11_must_0 41 rfl) (by decide) ?_
              obtain ⟨rfl, rfl⟩ := Prod.mk.inj (Option.some.inj hf)
              exact kiret F hX hr hlocks rfl (kd dtX11_must_0 48 rfl)
          · have hf := kif_pos hc hf
            refine lv_bipush (v := (-4 : Int32)) hx hb (kd dtX11_must_0 31 rfl) (by decide) ?_
            obtain ⟨rfl, rfl⟩ := Prod.mk.inj (Option.some.inj hf)
            exact kiret F hX hr hlocks rfl (kd dtX11_must_0 32 rfl)
        · have hf := kif_neg hc hf
          refine lv_iconst (v := (-1 : Int32)) hx hb (kd dtX11_must_0 21 rfl) (by decide) ?_
          obtain ⟨rfl, rfl⟩ := Prod.mk.inj (Option.some.inj hf)
          exact kiret F hX hr hlocks rfl (kd dtX11_must_0 22 rfl)
theorem wmX11_195 : Cond.methodLink RX11 195 yX11_takesTwo ∈ kT := kTm 761 (by decide +kernel) rfl
theorem mwX11_takesTwo : kMS yX11_takesTwo cX11_takesTwo 1 (some .boolean) := ⟨kTm 763 (by decide +kernel) rfl, kTm 94 (by decide +kernel) rfl, kTm 762 (by decide +kernel) rfl⟩
def lX11_isStepTold_0 : List (Nat × Instr × Nat) := [(0, .iload_n 2, 1), (1, .ifCond .lt 30, 3), (4, .iload_n 2, 1), (5, .iconst 3, 1), (6, .if_icmp .gt 25, 3), (9, .aload_n 0, 1), (10, .getfield 10, 3), (13, .iload_n 1, 1), (14, .invokevirtual 128, 3), (17, .ifnull 14, 3), (20, .aload_n 0, 1), (21, .getfield 10, 3), (24, .iload_n 3, 1), (25, .invokevirtual 128, 3), (28, .ifnonnull 5, 3), (31, .iconst 0, 1), (32, .ireturn, 1), (33, .iload_n 2, 1), (34, .invokestatic 195, 3), (37, .ifCond .eq 15, 3), (40, .aload_n 0, 1), (41, .getfield 10, 3), (44, .iload 4, 2), (46, .invokevirtual 128, 3), (49, .ifnull 7, 3), (52, .iconst 1, 1), (53, .goto 4, 3), (56, .iconst 0, 1), (57, .ireturn, 1)]
theorem dtX11_isStepTold_0 : kDec cX11_isStepTold lX11_isStepTold_0 = true := by decide +kernel
noncomputable def fX11_isStepTold (x0 : Nat) (x1 : Int32) (x2 : Int32) (x3 : Int32) (x4 : Int32) (w : kW) : Option Int32 :=
  if x2 < 0 then
  some (0 : Int32)
  else
  if (3 : Int32) < x2 then
  some (0 : Int32)
  else
  (kgP w 11 (some x0) 0).bind fun v1 =>
  (kRc w 8 v1).bind fun b2 =>
  (fX8_lineAt b2 x1 w).bind fun v4 =>
  if v4 = none then
  some (0 : Int32)
  else
  (kgP w 11 (some x0) 0).bind fun v5 =>
  (kRc w 8 v5).bind fun b6 =>
  (fX8_lineAt b6 x3 w).bind fun v8 =>
  if v8 = none then
  some (0 : Int32)
  else
  (fX11_takesTwo x2).bind fun v10 =>
  if v10 = 0 then
  some (1 : Int32)
  else
  (kgP w 11 (some x0) 0).bind fun v11 =>
  (kRc w 8 v11).bind fun b12 =>
  (fX8_lineAt b12 x4 w).bind fun v14 =>
  if v14 = none then
  some (0 : Int32)
  else
  some (1 : Int32)

set_option maxHeartbeats 4000000 in
set_option maxRecDepth 100000 in
theorem rX11_isStepTold (l : Launch) (D : va_G) (aC : Nat → ClassId) {x0 : Nat} {x1 : Int32} {x2 : Int32} {x3 : Int32} {x4 : Int32} {w : kW} {oR : Int32} (h : fX11_isStepTold x0 x1 x2 x3 x4 w = some oR) : kC l D aC yX11_isStepTold cX11_isStepTold 5 (some .boolean) 2 33 [.ref x0, .int x1, .int x2, .int x3, .int x4] w (some (.int oR)) w 0 0 := by
  refine kOf (own := RX11) (by decide) rfl (Nat.le_of_ble_eq_true rfl) ?_
  intro p e s m below meth c ls F hml hr hlocks hnm hX hZ hl
  obtain ⟨hx, hb, hts, hown, hK⟩ := id F
  have hl : lv_has ls 5 [(0, .ref x0), (1, .int x1), (2, .int x2), (3, .int x3), (4, .int x4)] := hl
  have hf := h
  rw [fX11_isStepTold] at hf
  refine lv_iload_n hx hb (kd dtX11_isStepTold_0 0 rfl) rfl (lv_at hl 2 rfl) ?_
  refine lv_if_lt (tgt := 31) hx hb (kd dtX11_isStepTold_0 1 rfl) (by decide) (fun hc => ?_) (fun hc => ?_)
  · have hf := kif_pos hc hf
    refine lv_iconst (v := (0 : Int32)) hx hb (kd dtX11_isStepTold_0 15 rfl) (by decide) ?_
    obtain rfl := Option.some.inj hf
    exact kzret F hX hr hlocks rfl rfl (kd dtX11_isStepTold_0 16 rfl)
  · have hf := kif_neg hc hf
    refine lv_iload_n hx hb (kd dtX11_isStepTold_0 2 rfl) rfl (lv_at hl 2 rfl) ?_
    refine lv_iconst (v := (3 : Int32)) hx hb (kd dtX11_isStepTold_0 3 rfl) (by decide) ?_
    refine lv_icmp_gt (tgt := 31) hx hb (kd dtX11_isStepTold_0 4 rfl) (by decide) (fun hc => ?_) (fun hc => ?_)
    · have hf := kif_pos hc hf
      refine lv_iconst (v := (0 : Int32)) hx hb (kd dtX11_isStepTold_0 15 rfl) (by decide) ?_
      obtain rfl := Option.some.inj hf
      exact kzret F hX hr hlocks rfl rfl (kd dtX11_isStepTold_0 16 rfl)
    · have hf := kif_neg hc hf
      refine lv_aload_n hx hb (kd dtX11_isStepTold_0 5 rfl) rfl (lv_at hl 0 rfl) ?_
      obtain ⟨v1, hv1, hf⟩ := kbind hf
      refine kgetP hv1 F hX hinX11 rfl rfl rfl (by decide) (by decide) wfX11_10 (kd dtX11_isStepTold_0 6 rfl) ?_
      refine lv_iload_n hx hb (kd dtX11_isStepTold_0 7 rfl) rfl (lv_at hl 1 rfl) ?_
      obtain ⟨b2, hb2, hf⟩ := kbind hf
      obtain ⟨hrb2, hkb2⟩ := kRc_s hb2
      obtain ⟨v4, h3, hf⟩ := kbind hf
      refine kcallV (n := 1) [.int x1] [] [va_rf v4] (rX8_lineAt l D aC h3) hrb2 hkb2 F hml hX hZ hl.1 mwX8_lineAt wmX11_128 rfl (by decide) (by decide +kernel) ⟨(by decide), (by decide)⟩ rfl rfl rfl (Nat.le_of_ble_eq_true rfl) (kd dtX11_isStepTold_0 8 rfl) ⟨Nat.zero_le _, Nat.zero_le _⟩ (fun H locs hX => ?_)
      refine kifnull (tgt := 31) hx hb (kd dtX11_isStepTold_0 9 rfl) (by decide) (fun hc => ?_) (fun hc => ?_)
      · have hf := kif_pos hc hf
        refine lv_iconst (v := (0 : Int32)) hx hb (kd dtX11_isStepTold_0 15 rfl) (by decide) ?_
        obtain rfl := Option.some.inj hf
        exact kzret F hX hr hlocks rfl rfl (kd dtX11_isStepTold_0 16 rfl)
      · have hf := kif_neg hc hf
        refine lv_aload_n hx hb (kd dtX11_isStepTold_0 10 rfl) rfl (lv_at hl 0 rfl) ?_
        obtain ⟨v5, hv5, hf⟩ := kbind hf
        refine kgetP hv5 F hX hinX11 rfl rfl rfl (by decide) (by decide) wfX11_10 (kd dtX11_isStepTold_0 11 rfl) ?_
        refine lv_iload_n hx hb (kd dtX11_isStepTold_0 12 rfl) rfl (lv_at hl 3 rfl) ?_
        obtain ⟨b6, hb6, hf⟩ := kbind hf
        obtain ⟨hrb6, hkb6⟩ := kRc_s hb6
        obtain ⟨v8, h7, hf⟩ := kbind hf
        refine kcallV (n := 1) [.int x3] [] [va_rf v8] (rX8_lineAt l D aC h7) hrb6 hkb6 F hml hX hZ hl.1 mwX8_lineAt wmX11_128 rfl (by decide) (by decide +kernel) ⟨(by decide), (by decide)⟩ rfl rfl rfl (Nat.le_of_ble_eq_true rfl) (kd dtX11_isStepTold_0 13 rfl) ⟨Nat.zero_le _, Nat.zero_le _⟩ (fun H locs hX => ?_)
        refine kifnonnull (tgt := 33) hx hb (kd dtX11_isStepTold_0 14 rfl) (by decide) (fun hc => ?_) (fun hc => ?_)
        · have hf := kif_pos hc hf
          refine lv_iconst (v := (0 : Int32)) hx hb (kd dtX11_isStepTold_0 15 rfl) (by decide) ?_
          obtain rfl := Option.some.inj hf
          exact kzret F hX hr hlocks rfl rfl (kd dtX11_isStepTold_0 16 rfl)
        · have hf := kif_neg hc hf
          refine lv_iload_n hx hb (kd dtX11_isStepTold_0 17 rfl) rfl (lv_at hl 2 rfl) ?_
          obtain ⟨v10, h9, hf⟩ := kbind hf
          refine kcallS (n := 1) [.int x2] [] [.int v10] (rX11_takesTwo l D aC w h9) F hml hX hZ hl.1 mwX11_takesTwo wmX11_195 (by decide +kernel) ⟨(by decide), (by decide)⟩ rfl rfl rfl (Nat.le_of_ble_eq_true rfl) (kd dtX11_isStepTold_0 18 rfl) ⟨Nat.zero_le _, Nat.zero_le _⟩ (fun H locs hX => ?_)
          refine lv_if_eq (tgt := 52) hx hb (kd dtX11_isStepTold_0 19 rfl) (by decide) (fun hc => ?_) (fun hc => ?_)
          · have hf := kif_pos hc hf
            refine lv_iconst (v := (1 : Int32)) hx hb (kd dtX11_isStepTold_0 25 rfl) (by decide) ?_
            refine lv_goto (tgt := 57) hx hb (kd dtX11_isStepTold_0 26 rfl) (by decide) ?_
            obtain rfl := Option.some.inj hf
            exact kzret F hX hr hlocks rfl rfl (kd dtX11_isStepTold_0 28 rfl)
          · have hf := kif_neg hc hf
            refine lv_aload_n hx hb (kd dtX11_isStepTold_0 20 rfl) rfl (lv_at hl 0 rfl) ?_
            obtain ⟨v11, hv11, hf⟩ := kbind hf
            refine kgetP hv11 F hX hinX11 rfl rfl rfl (by decide) (by decide) wfX11_10 (kd dtX11_isStepTold_0 21 rfl) ?_
            refine lv_iload hx hb (kd dtX11_isStepTold_0 22 rfl) (lv_at hl 4 rfl) ?_
            obtain ⟨b12, hb12, hf⟩ := kbind hf
            obtain ⟨hrb12, hkb12⟩ := kRc_s hb12
            obtain ⟨v14, h13, hf⟩ := kbind hf
            refine kcallV (n := 1) [.int x4] [] [va_rf v14] (rX8_lineAt l D aC h13) hrb12 hkb12 F hml hX hZ hl.1 mwX8_lineAt wmX11_128 rfl (by decide) (by decide +kernel) ⟨(by decide), (by decide)⟩ rfl rfl rfl (Nat.le_of_ble_eq_true rfl) (kd dtX11_isStepTold_0 23 rfl) ⟨Nat.zero_le _, Nat.zero_le _⟩ (fun H locs hX => ?_)
            refine kifnull (tgt := 56) hx hb (kd dtX11_isStepTold_0 24 rfl) (by decide) (fun hc => ?_) (fun hc => ?_)
            · have hf := kif_pos hc hf
              refine lv_iconst (v := (0 : Int32)) hx hb (kd dtX11_isStepTold_0 27 rfl) (by decide) ?_
              obtain rfl := Option.some.inj hf
              exact kzret F hX hr hlocks rfl rfl (kd dtX11_isStepTold_0 28 rfl)
            · have hf := kif_neg hc hf
              refine lv_iconst (v := (1 : Int32)) hx hb (kd dtX11_isStepTold_0 25 rfl) (by decide) ?_
              refine lv_goto (tgt := 57) hx hb (kd dtX11_isStepTold_0 26 rfl) (by decide) ?_
              obtain rfl := Option.some.inj hf
              exact kzret F hX hr hlocks rfl rfl (kd dtX11_isStepTold_0 28 rfl)
theorem wmX11_191 : Cond.methodLink RX11 191 yX11_isStepTold ∈ kT := kTm 757 (by decide +kernel) rfl
theorem mwX11_isStepTold : kMV RX11 yX11_isStepTold cX11_isStepTold 5 (some .boolean) := ⟨kTm 760 (by decide +kernel) rfl, kTm 94 (by decide +kernel) rfl, kTm 759 (by decide +kernel) rfl, kTm 15 (by decide +kernel) rfl⟩
theorem wmX11_199 : Cond.methodLink RX11 199 yX7_allow ∈ kT := kTm 764 (by decide +kernel) rfl
theorem wmX11_203 : Cond.methodLink RX11 203 yX8_noteSource ∈ kT := kTm 791 (by decide +kernel) rfl
theorem mwX8_noteSource : kMV RX8 yX8_noteSource cX8_noteSource 5 none := ⟨kTm 794 (by decide +kernel) rfl, kTm 95 (by decide +kernel) rfl, kTm 792 (by decide +kernel) rfl, kTm 793 (by decide +kernel) rfl⟩
def lX11_step_0 : List (Nat × Instr × Nat) := [(0, .aload_n 0, 1), (1, .iload_n 1, 1), (2, .iload_n 2, 1), (3, .iload_n 3, 1), (4, .iload 4, 2), (6, .invokevirtual 191, 3), (9, .ifCond .ne 5, 3), (12, .iconst (-1), 1), (13, .ireturn, 1), (14, .iload_n 2, 1), (15, .invokestatic 195, 3), (18, .istore 5, 2), (20, .aload_n 0, 1), (21, .getfield 10, 3), (24, .iload_n 1, 1), (25, .invokevirtual 149, 3), (28, .ifCond .ne 31, 3), (31, .aload_n 0, 1), (32, .getfield 10, 3), (35, .iload_n 3, 1), (36, .invokevirtual 149, 3), (39, .ifCond .eq 20, 3), (42, .iload 5, 2), (44, .ifCond .eq 18, 3), (47, .aload_n 0, 1), (48, .getfield 10, 3), (51, .iload 4, 2), (53, .invokevirtual 149, 3), (56, .ifCond .ne 6, 3), (59, .bipush (-3), 2), (61, .ireturn, 1), (62, .aload_n 0, 1), (63, .getfield 60, 3), (66, .aload_n 0, 1), (67, .getfield 10, 3), (70, .iload_n 1, 1), (71, .invokevirtual 128, 3), (74, .iload_n 2, 1), (75, .aload_n 0, 1), (76, .getfield 10, 3), (79, .iload_n 3, 1), (80, .invokevirtual 128, 3), (83, .aload_n 0, 1), (84, .getfield 10, 3), (87, .iload 4, 2), (89, .invokevirtual 128, 3), (92, .invokevirtual 199, 3), (95, .ifCond .ne 6, 3), (98, .bipush (-3), 2), (100, .ireturn, 1), (101, .aload_n 0, 1), (102, .getfield 10, 3), (105, .iload_n 1, 1), (106, .iconst 2, 1), (107, .invokevirtual 159, 3), (110, .aload_n 0, 1), (111, .getfield 10, 3), (114, .iload_n 1, 1), (115, .iload_n 2, 1), (116, .iload_n 3, 1), (117, .iload 5, 2), (119, .ifCond .eq 8, 3), (122, .iload 4, 2), (124, .goto 5, 3), (127, .bipush (-4), 2), (129, .invokevirtual 203, 3), (132, .iconst 1, 1), (133, .ireturn, 1)]
theorem dtX11_step_0 : kDec cX11_step lX11_step_0 = true := by decide +kernel
noncomputable def fX11_step_J62 (x0 : Nat) (x1 : Int32) (x2 : Int32) (x3 : Int32) (x4 : Int32) (x5 : Int32) (w : kW) : Option (Int32 × kW) :=
  (kgP w 11 (some x0) 8).bind fun v1 =>
  (kgP w 11 (some x0) 0).bind fun v2 =>
  (kRc w 8 v2).bind fun b3 =>
  (fX8_lineAt b3 x1 w).bind fun v5 =>
  (kgP w 11 (some x0) 0).bind fun v6 =>
  (kRc w 8 v6).bind fun b7 =>
  (fX8_lineAt b7 x3 w).bind fun v9 =>
  (kgP w 11 (some x0) 0).bind fun v10 =>
  (kRc w 8 v10).bind fun b11 =>
  (fX8_lineAt b11 x4 w).bind fun v13 =>
  (kRc w 7 v1).bind fun b14 =>
  kb2 (fX7_allow b14 v5 x2 v9 v13 w) fun v17 w15 =>
  if v17 = 0 then
  some ((-3 : Int32), w15)
  else
  (kgP w15 11 (some x0) 0).bind fun v18 =>
  (kRc w15 8 v18).bind fun b19 =>
  (fX8_makeKnown b19 x1 (2 : Int32) w15).bind fun w20 =>
  (kgP w20 11 (some x0) 0).bind fun v22 =>
  if x5 = 0 then
  (kRc w20 8 v22).bind fun b23 =>
  (fX8_noteSource b23 x1 x2 x3 (-4 : Int32) w20).bind fun w24 =>
  some ((1 : Int32), w24)
  else
  (kRc w20 8 v22).bind fun b26 =>
  (fX8_noteSource b26 x1 x2 x3 x4 w20).bind fun w27 =>
  some ((1 : Int32), w27)

noncomputable def fX11_step (x0 : Nat) (x1 : Int32) (x2 : Int32) (x3 : Int32) (x4 : Int32) (w : kW) : Option (Int32 × kW) :=
  (kRc w 11 (some x0)).bind fun b1 =>
  (fX11_isStepTold b1 x1 x2 x3 x4 w).bind fun v3 =>
  if v3 = 0 then
  some ((-1 : Int32), w)
  else
  (fX11_takesTwo x2).bind fun v5 =>
  (kgP w 11 (some x0) 0).bind fun v6 =>
  (kRc w 8 v6).bind fun b7 =>
  (fX8_howIs b7 x1 w).bind fun v9 =>
  if v9 = 0 then
  (kgP w 11 (some x0) 0).bind fun v10 =>
  (kRc w 8 v10).bind fun b11 =>
  (fX8_howIs b11 x3 w).bind fun v13 =>
  if v13 = 0 then
  some ((-3 : Int32), w)
  else
  if v5 = 0 then
  fX11_step_J62 x0 x1 x2 x3 x4 v5 w
  else
  (kgP w 11 (some x0) 0).bind fun v14 =>
  (kRc w 8 v14).bind fun b15 =>
  (fX8_howIs b15 x4 w).bind fun v17 =>
  if v17 = 0 then
  some ((-3 : Int32), w)
  else
  fX11_step_J62 x0 x1 x2 x3 x4 v5 w
  else
  some ((-3 : Int32), w)

set_option maxHeartbeats 4000000 in
set_option maxRecDepth 100000 in
theorem rX11_step (l : Launch) (D : va_G) (aC : Nat → ClassId) {x0 : Nat} {x1 : Int32} {x2 : Int32} {x3 : Int32} {x4 : Int32} {w : kW} {wR : kW} {oR : Int32} (h : fX11_step x0 x1 x2 x3 x4 w = some (oR, wR)) : kC l D aC yX11_step cX11_step 6 (some .int) 5 110 [.ref x0, .int x1, .int x2, .int x3, .int x4] w (some (.int oR)) wR 0 0 := by
  refine kOf (own := RX11) (by decide) rfl (Nat.le_of_ble_eq_true rfl) ?_
  intro p e s m below meth c ls F hml hr hlocks hnm hX hZ hl
  obtain ⟨hx, hb, hts, hown, hK⟩ := id F
  have hl : lv_has ls 6 [(0, .ref x0), (1, .int x1), (2, .int x2), (3, .int x3), (4, .int x4)] := hl
  have hJ0_62 : ∀ (j0_62 : Nat) (j1_62 : Int32) (j2_62 : Int32) (j3_62 : Int32) (j4_62 : Int32) (j5_62 : Int32) (w_j62 : kW) (H : Heap) (locs : List Loc) (ls : Array Slot), kX D aC w s.heap w_j62 H locs → lv_has ls 6 [(0, .ref j0_62), (1, .int j1_62), (2, .int j2_62), (3, .int j3_62), (4, .int j4_62), (5, .int j5_62)] → fX11_step_J62 j0_62 j1_62 j2_62 j3_62 j4_62 j5_62 w_j62 = some (oR, wR) → W p l e { frames := 5, cells := 0, slots := 0, locals := 110 } s m ([.ref x0, .int x1, .int x2, .int x3, .int x4] : List Value).toArray below meth c H locs 0 0 (MQ below (kQc D aC w (some (.int oR)) wR) ([.ref x0, .int x1, .int x2, .int x3, .int x4] : List Value).toArray s 0 0 (kA w)) (F0 m 62 ls []) := by
    intro j0_62 j1_62 j2_62 j3_62 j4_62 j5_62 w_j62 H locs ls hX hl hf
    rw [fX11_step_J62] at hf
    refine lv_aload_n hx hb (kd dtX11_step_0 31 rfl) rfl (lv_at hl 0 rfl) ?_
    obtain ⟨v18, hv18, hf⟩ := kbind hf
    refine kgetP hv18 F hX hinX11 rfl rfl rfl (by decide) (by decide) wfX11_60 (kd dtX11_step_0 32 rfl) ?_
    refine lv_aload_n hx hb (kd dtX11_step_0 33 rfl) rfl (lv_at hl 0 rfl) ?_
    obtain ⟨v19, hv19, hf⟩ := kbind hf
    refine kgetP hv19 F hX hinX11 rfl rfl rfl (by decide) (by decide) wfX11_10 (kd dtX11_step_0 34 rfl) ?_
    refine lv_iload_n hx hb (kd dtX11_step_0 35 rfl) rfl (lv_at hl 1 rfl) ?_
    obtain ⟨b20, hb20, hf⟩ := kbind hf
    obtain ⟨hrb20, hkb20⟩ := kRc_s hb20
    obtain ⟨v22, h21, hf⟩ := kbind hf
    refine kcallV (n := 1) [.int j1_62] [va_rf v18] [va_rf v22, va_rf v18] (rX8_lineAt l D aC h21) hrb20 hkb20 F hml hX hZ hl.1 mwX8_lineAt wmX11_128 rfl (by decide) (by decide +kernel) ⟨(by decide), (by decide)⟩ rfl rfl rfl (by simp [kcat_rf, kcat_i, kcat_r, kcat_l]) (kd dtX11_step_0 36 rfl) ⟨Nat.zero_le _, Nat.zero_le _⟩ (fun H locs hX => ?_)
    refine lv_iload_n hx hb (kd dtX11_step_0 37 rfl) rfl (lv_at hl 2 rfl) ?_
    refine lv_aload_n hx hb (kd dtX11_step_0 38 rfl) rfl (lv_at hl 0 rfl) ?_
    obtain ⟨v23, hv23, hf⟩ := kbind hf
    refine kgetP hv23 F hX hinX11 rfl rfl rfl (by decide) (by decide) wfX11_10 (kd dtX11_step_0 39 rfl) ?_
    refine lv_iload_n hx hb (kd dtX11_step_0 40 rfl) rfl (lv_at hl 3 rfl) ?_
    obtain ⟨b24, hb24, hf⟩ := kbind hf
    obtain ⟨hrb24, hkb24⟩ := kRc_s hb24
    obtain ⟨v26, h25, hf⟩ := kbind hf
    refine kcallV (n := 1) [.int j3_62] [.int j2_62, va_rf v22, va_rf v18] [va_rf v26, .int j2_62, va_rf v22, va_rf v18] (rX8_lineAt l D aC h25) hrb24 hkb24 F hml hX hZ hl.1 mwX8_lineAt wmX11_128 rfl (by decide) (by decide +kernel) ⟨(by decide), (by decide)⟩ rfl rfl rfl (by simp [kcat_rf, kcat_i, kcat_r, kcat_l]) (kd dtX11_step_0 41 rfl) ⟨Nat.zero_le _, Nat.zero_le _⟩ (fun H locs hX => ?_)
    refine lv_aload_n hx hb (kd dtX11_step_0 42 rfl) rfl (lv_at hl 0 rfl) ?_
    obtain ⟨v27, hv27, hf⟩ := kbind hf
    refine kgetP hv27 F hX hinX11 rfl rfl rfl (by decide) (by decide) wfX11_10 (kd dtX11_step_0 43 rfl) ?_
    refine lv_iload hx hb (kd dtX11_step_0 44 rfl) (lv_at hl 4 rfl) ?_
    obtain ⟨b28, hb28, hf⟩ := kbind hf
    obtain ⟨hrb28, hkb28⟩ := kRc_s hb28
    obtain ⟨v30, h29, hf⟩ := kbind hf
    refine kcallV (n := 1) [.int j4_62] [va_rf v26, .int j2_62, va_rf v22, va_rf v18] [va_rf v30, va_rf v26, .int j2_62, va_rf v22, va_rf v18] (rX8_lineAt l D aC h29) hrb28 hkb28 F hml hX hZ hl.1 mwX8_lineAt wmX11_128 rfl (by decide) (by decide +kernel) ⟨(by decide), (by decide)⟩ rfl rfl rfl (by simp [kcat_rf, kcat_i, kcat_r, kcat_l]) (kd dtX11_step_0 45 rfl) ⟨Nat.zero_le _, Nat.zero_le _⟩ (fun H locs hX => ?_)
    obtain ⟨b31, hb31, hf⟩ := kbind hf
    obtain ⟨hrb31, hkb31⟩ := kRc_s hb31
    obtain ⟨v34, w32, h33, hf⟩ := kbind2 hf
    refine kcallV (n := 4) [va_rf v22, .int j2_62, va_rf v26, va_rf v30] [] [.int v34] (rX7_allow l D aC h33) hrb31 hkb31 F hml hX hZ hl.1 mwX7_allow wmX11_199 rfl (by decide) (by decide +kernel) ⟨(by decide), (by decide)⟩ rfl rfl rfl (Nat.le_of_ble_eq_true rfl) (kd dtX11_step_0 46 rfl) ⟨Nat.zero_le _, Nat.zero_le _⟩ (fun H locs hX => ?_)
    refine lv_if_ne (tgt := 101) hx hb (kd dtX11_step_0 47 rfl) (by decide) (fun hc => ?_) (fun hc => ?_)
    · have hf := kif_neg hc hf
      refine lv_aload_n hx hb (kd dtX11_step_0 50 rfl) rfl (lv_at hl 0 rfl) ?_
      obtain ⟨v35, hv35, hf⟩ := kbind hf
      refine kgetP hv35 F hX hinX11 rfl rfl rfl (by decide) (by decide) wfX11_10 (kd dtX11_step_0 51 rfl) ?_
      refine lv_iload_n hx hb (kd dtX11_step_0 52 rfl) rfl (lv_at hl 1 rfl) ?_
      refine lv_iconst (v := (2 : Int32)) hx hb (kd dtX11_step_0 53 rfl) (by decide) ?_
      obtain ⟨b36, hb36, hf⟩ := kbind hf
      obtain ⟨hrb36, hkb36⟩ := kRc_s hb36
      obtain ⟨w37, h38, hf⟩ := kbind hf
      refine kcallV (n := 2) [.int j1_62, .int (2 : Int32)] [] [] (rX8_makeKnown l D aC h38) hrb36 hkb36 F hml hX hZ hl.1 mwX8_makeKnown wmX11_159 rfl (by decide) (by decide +kernel) ⟨(by decide), (by decide)⟩ rfl rfl rfl (Nat.le_of_ble_eq_true rfl) (kd dtX11_step_0 54 rfl) ⟨Nat.zero_le _, Nat.zero_le _⟩ (fun H locs hX => ?_)
      refine lv_aload_n hx hb (kd dtX11_step_0 55 rfl) rfl (lv_at hl 0 rfl) ?_
      obtain ⟨v39, hv39, hf⟩ := kbind hf
      refine kgetP hv39 F hX hinX11 rfl rfl rfl (by decide) (by decide) wfX11_10 (kd dtX11_step_0 56 rfl) ?_
      refine lv_iload_n hx hb (kd dtX11_step_0 57 rfl) rfl (lv_at hl 1 rfl) ?_
      refine lv_iload_n hx hb (kd dtX11_step_0 58 rfl) rfl (lv_at hl 2 rfl) ?_
      refine lv_iload_n hx hb (kd dtX11_step_0 59 rfl) rfl (lv_at hl 3 rfl) ?_
      refine lv_iload hx hb (kd dtX11_step_0 60 rfl) (lv_at hl 5 rfl) ?_
      refine lv_if_eq (tgt := 127) hx hb (kd dtX11_step_0 61 rfl) (by decide) (fun hc => ?_) (fun hc => ?_)
      · have hf := kif_pos hc hf
        refine lv_bipush (v := (-4 : Int32)) hx hb (kd dtX11_step_0 64 rfl) (by decide) ?_
        obtain ⟨b40, hb40, hf⟩ := kbind hf
        obtain ⟨hrb40, hkb40⟩ := kRc_s hb40
        obtain ⟨w41, h42, hf⟩ := kbind hf
        refine kcallV (n := 4) [.int j1_62, .int j2_62, .int j3_62, .int (-4 : Int32)] [] [] (rX8_noteSource l D aC h42) hrb40 hkb40 F hml hX hZ hl.1 mwX8_noteSource wmX11_203 rfl (by decide) (by decide +kernel) ⟨(by decide), (by decide)⟩ rfl rfl rfl (Nat.le_of_ble_eq_true rfl) (kd dtX11_step_0 65 rfl) ⟨Nat.zero_le _, Nat.zero_le _⟩ (fun H locs hX => ?_)
        refine lv_iconst (v := (1 : Int32)) hx hb (kd dtX11_step_0 66 rfl) (by decide) ?_
        obtain ⟨rfl, rfl⟩ := Prod.mk.inj (Option.some.inj hf)
        exact kiret F hX hr hlocks rfl (kd dtX11_step_0 67 rfl)
      · have hf := kif_neg hc hf
        refine lv_iload hx hb (kd dtX11_step_0 62 rfl) (lv_at hl 4 rfl) ?_
        refine lv_goto (tgt := 129) hx hb (kd dtX11_step_0 63 rfl) (by decide) ?_
        obtain ⟨b43, hb43, hf⟩ := kbind hf
        obtain ⟨hrb43, hkb43⟩ := kRc_s hb43
        obtain ⟨w44, h45, hf⟩ := kbind hf
        refine kcallV (n := 4) [.int j1_62, .int j2_62, .int j3_62, .int j4_62] [] [] (rX8_noteSource l D aC h45) hrb43 hkb43 F hml hX hZ hl.1 mwX8_noteSource wmX11_203 rfl (by decide) (by decide +kernel) ⟨(by decide), (by decide)⟩ rfl rfl rfl (Nat.le_of_ble_eq_true rfl) (kd dtX11_step_0 65 rfl) ⟨Nat.zero_le _, Nat.zero_le _⟩ (fun H locs hX => ?_)
        refine lv_iconst (v := (1 : Int32)) hx hb (kd dtX11_step_0 66 rfl) (by decide) ?_
        obtain ⟨rfl, rfl⟩ := Prod.mk.inj (Option.some.inj hf)
        exact kiret F hX hr hlocks rfl (kd dtX11_step_0 67 rfl)
    · have hf := kif_pos hc hf
      refine lv_bipush (v := (-3 : Int32)) hx hb (kd dtX11_step_0 48 rfl) (by decide) ?_
      obtain ⟨rfl, rfl⟩ := Prod.mk.inj (Option.some.inj hf)
      exact kiret F hX hr hlocks rfl (kd dtX11_step_0 49 rfl)
  have hf := h
  rw [fX11_step] at hf
  refine lv_aload_n hx hb (kd dtX11_step_0 0 rfl) rfl (lv_at hl 0 rfl) ?_
  refine lv_iload_n hx hb (kd dtX11_step_0 1 rfl) rfl (lv_at hl 1 rfl) ?_
  refine lv_iload_n hx hb (kd dtX11_step_0 2 rfl) rfl (lv_at hl 2 rfl) ?_
  refine lv_iload_n hx hb (kd dtX11_step_0 3 rfl) rfl (lv_at hl 3 rfl) ?_
  refine lv_iload hx hb (kd dtX11_step_0 4 rfl) (lv_at hl 4 rfl) ?_
  obtain ⟨b1, hb1, hf⟩ := kbind hf
  obtain ⟨hrb1, hkb1⟩ := kRc_s hb1
  obtain ⟨v3, h2, hf⟩ := kbind hf
  refine kcallV (n := 4) [.int x1, .int x2, .int x3, .int x4] [] [.int v3] (rX11_isStepTold l D aC h2) hrb1 hkb1 F hml hX hZ hl.1 mwX11_isStepTold wmX11_191 rfl (by decide) (by decide +kernel) ⟨(by decide), (by decide)⟩ rfl rfl rfl (Nat.le_of_ble_eq_true rfl) (kd dtX11_step_0 5 rfl) ⟨Nat.zero_le _, Nat.zero_le _⟩ (fun H locs hX => ?_)
  refine lv_if_ne (tgt := 14) hx hb (kd dtX11_step_0 6 rfl) (by decide) (fun hc => ?_) (fun hc => ?_)
  · have hf := kif_neg hc hf
    refine lv_iload_n hx hb (kd dtX11_step_0 9 rfl) rfl (lv_at hl 2 rfl) ?_
    obtain ⟨v5, h4, hf⟩ := kbind hf
    refine kcallS (n := 1) [.int x2] [] [.int v5] (rX11_takesTwo l D aC w h4) F hml hX hZ hl.1 mwX11_takesTwo wmX11_195 (by decide +kernel) ⟨(by decide), (by decide)⟩ rfl rfl rfl (Nat.le_of_ble_eq_true rfl) (kd dtX11_step_0 10 rfl) ⟨Nat.zero_le _, Nat.zero_le _⟩ (fun H locs hX => ?_)
    refine lv_istore (lv' := [(5, .int v5), (0, .ref x0), (1, .int x1), (2, .int x2), (3, .int x3), (4, .int x4)]) hx hb (kd dtX11_step_0 11 rfl) hl (by decide) rfl (fun ls hl => ?_)
    refine lv_aload_n hx hb (kd dtX11_step_0 12 rfl) rfl (lv_at hl 1 rfl) ?_
    obtain ⟨v6, hv6, hf⟩ := kbind hf
    refine kgetP hv6 F hX hinX11 rfl rfl rfl (by decide) (by decide) wfX11_10 (kd dtX11_step_0 13 rfl) ?_
    refine lv_iload_n hx hb (kd dtX11_step_0 14 rfl) rfl (lv_at hl 2 rfl) ?_
    obtain ⟨b7, hb7, hf⟩ := kbind hf
    obtain ⟨hrb7, hkb7⟩ := kRc_s hb7
    obtain ⟨v9, h8, hf⟩ := kbind hf
    refine kcallV (n := 1) [.int x1] [] [.int v9] (rX8_howIs l D aC h8) hrb7 hkb7 F hml hX hZ hl.1 mwX8_howIs wmX11_149 rfl (by decide) (by decide +kernel) ⟨(by decide), (by decide)⟩ rfl rfl rfl (Nat.le_of_ble_eq_true rfl) (kd dtX11_step_0 15 rfl) ⟨Nat.zero_le _, Nat.zero_le _⟩ (fun H locs hX => ?_)
    refine lv_if_ne (tgt := 59) hx hb (kd dtX11_step_0 16 rfl) (by decide) (fun hc => ?_) (fun hc => ?_)
    · have hf := kif_neg hc hf
      refine lv_bipush (v := (-3 : Int32)) hx hb (kd dtX11_step_0 29 rfl) (by decide) ?_
      obtain ⟨rfl, rfl⟩ := Prod.mk.inj (Option.some.inj hf)
      exact kiret F hX hr hlocks rfl (kd dtX11_step_0 30 rfl)
    · have hf := kif_pos hc hf
      refine lv_aload_n hx hb (kd dtX11_step_0 17 rfl) rfl (lv_at hl 1 rfl) ?_
      obtain ⟨v10, hv10, hf⟩ := kbind hf
      refine kgetP hv10 F hX hinX11 rfl rfl rfl (by decide) (by decide) wfX11_10 (kd dtX11_step_0 18 rfl) ?_
      refine lv_iload_n hx hb (kd dtX11_step_0 19 rfl) rfl (lv_at hl 4 rfl) ?_
      obtain ⟨b11, hb11, hf⟩ := kbind hf
      obtain ⟨hrb11, hkb11⟩ := kRc_s hb11
      obtain ⟨v13, h12, hf⟩ := kbind hf
      refine kcallV (n := 1) [.int x3] [] [.int v13] (rX8_howIs l D aC h12) hrb11 hkb11 F hml hX hZ hl.1 mwX8_howIs wmX11_149 rfl (by decide) (by decide +kernel) ⟨(by decide), (by decide)⟩ rfl rfl rfl (Nat.le_of_ble_eq_true rfl) (kd dtX11_step_0 20 rfl) ⟨Nat.zero_le _, Nat.zero_le _⟩ (fun H locs hX => ?_)
      refine lv_if_eq (tgt := 59) hx hb (kd dtX11_step_0 21 rfl) (by decide) (fun hc => ?_) (fun hc => ?_)
      · have hf := kif_pos hc hf
        refine lv_bipush (v := (-3 : Int32)) hx hb (kd dtX11_step_0 29 rfl) (by decide) ?_
        obtain ⟨rfl, rfl⟩ := Prod.mk.inj (Option.some.inj hf)
        exact kiret F hX hr hlocks rfl (kd dtX11_step_0 30 rfl)
      · have hf := kif_neg hc hf
        refine lv_iload hx hb (kd dtX11_step_0 22 rfl) (lv_at hl 0 rfl) ?_
        refine lv_if_eq (tgt := 62) hx hb (kd dtX11_step_0 23 rfl) (by decide) (fun hc => ?_) (fun hc => ?_)
        · have hf := kif_pos hc hf
          exact hJ0_62 x0 x1 x2 x3 x4 v5 w _ _ _ hX (lv_sub hl [1, 2, 3, 4, 5, 0] rfl) hf
        · have hf := kif_neg hc hf
          refine lv_aload_n hx hb (kd dtX11_step_0 24 rfl) rfl (lv_at hl 1 rfl) ?_
          obtain ⟨v14, hv14, hf⟩ := kbind hf
          refine kgetP hv14 F hX hinX11 rfl rfl rfl (by decide) (by decide) wfX11_10 (kd dtX11_step_0 25 rfl) ?_
          refine lv_iload hx hb (kd dtX11_step_0 26 rfl) (lv_at hl 5 rfl) ?_
          obtain ⟨b15, hb15, hf⟩ := kbind hf
          obtain ⟨hrb15, hkb15⟩ := kRc_s hb15
          obtain ⟨v17, h16, hf⟩ := kbind hf
          refine kcallV (n := 1) [.int x4] [] [.int v17] (rX8_howIs l D aC h16) hrb15 hkb15 F hml hX hZ hl.1 mwX8_howIs wmX11_149 rfl (by decide) (by decide +kernel) ⟨(by decide), (by decide)⟩ rfl rfl rfl (Nat.le_of_ble_eq_true rfl) (kd dtX11_step_0 27 rfl) ⟨Nat.zero_le _, Nat.zero_le _⟩ (fun H locs hX => ?_)
          refine lv_if_ne (tgt := 62) hx hb (kd dtX11_step_0 28 rfl) (by decide) (fun hc => ?_) (fun hc => ?_)
          · have hf := kif_neg hc hf
            exact hJ0_62 x0 x1 x2 x3 x4 v5 w _ _ _ hX (lv_sub hl [1, 2, 3, 4, 5, 0] rfl) hf
          · have hf := kif_pos hc hf
            refine lv_bipush (v := (-3 : Int32)) hx hb (kd dtX11_step_0 29 rfl) (by decide) ?_
            obtain ⟨rfl, rfl⟩ := Prod.mk.inj (Option.some.inj hf)
            exact kiret F hX hr hlocks rfl (kd dtX11_step_0 30 rfl)
  · have hf := kif_pos hc hf
    refine lv_iconst (v := (-1 : Int32)) hx hb (kd dtX11_step_0 7 rfl) (by decide) ?_
    obtain ⟨rfl, rfl⟩ := Prod.mk.inj (Option.some.inj hf)
    exact kiret F hX hr hlocks rfl (kd dtX11_step_0 8 rfl)
def lX11_check_0 : List (Nat × Instr × Nat) := [(0, .aload_n 0, 1), (1, .iload_n 1, 1), (2, .iload_n 2, 1), (3, .iload_n 3, 1), (4, .iload 4, 2), (6, .invokevirtual 191, 3), (9, .ifCond .ne 5, 3), (12, .iconst (-1), 1), (13, .ireturn, 1), (14, .aload_n 0, 1), (15, .getfield 60, 3), (18, .aload_n 0, 1), (19, .getfield 10, 3), (22, .iload_n 1, 1), (23, .invokevirtual 128, 3), (26, .iload_n 2, 1), (27, .aload_n 0, 1), (28, .getfield 10, 3), (31, .iload_n 3, 1), (32, .invokevirtual 128, 3), (35, .aload_n 0, 1), (36, .getfield 10, 3), (39, .iload 4, 2), (41, .invokevirtual 128, 3), (44, .invokevirtual 199, 3), (47, .ifCond .eq 7, 3), (50, .iconst 1, 1), (51, .goto 4, 3), (54, .iconst 0, 1), (55, .ireturn, 1)]
theorem dtX11_check_0 : kDec cX11_check lX11_check_0 = true := by decide +kernel
noncomputable def fX11_check (x0 : Nat) (x1 : Int32) (x2 : Int32) (x3 : Int32) (x4 : Int32) (w : kW) : Option (Int32 × kW) :=
  (kRc w 11 (some x0)).bind fun b1 =>
  (fX11_isStepTold b1 x1 x2 x3 x4 w).bind fun v3 =>
  if v3 = 0 then
  some ((-1 : Int32), w)
  else
  (kgP w 11 (some x0) 8).bind fun v4 =>
  (kgP w 11 (some x0) 0).bind fun v5 =>
  (kRc w 8 v5).bind fun b6 =>
  (fX8_lineAt b6 x1 w).bind fun v8 =>
  (kgP w 11 (some x0) 0).bind fun v9 =>
  (kRc w 8 v9).bind fun b10 =>
  (fX8_lineAt b10 x3 w).bind fun v12 =>
  (kgP w 11 (some x0) 0).bind fun v13 =>
  (kRc w 8 v13).bind fun b14 =>
  (fX8_lineAt b14 x4 w).bind fun v16 =>
  (kRc w 7 v4).bind fun b17 =>
  kb2 (fX7_allow b17 v8 x2 v12 v16 w) fun v20 w18 =>
  if v20 = 0 then
  some ((0 : Int32), w18)
  else
  some ((1 : Int32), w18)

set_option maxHeartbeats 4000000 in
set_option maxRecDepth 100000 in
theorem rX11_check (l : Launch) (D : va_G) (aC : Nat → ClassId) {x0 : Nat} {x1 : Int32} {x2 : Int32} {x3 : Int32} {x4 : Int32} {w : kW} {wR : kW} {oR : Int32} (h : fX11_check x0 x1 x2 x3 x4 w = some (oR, wR)) : kC l D aC yX11_check cX11_check 5 (some .int) 5 110 [.ref x0, .int x1, .int x2, .int x3, .int x4] w (some (.int oR)) wR 0 0 := by
  refine kOf (own := RX11) (by decide) rfl (Nat.le_of_ble_eq_true rfl) ?_
  intro p e s m below meth c ls F hml hr hlocks hnm hX hZ hl
  obtain ⟨hx, hb, hts, hown, hK⟩ := id F
  have hl : lv_has ls 5 [(0, .ref x0), (1, .int x1), (2, .int x2), (3, .int x3), (4, .int x4)] := hl
  have hf := h
  rw [fX11_check] at hf
  refine lv_aload_n hx hb (kd dtX11_check_0 0 rfl) rfl (lv_at hl 0 rfl) ?_
  refine lv_iload_n hx hb (kd dtX11_check_0 1 rfl) rfl (lv_at hl 1 rfl) ?_
  refine lv_iload_n hx hb (kd dtX11_check_0 2 rfl) rfl (lv_at hl 2 rfl) ?_
  refine lv_iload_n hx hb (kd dtX11_check_0 3 rfl) rfl (lv_at hl 3 rfl) ?_
  refine lv_iload hx hb (kd dtX11_check_0 4 rfl) (lv_at hl 4 rfl) ?_
  obtain ⟨b1, hb1, hf⟩ := kbind hf
  obtain ⟨hrb1, hkb1⟩ := kRc_s hb1
  obtain ⟨v3, h2, hf⟩ := kbind hf
  refine kcallV (n := 4) [.int x1, .int x2, .int x3, .int x4] [] [.int v3] (rX11_isStepTold l D aC h2) hrb1 hkb1 F hml hX hZ hl.1 mwX11_isStepTold wmX11_191 rfl (by decide) (by decide +kernel) ⟨(by decide), (by decide)⟩ rfl rfl rfl (Nat.le_of_ble_eq_true rfl) (kd dtX11_check_0 5 rfl) ⟨Nat.zero_le _, Nat.zero_le _⟩ (fun H locs hX => ?_)
  refine lv_if_ne (tgt := 14) hx hb (kd dtX11_check_0 6 rfl) (by decide) (fun hc => ?_) (fun hc => ?_)
  · have hf := kif_neg hc hf
    refine lv_aload_n hx hb (kd dtX11_check_0 9 rfl) rfl (lv_at hl 0 rfl) ?_
    obtain ⟨v4, hv4, hf⟩ := kbind hf
    refine kgetP hv4 F hX hinX11 rfl rfl rfl (by decide) (by decide) wfX11_60 (kd dtX11_check_0 10 rfl) ?_
    refine lv_aload_n hx hb (kd dtX11_check_0 11 rfl) rfl (lv_at hl 0 rfl) ?_
    obtain ⟨v5, hv5, hf⟩ := kbind hf
    refine kgetP hv5 F hX hinX11 rfl rfl rfl (by decide) (by decide) wfX11_10 (kd dtX11_check_0 12 rfl) ?_
    refine lv_iload_n hx hb (kd dtX11_check_0 13 rfl) rfl (lv_at hl 1 rfl) ?_
    obtain ⟨b6, hb6, hf⟩ := kbind hf
    obtain ⟨hrb6, hkb6⟩ := kRc_s hb6
    obtain ⟨v8, h7, hf⟩ := kbind hf
    refine kcallV (n := 1) [.int x1] [va_rf v4] [va_rf v8, va_rf v4] (rX8_lineAt l D aC h7) hrb6 hkb6 F hml hX hZ hl.1 mwX8_lineAt wmX11_128 rfl (by decide) (by decide +kernel) ⟨(by decide), (by decide)⟩ rfl rfl rfl (by simp [kcat_rf, kcat_i, kcat_r, kcat_l]) (kd dtX11_check_0 14 rfl) ⟨Nat.zero_le _, Nat.zero_le _⟩ (fun H locs hX => ?_)
    refine lv_iload_n hx hb (kd dtX11_check_0 15 rfl) rfl (lv_at hl 2 rfl) ?_
    refine lv_aload_n hx hb (kd dtX11_check_0 16 rfl) rfl (lv_at hl 0 rfl) ?_
    obtain ⟨v9, hv9, hf⟩ := kbind hf
    refine kgetP hv9 F hX hinX11 rfl rfl rfl (by decide) (by decide) wfX11_10 (kd dtX11_check_0 17 rfl) ?_
    refine lv_iload_n hx hb (kd dtX11_check_0 18 rfl) rfl (lv_at hl 3 rfl) ?_
    obtain ⟨b10, hb10, hf⟩ := kbind hf
    obtain ⟨hrb10, hkb10⟩ := kRc_s hb10
    obtain ⟨v12, h11, hf⟩ := kbind hf
    refine kcallV (n := 1) [.int x3] [.int x2, va_rf v8, va_rf v4] [va_rf v12, .int x2, va_rf v8, va_rf v4] (rX8_lineAt l D aC h11) hrb10 hkb10 F hml hX hZ hl.1 mwX8_lineAt wmX11_128 rfl (by decide) (by decide +kernel) ⟨(by decide), (by decide)⟩ rfl rfl rfl (by simp [kcat_rf, kcat_i, kcat_r, kcat_l]) (kd dtX11_check_0 19 rfl) ⟨Nat.zero_le _, Nat.zero_le _⟩ (fun H locs hX => ?_)
    refine lv_aload_n hx hb (kd dtX11_check_0 20 rfl) rfl (lv_at hl 0 rfl) ?_
    obtain ⟨v13, hv13, hf⟩ := kbind hf
    refine kgetP hv13 F hX hinX11 rfl rfl rfl (by decide) (by decide) wfX11_10 (kd dtX11_check_0 21 rfl) ?_
    refine lv_iload hx hb (kd dtX11_check_0 22 rfl) (lv_at hl 4 rfl) ?_
    obtain ⟨b14, hb14, hf⟩ := kbind hf
    obtain ⟨hrb14, hkb14⟩ := kRc_s hb14
    obtain ⟨v16, h15, hf⟩ := kbind hf
    refine kcallV (n := 1) [.int x4] [va_rf v12, .int x2, va_rf v8, va_rf v4] [va_rf v16, va_rf v12, .int x2, va_rf v8, va_rf v4] (rX8_lineAt l D aC h15) hrb14 hkb14 F hml hX hZ hl.1 mwX8_lineAt wmX11_128 rfl (by decide) (by decide +kernel) ⟨(by decide), (by decide)⟩ rfl rfl rfl (by simp [kcat_rf, kcat_i, kcat_r, kcat_l]) (kd dtX11_check_0 23 rfl) ⟨Nat.zero_le _, Nat.zero_le _⟩ (fun H locs hX => ?_)
    obtain ⟨b17, hb17, hf⟩ := kbind hf
    obtain ⟨hrb17, hkb17⟩ := kRc_s hb17
    obtain ⟨v20, w18, h19, hf⟩ := kbind2 hf
    refine kcallV (n := 4) [va_rf v8, .int x2, va_rf v12, va_rf v16] [] [.int v20] (rX7_allow l D aC h19) hrb17 hkb17 F hml hX hZ hl.1 mwX7_allow wmX11_199 rfl (by decide) (by decide +kernel) ⟨(by decide), (by decide)⟩ rfl rfl rfl (Nat.le_of_ble_eq_true rfl) (kd dtX11_check_0 24 rfl) ⟨Nat.zero_le _, Nat.zero_le _⟩ (fun H locs hX => ?_)
    refine lv_if_eq (tgt := 54) hx hb (kd dtX11_check_0 25 rfl) (by decide) (fun hc => ?_) (fun hc => ?_)
    · have hf := kif_pos hc hf
      refine lv_iconst (v := (0 : Int32)) hx hb (kd dtX11_check_0 28 rfl) (by decide) ?_
      obtain ⟨rfl, rfl⟩ := Prod.mk.inj (Option.some.inj hf)
      exact kiret F hX hr hlocks rfl (kd dtX11_check_0 29 rfl)
    · have hf := kif_neg hc hf
      refine lv_iconst (v := (1 : Int32)) hx hb (kd dtX11_check_0 26 rfl) (by decide) ?_
      refine lv_goto (tgt := 55) hx hb (kd dtX11_check_0 27 rfl) (by decide) ?_
      obtain ⟨rfl, rfl⟩ := Prod.mk.inj (Option.some.inj hf)
      exact kiret F hX hr hlocks rfl (kd dtX11_check_0 29 rfl)
  · have hf := kif_pos hc hf
    refine lv_iconst (v := (-1 : Int32)) hx hb (kd dtX11_check_0 7 rfl) (by decide) ?_
    obtain ⟨rfl, rfl⟩ := Prod.mk.inj (Option.some.inj hf)
    exact kiret F hX hr hlocks rfl (kd dtX11_check_0 8 rfl)
theorem wmX11_207 : Cond.methodLink RX11 207 yX8_sourceOf ∈ kT := kTm 803 (by decide +kernel) rfl
theorem mwX8_sourceOf : kMV RX8 yX8_sourceOf cX8_sourceOf 3 (some .int) := ⟨kTm 806 (by decide +kernel) rfl, kTm 95 (by decide +kernel) rfl, kTm 804 (by decide +kernel) rfl, kTm 805 (by decide +kernel) rfl⟩
def lX11_from_0 : List (Nat × Instr × Nat) := [(0, .aload_n 0, 1), (1, .getfield 10, 3), (4, .iload_n 1, 1), (5, .invokevirtual 128, 3), (8, .ifnull 12, 3), (11, .iload_n 2, 1), (12, .ifCond .lt 8, 3), (15, .iload_n 2, 1), (16, .iconst 2, 1), (17, .if_icmp .le 5, 3), (20, .iconst (-1), 1), (21, .ireturn, 1), (22, .aload_n 0, 1), (23, .getfield 10, 3), (26, .iload_n 1, 1), (27, .invokevirtual 149, 3), (30, .iconst 2, 1), (31, .if_icmp .ne 15, 3), (34, .aload_n 0, 1), (35, .getfield 10, 3), (38, .iload_n 1, 1), (39, .iload_n 2, 1), (40, .invokevirtual 207, 3), (43, .goto 5, 3), (46, .bipush (-3), 2), (48, .ireturn, 1)]
theorem dtX11_from_0 : kDec cX11_from lX11_from_0 = true := by decide +kernel
noncomputable def fX11_from (x0 : Nat) (x1 : Int32) (x2 : Int32) (w : kW) : Option Int32 :=
  (kgP w 11 (some x0) 0).bind fun v1 =>
  (kRc w 8 v1).bind fun b2 =>
  (fX8_lineAt b2 x1 w).bind fun v4 =>
  if v4 = none then
  some (-1 : Int32)
  else
  if x2 < 0 then
  some (-1 : Int32)
  else
  if x2 ≤ (2 : Int32) then
  (kgP w 11 (some x0) 0).bind fun v5 =>
  (kRc w 8 v5).bind fun b6 =>
  (fX8_howIs b6 x1 w).bind fun v8 =>
  if v8 = (2 : Int32) then
  (kgP w 11 (some x0) 0).bind fun v9 =>
  (kRc w 8 v9).bind fun b10 =>
  (fX8_sourceOf b10 x1 x2 w).bind fun v12 =>
  some v12
  else
  some (-3 : Int32)
  else
  some (-1 : Int32)

set_option maxHeartbeats 4000000 in
set_option maxRecDepth 100000 in
theorem rX11_from (l : Launch) (D : va_G) (aC : Nat → ClassId) {x0 : Nat} {x1 : Int32} {x2 : Int32} {w : kW} {oR : Int32} (h : fX11_from x0 x1 x2 w = some oR) : kC l D aC yX11_from cX11_from 3 (some .int) 2 34 [.ref x0, .int x1, .int x2] w (some (.int oR)) w 0 0 := by
  refine kOf (own := RX11) (by decide) rfl (Nat.le_of_ble_eq_true rfl) ?_
  intro p e s m below meth c ls F hml hr hlocks hnm hX hZ hl
  obtain ⟨hx, hb, hts, hown, hK⟩ := id F
  have hl : lv_has ls 3 [(0, .ref x0), (1, .int x1), (2, .int x2)] := hl
  have hf := h
  rw [fX11_from] at hf
  refine lv_aload_n hx hb (kd dtX11_from_0 0 rfl) rfl (lv_at hl 0 rfl) ?_
  obtain ⟨v1, hv1, hf⟩ := kbind hf
  refine kgetP hv1 F hX hinX11 rfl rfl rfl (by decide) (by decide) wfX11_10 (kd dtX11_from_0 1 rfl) ?_
  refine lv_iload_n hx hb (kd dtX11_from_0 2 rfl) rfl (lv_at hl 1 rfl) ?_
  obtain ⟨b2, hb2, hf⟩ := kbind hf
  obtain ⟨hrb2, hkb2⟩ := kRc_s hb2
  obtain ⟨v4, h3, hf⟩ := kbind hf
  refine kcallV (n := 1) [.int x1] [] [va_rf v4] (rX8_lineAt l D aC h3) hrb2 hkb2 F hml hX hZ hl.1 mwX8_lineAt wmX11_128 rfl (by decide) (by decide +kernel) ⟨(by decide), (by decide)⟩ rfl rfl rfl (Nat.le_of_ble_eq_true rfl) (kd dtX11_from_0 3 rfl) ⟨Nat.zero_le _, Nat.zero_le _⟩ (fun H locs hX => ?_)
  refine kifnull (tgt := 20) hx hb (kd dtX11_from_0 4 rfl) (by decide) (fun hc => ?_) (fun hc => ?_)
  · have hf := kif_pos hc hf
    refine lv_iconst (v := (-1 : Int32)) hx hb (kd dtX11_from_0 10 rfl) (by decide) ?_
    obtain rfl := Option.some.inj hf
    exact kiret F hX hr hlocks rfl (kd dtX11_from_0 11 rfl)
  · have hf := kif_neg hc hf
    refine lv_iload_n hx hb (kd dtX11_from_0 5 rfl) rfl (lv_at hl 2 rfl) ?_
    refine lv_if_lt (tgt := 20) hx hb (kd dtX11_from_0 6 rfl) (by decide) (fun hc => ?_) (fun hc => ?_)
    · have hf := kif_pos hc hf
      refine lv_iconst (v := (-1 : Int32)) hx hb (kd dtX11_from_0 10 rfl) (by decide) ?_
      obtain rfl := Option.some.inj hf
      exact kiret F hX hr hlocks rfl (kd dtX11_from_0 11 rfl)
    · have hf := kif_neg hc hf
      refine lv_iload_n hx hb (kd dtX11_from_0 7 rfl) rfl (lv_at hl 2 rfl) ?_
      refine lv_iconst (v := (2 : Int32)) hx hb (kd dtX11_from_0 8 rfl) (by decide) ?_
      refine lv_icmp_le (tgt := 22) hx hb (kd dtX11_from_0 9 rfl) (by decide) (fun hc => ?_) (fun hc => ?_)
      · have hf := kif_pos hc hf
        refine lv_aload_n hx hb (kd dtX11_from_0 12 rfl) rfl (lv_at hl 0 rfl) ?_
        obtain ⟨v5, hv5, hf⟩ := kbind hf
        refine kgetP hv5 F hX hinX11 rfl rfl rfl (by decide) (by decide) wfX11_10 (kd dtX11_from_0 13 rfl) ?_
        refine lv_iload_n hx hb (kd dtX11_from_0 14 rfl) rfl (lv_at hl 1 rfl) ?_
        obtain ⟨b6, hb6, hf⟩ := kbind hf
        obtain ⟨hrb6, hkb6⟩ := kRc_s hb6
        obtain ⟨v8, h7, hf⟩ := kbind hf
        refine kcallV (n := 1) [.int x1] [] [.int v8] (rX8_howIs l D aC h7) hrb6 hkb6 F hml hX hZ hl.1 mwX8_howIs wmX11_149 rfl (by decide) (by decide +kernel) ⟨(by decide), (by decide)⟩ rfl rfl rfl (Nat.le_of_ble_eq_true rfl) (kd dtX11_from_0 15 rfl) ⟨Nat.zero_le _, Nat.zero_le _⟩ (fun H locs hX => ?_)
        refine lv_iconst (v := (2 : Int32)) hx hb (kd dtX11_from_0 16 rfl) (by decide) ?_
        refine lv_icmp_ne (tgt := 46) hx hb (kd dtX11_from_0 17 rfl) (by decide) (fun hc => ?_) (fun hc => ?_)
        · have hf := kif_neg hc hf
          refine lv_bipush (v := (-3 : Int32)) hx hb (kd dtX11_from_0 24 rfl) (by decide) ?_
          obtain rfl := Option.some.inj hf
          exact kiret F hX hr hlocks rfl (kd dtX11_from_0 25 rfl)
        · have hf := kif_pos hc hf
          refine lv_aload_n hx hb (kd dtX11_from_0 18 rfl) rfl (lv_at hl 0 rfl) ?_
          obtain ⟨v9, hv9, hf⟩ := kbind hf
          refine kgetP hv9 F hX hinX11 rfl rfl rfl (by decide) (by decide) wfX11_10 (kd dtX11_from_0 19 rfl) ?_
          refine lv_iload_n hx hb (kd dtX11_from_0 20 rfl) rfl (lv_at hl 1 rfl) ?_
          refine lv_iload_n hx hb (kd dtX11_from_0 21 rfl) rfl (lv_at hl 2 rfl) ?_
          obtain ⟨b10, hb10, hf⟩ := kbind hf
          obtain ⟨hrb10, hkb10⟩ := kRc_s hb10
          obtain ⟨v12, h11, hf⟩ := kbind hf
          refine kcallV (n := 2) [.int x1, .int x2] [] [.int v12] (rX8_sourceOf l D aC h11) hrb10 hkb10 F hml hX hZ hl.1 mwX8_sourceOf wmX11_207 rfl (by decide) (by decide +kernel) ⟨(by decide), (by decide)⟩ rfl rfl rfl (Nat.le_of_ble_eq_true rfl) (kd dtX11_from_0 22 rfl) ⟨Nat.zero_le _, Nat.zero_le _⟩ (fun H locs hX => ?_)
          refine lv_goto (tgt := 48) hx hb (kd dtX11_from_0 23 rfl) (by decide) ?_
          obtain rfl := Option.some.inj hf
          exact kiret F hX hr hlocks rfl (kd dtX11_from_0 25 rfl)
      · have hf := kif_neg hc hf
        refine lv_iconst (v := (-1 : Int32)) hx hb (kd dtX11_from_0 10 rfl) (by decide) ?_
        obtain rfl := Option.some.inj hf
        exact kiret F hX hr hlocks rfl (kd dtX11_from_0 11 rfl)
theorem wfX11_211 : Cond.fieldLinkNest RX11 211 (TX8 9).1 (TX8 9).2.1 (TX8 9).2.2.1 "KitchenCards" ∈ kNs := kNm 148 (by decide +kernel) rfl
theorem wmX11_214 : Cond.methodLink RX11 214 yX3_readText ∈ kT := kTm 811 (by decide +kernel) rfl
theorem mwX3_readText : kMV RX3 yX3_readText cX3_readText 4 (some .int) := ⟨kTm 814 (by decide +kernel) rfl, kTm 104 (by decide +kernel) rfl, kTm 812 (by decide +kernel) rfl, kTm 813 (by decide +kernel) rfl⟩
theorem wmX11_215 : Cond.methodLink RX11 215 yX8_addProgram ∈ kT := kTm 833 (by decide +kernel) rfl
theorem mwX8_addProgram : kMV RX8 yX8_addProgram cX8_addProgram 2 (some .int) := ⟨kTm 836 (by decide +kernel) rfl, kTm 95 (by decide +kernel) rfl, kTm 834 (by decide +kernel) rfl, kTm 835 (by decide +kernel) rfl⟩
def lX11_program_0 : List (Nat × Instr × Nat) := [(0, .aload_n 0, 1), (1, .iload_n 1, 1), (2, .invokevirtual 99, 3), (5, .astore_n 2, 1), (6, .aload_n 2, 1), (7, .ifnonnull 5, 3), (10, .iconst (-1), 1), (11, .ireturn, 1), (12, .aload_n 0, 1), (13, .getfield 10, 3), (16, .getfield 211, 3), (19, .bipush 6, 2), (21, .if_icmp .lt 6, 3), (24, .bipush (-2), 2), (26, .ireturn, 1), (27, .aload_n 2, 1), (28, .invokevirtual 103, 3), (31, .istore_n 3, 1), (32, .iload_n 3, 1), (33, .ifCond .eq 5, 3), (36, .iload_n 3, 1), (37, .ireturn, 1), (38, .new 71, 3), (41, .dup, 1), (42, .aload_n 2, 1), (43, .getfield 110, 3), (46, .invokespecial 73, 3), (49, .astore 4, 2), (51, .aload 4, 2), (53, .aload_n 2, 1), (54, .getfield 107, 3), (57, .aload_n 2, 1), (58, .getfield 110, 3), (61, .invokevirtual 214, 3), (64, .istore 5, 2), (66, .iload 5, 2), (68, .ifCond .lt 11, 3), (71, .bipush (-100), 2), (73, .iload 5, 2), (75, .isub, 1), (76, .goto 12, 3), (79, .aload_n 0, 1), (80, .getfield 10, 3), (83, .aload 4, 2), (85, .invokevirtual 215, 3), (88, .ireturn, 1)]
theorem dtX11_program_0 : kDec cX11_program lX11_program_0 = true := by decide +kernel
noncomputable def fX11_program (x0 : Nat) (x1 : Int32) (w : kW) : Option (Int32 × kW) :=
  (kRc w 11 (some x0)).bind fun b1 =>
  (fX11_shelfAt b1 x1 w).bind fun v3 =>
  if v3 = none then
  some ((-1 : Int32), w)
  else
  (kgP w 11 (some x0) 0).bind fun v4 =>
  (kgI w 8 v4 9).bind fun v5 =>
  if v5 < (6 : Int32) then
  (kRc w 6 v3).bind fun b6 =>
  (fX6_bytesRefusal b6 w).bind fun v8 =>
  if v8 = 0 then
  (knO w 3).bind fun w9 =>
  (kgI w9 6 v3 2).bind fun v10 =>
  (fX3_init (kSz w) v10 w9).bind fun w11 =>
  (kgP w11 6 v3 0).bind fun v13 =>
  (kgI w11 6 v3 2).bind fun v14 =>
  (kRc w11 3 (some (kSz w))).bind fun b15 =>
  kb2 (fX3_readText b15 v13 v14 w11) fun v18 w16 =>
  if v18 < 0 then
  (kgP w16 11 (some x0) 0).bind fun v19 =>
  (kRc w16 8 v19).bind fun b20 =>
  kb2 (fX8_addProgram b20 (some (kSz w)) w16) fun v23 w21 =>
  some (v23, w21)
  else
  some ((-100 : Int32) - v18, w16)
  else
  some (v8, w)
  else
  some ((-2 : Int32), w)

set_option maxHeartbeats 4000000 in
set_option maxRecDepth 100000 in
theorem rX11_program (l : Launch) (D : va_G) (aC : Nat → ClassId) {x0 : Nat} {x1 : Int32} {w : kW} {wR : kW} {oR : Int32} (h : fX11_program x0 x1 w = some (oR, wR)) : kC l D aC yX11_program cX11_program 6 (some .int) 5 98 [.ref x0, .int x1] w (some (.int oR)) wR 2 129 := by
  refine kOf (own := RX11) (by decide) rfl (Nat.le_of_ble_eq_true rfl) ?_
  intro p e s m below meth c ls F hml hr hlocks hnm hX hZ hl
  obtain ⟨hx, hb, hts, hown, hK⟩ := id F
  have hl : lv_has ls 6 [(0, .ref x0), (1, .int x1)] := hl
  have hf := h
  rw [fX11_program] at hf
  refine lv_aload_n hx hb (kd dtX11_program_0 0 rfl) rfl (lv_at hl 0 rfl) ?_
  refine lv_iload_n hx hb (kd dtX11_program_0 1 rfl) rfl (lv_at hl 1 rfl) ?_
  obtain ⟨b1, hb1, hf⟩ := kbind hf
  obtain ⟨hrb1, hkb1⟩ := kRc_s hb1
  obtain ⟨v3, h2, hf⟩ := kbind hf
  refine kcallV (n := 1) [.int x1] [] [va_rf v3] (rX11_shelfAt l D aC h2) hrb1 hkb1 F hml hX hZ hl.1 mwX11_shelfAt wmX11_99 rfl (by decide) (by decide +kernel) ⟨(by decide), (by decide)⟩ rfl rfl rfl (Nat.le_of_ble_eq_true rfl) (kd dtX11_program_0 2 rfl) ⟨Nat.zero_le _, Nat.zero_le _⟩ (fun H locs hX => ?_)
  refine kastore_n (lv' := [(2, va_rf v3), (0, .ref x0), (1, .int x1)]) hx hb (kd dtX11_program_0 3 rfl) rfl hl (by decide) rfl (fun ls hl => ?_)
  refine kaload_n hx hb (kd dtX11_program_0 4 rfl) rfl (lv_at hl 0 rfl) ?_
  refine kifnonnull (tgt := 12) hx hb (kd dtX11_program_0 5 rfl) (by decide) (fun hc => ?_) (fun hc => ?_)
  · have hf := kif_pos hc hf
    refine lv_iconst (v := (-1 : Int32)) hx hb (kd dtX11_program_0 6 rfl) (by decide) ?_
    obtain ⟨rfl, rfl⟩ := Prod.mk.inj (Option.some.inj hf)
    refine W.widen (k := 2) (n := 129) (Nat.le_of_ble_eq_true rfl) (Nat.le_of_ble_eq_true rfl) ?_
    exact kiret F hX hr hlocks rfl (kd dtX11_program_0 7 rfl)
  · have hf := kif_neg hc hf
    refine lv_aload_n hx hb (kd dtX11_program_0 8 rfl) rfl (lv_at hl 1 rfl) ?_
    obtain ⟨v4, hv4, hf⟩ := kbind hf
    refine kgetP hv4 F hX hinX11 rfl rfl rfl (by decide) (by decide) wfX11_10 (kd dtX11_program_0 9 rfl) ?_
    obtain ⟨v5, hv5, hf⟩ := kbind hf
    refine kgetIN hv5 F hX hinX8 rfl rfl rfl (by decide) (by decide) hZ wfX11_211 (kd dtX11_program_0 10 rfl) ?_
    refine lv_bipush (v := (6 : Int32)) hx hb (kd dtX11_program_0 11 rfl) (by decide) ?_
    refine lv_icmp_lt (tgt := 27) hx hb (kd dtX11_program_0 12 rfl) (by decide) (fun hc => ?_) (fun hc => ?_)
    · have hf := kif_pos hc hf
      refine kaload_n hx hb (kd dtX11_program_0 15 rfl) rfl (lv_at hl 0 rfl) ?_
      obtain ⟨b6, hb6, hf⟩ := kbind hf
      obtain ⟨hrb6, hkb6⟩ := kRc_s hb6
      obtain ⟨v8, h7, hf⟩ := kbind hf
      refine kcallV (n := 0) [] [] [.int v8] (rX6_bytesRefusal l D aC h7) hrb6 hkb6 F hml hX hZ hl.1 mwX6_bytesRefusal wmX11_103 rfl (by decide) (by decide +kernel) ⟨(by decide), (by decide)⟩ rfl rfl rfl (Nat.le_of_ble_eq_true rfl) (kd dtX11_program_0 16 rfl) ⟨Nat.zero_le _, Nat.zero_le _⟩ (fun H locs hX => ?_)
      refine lv_istore_n (i := 3) (lv' := [(3, .int v8), (2, va_rf v3), (0, .ref x0), (1, .int x1)]) hx hb (kd dtX11_program_0 17 rfl) rfl hl (by decide) (by simp [kcat_rf, kcat_i, kcat_r, kcat_l]) (fun ls hl => ?_)
      refine lv_iload_n hx hb (kd dtX11_program_0 18 rfl) rfl (lv_at hl 0 rfl) ?_
      refine lv_if_eq (tgt := 38) hx hb (kd dtX11_program_0 19 rfl) (by decide) (fun hc => ?_) (fun hc => ?_)
      · have hf := kif_pos hc hf
        obtain ⟨w9, hw9, hf⟩ := kbind hf
        refine knewo (k := 3) hw9 F hX hinX3 tyX3_ok (by decide +kernel) rfl rfl (by decide) wkX11_71 wnX3 wiX3 (Nat.le_of_ble_eq_true rfl) (Nat.le_of_ble_eq_true rfl) (kd dtX11_program_0 22 rfl) (fun H hX => ?_)
        refine lv_dup hx hb (kd dtX11_program_0 23 rfl) rfl ?_
        refine kaload_n hx hb (kd dtX11_program_0 24 rfl) rfl (lv_at hl 1 rfl) ?_
        obtain ⟨v10, hv10, hf⟩ := kbind hf
        refine kgetIN hv10 F hX hinX6 rfl rfl rfl (by decide) (by decide) hZ wfX11_110 (kd dtX11_program_0 25 rfl) ?_
        obtain ⟨w11, h12, hf⟩ := kbind hf
        refine kcallI (n := 1) [.int v10] [.ref (kSz w)] [.ref (kSz w)] (rX3_init l D aC h12) F hml hX hZ hl.1 mwX3_init wmX11_73 rfl (by decide +kernel) ⟨(by decide), (by decide)⟩ rfl rfl rfl (Nat.le_of_ble_eq_true rfl) (kd dtX11_program_0 26 rfl) ⟨Nat.le_of_ble_eq_true rfl, Nat.le_of_ble_eq_true rfl⟩ (fun H locs hX => ?_)
        refine lv_astore (lv' := [(4, .ref (kSz w)), (3, .int v8), (2, va_rf v3), (0, .ref x0), (1, .int x1)]) hx hb (kd dtX11_program_0 27 rfl) hl (by decide) rfl (fun ls hl => ?_)
        refine lv_aload hx hb (kd dtX11_program_0 28 rfl) (lv_at hl 0 rfl) ?_
        refine kaload_n hx hb (kd dtX11_program_0 29 rfl) rfl (lv_at hl 2 rfl) ?_
        obtain ⟨v13, hv13, hf⟩ := kbind hf
        refine kgetPN hv13 F hX hinX6 rfl rfl rfl (by decide) (by decide) hZ wfX11_107 (kd dtX11_program_0 30 rfl) ?_
        refine kaload_n hx hb (kd dtX11_program_0 31 rfl) rfl (lv_at hl 2 rfl) ?_
        obtain ⟨v14, hv14, hf⟩ := kbind hf
        refine kgetIN hv14 F hX hinX6 rfl rfl rfl (by decide) (by decide) hZ wfX11_110 (kd dtX11_program_0 32 rfl) ?_
        obtain ⟨b15, hb15, hf⟩ := kbind hf
        obtain ⟨hrb15, hkb15⟩ := kRc_s hb15
        obtain ⟨v18, w16, h17, hf⟩ := kbind2 hf
        refine kcallV (n := 2) [va_rf v13, .int v14] [] [.int v18] (rX3_readText l D aC h17) hrb15 hkb15 F hml hX hZ hl.1 mwX3_readText wmX11_214 rfl (by decide) (by decide +kernel) ⟨(by decide), (by decide)⟩ rfl rfl rfl (Nat.le_of_ble_eq_true rfl) (kd dtX11_program_0 33 rfl) ⟨Nat.le_of_ble_eq_true rfl, Nat.le_of_ble_eq_true rfl⟩ (fun H locs hX => ?_)
        refine lv_istore (lv' := [(5, .int v18), (4, .ref (kSz w)), (3, .int v8), (2, va_rf v3), (0, .ref x0), (1, .int x1)]) hx hb (kd dtX11_program_0 34 rfl) hl (by decide) rfl (fun ls hl => ?_)
        refine lv_iload hx hb (kd dtX11_program_0 35 rfl) (lv_at hl 0 rfl) ?_
        refine lv_if_lt (tgt := 79) hx hb (kd dtX11_program_0 36 rfl) (by decide) (fun hc => ?_) (fun hc => ?_)
        · have hf := kif_pos hc hf
          refine lv_aload_n hx hb (kd dtX11_program_0 41 rfl) rfl (lv_at hl 4 rfl) ?_
          obtain ⟨v19, hv19, hf⟩ := kbind hf
          refine kgetP hv19 F hX hinX11 rfl rfl rfl (by decide) (by decide) wfX11_10 (kd dtX11_program_0 42 rfl) ?_
          refine lv_aload hx hb (kd dtX11_program_0 43 rfl) (lv_at hl 1 rfl) ?_
          obtain ⟨b20, hb20, hf⟩ := kbind hf
          obtain ⟨hrb20, hkb20⟩ := kRc_s hb20
          obtain ⟨v23, w21, h22, hf⟩ := kbind2 hf
          refine kcallV (n := 1) [.ref (kSz w)] [] [.int v23] (rX8_addProgram l D aC h22) hrb20 hkb20 F hml hX hZ hl.1 mwX8_addProgram wmX11_215 rfl (by decide) (by decide +kernel) ⟨(by decide), (by decide)⟩ rfl rfl rfl (Nat.le_of_ble_eq_true rfl) (kd dtX11_program_0 44 rfl) ⟨Nat.le_of_ble_eq_true rfl, Nat.le_of_ble_eq_true rfl⟩ (fun H locs hX => ?_)
          obtain ⟨rfl, rfl⟩ := Prod.mk.inj (Option.some.inj hf)
          refine W.widen (k := 2) (n := 129) (Nat.le_of_ble_eq_true rfl) (Nat.le_of_ble_eq_true rfl) ?_
          exact kiret F hX hr hlocks rfl (kd dtX11_program_0 45 rfl)
        · have hf := kif_neg hc hf
          refine lv_bipush (v := (-100 : Int32)) hx hb (kd dtX11_program_0 37 rfl) (by decide) ?_
          refine lv_iload hx hb (kd dtX11_program_0 38 rfl) (lv_at hl 0 rfl) ?_
          refine lv_isub hx hb (kd dtX11_program_0 39 rfl) ?_
          refine lv_goto (tgt := 88) hx hb (kd dtX11_program_0 40 rfl) (by decide) ?_
          obtain ⟨rfl, rfl⟩ := Prod.mk.inj (Option.some.inj hf)
          refine W.widen (k := 2) (n := 129) (Nat.le_of_ble_eq_true rfl) (Nat.le_of_ble_eq_true rfl) ?_
          exact kiret F hX hr hlocks rfl (kd dtX11_program_0 45 rfl)
      · have hf := kif_neg hc hf
        refine lv_iload_n hx hb (kd dtX11_program_0 20 rfl) rfl (lv_at hl 0 rfl) ?_
        obtain ⟨rfl, rfl⟩ := Prod.mk.inj (Option.some.inj hf)
        refine W.widen (k := 2) (n := 129) (Nat.le_of_ble_eq_true rfl) (Nat.le_of_ble_eq_true rfl) ?_
        exact kiret F hX hr hlocks rfl (kd dtX11_program_0 21 rfl)
    · have hf := kif_neg hc hf
      refine lv_bipush (v := (-2 : Int32)) hx hb (kd dtX11_program_0 13 rfl) (by decide) ?_
      obtain ⟨rfl, rfl⟩ := Prod.mk.inj (Option.some.inj hf)
      refine W.widen (k := 2) (n := 129) (Nat.le_of_ble_eq_true rfl) (Nat.le_of_ble_eq_true rfl) ?_
      exact kiret F hX hr hlocks rfl (kd dtX11_program_0 14 rfl)
theorem wmX11_255 : Cond.methodLink RX11 255 yX8_programAt ∈ kT := kTm 845 (by decide +kernel) rfl
theorem mwX8_programAt : kMV RX8 yX8_programAt cX8_programAt 2 (some (.object "KitchenCards$Program")) := ⟨kTm 848 (by decide +kernel) rfl, kTm 95 (by decide +kernel) rfl, kTm 846 (by decide +kernel) rfl, kTm 847 (by decide +kernel) rfl⟩
def lX11_runRefusal_0 : List (Nat × Instr × Nat) := [(0, .aload_n 0, 1), (1, .getfield 10, 3), (4, .iload_n 1, 1), (5, .invokevirtual 255, 3), (8, .ifnull 14, 3), (11, .aload_n 0, 1), (12, .getfield 10, 3), (15, .iload_n 2, 1), (16, .invokevirtual 128, 3), (19, .ifnonnull 5, 3), (22, .iconst (-1), 1), (23, .ireturn, 1), (24, .aload_n 0, 1), (25, .getfield 10, 3), (28, .iload_n 2, 1), (29, .invokevirtual 149, 3), (32, .ifCond .ne 7, 3), (35, .iconst 0, 1), (36, .goto 5, 3), (39, .bipush (-3), 2), (41, .ireturn, 1)]
theorem dtX11_runRefusal_0 : kDec cX11_runRefusal lX11_runRefusal_0 = true := by decide +kernel
noncomputable def fX11_runRefusal (x0 : Nat) (x1 : Int32) (x2 : Int32) (w : kW) : Option Int32 :=
  (kgP w 11 (some x0) 0).bind fun v1 =>
  (kRc w 8 v1).bind fun b2 =>
  (fX8_programAt b2 x1 w).bind fun v4 =>
  if v4 = none then
  some (-1 : Int32)
  else
  (kgP w 11 (some x0) 0).bind fun v5 =>
  (kRc w 8 v5).bind fun b6 =>
  (fX8_lineAt b6 x2 w).bind fun v8 =>
  if v8 = none then
  some (-1 : Int32)
  else
  (kgP w 11 (some x0) 0).bind fun v9 =>
  (kRc w 8 v9).bind fun b10 =>
  (fX8_howIs b10 x2 w).bind fun v12 =>
  if v12 = 0 then
  some (0 : Int32)
  else
  some (-3 : Int32)

set_option maxHeartbeats 4000000 in
set_option maxRecDepth 100000 in
theorem rX11_runRefusal (l : Launch) (D : va_G) (aC : Nat → ClassId) {x0 : Nat} {x1 : Int32} {x2 : Int32} {w : kW} {oR : Int32} (h : fX11_runRefusal x0 x1 x2 w = some oR) : kC l D aC yX11_runRefusal cX11_runRefusal 3 (some .int) 2 33 [.ref x0, .int x1, .int x2] w (some (.int oR)) w 0 0 := by
  refine kOf (own := RX11) (by decide) rfl (Nat.le_of_ble_eq_true rfl) ?_
  intro p e s m below meth c ls F hml hr hlocks hnm hX hZ hl
  obtain ⟨hx, hb, hts, hown, hK⟩ := id F
  have hl : lv_has ls 3 [(0, .ref x0), (1, .int x1), (2, .int x2)] := hl
  have hf := h
  rw [fX11_runRefusal] at hf
  refine lv_aload_n hx hb (kd dtX11_runRefusal_0 0 rfl) rfl (lv_at hl 0 rfl) ?_
  obtain ⟨v1, hv1, hf⟩ := kbind hf
  refine kgetP hv1 F hX hinX11 rfl rfl rfl (by decide) (by decide) wfX11_10 (kd dtX11_runRefusal_0 1 rfl) ?_
  refine lv_iload_n hx hb (kd dtX11_runRefusal_0 2 rfl) rfl (lv_at hl 1 rfl) ?_
  obtain ⟨b2, hb2, hf⟩ := kbind hf
  obtain ⟨hrb2, hkb2⟩ := kRc_s hb2
  obtain ⟨v4, h3, hf⟩ := kbind hf
  refine kcallV (n := 1) [.int x1] [] [va_rf v4] (rX8_programAt l D aC h3) hrb2 hkb2 F hml hX hZ hl.1 mwX8_programAt wmX11_255 rfl (by decide) (by decide +kernel) ⟨(by decide), (by decide)⟩ rfl rfl rfl (Nat.le_of_ble_eq_true rfl) (kd dtX11_runRefusal_0 3 rfl) ⟨Nat.zero_le _, Nat.zero_le _⟩ (fun H locs hX => ?_)
  refine kifnull (tgt := 22) hx hb (kd dtX11_runRefusal_0 4 rfl) (by decide) (fun hc => ?_) (fun hc => ?_)
  · have hf := kif_pos hc hf
    refine lv_iconst (v := (-1 : Int32)) hx hb (kd dtX11_runRefusal_0 10 rfl) (by decide) ?_
    obtain rfl := Option.some.inj hf
    exact kiret F hX hr hlocks rfl (kd dtX11_runRefusal_0 11 rfl)
  · have hf := kif_neg hc hf
    refine lv_aload_n hx hb (kd dtX11_runRefusal_0 5 rfl) rfl (lv_at hl 0 rfl) ?_
    obtain ⟨v5, hv5, hf⟩ := kbind hf
    refine kgetP hv5 F hX hinX11 rfl rfl rfl (by decide) (by decide) wfX11_10 (kd dtX11_runRefusal_0 6 rfl) ?_
    refine lv_iload_n hx hb (kd dtX11_runRefusal_0 7 rfl) rfl (lv_at hl 2 rfl) ?_
    obtain ⟨b6, hb6, hf⟩ := kbind hf
    obtain ⟨hrb6, hkb6⟩ := kRc_s hb6
    obtain ⟨v8, h7, hf⟩ := kbind hf
    refine kcallV (n := 1) [.int x2] [] [va_rf v8] (rX8_lineAt l D aC h7) hrb6 hkb6 F hml hX hZ hl.1 mwX8_lineAt wmX11_128 rfl (by decide) (by decide +kernel) ⟨(by decide), (by decide)⟩ rfl rfl rfl (Nat.le_of_ble_eq_true rfl) (kd dtX11_runRefusal_0 8 rfl) ⟨Nat.zero_le _, Nat.zero_le _⟩ (fun H locs hX => ?_)
    refine kifnonnull (tgt := 24) hx hb (kd dtX11_runRefusal_0 9 rfl) (by decide) (fun hc => ?_) (fun hc => ?_)
    · have hf := kif_pos hc hf
      refine lv_iconst (v := (-1 : Int32)) hx hb (kd dtX11_runRefusal_0 10 rfl) (by decide) ?_
      obtain rfl := Option.some.inj hf
      exact kiret F hX hr hlocks rfl (kd dtX11_runRefusal_0 11 rfl)
    · have hf := kif_neg hc hf
      refine lv_aload_n hx hb (kd dtX11_runRefusal_0 12 rfl) rfl (lv_at hl 0 rfl) ?_
      obtain ⟨v9, hv9, hf⟩ := kbind hf
      refine kgetP hv9 F hX hinX11 rfl rfl rfl (by decide) (by decide) wfX11_10 (kd dtX11_runRefusal_0 13 rfl) ?_
      refine lv_iload_n hx hb (kd dtX11_runRefusal_0 14 rfl) rfl (lv_at hl 2 rfl) ?_
      obtain ⟨b10, hb10, hf⟩ := kbind hf
      obtain ⟨hrb10, hkb10⟩ := kRc_s hb10
      obtain ⟨v12, h11, hf⟩ := kbind hf
      refine kcallV (n := 1) [.int x2] [] [.int v12] (rX8_howIs l D aC h11) hrb10 hkb10 F hml hX hZ hl.1 mwX8_howIs wmX11_149 rfl (by decide) (by decide +kernel) ⟨(by decide), (by decide)⟩ rfl rfl rfl (Nat.le_of_ble_eq_true rfl) (kd dtX11_runRefusal_0 15 rfl) ⟨Nat.zero_le _, Nat.zero_le _⟩ (fun H locs hX => ?_)
      refine lv_if_ne (tgt := 39) hx hb (kd dtX11_runRefusal_0 16 rfl) (by decide) (fun hc => ?_) (fun hc => ?_)
      · have hf := kif_neg hc hf
        refine lv_bipush (v := (-3 : Int32)) hx hb (kd dtX11_runRefusal_0 19 rfl) (by decide) ?_
        obtain rfl := Option.some.inj hf
        exact kiret F hX hr hlocks rfl (kd dtX11_runRefusal_0 20 rfl)
      · have hf := kif_pos hc hf
        refine lv_iconst (v := (0 : Int32)) hx hb (kd dtX11_runRefusal_0 17 rfl) (by decide) ?_
        refine lv_goto (tgt := 41) hx hb (kd dtX11_runRefusal_0 18 rfl) (by decide) ?_
        obtain rfl := Option.some.inj hf
        exact kiret F hX hr hlocks rfl (kd dtX11_runRefusal_0 20 rfl)
theorem wmX11_243 : Cond.methodLink RX11 243 yX5_learnAll ∈ kT := kTm 853 (by decide +kernel) rfl
theorem mwX5_learnAll : kMV RX5 yX5_learnAll cX5_learnAll 4 none := ⟨kTm 856 (by decide +kernel) rfl, kTm 103 (by decide +kernel) rfl, kTm 854 (by decide +kernel) rfl, kTm 855 (by decide +kernel) rfl⟩
theorem wmX11_362 : Cond.methodLink RX11 362 yX5_setSlips ∈ kT := kTm 863 (by decide +kernel) rfl
theorem mwX5_setSlips : kMV RX5 yX5_setSlips cX5_setSlips 3 none := ⟨kTm 866 (by decide +kernel) rfl, kTm 103 (by decide +kernel) rfl, kTm 864 (by decide +kernel) rfl, kTm 865 (by decide +kernel) rfl⟩
theorem wmX11_247 : Cond.methodLink RX11 247 yX5_look ∈ kT := kTm 867 (by decide +kernel) rfl
theorem mwX5_look : kMV RX5 yX5_look cX5_look 9 none := ⟨kTm 870 (by decide +kernel) rfl, kTm 103 (by decide +kernel) rfl, kTm 868 (by decide +kernel) rfl, kTm 869 (by decide +kernel) rfl⟩
def lX11_lookFor_0 : List (Nat × Instr × Nat) := [(0, .aload_n 0, 1), (1, .getfield 67, 3), (4, .aload_n 0, 1), (5, .getfield 10, 3), (8, .invokevirtual 243, 3), (11, .aload_n 0, 1), (12, .getfield 67, 3), (15, .iload_n 3, 1), (16, .iload 4, 2), (18, .invokevirtual 362, 3), (21, .aload_n 0, 1), (22, .getfield 67, 3), (25, .aload_n 0, 1), (26, .getfield 10, 3), (29, .iload_n 1, 1), (30, .invokevirtual 255, 3), (33, .aload_n 0, 1), (34, .getfield 10, 3), (37, .iload_n 2, 1), (38, .invokevirtual 128, 3), (41, .ldc 95, 2), (43, .invokevirtual 247, 3), (46, .return_, 1)]
theorem dtX11_lookFor_0 : kDec cX11_lookFor lX11_lookFor_0 = true := by decide +kernel
noncomputable def fX11_lookFor (x0 : Nat) (x1 : Int32) (x2 : Int32) (x3 : Int32) (x4 : Int32) (w : kW) : Option kW :=
  (kgP w 11 (some x0) 9).bind fun v1 =>
  (kgP w 11 (some x0) 0).bind fun v2 =>
  (kRc w 5 v1).bind fun b3 =>
  (fX5_learnAll b3 v2 w).bind fun w4 =>
  (kgP w4 11 (some x0) 9).bind fun v6 =>
  (kRc w4 5 v6).bind fun b7 =>
  (fX5_setSlips b7 x3 x4 w4).bind fun w8 =>
  (kgP w8 11 (some x0) 9).bind fun v10 =>
  (kgP w8 11 (some x0) 0).bind fun v11 =>
  (kRc w8 8 v11).bind fun b12 =>
  (fX8_programAt b12 x1 w8).bind fun v14 =>
  (kgP w8 11 (some x0) 0).bind fun v15 =>
  (kRc w8 8 v15).bind fun b16 =>
  (fX8_lineAt b16 x2 w8).bind fun v18 =>
  (kRc w8 5 v10).bind fun b19 =>
  (fX5_look b19 v14 v18 (1000000 : Int32) w8).bind fun w20 =>
  some w20

set_option maxHeartbeats 4000000 in
set_option maxRecDepth 100000 in
theorem rX11_lookFor (l : Launch) (D : va_G) (aC : Nat → ClassId) {x0 : Nat} {x1 : Int32} {x2 : Int32} {x3 : Int32} {x4 : Int32} {w : kW} {wR : kW} (h : fX11_lookFor x0 x1 x2 x3 x4 w = some wR) : kC l D aC yX11_lookFor cX11_lookFor 5 none 7 154 [.ref x0, .int x1, .int x2, .int x3, .int x4] w none wR 0 0 := by
  refine kOf (own := RX11) (by decide) rfl (Nat.le_of_ble_eq_true rfl) ?_
  intro p e s m below meth c ls F hml hr hlocks hnm hX hZ hl
  obtain ⟨hx, hb, hts, hown, hK⟩ := id F
  have hl : lv_has ls 5 [(0, .ref x0), (1, .int x1), (2, .int x2), (3, .int x3), (4, .int x4)] := hl
  have hf := h
  rw [fX11_lookFor] at hf
  refine lv_aload_n hx hb (kd dtX11_lookFor_0 0 rfl) rfl (lv_at hl 0 rfl) ?_
  obtain ⟨v1, hv1, hf⟩ := kbind hf
  refine kgetP hv1 F hX hinX11 rfl rfl rfl (by decide) (by decide) wfX11_67 (kd dtX11_lookFor_0 1 rfl) ?_
  refine lv_aload_n hx hb (kd dtX11_lookFor_0 2 rfl) rfl (lv_at hl 0 rfl) ?_
  obtain ⟨v2, hv2, hf⟩ := kbind hf
  refine kgetP hv2 F hX hinX11 rfl rfl rfl (by decide) (by decide) wfX11_10 (kd dtX11_lookFor_0 3 rfl) ?_
  obtain ⟨b3, hb3, hf⟩ := kbind hf
  obtain ⟨hrb3, hkb3⟩ := kRc_s hb3
  obtain ⟨w4, h5, hf⟩ := kbind hf
  refine kcallV (n := 1) [va_rf v2] [] [] (rX5_learnAll l D aC h5) hrb3 hkb3 F hml hX hZ hl.1 mwX5_learnAll wmX11_243 rfl (by decide) (by decide +kernel) ⟨(by decide), (by decide)⟩ rfl rfl rfl (Nat.le_of_ble_eq_true rfl) (kd dtX11_lookFor_0 4 rfl) ⟨Nat.zero_le _, Nat.zero_le _⟩ (fun H locs hX => ?_)
  refine lv_aload_n hx hb (kd dtX11_lookFor_0 5 rfl) rfl (lv_at hl 0 rfl) ?_
  obtain ⟨v6, hv6, hf⟩ := kbind hf
  refine kgetP hv6 F hX hinX11 rfl rfl rfl (by decide) (by decide) wfX11_67 (kd dtX11_lookFor_0 6 rfl) ?_
  refine lv_iload_n hx hb (kd dtX11_lookFor_0 7 rfl) rfl (lv_at hl 3 rfl) ?_
  refine lv_iload hx hb (kd dtX11_lookFor_0 8 rfl) (lv_at hl 4 rfl) ?_
  obtain ⟨b7, hb7, hf⟩ := kbind hf
  obtain ⟨hrb7, hkb7⟩ := kRc_s hb7
  obtain ⟨w8, h9, hf⟩ := kbind hf
  refine kcallV (n := 2) [.int x3, .int x4] [] [] (rX5_setSlips l D aC h9) hrb7 hkb7 F hml hX hZ hl.1 mwX5_setSlips wmX11_362 rfl (by decide) (by decide +kernel) ⟨(by decide), (by decide)⟩ rfl rfl rfl (Nat.le_of_ble_eq_true rfl) (kd dtX11_lookFor_0 9 rfl) ⟨Nat.zero_le _, Nat.zero_le _⟩ (fun H locs hX => ?_)
  refine lv_aload_n hx hb (kd dtX11_lookFor_0 10 rfl) rfl (lv_at hl 0 rfl) ?_
  obtain ⟨v10, hv10, hf⟩ := kbind hf
  refine kgetP hv10 F hX hinX11 rfl rfl rfl (by decide) (by decide) wfX11_67 (kd dtX11_lookFor_0 11 rfl) ?_
  refine lv_aload_n hx hb (kd dtX11_lookFor_0 12 rfl) rfl (lv_at hl 0 rfl) ?_
  obtain ⟨v11, hv11, hf⟩ := kbind hf
  refine kgetP hv11 F hX hinX11 rfl rfl rfl (by decide) (by decide) wfX11_10 (kd dtX11_lookFor_0 13 rfl) ?_
  refine lv_iload_n hx hb (kd dtX11_lookFor_0 14 rfl) rfl (lv_at hl 1 rfl) ?_
  obtain ⟨b12, hb12, hf⟩ := kbind hf
  obtain ⟨hrb12, hkb12⟩ := kRc_s hb12
  obtain ⟨v14, h13, hf⟩ := kbind hf
  refine kcallV (n := 1) [.int x1] [va_rf v10] [va_rf v14, va_rf v10] (rX8_programAt l D aC h13) hrb12 hkb12 F hml hX hZ hl.1 mwX8_programAt wmX11_255 rfl (by decide) (by decide +kernel) ⟨(by decide), (by decide)⟩ rfl rfl rfl (by simp [kcat_rf, kcat_i, kcat_r, kcat_l]) (kd dtX11_lookFor_0 15 rfl) ⟨Nat.zero_le _, Nat.zero_le _⟩ (fun H locs hX => ?_)
  refine lv_aload_n hx hb (kd dtX11_lookFor_0 16 rfl) rfl (lv_at hl 0 rfl) ?_
  obtain ⟨v15, hv15, hf⟩ := kbind hf
  refine kgetP hv15 F hX hinX11 rfl rfl rfl (by decide) (by decide) wfX11_10 (kd dtX11_lookFor_0 17 rfl) ?_
  refine lv_iload_n hx hb (kd dtX11_lookFor_0 18 rfl) rfl (lv_at hl 2 rfl) ?_
  obtain ⟨b16, hb16, hf⟩ := kbind hf
  obtain ⟨hrb16, hkb16⟩ := kRc_s hb16
  obtain ⟨v18, h17, hf⟩ := kbind hf
  refine kcallV (n := 1) [.int x2] [va_rf v14, va_rf v10] [va_rf v18, va_rf v14, va_rf v10] (rX8_lineAt l D aC h17) hrb16 hkb16 F hml hX hZ hl.1 mwX8_lineAt wmX11_128 rfl (by decide) (by decide +kernel) ⟨(by decide), (by decide)⟩ rfl rfl rfl (by simp [kcat_rf, kcat_i, kcat_r, kcat_l]) (kd dtX11_lookFor_0 19 rfl) ⟨Nat.zero_le _, Nat.zero_le _⟩ (fun H locs hX => ?_)
  refine lv_ldc (v := (1000000 : Int32)) hx hb hown (hts _ wcX11_95) (kd dtX11_lookFor_0 20 rfl) ?_
  obtain ⟨b19, hb19, hf⟩ := kbind hf
  obtain ⟨hrb19, hkb19⟩ := kRc_s hb19
  obtain ⟨w20, h21, hf⟩ := kbind hf
  refine kcallV (n := 3) [va_rf v14, va_rf v18, .int (1000000 : Int32)] [] [] (rX5_look l D aC h21) hrb19 hkb19 F hml hX hZ hl.1 mwX5_look wmX11_247 rfl (by decide) (by decide +kernel) ⟨(by decide), (by decide)⟩ rfl rfl rfl (Nat.le_of_ble_eq_true rfl) (kd dtX11_lookFor_0 21 rfl) ⟨Nat.zero_le _, Nat.zero_le _⟩ (fun H locs hX => ?_)
  obtain rfl := Option.some.inj hf
  exact kvret F hX hr hlocks rfl (kd dtX11_lookFor_0 22 rfl)
theorem wmX11_219 : Cond.methodLink RX11 219 yX11_runRefusal ∈ kT := kTm 841 (by decide +kernel) rfl
theorem mwX11_runRefusal : kMV RX11 yX11_runRefusal cX11_runRefusal 3 (some .int) := ⟨kTm 844 (by decide +kernel) rfl, kTm 94 (by decide +kernel) rfl, kTm 843 (by decide +kernel) rfl, kTm 23 (by decide +kernel) rfl⟩
theorem wmX11_222 : Cond.methodLink RX11 222 yX11_lookFor ∈ kT := kTm 849 (by decide +kernel) rfl
theorem mwX11_lookFor : kMV RX11 yX11_lookFor cX11_lookFor 5 none := ⟨kTm 852 (by decide +kernel) rfl, kTm 94 (by decide +kernel) rfl, kTm 851 (by decide +kernel) rfl, kTm 24 (by decide +kernel) rfl⟩
theorem wfX11_225 : Cond.fieldLinkNest RX11 225 (TX5 12).1 (TX5 12).2.1 (TX5 12).2.2.1 "KitchenCards" ∈ kNs := kNm 334 (by decide +kernel) rfl
theorem wfX11_228 : Cond.fieldLinkNest RX11 228 (TX5 10).1 (TX5 10).2.1 (TX5 10).2.2.1 "KitchenCards" ∈ kNs := kNm 331 (by decide +kernel) rfl
theorem wfX11_231 : Cond.fieldLinkNest RX11 231 (TX5 6).1 (TX5 6).2.1 (TX5 6).2.2.1 "KitchenCards" ∈ kNs := kNm 326 (by decide +kernel) rfl
theorem wfX11_234 : Cond.fieldLinkNest RX11 234 (TX5 13).1 (TX5 13).2.1 (TX5 13).2.2.1 "KitchenCards" ∈ kNs := kNm 336 (by decide +kernel) rfl
theorem wfX11_237 : Cond.fieldLinkNest RX11 237 (TX5 14).1 (TX5 14).2.1 (TX5 14).2.2.1 "KitchenCards" ∈ kNs := kNm 338 (by decide +kernel) rfl
def lX11_run_0 : List (Nat × Instr × Nat) := [(0, .iload_n 3, 1), (1, .ifCond .lt 8, 3), (4, .iload_n 3, 1), (5, .iconst 4, 1), (6, .if_icmp .le 5, 3), (9, .iconst (-1), 1), (10, .ireturn, 1), (11, .aload_n 0, 1), (12, .iload_n 1, 1), (13, .iload_n 2, 1), (14, .invokevirtual 219, 3), (17, .istore 4, 2), (19, .iload 4, 2), (21, .ifCond .eq 6, 3), (24, .iload 4, 2), (26, .ireturn, 1), (27, .aload_n 0, 1), (28, .iload_n 1, 1), (29, .iload_n 2, 1), (30, .iconst 0, 1), (31, .iconst 0, 1), (32, .invokevirtual 222, 3), (35, .iload_n 3, 1), (36, .tableswitch 87 0 3 #[32, 48, 56, 64], 32), (68, .aload_n 0, 1), (69, .getfield 67, 3), (72, .getfield 225, 3), (75, .ifCond .eq 7, 3), (78, .iconst 1, 1), (79, .goto 4, 3), (82, .iconst 0, 1), (83, .ireturn, 1), (84, .aload_n 0, 1), (85, .getfield 67, 3), (88, .getfield 228, 3), (91, .ireturn, 1), (92, .aload_n 0, 1), (93, .getfield 67, 3), (96, .getfield 231, 3), (99, .ireturn, 1), (100, .aload_n 0, 1), (101, .getfield 67, 3), (104, .getfield 225, 3), (107, .ifCond .eq 13, 3), (110, .aload_n 0, 1), (111, .getfield 67, 3), (114, .getfield 234, 3), (117, .goto 5, 3), (120, .bipush (-4), 2), (122, .ireturn, 1), (123, .aload_n 0, 1), (124, .getfield 67, 3), (127, .getfield 225, 3), (130, .ifCond .eq 13, 3), (133, .aload_n 0, 1), (134, .getfield 67, 3), (137, .getfield 237, 3), (140, .goto 5, 3), (143, .bipush (-4), 2), (145, .ireturn, 1)]
theorem dtX11_run_0 : kDec cX11_run lX11_run_0 = true := by decide +kernel
noncomputable def fX11_run (x0 : Nat) (x1 : Int32) (x2 : Int32) (x3 : Int32) (w : kW) : Option (Int32 × kW) :=
  if x3 < 0 then
  some ((-1 : Int32), w)
  else
  if x3 ≤ (4 : Int32) then
  (kRc w 11 (some x0)).bind fun b1 =>
  (fX11_runRefusal b1 x1 x2 w).bind fun v3 =>
  if v3 = 0 then
  (kRc w 11 (some x0)).bind fun b4 =>
  (fX11_lookFor b4 x1 x2 (0 : Int32) (0 : Int32) w).bind fun w5 =>
  if x3 = (0 : Int32) then
  (kgP w5 11 (some x0) 9).bind fun v7 =>
  (kgI w5 5 v7 12).bind fun v8 =>
  if v8 = 0 then
  some ((0 : Int32), w5)
  else
  some ((1 : Int32), w5)
  else if x3 = (1 : Int32) then
  (kgP w5 11 (some x0) 9).bind fun v9 =>
  (kgI w5 5 v9 10).bind fun v10 =>
  some (v10, w5)
  else if x3 = (2 : Int32) then
  (kgP w5 11 (some x0) 9).bind fun v11 =>
  (kgI w5 5 v11 6).bind fun v12 =>
  some (v12, w5)
  else if x3 = (3 : Int32) then
  (kgP w5 11 (some x0) 9).bind fun v13 =>
  (kgI w5 5 v13 12).bind fun v14 =>
  if v14 = 0 then
  some ((-4 : Int32), w5)
  else
  (kgP w5 11 (some x0) 9).bind fun v15 =>
  (kgI w5 5 v15 13).bind fun v16 =>
  some (v16, w5)
  else 
  (kgP w5 11 (some x0) 9).bind fun v17 =>
  (kgI w5 5 v17 12).bind fun v18 =>
  if v18 = 0 then
  some ((-4 : Int32), w5)
  else
  (kgP w5 11 (some x0) 9).bind fun v19 =>
  (kgI w5 5 v19 14).bind fun v20 =>
  some (v20, w5)
  else
  some (v3, w)
  else
  some ((-1 : Int32), w)

set_option maxHeartbeats 4000000 in
set_option maxRecDepth 100000 in
theorem rX11_run (l : Launch) (D : va_G) (aC : Nat → ClassId) {x0 : Nat} {x1 : Int32} {x2 : Int32} {x3 : Int32} {w : kW} {wR : kW} {oR : Int32} (h : fX11_run x0 x1 x2 x3 w = some (oR, wR)) : kC l D aC yX11_run cX11_run 5 (some .int) 8 178 [.ref x0, .int x1, .int x2, .int x3] w (some (.int oR)) wR 0 0 := by
  refine kOf (own := RX11) (by decide) rfl (Nat.le_of_ble_eq_true rfl) ?_
  intro p e s m below meth c ls F hml hr hlocks hnm hX hZ hl
  obtain ⟨hx, hb, hts, hown, hK⟩ := id F
  have hl : lv_has ls 5 [(0, .ref x0), (1, .int x1), (2, .int x2), (3, .int x3)] := hl
  have hf := h
  rw [fX11_run] at hf
  refine lv_iload_n hx hb (kd dtX11_run_0 0 rfl) rfl (lv_at hl 3 rfl) ?_
  refine lv_if_lt (tgt := 9) hx hb (kd dtX11_run_0 1 rfl) (by decide) (fun hc => ?_) (fun hc => ?_)
  · have hf := kif_pos hc hf
    refine lv_iconst (v := (-1 : Int32)) hx hb (kd dtX11_run_0 5 rfl) (by decide) ?_
    obtain ⟨rfl, rfl⟩ := Prod.mk.inj (Option.some.inj hf)
    exact kiret F hX hr hlocks rfl (kd dtX11_run_0 6 rfl)
  · have hf := kif_neg hc hf
    refine lv_iload_n hx hb (kd dtX11_run_0 2 rfl) rfl (lv_at hl 3 rfl) ?_
    refine lv_iconst (v := (4 : Int32)) hx hb (kd dtX11_run_0 3 rfl) (by decide) ?_
    refine lv_icmp_le (tgt := 11) hx hb (kd dtX11_run_0 4 rfl) (by decide) (fun hc => ?_) (fun hc => ?_)
    · have hf := kif_pos hc hf
      refine lv_aload_n hx hb (kd dtX11_run_0 7 rfl) rfl (lv_at hl 0 rfl) ?_
      refine lv_iload_n hx hb (kd dtX11_run_0 8 rfl) rfl (lv_at hl 1 rfl) ?_
      refine lv_iload_n hx hb (kd dtX11_run_0 9 rfl) rfl (lv_at hl 2 rfl) ?_
      obtain ⟨b1, hb1, hf⟩ := kbind hf
      obtain ⟨hrb1, hkb1⟩ := kRc_s hb1
      obtain ⟨v3, h2, hf⟩ := kbind hf
      refine kcallV (n := 2) [.int x1, .int x2] [] [.int v3] (rX11_runRefusal l D aC h2) hrb1 hkb1 F hml hX hZ hl.1 mwX11_runRefusal wmX11_219 rfl (by decide) (by decide +kernel) ⟨(by decide), (by decide)⟩ rfl rfl rfl (Nat.le_of_ble_eq_true rfl) (kd dtX11_run_0 10 rfl) ⟨Nat.zero_le _, Nat.zero_le _⟩ (fun H locs hX => ?_)
      refine lv_istore (lv' := [(4, .int v3), (0, .ref x0), (1, .int x1), (2, .int x2), (3, .int x3)]) hx hb (kd dtX11_run_0 11 rfl) hl (by decide) rfl (fun ls hl => ?_)
      refine lv_iload hx hb (kd dtX11_run_0 12 rfl) (lv_at hl 0 rfl) ?_
      refine lv_if_eq (tgt := 27) hx hb (kd dtX11_run_0 13 rfl) (by decide) (fun hc => ?_) (fun hc => ?_)
      · have hf := kif_pos hc hf
        refine lv_aload_n hx hb (kd dtX11_run_0 16 rfl) rfl (lv_at hl 1 rfl) ?_
        refine lv_iload_n hx hb (kd dtX11_run_0 17 rfl) rfl (lv_at hl 2 rfl) ?_
        refine lv_iload_n hx hb (kd dtX11_run_0 18 rfl) rfl (lv_at hl 3 rfl) ?_
        refine lv_iconst (v := (0 : Int32)) hx hb (kd dtX11_run_0 19 rfl) (by decide) ?_
        refine lv_iconst (v := (0 : Int32)) hx hb (kd dtX11_run_0 20 rfl) (by decide) ?_
        obtain ⟨b4, hb4, hf⟩ := kbind hf
        obtain ⟨hrb4, hkb4⟩ := kRc_s hb4
        obtain ⟨w5, h6, hf⟩ := kbind hf
        refine kcallV (n := 4) [.int x1, .int x2, .int (0 : Int32), .int (0 : Int32)] [] [] (rX11_lookFor l D aC h6) hrb4 hkb4 F hml hX hZ hl.1 mwX11_lookFor wmX11_222 rfl (by decide) (by decide +kernel) ⟨(by decide), (by decide)⟩ rfl rfl rfl (Nat.le_of_ble_eq_true rfl) (kd dtX11_run_0 21 rfl) ⟨Nat.zero_le _, Nat.zero_le _⟩ (fun H locs hX => ?_)
        refine lv_iload_n hx hb (kd dtX11_run_0 22 rfl) rfl (lv_at hl 4 rfl) ?_
        by_cases hc0 : x3 = (0 : Int32)
        · have hf := kif_pos hc0 hf
          have hq : (x3).toInt = 0 := by rw [hc0]; rfl
          refine lv_tableIn (off := 32) (tgt := 68) hx hb (kd dtX11_run_0 23 rfl) (by rw [hq]; decide) (by rw [hq]; decide) (by rw [hq]; rfl) (by decide) ?_
          refine lv_aload_n hx hb (kd dtX11_run_0 24 rfl) rfl (lv_at hl 1 rfl) ?_
          obtain ⟨v7, hv7, hf⟩ := kbind hf
          refine kgetP hv7 F hX hinX11 rfl rfl rfl (by decide) (by decide) wfX11_67 (kd dtX11_run_0 25 rfl) ?_
          obtain ⟨v8, hv8, hf⟩ := kbind hf
          refine kgetIN hv8 F hX hinX5 rfl rfl rfl (by decide) (by decide) hZ wfX11_225 (kd dtX11_run_0 26 rfl) ?_
          refine lv_if_eq (tgt := 82) hx hb (kd dtX11_run_0 27 rfl) (by decide) (fun hc => ?_) (fun hc => ?_)
          · have hf := kif_pos hc hf
            refine lv_iconst (v := (0 : Int32)) hx hb (kd dtX11_run_0 30 rfl) (by decide) ?_
            obtain ⟨rfl, rfl⟩ := Prod.mk.inj (Option.some.inj hf)
            exact kiret F hX hr hlocks rfl (kd dtX11_run_0 31 rfl)
          · have hf := kif_neg hc hf
            refine lv_iconst (v := (1 : Int32)) hx hb (kd dtX11_run_0 28 rfl) (by decide) ?_
            refine lv_goto (tgt := 83) hx hb (kd dtX11_run_0 29 rfl) (by decide) ?_
            obtain ⟨rfl, rfl⟩ := Prod.mk.inj (Option.some.inj hf)
            exact kiret F hX hr hlocks rfl (kd dtX11_run_0 31 rfl)
        have hf := kif_neg hc0 hf
        by_cases hc1 : x3 = (1 : Int32)
        · have hf := kif_pos hc1 hf
          have hq : (x3).toInt = 1 := by rw [hc1]; rfl
          refine lv_tableIn (off := 48) (tgt := 84) hx hb (kd dtX11_run_0 23 rfl) (by rw [hq]; decide) (by rw [hq]; decide) (by rw [hq]; rfl) (by decide) ?_
          refine lv_aload_n hx hb (kd dtX11_run_0 32 rfl) rfl (lv_at hl 1 rfl) ?_
          obtain ⟨v9, hv9, hf⟩ := kbind hf
          refine kgetP hv9 F hX hinX11 rfl rfl rfl (by decide) (by decide) wfX11_67 (kd dtX11_run_0 33 rfl) ?_
          obtain ⟨v10, hv10, hf⟩ := kbind hf
          refine kgetIN hv10 F hX hinX5 rfl rfl rfl (by decide) (by decide) hZ wfX11_228 (kd dtX11_run_0 34 rfl) ?_
          obtain ⟨rfl, rfl⟩ := Prod.mk.inj (Option.some.inj hf)
          exact kiret F hX hr hlocks rfl (kd dtX11_run_0 35 rfl)
        have hf := kif_neg hc1 hf
        by_cases hc2 : x3 = (2 : Int32)
        · have hf := kif_pos hc2 hf
          have hq : (x3).toInt = 2 := by rw [hc2]; rfl
          refine lv_tableIn (off := 56) (tgt := 92) hx hb (kd dtX11_run_0 23 rfl) (by rw [hq]; decide) (by rw [hq]; decide) (by rw [hq]; rfl) (by decide) ?_
          refine lv_aload_n hx hb (kd dtX11_run_0 36 rfl) rfl (lv_at hl 1 rfl) ?_
          obtain ⟨v11, hv11, hf⟩ := kbind hf
          refine kgetP hv11 F hX hinX11 rfl rfl rfl (by decide) (by decide) wfX11_67 (kd dtX11_run_0 37 rfl) ?_
          obtain ⟨v12, hv12, hf⟩ := kbind hf
          refine kgetIN hv12 F hX hinX5 rfl rfl rfl (by decide) (by decide) hZ wfX11_231 (kd dtX11_run_0 38 rfl) ?_
          obtain ⟨rfl, rfl⟩ := Prod.mk.inj (Option.some.inj hf)
          exact kiret F hX hr hlocks rfl (kd dtX11_run_0 39 rfl)
        have hf := kif_neg hc2 hf
        by_cases hc3 : x3 = (3 : Int32)
        · have hf := kif_pos hc3 hf
          have hq : (x3).toInt = 3 := by rw [hc3]; rfl
          refine lv_tableIn (off := 64) (tgt := 100) hx hb (kd dtX11_run_0 23 rfl) (by rw [hq]; decide) (by rw [hq]; decide) (by rw [hq]; rfl) (by decide) ?_
          refine lv_aload_n hx hb (kd dtX11_run_0 40 rfl) rfl (lv_at hl 1 rfl) ?_
          obtain ⟨v13, hv13, hf⟩ := kbind hf
          refine kgetP hv13 F hX hinX11 rfl rfl rfl (by decide) (by decide) wfX11_67 (kd dtX11_run_0 41 rfl) ?_
          obtain ⟨v14, hv14, hf⟩ := kbind hf
          refine kgetIN hv14 F hX hinX5 rfl rfl rfl (by decide) (by decide) hZ wfX11_225 (kd dtX11_run_0 42 rfl) ?_
          refine lv_if_eq (tgt := 120) hx hb (kd dtX11_run_0 43 rfl) (by decide) (fun hc => ?_) (fun hc => ?_)
          · have hf := kif_pos hc hf
            refine lv_bipush (v := (-4 : Int32)) hx hb (kd dtX11_run_0 48 rfl) (by decide) ?_
            obtain ⟨rfl, rfl⟩ := Prod.mk.inj (Option.some.inj hf)
            exact kiret F hX hr hlocks rfl (kd dtX11_run_0 49 rfl)
          · have hf := kif_neg hc hf
            refine lv_aload_n hx hb (kd dtX11_run_0 44 rfl) rfl (lv_at hl 1 rfl) ?_
            obtain ⟨v15, hv15, hf⟩ := kbind hf
            refine kgetP hv15 F hX hinX11 rfl rfl rfl (by decide) (by decide) wfX11_67 (kd dtX11_run_0 45 rfl) ?_
            obtain ⟨v16, hv16, hf⟩ := kbind hf
            refine kgetIN hv16 F hX hinX5 rfl rfl rfl (by decide) (by decide) hZ wfX11_234 (kd dtX11_run_0 46 rfl) ?_
            refine lv_goto (tgt := 122) hx hb (kd dtX11_run_0 47 rfl) (by decide) ?_
            obtain ⟨rfl, rfl⟩ := Prod.mk.inj (Option.some.inj hf)
            exact kiret F hX hr hlocks rfl (kd dtX11_run_0 49 rfl)
        have hf := kif_neg hc3 hf
        have hq0 := lv_neT (k := (0 : Int32)) hc0 (a := 0) rfl
        have hq1 := lv_neT (k := (1 : Int32)) hc1 (a := 1) rfl
        have hq2 := lv_neT (k := (2 : Int32)) hc2 (a := 2) rfl
        have hq3 := lv_neT (k := (3 : Int32)) hc3 (a := 3) rfl
        refine lv_tableOut (tgt := 123) hx hb (kd dtX11_run_0 23 rfl) (by omega) (by decide) ?_
        refine lv_aload_n hx hb (kd dtX11_run_0 50 rfl) rfl (lv_at hl 1 rfl) ?_
        obtain ⟨v17, hv17, hf⟩ := kbind hf
        refine kgetP hv17 F hX hinX11 rfl rfl rfl (by decide) (by decide) wfX11_67 (kd dtX11_run_0 51 rfl) ?_
        obtain ⟨v18, hv18, hf⟩ := kbind hf
        refine kgetIN hv18 F hX hinX5 rfl rfl rfl (by decide) (by decide) hZ wfX11_225 (kd dtX11_run_0 52 rfl) ?_
        refine lv_if_eq (tgt := 143) hx hb (kd dtX11_run_0 53 rfl) (by decide) (fun hc => ?_) (fun hc => ?_)
        · have hf := kif_pos hc hf
          refine lv_bipush (v := (-4 : Int32)) hx hb (kd dtX11_run_0 58 rfl) (by decide) ?_
          obtain ⟨rfl, rfl⟩ := Prod.mk.inj (Option.some.inj hf)
          exact kiret F hX hr hlocks rfl (kd dtX11_run_0 59 rfl)
        · have hf := kif_neg hc hf
          refine lv_aload_n hx hb (kd dtX11_run_0 54 rfl) rfl (lv_at hl 1 rfl) ?_
          obtain ⟨v19, hv19, hf⟩ := kbind hf
          refine kgetP hv19 F hX hinX11 rfl rfl rfl (by decide) (by decide) wfX11_67 (kd dtX11_run_0 55 rfl) ?_
          obtain ⟨v20, hv20, hf⟩ := kbind hf
          refine kgetIN hv20 F hX hinX5 rfl rfl rfl (by decide) (by decide) hZ wfX11_237 (kd dtX11_run_0 56 rfl) ?_
          refine lv_goto (tgt := 145) hx hb (kd dtX11_run_0 57 rfl) (by decide) ?_
          obtain ⟨rfl, rfl⟩ := Prod.mk.inj (Option.some.inj hf)
          exact kiret F hX hr hlocks rfl (kd dtX11_run_0 59 rfl)
      · have hf := kif_neg hc hf
        refine lv_iload hx hb (kd dtX11_run_0 14 rfl) (lv_at hl 0 rfl) ?_
        obtain ⟨rfl, rfl⟩ := Prod.mk.inj (Option.some.inj hf)
        exact kiret F hX hr hlocks rfl (kd dtX11_run_0 15 rfl)
    · have hf := kif_neg hc hf
      refine lv_iconst (v := (-1 : Int32)) hx hb (kd dtX11_run_0 5 rfl) (by decide) ?_
      obtain ⟨rfl, rfl⟩ := Prod.mk.inj (Option.some.inj hf)
      exact kiret F hX hr hlocks rfl (kd dtX11_run_0 6 rfl)
theorem wmX11_240 : Cond.methodLink RX11 240 yX5_needAt ∈ kT := kTm 932 (by decide +kernel) rfl
theorem mwX5_needAt : kMV RX5 yX5_needAt cX5_needAt 2 (some (.object "KitchenCards$Line")) := ⟨kTm 935 (by decide +kernel) rfl, kTm 103 (by decide +kernel) rfl, kTm 933 (by decide +kernel) rfl, kTm 934 (by decide +kernel) rfl⟩
def lX11_need_0 : List (Nat × Instr × Nat) := [(0, .iload_n 3, 1), (1, .ifCond .lt 8, 3), (4, .iload 4, 2), (6, .ifCond .ge 5, 3), (9, .iconst (-1), 1), (10, .ireturn, 1), (11, .aload_n 0, 1), (12, .iload_n 1, 1), (13, .iload_n 2, 1), (14, .invokevirtual 219, 3), (17, .istore 5, 2), (19, .iload 5, 2), (21, .ifCond .eq 6, 3), (24, .iload 5, 2), (26, .ireturn, 1), (27, .aload_n 0, 1), (28, .iload_n 1, 1), (29, .iload_n 2, 1), (30, .iconst 0, 1), (31, .iconst 0, 1), (32, .invokevirtual 222, 3), (35, .aload_n 0, 1), (36, .getfield 67, 3), (39, .iload_n 3, 1), (40, .invokevirtual 240, 3), (43, .astore 6, 2), (45, .aload 6, 2), (47, .ifnonnull 8, 3), (50, .bipush (-4), 2), (52, .goto 15, 3), (55, .aload_n 0, 1), (56, .getfield 39, 3), (59, .aload 6, 2), (61, .iconst 0, 1), (62, .iload 4, 2), (64, .invokevirtual 155, 3), (67, .ireturn, 1)]
theorem dtX11_need_0 : kDec cX11_need lX11_need_0 = true := by decide +kernel
noncomputable def fX11_need (x0 : Nat) (x1 : Int32) (x2 : Int32) (x3 : Int32) (x4 : Int32) (w : kW) : Option (Int32 × kW) :=
  if x3 < 0 then
  some ((-1 : Int32), w)
  else
  if 0 ≤ x4 then
  (kRc w 11 (some x0)).bind fun b1 =>
  (fX11_runRefusal b1 x1 x2 w).bind fun v3 =>
  if v3 = 0 then
  (kRc w 11 (some x0)).bind fun b4 =>
  (fX11_lookFor b4 x1 x2 (0 : Int32) (0 : Int32) w).bind fun w5 =>
  (kgP w5 11 (some x0) 9).bind fun v7 =>
  (kRc w5 5 v7).bind fun b8 =>
  (fX5_needAt b8 x3 w5).bind fun v10 =>
  if v10 = none then
  some ((-4 : Int32), w5)
  else
  (kgP w5 11 (some x0) 5).bind fun v11 =>
  (kRc w5 10 v11).bind fun b12 =>
  kb2 (fX10_byteOf b12 v10 (0 : Int32) x4 w5) fun v15 w13 =>
  some (v15, w13)
  else
  some (v3, w)
  else
  some ((-1 : Int32), w)

set_option maxHeartbeats 4000000 in
set_option maxRecDepth 100000 in
theorem rX11_need (l : Launch) (D : va_G) (aC : Nat → ClassId) {x0 : Nat} {x1 : Int32} {x2 : Int32} {x3 : Int32} {x4 : Int32} {w : kW} {wR : kW} {oR : Int32} (h : fX11_need x0 x1 x2 x3 x4 w = some (oR, wR)) : kC l D aC yX11_need cX11_need 7 (some .int) 8 178 [.ref x0, .int x1, .int x2, .int x3, .int x4] w (some (.int oR)) wR 0 0 := by
  refine kOf (own := RX11) (by decide) rfl (Nat.le_of_ble_eq_true rfl) ?_
  intro p e s m below meth c ls F hml hr hlocks hnm hX hZ hl
  obtain ⟨hx, hb, hts, hown, hK⟩ := id F
  have hl : lv_has ls 7 [(0, .ref x0), (1, .int x1), (2, .int x2), (3, .int x3), (4, .int x4)] := hl
  have hf := h
  rw [fX11_need] at hf
  refine lv_iload_n hx hb (kd dtX11_need_0 0 rfl) rfl (lv_at hl 3 rfl) ?_
  refine lv_if_lt (tgt := 9) hx hb (kd dtX11_need_0 1 rfl) (by decide) (fun hc => ?_) (fun hc => ?_)
  · have hf := kif_pos hc hf
    refine lv_iconst (v := (-1 : Int32)) hx hb (kd dtX11_need_0 4 rfl) (by decide) ?_
    obtain ⟨rfl, rfl⟩ := Prod.mk.inj (Option.some.inj hf)
    exact kiret F hX hr hlocks rfl (kd dtX11_need_0 5 rfl)
  · have hf := kif_neg hc hf
    refine lv_iload hx hb (kd dtX11_need_0 2 rfl) (lv_at hl 4 rfl) ?_
    refine lv_if_ge (tgt := 11) hx hb (kd dtX11_need_0 3 rfl) (by decide) (fun hc => ?_) (fun hc => ?_)
    · have hf := kif_pos hc hf
      refine lv_aload_n hx hb (kd dtX11_need_0 6 rfl) rfl (lv_at hl 0 rfl) ?_
      refine lv_iload_n hx hb (kd dtX11_need_0 7 rfl) rfl (lv_at hl 1 rfl) ?_
      refine lv_iload_n hx hb (kd dtX11_need_0 8 rfl) rfl (lv_at hl 2 rfl) ?_
      obtain ⟨b1, hb1, hf⟩ := kbind hf
      obtain ⟨hrb1, hkb1⟩ := kRc_s hb1
      obtain ⟨v3, h2, hf⟩ := kbind hf
      refine kcallV (n := 2) [.int x1, .int x2] [] [.int v3] (rX11_runRefusal l D aC h2) hrb1 hkb1 F hml hX hZ hl.1 mwX11_runRefusal wmX11_219 rfl (by decide) (by decide +kernel) ⟨(by decide), (by decide)⟩ rfl rfl rfl (Nat.le_of_ble_eq_true rfl) (kd dtX11_need_0 9 rfl) ⟨Nat.zero_le _, Nat.zero_le _⟩ (fun H locs hX => ?_)
      refine lv_istore (lv' := [(5, .int v3), (0, .ref x0), (1, .int x1), (2, .int x2), (3, .int x3), (4, .int x4)]) hx hb (kd dtX11_need_0 10 rfl) hl (by decide) rfl (fun ls hl => ?_)
      refine lv_iload hx hb (kd dtX11_need_0 11 rfl) (lv_at hl 0 rfl) ?_
      refine lv_if_eq (tgt := 27) hx hb (kd dtX11_need_0 12 rfl) (by decide) (fun hc => ?_) (fun hc => ?_)
      · have hf := kif_pos hc hf
        refine lv_aload_n hx hb (kd dtX11_need_0 15 rfl) rfl (lv_at hl 1 rfl) ?_
        refine lv_iload_n hx hb (kd dtX11_need_0 16 rfl) rfl (lv_at hl 2 rfl) ?_
        refine lv_iload_n hx hb (kd dtX11_need_0 17 rfl) rfl (lv_at hl 3 rfl) ?_
        refine lv_iconst (v := (0 : Int32)) hx hb (kd dtX11_need_0 18 rfl) (by decide) ?_
        refine lv_iconst (v := (0 : Int32)) hx hb (kd dtX11_need_0 19 rfl) (by decide) ?_
        obtain ⟨b4, hb4, hf⟩ := kbind hf
        obtain ⟨hrb4, hkb4⟩ := kRc_s hb4
        obtain ⟨w5, h6, hf⟩ := kbind hf
        refine kcallV (n := 4) [.int x1, .int x2, .int (0 : Int32), .int (0 : Int32)] [] [] (rX11_lookFor l D aC h6) hrb4 hkb4 F hml hX hZ hl.1 mwX11_lookFor wmX11_222 rfl (by decide) (by decide +kernel) ⟨(by decide), (by decide)⟩ rfl rfl rfl (Nat.le_of_ble_eq_true rfl) (kd dtX11_need_0 20 rfl) ⟨Nat.zero_le _, Nat.zero_le _⟩ (fun H locs hX => ?_)
        refine lv_aload_n hx hb (kd dtX11_need_0 21 rfl) rfl (lv_at hl 1 rfl) ?_
        obtain ⟨v7, hv7, hf⟩ := kbind hf
        refine kgetP hv7 F hX hinX11 rfl rfl rfl (by decide) (by decide) wfX11_67 (kd dtX11_need_0 22 rfl) ?_
        refine lv_iload_n hx hb (kd dtX11_need_0 23 rfl) rfl (lv_at hl 4 rfl) ?_
        obtain ⟨b8, hb8, hf⟩ := kbind hf
        obtain ⟨hrb8, hkb8⟩ := kRc_s hb8
        obtain ⟨v10, h9, hf⟩ := kbind hf
        refine kcallV (n := 1) [.int x3] [] [va_rf v10] (rX5_needAt l D aC h9) hrb8 hkb8 F hml hX hZ hl.1 mwX5_needAt wmX11_240 rfl (by decide) (by decide +kernel) ⟨(by decide), (by decide)⟩ rfl rfl rfl (Nat.le_of_ble_eq_true rfl) (kd dtX11_need_0 24 rfl) ⟨Nat.zero_le _, Nat.zero_le _⟩ (fun H locs hX => ?_)
        refine kastore (lv' := [(6, va_rf v10), (5, .int v3), (0, .ref x0), (1, .int x1), (2, .int x2), (3, .int x3), (4, .int x4)]) hx hb (kd dtX11_need_0 25 rfl) hl (by decide) rfl (fun ls hl => ?_)
        refine kaload hx hb (kd dtX11_need_0 26 rfl) (lv_at hl 0 rfl) ?_
        refine kifnonnull (tgt := 55) hx hb (kd dtX11_need_0 27 rfl) (by decide) (fun hc => ?_) (fun hc => ?_)
        · have hf := kif_pos hc hf
          refine lv_bipush (v := (-4 : Int32)) hx hb (kd dtX11_need_0 28 rfl) (by decide) ?_
          refine lv_goto (tgt := 67) hx hb (kd dtX11_need_0 29 rfl) (by decide) ?_
          obtain ⟨rfl, rfl⟩ := Prod.mk.inj (Option.some.inj hf)
          exact kiret F hX hr hlocks rfl (kd dtX11_need_0 36 rfl)
        · have hf := kif_neg hc hf
          refine lv_aload_n hx hb (kd dtX11_need_0 30 rfl) rfl (lv_at hl 2 rfl) ?_
          obtain ⟨v11, hv11, hf⟩ := kbind hf
          refine kgetP hv11 F hX hinX11 rfl rfl rfl (by decide) (by decide) wfX11_39 (kd dtX11_need_0 31 rfl) ?_
          refine kaload hx hb (kd dtX11_need_0 32 rfl) (lv_at hl 0 rfl) ?_
          refine lv_iconst (v := (0 : Int32)) hx hb (kd dtX11_need_0 33 rfl) (by decide) ?_
          refine lv_iload hx hb (kd dtX11_need_0 34 rfl) (lv_at hl 6 rfl) ?_
          obtain ⟨b12, hb12, hf⟩ := kbind hf
          obtain ⟨hrb12, hkb12⟩ := kRc_s hb12
          obtain ⟨v15, w13, h14, hf⟩ := kbind2 hf
          refine kcallV (n := 3) [va_rf v10, .int (0 : Int32), .int x4] [] [.int v15] (rX10_byteOf l D aC h14) hrb12 hkb12 F hml hX hZ hl.1 mwX10_byteOf wmX11_155 rfl (by decide) (by decide +kernel) ⟨(by decide), (by decide)⟩ rfl rfl rfl (Nat.le_of_ble_eq_true rfl) (kd dtX11_need_0 35 rfl) ⟨Nat.zero_le _, Nat.zero_le _⟩ (fun H locs hX => ?_)
          obtain ⟨rfl, rfl⟩ := Prod.mk.inj (Option.some.inj hf)
          exact kiret F hX hr hlocks rfl (kd dtX11_need_0 36 rfl)
      · have hf := kif_neg hc hf
        refine lv_iload hx hb (kd dtX11_need_0 13 rfl) (lv_at hl 0 rfl) ?_
        obtain ⟨rfl, rfl⟩ := Prod.mk.inj (Option.some.inj hf)
        exact kiret F hX hr hlocks rfl (kd dtX11_need_0 14 rfl)
    · have hf := kif_neg hc hf
      refine lv_iconst (v := (-1 : Int32)) hx hb (kd dtX11_need_0 4 rfl) (by decide) ?_
      obtain ⟨rfl, rfl⟩ := Prod.mk.inj (Option.some.inj hf)
      exact kiret F hX hr hlocks rfl (kd dtX11_need_0 5 rfl)
def lX11_show_0 : List (Nat × Instr × Nat) := [(0, .aload_n 0, 1), (1, .iload_n 1, 1), (2, .iload_n 2, 1), (3, .invokevirtual 219, 3), (6, .istore_n 3, 1), (7, .iload_n 3, 1), (8, .ifCond .eq 5, 3), (11, .iload_n 3, 1), (12, .ireturn, 1), (13, .aload_n 0, 1), (14, .iload_n 1, 1), (15, .iload_n 2, 1), (16, .iconst 0, 1), (17, .iconst 0, 1), (18, .invokevirtual 222, 3), (21, .aload_n 0, 1), (22, .getfield 67, 3), (25, .getfield 225, 3), (28, .ifCond .ne 6, 3), (31, .bipush (-4), 2), (33, .ireturn, 1), (34, .aload_n 0, 1), (35, .getfield 10, 3), (38, .iload_n 2, 1), (39, .iconst 2, 1), (40, .invokevirtual 159, 3), (43, .aload_n 0, 1), (44, .getfield 10, 3), (47, .iload_n 2, 1), (48, .iconst 4, 1), (49, .aload_n 0, 1), (50, .getfield 67, 3), (53, .getfield 237, 3), (56, .bipush (-4), 2), (58, .invokevirtual 203, 3), (61, .aload_n 0, 1), (62, .getfield 67, 3), (65, .getfield 228, 3), (68, .ireturn, 1)]
theorem dtX11_show_0 : kDec cX11_show lX11_show_0 = true := by decide +kernel
noncomputable def fX11_show (x0 : Nat) (x1 : Int32) (x2 : Int32) (w : kW) : Option (Int32 × kW) :=
  (kRc w 11 (some x0)).bind fun b1 =>
  (fX11_runRefusal b1 x1 x2 w).bind fun v3 =>
  if v3 = 0 then
  (kRc w 11 (some x0)).bind fun b4 =>
  (fX11_lookFor b4 x1 x2 (0 : Int32) (0 : Int32) w).bind fun w5 =>
  (kgP w5 11 (some x0) 9).bind fun v7 =>
  (kgI w5 5 v7 12).bind fun v8 =>
  if v8 = 0 then
  some ((-4 : Int32), w5)
  else
  (kgP w5 11 (some x0) 0).bind fun v9 =>
  (kRc w5 8 v9).bind fun b10 =>
  (fX8_makeKnown b10 x2 (2 : Int32) w5).bind fun w11 =>
  (kgP w11 11 (some x0) 0).bind fun v13 =>
  (kgP w11 11 (some x0) 9).bind fun v14 =>
  (kgI w11 5 v14 14).bind fun v15 =>
  (kRc w11 8 v13).bind fun b16 =>
  (fX8_noteSource b16 x2 (4 : Int32) v15 (-4 : Int32) w11).bind fun w17 =>
  (kgP w17 11 (some x0) 9).bind fun v19 =>
  (kgI w17 5 v19 10).bind fun v20 =>
  some (v20, w17)
  else
  some (v3, w)

set_option maxHeartbeats 4000000 in
set_option maxRecDepth 100000 in
theorem rX11_show (l : Launch) (D : va_G) (aC : Nat → ClassId) {x0 : Nat} {x1 : Int32} {x2 : Int32} {w : kW} {wR : kW} {oR : Int32} (h : fX11_show x0 x1 x2 w = some (oR, wR)) : kC l D aC yX11_show cX11_show 4 (some .int) 8 178 [.ref x0, .int x1, .int x2] w (some (.int oR)) wR 0 0 := by
  refine kOf (own := RX11) (by decide) rfl (Nat.le_of_ble_eq_true rfl) ?_
  intro p e s m below meth c ls F hml hr hlocks hnm hX hZ hl
  obtain ⟨hx, hb, hts, hown, hK⟩ := id F
  have hl : lv_has ls 4 [(0, .ref x0), (1, .int x1), (2, .int x2)] := hl
  have hf := h
  rw [fX11_show] at hf
  refine lv_aload_n hx hb (kd dtX11_show_0 0 rfl) rfl (lv_at hl 0 rfl) ?_
  refine lv_iload_n hx hb (kd dtX11_show_0 1 rfl) rfl (lv_at hl 1 rfl) ?_
  refine lv_iload_n hx hb (kd dtX11_show_0 2 rfl) rfl (lv_at hl 2 rfl) ?_
  obtain ⟨b1, hb1, hf⟩ := kbind hf
  obtain ⟨hrb1, hkb1⟩ := kRc_s hb1
  obtain ⟨v3, h2, hf⟩ := kbind hf
  refine kcallV (n := 2) [.int x1, .int x2] [] [.int v3] (rX11_runRefusal l D aC h2) hrb1 hkb1 F hml hX hZ hl.1 mwX11_runRefusal wmX11_219 rfl (by decide) (by decide +kernel) ⟨(by decide), (by decide)⟩ rfl rfl rfl (Nat.le_of_ble_eq_true rfl) (kd dtX11_show_0 3 rfl) ⟨Nat.zero_le _, Nat.zero_le _⟩ (fun H locs hX => ?_)
  refine lv_istore_n (lv' := [(3, .int v3), (0, .ref x0), (1, .int x1), (2, .int x2)]) hx hb (kd dtX11_show_0 4 rfl) rfl hl (by decide) rfl (fun ls hl => ?_)
  refine lv_iload_n hx hb (kd dtX11_show_0 5 rfl) rfl (lv_at hl 0 rfl) ?_
  refine lv_if_eq (tgt := 13) hx hb (kd dtX11_show_0 6 rfl) (by decide) (fun hc => ?_) (fun hc => ?_)
  · have hf := kif_pos hc hf
    refine lv_aload_n hx hb (kd dtX11_show_0 9 rfl) rfl (lv_at hl 1 rfl) ?_
    refine lv_iload_n hx hb (kd dtX11_show_0 10 rfl) rfl (lv_at hl 2 rfl) ?_
    refine lv_iload_n hx hb (kd dtX11_show_0 11 rfl) rfl (lv_at hl 3 rfl) ?_
    refine lv_iconst (v := (0 : Int32)) hx hb (kd dtX11_show_0 12 rfl) (by decide) ?_
    refine lv_iconst (v := (0 : Int32)) hx hb (kd dtX11_show_0 13 rfl) (by decide) ?_
    obtain ⟨b4, hb4, hf⟩ := kbind hf
    obtain ⟨hrb4, hkb4⟩ := kRc_s hb4
    obtain ⟨w5, h6, hf⟩ := kbind hf
    refine kcallV (n := 4) [.int x1, .int x2, .int (0 : Int32), .int (0 : Int32)] [] [] (rX11_lookFor l D aC h6) hrb4 hkb4 F hml hX hZ hl.1 mwX11_lookFor wmX11_222 rfl (by decide) (by decide +kernel) ⟨(by decide), (by decide)⟩ rfl rfl rfl (Nat.le_of_ble_eq_true rfl) (kd dtX11_show_0 14 rfl) ⟨Nat.zero_le _, Nat.zero_le _⟩ (fun H locs hX => ?_)
    refine lv_aload_n hx hb (kd dtX11_show_0 15 rfl) rfl (lv_at hl 1 rfl) ?_
    obtain ⟨v7, hv7, hf⟩ := kbind hf
    refine kgetP hv7 F hX hinX11 rfl rfl rfl (by decide) (by decide) wfX11_67 (kd dtX11_show_0 16 rfl) ?_
    obtain ⟨v8, hv8, hf⟩ := kbind hf
    refine kgetIN hv8 F hX hinX5 rfl rfl rfl (by decide) (by decide) hZ wfX11_225 (kd dtX11_show_0 17 rfl) ?_
    refine lv_if_ne (tgt := 34) hx hb (kd dtX11_show_0 18 rfl) (by decide) (fun hc => ?_) (fun hc => ?_)
    · have hf := kif_neg hc hf
      refine lv_aload_n hx hb (kd dtX11_show_0 21 rfl) rfl (lv_at hl 1 rfl) ?_
      obtain ⟨v9, hv9, hf⟩ := kbind hf
      refine kgetP hv9 F hX hinX11 rfl rfl rfl (by decide) (by decide) wfX11_10 (kd dtX11_show_0 22 rfl) ?_
      refine lv_iload_n hx hb (kd dtX11_show_0 23 rfl) rfl (lv_at hl 3 rfl) ?_
      refine lv_iconst (v := (2 : Int32)) hx hb (kd dtX11_show_0 24 rfl) (by decide) ?_
      obtain ⟨b10, hb10, hf⟩ := kbind hf
      obtain ⟨hrb10, hkb10⟩ := kRc_s hb10
      obtain ⟨w11, h12, hf⟩ := kbind hf
      refine kcallV (n := 2) [.int x2, .int (2 : Int32)] [] [] (rX8_makeKnown l D aC h12) hrb10 hkb10 F hml hX hZ hl.1 mwX8_makeKnown wmX11_159 rfl (by decide) (by decide +kernel) ⟨(by decide), (by decide)⟩ rfl rfl rfl (Nat.le_of_ble_eq_true rfl) (kd dtX11_show_0 25 rfl) ⟨Nat.zero_le _, Nat.zero_le _⟩ (fun H locs hX => ?_)
      refine lv_aload_n hx hb (kd dtX11_show_0 26 rfl) rfl (lv_at hl 1 rfl) ?_
      obtain ⟨v13, hv13, hf⟩ := kbind hf
      refine kgetP hv13 F hX hinX11 rfl rfl rfl (by decide) (by decide) wfX11_10 (kd dtX11_show_0 27 rfl) ?_
      refine lv_iload_n hx hb (kd dtX11_show_0 28 rfl) rfl (lv_at hl 3 rfl) ?_
      refine lv_iconst (v := (4 : Int32)) hx hb (kd dtX11_show_0 29 rfl) (by decide) ?_
      refine lv_aload_n hx hb (kd dtX11_show_0 30 rfl) rfl (lv_at hl 1 rfl) ?_
      obtain ⟨v14, hv14, hf⟩ := kbind hf
      refine kgetP hv14 F hX hinX11 rfl rfl rfl (by decide) (by decide) wfX11_67 (kd dtX11_show_0 31 rfl) ?_
      obtain ⟨v15, hv15, hf⟩ := kbind hf
      refine kgetIN hv15 F hX hinX5 rfl rfl rfl (by decide) (by decide) hZ wfX11_237 (kd dtX11_show_0 32 rfl) ?_
      refine lv_bipush (v := (-4 : Int32)) hx hb (kd dtX11_show_0 33 rfl) (by decide) ?_
      obtain ⟨b16, hb16, hf⟩ := kbind hf
      obtain ⟨hrb16, hkb16⟩ := kRc_s hb16
      obtain ⟨w17, h18, hf⟩ := kbind hf
      refine kcallV (n := 4) [.int x2, .int (4 : Int32), .int v15, .int (-4 : Int32)] [] [] (rX8_noteSource l D aC h18) hrb16 hkb16 F hml hX hZ hl.1 mwX8_noteSource wmX11_203 rfl (by decide) (by decide +kernel) ⟨(by decide), (by decide)⟩ rfl rfl rfl (Nat.le_of_ble_eq_true rfl) (kd dtX11_show_0 34 rfl) ⟨Nat.zero_le _, Nat.zero_le _⟩ (fun H locs hX => ?_)
      refine lv_aload_n hx hb (kd dtX11_show_0 35 rfl) rfl (lv_at hl 1 rfl) ?_
      obtain ⟨v19, hv19, hf⟩ := kbind hf
      refine kgetP hv19 F hX hinX11 rfl rfl rfl (by decide) (by decide) wfX11_67 (kd dtX11_show_0 36 rfl) ?_
      obtain ⟨v20, hv20, hf⟩ := kbind hf
      refine kgetIN hv20 F hX hinX5 rfl rfl rfl (by decide) (by decide) hZ wfX11_228 (kd dtX11_show_0 37 rfl) ?_
      obtain ⟨rfl, rfl⟩ := Prod.mk.inj (Option.some.inj hf)
      exact kiret F hX hr hlocks rfl (kd dtX11_show_0 38 rfl)
    · have hf := kif_pos hc hf
      refine lv_bipush (v := (-4 : Int32)) hx hb (kd dtX11_show_0 19 rfl) (by decide) ?_
      obtain ⟨rfl, rfl⟩ := Prod.mk.inj (Option.some.inj hf)
      exact kiret F hX hr hlocks rfl (kd dtX11_show_0 20 rfl)
  · have hf := kif_neg hc hf
    refine lv_iload_n hx hb (kd dtX11_show_0 7 rfl) rfl (lv_at hl 0 rfl) ?_
    obtain ⟨rfl, rfl⟩ := Prod.mk.inj (Option.some.inj hf)
    exact kiret F hX hr hlocks rfl (kd dtX11_show_0 8 rfl)
def lX11_tree_0 : List (Nat × Instr × Nat) := [(0, .aload_n 0, 1), (1, .getfield 10, 3), (4, .iload_n 1, 1), (5, .invokevirtual 128, 3), (8, .astore_n 3, 1), (9, .aload_n 3, 1), (10, .ifnull 13, 3), (13, .iload_n 2, 1), (14, .ifCond .lt 9, 3), (17, .iload_n 2, 1), (18, .bipush 9, 2), (20, .if_icmp .le 5, 3), (23, .iconst (-1), 1), (24, .ireturn, 1), (25, .aload_n 0, 1), (26, .getfield 67, 3), (29, .aload_n 0, 1), (30, .getfield 10, 3), (33, .invokevirtual 243, 3), (36, .aload_n 0, 1), (37, .getfield 67, 3), (40, .aload_n 0, 1), (41, .getfield 76, 3), (44, .aload_n 3, 1), (45, .iload_n 2, 1), (46, .invokevirtual 247, 3), (49, .aload_n 0, 1), (50, .getfield 67, 3), (53, .getfield 231, 3), (56, .ireturn, 1)]
theorem dtX11_tree_0 : kDec cX11_tree lX11_tree_0 = true := by decide +kernel
noncomputable def fX11_tree (x0 : Nat) (x1 : Int32) (x2 : Int32) (w : kW) : Option (Int32 × kW) :=
  (kgP w 11 (some x0) 0).bind fun v1 =>
  (kRc w 8 v1).bind fun b2 =>
  (fX8_lineAt b2 x1 w).bind fun v4 =>
  if v4 = none then
  some ((-1 : Int32), w)
  else
  if x2 < 0 then
  some ((-1 : Int32), w)
  else
  if x2 ≤ (9 : Int32) then
  (kgP w 11 (some x0) 9).bind fun v5 =>
  (kgP w 11 (some x0) 0).bind fun v6 =>
  (kRc w 5 v5).bind fun b7 =>
  (fX5_learnAll b7 v6 w).bind fun w8 =>
  (kgP w8 11 (some x0) 9).bind fun v10 =>
  (kgP w8 11 (some x0) 10).bind fun v11 =>
  (kRc w8 5 v10).bind fun b12 =>
  (fX5_look b12 v11 v4 x2 w8).bind fun w13 =>
  (kgP w13 11 (some x0) 9).bind fun v15 =>
  (kgI w13 5 v15 6).bind fun v16 =>
  some (v16, w13)
  else
  some ((-1 : Int32), w)

set_option maxHeartbeats 4000000 in
set_option maxRecDepth 100000 in
theorem rX11_tree (l : Launch) (D : va_G) (aC : Nat → ClassId) {x0 : Nat} {x1 : Int32} {x2 : Int32} {w : kW} {wR : kW} {oR : Int32} (h : fX11_tree x0 x1 x2 w = some (oR, wR)) : kC l D aC yX11_tree cX11_tree 4 (some .int) 7 154 [.ref x0, .int x1, .int x2] w (some (.int oR)) wR 0 0 := by
  refine kOf (own := RX11) (by decide) rfl (Nat.le_of_ble_eq_true rfl) ?_
  intro p e s m below meth c ls F hml hr hlocks hnm hX hZ hl
  obtain ⟨hx, hb, hts, hown, hK⟩ := id F
  have hl : lv_has ls 4 [(0, .ref x0), (1, .int x1), (2, .int x2)] := hl
  have hf := h
  rw [fX11_tree] at hf
  refine lv_aload_n hx hb (kd dtX11_tree_0 0 rfl) rfl (lv_at hl 0 rfl) ?_
  obtain ⟨v1, hv1, hf⟩ := kbind hf
  refine kgetP hv1 F hX hinX11 rfl rfl rfl (by decide) (by decide) wfX11_10 (kd dtX11_tree_0 1 rfl) ?_
  refine lv_iload_n hx hb (kd dtX11_tree_0 2 rfl) rfl (lv_at hl 1 rfl) ?_
  obtain ⟨b2, hb2, hf⟩ := kbind hf
  obtain ⟨hrb2, hkb2⟩ := kRc_s hb2
  obtain ⟨v4, h3, hf⟩ := kbind hf
  refine kcallV (n := 1) [.int x1] [] [va_rf v4] (rX8_lineAt l D aC h3) hrb2 hkb2 F hml hX hZ hl.1 mwX8_lineAt wmX11_128 rfl (by decide) (by decide +kernel) ⟨(by decide), (by decide)⟩ rfl rfl rfl (Nat.le_of_ble_eq_true rfl) (kd dtX11_tree_0 3 rfl) ⟨Nat.zero_le _, Nat.zero_le _⟩ (fun H locs hX => ?_)
  refine kastore_n (lv' := [(3, va_rf v4), (0, .ref x0), (1, .int x1), (2, .int x2)]) hx hb (kd dtX11_tree_0 4 rfl) rfl hl (by decide) rfl (fun ls hl => ?_)
  refine kaload_n hx hb (kd dtX11_tree_0 5 rfl) rfl (lv_at hl 0 rfl) ?_
  refine kifnull (tgt := 23) hx hb (kd dtX11_tree_0 6 rfl) (by decide) (fun hc => ?_) (fun hc => ?_)
  · have hf := kif_pos hc hf
    refine lv_iconst (v := (-1 : Int32)) hx hb (kd dtX11_tree_0 12 rfl) (by decide) ?_
    obtain ⟨rfl, rfl⟩ := Prod.mk.inj (Option.some.inj hf)
    exact kiret F hX hr hlocks rfl (kd dtX11_tree_0 13 rfl)
  · have hf := kif_neg hc hf
    refine lv_iload_n hx hb (kd dtX11_tree_0 7 rfl) rfl (lv_at hl 3 rfl) ?_
    refine lv_if_lt (tgt := 23) hx hb (kd dtX11_tree_0 8 rfl) (by decide) (fun hc => ?_) (fun hc => ?_)
    · have hf := kif_pos hc hf
      refine lv_iconst (v := (-1 : Int32)) hx hb (kd dtX11_tree_0 12 rfl) (by decide) ?_
      obtain ⟨rfl, rfl⟩ := Prod.mk.inj (Option.some.inj hf)
      exact kiret F hX hr hlocks rfl (kd dtX11_tree_0 13 rfl)
    · have hf := kif_neg hc hf
      refine lv_iload_n hx hb (kd dtX11_tree_0 9 rfl) rfl (lv_at hl 3 rfl) ?_
      refine lv_bipush (v := (9 : Int32)) hx hb (kd dtX11_tree_0 10 rfl) (by decide) ?_
      refine lv_icmp_le (tgt := 25) hx hb (kd dtX11_tree_0 11 rfl) (by decide) (fun hc => ?_) (fun hc => ?_)
      · have hf := kif_pos hc hf
        refine lv_aload_n hx hb (kd dtX11_tree_0 14 rfl) rfl (lv_at hl 1 rfl) ?_
        obtain ⟨v5, hv5, hf⟩ := kbind hf
        refine kgetP hv5 F hX hinX11 rfl rfl rfl (by decide) (by decide) wfX11_67 (kd dtX11_tree_0 15 rfl) ?_
        refine lv_aload_n hx hb (kd dtX11_tree_0 16 rfl) rfl (lv_at hl 1 rfl) ?_
        obtain ⟨v6, hv6, hf⟩ := kbind hf
        refine kgetP hv6 F hX hinX11 rfl rfl rfl (by decide) (by decide) wfX11_10 (kd dtX11_tree_0 17 rfl) ?_
        obtain ⟨b7, hb7, hf⟩ := kbind hf
        obtain ⟨hrb7, hkb7⟩ := kRc_s hb7
        obtain ⟨w8, h9, hf⟩ := kbind hf
        refine kcallV (n := 1) [va_rf v6] [] [] (rX5_learnAll l D aC h9) hrb7 hkb7 F hml hX hZ hl.1 mwX5_learnAll wmX11_243 rfl (by decide) (by decide +kernel) ⟨(by decide), (by decide)⟩ rfl rfl rfl (Nat.le_of_ble_eq_true rfl) (kd dtX11_tree_0 18 rfl) ⟨Nat.zero_le _, Nat.zero_le _⟩ (fun H locs hX => ?_)
        refine lv_aload_n hx hb (kd dtX11_tree_0 19 rfl) rfl (lv_at hl 1 rfl) ?_
        obtain ⟨v10, hv10, hf⟩ := kbind hf
        refine kgetP hv10 F hX hinX11 rfl rfl rfl (by decide) (by decide) wfX11_67 (kd dtX11_tree_0 20 rfl) ?_
        refine lv_aload_n hx hb (kd dtX11_tree_0 21 rfl) rfl (lv_at hl 1 rfl) ?_
        obtain ⟨v11, hv11, hf⟩ := kbind hf
        refine kgetP hv11 F hX hinX11 rfl rfl rfl (by decide) (by decide) wfX11_76 (kd dtX11_tree_0 22 rfl) ?_
        refine kaload_n hx hb (kd dtX11_tree_0 23 rfl) rfl (lv_at hl 0 rfl) ?_
        refine lv_iload_n hx hb (kd dtX11_tree_0 24 rfl) rfl (lv_at hl 3 rfl) ?_
        obtain ⟨b12, hb12, hf⟩ := kbind hf
        obtain ⟨hrb12, hkb12⟩ := kRc_s hb12
        obtain ⟨w13, h14, hf⟩ := kbind hf
        refine kcallV (n := 3) [va_rf v11, va_rf v4, .int x2] [] [] (rX5_look l D aC h14) hrb12 hkb12 F hml hX hZ hl.1 mwX5_look wmX11_247 rfl (by decide) (by decide +kernel) ⟨(by decide), (by decide)⟩ rfl rfl rfl (Nat.le_of_ble_eq_true rfl) (kd dtX11_tree_0 25 rfl) ⟨Nat.zero_le _, Nat.zero_le _⟩ (fun H locs hX => ?_)
        refine lv_aload_n hx hb (kd dtX11_tree_0 26 rfl) rfl (lv_at hl 1 rfl) ?_
        obtain ⟨v15, hv15, hf⟩ := kbind hf
        refine kgetP hv15 F hX hinX11 rfl rfl rfl (by decide) (by decide) wfX11_67 (kd dtX11_tree_0 27 rfl) ?_
        obtain ⟨v16, hv16, hf⟩ := kbind hf
        refine kgetIN hv16 F hX hinX5 rfl rfl rfl (by decide) (by decide) hZ wfX11_231 (kd dtX11_tree_0 28 rfl) ?_
        obtain ⟨rfl, rfl⟩ := Prod.mk.inj (Option.some.inj hf)
        exact kiret F hX hr hlocks rfl (kd dtX11_tree_0 29 rfl)
      · have hf := kif_neg hc hf
        refine lv_iconst (v := (-1 : Int32)) hx hb (kd dtX11_tree_0 12 rfl) (by decide) ?_
        obtain ⟨rfl, rfl⟩ := Prod.mk.inj (Option.some.inj hf)
        exact kiret F hX hr hlocks rfl (kd dtX11_tree_0 13 rfl)
theorem wmX11_251 : Cond.methodLink RX11 251 yX7_heightOf ∈ kT := kTm 948 (by decide +kernel) rfl
theorem mwX7_heightOf : kMV RX7 yX7_heightOf cX7_heightOf 6 (some .int) := ⟨kTm 951 (by decide +kernel) rfl, kTm 102 (by decide +kernel) rfl, kTm 949 (by decide +kernel) rfl, kTm 950 (by decide +kernel) rfl⟩
def lX11_height_0 : List (Nat × Instr × Nat) := [(0, .aload_n 0, 1), (1, .getfield 10, 3), (4, .iload_n 1, 1), (5, .invokevirtual 128, 3), (8, .ifnonnull 7, 3), (11, .iconst (-1), 1), (12, .goto 15, 3), (15, .aload_n 0, 1), (16, .getfield 60, 3), (19, .aload_n 0, 1), (20, .getfield 10, 3), (23, .iload_n 1, 1), (24, .invokevirtual 251, 3), (27, .ireturn, 1)]
theorem dtX11_height_0 : kDec cX11_height lX11_height_0 = true := by decide +kernel
noncomputable def fX11_height (x0 : Nat) (x1 : Int32) (w : kW) : Option (Int32 × kW) :=
  (kgP w 11 (some x0) 0).bind fun v1 =>
  (kRc w 8 v1).bind fun b2 =>
  (fX8_lineAt b2 x1 w).bind fun v4 =>
  if v4 = none then
  some ((-1 : Int32), w)
  else
  (kgP w 11 (some x0) 8).bind fun v5 =>
  (kgP w 11 (some x0) 0).bind fun v6 =>
  (kRc w 7 v5).bind fun b7 =>
  kb2 (fX7_heightOf b7 v6 x1 w) fun v10 w8 =>
  some (v10, w8)

set_option maxHeartbeats 4000000 in
set_option maxRecDepth 100000 in
theorem rX11_height (l : Launch) (D : va_G) (aC : Nat → ClassId) {x0 : Nat} {x1 : Int32} {w : kW} {wR : kW} {oR : Int32} (h : fX11_height x0 x1 w = some (oR, wR)) : kC l D aC yX11_height cX11_height 2 (some .int) 7 164 [.ref x0, .int x1] w (some (.int oR)) wR 0 0 := by
  refine kOf (own := RX11) (by decide) rfl (Nat.le_of_ble_eq_true rfl) ?_
  intro p e s m below meth c ls F hml hr hlocks hnm hX hZ hl
  obtain ⟨hx, hb, hts, hown, hK⟩ := id F
  have hl : lv_has ls 2 [(0, .ref x0), (1, .int x1)] := hl
  have hf := h
  rw [fX11_height] at hf
  refine lv_aload_n hx hb (kd dtX11_height_0 0 rfl) rfl (lv_at hl 0 rfl) ?_
  obtain ⟨v1, hv1, hf⟩ := kbind hf
  refine kgetP hv1 F hX hinX11 rfl rfl rfl (by decide) (by decide) wfX11_10 (kd dtX11_height_0 1 rfl) ?_
  refine lv_iload_n hx hb (kd dtX11_height_0 2 rfl) rfl (lv_at hl 1 rfl) ?_
  obtain ⟨b2, hb2, hf⟩ := kbind hf
  obtain ⟨hrb2, hkb2⟩ := kRc_s hb2
  obtain ⟨v4, h3, hf⟩ := kbind hf
  refine kcallV (n := 1) [.int x1] [] [va_rf v4] (rX8_lineAt l D aC h3) hrb2 hkb2 F hml hX hZ hl.1 mwX8_lineAt wmX11_128 rfl (by decide) (by decide +kernel) ⟨(by decide), (by decide)⟩ rfl rfl rfl (Nat.le_of_ble_eq_true rfl) (kd dtX11_height_0 3 rfl) ⟨Nat.zero_le _, Nat.zero_le _⟩ (fun H locs hX => ?_)
  refine kifnonnull (tgt := 15) hx hb (kd dtX11_height_0 4 rfl) (by decide) (fun hc => ?_) (fun hc => ?_)
  · have hf := kif_pos hc hf
    refine lv_iconst (v := (-1 : Int32)) hx hb (kd dtX11_height_0 5 rfl) (by decide) ?_
    refine lv_goto (tgt := 27) hx hb (kd dtX11_height_0 6 rfl) (by decide) ?_
    obtain ⟨rfl, rfl⟩ := Prod.mk.inj (Option.some.inj hf)
    exact kiret F hX hr hlocks rfl (kd dtX11_height_0 13 rfl)
  · have hf := kif_neg hc hf
    refine lv_aload_n hx hb (kd dtX11_height_0 7 rfl) rfl (lv_at hl 0 rfl) ?_
    obtain ⟨v5, hv5, hf⟩ := kbind hf
    refine kgetP hv5 F hX hinX11 rfl rfl rfl (by decide) (by decide) wfX11_60 (kd dtX11_height_0 8 rfl) ?_
    refine lv_aload_n hx hb (kd dtX11_height_0 9 rfl) rfl (lv_at hl 0 rfl) ?_
    obtain ⟨v6, hv6, hf⟩ := kbind hf
    refine kgetP hv6 F hX hinX11 rfl rfl rfl (by decide) (by decide) wfX11_10 (kd dtX11_height_0 10 rfl) ?_
    refine lv_iload_n hx hb (kd dtX11_height_0 11 rfl) rfl (lv_at hl 1 rfl) ?_
    obtain ⟨b7, hb7, hf⟩ := kbind hf
    obtain ⟨hrb7, hkb7⟩ := kRc_s hb7
    obtain ⟨v10, w8, h9, hf⟩ := kbind2 hf
    refine kcallV (n := 2) [va_rf v6, .int x1] [] [.int v10] (rX7_heightOf l D aC h9) hrb7 hkb7 F hml hX hZ hl.1 mwX7_heightOf wmX11_251 rfl (by decide) (by decide +kernel) ⟨(by decide), (by decide)⟩ rfl rfl rfl (Nat.le_of_ble_eq_true rfl) (kd dtX11_height_0 12 rfl) ⟨Nat.zero_le _, Nat.zero_le _⟩ (fun H locs hX => ?_)
    obtain ⟨rfl, rfl⟩ := Prod.mk.inj (Option.some.inj hf)
    exact kiret F hX hr hlocks rfl (kd dtX11_height_0 13 rfl)
def lX11_never_0 : List (Nat × Instr × Nat) := [(0, .lconst 0, 1), (1, .lstore_n 1, 1), (2, .iconst 0, 1), (3, .istore_n 3, 1), (4, .iload_n 3, 1), (5, .aload_n 0, 1), (6, .getfield 10, 3), (9, .getfield 117, 3), (12, .if_icmp .ge 49, 3), (15, .aload_n 0, 1), (16, .getfield 10, 3), (19, .iload_n 3, 1), (20, .invokevirtual 128, 3), (23, .astore 4, 2), (25, .aload 4, 2), (27, .ifnull 28, 3), (30, .aload_n 0, 1), (31, .getfield 10, 3), (34, .iload_n 3, 1), (35, .invokevirtual 149, 3), (38, .ifCond .ne 17, 3), (41, .aload 4, 2), (43, .invokevirtual 145, 3), (46, .ifCond .ne 9, 3), (49, .lload_n 1, 1), (50, .lconst 1, 1), (51, .iload_n 3, 1), (52, .lshl, 1), (53, .lor, 1), (54, .lstore_n 1, 1), (55, .iinc 3 1, 3), (58, .goto (-54), 3), (61, .lload_n 1, 1), (62, .lreturn, 1)]
theorem dtX11_never_0 : kDec cX11_never lX11_never_0 = true := by decide +kernel
noncomputable def fX11_never_L4 (x0 : Nat) (w : kW) : Nat → (Int64 → Int32 → Option Int64) → Int64 → Int32 → Option Int64
  | 0, _, _, _ => none
  | n + 1, k, x1, x3 =>
  (kgP w 11 (some x0) 0).bind fun v1 =>
  (kgI w 8 v1 7).bind fun v2 =>
  if v2 ≤ x3 then
  k x1 x3
  else
  (kgP w 11 (some x0) 0).bind fun v3 =>
  (kRc w 8 v3).bind fun b4 =>
  (fX8_lineAt b4 x3 w).bind fun v6 =>
  if v6 = none then
  fX11_never_L4 x0 w n k x1 (x3 + (1 : Int32))
  else
  (kgP w 11 (some x0) 0).bind fun v7 =>
  (kRc w 8 v7).bind fun b8 =>
  (fX8_howIs b8 x3 w).bind fun v10 =>
  if v10 = 0 then
  (kRc w 1 v6).bind fun b11 =>
  (fX1_isTrue b11 w).bind fun v13 =>
  if v13 = 0 then
  fX11_never_L4 x0 w n k (x1 ||| ((1 : Int64) <<< (x3.toInt64 &&& 63))) (x3 + (1 : Int32))
  else
  fX11_never_L4 x0 w n k x1 (x3 + (1 : Int32))
  else
  fX11_never_L4 x0 w n k x1 (x3 + (1 : Int32))

noncomputable def fX11_never (x0 : Nat) (w : kW) : Option Int64 :=
  fX11_never_L4 x0 w kFU (fun y1_1 y3_2 => some y1_1) (0 : Int64) (0 : Int32)

set_option maxHeartbeats 4000000 in
set_option maxRecDepth 100000 in
theorem rX11_never (l : Launch) (D : va_G) (aC : Nat → ClassId) {x0 : Nat} {w : kW} {oR : Int64} (h : fX11_never x0 w = some oR) : kC l D aC yX11_never cX11_never 5 (some .long) 4 73 [.ref x0] w (some (.long oR)) w 0 0 := by
  refine kOf (own := RX11) (by decide) rfl (Nat.le_of_ble_eq_true rfl) ?_
  intro p e s m below meth c ls F hml hr hlocks hnm hX hZ hl
  obtain ⟨hx, hb, hts, hown, hK⟩ := id F
  have hl : lv_has ls 5 [(0, .ref x0)] := hl
  have hf := h
  rw [fX11_never] at hf
  refine lv_lconst (v := (0 : Int64)) hx hb (kd dtX11_never_0 0 rfl) (by decide) ?_
  refine lv_lstore_n (lv' := [(1, .long (0 : Int64)), (0, .ref x0)]) hx hb (kd dtX11_never_0 1 rfl) rfl hl (by decide) rfl (fun ls hl => ?_)
  refine lv_iconst (v := (0 : Int32)) hx hb (kd dtX11_never_0 2 rfl) (by decide) ?_
  refine lv_istore_n (lv' := [(3, .int (0 : Int32)), (1, .long (0 : Int64)), (0, .ref x0)]) hx hb (kd dtX11_never_0 3 rfl) rfl hl (by decide) rfl (fun ls hl => ?_)
  have hL4 : ∀ (n : Nat) (k : Int64 → Int32 → Option Int64), ∀ (z1_4 : Int64) (z3_4 : Int32) (H : Heap) (locs : List Loc) (ls : Array Slot), kX D aC w s.heap w H locs → lv_has ls 5 [(0, .ref x0), (1, .long z1_4), (3, .int z3_4)] → fX11_never_L4 x0 w n k z1_4 z3_4 = some oR → (∀ (z1_4 : Int64) (z3_4 : Int32) (H : Heap) (locs : List Loc) (ls : Array Slot), kX D aC w s.heap w H locs → lv_has ls 5 [(0, .ref x0), (1, .long z1_4), (3, .int z3_4)] → k z1_4 z3_4 = some oR → W p l e { frames := 4, cells := 0, slots := 0, locals := 73 } s m ([.ref x0] : List Value).toArray below meth c H locs 0 0 (MQ below (kQc D aC w (some (.long oR)) w) ([.ref x0] : List Value).toArray s 0 0 (kA w)) (F0 m 61 ls [])) → W p l e { frames := 4, cells := 0, slots := 0, locals := 73 } s m ([.ref x0] : List Value).toArray below meth c H locs 0 0 (MQ below (kQc D aC w (some (.long oR)) w) ([.ref x0] : List Value).toArray s 0 0 (kA w)) (F0 m 4 ls []) := by
    intro n k
    induction n with
    | zero =>
      intro z1_4 z3_4 H locs ls hX hl hf hk
      rw [fX11_never_L4] at hf
      cases hf
    | succ n ih =>
      intro z1_4 z3_4 H locs ls hX hl hf hk
      rw [fX11_never_L4] at hf
      refine lv_iload_n hx hb (kd dtX11_never_0 4 rfl) rfl (lv_at hl 2 rfl) ?_
      refine lv_aload_n hx hb (kd dtX11_never_0 5 rfl) rfl (lv_at hl 0 rfl) ?_
      obtain ⟨v3, hv3, hf⟩ := kbind hf
      refine kgetP hv3 F hX hinX11 rfl rfl rfl (by decide) (by decide) wfX11_10 (kd dtX11_never_0 6 rfl) ?_
      obtain ⟨v4, hv4, hf⟩ := kbind hf
      refine kgetIN hv4 F hX hinX8 rfl rfl rfl (by decide) (by decide) hZ wfX11_117 (kd dtX11_never_0 7 rfl) ?_
      refine lv_icmp_ge (tgt := 61) hx hb (kd dtX11_never_0 8 rfl) (by decide) (fun hc => ?_) (fun hc => ?_)
      · have hf := kif_pos hc hf
        exact hk z1_4 z3_4 _ _ _ hX hl hf
      · have hf := kif_neg hc hf
        refine lv_aload_n hx hb (kd dtX11_never_0 9 rfl) rfl (lv_at hl 0 rfl) ?_
        obtain ⟨v5, hv5, hf⟩ := kbind hf
        refine kgetP hv5 F hX hinX11 rfl rfl rfl (by decide) (by decide) wfX11_10 (kd dtX11_never_0 10 rfl) ?_
        refine lv_iload_n hx hb (kd dtX11_never_0 11 rfl) rfl (lv_at hl 2 rfl) ?_
        obtain ⟨b6, hb6, hf⟩ := kbind hf
        obtain ⟨hrb6, hkb6⟩ := kRc_s hb6
        obtain ⟨v8, h7, hf⟩ := kbind hf
        refine kcallV (n := 1) [.int z3_4] [] [va_rf v8] (rX8_lineAt l D aC h7) hrb6 hkb6 F hml hX hZ hl.1 mwX8_lineAt wmX11_128 rfl (by decide) (by decide +kernel) ⟨(by decide), (by decide)⟩ rfl rfl rfl (Nat.le_of_ble_eq_true rfl) (kd dtX11_never_0 12 rfl) ⟨Nat.zero_le _, Nat.zero_le _⟩ (fun H locs hX => ?_)
        refine kastore (lv' := [(4, va_rf v8), (0, .ref x0), (1, .long z1_4), (3, .int z3_4)]) hx hb (kd dtX11_never_0 13 rfl) hl (by decide) rfl (fun ls hl => ?_)
        refine kaload hx hb (kd dtX11_never_0 14 rfl) (lv_at hl 0 rfl) ?_
        refine kifnull (tgt := 55) hx hb (kd dtX11_never_0 15 rfl) (by decide) (fun hc => ?_) (fun hc => ?_)
        · have hf := kif_pos hc hf
          refine lv_iinc (v := z3_4 + (1 : Int32)) (lv' := [(3, .int (z3_4 + (1 : Int32))), (4, va_rf v8), (0, .ref x0), (1, .long z1_4)]) hx hb (kd dtX11_never_0 30 rfl) hl (k := 3) rfl (by rfl) (by decide) rfl (fun ls hl => ?_)
          refine lv_goto (tgt := 4) hx hb (kd dtX11_never_0 31 rfl) (by decide) ?_
          exact ih z1_4 (z3_4 + (1 : Int32)) _ _ _ hX (lv_sub hl [2, 3, 0] rfl) hf hk
        · have hf := kif_neg hc hf
          refine lv_aload_n hx hb (kd dtX11_never_0 16 rfl) rfl (lv_at hl 1 rfl) ?_
          obtain ⟨v9, hv9, hf⟩ := kbind hf
          refine kgetP hv9 F hX hinX11 rfl rfl rfl (by decide) (by decide) wfX11_10 (kd dtX11_never_0 17 rfl) ?_
          refine lv_iload_n hx hb (kd dtX11_never_0 18 rfl) rfl (lv_at hl 3 rfl) ?_
          obtain ⟨b10, hb10, hf⟩ := kbind hf
          obtain ⟨hrb10, hkb10⟩ := kRc_s hb10
          obtain ⟨v12, h11, hf⟩ := kbind hf
          refine kcallV (n := 1) [.int z3_4] [] [.int v12] (rX8_howIs l D aC h11) hrb10 hkb10 F hml hX hZ hl.1 mwX8_howIs wmX11_149 rfl (by decide) (by decide +kernel) ⟨(by decide), (by decide)⟩ rfl rfl rfl (Nat.le_of_ble_eq_true rfl) (kd dtX11_never_0 19 rfl) ⟨Nat.zero_le _, Nat.zero_le _⟩ (fun H locs hX => ?_)
          refine lv_if_ne (tgt := 55) hx hb (kd dtX11_never_0 20 rfl) (by decide) (fun hc => ?_) (fun hc => ?_)
          · have hf := kif_neg hc hf
            refine lv_iinc (v := z3_4 + (1 : Int32)) (lv' := [(3, .int (z3_4 + (1 : Int32))), (4, va_rf v8), (0, .ref x0), (1, .long z1_4)]) hx hb (kd dtX11_never_0 30 rfl) hl (k := 3) rfl (by rfl) (by decide) rfl (fun ls hl => ?_)
            refine lv_goto (tgt := 4) hx hb (kd dtX11_never_0 31 rfl) (by decide) ?_
            exact ih z1_4 (z3_4 + (1 : Int32)) _ _ _ hX (lv_sub hl [2, 3, 0] rfl) hf hk
          · have hf := kif_pos hc hf
            refine kaload hx hb (kd dtX11_never_0 21 rfl) (lv_at hl 0 rfl) ?_
            obtain ⟨b13, hb13, hf⟩ := kbind hf
            obtain ⟨hrb13, hkb13⟩ := kRc_s hb13
            obtain ⟨v15, h14, hf⟩ := kbind hf
            refine kcallV (n := 0) [] [] [.int v15] (rX1_isTrue l D aC h14) hrb13 hkb13 F hml hX hZ hl.1 mwX1_isTrue wmX11_145 rfl (by decide) (by decide +kernel) ⟨(by decide), (by decide)⟩ rfl rfl rfl (Nat.le_of_ble_eq_true rfl) (kd dtX11_never_0 22 rfl) ⟨Nat.zero_le _, Nat.zero_le _⟩ (fun H locs hX => ?_)
            refine lv_if_ne (tgt := 55) hx hb (kd dtX11_never_0 23 rfl) (by decide) (fun hc => ?_) (fun hc => ?_)
            · have hf := kif_neg hc hf
              refine lv_iinc (v := z3_4 + (1 : Int32)) (lv' := [(3, .int (z3_4 + (1 : Int32))), (4, va_rf v8), (0, .ref x0), (1, .long z1_4)]) hx hb (kd dtX11_never_0 30 rfl) hl (k := 3) rfl (by rfl) (by decide) rfl (fun ls hl => ?_)
              refine lv_goto (tgt := 4) hx hb (kd dtX11_never_0 31 rfl) (by decide) ?_
              exact ih z1_4 (z3_4 + (1 : Int32)) _ _ _ hX (lv_sub hl [2, 3, 0] rfl) hf hk
            · have hf := kif_pos hc hf
              refine lv_lload_n hx hb (kd dtX11_never_0 24 rfl) rfl (lv_at hl 2 rfl) ?_
              refine lv_lconst (v := (1 : Int64)) hx hb (kd dtX11_never_0 25 rfl) (by decide) ?_
              refine lv_iload_n hx hb (kd dtX11_never_0 26 rfl) rfl (lv_at hl 3 rfl) ?_
              refine lv_lshl (v := (1 : Int64) <<< (z3_4.toInt64 &&& 63)) hx hb (kd dtX11_never_0 27 rfl) rfl ?_
              refine lv_lor hx hb (kd dtX11_never_0 28 rfl) ?_
              refine lv_lstore_n (lv' := [(1, .long (z1_4 ||| ((1 : Int64) <<< (z3_4.toInt64 &&& 63)))), (4, va_rf v8), (0, .ref x0), (3, .int z3_4)]) hx hb (kd dtX11_never_0 29 rfl) rfl hl (by decide) rfl (fun ls hl => ?_)
              refine lv_iinc (v := z3_4 + (1 : Int32)) (lv' := [(3, .int (z3_4 + (1 : Int32))), (1, .long (z1_4 ||| ((1 : Int64) <<< (z3_4.toInt64 &&& 63)))), (4, va_rf v8), (0, .ref x0)]) hx hb (kd dtX11_never_0 30 rfl) hl (k := 3) rfl (by rfl) (by decide) rfl (fun ls hl => ?_)
              refine lv_goto (tgt := 4) hx hb (kd dtX11_never_0 31 rfl) (by decide) ?_
              exact ih (z1_4 ||| ((1 : Int64) <<< (z3_4.toInt64 &&& 63))) (z3_4 + (1 : Int32)) _ _ _ hX (lv_sub hl [3, 1, 0] rfl) hf hk
  refine hL4 kFU _ (0 : Int64) (0 : Int32) _ _ _ hX (lv_sub hl [2, 1, 0] rfl) hf ?_
  intro y1_1 y3_2 H locs ls hX hl hf
  refine lv_lload_n hx hb (kd dtX11_never_0 32 rfl) rfl (lv_at hl 1 rfl) ?_
  obtain rfl := Option.some.inj hf
  exact klret F hX hr hlocks rfl (kd dtX11_never_0 33 rfl)
theorem wmX11_328 : Cond.methodLink RX11 328 yX6_elementAt ∈ kT := kTm 975 (by decide +kernel) rfl
theorem mwX6_elementAt : kMV RX6 yX6_elementAt cX6_elementAt 2 (some .int) := ⟨kTm 978 (by decide +kernel) rfl, kTm 105 (by decide +kernel) rfl, kTm 976 (by decide +kernel) rfl, kTm 977 (by decide +kernel) rfl⟩
def lX11_problemsRefusal_0 : List (Nat × Instr × Nat) := [(0, .aload_n 1, 1), (1, .invokevirtual 103, 3), (4, .istore_n 2, 1), (5, .iload_n 2, 1), (6, .ifCond .eq 5, 3), (9, .iload_n 2, 1), (10, .ireturn, 1), (11, .aload_n 1, 1), (12, .getfield 110, 3), (15, .iconst 1, 1), (16, .if_icmp .lt 11, 3), (19, .aload_n 1, 1), (20, .getfield 110, 3), (23, .iconst 3, 1), (24, .if_icmp .le 6, 3), (27, .bipush (-13), 2), (29, .ireturn, 1), (30, .iconst 0, 1), (31, .istore_n 3, 1), (32, .iload_n 3, 1), (33, .aload_n 1, 1), (34, .getfield 110, 3), (37, .if_icmp .ge 72, 3), (40, .aload_n 1, 1), (41, .iload_n 3, 1), (42, .invokevirtual 328, 3), (45, .istore 4, 2), (47, .aload_n 0, 1), (48, .getfield 10, 3), (51, .iload 4, 2), (53, .invokevirtual 128, 3), (56, .ifnull 15, 3), (59, .aload_n 0, 1), (60, .getfield 10, 3), (63, .iload 4, 2), (65, .invokevirtual 149, 3), (68, .ifCond .eq 6, 3), (71, .bipush (-13), 2), (73, .ireturn, 1), (74, .iconst 0, 1), (75, .istore 5, 2), (77, .iload 5, 2), (79, .iload_n 3, 1), (80, .if_icmp .ge 23, 3), (83, .aload_n 1, 1), (84, .iload 5, 2), (86, .invokevirtual 328, 3), (89, .iload 4, 2), (91, .if_icmp .ne 6, 3), (94, .bipush (-13), 2), (96, .ireturn, 1), (97, .iinc 5 1, 3), (100, .goto (-23), 3), (103, .iinc 3 1, 3), (106, .goto (-74), 3), (109, .iconst 0, 1), (110, .ireturn, 1)]
theorem dtX11_problemsRefusal_0 : kDec cX11_problemsRefusal lX11_problemsRefusal_0 = true := by decide +kernel
noncomputable def fX11_problemsRefusal_L77 (x0 : Nat) (x1 : Option Nat) (x2 : Int32) (x3 : Int32) (x4 : Int32) (w : kW) : Nat → (Int32 → Option Int32) → Int32 → Option Int32
  | 0, _, _ => none
  | n + 1, k, x5 =>
  if x3 ≤ x5 then
  k x5
  else
  (kRc w 6 x1).bind fun b1 =>
  (fX6_elementAt b1 x5 w).bind fun v3 =>
  if v3 = x4 then
  some (-13 : Int32)
  else
  fX11_problemsRefusal_L77 x0 x1 x2 x3 x4 w n k (x5 + (1 : Int32))

noncomputable def fX11_problemsRefusal_L32 (x0 : Nat) (x1 : Option Nat) (x2 : Int32) (w : kW) : Nat → (Int32 → Option Int32) → Int32 → Option Int32
  | 0, _, _ => none
  | n + 1, k, x3 =>
  (kgI w 6 x1 2).bind fun v1 =>
  if v1 ≤ x3 then
  k x3
  else
  (kRc w 6 x1).bind fun b2 =>
  (fX6_elementAt b2 x3 w).bind fun v4 =>
  (kgP w 11 (some x0) 0).bind fun v5 =>
  (kRc w 8 v5).bind fun b6 =>
  (fX8_lineAt b6 v4 w).bind fun v8 =>
  if v8 = none then
  some (-13 : Int32)
  else
  (kgP w 11 (some x0) 0).bind fun v9 =>
  (kRc w 8 v9).bind fun b10 =>
  (fX8_howIs b10 v4 w).bind fun v12 =>
  if v12 = 0 then
  fX11_problemsRefusal_L77 x0 x1 x2 x3 v4 w kFU (fun y5_13 => fX11_problemsRefusal_L32 x0 x1 x2 w n k (x3 + (1 : Int32))) (0 : Int32)
  else
  some (-13 : Int32)

noncomputable def fX11_problemsRefusal (x0 : Nat) (x1 : Option Nat) (w : kW) : Option Int32 :=
  (kRc w 6 x1).bind fun b1 =>
  (fX6_bytesRefusal b1 w).bind fun v3 =>
  if v3 = 0 then
  (kgI w 6 x1 2).bind fun v4 =>
  if v4 < (1 : Int32) then
  some (-13 : Int32)
  else
  (kgI w 6 x1 2).bind fun v5 =>
  if v5 ≤ (3 : Int32) then
  fX11_problemsRefusal_L32 x0 x1 v3 w kFU (fun y3_6 => some (0 : Int32)) (0 : Int32)
  else
  some (-13 : Int32)
  else
  some v3

set_option maxHeartbeats 4000000 in
set_option maxRecDepth 100000 in
theorem rX11_problemsRefusal (l : Launch) (D : va_G) (aC : Nat → ClassId) {x0 : Nat} {x1 : Option Nat} {w : kW} {oR : Int32} (h : fX11_problemsRefusal x0 x1 w = some oR) : kC l D aC yX11_problemsRefusal cX11_problemsRefusal 6 (some .int) 3 54 [.ref x0, va_rf x1] w (some (.int oR)) w 0 0 := by
  refine kOf (own := RX11) (by decide) rfl (by simp [lg_sl, kcat_rf, kcat_i, kcat_r, kcat_l]) ?_
  intro p e s m below meth c ls F hml hr hlocks hnm hX hZ hl
  obtain ⟨hx, hb, hts, hown, hK⟩ := id F
  have hl : lv_has ls 6 [(0, .ref x0), (1, va_rf x1)] := by simpa [lv_args, kcat_rf, kcat_i, kcat_r, kcat_l] using hl
  have hf := h
  rw [fX11_problemsRefusal] at hf
  refine kaload_n hx hb (kd dtX11_problemsRefusal_0 0 rfl) rfl (lv_at hl 1 rfl) ?_
  obtain ⟨b1, hb1, hf⟩ := kbind hf
  obtain ⟨hrb1, hkb1⟩ := kRc_s hb1
  obtain ⟨v3, h2, hf⟩ := kbind hf
  refine kcallV (n := 0) [] [] [.int v3] (rX6_bytesRefusal l D aC h2) hrb1 hkb1 F hml hX hZ hl.1 mwX6_bytesRefusal wmX11_103 rfl (by decide) (by decide +kernel) ⟨(by decide), (by decide)⟩ rfl rfl rfl (Nat.le_of_ble_eq_true rfl) (kd dtX11_problemsRefusal_0 1 rfl) ⟨Nat.zero_le _, Nat.zero_le _⟩ (fun H locs hX => ?_)
  refine lv_istore_n (i := 2) (lv' := [(2, .int v3), (0, .ref x0), (1, va_rf x1)]) hx hb (kd dtX11_problemsRefusal_0 2 rfl) rfl hl (by decide) (by simp [kcat_rf, kcat_i, kcat_r, kcat_l]) (fun ls hl => ?_)
  refine lv_iload_n hx hb (kd dtX11_problemsRefusal_0 3 rfl) rfl (lv_at hl 0 rfl) ?_
  refine lv_if_eq (tgt := 11) hx hb (kd dtX11_problemsRefusal_0 4 rfl) (by decide) (fun hc => ?_) (fun hc => ?_)
  · have hf := kif_pos hc hf
    refine kaload_n hx hb (kd dtX11_problemsRefusal_0 7 rfl) rfl (lv_at hl 2 rfl) ?_
    obtain ⟨v4, hv4, hf⟩ := kbind hf
    refine kgetIN hv4 F hX hinX6 rfl rfl rfl (by decide) (by decide) hZ wfX11_110 (kd dtX11_problemsRefusal_0 8 rfl) ?_
    refine lv_iconst (v := (1 : Int32)) hx hb (kd dtX11_problemsRefusal_0 9 rfl) (by decide) ?_
    refine lv_icmp_lt (tgt := 27) hx hb (kd dtX11_problemsRefusal_0 10 rfl) (by decide) (fun hc => ?_) (fun hc => ?_)
    · have hf := kif_pos hc hf
      refine lv_bipush (v := (-13 : Int32)) hx hb (kd dtX11_problemsRefusal_0 15 rfl) (by decide) ?_
      obtain rfl := Option.some.inj hf
      exact kiret F hX hr hlocks rfl (kd dtX11_problemsRefusal_0 16 rfl)
    · have hf := kif_neg hc hf
      refine kaload_n hx hb (kd dtX11_problemsRefusal_0 11 rfl) rfl (lv_at hl 2 rfl) ?_
      obtain ⟨v5, hv5, hf⟩ := kbind hf
      refine kgetIN hv5 F hX hinX6 rfl rfl rfl (by decide) (by decide) hZ wfX11_110 (kd dtX11_problemsRefusal_0 12 rfl) ?_
      refine lv_iconst (v := (3 : Int32)) hx hb (kd dtX11_problemsRefusal_0 13 rfl) (by decide) ?_
      refine lv_icmp_le (tgt := 30) hx hb (kd dtX11_problemsRefusal_0 14 rfl) (by decide) (fun hc => ?_) (fun hc => ?_)
      · have hf := kif_pos hc hf
        refine lv_iconst (v := (0 : Int32)) hx hb (kd dtX11_problemsRefusal_0 17 rfl) (by decide) ?_
        refine lv_istore_n (lv' := [(3, .int (0 : Int32)), (2, .int v3), (0, .ref x0), (1, va_rf x1)]) hx hb (kd dtX11_problemsRefusal_0 18 rfl) rfl hl (by decide) rfl (fun ls hl => ?_)
        have hL32 : ∀ (n : Nat) (k : Int32 → Option Int32), ∀ (z3_32 : Int32) (H : Heap) (locs : List Loc) (ls : Array Slot), kX D aC w s.heap w H locs → lv_has ls 6 [(0, .ref x0), (1, va_rf x1), (2, .int v3), (3, .int z3_32)] → fX11_problemsRefusal_L32 x0 x1 v3 w n k z3_32 = some oR → (∀ (z3_32 : Int32) (H : Heap) (locs : List Loc) (ls : Array Slot), kX D aC w s.heap w H locs → lv_has ls 6 [(0, .ref x0), (1, va_rf x1), (2, .int v3), (3, .int z3_32)] → k z3_32 = some oR → W p l e { frames := 3, cells := 0, slots := 0, locals := 54 } s m ([.ref x0, va_rf x1] : List Value).toArray below meth c H locs 0 0 (MQ below (kQc D aC w (some (.int oR)) w) ([.ref x0, va_rf x1] : List Value).toArray s 0 0 (kA w)) (F0 m 109 ls [])) → W p l e { frames := 3, cells := 0, slots := 0, locals := 54 } s m ([.ref x0, va_rf x1] : List Value).toArray below meth c H locs 0 0 (MQ below (kQc D aC w (some (.int oR)) w) ([.ref x0, va_rf x1] : List Value).toArray s 0 0 (kA w)) (F0 m 32 ls []) := by
          intro n k
          induction n with
          | zero =>
            intro z3_32 H locs ls hX hl hf hk
            rw [fX11_problemsRefusal_L32] at hf
            cases hf
          | succ n ih =>
            intro z3_32 H locs ls hX hl hf hk
            rw [fX11_problemsRefusal_L32] at hf
            refine lv_iload_n hx hb (kd dtX11_problemsRefusal_0 19 rfl) rfl (lv_at hl 3 rfl) ?_
            refine kaload_n hx hb (kd dtX11_problemsRefusal_0 20 rfl) rfl (lv_at hl 1 rfl) ?_
            obtain ⟨v7, hv7, hf⟩ := kbind hf
            refine kgetIN hv7 F hX hinX6 rfl rfl rfl (by decide) (by decide) hZ wfX11_110 (kd dtX11_problemsRefusal_0 21 rfl) ?_
            refine lv_icmp_ge (tgt := 109) hx hb (kd dtX11_problemsRefusal_0 22 rfl) (by decide) (fun hc => ?_) (fun hc => ?_)
            · have hf := kif_pos hc hf
              exact hk z3_32 _ _ _ hX hl hf
            · have hf := kif_neg hc hf
              refine kaload_n hx hb (kd dtX11_problemsRefusal_0 23 rfl) rfl (lv_at hl 1 rfl) ?_
              refine lv_iload_n hx hb (kd dtX11_problemsRefusal_0 24 rfl) rfl (lv_at hl 3 rfl) ?_
              obtain ⟨b8, hb8, hf⟩ := kbind hf
              obtain ⟨hrb8, hkb8⟩ := kRc_s hb8
              obtain ⟨v10, h9, hf⟩ := kbind hf
              refine kcallV (n := 1) [.int z3_32] [] [.int v10] (rX6_elementAt l D aC h9) hrb8 hkb8 F hml hX hZ hl.1 mwX6_elementAt wmX11_328 rfl (by decide) (by decide +kernel) ⟨(by decide), (by decide)⟩ rfl rfl rfl (Nat.le_of_ble_eq_true rfl) (kd dtX11_problemsRefusal_0 25 rfl) ⟨Nat.zero_le _, Nat.zero_le _⟩ (fun H locs hX => ?_)
              refine lv_istore (lv' := [(4, .int v10), (0, .ref x0), (1, va_rf x1), (2, .int v3), (3, .int z3_32)]) hx hb (kd dtX11_problemsRefusal_0 26 rfl) hl (by decide) rfl (fun ls hl => ?_)
              refine lv_aload_n hx hb (kd dtX11_problemsRefusal_0 27 rfl) rfl (lv_at hl 1 rfl) ?_
              obtain ⟨v11, hv11, hf⟩ := kbind hf
              refine kgetP hv11 F hX hinX11 rfl rfl rfl (by decide) (by decide) wfX11_10 (kd dtX11_problemsRefusal_0 28 rfl) ?_
              refine lv_iload hx hb (kd dtX11_problemsRefusal_0 29 rfl) (lv_at hl 0 rfl) ?_
              obtain ⟨b12, hb12, hf⟩ := kbind hf
              obtain ⟨hrb12, hkb12⟩ := kRc_s hb12
              obtain ⟨v14, h13, hf⟩ := kbind hf
              refine kcallV (n := 1) [.int v10] [] [va_rf v14] (rX8_lineAt l D aC h13) hrb12 hkb12 F hml hX hZ hl.1 mwX8_lineAt wmX11_128 rfl (by decide) (by decide +kernel) ⟨(by decide), (by decide)⟩ rfl rfl rfl (Nat.le_of_ble_eq_true rfl) (kd dtX11_problemsRefusal_0 30 rfl) ⟨Nat.zero_le _, Nat.zero_le _⟩ (fun H locs hX => ?_)
              refine kifnull (tgt := 71) hx hb (kd dtX11_problemsRefusal_0 31 rfl) (by decide) (fun hc => ?_) (fun hc => ?_)
              · have hf := kif_pos hc hf
                refine lv_bipush (v := (-13 : Int32)) hx hb (kd dtX11_problemsRefusal_0 37 rfl) (by decide) ?_
                obtain rfl := Option.some.inj hf
                exact kiret F hX hr hlocks rfl (kd dtX11_problemsRefusal_0 38 rfl)
              · have hf := kif_neg hc hf
                refine lv_aload_n hx hb (kd dtX11_problemsRefusal_0 32 rfl) rfl (lv_at hl 1 rfl) ?_
                obtain ⟨v15, hv15, hf⟩ := kbind hf
                refine kgetP hv15 F hX hinX11 rfl rfl rfl (by decide) (by decide) wfX11_10 (kd dtX11_problemsRefusal_0 33 rfl) ?_
                refine lv_iload hx hb (kd dtX11_problemsRefusal_0 34 rfl) (lv_at hl 0 rfl) ?_
                obtain ⟨b16, hb16, hf⟩ := kbind hf
                obtain ⟨hrb16, hkb16⟩ := kRc_s hb16
                obtain ⟨v18, h17, hf⟩ := kbind hf
                refine kcallV (n := 1) [.int v10] [] [.int v18] (rX8_howIs l D aC h17) hrb16 hkb16 F hml hX hZ hl.1 mwX8_howIs wmX11_149 rfl (by decide) (by decide +kernel) ⟨(by decide), (by decide)⟩ rfl rfl rfl (Nat.le_of_ble_eq_true rfl) (kd dtX11_problemsRefusal_0 35 rfl) ⟨Nat.zero_le _, Nat.zero_le _⟩ (fun H locs hX => ?_)
                refine lv_if_eq (tgt := 74) hx hb (kd dtX11_problemsRefusal_0 36 rfl) (by decide) (fun hc => ?_) (fun hc => ?_)
                · have hf := kif_pos hc hf
                  refine lv_iconst (v := (0 : Int32)) hx hb (kd dtX11_problemsRefusal_0 39 rfl) (by decide) ?_
                  refine lv_istore (lv' := [(5, .int (0 : Int32)), (4, .int v10), (0, .ref x0), (1, va_rf x1), (2, .int v3), (3, .int z3_32)]) hx hb (kd dtX11_problemsRefusal_0 40 rfl) hl (by decide) rfl (fun ls hl => ?_)
                  have hL77 : ∀ (n : Nat) (k : Int32 → Option Int32), ∀ (z5_77 : Int32) (H : Heap) (locs : List Loc) (ls : Array Slot), kX D aC w s.heap w H locs → lv_has ls 6 [(0, .ref x0), (1, va_rf x1), (2, .int v3), (3, .int z3_32), (4, .int v10), (5, .int z5_77)] → fX11_problemsRefusal_L77 x0 x1 v3 z3_32 v10 w n k z5_77 = some oR → (∀ (z5_77 : Int32) (H : Heap) (locs : List Loc) (ls : Array Slot), kX D aC w s.heap w H locs → lv_has ls 6 [(0, .ref x0), (1, va_rf x1), (2, .int v3), (3, .int z3_32), (4, .int v10), (5, .int z5_77)] → k z5_77 = some oR → W p l e { frames := 3, cells := 0, slots := 0, locals := 54 } s m ([.ref x0, va_rf x1] : List Value).toArray below meth c H locs 0 0 (MQ below (kQc D aC w (some (.int oR)) w) ([.ref x0, va_rf x1] : List Value).toArray s 0 0 (kA w)) (F0 m 103 ls [])) → W p l e { frames := 3, cells := 0, slots := 0, locals := 54 } s m ([.ref x0, va_rf x1] : List Value).toArray below meth c H locs 0 0 (MQ below (kQc D aC w (some (.int oR)) w) ([.ref x0, va_rf x1] : List Value).toArray s 0 0 (kA w)) (F0 m 77 ls []) := by
                    intro n k
                    induction n with
                    | zero =>
                      intro z5_77 H locs ls hX hl hf hk
                      rw [fX11_problemsRefusal_L77] at hf
                      cases hf
                    | succ n ih =>
                      intro z5_77 H locs ls hX hl hf hk
                      rw [fX11_problemsRefusal_L77] at hf
                      refine lv_iload hx hb (kd dtX11_problemsRefusal_0 41 rfl) (lv_at hl 5 rfl) ?_
                      refine lv_iload_n hx hb (kd dtX11_problemsRefusal_0 42 rfl) rfl (lv_at hl 3 rfl) ?_
                      refine lv_icmp_ge (tgt := 103) hx hb (kd dtX11_problemsRefusal_0 43 rfl) (by decide) (fun hc => ?_) (fun hc => ?_)
                      · have hf := kif_pos hc hf
                        exact hk z5_77 _ _ _ hX hl hf
                      · have hf := kif_neg hc hf
                        refine kaload_n hx hb (kd dtX11_problemsRefusal_0 44 rfl) rfl (lv_at hl 1 rfl) ?_
                        refine lv_iload hx hb (kd dtX11_problemsRefusal_0 45 rfl) (lv_at hl 5 rfl) ?_
                        obtain ⟨b20, hb20, hf⟩ := kbind hf
                        obtain ⟨hrb20, hkb20⟩ := kRc_s hb20
                        obtain ⟨v22, h21, hf⟩ := kbind hf
                        refine kcallV (n := 1) [.int z5_77] [] [.int v22] (rX6_elementAt l D aC h21) hrb20 hkb20 F hml hX hZ hl.1 mwX6_elementAt wmX11_328 rfl (by decide) (by decide +kernel) ⟨(by decide), (by decide)⟩ rfl rfl rfl (Nat.le_of_ble_eq_true rfl) (kd dtX11_problemsRefusal_0 46 rfl) ⟨Nat.zero_le _, Nat.zero_le _⟩ (fun H locs hX => ?_)
                        refine lv_iload hx hb (kd dtX11_problemsRefusal_0 47 rfl) (lv_at hl 4 rfl) ?_
                        refine lv_icmp_ne (tgt := 97) hx hb (kd dtX11_problemsRefusal_0 48 rfl) (by decide) (fun hc => ?_) (fun hc => ?_)
                        · have hf := kif_neg hc hf
                          refine lv_iinc (v := z5_77 + (1 : Int32)) (lv' := [(5, .int (z5_77 + (1 : Int32))), (0, .ref x0), (1, va_rf x1), (2, .int v3), (3, .int z3_32), (4, .int v10)]) hx hb (kd dtX11_problemsRefusal_0 51 rfl) hl (k := 5) rfl (by rfl) (by decide) rfl (fun ls hl => ?_)
                          refine lv_goto (tgt := 77) hx hb (kd dtX11_problemsRefusal_0 52 rfl) (by decide) ?_
                          exact ih (z5_77 + (1 : Int32)) _ _ _ hX (lv_sub hl [1, 2, 3, 4, 5, 0] rfl) hf hk
                        · have hf := kif_pos hc hf
                          refine lv_bipush (v := (-13 : Int32)) hx hb (kd dtX11_problemsRefusal_0 49 rfl) (by decide) ?_
                          obtain rfl := Option.some.inj hf
                          exact kiret F hX hr hlocks rfl (kd dtX11_problemsRefusal_0 50 rfl)
                  refine hL77 kFU _ (0 : Int32) _ _ _ hX (lv_sub hl [2, 3, 4, 5, 1, 0] rfl) hf ?_
                  intro y5_19 H locs ls hX hl hf
                  refine lv_iinc (v := z3_32 + (1 : Int32)) (lv' := [(3, .int (z3_32 + (1 : Int32))), (0, .ref x0), (1, va_rf x1), (2, .int v3), (4, .int v10), (5, .int y5_19)]) hx hb (kd dtX11_problemsRefusal_0 53 rfl) hl (k := 3) rfl (by rfl) (by decide) rfl (fun ls hl => ?_)
                  refine lv_goto (tgt := 32) hx hb (kd dtX11_problemsRefusal_0 54 rfl) (by decide) ?_
                  exact ih (z3_32 + (1 : Int32)) _ _ _ hX (lv_sub hl [1, 2, 3, 0] rfl) hf hk
                · have hf := kif_neg hc hf
                  refine lv_bipush (v := (-13 : Int32)) hx hb (kd dtX11_problemsRefusal_0 37 rfl) (by decide) ?_
                  obtain rfl := Option.some.inj hf
                  exact kiret F hX hr hlocks rfl (kd dtX11_problemsRefusal_0 38 rfl)
        refine hL32 kFU _ (0 : Int32) _ _ _ hX (lv_sub hl [2, 3, 1, 0] rfl) hf ?_
        intro y3_6 H locs ls hX hl hf
        refine lv_iconst (v := (0 : Int32)) hx hb (kd dtX11_problemsRefusal_0 55 rfl) (by decide) ?_
        obtain rfl := Option.some.inj hf
        exact kiret F hX hr hlocks rfl (kd dtX11_problemsRefusal_0 56 rfl)
      · have hf := kif_neg hc hf
        refine lv_bipush (v := (-13 : Int32)) hx hb (kd dtX11_problemsRefusal_0 15 rfl) (by decide) ?_
        obtain rfl := Option.some.inj hf
        exact kiret F hX hr hlocks rfl (kd dtX11_problemsRefusal_0 16 rfl)
  · have hf := kif_neg hc hf
    refine lv_iload_n hx hb (kd dtX11_problemsRefusal_0 5 rfl) rfl (lv_at hl 0 rfl) ?_
    obtain rfl := Option.some.inj hf
    exact kiret F hX hr hlocks rfl (kd dtX11_problemsRefusal_0 6 rfl)
theorem wmX11_365 : Cond.methodLink RX11 365 yX5_learn ∈ kT := kTm 987 (by decide +kernel) rfl
def lX11_tryOrder_0 : List (Nat × Instr × Nat) := [(0, .aload_n 0, 1), (1, .iconst 0, 1), (2, .putfield 84, 3), (5, .aload_n 0, 1), (6, .iconst 0, 1), (7, .putfield 88, 3), (10, .aload_n 0, 1), (11, .getfield 67, 3), (14, .aload_n 0, 1), (15, .getfield 10, 3), (18, .invokevirtual 243, 3), (21, .aload_n 0, 1), (22, .getfield 67, 3), (25, .iconst 0, 1), (26, .iconst 0, 1), (27, .invokevirtual 362, 3), (30, .iconst 0, 1), (31, .istore_n 3, 1), (32, .iload_n 3, 1), (33, .aload_n 2, 1), (34, .getfield 110, 3), (37, .if_icmp .ge 96, 3), (40, .iload_n 3, 1), (41, .iconst 3, 1), (42, .if_icmp .ge 91, 3), (45, .aload_n 2, 1), (46, .aload_n 0, 1), (47, .getfield 80, 3), (50, .iload_n 3, 1), (51, .iaload, 1), (52, .invokevirtual 328, 3), (55, .istore 4, 2), (57, .aload_n 0, 1), (58, .getfield 10, 3), (61, .iload 4, 2), (63, .invokevirtual 128, 3), (66, .astore 5, 2), (68, .aload_n 0, 1), (69, .getfield 67, 3), (72, .aload_n 1, 1), (73, .aload 5, 2), (75, .ldc 95, 2), (77, .invokevirtual 247, 3), (80, .aload_n 0, 1), (81, .dup, 1), (82, .getfield 88, 3), (85, .aload_n 0, 1), (86, .getfield 67, 3), (89, .getfield 228, 3), (92, .iadd, 1), (93, .putfield 88, 3), (96, .aload_n 0, 1), (97, .getfield 67, 3), (100, .getfield 225, 3), (103, .ifCond .eq 24, 3), (106, .aload_n 0, 1), (107, .dup, 1), (108, .getfield 84, 3), (111, .iconst 1, 1), (112, .iadd, 1), (113, .putfield 84, 3), (116, .aload_n 0, 1), (117, .getfield 67, 3), (120, .iload 4, 2), (122, .aload 5, 2), (124, .invokevirtual 365, 3), (127, .iinc 3 1, 3), (130, .goto (-98), 3), (133, .return_, 1)]
theorem dtX11_tryOrder_0 : kDec cX11_tryOrder lX11_tryOrder_0 = true := by decide +kernel
noncomputable def fX11_tryOrder_L32 (x0 : Nat) (x1 : Option Nat) (x2 : Option Nat) : Nat → (Int32 → kW → Option kW) → Int32 → kW → Option kW
  | 0, _, _, _ => none
  | n + 1, k, x3, w =>
  (kgI w 6 x2 2).bind fun v1 =>
  if v1 ≤ x3 then
  k x3 w
  else
  if (3 : Int32) ≤ x3 then
  k x3 w
  else
  (kgP w 11 (some x0) 11).bind fun v2 =>
  (kaI w 14 v2 x3).bind fun v3 =>
  (kRc w 6 x2).bind fun b4 =>
  (fX6_elementAt b4 v3 w).bind fun v6 =>
  (kgP w 11 (some x0) 0).bind fun v7 =>
  (kRc w 8 v7).bind fun b8 =>
  (fX8_lineAt b8 v6 w).bind fun v10 =>
  (kgP w 11 (some x0) 9).bind fun v11 =>
  (kRc w 5 v11).bind fun b12 =>
  (fX5_look b12 x1 v10 (1000000 : Int32) w).bind fun w13 =>
  (kgI w13 11 (some x0) 13).bind fun v15 =>
  (kgP w13 11 (some x0) 9).bind fun v16 =>
  (kgI w13 5 v16 10).bind fun v17 =>
  (kpI w13 11 (some x0) 13 (v15 + v17)).bind fun w18 =>
  (kgP w18 11 (some x0) 9).bind fun v19 =>
  (kgI w18 5 v19 12).bind fun v20 =>
  if v20 = 0 then
  fX11_tryOrder_L32 x0 x1 x2 n k (x3 + (1 : Int32)) w18
  else
  (kgI w18 11 (some x0) 12).bind fun v21 =>
  (kpI w18 11 (some x0) 12 (v21 + (1 : Int32))).bind fun w22 =>
  (kgP w22 11 (some x0) 9).bind fun v23 =>
  (kRc w22 5 v23).bind fun b24 =>
  (fX5_learn b24 v6 v10 w22).bind fun w25 =>
  fX11_tryOrder_L32 x0 x1 x2 n k (x3 + (1 : Int32)) w25

noncomputable def fX11_tryOrder (x0 : Nat) (x1 : Option Nat) (x2 : Option Nat) (w : kW) : Option kW :=
  (kpI w 11 (some x0) 12 (0 : Int32)).bind fun w1 =>
  (kpI w1 11 (some x0) 13 (0 : Int32)).bind fun w2 =>
  (kgP w2 11 (some x0) 9).bind fun v3 =>
  (kgP w2 11 (some x0) 0).bind fun v4 =>
  (kRc w2 5 v3).bind fun b5 =>
  (fX5_learnAll b5 v4 w2).bind fun w6 =>
  (kgP w6 11 (some x0) 9).bind fun v8 =>
  (kRc w6 5 v8).bind fun b9 =>
  (fX5_setSlips b9 (0 : Int32) (0 : Int32) w6).bind fun w10 =>
  fX11_tryOrder_L32 x0 x1 x2 kFU (fun y3_12 w13 => some w13) (0 : Int32) w10

set_option maxHeartbeats 4000000 in
set_option maxRecDepth 100000 in
theorem rX11_tryOrder (l : Launch) (D : va_G) (aC : Nat → ClassId) {x0 : Nat} {x1 : Option Nat} {x2 : Option Nat} {w : kW} {wR : kW} (h : fX11_tryOrder x0 x1 x2 w = some wR) : kC l D aC yX11_tryOrder cX11_tryOrder 6 none 7 154 [.ref x0, va_rf x1, va_rf x2] w none wR 0 0 := by
  refine kOf (own := RX11) (by decide) rfl (by simp [lg_sl, kcat_rf, kcat_i, kcat_r, kcat_l]) ?_
  intro p e s m below meth c ls F hml hr hlocks hnm hX hZ hl
  obtain ⟨hx, hb, hts, hown, hK⟩ := id F
  have hl : lv_has ls 6 [(0, .ref x0), (1, va_rf x1), (2, va_rf x2)] := by simpa [lv_args, kcat_rf, kcat_i, kcat_r, kcat_l] using hl
  have hf := h
  rw [fX11_tryOrder] at hf
  refine lv_aload_n hx hb (kd dtX11_tryOrder_0 0 rfl) rfl (lv_at hl 0 rfl) ?_
  refine lv_iconst (v := (0 : Int32)) hx hb (kd dtX11_tryOrder_0 1 rfl) (by decide) ?_
  obtain ⟨w1, hw1, hf⟩ := kbind hf
  refine kputI hw1 F hX hinX11 tyX11_ok nmX11 rfl rfl rfl (by decide) (by decide) wfX11_84 rfl rfl (Or.inl rfl) (kd dtX11_tryOrder_0 2 rfl) (fun H locs hX => ?_)
  refine lv_aload_n hx hb (kd dtX11_tryOrder_0 3 rfl) rfl (lv_at hl 0 rfl) ?_
  refine lv_iconst (v := (0 : Int32)) hx hb (kd dtX11_tryOrder_0 4 rfl) (by decide) ?_
  obtain ⟨w2, hw2, hf⟩ := kbind hf
  refine kputI hw2 F hX hinX11 tyX11_ok nmX11 rfl rfl rfl (by decide) (by decide) wfX11_88 rfl rfl (Or.inl rfl) (kd dtX11_tryOrder_0 5 rfl) (fun H locs hX => ?_)
  refine lv_aload_n hx hb (kd dtX11_tryOrder_0 6 rfl) rfl (lv_at hl 0 rfl) ?_
  obtain ⟨v3, hv3, hf⟩ := kbind hf
  refine kgetP hv3 F hX hinX11 rfl rfl rfl (by decide) (by decide) wfX11_67 (kd dtX11_tryOrder_0 7 rfl) ?_
  refine lv_aload_n hx hb (kd dtX11_tryOrder_0 8 rfl) rfl (lv_at hl 0 rfl) ?_
  obtain ⟨v4, hv4, hf⟩ := kbind hf
  refine kgetP hv4 F hX hinX11 rfl rfl rfl (by decide) (by decide) wfX11_10 (kd dtX11_tryOrder_0 9 rfl) ?_
  obtain ⟨b5, hb5, hf⟩ := kbind hf
  obtain ⟨hrb5, hkb5⟩ := kRc_s hb5
  obtain ⟨w6, h7, hf⟩ := kbind hf
  refine kcallV (n := 1) [va_rf v4] [] [] (rX5_learnAll l D aC h7) hrb5 hkb5 F hml hX hZ hl.1 mwX5_learnAll wmX11_243 rfl (by decide) (by decide +kernel) ⟨(by decide), (by decide)⟩ rfl rfl rfl (Nat.le_of_ble_eq_true rfl) (kd dtX11_tryOrder_0 10 rfl) ⟨Nat.zero_le _, Nat.zero_le _⟩ (fun H locs hX => ?_)
  refine lv_aload_n hx hb (kd dtX11_tryOrder_0 11 rfl) rfl (lv_at hl 0 rfl) ?_
  obtain ⟨v8, hv8, hf⟩ := kbind hf
  refine kgetP hv8 F hX hinX11 rfl rfl rfl (by decide) (by decide) wfX11_67 (kd dtX11_tryOrder_0 12 rfl) ?_
  refine lv_iconst (v := (0 : Int32)) hx hb (kd dtX11_tryOrder_0 13 rfl) (by decide) ?_
  refine lv_iconst (v := (0 : Int32)) hx hb (kd dtX11_tryOrder_0 14 rfl) (by decide) ?_
  obtain ⟨b9, hb9, hf⟩ := kbind hf
  obtain ⟨hrb9, hkb9⟩ := kRc_s hb9
  obtain ⟨w10, h11, hf⟩ := kbind hf
  refine kcallV (n := 2) [.int (0 : Int32), .int (0 : Int32)] [] [] (rX5_setSlips l D aC h11) hrb9 hkb9 F hml hX hZ hl.1 mwX5_setSlips wmX11_362 rfl (by decide) (by decide +kernel) ⟨(by decide), (by decide)⟩ rfl rfl rfl (Nat.le_of_ble_eq_true rfl) (kd dtX11_tryOrder_0 15 rfl) ⟨Nat.zero_le _, Nat.zero_le _⟩ (fun H locs hX => ?_)
  refine lv_iconst (v := (0 : Int32)) hx hb (kd dtX11_tryOrder_0 16 rfl) (by decide) ?_
  refine lv_istore_n (i := 3) (lv' := [(3, .int (0 : Int32)), (0, .ref x0), (1, va_rf x1), (2, va_rf x2)]) hx hb (kd dtX11_tryOrder_0 17 rfl) rfl hl (by decide) (by simp [kcat_rf, kcat_i, kcat_r, kcat_l]) (fun ls hl => ?_)
  have hL32 : ∀ (n : Nat) (k : Int32 → kW → Option kW), ∀ (z3_32 : Int32) (w_32 : kW) (H : Heap) (locs : List Loc) (ls : Array Slot), kX D aC w s.heap w_32 H locs → lv_has ls 6 [(0, .ref x0), (1, va_rf x1), (2, va_rf x2), (3, .int z3_32)] → fX11_tryOrder_L32 x0 x1 x2 n k z3_32 w_32 = some wR → (∀ (z3_32 : Int32) (w_32 : kW) (H : Heap) (locs : List Loc) (ls : Array Slot), kX D aC w s.heap w_32 H locs → lv_has ls 6 [(0, .ref x0), (1, va_rf x1), (2, va_rf x2), (3, .int z3_32)] → k z3_32 w_32 = some wR → W p l e { frames := 7, cells := 0, slots := 0, locals := 154 } s m ([.ref x0, va_rf x1, va_rf x2] : List Value).toArray below meth c H locs 0 0 (MQ below (kQc D aC w none wR) ([.ref x0, va_rf x1, va_rf x2] : List Value).toArray s 0 0 (kA w)) (F0 m 133 ls [])) → W p l e { frames := 7, cells := 0, slots := 0, locals := 154 } s m ([.ref x0, va_rf x1, va_rf x2] : List Value).toArray below meth c H locs 0 0 (MQ below (kQc D aC w none wR) ([.ref x0, va_rf x1, va_rf x2] : List Value).toArray s 0 0 (kA w)) (F0 m 32 ls []) := by
    intro n k
    induction n with
    | zero =>
      intro z3_32 w_32 H locs ls hX hl hf hk
      rw [fX11_tryOrder_L32] at hf
      cases hf
    | succ n ih =>
      intro z3_32 w_32 H locs ls hX hl hf hk
      rw [fX11_tryOrder_L32] at hf
      refine lv_iload_n hx hb (kd dtX11_tryOrder_0 18 rfl) rfl (lv_at hl 3 rfl) ?_
      refine kaload_n hx hb (kd dtX11_tryOrder_0 19 rfl) rfl (lv_at hl 2 rfl) ?_
      obtain ⟨v14, hv14, hf⟩ := kbind hf
      refine kgetIN hv14 F hX hinX6 rfl rfl rfl (by decide) (by decide) hZ wfX11_110 (kd dtX11_tryOrder_0 20 rfl) ?_
      refine lv_icmp_ge (tgt := 133) hx hb (kd dtX11_tryOrder_0 21 rfl) (by decide) (fun hc => ?_) (fun hc => ?_)
      · have hf := kif_pos hc hf
        exact hk z3_32 w_32 _ _ _ hX hl hf
      · have hf := kif_neg hc hf
        refine lv_iload_n hx hb (kd dtX11_tryOrder_0 22 rfl) rfl (lv_at hl 3 rfl) ?_
        refine lv_iconst (v := (3 : Int32)) hx hb (kd dtX11_tryOrder_0 23 rfl) (by decide) ?_
        refine lv_icmp_ge (tgt := 133) hx hb (kd dtX11_tryOrder_0 24 rfl) (by decide) (fun hc => ?_) (fun hc => ?_)
        · have hf := kif_pos hc hf
          exact hk z3_32 w_32 _ _ _ hX hl hf
        · have hf := kif_neg hc hf
          refine kaload_n hx hb (kd dtX11_tryOrder_0 25 rfl) rfl (lv_at hl 2 rfl) ?_
          refine lv_aload_n hx hb (kd dtX11_tryOrder_0 26 rfl) rfl (lv_at hl 0 rfl) ?_
          obtain ⟨v15, hv15, hf⟩ := kbind hf
          refine kgetP hv15 F hX hinX11 rfl rfl rfl (by decide) (by decide) wfX11_80 (kd dtX11_tryOrder_0 27 rfl) ?_
          refine lv_iload_n hx hb (kd dtX11_tryOrder_0 28 rfl) rfl (lv_at hl 3 rfl) ?_
          obtain ⟨v16, hv16, hf⟩ := kbind hf
          refine kald hv16 F hX (kd dtX11_tryOrder_0 29 rfl) ?_
          obtain ⟨b17, hb17, hf⟩ := kbind hf
          obtain ⟨hrb17, hkb17⟩ := kRc_s hb17
          obtain ⟨v19, h18, hf⟩ := kbind hf
          refine kcallV (n := 1) [.int v16] [] [.int v19] (rX6_elementAt l D aC h18) hrb17 hkb17 F hml hX hZ hl.1 mwX6_elementAt wmX11_328 rfl (by decide) (by decide +kernel) ⟨(by decide), (by decide)⟩ rfl rfl rfl (Nat.le_of_ble_eq_true rfl) (kd dtX11_tryOrder_0 30 rfl) ⟨Nat.zero_le _, Nat.zero_le _⟩ (fun H locs hX => ?_)
          refine lv_istore (lv' := [(4, .int v19), (0, .ref x0), (1, va_rf x1), (2, va_rf x2), (3, .int z3_32)]) hx hb (kd dtX11_tryOrder_0 31 rfl) hl (by decide) rfl (fun ls hl => ?_)
          refine lv_aload_n hx hb (kd dtX11_tryOrder_0 32 rfl) rfl (lv_at hl 1 rfl) ?_
          obtain ⟨v20, hv20, hf⟩ := kbind hf
          refine kgetP hv20 F hX hinX11 rfl rfl rfl (by decide) (by decide) wfX11_10 (kd dtX11_tryOrder_0 33 rfl) ?_
          refine lv_iload hx hb (kd dtX11_tryOrder_0 34 rfl) (lv_at hl 0 rfl) ?_
          obtain ⟨b21, hb21, hf⟩ := kbind hf
          obtain ⟨hrb21, hkb21⟩ := kRc_s hb21
          obtain ⟨v23, h22, hf⟩ := kbind hf
          refine kcallV (n := 1) [.int v19] [] [va_rf v23] (rX8_lineAt l D aC h22) hrb21 hkb21 F hml hX hZ hl.1 mwX8_lineAt wmX11_128 rfl (by decide) (by decide +kernel) ⟨(by decide), (by decide)⟩ rfl rfl rfl (Nat.le_of_ble_eq_true rfl) (kd dtX11_tryOrder_0 35 rfl) ⟨Nat.zero_le _, Nat.zero_le _⟩ (fun H locs hX => ?_)
          refine kastore (lv' := [(5, va_rf v23), (4, .int v19), (0, .ref x0), (1, va_rf x1), (2, va_rf x2), (3, .int z3_32)]) hx hb (kd dtX11_tryOrder_0 36 rfl) hl (by decide) rfl (fun ls hl => ?_)
          refine lv_aload_n hx hb (kd dtX11_tryOrder_0 37 rfl) rfl (lv_at hl 2 rfl) ?_
          obtain ⟨v24, hv24, hf⟩ := kbind hf
          refine kgetP hv24 F hX hinX11 rfl rfl rfl (by decide) (by decide) wfX11_67 (kd dtX11_tryOrder_0 38 rfl) ?_
          refine kaload_n hx hb (kd dtX11_tryOrder_0 39 rfl) rfl (lv_at hl 3 rfl) ?_
          refine kaload hx hb (kd dtX11_tryOrder_0 40 rfl) (lv_at hl 0 rfl) ?_
          refine lv_ldc (v := (1000000 : Int32)) hx hb hown (hts _ wcX11_95) (kd dtX11_tryOrder_0 41 rfl) ?_
          obtain ⟨b25, hb25, hf⟩ := kbind hf
          obtain ⟨hrb25, hkb25⟩ := kRc_s hb25
          obtain ⟨w26, h27, hf⟩ := kbind hf
          refine kcallV (n := 3) [va_rf x1, va_rf v23, .int (1000000 : Int32)] [] [] (rX5_look l D aC h27) hrb25 hkb25 F hml hX hZ hl.1 mwX5_look wmX11_247 rfl (by decide) (by decide +kernel) ⟨(by decide), (by decide)⟩ rfl rfl rfl (Nat.le_of_ble_eq_true rfl) (kd dtX11_tryOrder_0 42 rfl) ⟨Nat.zero_le _, Nat.zero_le _⟩ (fun H locs hX => ?_)
          refine lv_aload_n hx hb (kd dtX11_tryOrder_0 43 rfl) rfl (lv_at hl 2 rfl) ?_
          refine lv_dup hx hb (kd dtX11_tryOrder_0 44 rfl) rfl ?_
          obtain ⟨v28, hv28, hf⟩ := kbind hf
          refine kgetI hv28 F hX hinX11 rfl rfl rfl (by decide) (by decide) wfX11_88 (kd dtX11_tryOrder_0 45 rfl) ?_
          refine lv_aload_n hx hb (kd dtX11_tryOrder_0 46 rfl) rfl (lv_at hl 2 rfl) ?_
          obtain ⟨v29, hv29, hf⟩ := kbind hf
          refine kgetP hv29 F hX hinX11 rfl rfl rfl (by decide) (by decide) wfX11_67 (kd dtX11_tryOrder_0 47 rfl) ?_
          obtain ⟨v30, hv30, hf⟩ := kbind hf
          refine kgetIN hv30 F hX hinX5 rfl rfl rfl (by decide) (by decide) hZ wfX11_228 (kd dtX11_tryOrder_0 48 rfl) ?_
          refine lv_iadd hx hb (kd dtX11_tryOrder_0 49 rfl) ?_
          obtain ⟨w31, hw31, hf⟩ := kbind hf
          refine kputI hw31 F hX hinX11 tyX11_ok nmX11 rfl rfl rfl (by decide) (by decide) wfX11_88 rfl rfl (Or.inl rfl) (kd dtX11_tryOrder_0 50 rfl) (fun H locs hX => ?_)
          refine lv_aload_n hx hb (kd dtX11_tryOrder_0 51 rfl) rfl (lv_at hl 2 rfl) ?_
          obtain ⟨v32, hv32, hf⟩ := kbind hf
          refine kgetP hv32 F hX hinX11 rfl rfl rfl (by decide) (by decide) wfX11_67 (kd dtX11_tryOrder_0 52 rfl) ?_
          obtain ⟨v33, hv33, hf⟩ := kbind hf
          refine kgetIN hv33 F hX hinX5 rfl rfl rfl (by decide) (by decide) hZ wfX11_225 (kd dtX11_tryOrder_0 53 rfl) ?_
          refine lv_if_eq (tgt := 127) hx hb (kd dtX11_tryOrder_0 54 rfl) (by decide) (fun hc => ?_) (fun hc => ?_)
          · have hf := kif_pos hc hf
            refine lv_iinc (v := z3_32 + (1 : Int32)) (lv' := [(3, .int (z3_32 + (1 : Int32))), (5, va_rf v23), (4, .int v19), (0, .ref x0), (1, va_rf x1), (2, va_rf x2)]) hx hb (kd dtX11_tryOrder_0 66 rfl) hl (k := 5) rfl (by rfl) (by decide) (by simp [kcat_rf, kcat_i, kcat_r, kcat_l]) (fun ls hl => ?_)
            refine lv_goto (tgt := 32) hx hb (kd dtX11_tryOrder_0 67 rfl) (by decide) ?_
            exact ih (z3_32 + (1 : Int32)) w31 _ _ _ hX (lv_sub hl [3, 4, 5, 0] rfl) hf hk
          · have hf := kif_neg hc hf
            refine lv_aload_n hx hb (kd dtX11_tryOrder_0 55 rfl) rfl (lv_at hl 2 rfl) ?_
            refine lv_dup hx hb (kd dtX11_tryOrder_0 56 rfl) rfl ?_
            obtain ⟨v34, hv34, hf⟩ := kbind hf
            refine kgetI hv34 F hX hinX11 rfl rfl rfl (by decide) (by decide) wfX11_84 (kd dtX11_tryOrder_0 57 rfl) ?_
            refine lv_iconst (v := (1 : Int32)) hx hb (kd dtX11_tryOrder_0 58 rfl) (by decide) ?_
            refine lv_iadd hx hb (kd dtX11_tryOrder_0 59 rfl) ?_
            obtain ⟨w35, hw35, hf⟩ := kbind hf
            refine kputI hw35 F hX hinX11 tyX11_ok nmX11 rfl rfl rfl (by decide) (by decide) wfX11_84 rfl rfl (Or.inl rfl) (kd dtX11_tryOrder_0 60 rfl) (fun H locs hX => ?_)
            refine lv_aload_n hx hb (kd dtX11_tryOrder_0 61 rfl) rfl (lv_at hl 2 rfl) ?_
            obtain ⟨v36, hv36, hf⟩ := kbind hf
            refine kgetP hv36 F hX hinX11 rfl rfl rfl (by decide) (by decide) wfX11_67 (kd dtX11_tryOrder_0 62 rfl) ?_
            refine lv_iload hx hb (kd dtX11_tryOrder_0 63 rfl) (lv_at hl 1 rfl) ?_
            refine kaload hx hb (kd dtX11_tryOrder_0 64 rfl) (lv_at hl 0 rfl) ?_
            obtain ⟨b37, hb37, hf⟩ := kbind hf
            obtain ⟨hrb37, hkb37⟩ := kRc_s hb37
            obtain ⟨w38, h39, hf⟩ := kbind hf
            refine kcallV (n := 2) [.int v19, va_rf v23] [] [] (rX5_learn l D aC h39) hrb37 hkb37 F hml hX hZ hl.1 mwX5_learn wmX11_365 rfl (by decide) (by decide +kernel) ⟨(by decide), (by decide)⟩ rfl rfl rfl (Nat.le_of_ble_eq_true rfl) (kd dtX11_tryOrder_0 65 rfl) ⟨Nat.zero_le _, Nat.zero_le _⟩ (fun H locs hX => ?_)
            refine lv_iinc (v := z3_32 + (1 : Int32)) (lv' := [(3, .int (z3_32 + (1 : Int32))), (5, va_rf v23), (4, .int v19), (0, .ref x0), (1, va_rf x1), (2, va_rf x2)]) hx hb (kd dtX11_tryOrder_0 66 rfl) hl (k := 5) rfl (by rfl) (by decide) (by simp [kcat_rf, kcat_i, kcat_r, kcat_l]) (fun ls hl => ?_)
            refine lv_goto (tgt := 32) hx hb (kd dtX11_tryOrder_0 67 rfl) (by decide) ?_
            exact ih (z3_32 + (1 : Int32)) w38 _ _ _ hX (lv_sub hl [3, 4, 5, 0] rfl) hf hk
  refine hL32 kFU _ (0 : Int32) w10 _ _ _ hX (lv_sub hl [1, 2, 3, 0] rfl) hf ?_
  intro y3_12 w13 H locs ls hX hl hf
  obtain rfl := Option.some.inj hf
  exact kvret F hX hr hlocks rfl (kd dtX11_tryOrder_0 68 rfl)
theorem wmX11_259 : Cond.methodLink RX11 259 yX11_problemsRefusal ∈ kT := kTm 971 (by decide +kernel) rfl
theorem mwX11_problemsRefusal : kMV RX11 yX11_problemsRefusal cX11_problemsRefusal 6 (some .int) := ⟨kTm 974 (by decide +kernel) rfl, kTm 94 (by decide +kernel) rfl, kTm 973 (by decide +kernel) rfl, kTm 35 (by decide +kernel) rfl⟩
theorem wmX11_263 : Cond.methodLink RX11 263 yX11_tryOrder ∈ kT := kTm 983 (by decide +kernel) rfl
theorem mwX11_tryOrder : kMV RX11 yX11_tryOrder cX11_tryOrder 6 none := ⟨kTm 986 (by decide +kernel) rfl, kTm 94 (by decide +kernel) rfl, kTm 985 (by decide +kernel) rfl, kTm 36 (by decide +kernel) rfl⟩
def lX11_order_0 : List (Nat × Instr × Nat) := [(0, .aload_n 0, 1), (1, .getfield 10, 3), (4, .iload_n 1, 1), (5, .invokevirtual 255, 3), (8, .astore 4, 2), (10, .aload_n 0, 1), (11, .iload_n 2, 1), (12, .invokevirtual 99, 3), (15, .astore 5, 2), (17, .aload 4, 2), (19, .ifnull 17, 3), (22, .aload 5, 2), (24, .ifnull 12, 3), (27, .iload_n 3, 1), (28, .ifCond .lt 8, 3), (31, .iload_n 3, 1), (32, .iconst 1, 1), (33, .if_icmp .le 5, 3), (36, .iconst (-1), 1), (37, .ireturn, 1), (38, .aload_n 0, 1), (39, .aload 5, 2), (41, .invokevirtual 259, 3), (44, .istore 6, 2), (46, .iload 6, 2), (48, .ifCond .eq 6, 3), (51, .iload 6, 2), (53, .ireturn, 1), (54, .iconst 0, 1), (55, .istore 7, 2), (57, .iload 7, 2), (59, .iconst 3, 1), (60, .if_icmp .ge 18, 3), (63, .aload_n 0, 1), (64, .getfield 80, 3), (67, .iload 7, 2), (69, .iload 7, 2), (71, .iastore, 1), (72, .iinc 7 1, 3), (75, .goto (-18), 3), (78, .aload_n 0, 1), (79, .aload 4, 2), (81, .aload 5, 2), (83, .invokevirtual 263, 3), (86, .iload_n 3, 1), (87, .ifCond .ne 10, 3), (90, .aload_n 0, 1), (91, .getfield 84, 3), (94, .goto 7, 3), (97, .aload_n 0, 1), (98, .getfield 88, 3), (101, .ireturn, 1)]
theorem dtX11_order_0 : kDec cX11_order lX11_order_0 = true := by decide +kernel
noncomputable def fX11_order_L57 (x0 : Nat) (x1 : Int32) (x2 : Int32) (x3 : Int32) (x4 : Option Nat) (x5 : Option Nat) (x6 : Int32) : Nat → (Int32 → kW → Option (Int32 × kW)) → Int32 → kW → Option (Int32 × kW)
  | 0, _, _, _ => none
  | n + 1, k, x7, w =>
  if (3 : Int32) ≤ x7 then
  k x7 w
  else
  (kgP w 11 (some x0) 11).bind fun v1 =>
  (ksI w 14 v1 x7 x7).bind fun w2 =>
  fX11_order_L57 x0 x1 x2 x3 x4 x5 x6 n k (x7 + (1 : Int32)) w2

noncomputable def fX11_order (x0 : Nat) (x1 : Int32) (x2 : Int32) (x3 : Int32) (w : kW) : Option (Int32 × kW) :=
  (kgP w 11 (some x0) 0).bind fun v1 =>
  (kRc w 8 v1).bind fun b2 =>
  (fX8_programAt b2 x1 w).bind fun v4 =>
  (kRc w 11 (some x0)).bind fun b5 =>
  (fX11_shelfAt b5 x2 w).bind fun v7 =>
  if v4 = none then
  some ((-1 : Int32), w)
  else
  if v7 = none then
  some ((-1 : Int32), w)
  else
  if x3 < 0 then
  some ((-1 : Int32), w)
  else
  if x3 ≤ (1 : Int32) then
  (kRc w 11 (some x0)).bind fun b8 =>
  (fX11_problemsRefusal b8 v7 w).bind fun v10 =>
  if v10 = 0 then
  fX11_order_L57 x0 x1 x2 x3 v4 v7 v10 kFU (fun y7_11 w12 => (kRc w12 11 (some x0)).bind fun b13 =>
  (fX11_tryOrder b13 v4 v7 w12).bind fun w14 =>
  if x3 = 0 then
  (kgI w14 11 (some x0) 12).bind fun v17 =>
  some (v17, w14)
  else
  (kgI w14 11 (some x0) 13).bind fun v16 =>
  some (v16, w14)) (0 : Int32) w
  else
  some (v10, w)
  else
  some ((-1 : Int32), w)

set_option maxHeartbeats 4000000 in
set_option maxRecDepth 100000 in
theorem rX11_order (l : Launch) (D : va_G) (aC : Nat → ClassId) {x0 : Nat} {x1 : Int32} {x2 : Int32} {x3 : Int32} {w : kW} {wR : kW} {oR : Int32} (h : fX11_order x0 x1 x2 x3 w = some (oR, wR)) : kC l D aC yX11_order cX11_order 8 (some .int) 8 179 [.ref x0, .int x1, .int x2, .int x3] w (some (.int oR)) wR 0 0 := by
  refine kOf (own := RX11) (by decide) rfl (Nat.le_of_ble_eq_true rfl) ?_
  intro p e s m below meth c ls F hml hr hlocks hnm hX hZ hl
  obtain ⟨hx, hb, hts, hown, hK⟩ := id F
  have hl : lv_has ls 8 [(0, .ref x0), (1, .int x1), (2, .int x2), (3, .int x3)] := hl
  have hf := h
  rw [fX11_order] at hf
  refine lv_aload_n hx hb (kd dtX11_order_0 0 rfl) rfl (lv_at hl 0 rfl) ?_
  obtain ⟨v1, hv1, hf⟩ := kbind hf
  refine kgetP hv1 F hX hinX11 rfl rfl rfl (by decide) (by decide) wfX11_10 (kd dtX11_order_0 1 rfl) ?_
  refine lv_iload_n hx hb (kd dtX11_order_0 2 rfl) rfl (lv_at hl 1 rfl) ?_
  obtain ⟨b2, hb2, hf⟩ := kbind hf
  obtain ⟨hrb2, hkb2⟩ := kRc_s hb2
  obtain ⟨v4, h3, hf⟩ := kbind hf
  refine kcallV (n := 1) [.int x1] [] [va_rf v4] (rX8_programAt l D aC h3) hrb2 hkb2 F hml hX hZ hl.1 mwX8_programAt wmX11_255 rfl (by decide) (by decide +kernel) ⟨(by decide), (by decide)⟩ rfl rfl rfl (Nat.le_of_ble_eq_true rfl) (kd dtX11_order_0 3 rfl) ⟨Nat.zero_le _, Nat.zero_le _⟩ (fun H locs hX => ?_)
  refine kastore (lv' := [(4, va_rf v4), (0, .ref x0), (1, .int x1), (2, .int x2), (3, .int x3)]) hx hb (kd dtX11_order_0 4 rfl) hl (by decide) rfl (fun ls hl => ?_)
  refine lv_aload_n hx hb (kd dtX11_order_0 5 rfl) rfl (lv_at hl 1 rfl) ?_
  refine lv_iload_n hx hb (kd dtX11_order_0 6 rfl) rfl (lv_at hl 3 rfl) ?_
  obtain ⟨b5, hb5, hf⟩ := kbind hf
  obtain ⟨hrb5, hkb5⟩ := kRc_s hb5
  obtain ⟨v7, h6, hf⟩ := kbind hf
  refine kcallV (n := 1) [.int x2] [] [va_rf v7] (rX11_shelfAt l D aC h6) hrb5 hkb5 F hml hX hZ hl.1 mwX11_shelfAt wmX11_99 rfl (by decide) (by decide +kernel) ⟨(by decide), (by decide)⟩ rfl rfl rfl (Nat.le_of_ble_eq_true rfl) (kd dtX11_order_0 7 rfl) ⟨Nat.zero_le _, Nat.zero_le _⟩ (fun H locs hX => ?_)
  refine kastore (i := 5) (lv' := [(5, va_rf v7), (4, va_rf v4), (0, .ref x0), (1, .int x1), (2, .int x2), (3, .int x3)]) hx hb (kd dtX11_order_0 8 rfl) hl (by decide) (by simp [kcat_rf, kcat_i, kcat_r, kcat_l]) (fun ls hl => ?_)
  refine kaload hx hb (kd dtX11_order_0 9 rfl) (lv_at hl 1 rfl) ?_
  refine kifnull (tgt := 36) hx hb (kd dtX11_order_0 10 rfl) (by decide) (fun hc => ?_) (fun hc => ?_)
  · have hf := kif_pos hc hf
    refine lv_iconst (v := (-1 : Int32)) hx hb (kd dtX11_order_0 18 rfl) (by decide) ?_
    obtain ⟨rfl, rfl⟩ := Prod.mk.inj (Option.some.inj hf)
    exact kiret F hX hr hlocks rfl (kd dtX11_order_0 19 rfl)
  · have hf := kif_neg hc hf
    refine kaload hx hb (kd dtX11_order_0 11 rfl) (lv_at hl 0 rfl) ?_
    refine kifnull (tgt := 36) hx hb (kd dtX11_order_0 12 rfl) (by decide) (fun hc => ?_) (fun hc => ?_)
    · have hf := kif_pos hc hf
      refine lv_iconst (v := (-1 : Int32)) hx hb (kd dtX11_order_0 18 rfl) (by decide) ?_
      obtain ⟨rfl, rfl⟩ := Prod.mk.inj (Option.some.inj hf)
      exact kiret F hX hr hlocks rfl (kd dtX11_order_0 19 rfl)
    · have hf := kif_neg hc hf
      refine lv_iload_n hx hb (kd dtX11_order_0 13 rfl) rfl (lv_at hl 5 rfl) ?_
      refine lv_if_lt (tgt := 36) hx hb (kd dtX11_order_0 14 rfl) (by decide) (fun hc => ?_) (fun hc => ?_)
      · have hf := kif_pos hc hf
        refine lv_iconst (v := (-1 : Int32)) hx hb (kd dtX11_order_0 18 rfl) (by decide) ?_
        obtain ⟨rfl, rfl⟩ := Prod.mk.inj (Option.some.inj hf)
        exact kiret F hX hr hlocks rfl (kd dtX11_order_0 19 rfl)
      · have hf := kif_neg hc hf
        refine lv_iload_n hx hb (kd dtX11_order_0 15 rfl) rfl (lv_at hl 5 rfl) ?_
        refine lv_iconst (v := (1 : Int32)) hx hb (kd dtX11_order_0 16 rfl) (by decide) ?_
        refine lv_icmp_le (tgt := 38) hx hb (kd dtX11_order_0 17 rfl) (by decide) (fun hc => ?_) (fun hc => ?_)
        · have hf := kif_pos hc hf
          refine lv_aload_n hx hb (kd dtX11_order_0 20 rfl) rfl (lv_at hl 2 rfl) ?_
          refine kaload hx hb (kd dtX11_order_0 21 rfl) (lv_at hl 0 rfl) ?_
          obtain ⟨b8, hb8, hf⟩ := kbind hf
          obtain ⟨hrb8, hkb8⟩ := kRc_s hb8
          obtain ⟨v10, h9, hf⟩ := kbind hf
          refine kcallV (n := 1) [va_rf v7] [] [.int v10] (rX11_problemsRefusal l D aC h9) hrb8 hkb8 F hml hX hZ hl.1 mwX11_problemsRefusal wmX11_259 rfl (by decide) (by decide +kernel) ⟨(by decide), (by decide)⟩ rfl rfl rfl (Nat.le_of_ble_eq_true rfl) (kd dtX11_order_0 22 rfl) ⟨Nat.zero_le _, Nat.zero_le _⟩ (fun H locs hX => ?_)
          refine lv_istore (i := 6) (lv' := [(6, .int v10), (5, va_rf v7), (4, va_rf v4), (0, .ref x0), (1, .int x1), (2, .int x2), (3, .int x3)]) hx hb (kd dtX11_order_0 23 rfl) hl (by decide) (by simp [kcat_rf, kcat_i, kcat_r, kcat_l]) (fun ls hl => ?_)
          refine lv_iload hx hb (kd dtX11_order_0 24 rfl) (lv_at hl 0 rfl) ?_
          refine lv_if_eq (tgt := 54) hx hb (kd dtX11_order_0 25 rfl) (by decide) (fun hc => ?_) (fun hc => ?_)
          · have hf := kif_pos hc hf
            refine lv_iconst (v := (0 : Int32)) hx hb (kd dtX11_order_0 28 rfl) (by decide) ?_
            refine lv_istore (lv' := [(7, .int (0 : Int32)), (6, .int v10), (5, va_rf v7), (4, va_rf v4), (0, .ref x0), (1, .int x1), (2, .int x2), (3, .int x3)]) hx hb (kd dtX11_order_0 29 rfl) hl (by decide) rfl (fun ls hl => ?_)
            have hL57 : ∀ (n : Nat) (k : Int32 → kW → Option (Int32 × kW)), ∀ (z7_57 : Int32) (w_57 : kW) (H : Heap) (locs : List Loc) (ls : Array Slot), kX D aC w s.heap w_57 H locs → lv_has ls 8 [(0, .ref x0), (1, .int x1), (2, .int x2), (3, .int x3), (4, va_rf v4), (5, va_rf v7), (6, .int v10), (7, .int z7_57)] → fX11_order_L57 x0 x1 x2 x3 v4 v7 v10 n k z7_57 w_57 = some (oR, wR) → (∀ (z7_57 : Int32) (w_57 : kW) (H : Heap) (locs : List Loc) (ls : Array Slot), kX D aC w s.heap w_57 H locs → lv_has ls 8 [(0, .ref x0), (1, .int x1), (2, .int x2), (3, .int x3), (4, va_rf v4), (5, va_rf v7), (6, .int v10), (7, .int z7_57)] → k z7_57 w_57 = some (oR, wR) → W p l e { frames := 8, cells := 0, slots := 0, locals := 179 } s m ([.ref x0, .int x1, .int x2, .int x3] : List Value).toArray below meth c H locs 0 0 (MQ below (kQc D aC w (some (.int oR)) wR) ([.ref x0, .int x1, .int x2, .int x3] : List Value).toArray s 0 0 (kA w)) (F0 m 78 ls [])) → W p l e { frames := 8, cells := 0, slots := 0, locals := 179 } s m ([.ref x0, .int x1, .int x2, .int x3] : List Value).toArray below meth c H locs 0 0 (MQ below (kQc D aC w (some (.int oR)) wR) ([.ref x0, .int x1, .int x2, .int x3] : List Value).toArray s 0 0 (kA w)) (F0 m 57 ls []) := by
              intro n k
              induction n with
              | zero =>
                intro z7_57 w_57 H locs ls hX hl hf hk
                rw [fX11_order_L57] at hf
                cases hf
              | succ n ih =>
                intro z7_57 w_57 H locs ls hX hl hf hk
                rw [fX11_order_L57] at hf
                refine lv_iload hx hb (kd dtX11_order_0 30 rfl) (lv_at hl 7 rfl) ?_
                refine lv_iconst (v := (3 : Int32)) hx hb (kd dtX11_order_0 31 rfl) (by decide) ?_
                refine lv_icmp_ge (tgt := 78) hx hb (kd dtX11_order_0 32 rfl) (by decide) (fun hc => ?_) (fun hc => ?_)
                · have hf := kif_pos hc hf
                  exact hk z7_57 w_57 _ _ _ hX hl hf
                · have hf := kif_neg hc hf
                  refine lv_aload_n hx hb (kd dtX11_order_0 33 rfl) rfl (lv_at hl 0 rfl) ?_
                  obtain ⟨v18, hv18, hf⟩ := kbind hf
                  refine kgetP hv18 F hX hinX11 rfl rfl rfl (by decide) (by decide) wfX11_80 (kd dtX11_order_0 34 rfl) ?_
                  refine lv_iload hx hb (kd dtX11_order_0 35 rfl) (lv_at hl 7 rfl) ?_
                  refine lv_iload hx hb (kd dtX11_order_0 36 rfl) (lv_at hl 7 rfl) ?_
                  obtain ⟨w19, hw19, hf⟩ := kbind hf
                  refine kast hw19 F hX (kd dtX11_order_0 37 rfl) (fun H locs hX => ?_)
                  refine lv_iinc (v := z7_57 + (1 : Int32)) (lv' := [(7, .int (z7_57 + (1 : Int32))), (0, .ref x0), (1, .int x1), (2, .int x2), (3, .int x3), (4, va_rf v4), (5, va_rf v7), (6, .int v10)]) hx hb (kd dtX11_order_0 38 rfl) hl (k := 7) rfl (by rfl) (by decide) rfl (fun ls hl => ?_)
                  refine lv_goto (tgt := 57) hx hb (kd dtX11_order_0 39 rfl) (by decide) ?_
                  exact ih (z7_57 + (1 : Int32)) w19 _ _ _ hX (lv_sub hl [1, 2, 3, 4, 5, 6, 7, 0] rfl) hf hk
            refine hL57 kFU _ (0 : Int32) w _ _ _ hX (lv_sub hl [4, 5, 6, 7, 3, 2, 1, 0] rfl) hf ?_
            intro y7_11 w12 H locs ls hX hl hf
            refine lv_aload_n hx hb (kd dtX11_order_0 40 rfl) rfl (lv_at hl 0 rfl) ?_
            refine kaload hx hb (kd dtX11_order_0 41 rfl) (lv_at hl 4 rfl) ?_
            refine kaload hx hb (kd dtX11_order_0 42 rfl) (lv_at hl 5 rfl) ?_
            obtain ⟨b13, hb13, hf⟩ := kbind hf
            obtain ⟨hrb13, hkb13⟩ := kRc_s hb13
            obtain ⟨w14, h15, hf⟩ := kbind hf
            refine kcallV (n := 2) [va_rf v4, va_rf v7] [] [] (rX11_tryOrder l D aC h15) hrb13 hkb13 F hml hX hZ hl.1 mwX11_tryOrder wmX11_263 rfl (by decide) (by decide +kernel) ⟨(by decide), (by decide)⟩ rfl rfl rfl (Nat.le_of_ble_eq_true rfl) (kd dtX11_order_0 43 rfl) ⟨Nat.zero_le _, Nat.zero_le _⟩ (fun H locs hX => ?_)
            refine lv_iload_n hx hb (kd dtX11_order_0 44 rfl) rfl (lv_at hl 3 rfl) ?_
            refine lv_if_ne (tgt := 97) hx hb (kd dtX11_order_0 45 rfl) (by decide) (fun hc => ?_) (fun hc => ?_)
            · have hf := kif_neg hc hf
              refine lv_aload_n hx hb (kd dtX11_order_0 49 rfl) rfl (lv_at hl 0 rfl) ?_
              obtain ⟨v16, hv16, hf⟩ := kbind hf
              refine kgetI hv16 F hX hinX11 rfl rfl rfl (by decide) (by decide) wfX11_88 (kd dtX11_order_0 50 rfl) ?_
              obtain ⟨rfl, rfl⟩ := Prod.mk.inj (Option.some.inj hf)
              exact kiret F hX hr hlocks rfl (kd dtX11_order_0 51 rfl)
            · have hf := kif_pos hc hf
              refine lv_aload_n hx hb (kd dtX11_order_0 46 rfl) rfl (lv_at hl 0 rfl) ?_
              obtain ⟨v17, hv17, hf⟩ := kbind hf
              refine kgetI hv17 F hX hinX11 rfl rfl rfl (by decide) (by decide) wfX11_84 (kd dtX11_order_0 47 rfl) ?_
              refine lv_goto (tgt := 101) hx hb (kd dtX11_order_0 48 rfl) (by decide) ?_
              obtain ⟨rfl, rfl⟩ := Prod.mk.inj (Option.some.inj hf)
              exact kiret F hX hr hlocks rfl (kd dtX11_order_0 51 rfl)
          · have hf := kif_neg hc hf
            refine lv_iload hx hb (kd dtX11_order_0 26 rfl) (lv_at hl 0 rfl) ?_
            obtain ⟨rfl, rfl⟩ := Prod.mk.inj (Option.some.inj hf)
            exact kiret F hX hr hlocks rfl (kd dtX11_order_0 27 rfl)
        · have hf := kif_neg hc hf
          refine lv_iconst (v := (-1 : Int32)) hx hb (kd dtX11_order_0 18 rfl) (by decide) ?_
          obtain ⟨rfl, rfl⟩ := Prod.mk.inj (Option.some.inj hf)
          exact kiret F hX hr hlocks rfl (kd dtX11_order_0 19 rfl)
def lX11_layPlaces_0 : List (Nat × Instr × Nat) := [(0, .iload_n 1, 1), (1, .istore_n 3, 1), (2, .iconst 2, 1), (3, .istore 4, 2), (5, .iload 4, 2), (7, .ifCond .lt 23, 3), (10, .aload_n 0, 1), (11, .getfield 80, 3), (14, .iload 4, 2), (16, .iload_n 3, 1), (17, .iconst 3, 1), (18, .irem, 1), (19, .iastore, 1), (20, .iload_n 3, 1), (21, .iconst 3, 1), (22, .idiv, 1), (23, .istore_n 3, 1), (24, .iinc 4 (-1), 3), (27, .goto (-22), 3), (30, .iconst 0, 1), (31, .istore 4, 2), (33, .iload 4, 2), (35, .iconst 3, 1), (36, .if_icmp .ge 78, 3), (39, .iconst 0, 1), (40, .istore 5, 2), (42, .iload 5, 2), (44, .iload 4, 2), (46, .if_icmp .ge 28, 3), (49, .aload_n 0, 1), (50, .getfield 80, 3), (53, .iload 4, 2), (55, .iaload, 1), (56, .aload_n 0, 1), (57, .getfield 80, 3), (60, .iload 5, 2), (62, .iaload, 1), (63, .if_icmp .ne 5, 3), (66, .iconst 0, 1), (67, .ireturn, 1), (68, .iinc 5 1, 3), (71, .goto (-29), 3), (74, .iload 4, 2), (76, .iload_n 2, 1), (77, .if_icmp .ge 17, 3), (80, .aload_n 0, 1), (81, .getfield 80, 3), (84, .iload 4, 2), (86, .iaload, 1), (87, .iload_n 2, 1), (88, .if_icmp .lt 20, 3), (91, .goto 15, 3), (94, .aload_n 0, 1), (95, .getfield 80, 3), (98, .iload 4, 2), (100, .iaload, 1), (101, .iload 4, 2), (103, .if_icmp .eq 5, 3), (106, .iconst 0, 1), (107, .ireturn, 1), (108, .iinc 4 1, 3), (111, .goto (-78), 3), (114, .iconst 1, 1), (115, .ireturn, 1)]
theorem dtX11_layPlaces_0 : kDec cX11_layPlaces lX11_layPlaces_0 = true := by decide +kernel
noncomputable def fX11_layPlaces_L5 (x0 : Nat) (x1 : Int32) (x2 : Int32) : Nat → (Int32 → Int32 → kW → Option (Int32 × kW)) → Int32 → Int32 → kW → Option (Int32 × kW)
  | 0, _, _, _, _ => none
  | n + 1, k, x3, x4, w =>
  if x4 < 0 then
  k x3 x4 w
  else
  (kgP w 11 (some x0) 11).bind fun v1 =>
  (ksI w 14 v1 x4 (x3 - x3 / (3 : Int32) * (3 : Int32))).bind fun w2 =>
  fX11_layPlaces_L5 x0 x1 x2 n k (x3 / (3 : Int32)) (x4 + (-1 : Int32)) w2

noncomputable def fX11_layPlaces_L42 (x0 : Nat) (x1 : Int32) (x2 : Int32) (x3 : Int32) (x4 : Int32) (w : kW) : Nat → (Int32 → Option (Int32 × kW)) → Int32 → Option (Int32 × kW)
  | 0, _, _ => none
  | n + 1, k, x5 =>
  if x4 ≤ x5 then
  k x5
  else
  (kgP w 11 (some x0) 11).bind fun v1 =>
  (kaI w 14 v1 x4).bind fun v2 =>
  (kgP w 11 (some x0) 11).bind fun v3 =>
  (kaI w 14 v3 x5).bind fun v4 =>
  if v2 = v4 then
  some ((0 : Int32), w)
  else
  fX11_layPlaces_L42 x0 x1 x2 x3 x4 w n k (x5 + (1 : Int32))

noncomputable def fX11_layPlaces_L33 (x0 : Nat) (x1 : Int32) (x2 : Int32) (x3 : Int32) (w : kW) : Nat → (Int32 → Option (Int32 × kW)) → Int32 → Option (Int32 × kW)
  | 0, _, _ => none
  | n + 1, k, x4 =>
  if (3 : Int32) ≤ x4 then
  k x4
  else
  fX11_layPlaces_L42 x0 x1 x2 x3 x4 w kFU (fun y5_1 => if x2 ≤ x4 then
  (kgP w 11 (some x0) 11).bind fun v2 =>
  (kaI w 14 v2 x4).bind fun v3 =>
  if v3 = x4 then
  fX11_layPlaces_L33 x0 x1 x2 x3 w n k (x4 + (1 : Int32))
  else
  some ((0 : Int32), w)
  else
  (kgP w 11 (some x0) 11).bind fun v4 =>
  (kaI w 14 v4 x4).bind fun v5 =>
  if v5 < x2 then
  fX11_layPlaces_L33 x0 x1 x2 x3 w n k (x4 + (1 : Int32))
  else
  some ((0 : Int32), w)) (0 : Int32)

noncomputable def fX11_layPlaces (x0 : Nat) (x1 : Int32) (x2 : Int32) (w : kW) : Option (Int32 × kW) :=
  fX11_layPlaces_L5 x0 x1 x2 kFU (fun y3_1 y4_2 w3 => fX11_layPlaces_L33 x0 x1 x2 y3_1 w3 kFU (fun y4_4 => some ((1 : Int32), w3)) (0 : Int32)) x1 (2 : Int32) w

set_option maxHeartbeats 4000000 in
set_option maxRecDepth 100000 in
theorem rX11_layPlaces (l : Launch) (D : va_G) (aC : Nat → ClassId) {x0 : Nat} {x1 : Int32} {x2 : Int32} {w : kW} {wR : kW} {oR : Int32} (h : fX11_layPlaces x0 x1 x2 w = some (oR, wR)) : kC l D aC yX11_layPlaces cX11_layPlaces 6 (some .boolean) 1 12 [.ref x0, .int x1, .int x2] w (some (.int oR)) wR 0 0 := by
  refine kOf (own := RX11) (by decide) rfl (Nat.le_of_ble_eq_true rfl) ?_
  intro p e s m below meth c ls F hml hr hlocks hnm hX hZ hl
  obtain ⟨hx, hb, hts, hown, hK⟩ := id F
  have hl : lv_has ls 6 [(0, .ref x0), (1, .int x1), (2, .int x2)] := hl
  have hf := h
  rw [fX11_layPlaces] at hf
  refine lv_iload_n hx hb (kd dtX11_layPlaces_0 0 rfl) rfl (lv_at hl 1 rfl) ?_
  refine lv_istore_n (lv' := [(3, .int x1), (0, .ref x0), (1, .int x1), (2, .int x2)]) hx hb (kd dtX11_layPlaces_0 1 rfl) rfl hl (by decide) rfl (fun ls hl => ?_)
  refine lv_iconst (v := (2 : Int32)) hx hb (kd dtX11_layPlaces_0 2 rfl) (by decide) ?_
  refine lv_istore (lv' := [(4, .int (2 : Int32)), (3, .int x1), (0, .ref x0), (1, .int x1), (2, .int x2)]) hx hb (kd dtX11_layPlaces_0 3 rfl) hl (by decide) rfl (fun ls hl => ?_)
  have hL5 : ∀ (n : Nat) (k : Int32 → Int32 → kW → Option (Int32 × kW)), ∀ (z3_5 : Int32) (z4_5 : Int32) (w_5 : kW) (H : Heap) (locs : List Loc) (ls : Array Slot), kX D aC w s.heap w_5 H locs → lv_has ls 6 [(0, .ref x0), (1, .int x1), (2, .int x2), (3, .int z3_5), (4, .int z4_5)] → fX11_layPlaces_L5 x0 x1 x2 n k z3_5 z4_5 w_5 = some (oR, wR) → (∀ (z3_5 : Int32) (z4_5 : Int32) (w_5 : kW) (H : Heap) (locs : List Loc) (ls : Array Slot), kX D aC w s.heap w_5 H locs → lv_has ls 6 [(0, .ref x0), (1, .int x1), (2, .int x2), (3, .int z3_5), (4, .int z4_5)] → k z3_5 z4_5 w_5 = some (oR, wR) → W p l e { frames := 1, cells := 0, slots := 0, locals := 12 } s m ([.ref x0, .int x1, .int x2] : List Value).toArray below meth c H locs 0 0 (MQ below (kQc D aC w (some (.int oR)) wR) ([.ref x0, .int x1, .int x2] : List Value).toArray s 0 0 (kA w)) (F0 m 30 ls [])) → W p l e { frames := 1, cells := 0, slots := 0, locals := 12 } s m ([.ref x0, .int x1, .int x2] : List Value).toArray below meth c H locs 0 0 (MQ below (kQc D aC w (some (.int oR)) wR) ([.ref x0, .int x1, .int x2] : List Value).toArray s 0 0 (kA w)) (F0 m 5 ls []) := by
    intro n k
    induction n with
    | zero =>
      intro z3_5 z4_5 w_5 H locs ls hX hl hf hk
      rw [fX11_layPlaces_L5] at hf
      cases hf
    | succ n ih =>
      intro z3_5 z4_5 w_5 H locs ls hX hl hf hk
      rw [fX11_layPlaces_L5] at hf
      refine lv_iload hx hb (kd dtX11_layPlaces_0 4 rfl) (lv_at hl 4 rfl) ?_
      refine lv_if_lt (tgt := 30) hx hb (kd dtX11_layPlaces_0 5 rfl) (by decide) (fun hc => ?_) (fun hc => ?_)
      · have hf := kif_pos hc hf
        exact hk z3_5 z4_5 w_5 _ _ _ hX hl hf
      · have hf := kif_neg hc hf
        refine lv_aload_n hx hb (kd dtX11_layPlaces_0 6 rfl) rfl (lv_at hl 0 rfl) ?_
        obtain ⟨v14, hv14, hf⟩ := kbind hf
        refine kgetP hv14 F hX hinX11 rfl rfl rfl (by decide) (by decide) wfX11_80 (kd dtX11_layPlaces_0 7 rfl) ?_
        refine lv_iload hx hb (kd dtX11_layPlaces_0 8 rfl) (lv_at hl 4 rfl) ?_
        refine lv_iload_n hx hb (kd dtX11_layPlaces_0 9 rfl) rfl (lv_at hl 3 rfl) ?_
        refine lv_iconst (v := (3 : Int32)) hx hb (kd dtX11_layPlaces_0 10 rfl) (by decide) ?_
        refine lv_irem hx hb (kd dtX11_layPlaces_0 11 rfl) (by decide) ?_
        obtain ⟨w15, hw15, hf⟩ := kbind hf
        refine kast hw15 F hX (kd dtX11_layPlaces_0 12 rfl) (fun H locs hX => ?_)
        refine lv_iload_n hx hb (kd dtX11_layPlaces_0 13 rfl) rfl (lv_at hl 3 rfl) ?_
        refine lv_iconst (v := (3 : Int32)) hx hb (kd dtX11_layPlaces_0 14 rfl) (by decide) ?_
        refine lv_idiv hx hb (kd dtX11_layPlaces_0 15 rfl) (by decide) ?_
        refine lv_istore_n (lv' := [(3, .int (z3_5 / (3 : Int32))), (0, .ref x0), (1, .int x1), (2, .int x2), (4, .int z4_5)]) hx hb (kd dtX11_layPlaces_0 16 rfl) rfl hl (by decide) rfl (fun ls hl => ?_)
        refine lv_iinc (v := z4_5 + (-1 : Int32)) (lv' := [(4, .int (z4_5 + (-1 : Int32))), (3, .int (z3_5 / (3 : Int32))), (0, .ref x0), (1, .int x1), (2, .int x2)]) hx hb (kd dtX11_layPlaces_0 17 rfl) hl (k := 4) rfl (by rfl) (by decide) rfl (fun ls hl => ?_)
        refine lv_goto (tgt := 5) hx hb (kd dtX11_layPlaces_0 18 rfl) (by decide) ?_
        exact ih (z3_5 / (3 : Int32)) (z4_5 + (-1 : Int32)) w15 _ _ _ hX (lv_sub hl [2, 3, 4, 1, 0] rfl) hf hk
  refine hL5 kFU _ x1 (2 : Int32) w _ _ _ hX (lv_sub hl [2, 3, 4, 1, 0] rfl) hf ?_
  intro y3_1 y4_2 w3 H locs ls hX hl hf
  refine lv_iconst (v := (0 : Int32)) hx hb (kd dtX11_layPlaces_0 19 rfl) (by decide) ?_
  refine lv_istore (lv' := [(4, .int (0 : Int32)), (0, .ref x0), (1, .int x1), (2, .int x2), (3, .int y3_1)]) hx hb (kd dtX11_layPlaces_0 20 rfl) hl (by decide) rfl (fun ls hl => ?_)
  have hL33 : ∀ (n : Nat) (k : Int32 → Option (Int32 × kW)), ∀ (z4_33 : Int32) (H : Heap) (locs : List Loc) (ls : Array Slot), kX D aC w s.heap w3 H locs → lv_has ls 6 [(0, .ref x0), (1, .int x1), (2, .int x2), (3, .int y3_1), (4, .int z4_33)] → fX11_layPlaces_L33 x0 x1 x2 y3_1 w3 n k z4_33 = some (oR, wR) → (∀ (z4_33 : Int32) (H : Heap) (locs : List Loc) (ls : Array Slot), kX D aC w s.heap w3 H locs → lv_has ls 6 [(0, .ref x0), (1, .int x1), (2, .int x2), (3, .int y3_1), (4, .int z4_33)] → k z4_33 = some (oR, wR) → W p l e { frames := 1, cells := 0, slots := 0, locals := 12 } s m ([.ref x0, .int x1, .int x2] : List Value).toArray below meth c H locs 0 0 (MQ below (kQc D aC w (some (.int oR)) wR) ([.ref x0, .int x1, .int x2] : List Value).toArray s 0 0 (kA w)) (F0 m 114 ls [])) → W p l e { frames := 1, cells := 0, slots := 0, locals := 12 } s m ([.ref x0, .int x1, .int x2] : List Value).toArray below meth c H locs 0 0 (MQ below (kQc D aC w (some (.int oR)) wR) ([.ref x0, .int x1, .int x2] : List Value).toArray s 0 0 (kA w)) (F0 m 33 ls []) := by
    intro n k
    induction n with
    | zero =>
      intro z4_33 H locs ls hX hl hf hk
      rw [fX11_layPlaces_L33] at hf
      cases hf
    | succ n ih =>
      intro z4_33 H locs ls hX hl hf hk
      rw [fX11_layPlaces_L33] at hf
      refine lv_iload hx hb (kd dtX11_layPlaces_0 21 rfl) (lv_at hl 4 rfl) ?_
      refine lv_iconst (v := (3 : Int32)) hx hb (kd dtX11_layPlaces_0 22 rfl) (by decide) ?_
      refine lv_icmp_ge (tgt := 114) hx hb (kd dtX11_layPlaces_0 23 rfl) (by decide) (fun hc => ?_) (fun hc => ?_)
      · have hf := kif_pos hc hf
        exact hk z4_33 _ _ _ hX hl hf
      · have hf := kif_neg hc hf
        refine lv_iconst (v := (0 : Int32)) hx hb (kd dtX11_layPlaces_0 24 rfl) (by decide) ?_
        refine lv_istore (lv' := [(5, .int (0 : Int32)), (0, .ref x0), (1, .int x1), (2, .int x2), (3, .int y3_1), (4, .int z4_33)]) hx hb (kd dtX11_layPlaces_0 25 rfl) hl (by decide) rfl (fun ls hl => ?_)
        have hL42 : ∀ (n : Nat) (k : Int32 → Option (Int32 × kW)), ∀ (z5_42 : Int32) (H : Heap) (locs : List Loc) (ls : Array Slot), kX D aC w s.heap w3 H locs → lv_has ls 6 [(0, .ref x0), (1, .int x1), (2, .int x2), (3, .int y3_1), (4, .int z4_33), (5, .int z5_42)] → fX11_layPlaces_L42 x0 x1 x2 y3_1 z4_33 w3 n k z5_42 = some (oR, wR) → (∀ (z5_42 : Int32) (H : Heap) (locs : List Loc) (ls : Array Slot), kX D aC w s.heap w3 H locs → lv_has ls 6 [(0, .ref x0), (1, .int x1), (2, .int x2), (3, .int y3_1), (4, .int z4_33), (5, .int z5_42)] → k z5_42 = some (oR, wR) → W p l e { frames := 1, cells := 0, slots := 0, locals := 12 } s m ([.ref x0, .int x1, .int x2] : List Value).toArray below meth c H locs 0 0 (MQ below (kQc D aC w (some (.int oR)) wR) ([.ref x0, .int x1, .int x2] : List Value).toArray s 0 0 (kA w)) (F0 m 74 ls [])) → W p l e { frames := 1, cells := 0, slots := 0, locals := 12 } s m ([.ref x0, .int x1, .int x2] : List Value).toArray below meth c H locs 0 0 (MQ below (kQc D aC w (some (.int oR)) wR) ([.ref x0, .int x1, .int x2] : List Value).toArray s 0 0 (kA w)) (F0 m 42 ls []) := by
          intro n k
          induction n with
          | zero =>
            intro z5_42 H locs ls hX hl hf hk
            rw [fX11_layPlaces_L42] at hf
            cases hf
          | succ n ih =>
            intro z5_42 H locs ls hX hl hf hk
            rw [fX11_layPlaces_L42] at hf
            refine lv_iload hx hb (kd dtX11_layPlaces_0 26 rfl) (lv_at hl 5 rfl) ?_
            refine lv_iload hx hb (kd dtX11_layPlaces_0 27 rfl) (lv_at hl 4 rfl) ?_
            refine lv_icmp_ge (tgt := 74) hx hb (kd dtX11_layPlaces_0 28 rfl) (by decide) (fun hc => ?_) (fun hc => ?_)
            · have hf := kif_pos hc hf
              exact hk z5_42 _ _ _ hX hl hf
            · have hf := kif_neg hc hf
              refine lv_aload_n hx hb (kd dtX11_layPlaces_0 29 rfl) rfl (lv_at hl 0 rfl) ?_
              obtain ⟨v10, hv10, hf⟩ := kbind hf
              refine kgetP hv10 F hX hinX11 rfl rfl rfl (by decide) (by decide) wfX11_80 (kd dtX11_layPlaces_0 30 rfl) ?_
              refine lv_iload hx hb (kd dtX11_layPlaces_0 31 rfl) (lv_at hl 4 rfl) ?_
              obtain ⟨v11, hv11, hf⟩ := kbind hf
              refine kald hv11 F hX (kd dtX11_layPlaces_0 32 rfl) ?_
              refine lv_aload_n hx hb (kd dtX11_layPlaces_0 33 rfl) rfl (lv_at hl 0 rfl) ?_
              obtain ⟨v12, hv12, hf⟩ := kbind hf
              refine kgetP hv12 F hX hinX11 rfl rfl rfl (by decide) (by decide) wfX11_80 (kd dtX11_layPlaces_0 34 rfl) ?_
              refine lv_iload hx hb (kd dtX11_layPlaces_0 35 rfl) (lv_at hl 5 rfl) ?_
              obtain ⟨v13, hv13, hf⟩ := kbind hf
              refine kald hv13 F hX (kd dtX11_layPlaces_0 36 rfl) ?_
              refine lv_icmp_ne (tgt := 68) hx hb (kd dtX11_layPlaces_0 37 rfl) (by decide) (fun hc => ?_) (fun hc => ?_)
              · have hf := kif_neg hc hf
                refine lv_iinc (v := z5_42 + (1 : Int32)) (lv' := [(5, .int (z5_42 + (1 : Int32))), (0, .ref x0), (1, .int x1), (2, .int x2), (3, .int y3_1), (4, .int z4_33)]) hx hb (kd dtX11_layPlaces_0 40 rfl) hl (k := 5) rfl (by rfl) (by decide) rfl (fun ls hl => ?_)
                refine lv_goto (tgt := 42) hx hb (kd dtX11_layPlaces_0 41 rfl) (by decide) ?_
                exact ih (z5_42 + (1 : Int32)) _ _ _ hX (lv_sub hl [1, 2, 3, 4, 5, 0] rfl) hf hk
              · have hf := kif_pos hc hf
                refine lv_iconst (v := (0 : Int32)) hx hb (kd dtX11_layPlaces_0 38 rfl) (by decide) ?_
                obtain ⟨rfl, rfl⟩ := Prod.mk.inj (Option.some.inj hf)
                exact kzret F hX hr hlocks rfl rfl (kd dtX11_layPlaces_0 39 rfl)
        refine hL42 kFU _ (0 : Int32) _ _ _ hX (lv_sub hl [1, 2, 3, 4, 5, 0] rfl) hf ?_
        intro y5_5 H locs ls hX hl hf
        refine lv_iload hx hb (kd dtX11_layPlaces_0 42 rfl) (lv_at hl 4 rfl) ?_
        refine lv_iload_n hx hb (kd dtX11_layPlaces_0 43 rfl) rfl (lv_at hl 2 rfl) ?_
        refine lv_icmp_ge (tgt := 94) hx hb (kd dtX11_layPlaces_0 44 rfl) (by decide) (fun hc => ?_) (fun hc => ?_)
        · have hf := kif_pos hc hf
          refine lv_aload_n hx hb (kd dtX11_layPlaces_0 52 rfl) rfl (lv_at hl 0 rfl) ?_
          obtain ⟨v6, hv6, hf⟩ := kbind hf
          refine kgetP hv6 F hX hinX11 rfl rfl rfl (by decide) (by decide) wfX11_80 (kd dtX11_layPlaces_0 53 rfl) ?_
          refine lv_iload hx hb (kd dtX11_layPlaces_0 54 rfl) (lv_at hl 4 rfl) ?_
          obtain ⟨v7, hv7, hf⟩ := kbind hf
          refine kald hv7 F hX (kd dtX11_layPlaces_0 55 rfl) ?_
          refine lv_iload hx hb (kd dtX11_layPlaces_0 56 rfl) (lv_at hl 4 rfl) ?_
          refine lv_icmp_eq (tgt := 108) hx hb (kd dtX11_layPlaces_0 57 rfl) (by decide) (fun hc => ?_) (fun hc => ?_)
          · have hf := kif_pos hc hf
            refine lv_iinc (v := z4_33 + (1 : Int32)) (lv' := [(4, .int (z4_33 + (1 : Int32))), (0, .ref x0), (1, .int x1), (2, .int x2), (3, .int y3_1), (5, .int y5_5)]) hx hb (kd dtX11_layPlaces_0 60 rfl) hl (k := 4) rfl (by rfl) (by decide) rfl (fun ls hl => ?_)
            refine lv_goto (tgt := 33) hx hb (kd dtX11_layPlaces_0 61 rfl) (by decide) ?_
            exact ih (z4_33 + (1 : Int32)) _ _ _ hX (lv_sub hl [1, 2, 3, 4, 0] rfl) hf hk
          · have hf := kif_neg hc hf
            refine lv_iconst (v := (0 : Int32)) hx hb (kd dtX11_layPlaces_0 58 rfl) (by decide) ?_
            obtain ⟨rfl, rfl⟩ := Prod.mk.inj (Option.some.inj hf)
            exact kzret F hX hr hlocks rfl rfl (kd dtX11_layPlaces_0 59 rfl)
        · have hf := kif_neg hc hf
          refine lv_aload_n hx hb (kd dtX11_layPlaces_0 45 rfl) rfl (lv_at hl 0 rfl) ?_
          obtain ⟨v8, hv8, hf⟩ := kbind hf
          refine kgetP hv8 F hX hinX11 rfl rfl rfl (by decide) (by decide) wfX11_80 (kd dtX11_layPlaces_0 46 rfl) ?_
          refine lv_iload hx hb (kd dtX11_layPlaces_0 47 rfl) (lv_at hl 4 rfl) ?_
          obtain ⟨v9, hv9, hf⟩ := kbind hf
          refine kald hv9 F hX (kd dtX11_layPlaces_0 48 rfl) ?_
          refine lv_iload_n hx hb (kd dtX11_layPlaces_0 49 rfl) rfl (lv_at hl 2 rfl) ?_
          refine lv_icmp_lt (tgt := 108) hx hb (kd dtX11_layPlaces_0 50 rfl) (by decide) (fun hc => ?_) (fun hc => ?_)
          · have hf := kif_pos hc hf
            refine lv_iinc (v := z4_33 + (1 : Int32)) (lv' := [(4, .int (z4_33 + (1 : Int32))), (0, .ref x0), (1, .int x1), (2, .int x2), (3, .int y3_1), (5, .int y5_5)]) hx hb (kd dtX11_layPlaces_0 60 rfl) hl (k := 4) rfl (by rfl) (by decide) rfl (fun ls hl => ?_)
            refine lv_goto (tgt := 33) hx hb (kd dtX11_layPlaces_0 61 rfl) (by decide) ?_
            exact ih (z4_33 + (1 : Int32)) _ _ _ hX (lv_sub hl [1, 2, 3, 4, 0] rfl) hf hk
          · have hf := kif_neg hc hf
            refine lv_goto (tgt := 106) hx hb (kd dtX11_layPlaces_0 51 rfl) (by decide) ?_
            refine lv_iconst (v := (0 : Int32)) hx hb (kd dtX11_layPlaces_0 58 rfl) (by decide) ?_
            obtain ⟨rfl, rfl⟩ := Prod.mk.inj (Option.some.inj hf)
            exact kzret F hX hr hlocks rfl rfl (kd dtX11_layPlaces_0 59 rfl)
  refine hL33 kFU _ (0 : Int32) _ _ _ hX (lv_sub hl [1, 2, 3, 4, 0] rfl) hf ?_
  intro y4_4 H locs ls hX hl hf
  refine lv_iconst (v := (1 : Int32)) hx hb (kd dtX11_layPlaces_0 62 rfl) (by decide) ?_
  obtain ⟨rfl, rfl⟩ := Prod.mk.inj (Option.some.inj hf)
  exact kzret F hX hr hlocks rfl rfl (kd dtX11_layPlaces_0 63 rfl)
theorem wmX11_369 : Cond.methodLink RX11 369 Lib.Math.min.name ∈ kT := kTm 1000 (by decide +kernel) rfl
def lX11_placesAsDigits_0 : List (Nat × Instr × Nat) := [(0, .iconst 0, 1), (1, .istore_n 2, 1), (2, .iload_n 1, 1), (3, .iconst 3, 1), (4, .invokestatic 369, 3), (7, .iconst 1, 1), (8, .isub, 1), (9, .istore_n 3, 1), (10, .iload_n 3, 1), (11, .ifCond .lt 21, 3), (14, .iload_n 2, 1), (15, .bipush 8, 2), (17, .imul, 1), (18, .aload_n 0, 1), (19, .getfield 80, 3), (22, .iload_n 3, 1), (23, .iaload, 1), (24, .iadd, 1), (25, .istore_n 2, 1), (26, .iinc 3 (-1), 3), (29, .goto (-19), 3), (32, .iload_n 2, 1), (33, .ireturn, 1)]
theorem dtX11_placesAsDigits_0 : kDec cX11_placesAsDigits lX11_placesAsDigits_0 = true := by decide +kernel
noncomputable def fX11_placesAsDigits_L10 (x0 : Nat) (x1 : Int32) (w : kW) : Nat → (Int32 → Int32 → Option Int32) → Int32 → Int32 → Option Int32
  | 0, _, _, _ => none
  | n + 1, k, x2, x3 =>
  if x3 < 0 then
  k x2 x3
  else
  (kgP w 11 (some x0) 11).bind fun v1 =>
  (kaI w 14 v1 x3).bind fun v2 =>
  fX11_placesAsDigits_L10 x0 x1 w n k ((x2 * (8 : Int32)) + v2) (x3 + (-1 : Int32))

noncomputable def fX11_placesAsDigits (x0 : Nat) (x1 : Int32) (w : kW) : Option Int32 :=
  fX11_placesAsDigits_L10 x0 x1 w kFU (fun y2_1 y3_2 => some y2_1) (0 : Int32) ((kMmin x1 (3 : Int32)) - (1 : Int32))

set_option maxHeartbeats 4000000 in
set_option maxRecDepth 100000 in
theorem rX11_placesAsDigits (l : Launch) (D : va_G) (aC : Nat → ClassId) {x0 : Nat} {x1 : Int32} {w : kW} {oR : Int32} (h : fX11_placesAsDigits x0 x1 w = some oR) : kC l D aC yX11_placesAsDigits cX11_placesAsDigits 4 (some .int) 1 21 [.ref x0, .int x1] w (some (.int oR)) w 0 0 := by
  refine kOf (own := RX11) (by decide) rfl (Nat.le_of_ble_eq_true rfl) ?_
  intro p e s m below meth c ls F hml hr hlocks hnm hX hZ hl
  obtain ⟨hx, hb, hts, hown, hK⟩ := id F
  have hl : lv_has ls 4 [(0, .ref x0), (1, .int x1)] := hl
  have hf := h
  rw [fX11_placesAsDigits] at hf
  refine lv_iconst (v := (0 : Int32)) hx hb (kd dtX11_placesAsDigits_0 0 rfl) (by decide) ?_
  refine lv_istore_n (lv' := [(2, .int (0 : Int32)), (0, .ref x0), (1, .int x1)]) hx hb (kd dtX11_placesAsDigits_0 1 rfl) rfl hl (by decide) rfl (fun ls hl => ?_)
  refine lv_iload_n hx hb (kd dtX11_placesAsDigits_0 2 rfl) rfl (lv_at hl 2 rfl) ?_
  refine lv_iconst (v := (3 : Int32)) hx hb (kd dtX11_placesAsDigits_0 3 rfl) (by decide) ?_
  refine kmmin F (hml.trans hl.1.symm) wmX11_369 (Nat.le_of_ble_eq_true rfl) (Nat.le_of_ble_eq_true rfl) (Nat.zero_le _) (Nat.zero_le _) (kd dtX11_placesAsDigits_0 4 rfl) ?_
  refine lv_iconst (v := (1 : Int32)) hx hb (kd dtX11_placesAsDigits_0 5 rfl) (by decide) ?_
  refine lv_isub hx hb (kd dtX11_placesAsDigits_0 6 rfl) ?_
  refine lv_istore_n (lv' := [(3, .int ((kMmin x1 (3 : Int32)) - (1 : Int32))), (2, .int (0 : Int32)), (0, .ref x0), (1, .int x1)]) hx hb (kd dtX11_placesAsDigits_0 7 rfl) rfl hl (by decide) rfl (fun ls hl => ?_)
  have hL10 : ∀ (n : Nat) (k : Int32 → Int32 → Option Int32), ∀ (z2_10 : Int32) (z3_10 : Int32) (H : Heap) (locs : List Loc) (ls : Array Slot), kX D aC w s.heap w H locs → lv_has ls 4 [(0, .ref x0), (1, .int x1), (2, .int z2_10), (3, .int z3_10)] → fX11_placesAsDigits_L10 x0 x1 w n k z2_10 z3_10 = some oR → (∀ (z2_10 : Int32) (z3_10 : Int32) (H : Heap) (locs : List Loc) (ls : Array Slot), kX D aC w s.heap w H locs → lv_has ls 4 [(0, .ref x0), (1, .int x1), (2, .int z2_10), (3, .int z3_10)] → k z2_10 z3_10 = some oR → W p l e { frames := 1, cells := 0, slots := 0, locals := 21 } s m ([.ref x0, .int x1] : List Value).toArray below meth c H locs 0 0 (MQ below (kQc D aC w (some (.int oR)) w) ([.ref x0, .int x1] : List Value).toArray s 0 0 (kA w)) (F0 m 32 ls [])) → W p l e { frames := 1, cells := 0, slots := 0, locals := 21 } s m ([.ref x0, .int x1] : List Value).toArray below meth c H locs 0 0 (MQ below (kQc D aC w (some (.int oR)) w) ([.ref x0, .int x1] : List Value).toArray s 0 0 (kA w)) (F0 m 10 ls []) := by
    intro n k
    induction n with
    | zero =>
      intro z2_10 z3_10 H locs ls hX hl hf hk
      rw [fX11_placesAsDigits_L10] at hf
      cases hf
    | succ n ih =>
      intro z2_10 z3_10 H locs ls hX hl hf hk
      rw [fX11_placesAsDigits_L10] at hf
      refine lv_iload_n hx hb (kd dtX11_placesAsDigits_0 8 rfl) rfl (lv_at hl 3 rfl) ?_
      refine lv_if_lt (tgt := 32) hx hb (kd dtX11_placesAsDigits_0 9 rfl) (by decide) (fun hc => ?_) (fun hc => ?_)
      · have hf := kif_pos hc hf
        exact hk z2_10 z3_10 _ _ _ hX hl hf
      · have hf := kif_neg hc hf
        refine lv_iload_n hx hb (kd dtX11_placesAsDigits_0 10 rfl) rfl (lv_at hl 2 rfl) ?_
        refine lv_bipush (v := (8 : Int32)) hx hb (kd dtX11_placesAsDigits_0 11 rfl) (by decide) ?_
        refine lv_imul hx hb (kd dtX11_placesAsDigits_0 12 rfl) ?_
        refine lv_aload_n hx hb (kd dtX11_placesAsDigits_0 13 rfl) rfl (lv_at hl 0 rfl) ?_
        obtain ⟨v3, hv3, hf⟩ := kbind hf
        refine kgetP hv3 F hX hinX11 rfl rfl rfl (by decide) (by decide) wfX11_80 (kd dtX11_placesAsDigits_0 14 rfl) ?_
        refine lv_iload_n hx hb (kd dtX11_placesAsDigits_0 15 rfl) rfl (lv_at hl 3 rfl) ?_
        obtain ⟨v4, hv4, hf⟩ := kbind hf
        refine kald hv4 F hX (kd dtX11_placesAsDigits_0 16 rfl) ?_
        refine lv_iadd hx hb (kd dtX11_placesAsDigits_0 17 rfl) ?_
        refine lv_istore_n (lv' := [(2, .int ((z2_10 * (8 : Int32)) + v4)), (0, .ref x0), (1, .int x1), (3, .int z3_10)]) hx hb (kd dtX11_placesAsDigits_0 18 rfl) rfl hl (by decide) rfl (fun ls hl => ?_)
        refine lv_iinc (v := z3_10 + (-1 : Int32)) (lv' := [(3, .int (z3_10 + (-1 : Int32))), (2, .int ((z2_10 * (8 : Int32)) + v4)), (0, .ref x0), (1, .int x1)]) hx hb (kd dtX11_placesAsDigits_0 19 rfl) hl (k := 3) rfl (by rfl) (by decide) rfl (fun ls hl => ?_)
        refine lv_goto (tgt := 10) hx hb (kd dtX11_placesAsDigits_0 20 rfl) (by decide) ?_
        exact ih ((z2_10 * (8 : Int32)) + v4) (z3_10 + (-1 : Int32)) _ _ _ hX (lv_sub hl [2, 3, 1, 0] rfl) hf hk
  refine hL10 kFU _ (0 : Int32) ((kMmin x1 (3 : Int32)) - (1 : Int32)) _ _ _ hX (lv_sub hl [2, 3, 1, 0] rfl) hf ?_
  intro y2_1 y3_2 H locs ls hX hl hf
  refine lv_iload_n hx hb (kd dtX11_placesAsDigits_0 21 rfl) rfl (lv_at hl 2 rfl) ?_
  obtain rfl := Option.some.inj hf
  exact kiret F hX hr hlocks rfl (kd dtX11_placesAsDigits_0 22 rfl)
theorem wmX11_267 : Cond.methodLink RX11 267 yX11_layPlaces ∈ kT := kTm 992 (by decide +kernel) rfl
theorem mwX11_layPlaces : kMV RX11 yX11_layPlaces cX11_layPlaces 6 (some .boolean) := ⟨kTm 995 (by decide +kernel) rfl, kTm 94 (by decide +kernel) rfl, kTm 994 (by decide +kernel) rfl, kTm 37 (by decide +kernel) rfl⟩
theorem wmX11_271 : Cond.methodLink RX11 271 yX11_placesAsDigits ∈ kT := kTm 996 (by decide +kernel) rfl
theorem mwX11_placesAsDigits : kMV RX11 yX11_placesAsDigits cX11_placesAsDigits 4 (some .int) := ⟨kTm 999 (by decide +kernel) rfl, kTm 94 (by decide +kernel) rfl, kTm 998 (by decide +kernel) rfl, kTm 38 (by decide +kernel) rfl⟩
def lX11_bestOrder_0 : List (Nat × Instr × Nat) := [(0, .aload_n 0, 1), (1, .getfield 10, 3), (4, .iload_n 1, 1), (5, .invokevirtual 255, 3), (8, .astore 4, 2), (10, .aload_n 0, 1), (11, .iload_n 2, 1), (12, .invokevirtual 99, 3), (15, .astore 5, 2), (17, .aload 4, 2), (19, .ifnull 17, 3), (22, .aload 5, 2), (24, .ifnull 12, 3), (27, .iload_n 3, 1), (28, .ifCond .lt 8, 3), (31, .iload_n 3, 1), (32, .iconst 2, 1), (33, .if_icmp .le 5, 3), (36, .iconst (-1), 1), (37, .ireturn, 1), (38, .aload_n 0, 1), (39, .aload 5, 2), (41, .invokevirtual 259, 3), (44, .istore 6, 2), (46, .iload 6, 2), (48, .ifCond .eq 6, 3), (51, .iload 6, 2), (53, .ireturn, 1), (54, .iconst (-1), 1), (55, .istore 7, 2), (57, .iconst 0, 1), (58, .istore 8, 2), (60, .iconst 0, 1), (61, .istore 9, 2), (63, .iconst 0, 1), (64, .istore 10, 2), (66, .iload 10, 2), (68, .bipush 27, 2), (70, .if_icmp .ge 84, 3), (73, .aload_n 0, 1), (74, .iload 10, 2), (76, .aload 5, 2), (78, .getfield 110, 3), (81, .invokevirtual 267, 3), (84, .ifCond .ne 6, 3), (87, .goto 61, 3), (90, .aload_n 0, 1), (91, .aload 4, 2), (93, .aload 5, 2), (95, .invokevirtual 263, 3), (98, .aload_n 0, 1), (99, .getfield 84, 3), (102, .iload 7, 2), (104, .if_icmp .gt 21, 3), (107, .aload_n 0, 1), (108, .getfield 84, 3), (111, .iload 7, 2), (113, .if_icmp .ne 35, 3), (116, .aload_n 0, 1), (117, .getfield 88, 3), (120, .iload 8, 2), (122, .if_icmp .ge 26, 3), (125, .aload_n 0, 1), (126, .getfield 84, 3), (129, .istore 7, 2), (131, .aload_n 0, 1), (132, .getfield 88, 3), (135, .istore 8, 2), (137, .aload_n 0, 1), (138, .aload 5, 2), (140, .getfield 110, 3), (143, .invokevirtual 271, 3), (146, .istore 9, 2), (148, .iinc 10 1, 3), (151, .goto (-85), 3), (154, .iload_n 3, 1), (155, .ifCond .ne 8, 3), (158, .iload 7, 2), (160, .goto 15, 3), (163, .iload_n 3, 1)]
theorem dtX11_bestOrder_0 : kDec cX11_bestOrder lX11_bestOrder_0 = true := by decide +kernel
def lX11_bestOrder_1 : List (Nat × Instr × Nat) := [(164, .iconst 1, 1), (165, .if_icmp .ne 8, 3), (168, .iload 8, 2), (170, .goto 5, 3), (173, .iload 9, 2), (175, .ireturn, 1)]
theorem dtX11_bestOrder_1 : kDec cX11_bestOrder lX11_bestOrder_1 = true := by decide +kernel
noncomputable def fX11_bestOrder_J66_125 (b k : Int32 → Int32 → Int32 → Int32 → kW → Option (Int32 × kW)) (x0 : Nat) (x1 : Int32) (x2 : Int32) (x3 : Int32) (x4 : Option Nat) (x5 : Option Nat) (x6 : Int32) (x7 : Int32) (x8 : Int32) (x9 : Int32) (x10 : Int32) (w : kW) : Option (Int32 × kW) :=
  (kgI w 11 (some x0) 12).bind fun v1 =>
  (kgI w 11 (some x0) 13).bind fun v2 =>
  (kgI w 6 x5 2).bind fun v3 =>
  (kRc w 11 (some x0)).bind fun b4 =>
  (fX11_placesAsDigits b4 v3 w).bind fun v6 =>
  b v1 v2 v6 (x10 + (1 : Int32)) w

noncomputable def fX11_bestOrder_L66 (x0 : Nat) (x1 : Int32) (x2 : Int32) (x3 : Int32) (x4 : Option Nat) (x5 : Option Nat) (x6 : Int32) : Nat → (Int32 → Int32 → Int32 → Int32 → kW → Option (Int32 × kW)) → Int32 → Int32 → Int32 → Int32 → kW → Option (Int32 × kW)
  | 0, _, _, _, _, _, _ => none
  | n + 1, k, x7, x8, x9, x10, w =>
  if (27 : Int32) ≤ x10 then
  k x7 x8 x9 x10 w
  else
  (kgI w 6 x5 2).bind fun v1 =>
  (kRc w 11 (some x0)).bind fun b2 =>
  kb2 (fX11_layPlaces b2 x10 v1 w) fun v5 w3 =>
  if v5 = 0 then
  fX11_bestOrder_L66 x0 x1 x2 x3 x4 x5 x6 n k x7 x8 x9 (x10 + (1 : Int32)) w3
  else
  (kRc w3 11 (some x0)).bind fun b6 =>
  (fX11_tryOrder b6 x4 x5 w3).bind fun w7 =>
  (kgI w7 11 (some x0) 12).bind fun v9 =>
  if x7 < v9 then
  fX11_bestOrder_J66_125 (fun q7 q8 q9 q10 qw => fX11_bestOrder_L66 x0 x1 x2 x3 x4 x5 x6 n k q7 q8 q9 q10 qw) k x0 x1 x2 x3 x4 x5 x6 x7 x8 x9 x10 w7
  else
  (kgI w7 11 (some x0) 12).bind fun v10 =>
  if v10 = x7 then
  (kgI w7 11 (some x0) 13).bind fun v11 =>
  if x8 ≤ v11 then
  fX11_bestOrder_L66 x0 x1 x2 x3 x4 x5 x6 n k x7 x8 x9 (x10 + (1 : Int32)) w7
  else
  fX11_bestOrder_J66_125 (fun q7 q8 q9 q10 qw => fX11_bestOrder_L66 x0 x1 x2 x3 x4 x5 x6 n k q7 q8 q9 q10 qw) k x0 x1 x2 x3 x4 x5 x6 x7 x8 x9 x10 w7
  else
  fX11_bestOrder_L66 x0 x1 x2 x3 x4 x5 x6 n k x7 x8 x9 (x10 + (1 : Int32)) w7

noncomputable def fX11_bestOrder (x0 : Nat) (x1 : Int32) (x2 : Int32) (x3 : Int32) (w : kW) : Option (Int32 × kW) :=
  (kgP w 11 (some x0) 0).bind fun v1 =>
  (kRc w 8 v1).bind fun b2 =>
  (fX8_programAt b2 x1 w).bind fun v4 =>
  (kRc w 11 (some x0)).bind fun b5 =>
  (fX11_shelfAt b5 x2 w).bind fun v7 =>
  if v4 = none then
  some ((-1 : Int32), w)
  else
  if v7 = none then
  some ((-1 : Int32), w)
  else
  if x3 < 0 then
  some ((-1 : Int32), w)
  else
  if x3 ≤ (2 : Int32) then
  (kRc w 11 (some x0)).bind fun b8 =>
  (fX11_problemsRefusal b8 v7 w).bind fun v10 =>
  if v10 = 0 then
  fX11_bestOrder_L66 x0 x1 x2 x3 v4 v7 v10 kFU (fun y7_11 y8_12 y9_13 y10_14 w15 => if x3 = 0 then
  some (y7_11, w15)
  else
  if x3 = (1 : Int32) then
  some (y8_12, w15)
  else
  some (y9_13, w15)) (-1 : Int32) (0 : Int32) (0 : Int32) (0 : Int32) w
  else
  some (v10, w)
  else
  some ((-1 : Int32), w)

set_option maxHeartbeats 4000000 in
set_option maxRecDepth 100000 in
theorem rX11_bestOrder (l : Launch) (D : va_G) (aC : Nat → ClassId) {x0 : Nat} {x1 : Int32} {x2 : Int32} {x3 : Int32} {w : kW} {wR : kW} {oR : Int32} (h : fX11_bestOrder x0 x1 x2 x3 w = some (oR, wR)) : kC l D aC yX11_bestOrder cX11_bestOrder 11 (some .int) 8 179 [.ref x0, .int x1, .int x2, .int x3] w (some (.int oR)) wR 0 0 := by
  refine kOf (own := RX11) (by decide) rfl (Nat.le_of_ble_eq_true rfl) ?_
  intro p e s m below meth c ls F hml hr hlocks hnm hX hZ hl
  obtain ⟨hx, hb, hts, hown, hK⟩ := id F
  have hl : lv_has ls 11 [(0, .ref x0), (1, .int x1), (2, .int x2), (3, .int x3)] := hl
  have hf := h
  rw [fX11_bestOrder] at hf
  refine lv_aload_n hx hb (kd dtX11_bestOrder_0 0 rfl) rfl (lv_at hl 0 rfl) ?_
  obtain ⟨v1, hv1, hf⟩ := kbind hf
  refine kgetP hv1 F hX hinX11 rfl rfl rfl (by decide) (by decide) wfX11_10 (kd dtX11_bestOrder_0 1 rfl) ?_
  refine lv_iload_n hx hb (kd dtX11_bestOrder_0 2 rfl) rfl (lv_at hl 1 rfl) ?_
  obtain ⟨b2, hb2, hf⟩ := kbind hf
  obtain ⟨hrb2, hkb2⟩ := kRc_s hb2
  obtain ⟨v4, h3, hf⟩ := kbind hf
  refine kcallV (n := 1) [.int x1] [] [va_rf v4] (rX8_programAt l D aC h3) hrb2 hkb2 F hml hX hZ hl.1 mwX8_programAt wmX11_255 rfl (by decide) (by decide +kernel) ⟨(by decide), (by decide)⟩ rfl rfl rfl (Nat.le_of_ble_eq_true rfl) (kd dtX11_bestOrder_0 3 rfl) ⟨Nat.zero_le _, Nat.zero_le _⟩ (fun H locs hX => ?_)
  refine kastore (lv' := [(4, va_rf v4), (0, .ref x0), (1, .int x1), (2, .int x2), (3, .int x3)]) hx hb (kd dtX11_bestOrder_0 4 rfl) hl (by decide) rfl (fun ls hl => ?_)
  refine lv_aload_n hx hb (kd dtX11_bestOrder_0 5 rfl) rfl (lv_at hl 1 rfl) ?_
  refine lv_iload_n hx hb (kd dtX11_bestOrder_0 6 rfl) rfl (lv_at hl 3 rfl) ?_
  obtain ⟨b5, hb5, hf⟩ := kbind hf
  obtain ⟨hrb5, hkb5⟩ := kRc_s hb5
  obtain ⟨v7, h6, hf⟩ := kbind hf
  refine kcallV (n := 1) [.int x2] [] [va_rf v7] (rX11_shelfAt l D aC h6) hrb5 hkb5 F hml hX hZ hl.1 mwX11_shelfAt wmX11_99 rfl (by decide) (by decide +kernel) ⟨(by decide), (by decide)⟩ rfl rfl rfl (Nat.le_of_ble_eq_true rfl) (kd dtX11_bestOrder_0 7 rfl) ⟨Nat.zero_le _, Nat.zero_le _⟩ (fun H locs hX => ?_)
  refine kastore (i := 5) (lv' := [(5, va_rf v7), (4, va_rf v4), (0, .ref x0), (1, .int x1), (2, .int x2), (3, .int x3)]) hx hb (kd dtX11_bestOrder_0 8 rfl) hl (by decide) (by simp [kcat_rf, kcat_i, kcat_r, kcat_l]) (fun ls hl => ?_)
  refine kaload hx hb (kd dtX11_bestOrder_0 9 rfl) (lv_at hl 1 rfl) ?_
  refine kifnull (tgt := 36) hx hb (kd dtX11_bestOrder_0 10 rfl) (by decide) (fun hc => ?_) (fun hc => ?_)
  · have hf := kif_pos hc hf
    refine lv_iconst (v := (-1 : Int32)) hx hb (kd dtX11_bestOrder_0 18 rfl) (by decide) ?_
    obtain ⟨rfl, rfl⟩ := Prod.mk.inj (Option.some.inj hf)
    exact kiret F hX hr hlocks rfl (kd dtX11_bestOrder_0 19 rfl)
  · have hf := kif_neg hc hf
    refine kaload hx hb (kd dtX11_bestOrder_0 11 rfl) (lv_at hl 0 rfl) ?_
    refine kifnull (tgt := 36) hx hb (kd dtX11_bestOrder_0 12 rfl) (by decide) (fun hc => ?_) (fun hc => ?_)
    · have hf := kif_pos hc hf
      refine lv_iconst (v := (-1 : Int32)) hx hb (kd dtX11_bestOrder_0 18 rfl) (by decide) ?_
      obtain ⟨rfl, rfl⟩ := Prod.mk.inj (Option.some.inj hf)
      exact kiret F hX hr hlocks rfl (kd dtX11_bestOrder_0 19 rfl)
    · have hf := kif_neg hc hf
      refine lv_iload_n hx hb (kd dtX11_bestOrder_0 13 rfl) rfl (lv_at hl 5 rfl) ?_
      refine lv_if_lt (tgt := 36) hx hb (kd dtX11_bestOrder_0 14 rfl) (by decide) (fun hc => ?_) (fun hc => ?_)
      · have hf := kif_pos hc hf
        refine lv_iconst (v := (-1 : Int32)) hx hb (kd dtX11_bestOrder_0 18 rfl) (by decide) ?_
        obtain ⟨rfl, rfl⟩ := Prod.mk.inj (Option.some.inj hf)
        exact kiret F hX hr hlocks rfl (kd dtX11_bestOrder_0 19 rfl)
      · have hf := kif_neg hc hf
        refine lv_iload_n hx hb (kd dtX11_bestOrder_0 15 rfl) rfl (lv_at hl 5 rfl) ?_
        refine lv_iconst (v := (2 : Int32)) hx hb (kd dtX11_bestOrder_0 16 rfl) (by decide) ?_
        refine lv_icmp_le (tgt := 38) hx hb (kd dtX11_bestOrder_0 17 rfl) (by decide) (fun hc => ?_) (fun hc => ?_)
        · have hf := kif_pos hc hf
          refine lv_aload_n hx hb (kd dtX11_bestOrder_0 20 rfl) rfl (lv_at hl 2 rfl) ?_
          refine kaload hx hb (kd dtX11_bestOrder_0 21 rfl) (lv_at hl 0 rfl) ?_
          obtain ⟨b8, hb8, hf⟩ := kbind hf
          obtain ⟨hrb8, hkb8⟩ := kRc_s hb8
          obtain ⟨v10, h9, hf⟩ := kbind hf
          refine kcallV (n := 1) [va_rf v7] [] [.int v10] (rX11_problemsRefusal l D aC h9) hrb8 hkb8 F hml hX hZ hl.1 mwX11_problemsRefusal wmX11_259 rfl (by decide) (by decide +kernel) ⟨(by decide), (by decide)⟩ rfl rfl rfl (Nat.le_of_ble_eq_true rfl) (kd dtX11_bestOrder_0 22 rfl) ⟨Nat.zero_le _, Nat.zero_le _⟩ (fun H locs hX => ?_)
          refine lv_istore (i := 6) (lv' := [(6, .int v10), (5, va_rf v7), (4, va_rf v4), (0, .ref x0), (1, .int x1), (2, .int x2), (3, .int x3)]) hx hb (kd dtX11_bestOrder_0 23 rfl) hl (by decide) (by simp [kcat_rf, kcat_i, kcat_r, kcat_l]) (fun ls hl => ?_)
          refine lv_iload hx hb (kd dtX11_bestOrder_0 24 rfl) (lv_at hl 0 rfl) ?_
          refine lv_if_eq (tgt := 54) hx hb (kd dtX11_bestOrder_0 25 rfl) (by decide) (fun hc => ?_) (fun hc => ?_)
          · have hf := kif_pos hc hf
            refine lv_iconst (v := (-1 : Int32)) hx hb (kd dtX11_bestOrder_0 28 rfl) (by decide) ?_
            refine lv_istore (lv' := [(7, .int (-1 : Int32)), (6, .int v10), (5, va_rf v7), (4, va_rf v4), (0, .ref x0), (1, .int x1), (2, .int x2), (3, .int x3)]) hx hb (kd dtX11_bestOrder_0 29 rfl) hl (by decide) rfl (fun ls hl => ?_)
            refine lv_iconst (v := (0 : Int32)) hx hb (kd dtX11_bestOrder_0 30 rfl) (by decide) ?_
            refine lv_istore (lv' := [(8, .int (0 : Int32)), (7, .int (-1 : Int32)), (6, .int v10), (5, va_rf v7), (4, va_rf v4), (0, .ref x0), (1, .int x1), (2, .int x2), (3, .int x3)]) hx hb (kd dtX11_bestOrder_0 31 rfl) hl (by decide) rfl (fun ls hl => ?_)
            refine lv_iconst (v := (0 : Int32)) hx hb (kd dtX11_bestOrder_0 32 rfl) (by decide) ?_
            refine lv_istore (lv' := [(9, .int (0 : Int32)), (8, .int (0 : Int32)), (7, .int (-1 : Int32)), (6, .int v10), (5, va_rf v7), (4, va_rf v4), (0, .ref x0), (1, .int x1), (2, .int x2), (3, .int x3)]) hx hb (kd dtX11_bestOrder_0 33 rfl) hl (by decide) rfl (fun ls hl => ?_)
            refine lv_iconst (v := (0 : Int32)) hx hb (kd dtX11_bestOrder_0 34 rfl) (by decide) ?_
            refine lv_istore (lv' := [(10, .int (0 : Int32)), (9, .int (0 : Int32)), (8, .int (0 : Int32)), (7, .int (-1 : Int32)), (6, .int v10), (5, va_rf v7), (4, va_rf v4), (0, .ref x0), (1, .int x1), (2, .int x2), (3, .int x3)]) hx hb (kd dtX11_bestOrder_0 35 rfl) hl (by decide) rfl (fun ls hl => ?_)
            have hL66 : ∀ (n : Nat) (k : Int32 → Int32 → Int32 → Int32 → kW → Option (Int32 × kW)), ∀ (z7_66 : Int32) (z8_66 : Int32) (z9_66 : Int32) (z10_66 : Int32) (w_66 : kW) (H : Heap) (locs : List Loc) (ls : Array Slot), kX D aC w s.heap w_66 H locs → lv_has ls 11 [(0, .ref x0), (1, .int x1), (2, .int x2), (3, .int x3), (4, va_rf v4), (5, va_rf v7), (6, .int v10), (7, .int z7_66), (8, .int z8_66), (9, .int z9_66), (10, .int z10_66)] → fX11_bestOrder_L66 x0 x1 x2 x3 v4 v7 v10 n k z7_66 z8_66 z9_66 z10_66 w_66 = some (oR, wR) → (∀ (z7_66 : Int32) (z8_66 : Int32) (z9_66 : Int32) (z10_66 : Int32) (w_66 : kW) (H : Heap) (locs : List Loc) (ls : Array Slot), kX D aC w s.heap w_66 H locs → lv_has ls 11 [(0, .ref x0), (1, .int x1), (2, .int x2), (3, .int x3), (4, va_rf v4), (5, va_rf v7), (6, .int v10), (7, .int z7_66), (8, .int z8_66), (9, .int z9_66), (10, .int z10_66)] → k z7_66 z8_66 z9_66 z10_66 w_66 = some (oR, wR) → W p l e { frames := 8, cells := 0, slots := 0, locals := 179 } s m ([.ref x0, .int x1, .int x2, .int x3] : List Value).toArray below meth c H locs 0 0 (MQ below (kQc D aC w (some (.int oR)) wR) ([.ref x0, .int x1, .int x2, .int x3] : List Value).toArray s 0 0 (kA w)) (F0 m 154 ls [])) → W p l e { frames := 8, cells := 0, slots := 0, locals := 179 } s m ([.ref x0, .int x1, .int x2, .int x3] : List Value).toArray below meth c H locs 0 0 (MQ below (kQc D aC w (some (.int oR)) wR) ([.ref x0, .int x1, .int x2, .int x3] : List Value).toArray s 0 0 (kA w)) (F0 m 66 ls []) := by
              intro n k
              induction n with
              | zero =>
                intro z7_66 z8_66 z9_66 z10_66 w_66 H locs ls hX hl hf hk
                rw [fX11_bestOrder_L66] at hf
                cases hf
              | succ n ih =>
                intro z7_66 z8_66 z9_66 z10_66 w_66 H locs ls hX hl hf hk
                have hJ66_125 : ∀ (j7_125 : Int32) (j8_125 : Int32) (j9_125 : Int32) (j10_125 : Int32) (w_j125 : kW) (H : Heap) (locs : List Loc) (ls : Array Slot), kX D aC w s.heap w_j125 H locs → lv_has ls 11 [(0, .ref x0), (1, .int x1), (2, .int x2), (3, .int x3), (4, va_rf v4), (5, va_rf v7), (6, .int v10), (7, .int j7_125), (8, .int j8_125), (9, .int j9_125), (10, .int j10_125)] → fX11_bestOrder_J66_125 (fun q7 q8 q9 q10 qw => fX11_bestOrder_L66 x0 x1 x2 x3 v4 v7 v10 n k q7 q8 q9 q10 qw) k x0 x1 x2 x3 v4 v7 v10 j7_125 j8_125 j9_125 j10_125 w_j125 = some (oR, wR) → W p l e { frames := 8, cells := 0, slots := 0, locals := 179 } s m ([.ref x0, .int x1, .int x2, .int x3] : List Value).toArray below meth c H locs 0 0 (MQ below (kQc D aC w (some (.int oR)) wR) ([.ref x0, .int x1, .int x2, .int x3] : List Value).toArray s 0 0 (kA w)) (F0 m 125 ls []) := by
                  intro j7_125 j8_125 j9_125 j10_125 w_j125 H locs ls hX hl hf
                  rw [fX11_bestOrder_J66_125] at hf
                  refine lv_aload_n hx hb (kd dtX11_bestOrder_0 62 rfl) rfl (lv_at hl 0 rfl) ?_
                  obtain ⟨v27, hv27, hf⟩ := kbind hf
                  refine kgetI hv27 F hX hinX11 rfl rfl rfl (by decide) (by decide) wfX11_84 (kd dtX11_bestOrder_0 63 rfl) ?_
                  refine lv_istore (lv' := [(7, .int v27), (0, .ref x0), (1, .int x1), (2, .int x2), (3, .int x3), (4, va_rf v4), (5, va_rf v7), (6, .int v10), (8, .int j8_125), (9, .int j9_125), (10, .int j10_125)]) hx hb (kd dtX11_bestOrder_0 64 rfl) hl (by decide) rfl (fun ls hl => ?_)
                  refine lv_aload_n hx hb (kd dtX11_bestOrder_0 65 rfl) rfl (lv_at hl 1 rfl) ?_
                  obtain ⟨v28, hv28, hf⟩ := kbind hf
                  refine kgetI hv28 F hX hinX11 rfl rfl rfl (by decide) (by decide) wfX11_88 (kd dtX11_bestOrder_0 66 rfl) ?_
                  refine lv_istore (lv' := [(8, .int v28), (7, .int v27), (0, .ref x0), (1, .int x1), (2, .int x2), (3, .int x3), (4, va_rf v4), (5, va_rf v7), (6, .int v10), (9, .int j9_125), (10, .int j10_125)]) hx hb (kd dtX11_bestOrder_0 67 rfl) hl (by decide) rfl (fun ls hl => ?_)
                  refine lv_aload_n hx hb (kd dtX11_bestOrder_0 68 rfl) rfl (lv_at hl 2 rfl) ?_
                  refine kaload hx hb (kd dtX11_bestOrder_0 69 rfl) (lv_at hl 7 rfl) ?_
                  obtain ⟨v29, hv29, hf⟩ := kbind hf
                  refine kgetIN hv29 F hX hinX6 rfl rfl rfl (by decide) (by decide) hZ wfX11_110 (kd dtX11_bestOrder_0 70 rfl) ?_
                  obtain ⟨b30, hb30, hf⟩ := kbind hf
                  obtain ⟨hrb30, hkb30⟩ := kRc_s hb30
                  obtain ⟨v32, h31, hf⟩ := kbind hf
                  refine kcallV (n := 1) [.int v29] [] [.int v32] (rX11_placesAsDigits l D aC h31) hrb30 hkb30 F hml hX hZ hl.1 mwX11_placesAsDigits wmX11_271 rfl (by decide) (by decide +kernel) ⟨(by decide), (by decide)⟩ rfl rfl rfl (Nat.le_of_ble_eq_true rfl) (kd dtX11_bestOrder_0 71 rfl) ⟨Nat.zero_le _, Nat.zero_le _⟩ (fun H locs hX => ?_)
                  refine lv_istore (lv' := [(9, .int v32), (8, .int v28), (7, .int v27), (0, .ref x0), (1, .int x1), (2, .int x2), (3, .int x3), (4, va_rf v4), (5, va_rf v7), (6, .int v10), (10, .int j10_125)]) hx hb (kd dtX11_bestOrder_0 72 rfl) hl (by decide) rfl (fun ls hl => ?_)
                  refine lv_iinc (v := j10_125 + (1 : Int32)) (lv' := [(10, .int (j10_125 + (1 : Int32))), (9, .int v32), (8, .int v28), (7, .int v27), (0, .ref x0), (1, .int x1), (2, .int x2), (3, .int x3), (4, va_rf v4), (5, va_rf v7), (6, .int v10)]) hx hb (kd dtX11_bestOrder_0 73 rfl) hl (k := 10) rfl (by rfl) (by decide) rfl (fun ls hl => ?_)
                  refine lv_goto (tgt := 66) hx hb (kd dtX11_bestOrder_0 74 rfl) (by decide) ?_
                  exact ih v27 v28 v32 (j10_125 + (1 : Int32)) w_j125 _ _ _ hX (lv_sub hl [4, 5, 6, 7, 8, 9, 10, 3, 2, 1, 0] rfl) hf hk
                rw [fX11_bestOrder_L66] at hf
                refine lv_iload hx hb (kd dtX11_bestOrder_0 36 rfl) (lv_at hl 10 rfl) ?_
                refine lv_bipush (v := (27 : Int32)) hx hb (kd dtX11_bestOrder_0 37 rfl) (by decide) ?_
                refine lv_icmp_ge (tgt := 154) hx hb (kd dtX11_bestOrder_0 38 rfl) (by decide) (fun hc => ?_) (fun hc => ?_)
                · have hf := kif_pos hc hf
                  exact hk z7_66 z8_66 z9_66 z10_66 w_66 _ _ _ hX hl hf
                · have hf := kif_neg hc hf
                  refine lv_aload_n hx hb (kd dtX11_bestOrder_0 39 rfl) rfl (lv_at hl 0 rfl) ?_
                  refine lv_iload hx hb (kd dtX11_bestOrder_0 40 rfl) (lv_at hl 10 rfl) ?_
                  refine kaload hx hb (kd dtX11_bestOrder_0 41 rfl) (lv_at hl 5 rfl) ?_
                  obtain ⟨v16, hv16, hf⟩ := kbind hf
                  refine kgetIN hv16 F hX hinX6 rfl rfl rfl (by decide) (by decide) hZ wfX11_110 (kd dtX11_bestOrder_0 42 rfl) ?_
                  obtain ⟨b17, hb17, hf⟩ := kbind hf
                  obtain ⟨hrb17, hkb17⟩ := kRc_s hb17
                  obtain ⟨v20, w18, h19, hf⟩ := kbind2 hf
                  refine kcallV (n := 2) [.int z10_66, .int v16] [] [.int v20] (rX11_layPlaces l D aC h19) hrb17 hkb17 F hml hX hZ hl.1 mwX11_layPlaces wmX11_267 rfl (by decide) (by decide +kernel) ⟨(by decide), (by decide)⟩ rfl rfl rfl (Nat.le_of_ble_eq_true rfl) (kd dtX11_bestOrder_0 43 rfl) ⟨Nat.zero_le _, Nat.zero_le _⟩ (fun H locs hX => ?_)
                  refine lv_if_ne (tgt := 90) hx hb (kd dtX11_bestOrder_0 44 rfl) (by decide) (fun hc => ?_) (fun hc => ?_)
                  · have hf := kif_neg hc hf
                    refine lv_aload_n hx hb (kd dtX11_bestOrder_0 46 rfl) rfl (lv_at hl 0 rfl) ?_
                    refine kaload hx hb (kd dtX11_bestOrder_0 47 rfl) (lv_at hl 4 rfl) ?_
                    refine kaload hx hb (kd dtX11_bestOrder_0 48 rfl) (lv_at hl 5 rfl) ?_
                    obtain ⟨b21, hb21, hf⟩ := kbind hf
                    obtain ⟨hrb21, hkb21⟩ := kRc_s hb21
                    obtain ⟨w22, h23, hf⟩ := kbind hf
                    refine kcallV (n := 2) [va_rf v4, va_rf v7] [] [] (rX11_tryOrder l D aC h23) hrb21 hkb21 F hml hX hZ hl.1 mwX11_tryOrder wmX11_263 rfl (by decide) (by decide +kernel) ⟨(by decide), (by decide)⟩ rfl rfl rfl (Nat.le_of_ble_eq_true rfl) (kd dtX11_bestOrder_0 49 rfl) ⟨Nat.zero_le _, Nat.zero_le _⟩ (fun H locs hX => ?_)
                    refine lv_aload_n hx hb (kd dtX11_bestOrder_0 50 rfl) rfl (lv_at hl 0 rfl) ?_
                    obtain ⟨v24, hv24, hf⟩ := kbind hf
                    refine kgetI hv24 F hX hinX11 rfl rfl rfl (by decide) (by decide) wfX11_84 (kd dtX11_bestOrder_0 51 rfl) ?_
                    refine lv_iload hx hb (kd dtX11_bestOrder_0 52 rfl) (lv_at hl 7 rfl) ?_
                    refine lv_icmp_gt (tgt := 125) hx hb (kd dtX11_bestOrder_0 53 rfl) (by decide) (fun hc => ?_) (fun hc => ?_)
                    · have hf := kif_pos hc hf
                      exact hJ66_125 z7_66 z8_66 z9_66 z10_66 w22 _ _ _ hX hl hf
                    · have hf := kif_neg hc hf
                      refine lv_aload_n hx hb (kd dtX11_bestOrder_0 54 rfl) rfl (lv_at hl 0 rfl) ?_
                      obtain ⟨v25, hv25, hf⟩ := kbind hf
                      refine kgetI hv25 F hX hinX11 rfl rfl rfl (by decide) (by decide) wfX11_84 (kd dtX11_bestOrder_0 55 rfl) ?_
                      refine lv_iload hx hb (kd dtX11_bestOrder_0 56 rfl) (lv_at hl 7 rfl) ?_
                      refine lv_icmp_ne (tgt := 148) hx hb (kd dtX11_bestOrder_0 57 rfl) (by decide) (fun hc => ?_) (fun hc => ?_)
                      · have hf := kif_neg hc hf
                        refine lv_iinc (v := z10_66 + (1 : Int32)) (lv' := [(10, .int (z10_66 + (1 : Int32))), (0, .ref x0), (1, .int x1), (2, .int x2), (3, .int x3), (4, va_rf v4), (5, va_rf v7), (6, .int v10), (7, .int z7_66), (8, .int z8_66), (9, .int z9_66)]) hx hb (kd dtX11_bestOrder_0 73 rfl) hl (k := 10) rfl (by rfl) (by decide) rfl (fun ls hl => ?_)
                        refine lv_goto (tgt := 66) hx hb (kd dtX11_bestOrder_0 74 rfl) (by decide) ?_
                        exact ih z7_66 z8_66 z9_66 (z10_66 + (1 : Int32)) w22 _ _ _ hX (lv_sub hl [1, 2, 3, 4, 5, 6, 7, 8, 9, 10, 0] rfl) hf hk
                      · have hf := kif_pos hc hf
                        refine lv_aload_n hx hb (kd dtX11_bestOrder_0 58 rfl) rfl (lv_at hl 0 rfl) ?_
                        obtain ⟨v26, hv26, hf⟩ := kbind hf
                        refine kgetI hv26 F hX hinX11 rfl rfl rfl (by decide) (by decide) wfX11_88 (kd dtX11_bestOrder_0 59 rfl) ?_
                        refine lv_iload hx hb (kd dtX11_bestOrder_0 60 rfl) (lv_at hl 8 rfl) ?_
                        refine lv_icmp_ge (tgt := 148) hx hb (kd dtX11_bestOrder_0 61 rfl) (by decide) (fun hc => ?_) (fun hc => ?_)
                        · have hf := kif_pos hc hf
                          refine lv_iinc (v := z10_66 + (1 : Int32)) (lv' := [(10, .int (z10_66 + (1 : Int32))), (0, .ref x0), (1, .int x1), (2, .int x2), (3, .int x3), (4, va_rf v4), (5, va_rf v7), (6, .int v10), (7, .int z7_66), (8, .int z8_66), (9, .int z9_66)]) hx hb (kd dtX11_bestOrder_0 73 rfl) hl (k := 10) rfl (by rfl) (by decide) rfl (fun ls hl => ?_)
                          refine lv_goto (tgt := 66) hx hb (kd dtX11_bestOrder_0 74 rfl) (by decide) ?_
                          exact ih z7_66 z8_66 z9_66 (z10_66 + (1 : Int32)) w22 _ _ _ hX (lv_sub hl [1, 2, 3, 4, 5, 6, 7, 8, 9, 10, 0] rfl) hf hk
                        · have hf := kif_neg hc hf
                          exact hJ66_125 z7_66 z8_66 z9_66 z10_66 w22 _ _ _ hX hl hf
                  · have hf := kif_pos hc hf
                    refine lv_goto (tgt := 148) hx hb (kd dtX11_bestOrder_0 45 rfl) (by decide) ?_
                    refine lv_iinc (v := z10_66 + (1 : Int32)) (lv' := [(10, .int (z10_66 + (1 : Int32))), (0, .ref x0), (1, .int x1), (2, .int x2), (3, .int x3), (4, va_rf v4), (5, va_rf v7), (6, .int v10), (7, .int z7_66), (8, .int z8_66), (9, .int z9_66)]) hx hb (kd dtX11_bestOrder_0 73 rfl) hl (k := 10) rfl (by rfl) (by decide) rfl (fun ls hl => ?_)
                    refine lv_goto (tgt := 66) hx hb (kd dtX11_bestOrder_0 74 rfl) (by decide) ?_
                    exact ih z7_66 z8_66 z9_66 (z10_66 + (1 : Int32)) w18 _ _ _ hX (lv_sub hl [1, 2, 3, 4, 5, 6, 7, 8, 9, 10, 0] rfl) hf hk
            refine hL66 kFU _ (-1 : Int32) (0 : Int32) (0 : Int32) (0 : Int32) w _ _ _ hX (lv_sub hl [7, 8, 9, 10, 6, 5, 4, 3, 2, 1, 0] rfl) hf ?_
            intro y7_11 y8_12 y9_13 y10_14 w15 H locs ls hX hl hf
            refine lv_iload_n hx hb (kd dtX11_bestOrder_0 75 rfl) rfl (lv_at hl 3 rfl) ?_
            refine lv_if_ne (tgt := 163) hx hb (kd dtX11_bestOrder_0 76 rfl) (by decide) (fun hc => ?_) (fun hc => ?_)
            · have hf := kif_neg hc hf
              refine lv_iload_n hx hb (kd dtX11_bestOrder_0 79 rfl) rfl (lv_at hl 3 rfl) ?_
              refine lv_iconst (v := (1 : Int32)) hx hb (kd dtX11_bestOrder_1 0 rfl) (by decide) ?_
              refine lv_icmp_ne (tgt := 173) hx hb (kd dtX11_bestOrder_1 1 rfl) (by decide) (fun hc => ?_) (fun hc => ?_)
              · have hf := kif_neg hc hf
                refine lv_iload hx hb (kd dtX11_bestOrder_1 4 rfl) (lv_at hl 9 rfl) ?_
                obtain ⟨rfl, rfl⟩ := Prod.mk.inj (Option.some.inj hf)
                exact kiret F hX hr hlocks rfl (kd dtX11_bestOrder_1 5 rfl)
              · have hf := kif_pos hc hf
                refine lv_iload hx hb (kd dtX11_bestOrder_1 2 rfl) (lv_at hl 8 rfl) ?_
                refine lv_goto (tgt := 175) hx hb (kd dtX11_bestOrder_1 3 rfl) (by decide) ?_
                obtain ⟨rfl, rfl⟩ := Prod.mk.inj (Option.some.inj hf)
                exact kiret F hX hr hlocks rfl (kd dtX11_bestOrder_1 5 rfl)
            · have hf := kif_pos hc hf
              refine lv_iload hx hb (kd dtX11_bestOrder_0 77 rfl) (lv_at hl 7 rfl) ?_
              refine lv_goto (tgt := 175) hx hb (kd dtX11_bestOrder_0 78 rfl) (by decide) ?_
              obtain ⟨rfl, rfl⟩ := Prod.mk.inj (Option.some.inj hf)
              exact kiret F hX hr hlocks rfl (kd dtX11_bestOrder_1 5 rfl)
          · have hf := kif_neg hc hf
            refine lv_iload hx hb (kd dtX11_bestOrder_0 26 rfl) (lv_at hl 0 rfl) ?_
            obtain ⟨rfl, rfl⟩ := Prod.mk.inj (Option.some.inj hf)
            exact kiret F hX hr hlocks rfl (kd dtX11_bestOrder_0 27 rfl)
        · have hf := kif_neg hc hf
          refine lv_iconst (v := (-1 : Int32)) hx hb (kd dtX11_bestOrder_0 18 rfl) (by decide) ?_
          obtain ⟨rfl, rfl⟩ := Prod.mk.inj (Option.some.inj hf)
          exact kiret F hX hr hlocks rfl (kd dtX11_bestOrder_0 19 rfl)
theorem wfX11_274 : Cond.fieldLinkNest RX11 274 (TX5 17).1 (TX5 17).2.1 (TX5 17).2.2.1 "KitchenCards" ∈ kNs := kNm 342 (by decide +kernel) rfl
theorem wfX11_277 : Cond.fieldLinkNest RX11 277 (TX5 18).1 (TX5 18).2.1 (TX5 18).2.2.1 "KitchenCards" ∈ kNs := kNm 344 (by decide +kernel) rfl
def lX11_slips_0 : List (Nat × Instr × Nat) := [(0, .iload 4, 2), (2, .ifCond .lt 21, 3), (5, .iload 4, 2), (7, .bipush 100, 2), (9, .if_icmp .gt 14, 3), (12, .iload 5, 2), (14, .ifCond .lt 9, 3), (17, .iload 5, 2), (19, .iconst 3, 1), (20, .if_icmp .le 5, 3), (23, .iconst (-1), 1), (24, .ireturn, 1), (25, .aload_n 0, 1), (26, .iload_n 1, 1), (27, .iload_n 2, 1), (28, .invokevirtual 219, 3), (31, .istore 6, 2), (33, .iload 6, 2), (35, .ifCond .eq 6, 3), (38, .iload 6, 2), (40, .ireturn, 1), (41, .aload_n 0, 1), (42, .iload_n 1, 1), (43, .iload_n 2, 1), (44, .iload_n 3, 1), (45, .iload 4, 2), (47, .invokevirtual 222, 3), (50, .iload 5, 2), (52, .tableswitch 60 0 2 #[28, 44, 52], 28), (80, .aload_n 0, 1), (81, .getfield 67, 3), (84, .getfield 225, 3), (87, .ifCond .eq 7, 3), (90, .iconst 1, 1), (91, .goto 4, 3), (94, .iconst 0, 1), (95, .ireturn, 1), (96, .aload_n 0, 1), (97, .getfield 67, 3), (100, .getfield 228, 3), (103, .ireturn, 1), (104, .aload_n 0, 1), (105, .getfield 67, 3), (108, .getfield 274, 3), (111, .ireturn, 1), (112, .aload_n 0, 1), (113, .getfield 67, 3), (116, .getfield 277, 3), (119, .ireturn, 1)]
theorem dtX11_slips_0 : kDec cX11_slips lX11_slips_0 = true := by decide +kernel
noncomputable def fX11_slips (x0 : Nat) (x1 : Int32) (x2 : Int32) (x3 : Int32) (x4 : Int32) (x5 : Int32) (w : kW) : Option (Int32 × kW) :=
  if x4 < 0 then
  some ((-1 : Int32), w)
  else
  if (100 : Int32) < x4 then
  some ((-1 : Int32), w)
  else
  if x5 < 0 then
  some ((-1 : Int32), w)
  else
  if x5 ≤ (3 : Int32) then
  (kRc w 11 (some x0)).bind fun b1 =>
  (fX11_runRefusal b1 x1 x2 w).bind fun v3 =>
  if v3 = 0 then
  (kRc w 11 (some x0)).bind fun b4 =>
  (fX11_lookFor b4 x1 x2 x3 x4 w).bind fun w5 =>
  if x5 = (0 : Int32) then
  (kgP w5 11 (some x0) 9).bind fun v7 =>
  (kgI w5 5 v7 12).bind fun v8 =>
  if v8 = 0 then
  some ((0 : Int32), w5)
  else
  some ((1 : Int32), w5)
  else if x5 = (1 : Int32) then
  (kgP w5 11 (some x0) 9).bind fun v9 =>
  (kgI w5 5 v9 10).bind fun v10 =>
  some (v10, w5)
  else if x5 = (2 : Int32) then
  (kgP w5 11 (some x0) 9).bind fun v11 =>
  (kgI w5 5 v11 17).bind fun v12 =>
  some (v12, w5)
  else 
  (kgP w5 11 (some x0) 9).bind fun v13 =>
  (kgI w5 5 v13 18).bind fun v14 =>
  some (v14, w5)
  else
  some (v3, w)
  else
  some ((-1 : Int32), w)

set_option maxHeartbeats 4000000 in
set_option maxRecDepth 100000 in
theorem rX11_slips (l : Launch) (D : va_G) (aC : Nat → ClassId) {x0 : Nat} {x1 : Int32} {x2 : Int32} {x3 : Int32} {x4 : Int32} {x5 : Int32} {w : kW} {wR : kW} {oR : Int32} (h : fX11_slips x0 x1 x2 x3 x4 x5 w = some (oR, wR)) : kC l D aC yX11_slips cX11_slips 7 (some .int) 8 178 [.ref x0, .int x1, .int x2, .int x3, .int x4, .int x5] w (some (.int oR)) wR 0 0 := by
  refine kOf (own := RX11) (by decide) rfl (Nat.le_of_ble_eq_true rfl) ?_
  intro p e s m below meth c ls F hml hr hlocks hnm hX hZ hl
  obtain ⟨hx, hb, hts, hown, hK⟩ := id F
  have hl : lv_has ls 7 [(0, .ref x0), (1, .int x1), (2, .int x2), (3, .int x3), (4, .int x4), (5, .int x5)] := hl
  have hf := h
  rw [fX11_slips] at hf
  refine lv_iload hx hb (kd dtX11_slips_0 0 rfl) (lv_at hl 4 rfl) ?_
  refine lv_if_lt (tgt := 23) hx hb (kd dtX11_slips_0 1 rfl) (by decide) (fun hc => ?_) (fun hc => ?_)
  · have hf := kif_pos hc hf
    refine lv_iconst (v := (-1 : Int32)) hx hb (kd dtX11_slips_0 10 rfl) (by decide) ?_
    obtain ⟨rfl, rfl⟩ := Prod.mk.inj (Option.some.inj hf)
    exact kiret F hX hr hlocks rfl (kd dtX11_slips_0 11 rfl)
  · have hf := kif_neg hc hf
    refine lv_iload hx hb (kd dtX11_slips_0 2 rfl) (lv_at hl 4 rfl) ?_
    refine lv_bipush (v := (100 : Int32)) hx hb (kd dtX11_slips_0 3 rfl) (by decide) ?_
    refine lv_icmp_gt (tgt := 23) hx hb (kd dtX11_slips_0 4 rfl) (by decide) (fun hc => ?_) (fun hc => ?_)
    · have hf := kif_pos hc hf
      refine lv_iconst (v := (-1 : Int32)) hx hb (kd dtX11_slips_0 10 rfl) (by decide) ?_
      obtain ⟨rfl, rfl⟩ := Prod.mk.inj (Option.some.inj hf)
      exact kiret F hX hr hlocks rfl (kd dtX11_slips_0 11 rfl)
    · have hf := kif_neg hc hf
      refine lv_iload hx hb (kd dtX11_slips_0 5 rfl) (lv_at hl 5 rfl) ?_
      refine lv_if_lt (tgt := 23) hx hb (kd dtX11_slips_0 6 rfl) (by decide) (fun hc => ?_) (fun hc => ?_)
      · have hf := kif_pos hc hf
        refine lv_iconst (v := (-1 : Int32)) hx hb (kd dtX11_slips_0 10 rfl) (by decide) ?_
        obtain ⟨rfl, rfl⟩ := Prod.mk.inj (Option.some.inj hf)
        exact kiret F hX hr hlocks rfl (kd dtX11_slips_0 11 rfl)
      · have hf := kif_neg hc hf
        refine lv_iload hx hb (kd dtX11_slips_0 7 rfl) (lv_at hl 5 rfl) ?_
        refine lv_iconst (v := (3 : Int32)) hx hb (kd dtX11_slips_0 8 rfl) (by decide) ?_
        refine lv_icmp_le (tgt := 25) hx hb (kd dtX11_slips_0 9 rfl) (by decide) (fun hc => ?_) (fun hc => ?_)
        · have hf := kif_pos hc hf
          refine lv_aload_n hx hb (kd dtX11_slips_0 12 rfl) rfl (lv_at hl 0 rfl) ?_
          refine lv_iload_n hx hb (kd dtX11_slips_0 13 rfl) rfl (lv_at hl 1 rfl) ?_
          refine lv_iload_n hx hb (kd dtX11_slips_0 14 rfl) rfl (lv_at hl 2 rfl) ?_
          obtain ⟨b1, hb1, hf⟩ := kbind hf
          obtain ⟨hrb1, hkb1⟩ := kRc_s hb1
          obtain ⟨v3, h2, hf⟩ := kbind hf
          refine kcallV (n := 2) [.int x1, .int x2] [] [.int v3] (rX11_runRefusal l D aC h2) hrb1 hkb1 F hml hX hZ hl.1 mwX11_runRefusal wmX11_219 rfl (by decide) (by decide +kernel) ⟨(by decide), (by decide)⟩ rfl rfl rfl (Nat.le_of_ble_eq_true rfl) (kd dtX11_slips_0 15 rfl) ⟨Nat.zero_le _, Nat.zero_le _⟩ (fun H locs hX => ?_)
          refine lv_istore (lv' := [(6, .int v3), (0, .ref x0), (1, .int x1), (2, .int x2), (3, .int x3), (4, .int x4), (5, .int x5)]) hx hb (kd dtX11_slips_0 16 rfl) hl (by decide) rfl (fun ls hl => ?_)
          refine lv_iload hx hb (kd dtX11_slips_0 17 rfl) (lv_at hl 0 rfl) ?_
          refine lv_if_eq (tgt := 41) hx hb (kd dtX11_slips_0 18 rfl) (by decide) (fun hc => ?_) (fun hc => ?_)
          · have hf := kif_pos hc hf
            refine lv_aload_n hx hb (kd dtX11_slips_0 21 rfl) rfl (lv_at hl 1 rfl) ?_
            refine lv_iload_n hx hb (kd dtX11_slips_0 22 rfl) rfl (lv_at hl 2 rfl) ?_
            refine lv_iload_n hx hb (kd dtX11_slips_0 23 rfl) rfl (lv_at hl 3 rfl) ?_
            refine lv_iload_n hx hb (kd dtX11_slips_0 24 rfl) rfl (lv_at hl 4 rfl) ?_
            refine lv_iload hx hb (kd dtX11_slips_0 25 rfl) (lv_at hl 5 rfl) ?_
            obtain ⟨b4, hb4, hf⟩ := kbind hf
            obtain ⟨hrb4, hkb4⟩ := kRc_s hb4
            obtain ⟨w5, h6, hf⟩ := kbind hf
            refine kcallV (n := 4) [.int x1, .int x2, .int x3, .int x4] [] [] (rX11_lookFor l D aC h6) hrb4 hkb4 F hml hX hZ hl.1 mwX11_lookFor wmX11_222 rfl (by decide) (by decide +kernel) ⟨(by decide), (by decide)⟩ rfl rfl rfl (Nat.le_of_ble_eq_true rfl) (kd dtX11_slips_0 26 rfl) ⟨Nat.zero_le _, Nat.zero_le _⟩ (fun H locs hX => ?_)
            refine lv_iload hx hb (kd dtX11_slips_0 27 rfl) (lv_at hl 6 rfl) ?_
            by_cases hc0 : x5 = (0 : Int32)
            · have hf := kif_pos hc0 hf
              have hq : (x5).toInt = 0 := by rw [hc0]; rfl
              refine lv_tableIn (off := 28) (tgt := 80) hx hb (kd dtX11_slips_0 28 rfl) (by rw [hq]; decide) (by rw [hq]; decide) (by rw [hq]; rfl) (by decide) ?_
              refine lv_aload_n hx hb (kd dtX11_slips_0 29 rfl) rfl (lv_at hl 1 rfl) ?_
              obtain ⟨v7, hv7, hf⟩ := kbind hf
              refine kgetP hv7 F hX hinX11 rfl rfl rfl (by decide) (by decide) wfX11_67 (kd dtX11_slips_0 30 rfl) ?_
              obtain ⟨v8, hv8, hf⟩ := kbind hf
              refine kgetIN hv8 F hX hinX5 rfl rfl rfl (by decide) (by decide) hZ wfX11_225 (kd dtX11_slips_0 31 rfl) ?_
              refine lv_if_eq (tgt := 94) hx hb (kd dtX11_slips_0 32 rfl) (by decide) (fun hc => ?_) (fun hc => ?_)
              · have hf := kif_pos hc hf
                refine lv_iconst (v := (0 : Int32)) hx hb (kd dtX11_slips_0 35 rfl) (by decide) ?_
                obtain ⟨rfl, rfl⟩ := Prod.mk.inj (Option.some.inj hf)
                exact kiret F hX hr hlocks rfl (kd dtX11_slips_0 36 rfl)
              · have hf := kif_neg hc hf
                refine lv_iconst (v := (1 : Int32)) hx hb (kd dtX11_slips_0 33 rfl) (by decide) ?_
                refine lv_goto (tgt := 95) hx hb (kd dtX11_slips_0 34 rfl) (by decide) ?_
                obtain ⟨rfl, rfl⟩ := Prod.mk.inj (Option.some.inj hf)
                exact kiret F hX hr hlocks rfl (kd dtX11_slips_0 36 rfl)
            have hf := kif_neg hc0 hf
            by_cases hc1 : x5 = (1 : Int32)
            · have hf := kif_pos hc1 hf
              have hq : (x5).toInt = 1 := by rw [hc1]; rfl
              refine lv_tableIn (off := 44) (tgt := 96) hx hb (kd dtX11_slips_0 28 rfl) (by rw [hq]; decide) (by rw [hq]; decide) (by rw [hq]; rfl) (by decide) ?_
              refine lv_aload_n hx hb (kd dtX11_slips_0 37 rfl) rfl (lv_at hl 1 rfl) ?_
              obtain ⟨v9, hv9, hf⟩ := kbind hf
              refine kgetP hv9 F hX hinX11 rfl rfl rfl (by decide) (by decide) wfX11_67 (kd dtX11_slips_0 38 rfl) ?_
              obtain ⟨v10, hv10, hf⟩ := kbind hf
              refine kgetIN hv10 F hX hinX5 rfl rfl rfl (by decide) (by decide) hZ wfX11_228 (kd dtX11_slips_0 39 rfl) ?_
              obtain ⟨rfl, rfl⟩ := Prod.mk.inj (Option.some.inj hf)
              exact kiret F hX hr hlocks rfl (kd dtX11_slips_0 40 rfl)
            have hf := kif_neg hc1 hf
            by_cases hc2 : x5 = (2 : Int32)
            · have hf := kif_pos hc2 hf
              have hq : (x5).toInt = 2 := by rw [hc2]; rfl
              refine lv_tableIn (off := 52) (tgt := 104) hx hb (kd dtX11_slips_0 28 rfl) (by rw [hq]; decide) (by rw [hq]; decide) (by rw [hq]; rfl) (by decide) ?_
              refine lv_aload_n hx hb (kd dtX11_slips_0 41 rfl) rfl (lv_at hl 1 rfl) ?_
              obtain ⟨v11, hv11, hf⟩ := kbind hf
              refine kgetP hv11 F hX hinX11 rfl rfl rfl (by decide) (by decide) wfX11_67 (kd dtX11_slips_0 42 rfl) ?_
              obtain ⟨v12, hv12, hf⟩ := kbind hf
              refine kgetIN hv12 F hX hinX5 rfl rfl rfl (by decide) (by decide) hZ wfX11_274 (kd dtX11_slips_0 43 rfl) ?_
              obtain ⟨rfl, rfl⟩ := Prod.mk.inj (Option.some.inj hf)
              exact kiret F hX hr hlocks rfl (kd dtX11_slips_0 44 rfl)
            have hf := kif_neg hc2 hf
            have hq0 := lv_neT (k := (0 : Int32)) hc0 (a := 0) rfl
            have hq1 := lv_neT (k := (1 : Int32)) hc1 (a := 1) rfl
            have hq2 := lv_neT (k := (2 : Int32)) hc2 (a := 2) rfl
            refine lv_tableOut (tgt := 112) hx hb (kd dtX11_slips_0 28 rfl) (by omega) (by decide) ?_
            refine lv_aload_n hx hb (kd dtX11_slips_0 45 rfl) rfl (lv_at hl 1 rfl) ?_
            obtain ⟨v13, hv13, hf⟩ := kbind hf
            refine kgetP hv13 F hX hinX11 rfl rfl rfl (by decide) (by decide) wfX11_67 (kd dtX11_slips_0 46 rfl) ?_
            obtain ⟨v14, hv14, hf⟩ := kbind hf
            refine kgetIN hv14 F hX hinX5 rfl rfl rfl (by decide) (by decide) hZ wfX11_277 (kd dtX11_slips_0 47 rfl) ?_
            obtain ⟨rfl, rfl⟩ := Prod.mk.inj (Option.some.inj hf)
            exact kiret F hX hr hlocks rfl (kd dtX11_slips_0 48 rfl)
          · have hf := kif_neg hc hf
            refine lv_iload hx hb (kd dtX11_slips_0 19 rfl) (lv_at hl 0 rfl) ?_
            obtain ⟨rfl, rfl⟩ := Prod.mk.inj (Option.some.inj hf)
            exact kiret F hX hr hlocks rfl (kd dtX11_slips_0 20 rfl)
        · have hf := kif_neg hc hf
          refine lv_iconst (v := (-1 : Int32)) hx hb (kd dtX11_slips_0 10 rfl) (by decide) ?_
          obtain ⟨rfl, rfl⟩ := Prod.mk.inj (Option.some.inj hf)
          exact kiret F hX hr hlocks rfl (kd dtX11_slips_0 11 rfl)
theorem wmX11_280 : Cond.methodLink RX11 280 yX8_copyOf ∈ kT := kTm 1009 (by decide +kernel) rfl
theorem mwX8_copyOf : kMV RX8 yX8_copyOf cX8_copyOf 3 none := ⟨kTm 1012 (by decide +kernel) rfl, kTm 95 (by decide +kernel) rfl, kTm 1010 (by decide +kernel) rfl, kTm 1011 (by decide +kernel) rfl⟩
def lX11_image_0 : List (Nat × Instr × Nat) := [(0, .aload_n 0, 1), (1, .getfield 16, 3), (4, .aload_n 0, 1), (5, .getfield 10, 3), (8, .invokevirtual 280, 3), (11, .aload_n 0, 1), (12, .iconst 1, 1), (13, .putfield 19, 3), (16, .aload_n 0, 1), (17, .getfield 10, 3), (20, .getfield 117, 3), (23, .ireturn, 1)]
theorem dtX11_image_0 : kDec cX11_image lX11_image_0 = true := by decide +kernel
noncomputable def fX11_image (x0 : Nat) (w : kW) : Option (Int32 × kW) :=
  (kgP w 11 (some x0) 1).bind fun v1 =>
  (kgP w 11 (some x0) 0).bind fun v2 =>
  (kRc w 8 v1).bind fun b3 =>
  (fX8_copyOf b3 v2 w).bind fun w4 =>
  (kpI w4 11 (some x0) 2 (1 : Int32)).bind fun w6 =>
  (kgP w6 11 (some x0) 0).bind fun v7 =>
  (kgI w6 8 v7 7).bind fun v8 =>
  some (v8, w6)

set_option maxHeartbeats 4000000 in
set_option maxRecDepth 100000 in
theorem rX11_image (l : Launch) (D : va_G) (aC : Nat → ClassId) {x0 : Nat} {w : kW} {wR : kW} {oR : Int32} (h : fX11_image x0 w = some (oR, wR)) : kC l D aC yX11_image cX11_image 1 (some .int) 2 34 [.ref x0] w (some (.int oR)) wR 0 0 := by
  refine kOf (own := RX11) (by decide) rfl (Nat.le_of_ble_eq_true rfl) ?_
  intro p e s m below meth c ls F hml hr hlocks hnm hX hZ hl
  obtain ⟨hx, hb, hts, hown, hK⟩ := id F
  have hl : lv_has ls 1 [(0, .ref x0)] := hl
  have hf := h
  rw [fX11_image] at hf
  refine lv_aload_n hx hb (kd dtX11_image_0 0 rfl) rfl (lv_at hl 0 rfl) ?_
  obtain ⟨v1, hv1, hf⟩ := kbind hf
  refine kgetP hv1 F hX hinX11 rfl rfl rfl (by decide) (by decide) wfX11_16 (kd dtX11_image_0 1 rfl) ?_
  refine lv_aload_n hx hb (kd dtX11_image_0 2 rfl) rfl (lv_at hl 0 rfl) ?_
  obtain ⟨v2, hv2, hf⟩ := kbind hf
  refine kgetP hv2 F hX hinX11 rfl rfl rfl (by decide) (by decide) wfX11_10 (kd dtX11_image_0 3 rfl) ?_
  obtain ⟨b3, hb3, hf⟩ := kbind hf
  obtain ⟨hrb3, hkb3⟩ := kRc_s hb3
  obtain ⟨w4, h5, hf⟩ := kbind hf
  refine kcallV (n := 1) [va_rf v2] [] [] (rX8_copyOf l D aC h5) hrb3 hkb3 F hml hX hZ hl.1 mwX8_copyOf wmX11_280 rfl (by decide) (by decide +kernel) ⟨(by decide), (by decide)⟩ rfl rfl rfl (Nat.le_of_ble_eq_true rfl) (kd dtX11_image_0 4 rfl) ⟨Nat.zero_le _, Nat.zero_le _⟩ (fun H locs hX => ?_)
  refine lv_aload_n hx hb (kd dtX11_image_0 5 rfl) rfl (lv_at hl 0 rfl) ?_
  refine lv_iconst (v := (1 : Int32)) hx hb (kd dtX11_image_0 6 rfl) (by decide) ?_
  obtain ⟨w6, hw6, hf⟩ := kbind hf
  refine kputI hw6 F hX hinX11 tyX11_ok nmX11 rfl rfl rfl (by decide) (by decide) wfX11_19 rfl rfl (Or.inl rfl) (kd dtX11_image_0 7 rfl) (fun H locs hX => ?_)
  refine lv_aload_n hx hb (kd dtX11_image_0 8 rfl) rfl (lv_at hl 0 rfl) ?_
  obtain ⟨v7, hv7, hf⟩ := kbind hf
  refine kgetP hv7 F hX hinX11 rfl rfl rfl (by decide) (by decide) wfX11_10 (kd dtX11_image_0 9 rfl) ?_
  obtain ⟨v8, hv8, hf⟩ := kbind hf
  refine kgetIN hv8 F hX hinX8 rfl rfl rfl (by decide) (by decide) hZ wfX11_117 (kd dtX11_image_0 10 rfl) ?_
  obtain ⟨rfl, rfl⟩ := Prod.mk.inj (Option.some.inj hf)
  exact kiret F hX hr hlocks rfl (kd dtX11_image_0 11 rfl)
def lX11_restore_0 : List (Nat × Instr × Nat) := [(0, .aload_n 0, 1), (1, .getfield 19, 3), (4, .ifCond .ne 6, 3), (7, .bipush (-3), 2), (9, .ireturn, 1), (10, .aload_n 0, 1), (11, .getfield 10, 3), (14, .aload_n 0, 1), (15, .getfield 16, 3), (18, .invokevirtual 280, 3), (21, .aload_n 0, 1), (22, .getfield 10, 3), (25, .getfield 117, 3), (28, .ireturn, 1)]
theorem dtX11_restore_0 : kDec cX11_restore lX11_restore_0 = true := by decide +kernel
noncomputable def fX11_restore (x0 : Nat) (w : kW) : Option (Int32 × kW) :=
  (kgI w 11 (some x0) 2).bind fun v1 =>
  if v1 = 0 then
  some ((-3 : Int32), w)
  else
  (kgP w 11 (some x0) 0).bind fun v2 =>
  (kgP w 11 (some x0) 1).bind fun v3 =>
  (kRc w 8 v2).bind fun b4 =>
  (fX8_copyOf b4 v3 w).bind fun w5 =>
  (kgP w5 11 (some x0) 0).bind fun v7 =>
  (kgI w5 8 v7 7).bind fun v8 =>
  some (v8, w5)

set_option maxHeartbeats 4000000 in
set_option maxRecDepth 100000 in
theorem rX11_restore (l : Launch) (D : va_G) (aC : Nat → ClassId) {x0 : Nat} {w : kW} {wR : kW} {oR : Int32} (h : fX11_restore x0 w = some (oR, wR)) : kC l D aC yX11_restore cX11_restore 1 (some .int) 2 34 [.ref x0] w (some (.int oR)) wR 0 0 := by
  refine kOf (own := RX11) (by decide) rfl (Nat.le_of_ble_eq_true rfl) ?_
  intro p e s m below meth c ls F hml hr hlocks hnm hX hZ hl
  obtain ⟨hx, hb, hts, hown, hK⟩ := id F
  have hl : lv_has ls 1 [(0, .ref x0)] := hl
  have hf := h
  rw [fX11_restore] at hf
  refine lv_aload_n hx hb (kd dtX11_restore_0 0 rfl) rfl (lv_at hl 0 rfl) ?_
  obtain ⟨v1, hv1, hf⟩ := kbind hf
  refine kgetI hv1 F hX hinX11 rfl rfl rfl (by decide) (by decide) wfX11_19 (kd dtX11_restore_0 1 rfl) ?_
  refine lv_if_ne (tgt := 10) hx hb (kd dtX11_restore_0 2 rfl) (by decide) (fun hc => ?_) (fun hc => ?_)
  · have hf := kif_neg hc hf
    refine lv_aload_n hx hb (kd dtX11_restore_0 5 rfl) rfl (lv_at hl 0 rfl) ?_
    obtain ⟨v2, hv2, hf⟩ := kbind hf
    refine kgetP hv2 F hX hinX11 rfl rfl rfl (by decide) (by decide) wfX11_10 (kd dtX11_restore_0 6 rfl) ?_
    refine lv_aload_n hx hb (kd dtX11_restore_0 7 rfl) rfl (lv_at hl 0 rfl) ?_
    obtain ⟨v3, hv3, hf⟩ := kbind hf
    refine kgetP hv3 F hX hinX11 rfl rfl rfl (by decide) (by decide) wfX11_16 (kd dtX11_restore_0 8 rfl) ?_
    obtain ⟨b4, hb4, hf⟩ := kbind hf
    obtain ⟨hrb4, hkb4⟩ := kRc_s hb4
    obtain ⟨w5, h6, hf⟩ := kbind hf
    refine kcallV (n := 1) [va_rf v3] [] [] (rX8_copyOf l D aC h6) hrb4 hkb4 F hml hX hZ hl.1 mwX8_copyOf wmX11_280 rfl (by decide) (by decide +kernel) ⟨(by decide), (by decide)⟩ rfl rfl rfl (Nat.le_of_ble_eq_true rfl) (kd dtX11_restore_0 9 rfl) ⟨Nat.zero_le _, Nat.zero_le _⟩ (fun H locs hX => ?_)
    refine lv_aload_n hx hb (kd dtX11_restore_0 10 rfl) rfl (lv_at hl 0 rfl) ?_
    obtain ⟨v7, hv7, hf⟩ := kbind hf
    refine kgetP hv7 F hX hinX11 rfl rfl rfl (by decide) (by decide) wfX11_10 (kd dtX11_restore_0 11 rfl) ?_
    obtain ⟨v8, hv8, hf⟩ := kbind hf
    refine kgetIN hv8 F hX hinX8 rfl rfl rfl (by decide) (by decide) hZ wfX11_117 (kd dtX11_restore_0 12 rfl) ?_
    obtain ⟨rfl, rfl⟩ := Prod.mk.inj (Option.some.inj hf)
    exact kiret F hX hr hlocks rfl (kd dtX11_restore_0 13 rfl)
  · have hf := kif_pos hc hf
    refine lv_bipush (v := (-3 : Int32)) hx hb (kd dtX11_restore_0 3 rfl) (by decide) ?_
    obtain ⟨rfl, rfl⟩ := Prod.mk.inj (Option.some.inj hf)
    exact kiret F hX hr hlocks rfl (kd dtX11_restore_0 4 rfl)
theorem wmX11_283 : Cond.methodLink RX11 283 yX8_countOf ∈ kT := kTm 1021 (by decide +kernel) rfl
theorem mwX8_countOf : kMV RX8 yX8_countOf cX8_countOf 4 (some .int) := ⟨kTm 1024 (by decide +kernel) rfl, kTm 95 (by decide +kernel) rfl, kTm 1022 (by decide +kernel) rfl, kTm 1023 (by decide +kernel) rfl⟩
theorem wmX11_286 : Cond.methodLink RX11 286 yX8_allSizes ∈ kT := kTm 1026 (by decide +kernel) rfl
theorem mwX8_allSizes : kMV RX8 yX8_allSizes cX8_allSizes 4 (some .int) := ⟨kTm 1029 (by decide +kernel) rfl, kTm 95 (by decide +kernel) rfl, kTm 1027 (by decide +kernel) rfl, kTm 1028 (by decide +kernel) rfl⟩
theorem wmX11_289 : Cond.methodLink RX11 289 yX8_trueLines ∈ kT := kTm 1031 (by decide +kernel) rfl
theorem mwX8_trueLines : kMV RX8 yX8_trueLines cX8_trueLines 4 (some .int) := ⟨kTm 1034 (by decide +kernel) rfl, kTm 95 (by decide +kernel) rfl, kTm 1032 (by decide +kernel) rfl, kTm 1033 (by decide +kernel) rfl⟩
def lX11_count_0 : List (Nat × Instr × Nat) := [(0, .iload_n 1, 1), (1, .tableswitch 89 0 5 #[39, 47, 56, 65, 73, 81], 39), (40, .aload_n 0, 1), (41, .getfield 10, 3), (44, .getfield 117, 3), (47, .ireturn, 1), (48, .aload_n 0, 1), (49, .getfield 10, 3), (52, .iconst 1, 1), (53, .invokevirtual 283, 3), (56, .ireturn, 1), (57, .aload_n 0, 1), (58, .getfield 10, 3), (61, .iconst 2, 1), (62, .invokevirtual 283, 3), (65, .ireturn, 1), (66, .aload_n 0, 1), (67, .getfield 10, 3), (70, .getfield 211, 3), (73, .ireturn, 1), (74, .aload_n 0, 1), (75, .getfield 10, 3), (78, .invokevirtual 286, 3), (81, .ireturn, 1), (82, .aload_n 0, 1), (83, .getfield 10, 3), (86, .invokevirtual 289, 3), (89, .ireturn, 1), (90, .iconst (-1), 1), (91, .ireturn, 1)]
theorem dtX11_count_0 : kDec cX11_count lX11_count_0 = true := by decide +kernel
noncomputable def fX11_count (x0 : Nat) (x1 : Int32) (w : kW) : Option Int32 :=
  if x1 = (0 : Int32) then
  (kgP w 11 (some x0) 0).bind fun v1 =>
  (kgI w 8 v1 7).bind fun v2 =>
  some v2
  else if x1 = (1 : Int32) then
  (kgP w 11 (some x0) 0).bind fun v3 =>
  (kRc w 8 v3).bind fun b4 =>
  (fX8_countOf b4 (1 : Int32) w).bind fun v6 =>
  some v6
  else if x1 = (2 : Int32) then
  (kgP w 11 (some x0) 0).bind fun v7 =>
  (kRc w 8 v7).bind fun b8 =>
  (fX8_countOf b8 (2 : Int32) w).bind fun v10 =>
  some v10
  else if x1 = (3 : Int32) then
  (kgP w 11 (some x0) 0).bind fun v11 =>
  (kgI w 8 v11 9).bind fun v12 =>
  some v12
  else if x1 = (4 : Int32) then
  (kgP w 11 (some x0) 0).bind fun v13 =>
  (kRc w 8 v13).bind fun b14 =>
  (fX8_allSizes b14 w).bind fun v16 =>
  some v16
  else if x1 = (5 : Int32) then
  (kgP w 11 (some x0) 0).bind fun v17 =>
  (kRc w 8 v17).bind fun b18 =>
  (fX8_trueLines b18 w).bind fun v20 =>
  some v20
  else 
  some (-1 : Int32)

set_option maxHeartbeats 4000000 in
set_option maxRecDepth 100000 in
theorem rX11_count (l : Launch) (D : va_G) (aC : Nat → ClassId) {x0 : Nat} {x1 : Int32} {w : kW} {oR : Int32} (h : fX11_count x0 x1 w = some oR) : kC l D aC yX11_count cX11_count 2 (some .int) 5 96 [.ref x0, .int x1] w (some (.int oR)) w 0 0 := by
  refine kOf (own := RX11) (by decide) rfl (Nat.le_of_ble_eq_true rfl) ?_
  intro p e s m below meth c ls F hml hr hlocks hnm hX hZ hl
  obtain ⟨hx, hb, hts, hown, hK⟩ := id F
  have hl : lv_has ls 2 [(0, .ref x0), (1, .int x1)] := hl
  have hf := h
  rw [fX11_count] at hf
  refine lv_iload_n hx hb (kd dtX11_count_0 0 rfl) rfl (lv_at hl 1 rfl) ?_
  by_cases hc0 : x1 = (0 : Int32)
  · have hf := kif_pos hc0 hf
    have hq : (x1).toInt = 0 := by rw [hc0]; rfl
    refine lv_tableIn (off := 39) (tgt := 40) hx hb (kd dtX11_count_0 1 rfl) (by rw [hq]; decide) (by rw [hq]; decide) (by rw [hq]; rfl) (by decide) ?_
    refine lv_aload_n hx hb (kd dtX11_count_0 2 rfl) rfl (lv_at hl 0 rfl) ?_
    obtain ⟨v1, hv1, hf⟩ := kbind hf
    refine kgetP hv1 F hX hinX11 rfl rfl rfl (by decide) (by decide) wfX11_10 (kd dtX11_count_0 3 rfl) ?_
    obtain ⟨v2, hv2, hf⟩ := kbind hf
    refine kgetIN hv2 F hX hinX8 rfl rfl rfl (by decide) (by decide) hZ wfX11_117 (kd dtX11_count_0 4 rfl) ?_
    obtain rfl := Option.some.inj hf
    exact kiret F hX hr hlocks rfl (kd dtX11_count_0 5 rfl)
  have hf := kif_neg hc0 hf
  by_cases hc1 : x1 = (1 : Int32)
  · have hf := kif_pos hc1 hf
    have hq : (x1).toInt = 1 := by rw [hc1]; rfl
    refine lv_tableIn (off := 47) (tgt := 48) hx hb (kd dtX11_count_0 1 rfl) (by rw [hq]; decide) (by rw [hq]; decide) (by rw [hq]; rfl) (by decide) ?_
    refine lv_aload_n hx hb (kd dtX11_count_0 6 rfl) rfl (lv_at hl 0 rfl) ?_
    obtain ⟨v3, hv3, hf⟩ := kbind hf
    refine kgetP hv3 F hX hinX11 rfl rfl rfl (by decide) (by decide) wfX11_10 (kd dtX11_count_0 7 rfl) ?_
    refine lv_iconst (v := (1 : Int32)) hx hb (kd dtX11_count_0 8 rfl) (by decide) ?_
    obtain ⟨b4, hb4, hf⟩ := kbind hf
    obtain ⟨hrb4, hkb4⟩ := kRc_s hb4
    obtain ⟨v6, h5, hf⟩ := kbind hf
    refine kcallV (n := 1) [.int (1 : Int32)] [] [.int v6] (rX8_countOf l D aC h5) hrb4 hkb4 F hml hX hZ hl.1 mwX8_countOf wmX11_283 rfl (by decide) (by decide +kernel) ⟨(by decide), (by decide)⟩ rfl rfl rfl (Nat.le_of_ble_eq_true rfl) (kd dtX11_count_0 9 rfl) ⟨Nat.zero_le _, Nat.zero_le _⟩ (fun H locs hX => ?_)
    obtain rfl := Option.some.inj hf
    exact kiret F hX hr hlocks rfl (kd dtX11_count_0 10 rfl)
  have hf := kif_neg hc1 hf
  by_cases hc2 : x1 = (2 : Int32)
  · have hf := kif_pos hc2 hf
    have hq : (x1).toInt = 2 := by rw [hc2]; rfl
    refine lv_tableIn (off := 56) (tgt := 57) hx hb (kd dtX11_count_0 1 rfl) (by rw [hq]; decide) (by rw [hq]; decide) (by rw [hq]; rfl) (by decide) ?_
    refine lv_aload_n hx hb (kd dtX11_count_0 11 rfl) rfl (lv_at hl 0 rfl) ?_
    obtain ⟨v7, hv7, hf⟩ := kbind hf
    refine kgetP hv7 F hX hinX11 rfl rfl rfl (by decide) (by decide) wfX11_10 (kd dtX11_count_0 12 rfl) ?_
    refine lv_iconst (v := (2 : Int32)) hx hb (kd dtX11_count_0 13 rfl) (by decide) ?_
    obtain ⟨b8, hb8, hf⟩ := kbind hf
    obtain ⟨hrb8, hkb8⟩ := kRc_s hb8
    obtain ⟨v10, h9, hf⟩ := kbind hf
    refine kcallV (n := 1) [.int (2 : Int32)] [] [.int v10] (rX8_countOf l D aC h9) hrb8 hkb8 F hml hX hZ hl.1 mwX8_countOf wmX11_283 rfl (by decide) (by decide +kernel) ⟨(by decide), (by decide)⟩ rfl rfl rfl (Nat.le_of_ble_eq_true rfl) (kd dtX11_count_0 14 rfl) ⟨Nat.zero_le _, Nat.zero_le _⟩ (fun H locs hX => ?_)
    obtain rfl := Option.some.inj hf
    exact kiret F hX hr hlocks rfl (kd dtX11_count_0 15 rfl)
  have hf := kif_neg hc2 hf
  by_cases hc3 : x1 = (3 : Int32)
  · have hf := kif_pos hc3 hf
    have hq : (x1).toInt = 3 := by rw [hc3]; rfl
    refine lv_tableIn (off := 65) (tgt := 66) hx hb (kd dtX11_count_0 1 rfl) (by rw [hq]; decide) (by rw [hq]; decide) (by rw [hq]; rfl) (by decide) ?_
    refine lv_aload_n hx hb (kd dtX11_count_0 16 rfl) rfl (lv_at hl 0 rfl) ?_
    obtain ⟨v11, hv11, hf⟩ := kbind hf
    refine kgetP hv11 F hX hinX11 rfl rfl rfl (by decide) (by decide) wfX11_10 (kd dtX11_count_0 17 rfl) ?_
    obtain ⟨v12, hv12, hf⟩ := kbind hf
    refine kgetIN hv12 F hX hinX8 rfl rfl rfl (by decide) (by decide) hZ wfX11_211 (kd dtX11_count_0 18 rfl) ?_
    obtain rfl := Option.some.inj hf
    exact kiret F hX hr hlocks rfl (kd dtX11_count_0 19 rfl)
  have hf := kif_neg hc3 hf
  by_cases hc4 : x1 = (4 : Int32)
  · have hf := kif_pos hc4 hf
    have hq : (x1).toInt = 4 := by rw [hc4]; rfl
    refine lv_tableIn (off := 73) (tgt := 74) hx hb (kd dtX11_count_0 1 rfl) (by rw [hq]; decide) (by rw [hq]; decide) (by rw [hq]; rfl) (by decide) ?_
    refine lv_aload_n hx hb (kd dtX11_count_0 20 rfl) rfl (lv_at hl 0 rfl) ?_
    obtain ⟨v13, hv13, hf⟩ := kbind hf
    refine kgetP hv13 F hX hinX11 rfl rfl rfl (by decide) (by decide) wfX11_10 (kd dtX11_count_0 21 rfl) ?_
    obtain ⟨b14, hb14, hf⟩ := kbind hf
    obtain ⟨hrb14, hkb14⟩ := kRc_s hb14
    obtain ⟨v16, h15, hf⟩ := kbind hf
    refine kcallV (n := 0) [] [] [.int v16] (rX8_allSizes l D aC h15) hrb14 hkb14 F hml hX hZ hl.1 mwX8_allSizes wmX11_286 rfl (by decide) (by decide +kernel) ⟨(by decide), (by decide)⟩ rfl rfl rfl (Nat.le_of_ble_eq_true rfl) (kd dtX11_count_0 22 rfl) ⟨Nat.zero_le _, Nat.zero_le _⟩ (fun H locs hX => ?_)
    obtain rfl := Option.some.inj hf
    exact kiret F hX hr hlocks rfl (kd dtX11_count_0 23 rfl)
  have hf := kif_neg hc4 hf
  by_cases hc5 : x1 = (5 : Int32)
  · have hf := kif_pos hc5 hf
    have hq : (x1).toInt = 5 := by rw [hc5]; rfl
    refine lv_tableIn (off := 81) (tgt := 82) hx hb (kd dtX11_count_0 1 rfl) (by rw [hq]; decide) (by rw [hq]; decide) (by rw [hq]; rfl) (by decide) ?_
    refine lv_aload_n hx hb (kd dtX11_count_0 24 rfl) rfl (lv_at hl 0 rfl) ?_
    obtain ⟨v17, hv17, hf⟩ := kbind hf
    refine kgetP hv17 F hX hinX11 rfl rfl rfl (by decide) (by decide) wfX11_10 (kd dtX11_count_0 25 rfl) ?_
    obtain ⟨b18, hb18, hf⟩ := kbind hf
    obtain ⟨hrb18, hkb18⟩ := kRc_s hb18
    obtain ⟨v20, h19, hf⟩ := kbind hf
    refine kcallV (n := 0) [] [] [.int v20] (rX8_trueLines l D aC h19) hrb18 hkb18 F hml hX hZ hl.1 mwX8_trueLines wmX11_289 rfl (by decide) (by decide +kernel) ⟨(by decide), (by decide)⟩ rfl rfl rfl (Nat.le_of_ble_eq_true rfl) (kd dtX11_count_0 26 rfl) ⟨Nat.zero_le _, Nat.zero_le _⟩ (fun H locs hX => ?_)
    obtain rfl := Option.some.inj hf
    exact kiret F hX hr hlocks rfl (kd dtX11_count_0 27 rfl)
  have hf := kif_neg hc5 hf
  have hq0 := lv_neT (k := (0 : Int32)) hc0 (a := 0) rfl
  have hq1 := lv_neT (k := (1 : Int32)) hc1 (a := 1) rfl
  have hq2 := lv_neT (k := (2 : Int32)) hc2 (a := 2) rfl
  have hq3 := lv_neT (k := (3 : Int32)) hc3 (a := 3) rfl
  have hq4 := lv_neT (k := (4 : Int32)) hc4 (a := 4) rfl
  have hq5 := lv_neT (k := (5 : Int32)) hc5 (a := 5) rfl
  refine lv_tableOut (tgt := 90) hx hb (kd dtX11_count_0 1 rfl) (by omega) (by decide) ?_
  refine lv_iconst (v := (-1 : Int32)) hx hb (kd dtX11_count_0 28 rfl) (by decide) ?_
  obtain rfl := Option.some.inj hf
  exact kiret F hX hr hlocks rfl (kd dtX11_count_0 29 rfl)
theorem wkX11_295 : Cond.classLink RX11 295 RX0 ∈ kT := kTm 1044 (by decide +kernel) rfl
theorem wnX0 : Cond.instantiable RX0 3 ∈ kT := kTm 1045 (by decide +kernel) rfl
theorem wiX0 : Cond.initialized RX0 ∈ kT := kTm 110 (by decide +kernel) rfl
theorem wmX11_297 : Cond.methodLink RX11 297 yX0_init ∈ kT := kTm 1046 (by decide +kernel) rfl
theorem mwX0_init : kMI yX0_init cX0_init 4 := ⟨kTm 1048 (by decide +kernel) rfl, kTm 110 (by decide +kernel) rfl, kTm 1047 (by decide +kernel) rfl⟩
theorem wmX11_300 : Cond.methodLink RX11 300 yX6_holdCard ∈ kT := kTm 1060 (by decide +kernel) rfl
theorem mwX6_holdCard : kMV RX6 yX6_holdCard cX6_holdCard 2 none := ⟨kTm 1063 (by decide +kernel) rfl, kTm 105 (by decide +kernel) rfl, kTm 1061 (by decide +kernel) rfl, kTm 1062 (by decide +kernel) rfl⟩
theorem wmX11_292 : Cond.methodLink RX11 292 yX6_holdNothing ∈ kT := kTm 1040 (by decide +kernel) rfl
def lX11_keep_0 : List (Nat × Instr × Nat) := [(0, .aload_n 0, 1), (1, .iload_n 1, 1), (2, .invokevirtual 99, 3), (5, .astore 5, 2), (7, .aload 5, 2), (9, .ifnull 12, 3), (12, .iload_n 2, 1), (13, .ifCond .lt 8, 3), (16, .iload_n 2, 1), (17, .iconst 1, 1), (18, .if_icmp .le 5, 3), (21, .iconst (-1), 1), (22, .ireturn, 1), (23, .iload_n 2, 1), (24, .ifCond .ne 10, 3), (27, .aload 5, 2), (29, .invokevirtual 292, 3), (32, .iconst 0, 1), (33, .ireturn, 1), (34, .aload_n 0, 1), (35, .getfield 10, 3), (38, .iload 4, 2), (40, .invokevirtual 128, 3), (43, .astore 6, 2), (45, .aload 6, 2), (47, .ifnull 13, 3), (50, .iload_n 3, 1), (51, .ifCond .lt 9, 3), (54, .iload_n 3, 1), (55, .bipush 6, 2), (57, .if_icmp .le 5, 3), (60, .iconst (-1), 1), (61, .ireturn, 1), (62, .aload 5, 2), (64, .new 295, 3), (67, .dup, 1), (68, .iload_n 3, 1), (69, .iload 4, 2), (71, .aload 6, 2), (73, .invokespecial 297, 3), (76, .invokevirtual 300, 3), (79, .iconst 0, 1), (80, .ireturn, 1)]
theorem dtX11_keep_0 : kDec cX11_keep lX11_keep_0 = true := by decide +kernel
noncomputable def fX11_keep (x0 : Nat) (x1 : Int32) (x2 : Int32) (x3 : Int32) (x4 : Int32) (w : kW) : Option (Int32 × kW) :=
  (kRc w 11 (some x0)).bind fun b1 =>
  (fX11_shelfAt b1 x1 w).bind fun v3 =>
  if v3 = none then
  some ((-1 : Int32), w)
  else
  if x2 < 0 then
  some ((-1 : Int32), w)
  else
  if x2 ≤ (1 : Int32) then
  if x2 = 0 then
  (kRc w 6 v3).bind fun b14 =>
  (fX6_holdNothing b14 w).bind fun w15 =>
  some ((0 : Int32), w15)
  else
  (kgP w 11 (some x0) 0).bind fun v4 =>
  (kRc w 8 v4).bind fun b5 =>
  (fX8_lineAt b5 x4 w).bind fun v7 =>
  if v7 = none then
  some ((-1 : Int32), w)
  else
  if x3 < 0 then
  some ((-1 : Int32), w)
  else
  if x3 ≤ (6 : Int32) then
  (knO w 0).bind fun w8 =>
  (fX0_init (kSz w) x3 x4 v7 w8).bind fun w9 =>
  (kRc w9 6 v3).bind fun b11 =>
  (fX6_holdCard b11 (some (kSz w)) w9).bind fun w12 =>
  some ((0 : Int32), w12)
  else
  some ((-1 : Int32), w)
  else
  some ((-1 : Int32), w)

set_option maxHeartbeats 4000000 in
set_option maxRecDepth 100000 in
theorem rX11_keep (l : Launch) (D : va_G) (aC : Nat → ClassId) {x0 : Nat} {x1 : Int32} {x2 : Int32} {x3 : Int32} {x4 : Int32} {w : kW} {wR : kW} {oR : Int32} (h : fX11_keep x0 x1 x2 x3 x4 w = some (oR, wR)) : kC l D aC yX11_keep cX11_keep 7 (some .int) 3 53 [.ref x0, .int x1, .int x2, .int x3, .int x4] w (some (.int oR)) wR 1 3 := by
  refine kOf (own := RX11) (by decide) rfl (Nat.le_of_ble_eq_true rfl) ?_
  intro p e s m below meth c ls F hml hr hlocks hnm hX hZ hl
  obtain ⟨hx, hb, hts, hown, hK⟩ := id F
  have hl : lv_has ls 7 [(0, .ref x0), (1, .int x1), (2, .int x2), (3, .int x3), (4, .int x4)] := hl
  have hf := h
  rw [fX11_keep] at hf
  refine lv_aload_n hx hb (kd dtX11_keep_0 0 rfl) rfl (lv_at hl 0 rfl) ?_
  refine lv_iload_n hx hb (kd dtX11_keep_0 1 rfl) rfl (lv_at hl 1 rfl) ?_
  obtain ⟨b1, hb1, hf⟩ := kbind hf
  obtain ⟨hrb1, hkb1⟩ := kRc_s hb1
  obtain ⟨v3, h2, hf⟩ := kbind hf
  refine kcallV (n := 1) [.int x1] [] [va_rf v3] (rX11_shelfAt l D aC h2) hrb1 hkb1 F hml hX hZ hl.1 mwX11_shelfAt wmX11_99 rfl (by decide) (by decide +kernel) ⟨(by decide), (by decide)⟩ rfl rfl rfl (Nat.le_of_ble_eq_true rfl) (kd dtX11_keep_0 2 rfl) ⟨Nat.zero_le _, Nat.zero_le _⟩ (fun H locs hX => ?_)
  refine kastore (lv' := [(5, va_rf v3), (0, .ref x0), (1, .int x1), (2, .int x2), (3, .int x3), (4, .int x4)]) hx hb (kd dtX11_keep_0 3 rfl) hl (by decide) rfl (fun ls hl => ?_)
  refine kaload hx hb (kd dtX11_keep_0 4 rfl) (lv_at hl 0 rfl) ?_
  refine kifnull (tgt := 21) hx hb (kd dtX11_keep_0 5 rfl) (by decide) (fun hc => ?_) (fun hc => ?_)
  · have hf := kif_pos hc hf
    refine lv_iconst (v := (-1 : Int32)) hx hb (kd dtX11_keep_0 11 rfl) (by decide) ?_
    obtain ⟨rfl, rfl⟩ := Prod.mk.inj (Option.some.inj hf)
    refine W.widen (k := 1) (n := 3) (Nat.le_of_ble_eq_true rfl) (Nat.le_of_ble_eq_true rfl) ?_
    exact kiret F hX hr hlocks rfl (kd dtX11_keep_0 12 rfl)
  · have hf := kif_neg hc hf
    refine lv_iload_n hx hb (kd dtX11_keep_0 6 rfl) rfl (lv_at hl 3 rfl) ?_
    refine lv_if_lt (tgt := 21) hx hb (kd dtX11_keep_0 7 rfl) (by decide) (fun hc => ?_) (fun hc => ?_)
    · have hf := kif_pos hc hf
      refine lv_iconst (v := (-1 : Int32)) hx hb (kd dtX11_keep_0 11 rfl) (by decide) ?_
      obtain ⟨rfl, rfl⟩ := Prod.mk.inj (Option.some.inj hf)
      refine W.widen (k := 1) (n := 3) (Nat.le_of_ble_eq_true rfl) (Nat.le_of_ble_eq_true rfl) ?_
      exact kiret F hX hr hlocks rfl (kd dtX11_keep_0 12 rfl)
    · have hf := kif_neg hc hf
      refine lv_iload_n hx hb (kd dtX11_keep_0 8 rfl) rfl (lv_at hl 3 rfl) ?_
      refine lv_iconst (v := (1 : Int32)) hx hb (kd dtX11_keep_0 9 rfl) (by decide) ?_
      refine lv_icmp_le (tgt := 23) hx hb (kd dtX11_keep_0 10 rfl) (by decide) (fun hc => ?_) (fun hc => ?_)
      · have hf := kif_pos hc hf
        refine lv_iload_n hx hb (kd dtX11_keep_0 13 rfl) rfl (lv_at hl 3 rfl) ?_
        refine lv_if_ne (tgt := 34) hx hb (kd dtX11_keep_0 14 rfl) (by decide) (fun hc => ?_) (fun hc => ?_)
        · have hf := kif_neg hc hf
          refine lv_aload_n hx hb (kd dtX11_keep_0 19 rfl) rfl (lv_at hl 1 rfl) ?_
          obtain ⟨v4, hv4, hf⟩ := kbind hf
          refine kgetP hv4 F hX hinX11 rfl rfl rfl (by decide) (by decide) wfX11_10 (kd dtX11_keep_0 20 rfl) ?_
          refine lv_iload hx hb (kd dtX11_keep_0 21 rfl) (lv_at hl 5 rfl) ?_
          obtain ⟨b5, hb5, hf⟩ := kbind hf
          obtain ⟨hrb5, hkb5⟩ := kRc_s hb5
          obtain ⟨v7, h6, hf⟩ := kbind hf
          refine kcallV (n := 1) [.int x4] [] [va_rf v7] (rX8_lineAt l D aC h6) hrb5 hkb5 F hml hX hZ hl.1 mwX8_lineAt wmX11_128 rfl (by decide) (by decide +kernel) ⟨(by decide), (by decide)⟩ rfl rfl rfl (Nat.le_of_ble_eq_true rfl) (kd dtX11_keep_0 22 rfl) ⟨Nat.zero_le _, Nat.zero_le _⟩ (fun H locs hX => ?_)
          refine kastore (i := 6) (lv' := [(6, va_rf v7), (5, va_rf v3), (0, .ref x0), (1, .int x1), (2, .int x2), (3, .int x3), (4, .int x4)]) hx hb (kd dtX11_keep_0 23 rfl) hl (by decide) (by simp [kcat_rf, kcat_i, kcat_r, kcat_l]) (fun ls hl => ?_)
          refine kaload hx hb (kd dtX11_keep_0 24 rfl) (lv_at hl 0 rfl) ?_
          refine kifnull (tgt := 60) hx hb (kd dtX11_keep_0 25 rfl) (by decide) (fun hc => ?_) (fun hc => ?_)
          · have hf := kif_pos hc hf
            refine lv_iconst (v := (-1 : Int32)) hx hb (kd dtX11_keep_0 31 rfl) (by decide) ?_
            obtain ⟨rfl, rfl⟩ := Prod.mk.inj (Option.some.inj hf)
            refine W.widen (k := 1) (n := 3) (Nat.le_of_ble_eq_true rfl) (Nat.le_of_ble_eq_true rfl) ?_
            exact kiret F hX hr hlocks rfl (kd dtX11_keep_0 32 rfl)
          · have hf := kif_neg hc hf
            refine lv_iload_n hx hb (kd dtX11_keep_0 26 rfl) rfl (lv_at hl 5 rfl) ?_
            refine lv_if_lt (tgt := 60) hx hb (kd dtX11_keep_0 27 rfl) (by decide) (fun hc => ?_) (fun hc => ?_)
            · have hf := kif_pos hc hf
              refine lv_iconst (v := (-1 : Int32)) hx hb (kd dtX11_keep_0 31 rfl) (by decide) ?_
              obtain ⟨rfl, rfl⟩ := Prod.mk.inj (Option.some.inj hf)
              refine W.widen (k := 1) (n := 3) (Nat.le_of_ble_eq_true rfl) (Nat.le_of_ble_eq_true rfl) ?_
              exact kiret F hX hr hlocks rfl (kd dtX11_keep_0 32 rfl)
            · have hf := kif_neg hc hf
              refine lv_iload_n hx hb (kd dtX11_keep_0 28 rfl) rfl (lv_at hl 5 rfl) ?_
              refine lv_bipush (v := (6 : Int32)) hx hb (kd dtX11_keep_0 29 rfl) (by decide) ?_
              refine lv_icmp_le (tgt := 62) hx hb (kd dtX11_keep_0 30 rfl) (by decide) (fun hc => ?_) (fun hc => ?_)
              · have hf := kif_pos hc hf
                refine kaload hx hb (kd dtX11_keep_0 33 rfl) (lv_at hl 1 rfl) ?_
                obtain ⟨w8, hw8, hf⟩ := kbind hf
                refine knewo (k := 0) hw8 F hX hinX0 tyX0_ok (by decide +kernel) rfl rfl (by decide) wkX11_295 wnX0 wiX0 (Nat.le_of_ble_eq_true rfl) (Nat.le_of_ble_eq_true rfl) (kd dtX11_keep_0 34 rfl) (fun H hX => ?_)
                refine lv_dup hx hb (kd dtX11_keep_0 35 rfl) rfl ?_
                refine lv_iload_n hx hb (kd dtX11_keep_0 36 rfl) rfl (lv_at hl 5 rfl) ?_
                refine lv_iload hx hb (kd dtX11_keep_0 37 rfl) (lv_at hl 6 rfl) ?_
                refine kaload hx hb (kd dtX11_keep_0 38 rfl) (lv_at hl 0 rfl) ?_
                obtain ⟨w9, h10, hf⟩ := kbind hf
                refine kcallI (n := 3) [.int x3, .int x4, va_rf v7] [.ref (kSz w), va_rf v3] [.ref (kSz w), va_rf v3] (rX0_init l D aC h10) F hml hX hZ hl.1 mwX0_init wmX11_297 rfl (by decide +kernel) ⟨(by decide), (by decide)⟩ rfl rfl rfl (by simp [kcat_rf, kcat_i, kcat_r, kcat_l]) (kd dtX11_keep_0 39 rfl) ⟨Nat.le_of_ble_eq_true rfl, Nat.le_of_ble_eq_true rfl⟩ (fun H locs hX => ?_)
                obtain ⟨b11, hb11, hf⟩ := kbind hf
                obtain ⟨hrb11, hkb11⟩ := kRc_s hb11
                obtain ⟨w12, h13, hf⟩ := kbind hf
                refine kcallV (n := 1) [.ref (kSz w)] [] [] (rX6_holdCard l D aC h13) hrb11 hkb11 F hml hX hZ hl.1 mwX6_holdCard wmX11_300 rfl (by decide) (by decide +kernel) ⟨(by decide), (by decide)⟩ rfl rfl rfl (Nat.le_of_ble_eq_true rfl) (kd dtX11_keep_0 40 rfl) ⟨Nat.le_of_ble_eq_true rfl, Nat.le_of_ble_eq_true rfl⟩ (fun H locs hX => ?_)
                refine lv_iconst (v := (0 : Int32)) hx hb (kd dtX11_keep_0 41 rfl) (by decide) ?_
                obtain ⟨rfl, rfl⟩ := Prod.mk.inj (Option.some.inj hf)
                refine W.widen (k := 1) (n := 3) (Nat.le_of_ble_eq_true rfl) (Nat.le_of_ble_eq_true rfl) ?_
                exact kiret F hX hr hlocks rfl (kd dtX11_keep_0 42 rfl)
              · have hf := kif_neg hc hf
                refine lv_iconst (v := (-1 : Int32)) hx hb (kd dtX11_keep_0 31 rfl) (by decide) ?_
                obtain ⟨rfl, rfl⟩ := Prod.mk.inj (Option.some.inj hf)
                refine W.widen (k := 1) (n := 3) (Nat.le_of_ble_eq_true rfl) (Nat.le_of_ble_eq_true rfl) ?_
                exact kiret F hX hr hlocks rfl (kd dtX11_keep_0 32 rfl)
        · have hf := kif_pos hc hf
          refine kaload hx hb (kd dtX11_keep_0 15 rfl) (lv_at hl 0 rfl) ?_
          obtain ⟨b14, hb14, hf⟩ := kbind hf
          obtain ⟨hrb14, hkb14⟩ := kRc_s hb14
          obtain ⟨w15, h16, hf⟩ := kbind hf
          refine kcallV (n := 0) [] [] [] (rX6_holdNothing l D aC h16) hrb14 hkb14 F hml hX hZ hl.1 mwX6_holdNothing wmX11_292 rfl (by decide) (by decide +kernel) ⟨(by decide), (by decide)⟩ rfl rfl rfl (Nat.le_of_ble_eq_true rfl) (kd dtX11_keep_0 16 rfl) ⟨Nat.zero_le _, Nat.zero_le _⟩ (fun H locs hX => ?_)
          refine lv_iconst (v := (0 : Int32)) hx hb (kd dtX11_keep_0 17 rfl) (by decide) ?_
          obtain ⟨rfl, rfl⟩ := Prod.mk.inj (Option.some.inj hf)
          refine W.widen (k := 1) (n := 3) (Nat.le_of_ble_eq_true rfl) (Nat.le_of_ble_eq_true rfl) ?_
          exact kiret F hX hr hlocks rfl (kd dtX11_keep_0 18 rfl)
      · have hf := kif_neg hc hf
        refine lv_iconst (v := (-1 : Int32)) hx hb (kd dtX11_keep_0 11 rfl) (by decide) ?_
        obtain ⟨rfl, rfl⟩ := Prod.mk.inj (Option.some.inj hf)
        refine W.widen (k := 1) (n := 3) (Nat.le_of_ble_eq_true rfl) (Nat.le_of_ble_eq_true rfl) ?_
        exact kiret F hX hr hlocks rfl (kd dtX11_keep_0 12 rfl)
theorem wmX11_304 : Cond.methodLink RX11 304 yX6_holdRow ∈ kT := kTm 1069 (by decide +kernel) rfl
theorem mwX6_holdRow : kMV RX6 yX6_holdRow cX6_holdRow 3 none := ⟨kTm 1072 (by decide +kernel) rfl, kTm 105 (by decide +kernel) rfl, kTm 1070 (by decide +kernel) rfl, kTm 1071 (by decide +kernel) rfl⟩
def lX11_row_0 : List (Nat × Instr × Nat) := [(0, .aload_n 0, 1), (1, .iload_n 1, 1), (2, .invokevirtual 99, 3), (5, .astore 4, 2), (7, .aload 4, 2), (9, .ifnull 18, 3), (12, .iload_n 2, 1), (13, .ifCond .lt 14, 3), (16, .iload_n 2, 1), (17, .iconst 2, 1), (18, .if_icmp .gt 9, 3), (21, .iload_n 3, 1), (22, .bipush 120, 2), (24, .if_icmp .le 5, 3), (27, .iconst (-1), 1), (28, .ireturn, 1), (29, .iload_n 3, 1), (30, .ifCond .ge 6, 3), (33, .bipush (-14), 2), (35, .ireturn, 1), (36, .aload 4, 2), (38, .iload_n 2, 1), (39, .iload_n 3, 1), (40, .invokevirtual 304, 3), (43, .iconst 0, 1), (44, .ireturn, 1)]
theorem dtX11_row_0 : kDec cX11_row lX11_row_0 = true := by decide +kernel
noncomputable def fX11_row (x0 : Nat) (x1 : Int32) (x2 : Int32) (x3 : Int32) (w : kW) : Option (Int32 × kW) :=
  (kRc w 11 (some x0)).bind fun b1 =>
  (fX11_shelfAt b1 x1 w).bind fun v3 =>
  if v3 = none then
  some ((-1 : Int32), w)
  else
  if x2 < 0 then
  some ((-1 : Int32), w)
  else
  if (2 : Int32) < x2 then
  some ((-1 : Int32), w)
  else
  if x3 ≤ (120 : Int32) then
  if 0 ≤ x3 then
  (kRc w 6 v3).bind fun b4 =>
  (fX6_holdRow b4 x2 x3 w).bind fun w5 =>
  some ((0 : Int32), w5)
  else
  some ((-14 : Int32), w)
  else
  some ((-1 : Int32), w)

set_option maxHeartbeats 4000000 in
set_option maxRecDepth 100000 in
theorem rX11_row (l : Launch) (D : va_G) (aC : Nat → ClassId) {x0 : Nat} {x1 : Int32} {x2 : Int32} {x3 : Int32} {w : kW} {wR : kW} {oR : Int32} (h : fX11_row x0 x1 x2 x3 w = some (oR, wR)) : kC l D aC yX11_row cX11_row 5 (some .int) 3 57 [.ref x0, .int x1, .int x2, .int x3] w (some (.int oR)) wR 0 0 := by
  refine kOf (own := RX11) (by decide) rfl (Nat.le_of_ble_eq_true rfl) ?_
  intro p e s m below meth c ls F hml hr hlocks hnm hX hZ hl
  obtain ⟨hx, hb, hts, hown, hK⟩ := id F
  have hl : lv_has ls 5 [(0, .ref x0), (1, .int x1), (2, .int x2), (3, .int x3)] := hl
  have hf := h
  rw [fX11_row] at hf
  refine lv_aload_n hx hb (kd dtX11_row_0 0 rfl) rfl (lv_at hl 0 rfl) ?_
  refine lv_iload_n hx hb (kd dtX11_row_0 1 rfl) rfl (lv_at hl 1 rfl) ?_
  obtain ⟨b1, hb1, hf⟩ := kbind hf
  obtain ⟨hrb1, hkb1⟩ := kRc_s hb1
  obtain ⟨v3, h2, hf⟩ := kbind hf
  refine kcallV (n := 1) [.int x1] [] [va_rf v3] (rX11_shelfAt l D aC h2) hrb1 hkb1 F hml hX hZ hl.1 mwX11_shelfAt wmX11_99 rfl (by decide) (by decide +kernel) ⟨(by decide), (by decide)⟩ rfl rfl rfl (Nat.le_of_ble_eq_true rfl) (kd dtX11_row_0 2 rfl) ⟨Nat.zero_le _, Nat.zero_le _⟩ (fun H locs hX => ?_)
  refine kastore (lv' := [(4, va_rf v3), (0, .ref x0), (1, .int x1), (2, .int x2), (3, .int x3)]) hx hb (kd dtX11_row_0 3 rfl) hl (by decide) rfl (fun ls hl => ?_)
  refine kaload hx hb (kd dtX11_row_0 4 rfl) (lv_at hl 0 rfl) ?_
  refine kifnull (tgt := 27) hx hb (kd dtX11_row_0 5 rfl) (by decide) (fun hc => ?_) (fun hc => ?_)
  · have hf := kif_pos hc hf
    refine lv_iconst (v := (-1 : Int32)) hx hb (kd dtX11_row_0 14 rfl) (by decide) ?_
    obtain ⟨rfl, rfl⟩ := Prod.mk.inj (Option.some.inj hf)
    exact kiret F hX hr hlocks rfl (kd dtX11_row_0 15 rfl)
  · have hf := kif_neg hc hf
    refine lv_iload_n hx hb (kd dtX11_row_0 6 rfl) rfl (lv_at hl 3 rfl) ?_
    refine lv_if_lt (tgt := 27) hx hb (kd dtX11_row_0 7 rfl) (by decide) (fun hc => ?_) (fun hc => ?_)
    · have hf := kif_pos hc hf
      refine lv_iconst (v := (-1 : Int32)) hx hb (kd dtX11_row_0 14 rfl) (by decide) ?_
      obtain ⟨rfl, rfl⟩ := Prod.mk.inj (Option.some.inj hf)
      exact kiret F hX hr hlocks rfl (kd dtX11_row_0 15 rfl)
    · have hf := kif_neg hc hf
      refine lv_iload_n hx hb (kd dtX11_row_0 8 rfl) rfl (lv_at hl 3 rfl) ?_
      refine lv_iconst (v := (2 : Int32)) hx hb (kd dtX11_row_0 9 rfl) (by decide) ?_
      refine lv_icmp_gt (tgt := 27) hx hb (kd dtX11_row_0 10 rfl) (by decide) (fun hc => ?_) (fun hc => ?_)
      · have hf := kif_pos hc hf
        refine lv_iconst (v := (-1 : Int32)) hx hb (kd dtX11_row_0 14 rfl) (by decide) ?_
        obtain ⟨rfl, rfl⟩ := Prod.mk.inj (Option.some.inj hf)
        exact kiret F hX hr hlocks rfl (kd dtX11_row_0 15 rfl)
      · have hf := kif_neg hc hf
        refine lv_iload_n hx hb (kd dtX11_row_0 11 rfl) rfl (lv_at hl 4 rfl) ?_
        refine lv_bipush (v := (120 : Int32)) hx hb (kd dtX11_row_0 12 rfl) (by decide) ?_
        refine lv_icmp_le (tgt := 29) hx hb (kd dtX11_row_0 13 rfl) (by decide) (fun hc => ?_) (fun hc => ?_)
        · have hf := kif_pos hc hf
          refine lv_iload_n hx hb (kd dtX11_row_0 16 rfl) rfl (lv_at hl 4 rfl) ?_
          refine lv_if_ge (tgt := 36) hx hb (kd dtX11_row_0 17 rfl) (by decide) (fun hc => ?_) (fun hc => ?_)
          · have hf := kif_pos hc hf
            refine kaload hx hb (kd dtX11_row_0 20 rfl) (lv_at hl 0 rfl) ?_
            refine lv_iload_n hx hb (kd dtX11_row_0 21 rfl) rfl (lv_at hl 3 rfl) ?_
            refine lv_iload_n hx hb (kd dtX11_row_0 22 rfl) rfl (lv_at hl 4 rfl) ?_
            obtain ⟨b4, hb4, hf⟩ := kbind hf
            obtain ⟨hrb4, hkb4⟩ := kRc_s hb4
            obtain ⟨w5, h6, hf⟩ := kbind hf
            refine kcallV (n := 2) [.int x2, .int x3] [] [] (rX6_holdRow l D aC h6) hrb4 hkb4 F hml hX hZ hl.1 mwX6_holdRow wmX11_304 rfl (by decide) (by decide +kernel) ⟨(by decide), (by decide)⟩ rfl rfl rfl (Nat.le_of_ble_eq_true rfl) (kd dtX11_row_0 23 rfl) ⟨Nat.zero_le _, Nat.zero_le _⟩ (fun H locs hX => ?_)
            refine lv_iconst (v := (0 : Int32)) hx hb (kd dtX11_row_0 24 rfl) (by decide) ?_
            obtain ⟨rfl, rfl⟩ := Prod.mk.inj (Option.some.inj hf)
            exact kiret F hX hr hlocks rfl (kd dtX11_row_0 25 rfl)
          · have hf := kif_neg hc hf
            refine lv_bipush (v := (-14 : Int32)) hx hb (kd dtX11_row_0 18 rfl) (by decide) ?_
            obtain ⟨rfl, rfl⟩ := Prod.mk.inj (Option.some.inj hf)
            exact kiret F hX hr hlocks rfl (kd dtX11_row_0 19 rfl)
        · have hf := kif_neg hc hf
          refine lv_iconst (v := (-1 : Int32)) hx hb (kd dtX11_row_0 14 rfl) (by decide) ?_
          obtain ⟨rfl, rfl⟩ := Prod.mk.inj (Option.some.inj hf)
          exact kiret F hX hr hlocks rfl (kd dtX11_row_0 15 rfl)
theorem wmX11_307 : Cond.methodLink RX11 307 yX6_rowRefusal ∈ kT := kTm 1078 (by decide +kernel) rfl
theorem wmX11_310 : Cond.methodLink RX11 310 yX6_setElement ∈ kT := kTm 1079 (by decide +kernel) rfl
theorem mwX6_setElement : kMV RX6 yX6_setElement cX6_setElement 3 (some .boolean) := ⟨kTm 1082 (by decide +kernel) rfl, kTm 105 (by decide +kernel) rfl, kTm 1080 (by decide +kernel) rfl, kTm 1081 (by decide +kernel) rfl⟩
def lX11_put_0 : List (Nat × Instr × Nat) := [(0, .aload_n 0, 1), (1, .iload_n 1, 1), (2, .invokevirtual 99, 3), (5, .astore 4, 2), (7, .aload 4, 2), (9, .ifnonnull 5, 3), (12, .iconst (-1), 1), (13, .ireturn, 1), (14, .aload 4, 2), (16, .invokevirtual 307, 3), (19, .istore 5, 2), (21, .iload 5, 2), (23, .ifCond .eq 6, 3), (26, .iload 5, 2), (28, .ireturn, 1), (29, .aload 4, 2), (31, .iload_n 2, 1), (32, .iload_n 3, 1), (33, .invokevirtual 310, 3), (36, .ifCond .eq 7, 3), (39, .iconst 0, 1), (40, .goto 5, 3), (43, .bipush (-13), 2), (45, .ireturn, 1)]
theorem dtX11_put_0 : kDec cX11_put lX11_put_0 = true := by decide +kernel
noncomputable def fX11_put (x0 : Nat) (x1 : Int32) (x2 : Int32) (x3 : Int32) (w : kW) : Option (Int32 × kW) :=
  (kRc w 11 (some x0)).bind fun b1 =>
  (fX11_shelfAt b1 x1 w).bind fun v3 =>
  if v3 = none then
  some ((-1 : Int32), w)
  else
  (kRc w 6 v3).bind fun b4 =>
  (fX6_rowRefusal b4 w).bind fun v6 =>
  if v6 = 0 then
  (kRc w 6 v3).bind fun b7 =>
  kb2 (fX6_setElement b7 x2 x3 w) fun v10 w8 =>
  if v10 = 0 then
  some ((-13 : Int32), w8)
  else
  some ((0 : Int32), w8)
  else
  some (v6, w)

set_option maxHeartbeats 4000000 in
set_option maxRecDepth 100000 in
theorem rX11_put (l : Launch) (D : va_G) (aC : Nat → ClassId) {x0 : Nat} {x1 : Int32} {x2 : Int32} {x3 : Int32} {w : kW} {wR : kW} {oR : Int32} (h : fX11_put x0 x1 x2 x3 w = some (oR, wR)) : kC l D aC yX11_put cX11_put 6 (some .int) 3 55 [.ref x0, .int x1, .int x2, .int x3] w (some (.int oR)) wR 0 0 := by
  refine kOf (own := RX11) (by decide) rfl (Nat.le_of_ble_eq_true rfl) ?_
  intro p e s m below meth c ls F hml hr hlocks hnm hX hZ hl
  obtain ⟨hx, hb, hts, hown, hK⟩ := id F
  have hl : lv_has ls 6 [(0, .ref x0), (1, .int x1), (2, .int x2), (3, .int x3)] := hl
  have hf := h
  rw [fX11_put] at hf
  refine lv_aload_n hx hb (kd dtX11_put_0 0 rfl) rfl (lv_at hl 0 rfl) ?_
  refine lv_iload_n hx hb (kd dtX11_put_0 1 rfl) rfl (lv_at hl 1 rfl) ?_
  obtain ⟨b1, hb1, hf⟩ := kbind hf
  obtain ⟨hrb1, hkb1⟩ := kRc_s hb1
  obtain ⟨v3, h2, hf⟩ := kbind hf
  refine kcallV (n := 1) [.int x1] [] [va_rf v3] (rX11_shelfAt l D aC h2) hrb1 hkb1 F hml hX hZ hl.1 mwX11_shelfAt wmX11_99 rfl (by decide) (by decide +kernel) ⟨(by decide), (by decide)⟩ rfl rfl rfl (Nat.le_of_ble_eq_true rfl) (kd dtX11_put_0 2 rfl) ⟨Nat.zero_le _, Nat.zero_le _⟩ (fun H locs hX => ?_)
  refine kastore (lv' := [(4, va_rf v3), (0, .ref x0), (1, .int x1), (2, .int x2), (3, .int x3)]) hx hb (kd dtX11_put_0 3 rfl) hl (by decide) rfl (fun ls hl => ?_)
  refine kaload hx hb (kd dtX11_put_0 4 rfl) (lv_at hl 0 rfl) ?_
  refine kifnonnull (tgt := 14) hx hb (kd dtX11_put_0 5 rfl) (by decide) (fun hc => ?_) (fun hc => ?_)
  · have hf := kif_pos hc hf
    refine lv_iconst (v := (-1 : Int32)) hx hb (kd dtX11_put_0 6 rfl) (by decide) ?_
    obtain ⟨rfl, rfl⟩ := Prod.mk.inj (Option.some.inj hf)
    exact kiret F hX hr hlocks rfl (kd dtX11_put_0 7 rfl)
  · have hf := kif_neg hc hf
    refine kaload hx hb (kd dtX11_put_0 8 rfl) (lv_at hl 0 rfl) ?_
    obtain ⟨b4, hb4, hf⟩ := kbind hf
    obtain ⟨hrb4, hkb4⟩ := kRc_s hb4
    obtain ⟨v6, h5, hf⟩ := kbind hf
    refine kcallV (n := 0) [] [] [.int v6] (rX6_rowRefusal l D aC h5) hrb4 hkb4 F hml hX hZ hl.1 mwX6_rowRefusal wmX11_307 rfl (by decide) (by decide +kernel) ⟨(by decide), (by decide)⟩ rfl rfl rfl (Nat.le_of_ble_eq_true rfl) (kd dtX11_put_0 9 rfl) ⟨Nat.zero_le _, Nat.zero_le _⟩ (fun H locs hX => ?_)
    refine lv_istore (i := 5) (lv' := [(5, .int v6), (4, va_rf v3), (0, .ref x0), (1, .int x1), (2, .int x2), (3, .int x3)]) hx hb (kd dtX11_put_0 10 rfl) hl (by decide) (by simp [kcat_rf, kcat_i, kcat_r, kcat_l]) (fun ls hl => ?_)
    refine lv_iload hx hb (kd dtX11_put_0 11 rfl) (lv_at hl 0 rfl) ?_
    refine lv_if_eq (tgt := 29) hx hb (kd dtX11_put_0 12 rfl) (by decide) (fun hc => ?_) (fun hc => ?_)
    · have hf := kif_pos hc hf
      refine kaload hx hb (kd dtX11_put_0 15 rfl) (lv_at hl 1 rfl) ?_
      refine lv_iload_n hx hb (kd dtX11_put_0 16 rfl) rfl (lv_at hl 4 rfl) ?_
      refine lv_iload_n hx hb (kd dtX11_put_0 17 rfl) rfl (lv_at hl 5 rfl) ?_
      obtain ⟨b7, hb7, hf⟩ := kbind hf
      obtain ⟨hrb7, hkb7⟩ := kRc_s hb7
      obtain ⟨v10, w8, h9, hf⟩ := kbind2 hf
      refine kcallV (n := 2) [.int x2, .int x3] [] [.int v10] (rX6_setElement l D aC h9) hrb7 hkb7 F hml hX hZ hl.1 mwX6_setElement wmX11_310 rfl (by decide) (by decide +kernel) ⟨(by decide), (by decide)⟩ rfl rfl rfl (Nat.le_of_ble_eq_true rfl) (kd dtX11_put_0 18 rfl) ⟨Nat.zero_le _, Nat.zero_le _⟩ (fun H locs hX => ?_)
      refine lv_if_eq (tgt := 43) hx hb (kd dtX11_put_0 19 rfl) (by decide) (fun hc => ?_) (fun hc => ?_)
      · have hf := kif_pos hc hf
        refine lv_bipush (v := (-13 : Int32)) hx hb (kd dtX11_put_0 22 rfl) (by decide) ?_
        obtain ⟨rfl, rfl⟩ := Prod.mk.inj (Option.some.inj hf)
        exact kiret F hX hr hlocks rfl (kd dtX11_put_0 23 rfl)
      · have hf := kif_neg hc hf
        refine lv_iconst (v := (0 : Int32)) hx hb (kd dtX11_put_0 20 rfl) (by decide) ?_
        refine lv_goto (tgt := 45) hx hb (kd dtX11_put_0 21 rfl) (by decide) ?_
        obtain ⟨rfl, rfl⟩ := Prod.mk.inj (Option.some.inj hf)
        exact kiret F hX hr hlocks rfl (kd dtX11_put_0 23 rfl)
    · have hf := kif_neg hc hf
      refine lv_iload hx hb (kd dtX11_put_0 13 rfl) (lv_at hl 0 rfl) ?_
      obtain ⟨rfl, rfl⟩ := Prod.mk.inj (Option.some.inj hf)
      exact kiret F hX hr hlocks rfl (kd dtX11_put_0 14 rfl)
theorem wmX11_331 : Cond.methodLink RX11 331 yX6_isEmpty ∈ kT := kTm 1087 (by decide +kernel) rfl
theorem mwX6_isEmpty : kMV RX6 yX6_isEmpty cX6_isEmpty 1 (some .boolean) := ⟨kTm 1090 (by decide +kernel) rfl, kTm 105 (by decide +kernel) rfl, kTm 1088 (by decide +kernel) rfl, kTm 1089 (by decide +kernel) rfl⟩
theorem wfX11_334 : Cond.fieldLinkNest RX11 334 (TX6 1).1 (TX6 1).2.1 (TX6 1).2.2.1 "KitchenCards" ∈ kNs := kNm 433 (by decide +kernel) rfl
theorem wmX11_337 : Cond.methodLink RX11 337 yX6_hasPlaces ∈ kT := kTm 1091 (by decide +kernel) rfl
theorem mwX6_hasPlaces : kMV RX6 yX6_hasPlaces cX6_hasPlaces 3 (some .boolean) := ⟨kTm 1094 (by decide +kernel) rfl, kTm 105 (by decide +kernel) rfl, kTm 1092 (by decide +kernel) rfl, kTm 1093 (by decide +kernel) rfl⟩
theorem wmX11_340 : Cond.methodLink RX11 340 arraycopyName ∈ kT := kTm 1095 (by decide +kernel) rfl
def lX11_copy_0 : List (Nat × Instr × Nat) := [(0, .aload_n 0, 1), (1, .iload_n 1, 1), (2, .invokevirtual 99, 3), (5, .astore 6, 2), (7, .aload_n 0, 1), (8, .iload_n 3, 1), (9, .invokevirtual 99, 3), (12, .astore 7, 2), (14, .aload 6, 2), (16, .ifnull 8, 3), (19, .aload 7, 2), (21, .ifnonnull 5, 3), (24, .iconst (-1), 1), (25, .ireturn, 1), (26, .aload 6, 2), (28, .invokevirtual 331, 3), (31, .ifCond .ne 11, 3), (34, .aload 7, 2), (36, .invokevirtual 331, 3), (39, .ifCond .eq 6, 3), (42, .bipush (-11), 2), (44, .ireturn, 1), (45, .aload 6, 2), (47, .invokevirtual 307, 3), (50, .ifCond .ne 24, 3), (53, .aload 7, 2), (55, .invokevirtual 307, 3), (58, .ifCond .ne 16, 3), (61, .aload 6, 2), (63, .getfield 334, 3), (66, .aload 7, 2), (68, .getfield 334, 3), (71, .if_icmp .eq 6, 3), (74, .bipush (-12), 2), (76, .ireturn, 1), (77, .aload 6, 2), (79, .iload_n 2, 1), (80, .iload 5, 2), (82, .invokevirtual 337, 3), (85, .ifCond .eq 15, 3), (88, .aload 7, 2), (90, .iload 4, 2), (92, .iload 5, 2), (94, .invokevirtual 337, 3), (97, .ifCond .ne 6, 3), (100, .bipush (-13), 2), (102, .ireturn, 1), (103, .aload 6, 2), (105, .getfield 107, 3), (108, .iload_n 2, 1), (109, .aload 7, 2), (111, .getfield 107, 3), (114, .iload 4, 2), (116, .iload 5, 2), (118, .invokestatic 340, 3), (121, .iload 5, 2), (123, .ireturn, 1)]
theorem dtX11_copy_0 : kDec cX11_copy lX11_copy_0 = true := by decide +kernel
noncomputable def fX11_copy (x0 : Nat) (x1 : Int32) (x2 : Int32) (x3 : Int32) (x4 : Int32) (x5 : Int32) (w : kW) : Option (Int32 × kW) :=
  (kRc w 11 (some x0)).bind fun b1 =>
  (fX11_shelfAt b1 x1 w).bind fun v3 =>
  (kRc w 11 (some x0)).bind fun b4 =>
  (fX11_shelfAt b4 x3 w).bind fun v6 =>
  if v3 = none then
  some ((-1 : Int32), w)
  else
  if v6 = none then
  some ((-1 : Int32), w)
  else
  (kRc w 6 v3).bind fun b7 =>
  (fX6_isEmpty b7 w).bind fun v9 =>
  if v9 = 0 then
  (kRc w 6 v6).bind fun b10 =>
  (fX6_isEmpty b10 w).bind fun v12 =>
  if v12 = 0 then
  (kRc w 6 v3).bind fun b13 =>
  (fX6_rowRefusal b13 w).bind fun v15 =>
  if v15 = 0 then
  (kRc w 6 v6).bind fun b16 =>
  (fX6_rowRefusal b16 w).bind fun v18 =>
  if v18 = 0 then
  (kgI w 6 v3 1).bind fun v19 =>
  (kgI w 6 v6 1).bind fun v20 =>
  if v19 = v20 then
  (kRc w 6 v3).bind fun b21 =>
  (fX6_hasPlaces b21 x2 x5 w).bind fun v23 =>
  if v23 = 0 then
  some ((-13 : Int32), w)
  else
  (kRc w 6 v6).bind fun b24 =>
  (fX6_hasPlaces b24 x4 x5 w).bind fun v26 =>
  if v26 = 0 then
  some ((-13 : Int32), w)
  else
  (kgP w 6 v3 0).bind fun v27 =>
  (kgP w 6 v6 0).bind fun v28 =>
  (kcp w v27 x2 v28 x4 x5).bind fun w29 =>
  some (x5, w29)
  else
  some ((-12 : Int32), w)
  else
  some ((-12 : Int32), w)
  else
  some ((-12 : Int32), w)
  else
  some ((-11 : Int32), w)
  else
  some ((-11 : Int32), w)

set_option maxHeartbeats 4000000 in
set_option maxRecDepth 100000 in
theorem rX11_copy (l : Launch) (D : va_G) (aC : Nat → ClassId) {x0 : Nat} {x1 : Int32} {x2 : Int32} {x3 : Int32} {x4 : Int32} {x5 : Int32} {w : kW} {wR : kW} {oR : Int32} (h : fX11_copy x0 x1 x2 x3 x4 x5 w = some (oR, wR)) : kC l D aC yX11_copy cX11_copy 8 (some .int) 2 40 [.ref x0, .int x1, .int x2, .int x3, .int x4, .int x5] w (some (.int oR)) wR 0 0 := by
  refine kOf (own := RX11) (by decide) rfl (Nat.le_of_ble_eq_true rfl) ?_
  intro p e s m below meth c ls F hml hr hlocks hnm hX hZ hl
  obtain ⟨hx, hb, hts, hown, hK⟩ := id F
  have hl : lv_has ls 8 [(0, .ref x0), (1, .int x1), (2, .int x2), (3, .int x3), (4, .int x4), (5, .int x5)] := hl
  have hf := h
  rw [fX11_copy] at hf
  refine lv_aload_n hx hb (kd dtX11_copy_0 0 rfl) rfl (lv_at hl 0 rfl) ?_
  refine lv_iload_n hx hb (kd dtX11_copy_0 1 rfl) rfl (lv_at hl 1 rfl) ?_
  obtain ⟨b1, hb1, hf⟩ := kbind hf
  obtain ⟨hrb1, hkb1⟩ := kRc_s hb1
  obtain ⟨v3, h2, hf⟩ := kbind hf
  refine kcallV (n := 1) [.int x1] [] [va_rf v3] (rX11_shelfAt l D aC h2) hrb1 hkb1 F hml hX hZ hl.1 mwX11_shelfAt wmX11_99 rfl (by decide) (by decide +kernel) ⟨(by decide), (by decide)⟩ rfl rfl rfl (Nat.le_of_ble_eq_true rfl) (kd dtX11_copy_0 2 rfl) ⟨Nat.zero_le _, Nat.zero_le _⟩ (fun H locs hX => ?_)
  refine kastore (lv' := [(6, va_rf v3), (0, .ref x0), (1, .int x1), (2, .int x2), (3, .int x3), (4, .int x4), (5, .int x5)]) hx hb (kd dtX11_copy_0 3 rfl) hl (by decide) rfl (fun ls hl => ?_)
  refine lv_aload_n hx hb (kd dtX11_copy_0 4 rfl) rfl (lv_at hl 1 rfl) ?_
  refine lv_iload_n hx hb (kd dtX11_copy_0 5 rfl) rfl (lv_at hl 4 rfl) ?_
  obtain ⟨b4, hb4, hf⟩ := kbind hf
  obtain ⟨hrb4, hkb4⟩ := kRc_s hb4
  obtain ⟨v6, h5, hf⟩ := kbind hf
  refine kcallV (n := 1) [.int x3] [] [va_rf v6] (rX11_shelfAt l D aC h5) hrb4 hkb4 F hml hX hZ hl.1 mwX11_shelfAt wmX11_99 rfl (by decide) (by decide +kernel) ⟨(by decide), (by decide)⟩ rfl rfl rfl (Nat.le_of_ble_eq_true rfl) (kd dtX11_copy_0 6 rfl) ⟨Nat.zero_le _, Nat.zero_le _⟩ (fun H locs hX => ?_)
  refine kastore (i := 7) (lv' := [(7, va_rf v6), (6, va_rf v3), (0, .ref x0), (1, .int x1), (2, .int x2), (3, .int x3), (4, .int x4), (5, .int x5)]) hx hb (kd dtX11_copy_0 7 rfl) hl (by decide) (by simp [kcat_rf, kcat_i, kcat_r, kcat_l]) (fun ls hl => ?_)
  refine kaload hx hb (kd dtX11_copy_0 8 rfl) (lv_at hl 1 rfl) ?_
  refine kifnull (tgt := 24) hx hb (kd dtX11_copy_0 9 rfl) (by decide) (fun hc => ?_) (fun hc => ?_)
  · have hf := kif_pos hc hf
    refine lv_iconst (v := (-1 : Int32)) hx hb (kd dtX11_copy_0 12 rfl) (by decide) ?_
    obtain ⟨rfl, rfl⟩ := Prod.mk.inj (Option.some.inj hf)
    exact kiret F hX hr hlocks rfl (kd dtX11_copy_0 13 rfl)
  · have hf := kif_neg hc hf
    refine kaload hx hb (kd dtX11_copy_0 10 rfl) (lv_at hl 0 rfl) ?_
    refine kifnonnull (tgt := 26) hx hb (kd dtX11_copy_0 11 rfl) (by decide) (fun hc => ?_) (fun hc => ?_)
    · have hf := kif_pos hc hf
      refine lv_iconst (v := (-1 : Int32)) hx hb (kd dtX11_copy_0 12 rfl) (by decide) ?_
      obtain ⟨rfl, rfl⟩ := Prod.mk.inj (Option.some.inj hf)
      exact kiret F hX hr hlocks rfl (kd dtX11_copy_0 13 rfl)
    · have hf := kif_neg hc hf
      refine kaload hx hb (kd dtX11_copy_0 14 rfl) (lv_at hl 1 rfl) ?_
      obtain ⟨b7, hb7, hf⟩ := kbind hf
      obtain ⟨hrb7, hkb7⟩ := kRc_s hb7
      obtain ⟨v9, h8, hf⟩ := kbind hf
      refine kcallV (n := 0) [] [] [.int v9] (rX6_isEmpty l D aC h8) hrb7 hkb7 F hml hX hZ hl.1 mwX6_isEmpty wmX11_331 rfl (by decide) (by decide +kernel) ⟨(by decide), (by decide)⟩ rfl rfl rfl (Nat.le_of_ble_eq_true rfl) (kd dtX11_copy_0 15 rfl) ⟨Nat.zero_le _, Nat.zero_le _⟩ (fun H locs hX => ?_)
      refine lv_if_ne (tgt := 42) hx hb (kd dtX11_copy_0 16 rfl) (by decide) (fun hc => ?_) (fun hc => ?_)
      · have hf := kif_neg hc hf
        refine lv_bipush (v := (-11 : Int32)) hx hb (kd dtX11_copy_0 20 rfl) (by decide) ?_
        obtain ⟨rfl, rfl⟩ := Prod.mk.inj (Option.some.inj hf)
        exact kiret F hX hr hlocks rfl (kd dtX11_copy_0 21 rfl)
      · have hf := kif_pos hc hf
        refine kaload hx hb (kd dtX11_copy_0 17 rfl) (lv_at hl 0 rfl) ?_
        obtain ⟨b10, hb10, hf⟩ := kbind hf
        obtain ⟨hrb10, hkb10⟩ := kRc_s hb10
        obtain ⟨v12, h11, hf⟩ := kbind hf
        refine kcallV (n := 0) [] [] [.int v12] (rX6_isEmpty l D aC h11) hrb10 hkb10 F hml hX hZ hl.1 mwX6_isEmpty wmX11_331 rfl (by decide) (by decide +kernel) ⟨(by decide), (by decide)⟩ rfl rfl rfl (Nat.le_of_ble_eq_true rfl) (kd dtX11_copy_0 18 rfl) ⟨Nat.zero_le _, Nat.zero_le _⟩ (fun H locs hX => ?_)
        refine lv_if_eq (tgt := 45) hx hb (kd dtX11_copy_0 19 rfl) (by decide) (fun hc => ?_) (fun hc => ?_)
        · have hf := kif_pos hc hf
          refine kaload hx hb (kd dtX11_copy_0 22 rfl) (lv_at hl 1 rfl) ?_
          obtain ⟨b13, hb13, hf⟩ := kbind hf
          obtain ⟨hrb13, hkb13⟩ := kRc_s hb13
          obtain ⟨v15, h14, hf⟩ := kbind hf
          refine kcallV (n := 0) [] [] [.int v15] (rX6_rowRefusal l D aC h14) hrb13 hkb13 F hml hX hZ hl.1 mwX6_rowRefusal wmX11_307 rfl (by decide) (by decide +kernel) ⟨(by decide), (by decide)⟩ rfl rfl rfl (Nat.le_of_ble_eq_true rfl) (kd dtX11_copy_0 23 rfl) ⟨Nat.zero_le _, Nat.zero_le _⟩ (fun H locs hX => ?_)
          refine lv_if_ne (tgt := 74) hx hb (kd dtX11_copy_0 24 rfl) (by decide) (fun hc => ?_) (fun hc => ?_)
          · have hf := kif_neg hc hf
            refine lv_bipush (v := (-12 : Int32)) hx hb (kd dtX11_copy_0 33 rfl) (by decide) ?_
            obtain ⟨rfl, rfl⟩ := Prod.mk.inj (Option.some.inj hf)
            exact kiret F hX hr hlocks rfl (kd dtX11_copy_0 34 rfl)
          · have hf := kif_pos hc hf
            refine kaload hx hb (kd dtX11_copy_0 25 rfl) (lv_at hl 0 rfl) ?_
            obtain ⟨b16, hb16, hf⟩ := kbind hf
            obtain ⟨hrb16, hkb16⟩ := kRc_s hb16
            obtain ⟨v18, h17, hf⟩ := kbind hf
            refine kcallV (n := 0) [] [] [.int v18] (rX6_rowRefusal l D aC h17) hrb16 hkb16 F hml hX hZ hl.1 mwX6_rowRefusal wmX11_307 rfl (by decide) (by decide +kernel) ⟨(by decide), (by decide)⟩ rfl rfl rfl (Nat.le_of_ble_eq_true rfl) (kd dtX11_copy_0 26 rfl) ⟨Nat.zero_le _, Nat.zero_le _⟩ (fun H locs hX => ?_)
            refine lv_if_ne (tgt := 74) hx hb (kd dtX11_copy_0 27 rfl) (by decide) (fun hc => ?_) (fun hc => ?_)
            · have hf := kif_neg hc hf
              refine lv_bipush (v := (-12 : Int32)) hx hb (kd dtX11_copy_0 33 rfl) (by decide) ?_
              obtain ⟨rfl, rfl⟩ := Prod.mk.inj (Option.some.inj hf)
              exact kiret F hX hr hlocks rfl (kd dtX11_copy_0 34 rfl)
            · have hf := kif_pos hc hf
              refine kaload hx hb (kd dtX11_copy_0 28 rfl) (lv_at hl 1 rfl) ?_
              obtain ⟨v19, hv19, hf⟩ := kbind hf
              refine kgetIN hv19 F hX hinX6 rfl rfl rfl (by decide) (by decide) hZ wfX11_334 (kd dtX11_copy_0 29 rfl) ?_
              refine kaload hx hb (kd dtX11_copy_0 30 rfl) (lv_at hl 0 rfl) ?_
              obtain ⟨v20, hv20, hf⟩ := kbind hf
              refine kgetIN hv20 F hX hinX6 rfl rfl rfl (by decide) (by decide) hZ wfX11_334 (kd dtX11_copy_0 31 rfl) ?_
              refine lv_icmp_eq (tgt := 77) hx hb (kd dtX11_copy_0 32 rfl) (by decide) (fun hc => ?_) (fun hc => ?_)
              · have hf := kif_pos hc hf
                refine kaload hx hb (kd dtX11_copy_0 35 rfl) (lv_at hl 1 rfl) ?_
                refine lv_iload_n hx hb (kd dtX11_copy_0 36 rfl) rfl (lv_at hl 4 rfl) ?_
                refine lv_iload hx hb (kd dtX11_copy_0 37 rfl) (lv_at hl 7 rfl) ?_
                obtain ⟨b21, hb21, hf⟩ := kbind hf
                obtain ⟨hrb21, hkb21⟩ := kRc_s hb21
                obtain ⟨v23, h22, hf⟩ := kbind hf
                refine kcallV (n := 2) [.int x2, .int x5] [] [.int v23] (rX6_hasPlaces l D aC h22) hrb21 hkb21 F hml hX hZ hl.1 mwX6_hasPlaces wmX11_337 rfl (by decide) (by decide +kernel) ⟨(by decide), (by decide)⟩ rfl rfl rfl (Nat.le_of_ble_eq_true rfl) (kd dtX11_copy_0 38 rfl) ⟨Nat.zero_le _, Nat.zero_le _⟩ (fun H locs hX => ?_)
                refine lv_if_eq (tgt := 100) hx hb (kd dtX11_copy_0 39 rfl) (by decide) (fun hc => ?_) (fun hc => ?_)
                · have hf := kif_pos hc hf
                  refine lv_bipush (v := (-13 : Int32)) hx hb (kd dtX11_copy_0 45 rfl) (by decide) ?_
                  obtain ⟨rfl, rfl⟩ := Prod.mk.inj (Option.some.inj hf)
                  exact kiret F hX hr hlocks rfl (kd dtX11_copy_0 46 rfl)
                · have hf := kif_neg hc hf
                  refine kaload hx hb (kd dtX11_copy_0 40 rfl) (lv_at hl 0 rfl) ?_
                  refine lv_iload hx hb (kd dtX11_copy_0 41 rfl) (lv_at hl 6 rfl) ?_
                  refine lv_iload hx hb (kd dtX11_copy_0 42 rfl) (lv_at hl 7 rfl) ?_
                  obtain ⟨b24, hb24, hf⟩ := kbind hf
                  obtain ⟨hrb24, hkb24⟩ := kRc_s hb24
                  obtain ⟨v26, h25, hf⟩ := kbind hf
                  refine kcallV (n := 2) [.int x4, .int x5] [] [.int v26] (rX6_hasPlaces l D aC h25) hrb24 hkb24 F hml hX hZ hl.1 mwX6_hasPlaces wmX11_337 rfl (by decide) (by decide +kernel) ⟨(by decide), (by decide)⟩ rfl rfl rfl (Nat.le_of_ble_eq_true rfl) (kd dtX11_copy_0 43 rfl) ⟨Nat.zero_le _, Nat.zero_le _⟩ (fun H locs hX => ?_)
                  refine lv_if_ne (tgt := 103) hx hb (kd dtX11_copy_0 44 rfl) (by decide) (fun hc => ?_) (fun hc => ?_)
                  · have hf := kif_neg hc hf
                    refine kaload hx hb (kd dtX11_copy_0 47 rfl) (lv_at hl 1 rfl) ?_
                    obtain ⟨v27, hv27, hf⟩ := kbind hf
                    refine kgetPN hv27 F hX hinX6 rfl rfl rfl (by decide) (by decide) hZ wfX11_107 (kd dtX11_copy_0 48 rfl) ?_
                    refine lv_iload_n hx hb (kd dtX11_copy_0 49 rfl) rfl (lv_at hl 4 rfl) ?_
                    refine kaload hx hb (kd dtX11_copy_0 50 rfl) (lv_at hl 0 rfl) ?_
                    obtain ⟨v28, hv28, hf⟩ := kbind hf
                    refine kgetPN hv28 F hX hinX6 rfl rfl rfl (by decide) (by decide) hZ wfX11_107 (kd dtX11_copy_0 51 rfl) ?_
                    refine lv_iload hx hb (kd dtX11_copy_0 52 rfl) (lv_at hl 6 rfl) ?_
                    refine lv_iload hx hb (kd dtX11_copy_0 53 rfl) (lv_at hl 7 rfl) ?_
                    obtain ⟨w29, hw29, hf⟩ := kbind hf
                    refine kcopy hw29 F (hml.trans hl.1.symm) hX wmX11_340 (Nat.le_of_ble_eq_true rfl) (by decide) (kd dtX11_copy_0 54 rfl) (fun H locs hX => ?_)
                    refine lv_iload hx hb (kd dtX11_copy_0 55 rfl) (lv_at hl 7 rfl) ?_
                    obtain ⟨rfl, rfl⟩ := Prod.mk.inj (Option.some.inj hf)
                    exact kiret F hX hr hlocks rfl (kd dtX11_copy_0 56 rfl)
                  · have hf := kif_pos hc hf
                    refine lv_bipush (v := (-13 : Int32)) hx hb (kd dtX11_copy_0 45 rfl) (by decide) ?_
                    obtain ⟨rfl, rfl⟩ := Prod.mk.inj (Option.some.inj hf)
                    exact kiret F hX hr hlocks rfl (kd dtX11_copy_0 46 rfl)
              · have hf := kif_neg hc hf
                refine lv_bipush (v := (-12 : Int32)) hx hb (kd dtX11_copy_0 33 rfl) (by decide) ?_
                obtain ⟨rfl, rfl⟩ := Prod.mk.inj (Option.some.inj hf)
                exact kiret F hX hr hlocks rfl (kd dtX11_copy_0 34 rfl)
        · have hf := kif_neg hc hf
          refine lv_bipush (v := (-11 : Int32)) hx hb (kd dtX11_copy_0 20 rfl) (by decide) ?_
          obtain ⟨rfl, rfl⟩ := Prod.mk.inj (Option.some.inj hf)
          exact kiret F hX hr hlocks rfl (kd dtX11_copy_0 21 rfl)
theorem wfX11_346 : Cond.fieldLinkNest RX11 346 (TX6 3).1 (TX6 3).2.1 (TX6 3).2.2.1 "KitchenCards" ∈ kNs := kNm 437 (by decide +kernel) rfl
theorem wmX11_350 : Cond.methodLink RX11 350 yX6_cardRefusal ∈ kT := kTm 1102 (by decide +kernel) rfl
theorem mwX6_cardRefusal : kMV RX6 yX6_cardRefusal cX6_cardRefusal 1 (some .int) := ⟨kTm 1105 (by decide +kernel) rfl, kTm 105 (by decide +kernel) rfl, kTm 1103 (by decide +kernel) rfl, kTm 1104 (by decide +kernel) rfl⟩
theorem wmX11_353 : Cond.methodLink RX11 353 yX0_work ∈ kT := kTm 1106 (by decide +kernel) rfl
theorem mwX0_work : kMV RX0 yX0_work cX0_work 1 (some .int) := ⟨kTm 1109 (by decide +kernel) rfl, kTm 110 (by decide +kernel) rfl, kTm 1107 (by decide +kernel) rfl, kTm 1108 (by decide +kernel) rfl⟩
def lX11_effort_0 : List (Nat × Instr × Nat) := [(0, .aload_n 0, 1), (1, .iload_n 1, 1), (2, .invokevirtual 99, 3), (5, .astore_n 2, 1), (6, .aload_n 2, 1), (7, .ifnonnull 5, 3), (10, .iconst (-1), 1), (11, .ireturn, 1), (12, .aload_n 2, 1), (13, .getfield 346, 3), (16, .astore_n 3, 1), (17, .aload_n 3, 1), (18, .ifnonnull 10, 3), (21, .aload_n 2, 1), (22, .invokevirtual 350, 3), (25, .goto 7, 3), (28, .aload_n 3, 1), (29, .invokevirtual 353, 3), (32, .ireturn, 1)]
theorem dtX11_effort_0 : kDec cX11_effort lX11_effort_0 = true := by decide +kernel
noncomputable def fX11_effort (x0 : Nat) (x1 : Int32) (w : kW) : Option Int32 :=
  (kRc w 11 (some x0)).bind fun b1 =>
  (fX11_shelfAt b1 x1 w).bind fun v3 =>
  if v3 = none then
  some (-1 : Int32)
  else
  (kgP w 6 v3 3).bind fun v4 =>
  if v4 = none then
  (kRc w 6 v3).bind fun b5 =>
  (fX6_cardRefusal b5 w).bind fun v7 =>
  some v7
  else
  (kRc w 0 v4).bind fun b8 =>
  (fX0_work b8 w).bind fun v10 =>
  some v10

set_option maxHeartbeats 4000000 in
set_option maxRecDepth 100000 in
theorem rX11_effort (l : Launch) (D : va_G) (aC : Nat → ClassId) {x0 : Nat} {x1 : Int32} {w : kW} {oR : Int32} (h : fX11_effort x0 x1 w = some oR) : kC l D aC yX11_effort cX11_effort 4 (some .int) 4 73 [.ref x0, .int x1] w (some (.int oR)) w 0 0 := by
  refine kOf (own := RX11) (by decide) rfl (Nat.le_of_ble_eq_true rfl) ?_
  intro p e s m below meth c ls F hml hr hlocks hnm hX hZ hl
  obtain ⟨hx, hb, hts, hown, hK⟩ := id F
  have hl : lv_has ls 4 [(0, .ref x0), (1, .int x1)] := hl
  have hf := h
  rw [fX11_effort] at hf
  refine lv_aload_n hx hb (kd dtX11_effort_0 0 rfl) rfl (lv_at hl 0 rfl) ?_
  refine lv_iload_n hx hb (kd dtX11_effort_0 1 rfl) rfl (lv_at hl 1 rfl) ?_
  obtain ⟨b1, hb1, hf⟩ := kbind hf
  obtain ⟨hrb1, hkb1⟩ := kRc_s hb1
  obtain ⟨v3, h2, hf⟩ := kbind hf
  refine kcallV (n := 1) [.int x1] [] [va_rf v3] (rX11_shelfAt l D aC h2) hrb1 hkb1 F hml hX hZ hl.1 mwX11_shelfAt wmX11_99 rfl (by decide) (by decide +kernel) ⟨(by decide), (by decide)⟩ rfl rfl rfl (Nat.le_of_ble_eq_true rfl) (kd dtX11_effort_0 2 rfl) ⟨Nat.zero_le _, Nat.zero_le _⟩ (fun H locs hX => ?_)
  refine kastore_n (lv' := [(2, va_rf v3), (0, .ref x0), (1, .int x1)]) hx hb (kd dtX11_effort_0 3 rfl) rfl hl (by decide) rfl (fun ls hl => ?_)
  refine kaload_n hx hb (kd dtX11_effort_0 4 rfl) rfl (lv_at hl 0 rfl) ?_
  refine kifnonnull (tgt := 12) hx hb (kd dtX11_effort_0 5 rfl) (by decide) (fun hc => ?_) (fun hc => ?_)
  · have hf := kif_pos hc hf
    refine lv_iconst (v := (-1 : Int32)) hx hb (kd dtX11_effort_0 6 rfl) (by decide) ?_
    obtain rfl := Option.some.inj hf
    exact kiret F hX hr hlocks rfl (kd dtX11_effort_0 7 rfl)
  · have hf := kif_neg hc hf
    refine kaload_n hx hb (kd dtX11_effort_0 8 rfl) rfl (lv_at hl 0 rfl) ?_
    obtain ⟨v4, hv4, hf⟩ := kbind hf
    refine kgetPN hv4 F hX hinX6 rfl rfl rfl (by decide) (by decide) hZ wfX11_346 (kd dtX11_effort_0 9 rfl) ?_
    refine kastore_n (i := 3) (lv' := [(3, va_rf v4), (2, va_rf v3), (0, .ref x0), (1, .int x1)]) hx hb (kd dtX11_effort_0 10 rfl) rfl hl (by decide) (by simp [kcat_rf, kcat_i, kcat_r, kcat_l]) (fun ls hl => ?_)
    refine kaload_n hx hb (kd dtX11_effort_0 11 rfl) rfl (lv_at hl 0 rfl) ?_
    refine kifnonnull (tgt := 28) hx hb (kd dtX11_effort_0 12 rfl) (by decide) (fun hc => ?_) (fun hc => ?_)
    · have hf := kif_pos hc hf
      refine kaload_n hx hb (kd dtX11_effort_0 13 rfl) rfl (lv_at hl 1 rfl) ?_
      obtain ⟨b5, hb5, hf⟩ := kbind hf
      obtain ⟨hrb5, hkb5⟩ := kRc_s hb5
      obtain ⟨v7, h6, hf⟩ := kbind hf
      refine kcallV (n := 0) [] [] [.int v7] (rX6_cardRefusal l D aC h6) hrb5 hkb5 F hml hX hZ hl.1 mwX6_cardRefusal wmX11_350 rfl (by decide) (by decide +kernel) ⟨(by decide), (by decide)⟩ rfl rfl rfl (Nat.le_of_ble_eq_true rfl) (kd dtX11_effort_0 14 rfl) ⟨Nat.zero_le _, Nat.zero_le _⟩ (fun H locs hX => ?_)
      refine lv_goto (tgt := 32) hx hb (kd dtX11_effort_0 15 rfl) (by decide) ?_
      obtain rfl := Option.some.inj hf
      exact kiret F hX hr hlocks rfl (kd dtX11_effort_0 18 rfl)
    · have hf := kif_neg hc hf
      refine kaload_n hx hb (kd dtX11_effort_0 16 rfl) rfl (lv_at hl 0 rfl) ?_
      obtain ⟨b8, hb8, hf⟩ := kbind hf
      obtain ⟨hrb8, hkb8⟩ := kRc_s hb8
      obtain ⟨v10, h9, hf⟩ := kbind hf
      refine kcallV (n := 0) [] [] [.int v10] (rX0_work l D aC h9) hrb8 hkb8 F hml hX hZ hl.1 mwX0_work wmX11_353 rfl (by decide) (by decide +kernel) ⟨(by decide), (by decide)⟩ rfl rfl rfl (Nat.le_of_ble_eq_true rfl) (kd dtX11_effort_0 17 rfl) ⟨Nat.zero_le _, Nat.zero_le _⟩ (fun H locs hX => ?_)
      obtain rfl := Option.some.inj hf
      exact kiret F hX hr hlocks rfl (kd dtX11_effort_0 18 rfl)
