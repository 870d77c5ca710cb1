theorem wmX5_3 : Cond.methodLink RX5 3 objectInit ∈ kT := kTm 314 (by decide +kernel) rfl
theorem wkX5_9 : Cond.classLink RX5 9 RX1 ∈ kT := kTm 315 (by decide +kernel) rfl
theorem wfX5_11 : Cond.fieldLink RX5 11 (TX5 0).1 (TX5 0).2.1 (TX5 0).2.2.1 ∈ kT := kTm 319 (by decide +kernel) rfl
theorem wfX5_17 : Cond.fieldLink RX5 17 (TX5 1).1 (TX5 1).2.1 (TX5 1).2.2.1 ∈ kT := kTm 320 (by decide +kernel) rfl
theorem wfX5_21 : Cond.fieldLink RX5 21 (TX5 2).1 (TX5 2).2.1 (TX5 2).2.2.1 ∈ kT := kTm 321 (by decide +kernel) rfl
theorem wfX5_24 : Cond.fieldLink RX5 24 (TX5 3).1 (TX5 3).2.1 (TX5 3).2.2.1 ∈ kT := kTm 322 (by decide +kernel) rfl
theorem wkX5_27 : Cond.classLink RX5 27 RX4 ∈ kT := kTm 316 (by decide +kernel) rfl
theorem wmX5_29 : Cond.methodLinkNest RX5 29 yX4_init "KitchenCards" ∈ kNs := kNm 317 (by decide +kernel) rfl
theorem wfX5_30 : Cond.fieldLink RX5 30 (TX5 4).1 (TX5 4).2.1 (TX5 4).2.2.1 ∈ kT := kTm 323 (by decide +kernel) rfl
theorem wmX5_34 : Cond.methodLink RX5 34 yX1_init ∈ kT := kTm 318 (by decide +kernel) rfl
theorem wfX5_37 : Cond.fieldLink RX5 37 (TX5 5).1 (TX5 5).2.1 (TX5 5).2.2.1 ∈ kT := kTm 324 (by decide +kernel) rfl
theorem wfX5_41 : Cond.fieldLink RX5 41 (TX5 6).1 (TX5 6).2.1 (TX5 6).2.2.1 ∈ kT := kTm 325 (by decide +kernel) rfl
theorem wfX5_45 : Cond.fieldLink RX5 45 (TX5 7).1 (TX5 7).2.1 (TX5 7).2.2.1 ∈ kT := kTm 327 (by decide +kernel) rfl
theorem wfX5_48 : Cond.fieldLink RX5 48 (TX5 8).1 (TX5 8).2.1 (TX5 8).2.2.1 ∈ kT := kTm 328 (by decide +kernel) rfl
theorem wfX5_52 : Cond.fieldLink RX5 52 (TX5 9).1 (TX5 9).2.1 (TX5 9).2.2.1 ∈ kT := kTm 329 (by decide +kernel) rfl
theorem wfX5_55 : Cond.fieldLink RX5 55 (TX5 10).1 (TX5 10).2.1 (TX5 10).2.2.1 ∈ kT := kTm 330 (by decide +kernel) rfl
theorem wfX5_58 : Cond.fieldLink RX5 58 (TX5 11).1 (TX5 11).2.1 (TX5 11).2.2.1 ∈ kT := kTm 332 (by decide +kernel) rfl
theorem wfX5_61 : Cond.fieldLink RX5 61 (TX5 12).1 (TX5 12).2.1 (TX5 12).2.2.1 ∈ kT := kTm 333 (by decide +kernel) rfl
theorem wfX5_64 : Cond.fieldLink RX5 64 (TX5 13).1 (TX5 13).2.1 (TX5 13).2.2.1 ∈ kT := kTm 335 (by decide +kernel) rfl
theorem wfX5_67 : Cond.fieldLink RX5 67 (TX5 14).1 (TX5 14).2.1 (TX5 14).2.2.1 ∈ kT := kTm 337 (by decide +kernel) rfl
theorem wfX5_70 : Cond.fieldLink RX5 70 (TX5 15).1 (TX5 15).2.1 (TX5 15).2.2.1 ∈ kT := kTm 339 (by decide +kernel) rfl
theorem wfX5_73 : Cond.fieldLink RX5 73 (TX5 16).1 (TX5 16).2.1 (TX5 16).2.2.1 ∈ kT := kTm 340 (by decide +kernel) rfl
theorem wfX5_76 : Cond.fieldLink RX5 76 (TX5 17).1 (TX5 17).2.1 (TX5 17).2.2.1 ∈ kT := kTm 341 (by decide +kernel) rfl
theorem wfX5_79 : Cond.fieldLink RX5 79 (TX5 18).1 (TX5 18).2.1 (TX5 18).2.2.1 ∈ kT := kTm 343 (by decide +kernel) rfl
def lX5_init_0 : List (Nat × Instr × Nat) := [(0, .aload_n 0, 1), (1, .invokespecial 3, 3), (4, .aload_n 0, 1), (5, .bipush 24, 2), (7, .anewarray 9, 3), (10, .putfield 11, 3), (13, .aload_n 0, 1), (14, .bipush 24, 2), (16, .newarray .int, 2), (18, .putfield 17, 3), (21, .aload_n 0, 1), (22, .bipush 40, 2), (24, .anewarray 9, 3), (27, .putfield 21, 3), (30, .aload_n 0, 1), (31, .bipush 40, 2), (33, .newarray .int, 2), (35, .putfield 24, 3), (38, .aload_n 0, 1), (39, .new 27, 3), (42, .dup, 1), (43, .invokespecial 29, 3), (46, .putfield 30, 3), (49, .aload_n 0, 1), (50, .new 9, 3), (53, .dup, 1), (54, .bipush 20, 2), (56, .invokespecial 34, 3), (59, .putfield 37, 3), (62, .aload_n 0, 1), (63, .iconst 0, 1), (64, .putfield 41, 3), (67, .aload_n 0, 1), (68, .iconst 0, 1), (69, .putfield 45, 3), (72, .aload_n 0, 1), (73, .iconst 0, 1), (74, .putfield 48, 3), (77, .aload_n 0, 1), (78, .iconst 0, 1), (79, .putfield 52, 3), (82, .aload_n 0, 1), (83, .iconst 0, 1), (84, .putfield 55, 3), (87, .aload_n 0, 1), (88, .iconst 0, 1), (89, .putfield 58, 3), (92, .aload_n 0, 1), (93, .iconst 0, 1), (94, .putfield 61, 3), (97, .aload_n 0, 1), (98, .iconst 0, 1), (99, .putfield 64, 3), (102, .aload_n 0, 1), (103, .iconst 0, 1), (104, .putfield 67, 3), (107, .aload_n 0, 1), (108, .iconst 0, 1), (109, .putfield 70, 3), (112, .aload_n 0, 1), (113, .iconst 0, 1), (114, .putfield 73, 3), (117, .aload_n 0, 1), (118, .iconst 0, 1), (119, .putfield 76, 3), (122, .aload_n 0, 1), (123, .iconst 0, 1), (124, .putfield 79, 3), (127, .iconst 0, 1), (128, .istore_n 1, 1), (129, .iload_n 1, 1), (130, .bipush 24, 2), (132, .if_icmp .ge 33, 3), (135, .aload_n 0, 1), (136, .getfield 11, 3), (139, .iload_n 1, 1), (140, .new 9, 3), (143, .dup, 1), (144, .iload_n 1, 1), (145, .ifCond .ne 8, 3)]
theorem dtX5_init_0 : kDec cX5_init lX5_init_0 = true := by decide +kernel
def lX5_init_1 : List (Nat × Instr × Nat) := [(148, .bipush 60, 2), (150, .goto 5, 3), (153, .bipush 20, 2), (155, .invokespecial 34, 3), (158, .aastore, 1), (159, .iinc 1 1, 3), (162, .goto (-33), 3), (165, .return_, 1)]
theorem dtX5_init_1 : kDec cX5_init lX5_init_1 = true := by decide +kernel
noncomputable def fX5_init (x0 : Nat) (w : kW) : Option kW :=
  (knA w 16 (24 : Int32)).bind fun w1 =>
  (kpP w1 5 (some x0) 0 (some (kSz w))).bind fun w2 =>
  (knA w2 14 (24 : Int32)).bind fun w3 =>
  (kpP w3 5 (some x0) 1 (some (kSz w2))).bind fun w4 =>
  (knA w4 16 (40 : Int32)).bind fun w5 =>
  (kpP w5 5 (some x0) 2 (some (kSz w4))).bind fun w6 =>
  (knA w6 14 (40 : Int32)).bind fun w7 =>
  (kpP w7 5 (some x0) 3 (some (kSz w6))).bind fun w8 =>
  (knO w8 4).bind fun w9 =>
  (fX4_init (kSz w8) w9).bind fun w10 =>
  (kpP w10 5 (some x0) 4 (some (kSz w8))).bind fun w12 =>
  (knO w12 1).bind fun w13 =>
  (fX1_init (kSz w12) (20 : Int32) w13).bind fun w14 =>
  (kpP w14 5 (some x0) 5 (some (kSz w12))).bind fun w16 =>
  (kpI w16 5 (some x0) 6 (0 : Int32)).bind fun w17 =>
  (kpI w17 5 (some x0) 7 (0 : Int32)).bind fun w18 =>
  (kpI w18 5 (some x0) 8 (0 : Int32)).bind fun w19 =>
  (kpI w19 5 (some x0) 9 (0 : Int32)).bind fun w20 =>
  (kpI w20 5 (some x0) 10 (0 : Int32)).bind fun w21 =>
  (kpI w21 5 (some x0) 11 (0 : Int32)).bind fun w22 =>
  (kpI w22 5 (some x0) 12 (0 : Int32)).bind fun w23 =>
  (kpI w23 5 (some x0) 13 (0 : Int32)).bind fun w24 =>
  (kpI w24 5 (some x0) 14 (0 : Int32)).bind fun w25 =>
  (kpI w25 5 (some x0) 15 (0 : Int32)).bind fun w26 =>
  (kpI w26 5 (some x0) 16 (0 : Int32)).bind fun w27 =>
  (kpI w27 5 (some x0) 17 (0 : Int32)).bind fun w28 =>
  (kpI w28 5 (some x0) 18 (0 : Int32)).bind fun w29 =>
  (kgP w29 5 (some x0) 0).bind fun v30 =>
  (knO w29 1).bind fun w31 =>
  (fX1_init (kSz w29) (60 : Int32) w31).bind fun w32 =>
  (ksP w32 16 v30 (0 : Int32) (some (kSz w29))).bind fun w34 =>
  (kgP w34 5 (some x0) 0).bind fun v35 =>
  (knO w34 1).bind fun w36 =>
  (fX1_init (kSz w34) (20 : Int32) w36).bind fun w37 =>
  (ksP w37 16 v35 (1 : Int32) (some (kSz w34))).bind fun w39 =>
  (kgP w39 5 (some x0) 0).bind fun v40 =>
  (knO w39 1).bind fun w41 =>
  (fX1_init (kSz w39) (20 : Int32) w41).bind fun w42 =>
  (ksP w42 16 v40 (2 : Int32) (some (kSz w39))).bind fun w44 =>
  (kgP w44 5 (some x0) 0).bind fun v45 =>
  (knO w44 1).bind fun w46 =>
  (fX1_init (kSz w44) (20 : Int32) w46).bind fun w47 =>
  (ksP w47 16 v45 (3 : Int32) (some (kSz w44))).bind fun w49 =>
  (kgP w49 5 (some x0) 0).bind fun v50 =>
  (knO w49 1).bind fun w51 =>
  (fX1_init (kSz w49) (20 : Int32) w51).bind fun w52 =>
  (ksP w52 16 v50 (4 : Int32) (some (kSz w49))).bind fun w54 =>
  (kgP w54 5 (some x0) 0).bind fun v55 =>
  (knO w54 1).bind fun w56 =>
  (fX1_init (kSz w54) (20 : Int32) w56).bind fun w57 =>
  (ksP w57 16 v55 (5 : Int32) (some (kSz w54))).bind fun w59 =>
  (kgP w59 5 (some x0) 0).bind fun v60 =>
  (knO w59 1).bind fun w61 =>
  (fX1_init (kSz w59) (20 : Int32) w61).bind fun w62 =>
  (ksP w62 16 v60 (6 : Int32) (some (kSz w59))).bind fun w64 =>
  (kgP w64 5 (some x0) 0).bind fun v65 =>
  (knO w64 1).bind fun w66 =>
  (fX1_init (kSz w64) (20 : Int32) w66).bind fun w67 =>
  (ksP w67 16 v65 (7 : Int32) (some (kSz w64))).bind fun w69 =>
  (kgP w69 5 (some x0) 0).bind fun v70 =>
  (knO w69 1).bind fun w71 =>
  (fX1_init (kSz w69) (20 : Int32) w71).bind fun w72 =>
  (ksP w72 16 v70 (8 : Int32) (some (kSz w69))).bind fun w74 =>
  (kgP w74 5 (some x0) 0).bind fun v75 =>
  (knO w74 1).bind fun w76 =>
  (fX1_init (kSz w74) (20 : Int32) w76).bind fun w77 =>
  (ksP w77 16 v75 (9 : Int32) (some (kSz w74))).bind fun w79 =>
  (kgP w79 5 (some x0) 0).bind fun v80 =>
  (knO w79 1).bind fun w81 =>
  (fX1_init (kSz w79) (20 : Int32) w81).bind fun w82 =>
  (ksP w82 16 v80 (10 : Int32) (some (kSz w79))).bind fun w84 =>
  (kgP w84 5 (some x0) 0).bind fun v85 =>
  (knO w84 1).bind fun w86 =>
  (fX1_init (kSz w84) (20 : Int32) w86).bind fun w87 =>
  (ksP w87 16 v85 (11 : Int32) (some (kSz w84))).bind fun w89 =>
  (kgP w89 5 (some x0) 0).bind fun v90 =>
  (knO w89 1).bind fun w91 =>
  (fX1_init (kSz w89) (20 : Int32) w91).bind fun w92 =>
  (ksP w92 16 v90 (12 : Int32) (some (kSz w89))).bind fun w94 =>
  (kgP w94 5 (some x0) 0).bind fun v95 =>
  (knO w94 1).bind fun w96 =>
  (fX1_init (kSz w94) (20 : Int32) w96).bind fun w97 =>
  (ksP w97 16 v95 (13 : Int32) (some (kSz w94))).bind fun w99 =>
  (kgP w99 5 (some x0) 0).bind fun v100 =>
  (knO w99 1).bind fun w101 =>
  (fX1_init (kSz w99) (20 : Int32) w101).bind fun w102 =>
  (ksP w102 16 v100 (14 : Int32) (some (kSz w99))).bind fun w104 =>
  (kgP w104 5 (some x0) 0).bind fun v105 =>
  (knO w104 1).bind fun w106 =>
  (fX1_init (kSz w104) (20 : Int32) w106).bind fun w107 =>
  (ksP w107 16 v105 (15 : Int32) (some (kSz w104))).bind fun w109 =>
  (kgP w109 5 (some x0) 0).bind fun v110 =>
  (knO w109 1).bind fun w111 =>
  (fX1_init (kSz w109) (20 : Int32) w111).bind fun w112 =>
  (ksP w112 16 v110 (16 : Int32) (some (kSz w109))).bind fun w114 =>
  (kgP w114 5 (some x0) 0).bind fun v115 =>
  (knO w114 1).bind fun w116 =>
  (fX1_init (kSz w114) (20 : Int32) w116).bind fun w117 =>
  (ksP w117 16 v115 (17 : Int32) (some (kSz w114))).bind fun w119 =>
  (kgP w119 5 (some x0) 0).bind fun v120 =>
  (knO w119 1).bind fun w121 =>
  (fX1_init (kSz w119) (20 : Int32) w121).bind fun w122 =>
  (ksP w122 16 v120 (18 : Int32) (some (kSz w119))).bind fun w124 =>
  (kgP w124 5 (some x0) 0).bind fun v125 =>
  (knO w124 1).bind fun w126 =>
  (fX1_init (kSz w124) (20 : Int32) w126).bind fun w127 =>
  (ksP w127 16 v125 (19 : Int32) (some (kSz w124))).bind fun w129 =>
  (kgP w129 5 (some x0) 0).bind fun v130 =>
  (knO w129 1).bind fun w131 =>
  (fX1_init (kSz w129) (20 : Int32) w131).bind fun w132 =>
  (ksP w132 16 v130 (20 : Int32) (some (kSz w129))).bind fun w134 =>
  (kgP w134 5 (some x0) 0).bind fun v135 =>
  (knO w134 1).bind fun w136 =>
  (fX1_init (kSz w134) (20 : Int32) w136).bind fun w137 =>
  (ksP w137 16 v135 (21 : Int32) (some (kSz w134))).bind fun w139 =>
  (kgP w139 5 (some x0) 0).bind fun v140 =>
  (knO w139 1).bind fun w141 =>
  (fX1_init (kSz w139) (20 : Int32) w141).bind fun w142 =>
  (ksP w142 16 v140 (22 : Int32) (some (kSz w139))).bind fun w144 =>
  (kgP w144 5 (some x0) 0).bind fun v145 =>
  (knO w144 1).bind fun w146 =>
  (fX1_init (kSz w144) (20 : Int32) w146).bind fun w147 =>
  (ksP w147 16 v145 (23 : Int32) (some (kSz w144))).bind fun w149 =>
  some w149

set_option maxHeartbeats 4000000 in
set_option maxRecDepth 100000 in
theorem rX5_init (l : Launch) (D : va_G) (aC : Nat → ClassId) {x0 : Nat} {w : kW} {wR : kW} (h : fX5_init x0 w = some wR) : kC l D aC yX5_init cX5_init 2 none 2 43 [.ref x0] w none wR 156 25336 := by
  refine kOf (own := RX5) (by decide) rfl (Nat.le_of_ble_eq_true rfl) ?_
  intro p e s m below meth c ls F hml hr hlocks hnm hX hZ hl
  obtain ⟨hx, hb, hts, hown, hK⟩ := id F
  have hl : lv_has ls 2 [(0, .ref x0)] := hl
  have hf := h
  rw [fX5_init] at hf
  refine lv_aload_n hx hb (kd dtX5_init_0 0 rfl) rfl (lv_at hl 0 rfl) ?_
  refine kobj F (hml.trans hl.1.symm) wmX5_3 (Nat.le_of_ble_eq_true rfl) (Nat.le_of_ble_eq_true rfl) (kd dtX5_init_0 1 rfl) ?_
  refine lv_aload_n hx hb (kd dtX5_init_0 2 rfl) rfl (lv_at hl 0 rfl) ?_
  refine lv_bipush (v := (24 : Int32)) hx hb (kd dtX5_init_0 3 rfl) (by decide) ?_
  obtain ⟨w1, hw1, hf⟩ := kbind hf
  refine knewq (mx := 24) hw1 rfl (by decide) (by decide) F hX hZ.2.1.1 wkX5_9 (by decide) (by decide) (Nat.le_of_ble_eq_true rfl) (Nat.le_of_ble_eq_true rfl) (kd dtX5_init_0 4 rfl) (fun H hX => ?_)
  obtain ⟨w2, hw2, hf⟩ := kbind hf
  refine kputP hw2 F hX hinX5 tyX5_ok nmX5 rfl rfl rfl (by decide) (by decide) wfX5_11 (Or.inr ⟨rfl, hnm, rfl⟩) (kd dtX5_init_0 5 rfl) (fun H locs hX => ?_)
  refine lv_aload_n hx hb (kd dtX5_init_0 6 rfl) rfl (lv_at hl 0 rfl) ?_
  refine lv_bipush (v := (24 : Int32)) hx hb (kd dtX5_init_0 7 rfl) (by decide) ?_
  obtain ⟨w3, hw3, hf⟩ := kbind hf
  refine knewa (mx := 24) hw3 rfl (fun _ => rfl) (by decide) (by decide) F hX wA14 (by decide) (by decide) (Nat.le_of_ble_eq_true rfl) (Nat.le_of_ble_eq_true rfl) (kd dtX5_init_0 8 rfl) (fun H hX => ?_)
  obtain ⟨w4, hw4, hf⟩ := kbind hf
  refine kputP hw4 F hX hinX5 tyX5_ok nmX5 rfl rfl rfl (by decide) (by decide) wfX5_17 (Or.inr ⟨rfl, hnm, rfl⟩) (kd dtX5_init_0 9 rfl) (fun H locs hX => ?_)
  refine lv_aload_n hx hb (kd dtX5_init_0 10 rfl) rfl (lv_at hl 0 rfl) ?_
  refine lv_bipush (v := (40 : Int32)) hx hb (kd dtX5_init_0 11 rfl) (by decide) ?_
  obtain ⟨w5, hw5, hf⟩ := kbind hf
  refine knewq (mx := 40) hw5 rfl (by decide) (by decide) F hX hZ.2.1.1 wkX5_9 (by decide) (by decide) (Nat.le_of_ble_eq_true rfl) (Nat.le_of_ble_eq_true rfl) (kd dtX5_init_0 12 rfl) (fun H hX => ?_)
  obtain ⟨w6, hw6, hf⟩ := kbind hf
  refine kputP hw6 F hX hinX5 tyX5_ok nmX5 rfl rfl rfl (by decide) (by decide) wfX5_21 (Or.inr ⟨rfl, hnm, rfl⟩) (kd dtX5_init_0 13 rfl) (fun H locs hX => ?_)
  refine lv_aload_n hx hb (kd dtX5_init_0 14 rfl) rfl (lv_at hl 0 rfl) ?_
  refine lv_bipush (v := (40 : Int32)) hx hb (kd dtX5_init_0 15 rfl) (by decide) ?_
  obtain ⟨w7, hw7, hf⟩ := kbind hf
  refine knewa (mx := 40) hw7 rfl (fun _ => rfl) (by decide) (by decide) F hX wA14 (by decide) (by decide) (Nat.le_of_ble_eq_true rfl) (Nat.le_of_ble_eq_true rfl) (kd dtX5_init_0 16 rfl) (fun H hX => ?_)
  obtain ⟨w8, hw8, hf⟩ := kbind hf
  refine kputP hw8 F hX hinX5 tyX5_ok nmX5 rfl rfl rfl (by decide) (by decide) wfX5_24 (Or.inr ⟨rfl, hnm, rfl⟩) (kd dtX5_init_0 17 rfl) (fun H locs hX => ?_)
  refine lv_aload_n hx hb (kd dtX5_init_0 18 rfl) rfl (lv_at hl 0 rfl) ?_
  obtain ⟨w9, hw9, hf⟩ := kbind hf
  refine knewo (k := 4) hw9 F hX hinX4 tyX4_ok (by decide +kernel) rfl rfl (by decide) wkX5_27 wnX4 wiX4 (Nat.le_of_ble_eq_true rfl) (Nat.le_of_ble_eq_true rfl) (kd dtX5_init_0 19 rfl) (fun H hX => ?_)
  refine lv_dup hx hb (kd dtX5_init_0 20 rfl) rfl ?_
  obtain ⟨w10, h11, hf⟩ := kbind hf
  refine kcallIN (n := 0) [] [.ref (kSz w8), .ref x0] [.ref (kSz w8), .ref x0] (rX4_init l D aC h11) F hml hX hZ hl.1 mwX4_init wmX5_29 rfl (by decide +kernel) ⟨(by decide), (by decide)⟩ rfl rfl rfl (Nat.le_of_ble_eq_true rfl) (kd dtX5_init_0 21 rfl) ⟨Nat.le_of_ble_eq_true rfl, Nat.le_of_ble_eq_true rfl⟩ (fun H locs hX => ?_)
  obtain ⟨w12, hw12, hf⟩ := kbind hf
  refine kputP hw12 F hX hinX5 tyX5_ok nmX5 rfl rfl rfl (by decide) (by decide) wfX5_30 (Or.inr ⟨rfl, hnm, rfl⟩) (kd dtX5_init_0 22 rfl) (fun H locs hX => ?_)
  refine lv_aload_n hx hb (kd dtX5_init_0 23 rfl) rfl (lv_at hl 0 rfl) ?_
  obtain ⟨w13, hw13, hf⟩ := kbind hf
  refine knewo (k := 1) hw13 F hX hinX1 tyX1_ok (by decide +kernel) rfl rfl (by decide) wkX5_9 wnX1 wiX1 (Nat.le_of_ble_eq_true rfl) (Nat.le_of_ble_eq_true rfl) (kd dtX5_init_0 24 rfl) (fun H hX => ?_)
  refine lv_dup hx hb (kd dtX5_init_0 25 rfl) rfl ?_
  refine lv_bipush (v := (20 : Int32)) hx hb (kd dtX5_init_0 26 rfl) (by decide) ?_
  obtain ⟨w14, h15, hf⟩ := kbind hf
  refine kcallI (n := 1) [.int (20 : Int32)] [.ref (kSz w12), .ref x0] [.ref (kSz w12), .ref x0] (rX1_init l D aC h15) F hml hX hZ hl.1 mwX1_init wmX5_34 rfl (by decide +kernel) ⟨(by decide), (by decide)⟩ rfl rfl rfl (Nat.le_of_ble_eq_true rfl) (kd dtX5_init_0 27 rfl) ⟨Nat.le_of_ble_eq_true rfl, Nat.le_of_ble_eq_true rfl⟩ (fun H locs hX => ?_)
  obtain ⟨w16, hw16, hf⟩ := kbind hf
  refine kputP hw16 F hX hinX5 tyX5_ok nmX5 rfl rfl rfl (by decide) (by decide) wfX5_37 (Or.inl rfl) (kd dtX5_init_0 28 rfl) (fun H locs hX => ?_)
  refine lv_aload_n hx hb (kd dtX5_init_0 29 rfl) rfl (lv_at hl 0 rfl) ?_
  refine lv_iconst (v := (0 : Int32)) hx hb (kd dtX5_init_0 30 rfl) (by decide) ?_
  obtain ⟨w17, hw17, hf⟩ := kbind hf
  refine kputI hw17 F hX hinX5 tyX5_ok nmX5 rfl rfl rfl (by decide) (by decide) wfX5_41 rfl rfl (Or.inl rfl) (kd dtX5_init_0 31 rfl) (fun H locs hX => ?_)
  refine lv_aload_n hx hb (kd dtX5_init_0 32 rfl) rfl (lv_at hl 0 rfl) ?_
  refine lv_iconst (v := (0 : Int32)) hx hb (kd dtX5_init_0 33 rfl) (by decide) ?_
  obtain ⟨w18, hw18, hf⟩ := kbind hf
  refine kputI hw18 F hX hinX5 tyX5_ok nmX5 rfl rfl rfl (by decide) (by decide) wfX5_45 rfl rfl (Or.inl rfl) (kd dtX5_init_0 34 rfl) (fun H locs hX => ?_)
  refine lv_aload_n hx hb (kd dtX5_init_0 35 rfl) rfl (lv_at hl 0 rfl) ?_
  refine lv_iconst (v := (0 : Int32)) hx hb (kd dtX5_init_0 36 rfl) (by decide) ?_
  obtain ⟨w19, hw19, hf⟩ := kbind hf
  refine kputI hw19 F hX hinX5 tyX5_ok nmX5 rfl rfl rfl (by decide) (by decide) wfX5_48 rfl rfl (Or.inl rfl) (kd dtX5_init_0 37 rfl) (fun H locs hX => ?_)
  refine lv_aload_n hx hb (kd dtX5_init_0 38 rfl) rfl (lv_at hl 0 rfl) ?_
  refine lv_iconst (v := (0 : Int32)) hx hb (kd dtX5_init_0 39 rfl) (by decide) ?_
  obtain ⟨w20, hw20, hf⟩ := kbind hf
  refine kputI hw20 F hX hinX5 tyX5_ok nmX5 rfl rfl rfl (by decide) (by decide) wfX5_52 rfl rfl (Or.inl rfl) (kd dtX5_init_0 40 rfl) (fun H locs hX => ?_)
  refine lv_aload_n hx hb (kd dtX5_init_0 41 rfl) rfl (lv_at hl 0 rfl) ?_
  refine lv_iconst (v := (0 : Int32)) hx hb (kd dtX5_init_0 42 rfl) (by decide) ?_
  obtain ⟨w21, hw21, hf⟩ := kbind hf
  refine kputI hw21 F hX hinX5 tyX5_ok nmX5 rfl rfl rfl (by decide) (by decide) wfX5_55 rfl rfl (Or.inl rfl) (kd dtX5_init_0 43 rfl) (fun H locs hX => ?_)
  refine lv_aload_n hx hb (kd dtX5_init_0 44 rfl) rfl (lv_at hl 0 rfl) ?_
  refine lv_iconst (v := (0 : Int32)) hx hb (kd dtX5_init_0 45 rfl) (by decide) ?_
  obtain ⟨w22, hw22, hf⟩ := kbind hf
  refine kputI hw22 F hX hinX5 tyX5_ok nmX5 rfl rfl rfl (by decide) (by decide) wfX5_58 rfl rfl (Or.inl rfl) (kd dtX5_init_0 46 rfl) (fun H locs hX => ?_)
  refine lv_aload_n hx hb (kd dtX5_init_0 47 rfl) rfl (lv_at hl 0 rfl) ?_
  refine lv_iconst (v := (0 : Int32)) hx hb (kd dtX5_init_0 48 rfl) (by decide) ?_
  obtain ⟨w23, hw23, hf⟩ := kbind hf
  refine kputI hw23 F hX hinX5 tyX5_ok nmX5 rfl rfl rfl (by decide) (by decide) wfX5_61 rfl rfl (Or.inl rfl) (kd dtX5_init_0 49 rfl) (fun H locs hX => ?_)
  refine lv_aload_n hx hb (kd dtX5_init_0 50 rfl) rfl (lv_at hl 0 rfl) ?_
  refine lv_iconst (v := (0 : Int32)) hx hb (kd dtX5_init_0 51 rfl) (by decide) ?_
  obtain ⟨w24, hw24, hf⟩ := kbind hf
  refine kputI hw24 F hX hinX5 tyX5_ok nmX5 rfl rfl rfl (by decide) (by decide) wfX5_64 rfl rfl (Or.inl rfl) (kd dtX5_init_0 52 rfl) (fun H locs hX => ?_)
  refine lv_aload_n hx hb (kd dtX5_init_0 53 rfl) rfl (lv_at hl 0 rfl) ?_
  refine lv_iconst (v := (0 : Int32)) hx hb (kd dtX5_init_0 54 rfl) (by decide) ?_
  obtain ⟨w25, hw25, hf⟩ := kbind hf
  refine kputI hw25 F hX hinX5 tyX5_ok nmX5 rfl rfl rfl (by decide) (by decide) wfX5_67 rfl rfl (Or.inl rfl) (kd dtX5_init_0 55 rfl) (fun H locs hX => ?_)
  refine lv_aload_n hx hb (kd dtX5_init_0 56 rfl) rfl (lv_at hl 0 rfl) ?_
  refine lv_iconst (v := (0 : Int32)) hx hb (kd dtX5_init_0 57 rfl) (by decide) ?_
  obtain ⟨w26, hw26, hf⟩ := kbind hf
  refine kputI hw26 F hX hinX5 tyX5_ok nmX5 rfl rfl rfl (by decide) (by decide) wfX5_70 rfl rfl (Or.inl rfl) (kd dtX5_init_0 58 rfl) (fun H locs hX => ?_)
  refine lv_aload_n hx hb (kd dtX5_init_0 59 rfl) rfl (lv_at hl 0 rfl) ?_
  refine lv_iconst (v := (0 : Int32)) hx hb (kd dtX5_init_0 60 rfl) (by decide) ?_
  obtain ⟨w27, hw27, hf⟩ := kbind hf
  refine kputI hw27 F hX hinX5 tyX5_ok nmX5 rfl rfl rfl (by decide) (by decide) wfX5_73 rfl rfl (Or.inl rfl) (kd dtX5_init_0 61 rfl) (fun H locs hX => ?_)
  refine lv_aload_n hx hb (kd dtX5_init_0 62 rfl) rfl (lv_at hl 0 rfl) ?_
  refine lv_iconst (v := (0 : Int32)) hx hb (kd dtX5_init_0 63 rfl) (by decide) ?_
  obtain ⟨w28, hw28, hf⟩ := kbind hf
  refine kputI hw28 F hX hinX5 tyX5_ok nmX5 rfl rfl rfl (by decide) (by decide) wfX5_76 rfl rfl (Or.inl rfl) (kd dtX5_init_0 64 rfl) (fun H locs hX => ?_)
  refine lv_aload_n hx hb (kd dtX5_init_0 65 rfl) rfl (lv_at hl 0 rfl) ?_
  refine lv_iconst (v := (0 : Int32)) hx hb (kd dtX5_init_0 66 rfl) (by decide) ?_
  obtain ⟨w29, hw29, hf⟩ := kbind hf
  refine kputI hw29 F hX hinX5 tyX5_ok nmX5 rfl rfl rfl (by decide) (by decide) wfX5_79 rfl rfl (Or.inl rfl) (kd dtX5_init_0 67 rfl) (fun H locs hX => ?_)
  refine lv_iconst (v := (0 : Int32)) hx hb (kd dtX5_init_0 68 rfl) (by decide) ?_
  refine lv_istore_n (lv' := [(1, .int (0 : Int32)), (0, .ref x0)]) hx hb (kd dtX5_init_0 69 rfl) rfl hl (by decide) rfl (fun ls hl => ?_)
  refine lv_iload_n hx hb (kd dtX5_init_0 70 rfl) rfl (lv_at hl 0 rfl) ?_
  refine lv_bipush (v := (24 : Int32)) hx hb (kd dtX5_init_0 71 rfl) (by decide) ?_
  refine lv_icmp_ge (tgt := 165) hx hb (kd dtX5_init_0 72 rfl) (by decide) (fun hc => ?_) (fun hc => ?_)
  · exact absurd hc (by decide)
  · skip
    refine lv_aload_n hx hb (kd dtX5_init_0 73 rfl) rfl (lv_at hl 1 rfl) ?_
    obtain ⟨v30, hv30, hf⟩ := kbind hf
    refine kgetP hv30 F hX hinX5 rfl rfl rfl (by decide) (by decide) wfX5_11 (kd dtX5_init_0 74 rfl) ?_
    refine lv_iload_n hx hb (kd dtX5_init_0 75 rfl) rfl (lv_at hl 0 rfl) ?_
    obtain ⟨w31, hw31, hf⟩ := kbind hf
    refine knewo (k := 1) hw31 F hX hinX1 tyX1_ok (by decide +kernel) rfl rfl (by decide) wkX5_9 wnX1 wiX1 (Nat.le_of_ble_eq_true rfl) (Nat.le_of_ble_eq_true rfl) (kd dtX5_init_0 76 rfl) (fun H hX => ?_)
    refine lv_dup hx hb (kd dtX5_init_0 77 rfl) rfl ?_
    refine lv_iload_n hx hb (kd dtX5_init_0 78 rfl) rfl (lv_at hl 0 rfl) ?_
    refine lv_if_ne (tgt := 153) hx hb (kd dtX5_init_0 79 rfl) (by decide) (fun hc => ?_) (fun hc => ?_)
    · exact absurd hc (by decide)
    · skip
      refine lv_bipush (v := (60 : Int32)) hx hb (kd dtX5_init_1 0 rfl) (by decide) ?_
      refine lv_goto (tgt := 155) hx hb (kd dtX5_init_1 1 rfl) (by decide) ?_
      obtain ⟨w32, h33, hf⟩ := kbind hf
      refine kcallI (n := 1) [.int (60 : Int32)] [.ref (kSz w29), .int (0 : Int32), va_rf v30] [.ref (kSz w29), .int (0 : Int32), va_rf v30] (rX1_init l D aC h33) F hml hX hZ hl.1 mwX1_init wmX5_34 rfl (by decide +kernel) ⟨(by decide), (by decide)⟩ rfl rfl rfl (by simp [kcat_rf, kcat_i, kcat_r, kcat_l]) (kd dtX5_init_1 3 rfl) ⟨Nat.le_of_ble_eq_true rfl, Nat.le_of_ble_eq_true rfl⟩ (fun H locs hX => ?_)
      obtain ⟨w34, hw34, hf⟩ := kbind hf
      refine kqst16 hw34 F hX (kd dtX5_init_1 4 rfl) (fun H locs hX => ?_)
      refine lv_iinc (v := (1 : Int32)) (lv' := [(1, .int (1 : Int32)), (0, .ref x0)]) hx hb (kd dtX5_init_1 5 rfl) hl (k := 0) rfl (by decide) (by decide) rfl (fun ls hl => ?_)
      refine lv_goto (tgt := 129) hx hb (kd dtX5_init_1 6 rfl) (by decide) ?_
      refine lv_iload_n hx hb (kd dtX5_init_0 70 rfl) rfl (lv_at hl 0 rfl) ?_
      refine lv_bipush (v := (24 : Int32)) hx hb (kd dtX5_init_0 71 rfl) (by decide) ?_
      refine lv_icmp_ge (tgt := 165) hx hb (kd dtX5_init_0 72 rfl) (by decide) (fun hc => ?_) (fun hc => ?_)
      · exact absurd hc (by decide)
      · skip
        refine lv_aload_n hx hb (kd dtX5_init_0 73 rfl) rfl (lv_at hl 1 rfl) ?_
        obtain ⟨v35, hv35, hf⟩ := kbind hf
        refine kgetP hv35 F hX hinX5 rfl rfl rfl (by decide) (by decide) wfX5_11 (kd dtX5_init_0 74 rfl) ?_
        refine lv_iload_n hx hb (kd dtX5_init_0 75 rfl) rfl (lv_at hl 0 rfl) ?_
        obtain ⟨w36, hw36, hf⟩ := kbind hf
        refine knewo (k := 1) hw36 F hX hinX1 tyX1_ok (by decide +kernel) rfl rfl (by decide) wkX5_9 wnX1 wiX1 (Nat.le_of_ble_eq_true rfl) (Nat.le_of_ble_eq_true rfl) (kd dtX5_init_0 76 rfl) (fun H hX => ?_)
        refine lv_dup hx hb (kd dtX5_init_0 77 rfl) rfl ?_
        refine lv_iload_n hx hb (kd dtX5_init_0 78 rfl) rfl (lv_at hl 0 rfl) ?_
        refine lv_if_ne (tgt := 153) hx hb (kd dtX5_init_0 79 rfl) (by decide) (fun hc => ?_) (fun hc => ?_)
        · skip
          refine lv_bipush (v := (20 : Int32)) hx hb (kd dtX5_init_1 2 rfl) (by decide) ?_
          obtain ⟨w37, h38, hf⟩ := kbind hf
          refine kcallI (n := 1) [.int (20 : Int32)] [.ref (kSz w34), .int (1 : Int32), va_rf v35] [.ref (kSz w34), .int (1 : Int32), va_rf v35] (rX1_init l D aC h38) F hml hX hZ hl.1 mwX1_init wmX5_34 rfl (by decide +kernel) ⟨(by decide), (by decide)⟩ rfl rfl rfl (by simp [kcat_rf, kcat_i, kcat_r, kcat_l]) (kd dtX5_init_1 3 rfl) ⟨Nat.le_of_ble_eq_true rfl, Nat.le_of_ble_eq_true rfl⟩ (fun H locs hX => ?_)
          obtain ⟨w39, hw39, hf⟩ := kbind hf
          refine kqst16 hw39 F hX (kd dtX5_init_1 4 rfl) (fun H locs hX => ?_)
          refine lv_iinc (v := (2 : Int32)) (lv' := [(1, .int (2 : Int32)), (0, .ref x0)]) hx hb (kd dtX5_init_1 5 rfl) hl (k := 0) rfl (by decide) (by decide) rfl (fun ls hl => ?_)
          refine lv_goto (tgt := 129) hx hb (kd dtX5_init_1 6 rfl) (by decide) ?_
          refine lv_iload_n hx hb (kd dtX5_init_0 70 rfl) rfl (lv_at hl 0 rfl) ?_
          refine lv_bipush (v := (24 : Int32)) hx hb (kd dtX5_init_0 71 rfl) (by decide) ?_
          refine lv_icmp_ge (tgt := 165) hx hb (kd dtX5_init_0 72 rfl) (by decide) (fun hc => ?_) (fun hc => ?_)
          · exact absurd hc (by decide)
          · skip
            refine lv_aload_n hx hb (kd dtX5_init_0 73 rfl) rfl (lv_at hl 1 rfl) ?_
            obtain ⟨v40, hv40, hf⟩ := kbind hf
            refine kgetP hv40 F hX hinX5 rfl rfl rfl (by decide) (by decide) wfX5_11 (kd dtX5_init_0 74 rfl) ?_
            refine lv_iload_n hx hb (kd dtX5_init_0 75 rfl) rfl (lv_at hl 0 rfl) ?_
            obtain ⟨w41, hw41, hf⟩ := kbind hf
            refine knewo (k := 1) hw41 F hX hinX1 tyX1_ok (by decide +kernel) rfl rfl (by decide) wkX5_9 wnX1 wiX1 (Nat.le_of_ble_eq_true rfl) (Nat.le_of_ble_eq_true rfl) (kd dtX5_init_0 76 rfl) (fun H hX => ?_)
            refine lv_dup hx hb (kd dtX5_init_0 77 rfl) rfl ?_
            refine lv_iload_n hx hb (kd dtX5_init_0 78 rfl) rfl (lv_at hl 0 rfl) ?_
            refine lv_if_ne (tgt := 153) hx hb (kd dtX5_init_0 79 rfl) (by decide) (fun hc => ?_) (fun hc => ?_)
            · skip
              refine lv_bipush (v := (20 : Int32)) hx hb (kd dtX5_init_1 2 rfl) (by decide) ?_
              obtain ⟨w42, h43, hf⟩ := kbind hf
              refine kcallI (n := 1) [.int (20 : Int32)] [.ref (kSz w39), .int (2 : Int32), va_rf v40] [.ref (kSz w39), .int (2 : Int32), va_rf v40] (rX1_init l D aC h43) F hml hX hZ hl.1 mwX1_init wmX5_34 rfl (by decide +kernel) ⟨(by decide), (by decide)⟩ rfl rfl rfl (by simp [kcat_rf, kcat_i, kcat_r, kcat_l]) (kd dtX5_init_1 3 rfl) ⟨Nat.le_of_ble_eq_true rfl, Nat.le_of_ble_eq_true rfl⟩ (fun H locs hX => ?_)
              obtain ⟨w44, hw44, hf⟩ := kbind hf
              refine kqst16 hw44 F hX (kd dtX5_init_1 4 rfl) (fun H locs hX => ?_)
              refine lv_iinc (v := (3 : Int32)) (lv' := [(1, .int (3 : Int32)), (0, .ref x0)]) hx hb (kd dtX5_init_1 5 rfl) hl (k := 0) rfl (by decide) (by decide) rfl (fun ls hl => ?_)
              refine lv_goto (tgt := 129) hx hb (kd dtX5_init_1 6 rfl) (by decide) ?_
              refine lv_iload_n hx hb (kd dtX5_init_0 70 rfl) rfl (lv_at hl 0 rfl) ?_
              refine lv_bipush (v := (24 : Int32)) hx hb (kd dtX5_init_0 71 rfl) (by decide) ?_
              refine lv_icmp_ge (tgt := 165) hx hb (kd dtX5_init_0 72 rfl) (by decide) (fun hc => ?_) (fun hc => ?_)
              · exact absurd hc (by decide)
              · skip
                refine lv_aload_n hx hb (kd dtX5_init_0 73 rfl) rfl (lv_at hl 1 rfl) ?_
                obtain ⟨v45, hv45, hf⟩ := kbind hf
                refine kgetP hv45 F hX hinX5 rfl rfl rfl (by decide) (by decide) wfX5_11 (kd dtX5_init_0 74 rfl) ?_
                refine lv_iload_n hx hb (kd dtX5_init_0 75 rfl) rfl (lv_at hl 0 rfl) ?_
                obtain ⟨w46, hw46, hf⟩ := kbind hf
                refine knewo (k := 1) hw46 F hX hinX1 tyX1_ok (by decide +kernel) rfl rfl (by decide) wkX5_9 wnX1 wiX1 (Nat.le_of_ble_eq_true rfl) (Nat.le_of_ble_eq_true rfl) (kd dtX5_init_0 76 rfl) (fun H hX => ?_)
                refine lv_dup hx hb (kd dtX5_init_0 77 rfl) rfl ?_
                refine lv_iload_n hx hb (kd dtX5_init_0 78 rfl) rfl (lv_at hl 0 rfl) ?_
                refine lv_if_ne (tgt := 153) hx hb (kd dtX5_init_0 79 rfl) (by decide) (fun hc => ?_) (fun hc => ?_)
                · skip
                  refine lv_bipush (v := (20 : Int32)) hx hb (kd dtX5_init_1 2 rfl) (by decide) ?_
                  obtain ⟨w47, h48, hf⟩ := kbind hf
                  refine kcallI (n := 1) [.int (20 : Int32)] [.ref (kSz w44), .int (3 : Int32), va_rf v45] [.ref (kSz w44), .int (3 : Int32), va_rf v45] (rX1_init l D aC h48) F hml hX hZ hl.1 mwX1_init wmX5_34 rfl (by decide +kernel) ⟨(by decide), (by decide)⟩ rfl rfl rfl (by simp [kcat_rf, kcat_i, kcat_r, kcat_l]) (kd dtX5_init_1 3 rfl) ⟨Nat.le_of_ble_eq_true rfl, Nat.le_of_ble_eq_true rfl⟩ (fun H locs hX => ?_)
                  obtain ⟨w49, hw49, hf⟩ := kbind hf
                  refine kqst16 hw49 F hX (kd dtX5_init_1 4 rfl) (fun H locs hX => ?_)
                  refine lv_iinc (v := (4 : Int32)) (lv' := [(1, .int (4 : Int32)), (0, .ref x0)]) hx hb (kd dtX5_init_1 5 rfl) hl (k := 0) rfl (by decide) (by decide) rfl (fun ls hl => ?_)
                  refine lv_goto (tgt := 129) hx hb (kd dtX5_init_1 6 rfl) (by decide) ?_
                  refine lv_iload_n hx hb (kd dtX5_init_0 70 rfl) rfl (lv_at hl 0 rfl) ?_
                  refine lv_bipush (v := (24 : Int32)) hx hb (kd dtX5_init_0 71 rfl) (by decide) ?_
                  refine lv_icmp_ge (tgt := 165) hx hb (kd dtX5_init_0 72 rfl) (by decide) (fun hc => ?_) (fun hc => ?_)
                  · exact absurd hc (by decide)
                  · skip
                    refine lv_aload_n hx hb (kd dtX5_init_0 73 rfl) rfl (lv_at hl 1 rfl) ?_
                    obtain ⟨v50, hv50, hf⟩ := kbind hf
                    refine kgetP hv50 F hX hinX5 rfl rfl rfl (by decide) (by decide) wfX5_11 (kd dtX5_init_0 74 rfl) ?_
                    refine lv_iload_n hx hb (kd dtX5_init_0 75 rfl) rfl (lv_at hl 0 rfl) ?_
                    obtain ⟨w51, hw51, hf⟩ := kbind hf
                    refine knewo (k := 1) hw51 F hX hinX1 tyX1_ok (by decide +kernel) rfl rfl (by decide) wkX5_9 wnX1 wiX1 (Nat.le_of_ble_eq_true rfl) (Nat.le_of_ble_eq_true rfl) (kd dtX5_init_0 76 rfl) (fun H hX => ?_)
                    refine lv_dup hx hb (kd dtX5_init_0 77 rfl) rfl ?_
                    refine lv_iload_n hx hb (kd dtX5_init_0 78 rfl) rfl (lv_at hl 0 rfl) ?_
                    refine lv_if_ne (tgt := 153) hx hb (kd dtX5_init_0 79 rfl) (by decide) (fun hc => ?_) (fun hc => ?_)
                    · skip
                      refine lv_bipush (v := (20 : Int32)) hx hb (kd dtX5_init_1 2 rfl) (by decide) ?_
                      obtain ⟨w52, h53, hf⟩ := kbind hf
                      refine kcallI (n := 1) [.int (20 : Int32)] [.ref (kSz w49), .int (4 : Int32), va_rf v50] [.ref (kSz w49), .int (4 : Int32), va_rf v50] (rX1_init l D aC h53) F hml hX hZ hl.1 mwX1_init wmX5_34 rfl (by decide +kernel) ⟨(by decide), (by decide)⟩ rfl rfl rfl (by simp [kcat_rf, kcat_i, kcat_r, kcat_l]) (kd dtX5_init_1 3 rfl) ⟨Nat.le_of_ble_eq_true rfl, Nat.le_of_ble_eq_true rfl⟩ (fun H locs hX => ?_)
                      obtain ⟨w54, hw54, hf⟩ := kbind hf
                      refine kqst16 hw54 F hX (kd dtX5_init_1 4 rfl) (fun H locs hX => ?_)
                      refine lv_iinc (v := (5 : Int32)) (lv' := [(1, .int (5 : Int32)), (0, .ref x0)]) hx hb (kd dtX5_init_1 5 rfl) hl (k := 0) rfl (by decide) (by decide) rfl (fun ls hl => ?_)
                      refine lv_goto (tgt := 129) hx hb (kd dtX5_init_1 6 rfl) (by decide) ?_
                      refine lv_iload_n hx hb (kd dtX5_init_0 70 rfl) rfl (lv_at hl 0 rfl) ?_
                      refine lv_bipush (v := (24 : Int32)) hx hb (kd dtX5_init_0 71 rfl) (by decide) ?_
                      refine lv_icmp_ge (tgt := 165) hx hb (kd dtX5_init_0 72 rfl) (by decide) (fun hc => ?_) (fun hc => ?_)
                      · exact absurd hc (by decide)
                      · skip
                        refine lv_aload_n hx hb (kd dtX5_init_0 73 rfl) rfl (lv_at hl 1 rfl) ?_
                        obtain ⟨v55, hv55, hf⟩ := kbind hf
                        refine kgetP hv55 F hX hinX5 rfl rfl rfl (by decide) (by decide) wfX5_11 (kd dtX5_init_0 74 rfl) ?_
                        refine lv_iload_n hx hb (kd dtX5_init_0 75 rfl) rfl (lv_at hl 0 rfl) ?_
                        obtain ⟨w56, hw56, hf⟩ := kbind hf
                        refine knewo (k := 1) hw56 F hX hinX1 tyX1_ok (by decide +kernel) rfl rfl (by decide) wkX5_9 wnX1 wiX1 (Nat.le_of_ble_eq_true rfl) (Nat.le_of_ble_eq_true rfl) (kd dtX5_init_0 76 rfl) (fun H hX => ?_)
                        refine lv_dup hx hb (kd dtX5_init_0 77 rfl) rfl ?_
                        refine lv_iload_n hx hb (kd dtX5_init_0 78 rfl) rfl (lv_at hl 0 rfl) ?_
                        refine lv_if_ne (tgt := 153) hx hb (kd dtX5_init_0 79 rfl) (by decide) (fun hc => ?_) (fun hc => ?_)
                        · skip
                          refine lv_bipush (v := (20 : Int32)) hx hb (kd dtX5_init_1 2 rfl) (by decide) ?_
                          obtain ⟨w57, h58, hf⟩ := kbind hf
                          refine kcallI (n := 1) [.int (20 : Int32)] [.ref (kSz w54), .int (5 : Int32), va_rf v55] [.ref (kSz w54), .int (5 : Int32), va_rf v55] (rX1_init l D aC h58) F hml hX hZ hl.1 mwX1_init wmX5_34 rfl (by decide +kernel) ⟨(by decide), (by decide)⟩ rfl rfl rfl (by simp [kcat_rf, kcat_i, kcat_r, kcat_l]) (kd dtX5_init_1 3 rfl) ⟨Nat.le_of_ble_eq_true rfl, Nat.le_of_ble_eq_true rfl⟩ (fun H locs hX => ?_)
                          obtain ⟨w59, hw59, hf⟩ := kbind hf
                          refine kqst16 hw59 F hX (kd dtX5_init_1 4 rfl) (fun H locs hX => ?_)
                          refine lv_iinc (v := (6 : Int32)) (lv' := [(1, .int (6 : Int32)), (0, .ref x0)]) hx hb (kd dtX5_init_1 5 rfl) hl (k := 0) rfl (by decide) (by decide) rfl (fun ls hl => ?_)
                          refine lv_goto (tgt := 129) hx hb (kd dtX5_init_1 6 rfl) (by decide) ?_
                          refine lv_iload_n hx hb (kd dtX5_init_0 70 rfl) rfl (lv_at hl 0 rfl) ?_
                          refine lv_bipush (v := (24 : Int32)) hx hb (kd dtX5_init_0 71 rfl) (by decide) ?_
                          refine lv_icmp_ge (tgt := 165) hx hb (kd dtX5_init_0 72 rfl) (by decide) (fun hc => ?_) (fun hc => ?_)
                          · exact absurd hc (by decide)
                          · skip
                            refine lv_aload_n hx hb (kd dtX5_init_0 73 rfl) rfl (lv_at hl 1 rfl) ?_
                            obtain ⟨v60, hv60, hf⟩ := kbind hf
                            refine kgetP hv60 F hX hinX5 rfl rfl rfl (by decide) (by decide) wfX5_11 (kd dtX5_init_0 74 rfl) ?_
                            refine lv_iload_n hx hb (kd dtX5_init_0 75 rfl) rfl (lv_at hl 0 rfl) ?_
                            obtain ⟨w61, hw61, hf⟩ := kbind hf
                            refine knewo (k := 1) hw61 F hX hinX1 tyX1_ok (by decide +kernel) rfl rfl (by decide) wkX5_9 wnX1 wiX1 (Nat.le_of_ble_eq_true rfl) (Nat.le_of_ble_eq_true rfl) (kd dtX5_init_0 76 rfl) (fun H hX => ?_)
                            refine lv_dup hx hb (kd dtX5_init_0 77 rfl) rfl ?_
                            refine lv_iload_n hx hb (kd dtX5_init_0 78 rfl) rfl (lv_at hl 0 rfl) ?_
                            refine lv_if_ne (tgt := 153) hx hb (kd dtX5_init_0 79 rfl) (by decide) (fun hc => ?_) (fun hc => ?_)
                            · skip
                              refine lv_bipush (v := (20 : Int32)) hx hb (kd dtX5_init_1 2 rfl) (by decide) ?_
                              obtain ⟨w62, h63, hf⟩ := kbind hf
                              refine kcallI (n := 1) [.int (20 : Int32)] [.ref (kSz w59), .int (6 : Int32), va_rf v60] [.ref (kSz w59), .int (6 : Int32), va_rf v60] (rX1_init l D aC h63) F hml hX hZ hl.1 mwX1_init wmX5_34 rfl (by decide +kernel) ⟨(by decide), (by decide)⟩ rfl rfl rfl (by simp [kcat_rf, kcat_i, kcat_r, kcat_l]) (kd dtX5_init_1 3 rfl) ⟨Nat.le_of_ble_eq_true rfl, Nat.le_of_ble_eq_true rfl⟩ (fun H locs hX => ?_)
                              obtain ⟨w64, hw64, hf⟩ := kbind hf
                              refine kqst16 hw64 F hX (kd dtX5_init_1 4 rfl) (fun H locs hX => ?_)
                              refine lv_iinc (v := (7 : Int32)) (lv' := [(1, .int (7 : Int32)), (0, .ref x0)]) hx hb (kd dtX5_init_1 5 rfl) hl (k := 0) rfl (by decide) (by decide) rfl (fun ls hl => ?_)
                              refine lv_goto (tgt := 129) hx hb (kd dtX5_init_1 6 rfl) (by decide) ?_
                              refine lv_iload_n hx hb (kd dtX5_init_0 70 rfl) rfl (lv_at hl 0 rfl) ?_
                              refine lv_bipush (v := (24 : Int32)) hx hb (kd dtX5_init_0 71 rfl) (by decide) ?_
                              refine lv_icmp_ge (tgt := 165) hx hb (kd dtX5_init_0 72 rfl) (by decide) (fun hc => ?_) (fun hc => ?_)
                              · exact absurd hc (by decide)
                              · skip
                                refine lv_aload_n hx hb (kd dtX5_init_0 73 rfl) rfl (lv_at hl 1 rfl) ?_
                                obtain ⟨v65, hv65, hf⟩ := kbind hf
                                refine kgetP hv65 F hX hinX5 rfl rfl rfl (by decide) (by decide) wfX5_11 (kd dtX5_init_0 74 rfl) ?_
                                refine lv_iload_n hx hb (kd dtX5_init_0 75 rfl) rfl (lv_at hl 0 rfl) ?_
                                obtain ⟨w66, hw66, hf⟩ := kbind hf
                                refine knewo (k := 1) hw66 F hX hinX1 tyX1_ok (by decide +kernel) rfl rfl (by decide) wkX5_9 wnX1 wiX1 (Nat.le_of_ble_eq_true rfl) (Nat.le_of_ble_eq_true rfl) (kd dtX5_init_0 76 rfl) (fun H hX => ?_)
                                refine lv_dup hx hb (kd dtX5_init_0 77 rfl) rfl ?_
                                refine lv_iload_n hx hb (kd dtX5_init_0 78 rfl) rfl (lv_at hl 0 rfl) ?_
                                refine lv_if_ne (tgt := 153) hx hb (kd dtX5_init_0 79 rfl) (by decide) (fun hc => ?_) (fun hc => ?_)
                                · skip
                                  refine lv_bipush (v := (20 : Int32)) hx hb (kd dtX5_init_1 2 rfl) (by decide) ?_
                                  obtain ⟨w67, h68, hf⟩ := kbind hf
                                  refine kcallI (n := 1) [.int (20 : Int32)] [.ref (kSz w64), .int (7 : Int32), va_rf v65] [.ref (kSz w64), .int (7 : Int32), va_rf v65] (rX1_init l D aC h68) F hml hX hZ hl.1 mwX1_init wmX5_34 rfl (by decide +kernel) ⟨(by decide), (by decide)⟩ rfl rfl rfl (by simp [kcat_rf, kcat_i, kcat_r, kcat_l]) (kd dtX5_init_1 3 rfl) ⟨Nat.le_of_ble_eq_true rfl, Nat.le_of_ble_eq_true rfl⟩ (fun H locs hX => ?_)
                                  obtain ⟨w69, hw69, hf⟩ := kbind hf
                                  refine kqst16 hw69 F hX (kd dtX5_init_1 4 rfl) (fun H locs hX => ?_)
                                  refine lv_iinc (v := (8 : Int32)) (lv' := [(1, .int (8 : Int32)), (0, .ref x0)]) hx hb (kd dtX5_init_1 5 rfl) hl (k := 0) rfl (by decide) (by decide) rfl (fun ls hl => ?_)
                                  refine lv_goto (tgt := 129) hx hb (kd dtX5_init_1 6 rfl) (by decide) ?_
                                  refine lv_iload_n hx hb (kd dtX5_init_0 70 rfl) rfl (lv_at hl 0 rfl) ?_
                                  refine lv_bipush (v := (24 : Int32)) hx hb (kd dtX5_init_0 71 rfl) (by decide) ?_
                                  refine lv_icmp_ge (tgt := 165) hx hb (kd dtX5_init_0 72 rfl) (by decide) (fun hc => ?_) (fun hc => ?_)
                                  · exact absurd hc (by decide)
                                  · skip
                                    refine lv_aload_n hx hb (kd dtX5_init_0 73 rfl) rfl (lv_at hl 1 rfl) ?_
                                    obtain ⟨v70, hv70, hf⟩ := kbind hf
                                    refine kgetP hv70 F hX hinX5 rfl rfl rfl (by decide) (by decide) wfX5_11 (kd dtX5_init_0 74 rfl) ?_
                                    refine lv_iload_n hx hb (kd dtX5_init_0 75 rfl) rfl (lv_at hl 0 rfl) ?_
                                    obtain ⟨w71, hw71, hf⟩ := kbind hf
                                    refine knewo (k := 1) hw71 F hX hinX1 tyX1_ok (by decide +kernel) rfl rfl (by decide) wkX5_9 wnX1 wiX1 (Nat.le_of_ble_eq_true rfl) (Nat.le_of_ble_eq_true rfl) (kd dtX5_init_0 76 rfl) (fun H hX => ?_)
                                    refine lv_dup hx hb (kd dtX5_init_0 77 rfl) rfl ?_
                                    refine lv_iload_n hx hb (kd dtX5_init_0 78 rfl) rfl (lv_at hl 0 rfl) ?_
                                    refine lv_if_ne (tgt := 153) hx hb (kd dtX5_init_0 79 rfl) (by decide) (fun hc => ?_) (fun hc => ?_)
                                    · skip
                                      refine lv_bipush (v := (20 : Int32)) hx hb (kd dtX5_init_1 2 rfl) (by decide) ?_
                                      obtain ⟨w72, h73, hf⟩ := kbind hf
                                      refine kcallI (n := 1) [.int (20 : Int32)] [.ref (kSz w69), .int (8 : Int32), va_rf v70] [.ref (kSz w69), .int (8 : Int32), va_rf v70] (rX1_init l D aC h73) F hml hX hZ hl.1 mwX1_init wmX5_34 rfl (by decide +kernel) ⟨(by decide), (by decide)⟩ rfl rfl rfl (by simp [kcat_rf, kcat_i, kcat_r, kcat_l]) (kd dtX5_init_1 3 rfl) ⟨Nat.le_of_ble_eq_true rfl, Nat.le_of_ble_eq_true rfl⟩ (fun H locs hX => ?_)
                                      obtain ⟨w74, hw74, hf⟩ := kbind hf
                                      refine kqst16 hw74 F hX (kd dtX5_init_1 4 rfl) (fun H locs hX => ?_)
                                      refine lv_iinc (v := (9 : Int32)) (lv' := [(1, .int (9 : Int32)), (0, .ref x0)]) hx hb (kd dtX5_init_1 5 rfl) hl (k := 0) rfl (by decide) (by decide) rfl (fun ls hl => ?_)
                                      refine lv_goto (tgt := 129) hx hb (kd dtX5_init_1 6 rfl) (by decide) ?_
                                      refine lv_iload_n hx hb (kd dtX5_init_0 70 rfl) rfl (lv_at hl 0 rfl) ?_
                                      refine lv_bipush (v := (24 : Int32)) hx hb (kd dtX5_init_0 71 rfl) (by decide) ?_
                                      refine lv_icmp_ge (tgt := 165) hx hb (kd dtX5_init_0 72 rfl) (by decide) (fun hc => ?_) (fun hc => ?_)
                                      · exact absurd hc (by decide)
                                      · skip
                                        refine lv_aload_n hx hb (kd dtX5_init_0 73 rfl) rfl (lv_at hl 1 rfl) ?_
                                        obtain ⟨v75, hv75, hf⟩ := kbind hf
                                        refine kgetP hv75 F hX hinX5 rfl rfl rfl (by decide) (by decide) wfX5_11 (kd dtX5_init_0 74 rfl) ?_
                                        refine lv_iload_n hx hb (kd dtX5_init_0 75 rfl) rfl (lv_at hl 0 rfl) ?_
                                        obtain ⟨w76, hw76, hf⟩ := kbind hf
                                        refine knewo (k := 1) hw76 F hX hinX1 tyX1_ok (by decide +kernel) rfl rfl (by decide) wkX5_9 wnX1 wiX1 (Nat.le_of_ble_eq_true rfl) (Nat.le_of_ble_eq_true rfl) (kd dtX5_init_0 76 rfl) (fun H hX => ?_)
                                        refine lv_dup hx hb (kd dtX5_init_0 77 rfl) rfl ?_
                                        refine lv_iload_n hx hb (kd dtX5_init_0 78 rfl) rfl (lv_at hl 0 rfl) ?_
                                        refine lv_if_ne (tgt := 153) hx hb (kd dtX5_init_0 79 rfl) (by decide) (fun hc => ?_) (fun hc => ?_)
                                        · skip
                                          refine lv_bipush (v := (20 : Int32)) hx hb (kd dtX5_init_1 2 rfl) (by decide) ?_
                                          obtain ⟨w77, h78, hf⟩ := kbind hf
                                          refine kcallI (n := 1) [.int (20 : Int32)] [.ref (kSz w74), .int (9 : Int32), va_rf v75] [.ref (kSz w74), .int (9 : Int32), va_rf v75] (rX1_init l D aC h78) F hml hX hZ hl.1 mwX1_init wmX5_34 rfl (by decide +kernel) ⟨(by decide), (by decide)⟩ rfl rfl rfl (by simp [kcat_rf, kcat_i, kcat_r, kcat_l]) (kd dtX5_init_1 3 rfl) ⟨Nat.le_of_ble_eq_true rfl, Nat.le_of_ble_eq_true rfl⟩ (fun H locs hX => ?_)
                                          obtain ⟨w79, hw79, hf⟩ := kbind hf
                                          refine kqst16 hw79 F hX (kd dtX5_init_1 4 rfl) (fun H locs hX => ?_)
                                          refine lv_iinc (v := (10 : Int32)) (lv' := [(1, .int (10 : Int32)), (0, .ref x0)]) hx hb (kd dtX5_init_1 5 rfl) hl (k := 0) rfl (by decide) (by decide) rfl (fun ls hl => ?_)
                                          refine lv_goto (tgt := 129) hx hb (kd dtX5_init_1 6 rfl) (by decide) ?_
                                          refine lv_iload_n hx hb (kd dtX5_init_0 70 rfl) rfl (lv_at hl 0 rfl) ?_
                                          refine lv_bipush (v := (24 : Int32)) hx hb (kd dtX5_init_0 71 rfl) (by decide) ?_
                                          refine lv_icmp_ge (tgt := 165) hx hb (kd dtX5_init_0 72 rfl) (by decide) (fun hc => ?_) (fun hc => ?_)
                                          · exact absurd hc (by decide)
                                          · skip
                                            refine lv_aload_n hx hb (kd dtX5_init_0 73 rfl) rfl (lv_at hl 1 rfl) ?_
                                            obtain ⟨v80, hv80, hf⟩ := kbind hf
                                            refine kgetP hv80 F hX hinX5 rfl rfl rfl (by decide) (by decide) wfX5_11 (kd dtX5_init_0 74 rfl) ?_
                                            refine lv_iload_n hx hb (kd dtX5_init_0 75 rfl) rfl (lv_at hl 0 rfl) ?_
                                            obtain ⟨w81, hw81, hf⟩ := kbind hf
                                            refine knewo (k := 1) hw81 F hX hinX1 tyX1_ok (by decide +kernel) rfl rfl (by decide) wkX5_9 wnX1 wiX1 (Nat.le_of_ble_eq_true rfl) (Nat.le_of_ble_eq_true rfl) (kd dtX5_init_0 76 rfl) (fun H hX => ?_)
                                            refine lv_dup hx hb (kd dtX5_init_0 77 rfl) rfl ?_
                                            refine lv_iload_n hx hb (kd dtX5_init_0 78 rfl) rfl (lv_at hl 0 rfl) ?_
                                            refine lv_if_ne (tgt := 153) hx hb (kd dtX5_init_0 79 rfl) (by decide) (fun hc => ?_) (fun hc => ?_)
                                            · skip
                                              refine lv_bipush (v := (20 : Int32)) hx hb (kd dtX5_init_1 2 rfl) (by decide) ?_
                                              obtain ⟨w82, h83, hf⟩ := kbind hf
                                              refine kcallI (n := 1) [.int (20 : Int32)] [.ref (kSz w79), .int (10 : Int32), va_rf v80] [.ref (kSz w79), .int (10 : Int32), va_rf v80] (rX1_init l D aC h83) F hml hX hZ hl.1 mwX1_init wmX5_34 rfl (by decide +kernel) ⟨(by decide), (by decide)⟩ rfl rfl rfl (by simp [kcat_rf, kcat_i, kcat_r, kcat_l]) (kd dtX5_init_1 3 rfl) ⟨Nat.le_of_ble_eq_true rfl, Nat.le_of_ble_eq_true rfl⟩ (fun H locs hX => ?_)
                                              obtain ⟨w84, hw84, hf⟩ := kbind hf
                                              refine kqst16 hw84 F hX (kd dtX5_init_1 4 rfl) (fun H locs hX => ?_)
                                              refine lv_iinc (v := (11 : Int32)) (lv' := [(1, .int (11 : Int32)), (0, .ref x0)]) hx hb (kd dtX5_init_1 5 rfl) hl (k := 0) rfl (by decide) (by decide) rfl (fun ls hl => ?_)
                                              refine lv_goto (tgt := 129) hx hb (kd dtX5_init_1 6 rfl) (by decide) ?_
                                              refine lv_iload_n hx hb (kd dtX5_init_0 70 rfl) rfl (lv_at hl 0 rfl) ?_
                                              refine lv_bipush (v := (24 : Int32)) hx hb (kd dtX5_init_0 71 rfl) (by decide) ?_
                                              refine lv_icmp_ge (tgt := 165) hx hb (kd dtX5_init_0 72 rfl) (by decide) (fun hc => ?_) (fun hc => ?_)
                                              · exact absurd hc (by decide)
                                              · skip
                                                refine lv_aload_n hx hb (kd dtX5_init_0 73 rfl) rfl (lv_at hl 1 rfl) ?_
                                                obtain ⟨v85, hv85, hf⟩ := kbind hf
                                                refine kgetP hv85 F hX hinX5 rfl rfl rfl (by decide) (by decide) wfX5_11 (kd dtX5_init_0 74 rfl) ?_
                                                refine lv_iload_n hx hb (kd dtX5_init_0 75 rfl) rfl (lv_at hl 0 rfl) ?_
                                                obtain ⟨w86, hw86, hf⟩ := kbind hf
                                                refine knewo (k := 1) hw86 F hX hinX1 tyX1_ok (by decide +kernel) rfl rfl (by decide) wkX5_9 wnX1 wiX1 (Nat.le_of_ble_eq_true rfl) (Nat.le_of_ble_eq_true rfl) (kd dtX5_init_0 76 rfl) (fun H hX => ?_)
                                                refine lv_dup hx hb (kd dtX5_init_0 77 rfl) rfl ?_
                                                refine lv_iload_n hx hb (kd dtX5_init_0 78 rfl) rfl (lv_at hl 0 rfl) ?_
                                                refine lv_if_ne (tgt := 153) hx hb (kd dtX5_init_0 79 rfl) (by decide) (fun hc => ?_) (fun hc => ?_)
                                                · skip
                                                  refine lv_bipush (v := (20 : Int32)) hx hb (kd dtX5_init_1 2 rfl) (by decide) ?_
                                                  obtain ⟨w87, h88, hf⟩ := kbind hf
                                                  refine kcallI (n := 1) [.int (20 : Int32)] [.ref (kSz w84), .int (11 : Int32), va_rf v85] [.ref (kSz w84), .int (11 : Int32), va_rf v85] (rX1_init l D aC h88) F hml hX hZ hl.1 mwX1_init wmX5_34 rfl (by decide +kernel) ⟨(by decide), (by decide)⟩ rfl rfl rfl (by simp [kcat_rf, kcat_i, kcat_r, kcat_l]) (kd dtX5_init_1 3 rfl) ⟨Nat.le_of_ble_eq_true rfl, Nat.le_of_ble_eq_true rfl⟩ (fun H locs hX => ?_)
                                                  obtain ⟨w89, hw89, hf⟩ := kbind hf
                                                  refine kqst16 hw89 F hX (kd dtX5_init_1 4 rfl) (fun H locs hX => ?_)
                                                  refine lv_iinc (v := (12 : Int32)) (lv' := [(1, .int (12 : Int32)), (0, .ref x0)]) hx hb (kd dtX5_init_1 5 rfl) hl (k := 0) rfl (by decide) (by decide) rfl (fun ls hl => ?_)
                                                  refine lv_goto (tgt := 129) hx hb (kd dtX5_init_1 6 rfl) (by decide) ?_
                                                  refine lv_iload_n hx hb (kd dtX5_init_0 70 rfl) rfl (lv_at hl 0 rfl) ?_
                                                  refine lv_bipush (v := (24 : Int32)) hx hb (kd dtX5_init_0 71 rfl) (by decide) ?_
                                                  refine lv_icmp_ge (tgt := 165) hx hb (kd dtX5_init_0 72 rfl) (by decide) (fun hc => ?_) (fun hc => ?_)
                                                  · exact absurd hc (by decide)
                                                  · skip
                                                    refine lv_aload_n hx hb (kd dtX5_init_0 73 rfl) rfl (lv_at hl 1 rfl) ?_
                                                    obtain ⟨v90, hv90, hf⟩ := kbind hf
                                                    refine kgetP hv90 F hX hinX5 rfl rfl rfl (by decide) (by decide) wfX5_11 (kd dtX5_init_0 74 rfl) ?_
                                                    refine lv_iload_n hx hb (kd dtX5_init_0 75 rfl) rfl (lv_at hl 0 rfl) ?_
                                                    obtain ⟨w91, hw91, hf⟩ := kbind hf
                                                    refine knewo (k := 1) hw91 F hX hinX1 tyX1_ok (by decide +kernel) rfl rfl (by decide) wkX5_9 wnX1 wiX1 (Nat.le_of_ble_eq_true rfl) (Nat.le_of_ble_eq_true rfl) (kd dtX5_init_0 76 rfl) (fun H hX => ?_)
                                                    refine lv_dup hx hb (kd dtX5_init_0 77 rfl) rfl ?_
                                                    refine lv_iload_n hx hb (kd dtX5_init_0 78 rfl) rfl (lv_at hl 0 rfl) ?_
                                                    refine lv_if_ne (tgt := 153) hx hb (kd dtX5_init_0 79 rfl) (by decide) (fun hc => ?_) (fun hc => ?_)
                                                    · skip
                                                      refine lv_bipush (v := (20 : Int32)) hx hb (kd dtX5_init_1 2 rfl) (by decide) ?_
                                                      obtain ⟨w92, h93, hf⟩ := kbind hf
                                                      refine kcallI (n := 1) [.int (20 : Int32)] [.ref (kSz w89), .int (12 : Int32), va_rf v90] [.ref (kSz w89), .int (12 : Int32), va_rf v90] (rX1_init l D aC h93) F hml hX hZ hl.1 mwX1_init wmX5_34 rfl (by decide +kernel) ⟨(by decide), (by decide)⟩ rfl rfl rfl (by simp [kcat_rf, kcat_i, kcat_r, kcat_l]) (kd dtX5_init_1 3 rfl) ⟨Nat.le_of_ble_eq_true rfl, Nat.le_of_ble_eq_true rfl⟩ (fun H locs hX => ?_)
                                                      obtain ⟨w94, hw94, hf⟩ := kbind hf
                                                      refine kqst16 hw94 F hX (kd dtX5_init_1 4 rfl) (fun H locs hX => ?_)
                                                      refine lv_iinc (v := (13 : Int32)) (lv' := [(1, .int (13 : Int32)), (0, .ref x0)]) hx hb (kd dtX5_init_1 5 rfl) hl (k := 0) rfl (by decide) (by decide) rfl (fun ls hl => ?_)
                                                      refine lv_goto (tgt := 129) hx hb (kd dtX5_init_1 6 rfl) (by decide) ?_
                                                      refine lv_iload_n hx hb (kd dtX5_init_0 70 rfl) rfl (lv_at hl 0 rfl) ?_
                                                      refine lv_bipush (v := (24 : Int32)) hx hb (kd dtX5_init_0 71 rfl) (by decide) ?_
                                                      refine lv_icmp_ge (tgt := 165) hx hb (kd dtX5_init_0 72 rfl) (by decide) (fun hc => ?_) (fun hc => ?_)
                                                      · exact absurd hc (by decide)
                                                      · skip
                                                        refine lv_aload_n hx hb (kd dtX5_init_0 73 rfl) rfl (lv_at hl 1 rfl) ?_
                                                        obtain ⟨v95, hv95, hf⟩ := kbind hf
                                                        refine kgetP hv95 F hX hinX5 rfl rfl rfl (by decide) (by decide) wfX5_11 (kd dtX5_init_0 74 rfl) ?_
                                                        refine lv_iload_n hx hb (kd dtX5_init_0 75 rfl) rfl (lv_at hl 0 rfl) ?_
                                                        obtain ⟨w96, hw96, hf⟩ := kbind hf
                                                        refine knewo (k := 1) hw96 F hX hinX1 tyX1_ok (by decide +kernel) rfl rfl (by decide) wkX5_9 wnX1 wiX1 (Nat.le_of_ble_eq_true rfl) (Nat.le_of_ble_eq_true rfl) (kd dtX5_init_0 76 rfl) (fun H hX => ?_)
                                                        refine lv_dup hx hb (kd dtX5_init_0 77 rfl) rfl ?_
                                                        refine lv_iload_n hx hb (kd dtX5_init_0 78 rfl) rfl (lv_at hl 0 rfl) ?_
                                                        refine lv_if_ne (tgt := 153) hx hb (kd dtX5_init_0 79 rfl) (by decide) (fun hc => ?_) (fun hc => ?_)
                                                        · skip
                                                          refine lv_bipush (v := (20 : Int32)) hx hb (kd dtX5_init_1 2 rfl) (by decide) ?_
                                                          obtain ⟨w97, h98, hf⟩ := kbind hf
                                                          refine kcallI (n := 1) [.int (20 : Int32)] [.ref (kSz w94), .int (13 : Int32), va_rf v95] [.ref (kSz w94), .int (13 : Int32), va_rf v95] (rX1_init l D aC h98) F hml hX hZ hl.1 mwX1_init wmX5_34 rfl (by decide +kernel) ⟨(by decide), (by decide)⟩ rfl rfl rfl (by simp [kcat_rf, kcat_i, kcat_r, kcat_l]) (kd dtX5_init_1 3 rfl) ⟨Nat.le_of_ble_eq_true rfl, Nat.le_of_ble_eq_true rfl⟩ (fun H locs hX => ?_)
                                                          obtain ⟨w99, hw99, hf⟩ := kbind hf
                                                          refine kqst16 hw99 F hX (kd dtX5_init_1 4 rfl) (fun H locs hX => ?_)
                                                          refine lv_iinc (v := (14 : Int32)) (lv' := [(1, .int (14 : Int32)), (0, .ref x0)]) hx hb (kd dtX5_init_1 5 rfl) hl (k := 0) rfl (by decide) (by decide) rfl (fun ls hl => ?_)
                                                          refine lv_goto (tgt := 129) hx hb (kd dtX5_init_1 6 rfl) (by decide) ?_
                                                          refine lv_iload_n hx hb (kd dtX5_init_0 70 rfl) rfl (lv_at hl 0 rfl) ?_
                                                          refine lv_bipush (v := (24 : Int32)) hx hb (kd dtX5_init_0 71 rfl) (by decide) ?_
                                                          refine lv_icmp_ge (tgt := 165) hx hb (kd dtX5_init_0 72 rfl) (by decide) (fun hc => ?_) (fun hc => ?_)
                                                          · exact absurd hc (by decide)
                                                          · skip
                                                            refine lv_aload_n hx hb (kd dtX5_init_0 73 rfl) rfl (lv_at hl 1 rfl) ?_
                                                            obtain ⟨v100, hv100, hf⟩ := kbind hf
                                                            refine kgetP hv100 F hX hinX5 rfl rfl rfl (by decide) (by decide) wfX5_11 (kd dtX5_init_0 74 rfl) ?_
                                                            refine lv_iload_n hx hb (kd dtX5_init_0 75 rfl) rfl (lv_at hl 0 rfl) ?_
                                                            obtain ⟨w101, hw101, hf⟩ := kbind hf
                                                            refine knewo (k := 1) hw101 F hX hinX1 tyX1_ok (by decide +kernel) rfl rfl (by decide) wkX5_9 wnX1 wiX1 (Nat.le_of_ble_eq_true rfl) (Nat.le_of_ble_eq_true rfl) (kd dtX5_init_0 76 rfl) (fun H hX => ?_)
                                                            refine lv_dup hx hb (kd dtX5_init_0 77 rfl) rfl ?_
                                                            refine lv_iload_n hx hb (kd dtX5_init_0 78 rfl) rfl (lv_at hl 0 rfl) ?_
                                                            refine lv_if_ne (tgt := 153) hx hb (kd dtX5_init_0 79 rfl) (by decide) (fun hc => ?_) (fun hc => ?_)
                                                            · skip
                                                              refine lv_bipush (v := (20 : Int32)) hx hb (kd dtX5_init_1 2 rfl) (by decide) ?_
                                                              obtain ⟨w102, h103, hf⟩ := kbind hf
                                                              refine kcallI (n := 1) [.int (20 : Int32)] [.ref (kSz w99), .int (14 : Int32), va_rf v100] [.ref (kSz w99), .int (14 : Int32), va_rf v100] (rX1_init l D aC h103) F hml hX hZ hl.1 mwX1_init wmX5_34 rfl (by decide +kernel) ⟨(by decide), (by decide)⟩ rfl rfl rfl (by simp [kcat_rf, kcat_i, kcat_r, kcat_l]) (kd dtX5_init_1 3 rfl) ⟨Nat.le_of_ble_eq_true rfl, Nat.le_of_ble_eq_true rfl⟩ (fun H locs hX => ?_)
                                                              obtain ⟨w104, hw104, hf⟩ := kbind hf
                                                              refine kqst16 hw104 F hX (kd dtX5_init_1 4 rfl) (fun H locs hX => ?_)
                                                              refine lv_iinc (v := (15 : Int32)) (lv' := [(1, .int (15 : Int32)), (0, .ref x0)]) hx hb (kd dtX5_init_1 5 rfl) hl (k := 0) rfl (by decide) (by decide) rfl (fun ls hl => ?_)
                                                              refine lv_goto (tgt := 129) hx hb (kd dtX5_init_1 6 rfl) (by decide) ?_
                                                              refine lv_iload_n hx hb (kd dtX5_init_0 70 rfl) rfl (lv_at hl 0 rfl) ?_
                                                              refine lv_bipush (v := (24 : Int32)) hx hb (kd dtX5_init_0 71 rfl) (by decide) ?_
                                                              refine lv_icmp_ge (tgt := 165) hx hb (kd dtX5_init_0 72 rfl) (by decide) (fun hc => ?_) (fun hc => ?_)
                                                              · exact absurd hc (by decide)
                                                              · skip
                                                                refine lv_aload_n hx hb (kd dtX5_init_0 73 rfl) rfl (lv_at hl 1 rfl) ?_
                                                                obtain ⟨v105, hv105, hf⟩ := kbind hf
                                                                refine kgetP hv105 F hX hinX5 rfl rfl rfl (by decide) (by decide) wfX5_11 (kd dtX5_init_0 74 rfl) ?_
                                                                refine lv_iload_n hx hb (kd dtX5_init_0 75 rfl) rfl (lv_at hl 0 rfl) ?_
                                                                obtain ⟨w106, hw106, hf⟩ := kbind hf
                                                                refine knewo (k := 1) hw106 F hX hinX1 tyX1_ok (by decide +kernel) rfl rfl (by decide) wkX5_9 wnX1 wiX1 (Nat.le_of_ble_eq_true rfl) (Nat.le_of_ble_eq_true rfl) (kd dtX5_init_0 76 rfl) (fun H hX => ?_)
                                                                refine lv_dup hx hb (kd dtX5_init_0 77 rfl) rfl ?_
                                                                refine lv_iload_n hx hb (kd dtX5_init_0 78 rfl) rfl (lv_at hl 0 rfl) ?_
                                                                refine lv_if_ne (tgt := 153) hx hb (kd dtX5_init_0 79 rfl) (by decide) (fun hc => ?_) (fun hc => ?_)
                                                                · skip
                                                                  refine lv_bipush (v := (20 : Int32)) hx hb (kd dtX5_init_1 2 rfl) (by decide) ?_
                                                                  obtain ⟨w107, h108, hf⟩ := kbind hf
                                                                  refine kcallI (n := 1) [.int (20 : Int32)] [.ref (kSz w104), .int (15 : Int32), va_rf v105] [.ref (kSz w104), .int (15 : Int32), va_rf v105] (rX1_init l D aC h108) F hml hX hZ hl.1 mwX1_init wmX5_34 rfl (by decide +kernel) ⟨(by decide), (by decide)⟩ rfl rfl rfl (by simp [kcat_rf, kcat_i, kcat_r, kcat_l]) (kd dtX5_init_1 3 rfl) ⟨Nat.le_of_ble_eq_true rfl, Nat.le_of_ble_eq_true rfl⟩ (fun H locs hX => ?_)
                                                                  obtain ⟨w109, hw109, hf⟩ := kbind hf
                                                                  refine kqst16 hw109 F hX (kd dtX5_init_1 4 rfl) (fun H locs hX => ?_)
                                                                  refine lv_iinc (v := (16 : Int32)) (lv' := [(1, .int (16 : Int32)), (0, .ref x0)]) hx hb (kd dtX5_init_1 5 rfl) hl (k := 0) rfl (by decide) (by decide) rfl (fun ls hl => ?_)
                                                                  refine lv_goto (tgt := 129) hx hb (kd dtX5_init_1 6 rfl) (by decide) ?_
                                                                  refine lv_iload_n hx hb (kd dtX5_init_0 70 rfl) rfl (lv_at hl 0 rfl) ?_
                                                                  refine lv_bipush (v := (24 : Int32)) hx hb (kd dtX5_init_0 71 rfl) (by decide) ?_
                                                                  refine lv_icmp_ge (tgt := 165) hx hb (kd dtX5_init_0 72 rfl) (by decide) (fun hc => ?_) (fun hc => ?_)
                                                                  · exact absurd hc (by decide)
                                                                  · skip
                                                                    refine lv_aload_n hx hb (kd dtX5_init_0 73 rfl) rfl (lv_at hl 1 rfl) ?_
                                                                    obtain ⟨v110, hv110, hf⟩ := kbind hf
                                                                    refine kgetP hv110 F hX hinX5 rfl rfl rfl (by decide) (by decide) wfX5_11 (kd dtX5_init_0 74 rfl) ?_
                                                                    refine lv_iload_n hx hb (kd dtX5_init_0 75 rfl) rfl (lv_at hl 0 rfl) ?_
                                                                    obtain ⟨w111, hw111, hf⟩ := kbind hf
                                                                    refine knewo (k := 1) hw111 F hX hinX1 tyX1_ok (by decide +kernel) rfl rfl (by decide) wkX5_9 wnX1 wiX1 (Nat.le_of_ble_eq_true rfl) (Nat.le_of_ble_eq_true rfl) (kd dtX5_init_0 76 rfl) (fun H hX => ?_)
                                                                    refine lv_dup hx hb (kd dtX5_init_0 77 rfl) rfl ?_
                                                                    refine lv_iload_n hx hb (kd dtX5_init_0 78 rfl) rfl (lv_at hl 0 rfl) ?_
                                                                    refine lv_if_ne (tgt := 153) hx hb (kd dtX5_init_0 79 rfl) (by decide) (fun hc => ?_) (fun hc => ?_)
                                                                    · skip
                                                                      refine lv_bipush (v := (20 : Int32)) hx hb (kd dtX5_init_1 2 rfl) (by decide) ?_
                                                                      obtain ⟨w112, h113, hf⟩ := kbind hf
                                                                      refine kcallI (n := 1) [.int (20 : Int32)] [.ref (kSz w109), .int (16 : Int32), va_rf v110] [.ref (kSz w109), .int (16 : Int32), va_rf v110] (rX1_init l D aC h113) F hml hX hZ hl.1 mwX1_init wmX5_34 rfl (by decide +kernel) ⟨(by decide), (by decide)⟩ rfl rfl rfl (by simp [kcat_rf, kcat_i, kcat_r, kcat_l]) (kd dtX5_init_1 3 rfl) ⟨Nat.le_of_ble_eq_true rfl, Nat.le_of_ble_eq_true rfl⟩ (fun H locs hX => ?_)
                                                                      obtain ⟨w114, hw114, hf⟩ := kbind hf
                                                                      refine kqst16 hw114 F hX (kd dtX5_init_1 4 rfl) (fun H locs hX => ?_)
                                                                      refine lv_iinc (v := (17 : Int32)) (lv' := [(1, .int (17 : Int32)), (0, .ref x0)]) hx hb (kd dtX5_init_1 5 rfl) hl (k := 0) rfl (by decide) (by decide) rfl (fun ls hl => ?_)
                                                                      refine lv_goto (tgt := 129) hx hb (kd dtX5_init_1 6 rfl) (by decide) ?_
                                                                      refine lv_iload_n hx hb (kd dtX5_init_0 70 rfl) rfl (lv_at hl 0 rfl) ?_
                                                                      refine lv_bipush (v := (24 : Int32)) hx hb (kd dtX5_init_0 71 rfl) (by decide) ?_
                                                                      refine lv_icmp_ge (tgt := 165) hx hb (kd dtX5_init_0 72 rfl) (by decide) (fun hc => ?_) (fun hc => ?_)
                                                                      · exact absurd hc (by decide)
                                                                      · skip
                                                                        refine lv_aload_n hx hb (kd dtX5_init_0 73 rfl) rfl (lv_at hl 1 rfl) ?_
                                                                        obtain ⟨v115, hv115, hf⟩ := kbind hf
                                                                        refine kgetP hv115 F hX hinX5 rfl rfl rfl (by decide) (by decide) wfX5_11 (kd dtX5_init_0 74 rfl) ?_
                                                                        refine lv_iload_n hx hb (kd dtX5_init_0 75 rfl) rfl (lv_at hl 0 rfl) ?_
                                                                        obtain ⟨w116, hw116, hf⟩ := kbind hf
                                                                        refine knewo (k := 1) hw116 F hX hinX1 tyX1_ok (by decide +kernel) rfl rfl (by decide) wkX5_9 wnX1 wiX1 (Nat.le_of_ble_eq_true rfl) (Nat.le_of_ble_eq_true rfl) (kd dtX5_init_0 76 rfl) (fun H hX => ?_)
                                                                        refine lv_dup hx hb (kd dtX5_init_0 77 rfl) rfl ?_
                                                                        refine lv_iload_n hx hb (kd dtX5_init_0 78 rfl) rfl (lv_at hl 0 rfl) ?_
                                                                        refine lv_if_ne (tgt := 153) hx hb (kd dtX5_init_0 79 rfl) (by decide) (fun hc => ?_) (fun hc => ?_)
                                                                        · skip
                                                                          refine lv_bipush (v := (20 : Int32)) hx hb (kd dtX5_init_1 2 rfl) (by decide) ?_
                                                                          obtain ⟨w117, h118, hf⟩ := kbind hf
                                                                          refine kcallI (n := 1) [.int (20 : Int32)] [.ref (kSz w114), .int (17 : Int32), va_rf v115] [.ref (kSz w114), .int (17 : Int32), va_rf v115] (rX1_init l D aC h118) F hml hX hZ hl.1 mwX1_init wmX5_34 rfl (by decide +kernel) ⟨(by decide), (by decide)⟩ rfl rfl rfl (by simp [kcat_rf, kcat_i, kcat_r, kcat_l]) (kd dtX5_init_1 3 rfl) ⟨Nat.le_of_ble_eq_true rfl, Nat.le_of_ble_eq_true rfl⟩ (fun H locs hX => ?_)
                                                                          obtain ⟨w119, hw119, hf⟩ := kbind hf
                                                                          refine kqst16 hw119 F hX (kd dtX5_init_1 4 rfl) (fun H locs hX => ?_)
                                                                          refine lv_iinc (v := (18 : Int32)) (lv' := [(1, .int (18 : Int32)), (0, .ref x0)]) hx hb (kd dtX5_init_1 5 rfl) hl (k := 0) rfl (by decide) (by decide) rfl (fun ls hl => ?_)
                                                                          refine lv_goto (tgt := 129) hx hb (kd dtX5_init_1 6 rfl) (by decide) ?_
                                                                          refine lv_iload_n hx hb (kd dtX5_init_0 70 rfl) rfl (lv_at hl 0 rfl) ?_
                                                                          refine lv_bipush (v := (24 : Int32)) hx hb (kd dtX5_init_0 71 rfl) (by decide) ?_
                                                                          refine lv_icmp_ge (tgt := 165) hx hb (kd dtX5_init_0 72 rfl) (by decide) (fun hc => ?_) (fun hc => ?_)
                                                                          · exact absurd hc (by decide)
                                                                          · skip
                                                                            refine lv_aload_n hx hb (kd dtX5_init_0 73 rfl) rfl (lv_at hl 1 rfl) ?_
                                                                            obtain ⟨v120, hv120, hf⟩ := kbind hf
                                                                            refine kgetP hv120 F hX hinX5 rfl rfl rfl (by decide) (by decide) wfX5_11 (kd dtX5_init_0 74 rfl) ?_
                                                                            refine lv_iload_n hx hb (kd dtX5_init_0 75 rfl) rfl (lv_at hl 0 rfl) ?_
                                                                            obtain ⟨w121, hw121, hf⟩ := kbind hf
                                                                            refine knewo (k := 1) hw121 F hX hinX1 tyX1_ok (by decide +kernel) rfl rfl (by decide) wkX5_9 wnX1 wiX1 (Nat.le_of_ble_eq_true rfl) (Nat.le_of_ble_eq_true rfl) (kd dtX5_init_0 76 rfl) (fun H hX => ?_)
                                                                            refine lv_dup hx hb (kd dtX5_init_0 77 rfl) rfl ?_
                                                                            refine lv_iload_n hx hb (kd dtX5_init_0 78 rfl) rfl (lv_at hl 0 rfl) ?_
                                                                            refine lv_if_ne (tgt := 153) hx hb (kd dtX5_init_0 79 rfl) (by decide) (fun hc => ?_) (fun hc => ?_)
                                                                            · skip
                                                                              refine lv_bipush (v := (20 : Int32)) hx hb (kd dtX5_init_1 2 rfl) (by decide) ?_
                                                                              obtain ⟨w122, h123, hf⟩ := kbind hf
                                                                              refine kcallI (n := 1) [.int (20 : Int32)] [.ref (kSz w119), .int (18 : Int32), va_rf v120] [.ref (kSz w119), .int (18 : Int32), va_rf v120] (rX1_init l D aC h123) F hml hX hZ hl.1 mwX1_init wmX5_34 rfl (by decide +kernel) ⟨(by decide), (by decide)⟩ rfl rfl rfl (by simp [kcat_rf, kcat_i, kcat_r, kcat_l]) (kd dtX5_init_1 3 rfl) ⟨Nat.le_of_ble_eq_true rfl, Nat.le_of_ble_eq_true rfl⟩ (fun H locs hX => ?_)
                                                                              obtain ⟨w124, hw124, hf⟩ := kbind hf
                                                                              refine kqst16 hw124 F hX (kd dtX5_init_1 4 rfl) (fun H locs hX => ?_)
                                                                              refine lv_iinc (v := (19 : Int32)) (lv' := [(1, .int (19 : Int32)), (0, .ref x0)]) hx hb (kd dtX5_init_1 5 rfl) hl (k := 0) rfl (by decide) (by decide) rfl (fun ls hl => ?_)
                                                                              refine lv_goto (tgt := 129) hx hb (kd dtX5_init_1 6 rfl) (by decide) ?_
                                                                              refine lv_iload_n hx hb (kd dtX5_init_0 70 rfl) rfl (lv_at hl 0 rfl) ?_
                                                                              refine lv_bipush (v := (24 : Int32)) hx hb (kd dtX5_init_0 71 rfl) (by decide) ?_
                                                                              refine lv_icmp_ge (tgt := 165) hx hb (kd dtX5_init_0 72 rfl) (by decide) (fun hc => ?_) (fun hc => ?_)
                                                                              · exact absurd hc (by decide)
                                                                              · skip
                                                                                refine lv_aload_n hx hb (kd dtX5_init_0 73 rfl) rfl (lv_at hl 1 rfl) ?_
                                                                                obtain ⟨v125, hv125, hf⟩ := kbind hf
                                                                                refine kgetP hv125 F hX hinX5 rfl rfl rfl (by decide) (by decide) wfX5_11 (kd dtX5_init_0 74 rfl) ?_
                                                                                refine lv_iload_n hx hb (kd dtX5_init_0 75 rfl) rfl (lv_at hl 0 rfl) ?_
                                                                                obtain ⟨w126, hw126, hf⟩ := kbind hf
                                                                                refine knewo (k := 1) hw126 F hX hinX1 tyX1_ok (by decide +kernel) rfl rfl (by decide) wkX5_9 wnX1 wiX1 (Nat.le_of_ble_eq_true rfl) (Nat.le_of_ble_eq_true rfl) (kd dtX5_init_0 76 rfl) (fun H hX => ?_)
                                                                                refine lv_dup hx hb (kd dtX5_init_0 77 rfl) rfl ?_
                                                                                refine lv_iload_n hx hb (kd dtX5_init_0 78 rfl) rfl (lv_at hl 0 rfl) ?_
                                                                                refine lv_if_ne (tgt := 153) hx hb (kd dtX5_init_0 79 rfl) (by decide) (fun hc => ?_) (fun hc => ?_)
                                                                                · skip
                                                                                  refine lv_bipush (v := (20 : Int32)) hx hb (kd dtX5_init_1 2 rfl) (by decide) ?_
                                                                                  obtain ⟨w127, h128, hf⟩ := kbind hf
                                                                                  refine kcallI (n := 1) [.int (20 : Int32)] [.ref (kSz w124), .int (19 : Int32), va_rf v125] [.ref (kSz w124), .int (19 : Int32), va_rf v125] (rX1_init l D aC h128) F hml hX hZ hl.1 mwX1_init wmX5_34 rfl (by decide +kernel) ⟨(by decide), (by decide)⟩ rfl rfl rfl (by simp [kcat_rf, kcat_i, kcat_r, kcat_l]) (kd dtX5_init_1 3 rfl) ⟨Nat.le_of_ble_eq_true rfl, Nat.le_of_ble_eq_true rfl⟩ (fun H locs hX => ?_)
                                                                                  obtain ⟨w129, hw129, hf⟩ := kbind hf
                                                                                  refine kqst16 hw129 F hX (kd dtX5_init_1 4 rfl) (fun H locs hX => ?_)
                                                                                  refine lv_iinc (v := (20 : Int32)) (lv' := [(1, .int (20 : Int32)), (0, .ref x0)]) hx hb (kd dtX5_init_1 5 rfl) hl (k := 0) rfl (by decide) (by decide) rfl (fun ls hl => ?_)
                                                                                  refine lv_goto (tgt := 129) hx hb (kd dtX5_init_1 6 rfl) (by decide) ?_
                                                                                  refine lv_iload_n hx hb (kd dtX5_init_0 70 rfl) rfl (lv_at hl 0 rfl) ?_
                                                                                  refine lv_bipush (v := (24 : Int32)) hx hb (kd dtX5_init_0 71 rfl) (by decide) ?_
                                                                                  refine lv_icmp_ge (tgt := 165) hx hb (kd dtX5_init_0 72 rfl) (by decide) (fun hc => ?_) (fun hc => ?_)
                                                                                  · exact absurd hc (by decide)
                                                                                  · skip
                                                                                    refine lv_aload_n hx hb (kd dtX5_init_0 73 rfl) rfl (lv_at hl 1 rfl) ?_
                                                                                    obtain ⟨v130, hv130, hf⟩ := kbind hf
                                                                                    refine kgetP hv130 F hX hinX5 rfl rfl rfl (by decide) (by decide) wfX5_11 (kd dtX5_init_0 74 rfl) ?_
                                                                                    refine lv_iload_n hx hb (kd dtX5_init_0 75 rfl) rfl (lv_at hl 0 rfl) ?_
                                                                                    obtain ⟨w131, hw131, hf⟩ := kbind hf
                                                                                    refine knewo (k := 1) hw131 F hX hinX1 tyX1_ok (by decide +kernel) rfl rfl (by decide) wkX5_9 wnX1 wiX1 (Nat.le_of_ble_eq_true rfl) (Nat.le_of_ble_eq_true rfl) (kd dtX5_init_0 76 rfl) (fun H hX => ?_)
                                                                                    refine lv_dup hx hb (kd dtX5_init_0 77 rfl) rfl ?_
                                                                                    refine lv_iload_n hx hb (kd dtX5_init_0 78 rfl) rfl (lv_at hl 0 rfl) ?_
                                                                                    refine lv_if_ne (tgt := 153) hx hb (kd dtX5_init_0 79 rfl) (by decide) (fun hc => ?_) (fun hc => ?_)
                                                                                    · skip
                                                                                      refine lv_bipush (v := (20 : Int32)) hx hb (kd dtX5_init_1 2 rfl) (by decide) ?_
                                                                                      obtain ⟨w132, h133, hf⟩ := kbind hf
                                                                                      refine kcallI (n := 1) [.int (20 : Int32)] [.ref (kSz w129), .int (20 : Int32), va_rf v130] [.ref (kSz w129), .int (20 : Int32), va_rf v130] (rX1_init l D aC h133) F hml hX hZ hl.1 mwX1_init wmX5_34 rfl (by decide +kernel) ⟨(by decide), (by decide)⟩ rfl rfl rfl (by simp [kcat_rf, kcat_i, kcat_r, kcat_l]) (kd dtX5_init_1 3 rfl) ⟨Nat.le_of_ble_eq_true rfl, Nat.le_of_ble_eq_true rfl⟩ (fun H locs hX => ?_)
                                                                                      obtain ⟨w134, hw134, hf⟩ := kbind hf
                                                                                      refine kqst16 hw134 F hX (kd dtX5_init_1 4 rfl) (fun H locs hX => ?_)
                                                                                      refine lv_iinc (v := (21 : Int32)) (lv' := [(1, .int (21 : Int32)), (0, .ref x0)]) hx hb (kd dtX5_init_1 5 rfl) hl (k := 0) rfl (by decide) (by decide) rfl (fun ls hl => ?_)
                                                                                      refine lv_goto (tgt := 129) hx hb (kd dtX5_init_1 6 rfl) (by decide) ?_
                                                                                      refine lv_iload_n hx hb (kd dtX5_init_0 70 rfl) rfl (lv_at hl 0 rfl) ?_
                                                                                      refine lv_bipush (v := (24 : Int32)) hx hb (kd dtX5_init_0 71 rfl) (by decide) ?_
                                                                                      refine lv_icmp_ge (tgt := 165) hx hb (kd dtX5_init_0 72 rfl) (by decide) (fun hc => ?_) (fun hc => ?_)
                                                                                      · exact absurd hc (by decide)
                                                                                      · skip
                                                                                        refine lv_aload_n hx hb (kd dtX5_init_0 73 rfl) rfl (lv_at hl 1 rfl) ?_
                                                                                        obtain ⟨v135, hv135, hf⟩ := kbind hf
                                                                                        refine kgetP hv135 F hX hinX5 rfl rfl rfl (by decide) (by decide) wfX5_11 (kd dtX5_init_0 74 rfl) ?_
                                                                                        refine lv_iload_n hx hb (kd dtX5_init_0 75 rfl) rfl (lv_at hl 0 rfl) ?_
                                                                                        obtain ⟨w136, hw136, hf⟩ := kbind hf
                                                                                        refine knewo (k := 1) hw136 F hX hinX1 tyX1_ok (by decide +kernel) rfl rfl (by decide) wkX5_9 wnX1 wiX1 (Nat.le_of_ble_eq_true rfl) (Nat.le_of_ble_eq_true rfl) (kd dtX5_init_0 76 rfl) (fun H hX => ?_)
                                                                                        refine lv_dup hx hb (kd dtX5_init_0 77 rfl) rfl ?_
                                                                                        refine lv_iload_n hx hb (kd dtX5_init_0 78 rfl) rfl (lv_at hl 0 rfl) ?_
                                                                                        refine lv_if_ne (tgt := 153) hx hb (kd dtX5_init_0 79 rfl) (by decide) (fun hc => ?_) (fun hc => ?_)
                                                                                        · skip
                                                                                          refine lv_bipush (v := (20 : Int32)) hx hb (kd dtX5_init_1 2 rfl) (by decide) ?_
                                                                                          obtain ⟨w137, h138, hf⟩ := kbind hf
                                                                                          refine kcallI (n := 1) [.int (20 : Int32)] [.ref (kSz w134), .int (21 : Int32), va_rf v135] [.ref (kSz w134), .int (21 : Int32), va_rf v135] (rX1_init l D aC h138) F hml hX hZ hl.1 mwX1_init wmX5_34 rfl (by decide +kernel) ⟨(by decide), (by decide)⟩ rfl rfl rfl (by simp [kcat_rf, kcat_i, kcat_r, kcat_l]) (kd dtX5_init_1 3 rfl) ⟨Nat.le_of_ble_eq_true rfl, Nat.le_of_ble_eq_true rfl⟩ (fun H locs hX => ?_)
                                                                                          obtain ⟨w139, hw139, hf⟩ := kbind hf
                                                                                          refine kqst16 hw139 F hX (kd dtX5_init_1 4 rfl) (fun H locs hX => ?_)
                                                                                          refine lv_iinc (v := (22 : Int32)) (lv' := [(1, .int (22 : Int32)), (0, .ref x0)]) hx hb (kd dtX5_init_1 5 rfl) hl (k := 0) rfl (by decide) (by decide) rfl (fun ls hl => ?_)
                                                                                          refine lv_goto (tgt := 129) hx hb (kd dtX5_init_1 6 rfl) (by decide) ?_
                                                                                          refine lv_iload_n hx hb (kd dtX5_init_0 70 rfl) rfl (lv_at hl 0 rfl) ?_
                                                                                          refine lv_bipush (v := (24 : Int32)) hx hb (kd dtX5_init_0 71 rfl) (by decide) ?_
                                                                                          refine lv_icmp_ge (tgt := 165) hx hb (kd dtX5_init_0 72 rfl) (by decide) (fun hc => ?_) (fun hc => ?_)
                                                                                          · exact absurd hc (by decide)
                                                                                          · skip
                                                                                            refine lv_aload_n hx hb (kd dtX5_init_0 73 rfl) rfl (lv_at hl 1 rfl) ?_
                                                                                            obtain ⟨v140, hv140, hf⟩ := kbind hf
                                                                                            refine kgetP hv140 F hX hinX5 rfl rfl rfl (by decide) (by decide) wfX5_11 (kd dtX5_init_0 74 rfl) ?_
                                                                                            refine lv_iload_n hx hb (kd dtX5_init_0 75 rfl) rfl (lv_at hl 0 rfl) ?_
                                                                                            obtain ⟨w141, hw141, hf⟩ := kbind hf
                                                                                            refine knewo (k := 1) hw141 F hX hinX1 tyX1_ok (by decide +kernel) rfl rfl (by decide) wkX5_9 wnX1 wiX1 (Nat.le_of_ble_eq_true rfl) (Nat.le_of_ble_eq_true rfl) (kd dtX5_init_0 76 rfl) (fun H hX => ?_)
                                                                                            refine lv_dup hx hb (kd dtX5_init_0 77 rfl) rfl ?_
                                                                                            refine lv_iload_n hx hb (kd dtX5_init_0 78 rfl) rfl (lv_at hl 0 rfl) ?_
                                                                                            refine lv_if_ne (tgt := 153) hx hb (kd dtX5_init_0 79 rfl) (by decide) (fun hc => ?_) (fun hc => ?_)
                                                                                            · skip
                                                                                              refine lv_bipush (v := (20 : Int32)) hx hb (kd dtX5_init_1 2 rfl) (by decide) ?_
                                                                                              obtain ⟨w142, h143, hf⟩ := kbind hf
                                                                                              refine kcallI (n := 1) [.int (20 : Int32)] [.ref (kSz w139), .int (22 : Int32), va_rf v140] [.ref (kSz w139), .int (22 : Int32), va_rf v140] (rX1_init l D aC h143) F hml hX hZ hl.1 mwX1_init wmX5_34 rfl (by decide +kernel) ⟨(by decide), (by decide)⟩ rfl rfl rfl (by simp [kcat_rf, kcat_i, kcat_r, kcat_l]) (kd dtX5_init_1 3 rfl) ⟨Nat.le_of_ble_eq_true rfl, Nat.le_of_ble_eq_true rfl⟩ (fun H locs hX => ?_)
                                                                                              obtain ⟨w144, hw144, hf⟩ := kbind hf
                                                                                              refine kqst16 hw144 F hX (kd dtX5_init_1 4 rfl) (fun H locs hX => ?_)
                                                                                              refine lv_iinc (v := (23 : Int32)) (lv' := [(1, .int (23 : Int32)), (0, .ref x0)]) hx hb (kd dtX5_init_1 5 rfl) hl (k := 0) rfl (by decide) (by decide) rfl (fun ls hl => ?_)
                                                                                              refine lv_goto (tgt := 129) hx hb (kd dtX5_init_1 6 rfl) (by decide) ?_
                                                                                              refine lv_iload_n hx hb (kd dtX5_init_0 70 rfl) rfl (lv_at hl 0 rfl) ?_
                                                                                              refine lv_bipush (v := (24 : Int32)) hx hb (kd dtX5_init_0 71 rfl) (by decide) ?_
                                                                                              refine lv_icmp_ge (tgt := 165) hx hb (kd dtX5_init_0 72 rfl) (by decide) (fun hc => ?_) (fun hc => ?_)
                                                                                              · exact absurd hc (by decide)
                                                                                              · skip
                                                                                                refine lv_aload_n hx hb (kd dtX5_init_0 73 rfl) rfl (lv_at hl 1 rfl) ?_
                                                                                                obtain ⟨v145, hv145, hf⟩ := kbind hf
                                                                                                refine kgetP hv145 F hX hinX5 rfl rfl rfl (by decide) (by decide) wfX5_11 (kd dtX5_init_0 74 rfl) ?_
                                                                                                refine lv_iload_n hx hb (kd dtX5_init_0 75 rfl) rfl (lv_at hl 0 rfl) ?_
                                                                                                obtain ⟨w146, hw146, hf⟩ := kbind hf
                                                                                                refine knewo (k := 1) hw146 F hX hinX1 tyX1_ok (by decide +kernel) rfl rfl (by decide) wkX5_9 wnX1 wiX1 (Nat.le_of_ble_eq_true rfl) (Nat.le_of_ble_eq_true rfl) (kd dtX5_init_0 76 rfl) (fun H hX => ?_)
                                                                                                refine lv_dup hx hb (kd dtX5_init_0 77 rfl) rfl ?_
                                                                                                refine lv_iload_n hx hb (kd dtX5_init_0 78 rfl) rfl (lv_at hl 0 rfl) ?_
                                                                                                refine lv_if_ne (tgt := 153) hx hb (kd dtX5_init_0 79 rfl) (by decide) (fun hc => ?_) (fun hc => ?_)
                                                                                                · skip
                                                                                                  refine lv_bipush (v := (20 : Int32)) hx hb (kd dtX5_init_1 2 rfl) (by decide) ?_
                                                                                                  obtain ⟨w147, h148, hf⟩ := kbind hf
                                                                                                  refine kcallI (n := 1) [.int (20 : Int32)] [.ref (kSz w144), .int (23 : Int32), va_rf v145] [.ref (kSz w144), .int (23 : Int32), va_rf v145] (rX1_init l D aC h148) F hml hX hZ hl.1 mwX1_init wmX5_34 rfl (by decide +kernel) ⟨(by decide), (by decide)⟩ rfl rfl rfl (by simp [kcat_rf, kcat_i, kcat_r, kcat_l]) (kd dtX5_init_1 3 rfl) ⟨Nat.le_of_ble_eq_true rfl, Nat.le_of_ble_eq_true rfl⟩ (fun H locs hX => ?_)
                                                                                                  obtain ⟨w149, hw149, hf⟩ := kbind hf
                                                                                                  refine kqst16 hw149 F hX (kd dtX5_init_1 4 rfl) (fun H locs hX => ?_)
                                                                                                  refine lv_iinc (v := (24 : Int32)) (lv' := [(1, .int (24 : Int32)), (0, .ref x0)]) hx hb (kd dtX5_init_1 5 rfl) hl (k := 0) rfl (by decide) (by decide) rfl (fun ls hl => ?_)
                                                                                                  refine lv_goto (tgt := 129) hx hb (kd dtX5_init_1 6 rfl) (by decide) ?_
                                                                                                  refine lv_iload_n hx hb (kd dtX5_init_0 70 rfl) rfl (lv_at hl 0 rfl) ?_
                                                                                                  refine lv_bipush (v := (24 : Int32)) hx hb (kd dtX5_init_0 71 rfl) (by decide) ?_
                                                                                                  refine lv_icmp_ge (tgt := 165) hx hb (kd dtX5_init_0 72 rfl) (by decide) (fun hc => ?_) (fun hc => ?_)
                                                                                                  · skip
                                                                                                    obtain rfl := Option.some.inj hf
                                                                                                    refine W.widen (k := 156) (n := 25336) (Nat.le_of_ble_eq_true rfl) (Nat.le_of_ble_eq_true rfl) ?_
                                                                                                    exact kvret F hX hr hlocks rfl (kd dtX5_init_1 7 rfl)
                                                                                                  · exact absurd hc (by decide)
                                                                                                · exact absurd hc (by decide)
                                                                                            · exact absurd hc (by decide)
                                                                                        · exact absurd hc (by decide)
                                                                                    · exact absurd hc (by decide)
                                                                                · exact absurd hc (by decide)
                                                                            · exact absurd hc (by decide)
                                                                        · exact absurd hc (by decide)
                                                                    · exact absurd hc (by decide)
                                                                · exact absurd hc (by decide)
                                                            · exact absurd hc (by decide)
                                                        · exact absurd hc (by decide)
                                                    · exact absurd hc (by decide)
                                                · exact absurd hc (by decide)
                                            · exact absurd hc (by decide)
                                        · exact absurd hc (by decide)
                                    · exact absurd hc (by decide)
                                · exact absurd hc (by decide)
                            · exact absurd hc (by decide)
                        · exact absurd hc (by decide)
                    · exact absurd hc (by decide)
                · exact absurd hc (by decide)
            · exact absurd hc (by decide)
        · exact absurd hc (by decide)
def lX5_learn_0 : List (Nat × Instr × Nat) := [(0, .aload_n 2, 1), (1, .ifnull 42, 3), (4, .aload_n 0, 1), (5, .getfield 45, 3), (8, .bipush 40, 2), (10, .if_icmp .ge 33, 3), (13, .aload_n 0, 1), (14, .getfield 21, 3), (17, .aload_n 0, 1), (18, .getfield 45, 3), (21, .aload_n 2, 1), (22, .aastore, 1), (23, .aload_n 0, 1), (24, .getfield 24, 3), (27, .aload_n 0, 1), (28, .getfield 45, 3), (31, .iload_n 1, 1), (32, .iastore, 1), (33, .aload_n 0, 1), (34, .dup, 1), (35, .getfield 45, 3), (38, .iconst 1, 1), (39, .iadd, 1), (40, .putfield 45, 3), (43, .return_, 1)]
theorem dtX5_learn_0 : kDec cX5_learn lX5_learn_0 = true := by decide +kernel
noncomputable def fX5_learn (x0 : Nat) (x1 : Int32) (x2 : Option Nat) (w : kW) : Option kW :=
  if x2 = none then
  some w
  else
  (kgI w 5 (some x0) 7).bind fun v1 =>
  if (40 : Int32) ≤ v1 then
  some w
  else
  (kgP w 5 (some x0) 2).bind fun v2 =>
  (kgI w 5 (some x0) 7).bind fun v3 =>
  (ksP w 16 v2 v3 x2).bind fun w4 =>
  (kgP w4 5 (some x0) 3).bind fun v5 =>
  (kgI w4 5 (some x0) 7).bind fun v6 =>
  (ksI w4 14 v5 v6 x1).bind fun w7 =>
  (kgI w7 5 (some x0) 7).bind fun v8 =>
  (kpI w7 5 (some x0) 7 (v8 + (1 : Int32))).bind fun w9 =>
  some w9

set_option maxHeartbeats 4000000 in
set_option maxRecDepth 100000 in
theorem rX5_learn (l : Launch) (D : va_G) (aC : Nat → ClassId) {x0 : Nat} {x1 : Int32} {x2 : Option Nat} {w : kW} {wR : kW} (h : fX5_learn x0 x1 x2 w = some wR) : kC l D aC yX5_learn cX5_learn 3 none 1 12 [.ref x0, .int x1, va_rf x2] w none wR 0 0 := by
  refine kOf (own := RX5) (by decide) rfl (by simp [lg_sl, kcat_rf, kcat_i, kcat_r, kcat_l]) ?_
  intro p e s m below meth c ls F hml hr hlocks hnm hX hZ hl
  obtain ⟨hx, hb, hts, hown, hK⟩ := id F
  have hl : lv_has ls 3 [(0, .ref x0), (1, .int x1), (2, va_rf x2)] := by simpa [lv_args, kcat_rf, kcat_i, kcat_r, kcat_l] using hl
  have hf := h
  rw [fX5_learn] at hf
  refine kaload_n hx hb (kd dtX5_learn_0 0 rfl) rfl (lv_at hl 2 rfl) ?_
  refine kifnull (tgt := 43) hx hb (kd dtX5_learn_0 1 rfl) (by decide) (fun hc => ?_) (fun hc => ?_)
  · have hf := kif_pos hc hf
    obtain rfl := Option.some.inj hf
    exact kvret F hX hr hlocks rfl (kd dtX5_learn_0 24 rfl)
  · have hf := kif_neg hc hf
    refine lv_aload_n hx hb (kd dtX5_learn_0 2 rfl) rfl (lv_at hl 0 rfl) ?_
    obtain ⟨v1, hv1, hf⟩ := kbind hf
    refine kgetI hv1 F hX hinX5 rfl rfl rfl (by decide) (by decide) wfX5_45 (kd dtX5_learn_0 3 rfl) ?_
    refine lv_bipush (v := (40 : Int32)) hx hb (kd dtX5_learn_0 4 rfl) (by decide) ?_
    refine lv_icmp_ge (tgt := 43) hx hb (kd dtX5_learn_0 5 rfl) (by decide) (fun hc => ?_) (fun hc => ?_)
    · have hf := kif_pos hc hf
      obtain rfl := Option.some.inj hf
      exact kvret F hX hr hlocks rfl (kd dtX5_learn_0 24 rfl)
    · have hf := kif_neg hc hf
      refine lv_aload_n hx hb (kd dtX5_learn_0 6 rfl) rfl (lv_at hl 0 rfl) ?_
      obtain ⟨v2, hv2, hf⟩ := kbind hf
      refine kgetP hv2 F hX hinX5 rfl rfl rfl (by decide) (by decide) wfX5_21 (kd dtX5_learn_0 7 rfl) ?_
      refine lv_aload_n hx hb (kd dtX5_learn_0 8 rfl) rfl (lv_at hl 0 rfl) ?_
      obtain ⟨v3, hv3, hf⟩ := kbind hf
      refine kgetI hv3 F hX hinX5 rfl rfl rfl (by decide) (by decide) wfX5_45 (kd dtX5_learn_0 9 rfl) ?_
      refine kaload_n hx hb (kd dtX5_learn_0 10 rfl) rfl (lv_at hl 2 rfl) ?_
      obtain ⟨w4, hw4, hf⟩ := kbind hf
      refine kqst16 hw4 F hX (kd dtX5_learn_0 11 rfl) (fun H locs hX => ?_)
      refine lv_aload_n hx hb (kd dtX5_learn_0 12 rfl) rfl (lv_at hl 0 rfl) ?_
      obtain ⟨v5, hv5, hf⟩ := kbind hf
      refine kgetP hv5 F hX hinX5 rfl rfl rfl (by decide) (by decide) wfX5_24 (kd dtX5_learn_0 13 rfl) ?_
      refine lv_aload_n hx hb (kd dtX5_learn_0 14 rfl) rfl (lv_at hl 0 rfl) ?_
      obtain ⟨v6, hv6, hf⟩ := kbind hf
      refine kgetI hv6 F hX hinX5 rfl rfl rfl (by decide) (by decide) wfX5_45 (kd dtX5_learn_0 15 rfl) ?_
      refine lv_iload_n hx hb (kd dtX5_learn_0 16 rfl) rfl (lv_at hl 1 rfl) ?_
      obtain ⟨w7, hw7, hf⟩ := kbind hf
      refine kast hw7 F hX (kd dtX5_learn_0 17 rfl) (fun H locs hX => ?_)
      refine lv_aload_n hx hb (kd dtX5_learn_0 18 rfl) rfl (lv_at hl 0 rfl) ?_
      refine lv_dup hx hb (kd dtX5_learn_0 19 rfl) rfl ?_
      obtain ⟨v8, hv8, hf⟩ := kbind hf
      refine kgetI hv8 F hX hinX5 rfl rfl rfl (by decide) (by decide) wfX5_45 (kd dtX5_learn_0 20 rfl) ?_
      refine lv_iconst (v := (1 : Int32)) hx hb (kd dtX5_learn_0 21 rfl) (by decide) ?_
      refine lv_iadd hx hb (kd dtX5_learn_0 22 rfl) ?_
      obtain ⟨w9, hw9, hf⟩ := kbind hf
      refine kputI hw9 F hX hinX5 tyX5_ok nmX5 rfl rfl rfl (by decide) (by decide) wfX5_45 rfl rfl (Or.inl rfl) (kd dtX5_learn_0 23 rfl) (fun H locs hX => ?_)
      obtain rfl := Option.some.inj hf
      exact kvret F hX hr hlocks rfl (kd dtX5_learn_0 24 rfl)
theorem wfX5_82 : Cond.fieldLinkNest RX5 82 (TX8 8).1 (TX8 8).2.1 (TX8 8).2.2.1 "KitchenCards" ∈ kNs := kNm 146 (by decide +kernel) rfl
theorem wmX5_85 : Cond.methodLink RX5 85 yX8_knownAt ∈ kT := kTm 857 (by decide +kernel) rfl
theorem wmX5_89 : Cond.methodLink RX5 89 yX8_lineAt ∈ kT := kTm 858 (by decide +kernel) rfl
theorem wmX5_93 : Cond.methodLink RX5 93 yX5_learn ∈ kT := kTm 859 (by decide +kernel) rfl
theorem mwX5_learn : kMV RX5 yX5_learn cX5_learn 3 none := ⟨kTm 862 (by decide +kernel) rfl, kTm 103 (by decide +kernel) rfl, kTm 860 (by decide +kernel) rfl, kTm 861 (by decide +kernel) rfl⟩
def lX5_learnAll_0 : List (Nat × Instr × Nat) := [(0, .aload_n 0, 1), (1, .iconst 0, 1), (2, .putfield 45, 3), (5, .iconst 0, 1), (6, .istore_n 2, 1), (7, .iload_n 2, 1), (8, .aload_n 1, 1), (9, .getfield 82, 3), (12, .if_icmp .ge 25, 3), (15, .aload_n 1, 1), (16, .iload_n 2, 1), (17, .invokevirtual 85, 3), (20, .istore_n 3, 1), (21, .aload_n 0, 1), (22, .iload_n 3, 1), (23, .aload_n 1, 1), (24, .iload_n 3, 1), (25, .invokevirtual 89, 3), (28, .invokevirtual 93, 3), (31, .iinc 2 1, 3), (34, .goto (-27), 3), (37, .return_, 1)]
theorem dtX5_learnAll_0 : kDec cX5_learnAll lX5_learnAll_0 = true := by decide +kernel
noncomputable def fX5_learnAll_L7 (x0 : Nat) (x1 : Option Nat) : Nat → (Int32 → kW → Option kW) → Int32 → kW → Option kW
  | 0, _, _, _ => none
  | n + 1, k, x2, w =>
  (kgI w 8 x1 8).bind fun v1 =>
  if v1 ≤ x2 then
  k x2 w
  else
  (kRc w 8 x1).bind fun b2 =>
  (fX8_knownAt b2 x2 w).bind fun v4 =>
  (kRc w 8 x1).bind fun b5 =>
  (fX8_lineAt b5 v4 w).bind fun v7 =>
  (kRc w 5 (some x0)).bind fun b8 =>
  (fX5_learn b8 v4 v7 w).bind fun w9 =>
  fX5_learnAll_L7 x0 x1 n k (x2 + (1 : Int32)) w9

noncomputable def fX5_learnAll (x0 : Nat) (x1 : Option Nat) (w : kW) : Option kW :=
  (kpI w 5 (some x0) 7 (0 : Int32)).bind fun w1 =>
  fX5_learnAll_L7 x0 x1 kFU (fun y2_2 w3 => some w3) (0 : Int32) w1

set_option maxHeartbeats 4000000 in
set_option maxRecDepth 100000 in
theorem rX5_learnAll (l : Launch) (D : va_G) (aC : Nat → ClassId) {x0 : Nat} {x1 : Option Nat} {w : kW} {wR : kW} (h : fX5_learnAll x0 x1 w = some wR) : kC l D aC yX5_learnAll cX5_learnAll 4 none 2 34 [.ref x0, va_rf x1] w none wR 0 0 := by
  refine kOf (own := RX5) (by decide) rfl (by simp [lg_sl, kcat_rf, kcat_i, kcat_r, kcat_l]) ?_
  intro p e s m below meth c ls F hml hr hlocks hnm hX hZ hl
  obtain ⟨hx, hb, hts, hown, hK⟩ := id F
  have hl : lv_has ls 4 [(0, .ref x0), (1, va_rf x1)] := by simpa [lv_args, kcat_rf, kcat_i, kcat_r, kcat_l] using hl
  have hf := h
  rw [fX5_learnAll] at hf
  refine lv_aload_n hx hb (kd dtX5_learnAll_0 0 rfl) rfl (lv_at hl 0 rfl) ?_
  refine lv_iconst (v := (0 : Int32)) hx hb (kd dtX5_learnAll_0 1 rfl) (by decide) ?_
  obtain ⟨w1, hw1, hf⟩ := kbind hf
  refine kputI hw1 F hX hinX5 tyX5_ok nmX5 rfl rfl rfl (by decide) (by decide) wfX5_45 rfl rfl (Or.inl rfl) (kd dtX5_learnAll_0 2 rfl) (fun H locs hX => ?_)
  refine lv_iconst (v := (0 : Int32)) hx hb (kd dtX5_learnAll_0 3 rfl) (by decide) ?_
  refine lv_istore_n (i := 2) (lv' := [(2, .int (0 : Int32)), (0, .ref x0), (1, va_rf x1)]) hx hb (kd dtX5_learnAll_0 4 rfl) rfl hl (by decide) (by simp [kcat_rf, kcat_i, kcat_r, kcat_l]) (fun ls hl => ?_)
  have hL7 : ∀ (n : Nat) (k : Int32 → kW → Option kW), ∀ (z2_7 : Int32) (w_7 : kW) (H : Heap) (locs : List Loc) (ls : Array Slot), kX D aC w s.heap w_7 H locs → lv_has ls 4 [(0, .ref x0), (1, va_rf x1), (2, .int z2_7)] → fX5_learnAll_L7 x0 x1 n k z2_7 w_7 = some wR → (∀ (z2_7 : Int32) (w_7 : kW) (H : Heap) (locs : List Loc) (ls : Array Slot), kX D aC w s.heap w_7 H locs → lv_has ls 4 [(0, .ref x0), (1, va_rf x1), (2, .int z2_7)] → k z2_7 w_7 = some wR → W p l e { frames := 2, cells := 0, slots := 0, locals := 34 } s m ([.ref x0, va_rf x1] : List Value).toArray below meth c H locs 0 0 (MQ below (kQc D aC w none wR) ([.ref x0, va_rf x1] : List Value).toArray s 0 0 (kA w)) (F0 m 37 ls [])) → W p l e { frames := 2, cells := 0, slots := 0, locals := 34 } s m ([.ref x0, va_rf x1] : List Value).toArray below meth c H locs 0 0 (MQ below (kQc D aC w none wR) ([.ref x0, va_rf x1] : List Value).toArray s 0 0 (kA w)) (F0 m 7 ls []) := by
    intro n k
    induction n with
    | zero =>
      intro z2_7 w_7 H locs ls hX hl hf hk
      rw [fX5_learnAll_L7] at hf
      cases hf
    | succ n ih =>
      intro z2_7 w_7 H locs ls hX hl hf hk
      rw [fX5_learnAll_L7] at hf
      refine lv_iload_n hx hb (kd dtX5_learnAll_0 5 rfl) rfl (lv_at hl 2 rfl) ?_
      refine kaload_n hx hb (kd dtX5_learnAll_0 6 rfl) rfl (lv_at hl 1 rfl) ?_
      obtain ⟨v4, hv4, hf⟩ := kbind hf
      refine kgetIN hv4 F hX hinX8 rfl rfl rfl (by decide) (by decide) hZ wfX5_82 (kd dtX5_learnAll_0 7 rfl) ?_
      refine lv_icmp_ge (tgt := 37) hx hb (kd dtX5_learnAll_0 8 rfl) (by decide) (fun hc => ?_) (fun hc => ?_)
      · have hf := kif_pos hc hf
        exact hk z2_7 w_7 _ _ _ hX hl hf
      · have hf := kif_neg hc hf
        refine kaload_n hx hb (kd dtX5_learnAll_0 9 rfl) rfl (lv_at hl 1 rfl) ?_
        refine lv_iload_n hx hb (kd dtX5_learnAll_0 10 rfl) rfl (lv_at hl 2 rfl) ?_
        obtain ⟨b5, hb5, hf⟩ := kbind hf
        obtain ⟨hrb5, hkb5⟩ := kRc_s hb5
        obtain ⟨v7, h6, hf⟩ := kbind hf
        refine kcallV (n := 1) [.int z2_7] [] [.int v7] (rX8_knownAt l D aC h6) hrb5 hkb5 F hml hX hZ hl.1 mwX8_knownAt wmX5_85 rfl (by decide) (by decide +kernel) ⟨(by decide), (by decide)⟩ rfl rfl rfl (Nat.le_of_ble_eq_true rfl) (kd dtX5_learnAll_0 11 rfl) ⟨Nat.zero_le _, Nat.zero_le _⟩ (fun H locs hX => ?_)
        refine lv_istore_n (lv' := [(3, .int v7), (0, .ref x0), (1, va_rf x1), (2, .int z2_7)]) hx hb (kd dtX5_learnAll_0 12 rfl) rfl hl (by decide) rfl (fun ls hl => ?_)
        refine lv_aload_n hx hb (kd dtX5_learnAll_0 13 rfl) rfl (lv_at hl 1 rfl) ?_
        refine lv_iload_n hx hb (kd dtX5_learnAll_0 14 rfl) rfl (lv_at hl 0 rfl) ?_
        refine kaload_n hx hb (kd dtX5_learnAll_0 15 rfl) rfl (lv_at hl 2 rfl) ?_
        refine lv_iload_n hx hb (kd dtX5_learnAll_0 16 rfl) rfl (lv_at hl 0 rfl) ?_
        obtain ⟨b8, hb8, hf⟩ := kbind hf
        obtain ⟨hrb8, hkb8⟩ := kRc_s hb8
        obtain ⟨v10, h9, hf⟩ := kbind hf
        refine kcallV (n := 1) [.int v7] [.int v7, .ref x0] [va_rf v10, .int v7, .ref x0] (rX8_lineAt l D aC h9) hrb8 hkb8 F hml hX hZ hl.1 mwX8_lineAt wmX5_89 rfl (by decide) (by decide +kernel) ⟨(by decide), (by decide)⟩ rfl rfl rfl (Nat.le_of_ble_eq_true rfl) (kd dtX5_learnAll_0 17 rfl) ⟨Nat.zero_le _, Nat.zero_le _⟩ (fun H locs hX => ?_)
        obtain ⟨b11, hb11, hf⟩ := kbind hf
        obtain ⟨hrb11, hkb11⟩ := kRc_s hb11
        obtain ⟨w12, h13, hf⟩ := kbind hf
        refine kcallV (n := 2) [.int v7, va_rf v10] [] [] (rX5_learn l D aC h13) hrb11 hkb11 F hml hX hZ hl.1 mwX5_learn wmX5_93 rfl (by decide) (by decide +kernel) ⟨(by decide), (by decide)⟩ rfl rfl rfl (Nat.le_of_ble_eq_true rfl) (kd dtX5_learnAll_0 18 rfl) ⟨Nat.zero_le _, Nat.zero_le _⟩ (fun H locs hX => ?_)
        refine lv_iinc (v := z2_7 + (1 : Int32)) (lv' := [(2, .int (z2_7 + (1 : Int32))), (3, .int v7), (0, .ref x0), (1, va_rf x1)]) hx hb (kd dtX5_learnAll_0 19 rfl) hl (k := 3) rfl (by rfl) (by decide) (by simp [kcat_rf, kcat_i, kcat_r, kcat_l]) (fun ls hl => ?_)
        refine lv_goto (tgt := 7) hx hb (kd dtX5_learnAll_0 20 rfl) (by decide) ?_
        exact ih (z2_7 + (1 : Int32)) w12 _ _ _ hX (lv_sub hl [2, 3, 0] rfl) hf hk
  refine hL7 kFU _ (0 : Int32) w1 _ _ _ hX (lv_sub hl [1, 2, 0] rfl) hf ?_
  intro y2_2 w3 H locs ls hX hl hf
  obtain rfl := Option.some.inj hf
  exact kvret F hX hr hlocks rfl (kd dtX5_learnAll_0 21 rfl)
def lX5_setSlips_0 : List (Nat × Instr × Nat) := [(0, .aload_n 0, 1), (1, .iload_n 1, 1), (2, .putfield 70, 3), (5, .aload_n 0, 1), (6, .iload_n 2, 1), (7, .putfield 73, 3), (10, .return_, 1)]
theorem dtX5_setSlips_0 : kDec cX5_setSlips lX5_setSlips_0 = true := by decide +kernel
noncomputable def fX5_setSlips (x0 : Nat) (x1 : Int32) (x2 : Int32) (w : kW) : Option kW :=
  (kpI w 5 (some x0) 15 x1).bind fun w1 =>
  (kpI w1 5 (some x0) 16 x2).bind fun w2 =>
  some w2

set_option maxHeartbeats 4000000 in
set_option maxRecDepth 100000 in
theorem rX5_setSlips (l : Launch) (D : va_G) (aC : Nat → ClassId) {x0 : Nat} {x1 : Int32} {x2 : Int32} {w : kW} {wR : kW} (h : fX5_setSlips x0 x1 x2 w = some wR) : kC l D aC yX5_setSlips cX5_setSlips 3 none 1 12 [.ref x0, .int x1, .int x2] w none wR 0 0 := by
  refine kOf (own := RX5) (by decide) rfl (Nat.le_of_ble_eq_true rfl) ?_
  intro p e s m below meth c ls F hml hr hlocks hnm hX hZ hl
  obtain ⟨hx, hb, hts, hown, hK⟩ := id F
  have hl : lv_has ls 3 [(0, .ref x0), (1, .int x1), (2, .int x2)] := hl
  have hf := h
  rw [fX5_setSlips] at hf
  refine lv_aload_n hx hb (kd dtX5_setSlips_0 0 rfl) rfl (lv_at hl 0 rfl) ?_
  refine lv_iload_n hx hb (kd dtX5_setSlips_0 1 rfl) rfl (lv_at hl 1 rfl) ?_
  obtain ⟨w1, hw1, hf⟩ := kbind hf
  refine kputI hw1 F hX hinX5 tyX5_ok nmX5 rfl rfl rfl (by decide) (by decide) wfX5_70 rfl rfl (Or.inl rfl) (kd dtX5_setSlips_0 2 rfl) (fun H locs hX => ?_)
  refine lv_aload_n hx hb (kd dtX5_setSlips_0 3 rfl) rfl (lv_at hl 0 rfl) ?_
  refine lv_iload_n hx hb (kd dtX5_setSlips_0 4 rfl) rfl (lv_at hl 2 rfl) ?_
  obtain ⟨w2, hw2, hf⟩ := kbind hf
  refine kputI hw2 F hX hinX5 tyX5_ok nmX5 rfl rfl rfl (by decide) (by decide) wfX5_73 rfl rfl (Or.inl rfl) (kd dtX5_setSlips_0 5 rfl) (fun H locs hX => ?_)
  obtain rfl := Option.some.inj hf
  exact kvret F hX hr hlocks rfl (kd dtX5_setSlips_0 6 rfl)
theorem wfX5_132 : Cond.fieldLinkNest RX5 132 (TX3 2).1 (TX3 2).2.1 (TX3 2).2.2.1 "KitchenCards" ∈ kNs := kNm 396 (by decide +kernel) rfl
theorem wfX5_133 : Cond.fieldLinkNest RX5 133 (TX3 4).1 (TX3 4).2.1 (TX3 4).2.2.1 "KitchenCards" ∈ kNs := kNm 401 (by decide +kernel) rfl
theorem wmX5_134 : Cond.methodLink RX5 134 yX1_become ∈ kT := kTm 875 (by decide +kernel) rfl
def lX5_begin_0 : List (Nat × Instr × Nat) := [(0, .aload_n 0, 1), (1, .aload_n 1, 1), (2, .getfield 132, 3), (5, .putfield 48, 3), (8, .aload_n 0, 1), (9, .aload_n 1, 1), (10, .getfield 133, 3), (13, .putfield 52, 3), (16, .aload_n 0, 1), (17, .iconst 0, 1), (18, .putfield 55, 3), (21, .aload_n 0, 1), (22, .iconst 0, 1), (23, .putfield 58, 3), (26, .aload_n 0, 1), (27, .iconst 0, 1), (28, .putfield 61, 3), (31, .aload_n 0, 1), (32, .iconst 0, 1), (33, .putfield 76, 3), (36, .aload_n 0, 1), (37, .iconst 0, 1), (38, .putfield 79, 3), (41, .aload_n 0, 1), (42, .getfield 11, 3), (45, .iconst 0, 1), (46, .aaload, 1), (47, .aload_n 2, 1), (48, .iconst 0, 1), (49, .invokevirtual 134, 3), (52, .aload_n 0, 1), (53, .getfield 17, 3), (56, .iconst 0, 1), (57, .iconst 0, 1), (58, .iastore, 1), (59, .aload_n 0, 1), (60, .iconst 1, 1), (61, .putfield 41, 3), (64, .return_, 1)]
theorem dtX5_begin_0 : kDec cX5_begin lX5_begin_0 = true := by decide +kernel
noncomputable def fX5_begin (x0 : Nat) (x1 : Option Nat) (x2 : Option Nat) (w : kW) : Option kW :=
  (kgI w 3 x1 2).bind fun v1 =>
  (kBl v1).bind fun v3 =>
  (kpI w 5 (some x0) 8 v1).bind fun w2 =>
  (kgI w2 3 x1 4).bind fun v4 =>
  (kpI w2 5 (some x0) 9 v4).bind fun w5 =>
  (kpI w5 5 (some x0) 10 (0 : Int32)).bind fun w6 =>
  (kpI w6 5 (some x0) 11 (0 : Int32)).bind fun w7 =>
  (kpI w7 5 (some x0) 12 (0 : Int32)).bind fun w8 =>
  (kpI w8 5 (some x0) 17 (0 : Int32)).bind fun w9 =>
  (kpI w9 5 (some x0) 18 (0 : Int32)).bind fun w10 =>
  (kgP w10 5 (some x0) 0).bind fun v11 =>
  (kaP w10 16 v11 (0 : Int32)).bind fun v12 =>
  (kRc w10 1 v12).bind fun b13 =>
  (fX1_become b13 x2 (0 : Int32) w10).bind fun w14 =>
  (kgP w14 5 (some x0) 1).bind fun v16 =>
  (ksI w14 14 v16 (0 : Int32) (0 : Int32)).bind fun w17 =>
  (kpI w17 5 (some x0) 6 (1 : Int32)).bind fun w18 =>
  some w18

set_option maxHeartbeats 4000000 in
set_option maxRecDepth 100000 in
theorem rX5_begin (l : Launch) (D : va_G) (aC : Nat → ClassId) {x0 : Nat} {x1 : Option Nat} {x2 : Option Nat} {w : kW} {wR : kW} (h : fX5_begin x0 x1 x2 w = some wR) : kC l D aC yX5_begin cX5_begin 3 none 4 85 [.ref x0, va_rf x1, va_rf x2] w none wR 0 0 := by
  refine kOf (own := RX5) (by decide) rfl (by simp [lg_sl, kcat_rf, kcat_i, kcat_r, kcat_l]) ?_
  intro p e s m below meth c ls F hml hr hlocks hnm hX hZ hl
  obtain ⟨hx, hb, hts, hown, hK⟩ := id F
  have hl : lv_has ls 3 [(0, .ref x0), (1, va_rf x1), (2, va_rf x2)] := by simpa [lv_args, kcat_rf, kcat_i, kcat_r, kcat_l] using hl
  have hf := h
  rw [fX5_begin] at hf
  refine lv_aload_n hx hb (kd dtX5_begin_0 0 rfl) rfl (lv_at hl 0 rfl) ?_
  refine kaload_n hx hb (kd dtX5_begin_0 1 rfl) rfl (lv_at hl 1 rfl) ?_
  obtain ⟨v1, hv1, hf⟩ := kbind hf
  refine kgetIN hv1 F hX hinX3 rfl rfl rfl (by decide) (by decide) hZ wfX5_132 (kd dtX5_begin_0 2 rfl) ?_
  obtain ⟨v3, hv3, hf⟩ := kbind hf
  obtain ⟨w2, hw2, hf⟩ := kbind hf
  refine kputI hw2 F hX hinX5 tyX5_ok nmX5 rfl rfl rfl (by decide) (by decide) wfX5_48 (kBl_n hv3) (kBl_f hv3) (Or.inl rfl) (kd dtX5_begin_0 3 rfl) (fun H locs hX => ?_)
  refine lv_aload_n hx hb (kd dtX5_begin_0 4 rfl) rfl (lv_at hl 0 rfl) ?_
  refine kaload_n hx hb (kd dtX5_begin_0 5 rfl) rfl (lv_at hl 1 rfl) ?_
  obtain ⟨v4, hv4, hf⟩ := kbind hf
  refine kgetIN hv4 F hX hinX3 rfl rfl rfl (by decide) (by decide) hZ wfX5_133 (kd dtX5_begin_0 6 rfl) ?_
  obtain ⟨w5, hw5, hf⟩ := kbind hf
  refine kputI hw5 F hX hinX5 tyX5_ok nmX5 rfl rfl rfl (by decide) (by decide) wfX5_52 rfl rfl (Or.inl rfl) (kd dtX5_begin_0 7 rfl) (fun H locs hX => ?_)
  refine lv_aload_n hx hb (kd dtX5_begin_0 8 rfl) rfl (lv_at hl 0 rfl) ?_
  refine lv_iconst (v := (0 : Int32)) hx hb (kd dtX5_begin_0 9 rfl) (by decide) ?_
  obtain ⟨w6, hw6, hf⟩ := kbind hf
  refine kputI hw6 F hX hinX5 tyX5_ok nmX5 rfl rfl rfl (by decide) (by decide) wfX5_55 rfl rfl (Or.inl rfl) (kd dtX5_begin_0 10 rfl) (fun H locs hX => ?_)
  refine lv_aload_n hx hb (kd dtX5_begin_0 11 rfl) rfl (lv_at hl 0 rfl) ?_
  refine lv_iconst (v := (0 : Int32)) hx hb (kd dtX5_begin_0 12 rfl) (by decide) ?_
  obtain ⟨w7, hw7, hf⟩ := kbind hf
  refine kputI hw7 F hX hinX5 tyX5_ok nmX5 rfl rfl rfl (by decide) (by decide) wfX5_58 rfl rfl (Or.inl rfl) (kd dtX5_begin_0 13 rfl) (fun H locs hX => ?_)
  refine lv_aload_n hx hb (kd dtX5_begin_0 14 rfl) rfl (lv_at hl 0 rfl) ?_
  refine lv_iconst (v := (0 : Int32)) hx hb (kd dtX5_begin_0 15 rfl) (by decide) ?_
  obtain ⟨w8, hw8, hf⟩ := kbind hf
  refine kputI hw8 F hX hinX5 tyX5_ok nmX5 rfl rfl rfl (by decide) (by decide) wfX5_61 rfl rfl (Or.inl rfl) (kd dtX5_begin_0 16 rfl) (fun H locs hX => ?_)
  refine lv_aload_n hx hb (kd dtX5_begin_0 17 rfl) rfl (lv_at hl 0 rfl) ?_
  refine lv_iconst (v := (0 : Int32)) hx hb (kd dtX5_begin_0 18 rfl) (by decide) ?_
  obtain ⟨w9, hw9, hf⟩ := kbind hf
  refine kputI hw9 F hX hinX5 tyX5_ok nmX5 rfl rfl rfl (by decide) (by decide) wfX5_76 rfl rfl (Or.inl rfl) (kd dtX5_begin_0 19 rfl) (fun H locs hX => ?_)
  refine lv_aload_n hx hb (kd dtX5_begin_0 20 rfl) rfl (lv_at hl 0 rfl) ?_
  refine lv_iconst (v := (0 : Int32)) hx hb (kd dtX5_begin_0 21 rfl) (by decide) ?_
  obtain ⟨w10, hw10, hf⟩ := kbind hf
  refine kputI hw10 F hX hinX5 tyX5_ok nmX5 rfl rfl rfl (by decide) (by decide) wfX5_79 rfl rfl (Or.inl rfl) (kd dtX5_begin_0 22 rfl) (fun H locs hX => ?_)
  refine lv_aload_n hx hb (kd dtX5_begin_0 23 rfl) rfl (lv_at hl 0 rfl) ?_
  obtain ⟨v11, hv11, hf⟩ := kbind hf
  refine kgetP hv11 F hX hinX5 rfl rfl rfl (by decide) (by decide) wfX5_11 (kd dtX5_begin_0 24 rfl) ?_
  refine lv_iconst (v := (0 : Int32)) hx hb (kd dtX5_begin_0 25 rfl) (by decide) ?_
  obtain ⟨v12, hv12, hf⟩ := kbind hf
  refine kqld16 hv12 F hX (kd dtX5_begin_0 26 rfl) ?_
  refine kaload_n hx hb (kd dtX5_begin_0 27 rfl) rfl (lv_at hl 2 rfl) ?_
  refine lv_iconst (v := (0 : Int32)) hx hb (kd dtX5_begin_0 28 rfl) (by decide) ?_
  obtain ⟨b13, hb13, hf⟩ := kbind hf
  obtain ⟨hrb13, hkb13⟩ := kRc_s hb13
  obtain ⟨w14, h15, hf⟩ := kbind hf
  refine kcallV (n := 2) [va_rf x2, .int (0 : Int32)] [] [] (rX1_become l D aC h15) hrb13 hkb13 F hml hX hZ hl.1 mwX1_become wmX5_134 rfl (by decide) (by decide +kernel) ⟨(by decide), (by decide)⟩ rfl rfl rfl (Nat.le_of_ble_eq_true rfl) (kd dtX5_begin_0 29 rfl) ⟨Nat.zero_le _, Nat.zero_le _⟩ (fun H locs hX => ?_)
  refine lv_aload_n hx hb (kd dtX5_begin_0 30 rfl) rfl (lv_at hl 0 rfl) ?_
  obtain ⟨v16, hv16, hf⟩ := kbind hf
  refine kgetP hv16 F hX hinX5 rfl rfl rfl (by decide) (by decide) wfX5_17 (kd dtX5_begin_0 31 rfl) ?_
  refine lv_iconst (v := (0 : Int32)) hx hb (kd dtX5_begin_0 32 rfl) (by decide) ?_
  refine lv_iconst (v := (0 : Int32)) hx hb (kd dtX5_begin_0 33 rfl) (by decide) ?_
  obtain ⟨w17, hw17, hf⟩ := kbind hf
  refine kast hw17 F hX (kd dtX5_begin_0 34 rfl) (fun H locs hX => ?_)
  refine lv_aload_n hx hb (kd dtX5_begin_0 35 rfl) rfl (lv_at hl 0 rfl) ?_
  refine lv_iconst (v := (1 : Int32)) hx hb (kd dtX5_begin_0 36 rfl) (by decide) ?_
  obtain ⟨w18, hw18, hf⟩ := kbind hf
  refine kputI hw18 F hX hinX5 tyX5_ok nmX5 rfl rfl rfl (by decide) (by decide) wfX5_41 rfl rfl (Or.inl rfl) (kd dtX5_begin_0 37 rfl) (fun H locs hX => ?_)
  obtain rfl := Option.some.inj hf
  exact kvret F hX hr hlocks rfl (kd dtX5_begin_0 38 rfl)
theorem wmX5_138 : Cond.methodLink RX5 138 yX1_isLike ∈ kT := kTm 889 (by decide +kernel) rfl
theorem mwX1_isLike : kMV RX1 yX1_isLike cX1_isLike 4 (some .boolean) := ⟨kTm 701 (by decide +kernel) rfl, kTm 97 (by decide +kernel) rfl, kTm 699 (by decide +kernel) rfl, kTm 700 (by decide +kernel) rfl⟩
def lX5_isDone_0 : List (Nat × Instr × Nat) := [(0, .aload_n 0, 1), (1, .getfield 58, 3), (4, .ifCond .ne 21, 3), (7, .aload_n 0, 1), (8, .getfield 48, 3), (11, .ifCond .eq 16, 3), (14, .aload_n 1, 1), (15, .iload_n 2, 1), (16, .aload_n 3, 1), (17, .iload 4, 2), (19, .invokevirtual 138, 3), (22, .ifCond .ne 5, 3), (25, .iconst 0, 1), (26, .ireturn, 1), (27, .aload_n 0, 1), (28, .getfield 55, 3), (31, .aload_n 0, 1), (32, .getfield 52, 3), (35, .if_icmp .lt 10, 3), (38, .aload_n 0, 1), (39, .iconst 1, 1), (40, .putfield 58, 3), (43, .iconst 0, 1), (44, .ireturn, 1), (45, .aload_n 0, 1), (46, .dup, 1), (47, .getfield 55, 3), (50, .iconst 1, 1), (51, .iadd, 1), (52, .putfield 55, 3), (55, .iconst 1, 1), (56, .ireturn, 1)]
theorem dtX5_isDone_0 : kDec cX5_isDone lX5_isDone_0 = true := by decide +kernel
noncomputable def fX5_isDone (x0 : Nat) (x1 : Option Nat) (x2 : Int32) (x3 : Option Nat) (x4 : Int32) (w : kW) : Option (Int32 × kW) :=
  (kgI w 5 (some x0) 11).bind fun v1 =>
  if v1 = 0 then
  (kgI w 5 (some x0) 8).bind fun v2 =>
  if v2 = 0 then
  (kgI w 5 (some x0) 10).bind fun v3 =>
  (kgI w 5 (some x0) 9).bind fun v4 =>
  if v3 < v4 then
  (kgI w 5 (some x0) 10).bind fun v5 =>
  (kpI w 5 (some x0) 10 (v5 + (1 : Int32))).bind fun w6 =>
  some ((1 : Int32), w6)
  else
  (kpI w 5 (some x0) 11 (1 : Int32)).bind fun w7 =>
  some ((0 : Int32), w7)
  else
  (kRc w 1 x1).bind fun b8 =>
  (fX1_isLike b8 x2 x3 x4 w).bind fun v10 =>
  if v10 = 0 then
  some ((0 : Int32), w)
  else
  (kgI w 5 (some x0) 10).bind fun v11 =>
  (kgI w 5 (some x0) 9).bind fun v12 =>
  if v11 < v12 then
  (kgI w 5 (some x0) 10).bind fun v13 =>
  (kpI w 5 (some x0) 10 (v13 + (1 : Int32))).bind fun w14 =>
  some ((1 : Int32), w14)
  else
  (kpI w 5 (some x0) 11 (1 : Int32)).bind fun w15 =>
  some ((0 : Int32), w15)
  else
  some ((0 : Int32), w)

set_option maxHeartbeats 4000000 in
set_option maxRecDepth 100000 in
theorem rX5_isDone (l : Launch) (D : va_G) (aC : Nat → ClassId) {x0 : Nat} {x1 : Option Nat} {x2 : Int32} {x3 : Option Nat} {x4 : Int32} {w : kW} {wR : kW} {oR : Int32} (h : fX5_isDone x0 x1 x2 x3 x4 w = some (oR, wR)) : kC l D aC yX5_isDone cX5_isDone 5 (some .boolean) 4 76 [.ref x0, va_rf x1, .int x2, va_rf x3, .int x4] w (some (.int oR)) wR 0 0 := by
  refine kOf (own := RX5) (by decide) rfl (by simp [lg_sl, kcat_rf, kcat_i, kcat_r, kcat_l]) ?_
  intro p e s m below meth c ls F hml hr hlocks hnm hX hZ hl
  obtain ⟨hx, hb, hts, hown, hK⟩ := id F
  have hl : lv_has ls 5 [(0, .ref x0), (1, va_rf x1), (2, .int x2), (3, va_rf x3), (4, .int x4)] := by simpa [lv_args, kcat_rf, kcat_i, kcat_r, kcat_l] using hl
  have hf := h
  rw [fX5_isDone] at hf
  refine lv_aload_n hx hb (kd dtX5_isDone_0 0 rfl) rfl (lv_at hl 0 rfl) ?_
  obtain ⟨v1, hv1, hf⟩ := kbind hf
  refine kgetI hv1 F hX hinX5 rfl rfl rfl (by decide) (by decide) wfX5_58 (kd dtX5_isDone_0 1 rfl) ?_
  refine lv_if_ne (tgt := 25) hx hb (kd dtX5_isDone_0 2 rfl) (by decide) (fun hc => ?_) (fun hc => ?_)
  · have hf := kif_neg hc hf
    refine lv_iconst (v := (0 : Int32)) hx hb (kd dtX5_isDone_0 12 rfl) (by decide) ?_
    obtain ⟨rfl, rfl⟩ := Prod.mk.inj (Option.some.inj hf)
    exact kzret F hX hr hlocks rfl rfl (kd dtX5_isDone_0 13 rfl)
  · have hf := kif_pos hc hf
    refine lv_aload_n hx hb (kd dtX5_isDone_0 3 rfl) rfl (lv_at hl 0 rfl) ?_
    obtain ⟨v2, hv2, hf⟩ := kbind hf
    refine kgetI hv2 F hX hinX5 rfl rfl rfl (by decide) (by decide) wfX5_48 (kd dtX5_isDone_0 4 rfl) ?_
    refine lv_if_eq (tgt := 27) hx hb (kd dtX5_isDone_0 5 rfl) (by decide) (fun hc => ?_) (fun hc => ?_)
    · have hf := kif_pos hc hf
      refine lv_aload_n hx hb (kd dtX5_isDone_0 14 rfl) rfl (lv_at hl 0 rfl) ?_
      obtain ⟨v3, hv3, hf⟩ := kbind hf
      refine kgetI hv3 F hX hinX5 rfl rfl rfl (by decide) (by decide) wfX5_55 (kd dtX5_isDone_0 15 rfl) ?_
      refine lv_aload_n hx hb (kd dtX5_isDone_0 16 rfl) rfl (lv_at hl 0 rfl) ?_
      obtain ⟨v4, hv4, hf⟩ := kbind hf
      refine kgetI hv4 F hX hinX5 rfl rfl rfl (by decide) (by decide) wfX5_52 (kd dtX5_isDone_0 17 rfl) ?_
      refine lv_icmp_lt (tgt := 45) hx hb (kd dtX5_isDone_0 18 rfl) (by decide) (fun hc => ?_) (fun hc => ?_)
      · have hf := kif_pos hc hf
        refine lv_aload_n hx hb (kd dtX5_isDone_0 24 rfl) rfl (lv_at hl 0 rfl) ?_
        refine lv_dup hx hb (kd dtX5_isDone_0 25 rfl) rfl ?_
        obtain ⟨v5, hv5, hf⟩ := kbind hf
        refine kgetI hv5 F hX hinX5 rfl rfl rfl (by decide) (by decide) wfX5_55 (kd dtX5_isDone_0 26 rfl) ?_
        refine lv_iconst (v := (1 : Int32)) hx hb (kd dtX5_isDone_0 27 rfl) (by decide) ?_
        refine lv_iadd hx hb (kd dtX5_isDone_0 28 rfl) ?_
        obtain ⟨w6, hw6, hf⟩ := kbind hf
        refine kputI hw6 F hX hinX5 tyX5_ok nmX5 rfl rfl rfl (by decide) (by decide) wfX5_55 rfl rfl (Or.inl rfl) (kd dtX5_isDone_0 29 rfl) (fun H locs hX => ?_)
        refine lv_iconst (v := (1 : Int32)) hx hb (kd dtX5_isDone_0 30 rfl) (by decide) ?_
        obtain ⟨rfl, rfl⟩ := Prod.mk.inj (Option.some.inj hf)
        exact kzret F hX hr hlocks rfl rfl (kd dtX5_isDone_0 31 rfl)
      · have hf := kif_neg hc hf
        refine lv_aload_n hx hb (kd dtX5_isDone_0 19 rfl) rfl (lv_at hl 0 rfl) ?_
        refine lv_iconst (v := (1 : Int32)) hx hb (kd dtX5_isDone_0 20 rfl) (by decide) ?_
        obtain ⟨w7, hw7, hf⟩ := kbind hf
        refine kputI hw7 F hX hinX5 tyX5_ok nmX5 rfl rfl rfl (by decide) (by decide) wfX5_58 rfl rfl (Or.inl rfl) (kd dtX5_isDone_0 21 rfl) (fun H locs hX => ?_)
        refine lv_iconst (v := (0 : Int32)) hx hb (kd dtX5_isDone_0 22 rfl) (by decide) ?_
        obtain ⟨rfl, rfl⟩ := Prod.mk.inj (Option.some.inj hf)
        exact kzret F hX hr hlocks rfl rfl (kd dtX5_isDone_0 23 rfl)
    · have hf := kif_neg hc hf
      refine kaload_n hx hb (kd dtX5_isDone_0 6 rfl) rfl (lv_at hl 1 rfl) ?_
      refine lv_iload_n hx hb (kd dtX5_isDone_0 7 rfl) rfl (lv_at hl 2 rfl) ?_
      refine kaload_n hx hb (kd dtX5_isDone_0 8 rfl) rfl (lv_at hl 3 rfl) ?_
      refine lv_iload hx hb (kd dtX5_isDone_0 9 rfl) (lv_at hl 4 rfl) ?_
      obtain ⟨b8, hb8, hf⟩ := kbind hf
      obtain ⟨hrb8, hkb8⟩ := kRc_s hb8
      obtain ⟨v10, h9, hf⟩ := kbind hf
      refine kcallV (n := 3) [.int x2, va_rf x3, .int x4] [] [.int v10] (rX1_isLike l D aC h9) hrb8 hkb8 F hml hX hZ hl.1 mwX1_isLike wmX5_138 rfl (by decide) (by decide +kernel) ⟨(by decide), (by decide)⟩ rfl rfl rfl (Nat.le_of_ble_eq_true rfl) (kd dtX5_isDone_0 10 rfl) ⟨Nat.zero_le _, Nat.zero_le _⟩ (fun H locs hX => ?_)
      refine lv_if_ne (tgt := 27) hx hb (kd dtX5_isDone_0 11 rfl) (by decide) (fun hc => ?_) (fun hc => ?_)
      · have hf := kif_neg hc hf
        refine lv_aload_n hx hb (kd dtX5_isDone_0 14 rfl) rfl (lv_at hl 0 rfl) ?_
        obtain ⟨v11, hv11, hf⟩ := kbind hf
        refine kgetI hv11 F hX hinX5 rfl rfl rfl (by decide) (by decide) wfX5_55 (kd dtX5_isDone_0 15 rfl) ?_
        refine lv_aload_n hx hb (kd dtX5_isDone_0 16 rfl) rfl (lv_at hl 0 rfl) ?_
        obtain ⟨v12, hv12, hf⟩ := kbind hf
        refine kgetI hv12 F hX hinX5 rfl rfl rfl (by decide) (by decide) wfX5_52 (kd dtX5_isDone_0 17 rfl) ?_
        refine lv_icmp_lt (tgt := 45) hx hb (kd dtX5_isDone_0 18 rfl) (by decide) (fun hc => ?_) (fun hc => ?_)
        · have hf := kif_pos hc hf
          refine lv_aload_n hx hb (kd dtX5_isDone_0 24 rfl) rfl (lv_at hl 0 rfl) ?_
          refine lv_dup hx hb (kd dtX5_isDone_0 25 rfl) rfl ?_
          obtain ⟨v13, hv13, hf⟩ := kbind hf
          refine kgetI hv13 F hX hinX5 rfl rfl rfl (by decide) (by decide) wfX5_55 (kd dtX5_isDone_0 26 rfl) ?_
          refine lv_iconst (v := (1 : Int32)) hx hb (kd dtX5_isDone_0 27 rfl) (by decide) ?_
          refine lv_iadd hx hb (kd dtX5_isDone_0 28 rfl) ?_
          obtain ⟨w14, hw14, hf⟩ := kbind hf
          refine kputI hw14 F hX hinX5 tyX5_ok nmX5 rfl rfl rfl (by decide) (by decide) wfX5_55 rfl rfl (Or.inl rfl) (kd dtX5_isDone_0 29 rfl) (fun H locs hX => ?_)
          refine lv_iconst (v := (1 : Int32)) hx hb (kd dtX5_isDone_0 30 rfl) (by decide) ?_
          obtain ⟨rfl, rfl⟩ := Prod.mk.inj (Option.some.inj hf)
          exact kzret F hX hr hlocks rfl rfl (kd dtX5_isDone_0 31 rfl)
        · have hf := kif_neg hc hf
          refine lv_aload_n hx hb (kd dtX5_isDone_0 19 rfl) rfl (lv_at hl 0 rfl) ?_
          refine lv_iconst (v := (1 : Int32)) hx hb (kd dtX5_isDone_0 20 rfl) (by decide) ?_
          obtain ⟨w15, hw15, hf⟩ := kbind hf
          refine kputI hw15 F hX hinX5 tyX5_ok nmX5 rfl rfl rfl (by decide) (by decide) wfX5_58 rfl rfl (Or.inl rfl) (kd dtX5_isDone_0 21 rfl) (fun H locs hX => ?_)
          refine lv_iconst (v := (0 : Int32)) hx hb (kd dtX5_isDone_0 22 rfl) (by decide) ?_
          obtain ⟨rfl, rfl⟩ := Prod.mk.inj (Option.some.inj hf)
          exact kzret F hX hr hlocks rfl rfl (kd dtX5_isDone_0 23 rfl)
      · have hf := kif_pos hc hf
        refine lv_iconst (v := (0 : Int32)) hx hb (kd dtX5_isDone_0 12 rfl) (by decide) ?_
        obtain ⟨rfl, rfl⟩ := Prod.mk.inj (Option.some.inj hf)
        exact kzret F hX hr hlocks rfl rfl (kd dtX5_isDone_0 13 rfl)
theorem wcX5_153 : Cond.constant RX5 153 (1103515245 : Int32) ∈ kT := kTm 895 (by decide +kernel) rfl
theorem wcX5_154 : Cond.constant RX5 154 (2147483647 : Int32) ∈ kT := kTm 896 (by decide +kernel) rfl
theorem wcX5_155 : Cond.constant RX5 155 (65536 : Int32) ∈ kT := kTm 897 (by decide +kernel) rfl
def lX5_isSlip_0 : List (Nat × Instr × Nat) := [(0, .aload_n 0, 1), (1, .aload_n 0, 1), (2, .getfield 70, 3), (5, .ldc 153, 2), (7, .imul, 1), (8, .sipush 12345, 3), (11, .iadd, 1), (12, .putfield 70, 3), (15, .aload_n 0, 1), (16, .getfield 70, 3), (19, .ldc 154, 2), (21, .iand, 1), (22, .ldc 155, 2), (24, .idiv, 1), (25, .bipush 100, 2), (27, .irem, 1), (28, .aload_n 0, 1), (29, .getfield 73, 3), (32, .if_icmp .ge 7, 3), (35, .iconst 1, 1), (36, .goto 4, 3), (39, .iconst 0, 1), (40, .ireturn, 1)]
theorem dtX5_isSlip_0 : kDec cX5_isSlip lX5_isSlip_0 = true := by decide +kernel
noncomputable def fX5_isSlip (x0 : Nat) (w : kW) : Option (Int32 × kW) :=
  (kgI w 5 (some x0) 15).bind fun v1 =>
  (kpI w 5 (some x0) 15 ((v1 * (1103515245 : Int32)) + (12345 : Int32))).bind fun w2 =>
  (kgI w2 5 (some x0) 15).bind fun v3 =>
  (kgI w2 5 (some x0) 16).bind fun v4 =>
  if v4 ≤ (((v3 &&& (2147483647 : Int32)) / (65536 : Int32)) - ((v3 &&& (2147483647 : Int32)) / (65536 : Int32)) / (100 : Int32) * (100 : Int32)) then
  some ((0 : Int32), w2)
  else
  some ((1 : Int32), w2)

set_option maxHeartbeats 4000000 in
set_option maxRecDepth 100000 in
theorem rX5_isSlip (l : Launch) (D : va_G) (aC : Nat → ClassId) {x0 : Nat} {w : kW} {wR : kW} {oR : Int32} (h : fX5_isSlip x0 w = some (oR, wR)) : kC l D aC yX5_isSlip cX5_isSlip 1 (some .boolean) 1 12 [.ref x0] w (some (.int oR)) wR 0 0 := by
  refine kOf (own := RX5) (by decide) rfl (Nat.le_of_ble_eq_true rfl) ?_
  intro p e s m below meth c ls F hml hr hlocks hnm hX hZ hl
  obtain ⟨hx, hb, hts, hown, hK⟩ := id F
  have hl : lv_has ls 1 [(0, .ref x0)] := hl
  have hf := h
  rw [fX5_isSlip] at hf
  refine lv_aload_n hx hb (kd dtX5_isSlip_0 0 rfl) rfl (lv_at hl 0 rfl) ?_
  refine lv_aload_n hx hb (kd dtX5_isSlip_0 1 rfl) rfl (lv_at hl 0 rfl) ?_
  obtain ⟨v1, hv1, hf⟩ := kbind hf
  refine kgetI hv1 F hX hinX5 rfl rfl rfl (by decide) (by decide) wfX5_70 (kd dtX5_isSlip_0 2 rfl) ?_
  refine lv_ldc (v := (1103515245 : Int32)) hx hb hown (hts _ wcX5_153) (kd dtX5_isSlip_0 3 rfl) ?_
  refine lv_imul hx hb (kd dtX5_isSlip_0 4 rfl) ?_
  refine lv_sipush (v := (12345 : Int32)) hx hb (kd dtX5_isSlip_0 5 rfl) (by decide) ?_
  refine lv_iadd hx hb (kd dtX5_isSlip_0 6 rfl) ?_
  obtain ⟨w2, hw2, hf⟩ := kbind hf
  refine kputI hw2 F hX hinX5 tyX5_ok nmX5 rfl rfl rfl (by decide) (by decide) wfX5_70 rfl rfl (Or.inl rfl) (kd dtX5_isSlip_0 7 rfl) (fun H locs hX => ?_)
  refine lv_aload_n hx hb (kd dtX5_isSlip_0 8 rfl) rfl (lv_at hl 0 rfl) ?_
  obtain ⟨v3, hv3, hf⟩ := kbind hf
  refine kgetI hv3 F hX hinX5 rfl rfl rfl (by decide) (by decide) wfX5_70 (kd dtX5_isSlip_0 9 rfl) ?_
  refine lv_ldc (v := (2147483647 : Int32)) hx hb hown (hts _ wcX5_154) (kd dtX5_isSlip_0 10 rfl) ?_
  refine lv_iand hx hb (kd dtX5_isSlip_0 11 rfl) ?_
  refine lv_ldc (v := (65536 : Int32)) hx hb hown (hts _ wcX5_155) (kd dtX5_isSlip_0 12 rfl) ?_
  refine lv_idiv hx hb (kd dtX5_isSlip_0 13 rfl) (by decide) ?_
  refine lv_bipush (v := (100 : Int32)) hx hb (kd dtX5_isSlip_0 14 rfl) (by decide) ?_
  refine lv_irem hx hb (kd dtX5_isSlip_0 15 rfl) (by decide) ?_
  refine lv_aload_n hx hb (kd dtX5_isSlip_0 16 rfl) rfl (lv_at hl 0 rfl) ?_
  obtain ⟨v4, hv4, hf⟩ := kbind hf
  refine kgetI hv4 F hX hinX5 rfl rfl rfl (by decide) (by decide) wfX5_73 (kd dtX5_isSlip_0 17 rfl) ?_
  refine lv_icmp_ge (tgt := 39) hx hb (kd dtX5_isSlip_0 18 rfl) (by decide) (fun hc => ?_) (fun hc => ?_)
  · have hf := kif_pos hc hf
    refine lv_iconst (v := (0 : Int32)) hx hb (kd dtX5_isSlip_0 21 rfl) (by decide) ?_
    obtain ⟨rfl, rfl⟩ := Prod.mk.inj (Option.some.inj hf)
    exact kzret F hX hr hlocks rfl rfl (kd dtX5_isSlip_0 22 rfl)
  · have hf := kif_neg hc hf
    refine lv_iconst (v := (1 : Int32)) hx hb (kd dtX5_isSlip_0 19 rfl) (by decide) ?_
    refine lv_goto (tgt := 40) hx hb (kd dtX5_isSlip_0 20 rfl) (by decide) ?_
    obtain ⟨rfl, rfl⟩ := Prod.mk.inj (Option.some.inj hf)
    exact kzret F hX hr hlocks rfl rfl (kd dtX5_isSlip_0 22 rfl)
theorem wmX5_142 : Cond.methodLink RX5 142 yX5_isDone ∈ kT := kTm 885 (by decide +kernel) rfl
theorem mwX5_isDone : kMV RX5 yX5_isDone cX5_isDone 5 (some .boolean) := ⟨kTm 888 (by decide +kernel) rfl, kTm 103 (by decide +kernel) rfl, kTm 887 (by decide +kernel) rfl, kTm 27 (by decide +kernel) rfl⟩
theorem wmX5_146 : Cond.methodLink RX5 146 yX4_makes ∈ kT := kTm 890 (by decide +kernel) rfl
theorem wmX5_149 : Cond.methodLink RX5 149 yX5_isSlip ∈ kT := kTm 891 (by decide +kernel) rfl
theorem mwX5_isSlip : kMV RX5 yX5_isSlip cX5_isSlip 1 (some .boolean) := ⟨kTm 894 (by decide +kernel) rfl, kTm 103 (by decide +kernel) rfl, kTm 893 (by decide +kernel) rfl, kTm 28 (by decide +kernel) rfl⟩
def lX5_tryMatch_0 : List (Nat × Instr × Nat) := [(0, .aload_n 0, 1), (1, .getfield 11, 3), (4, .iload_n 1, 1), (5, .aaload, 1), (6, .astore_n 3, 1), (7, .aload_n 0, 1), (8, .getfield 21, 3), (11, .iload_n 2, 1), (12, .aaload, 1), (13, .astore 4, 2), (15, .aload_n 0, 1), (16, .aload_n 3, 1), (17, .iconst 0, 1), (18, .aload 4, 2), (20, .iconst 0, 1), (21, .invokevirtual 142, 3), (24, .ifCond .ne 4, 3), (27, .return_, 1), (28, .aload_n 0, 1), (29, .getfield 30, 3), (32, .aload 4, 2), (34, .iconst 0, 1), (35, .aload_n 3, 1), (36, .iconst 0, 1), (37, .invokevirtual 146, 3), (40, .istore 5, 2), (42, .iload 5, 2), (44, .aload_n 0, 1), (45, .invokevirtual 149, 3), (48, .if_icmp .eq 7, 3), (51, .iconst 1, 1), (52, .goto 4, 3), (55, .iconst 0, 1), (56, .istore 6, 2), (58, .iload 5, 2), (60, .ifCond .eq 41, 3), (63, .iload 6, 2), (65, .ifCond .eq 36, 3), (68, .aload_n 0, 1), (69, .iconst 1, 1), (70, .putfield 58, 3), (73, .aload_n 0, 1), (74, .iconst 1, 1), (75, .putfield 61, 3), (78, .aload_n 0, 1), (79, .aload_n 0, 1), (80, .getfield 17, 3), (83, .iload_n 1, 1), (84, .iaload, 1), (85, .putfield 64, 3), (88, .aload_n 0, 1), (89, .aload_n 0, 1), (90, .getfield 24, 3), (93, .iload_n 2, 1), (94, .iaload, 1), (95, .putfield 67, 3), (98, .goto 36, 3), (101, .iload 6, 2), (103, .ifCond .eq 16, 3), (106, .aload_n 0, 1), (107, .dup, 1), (108, .getfield 76, 3), (111, .iconst 1, 1), (112, .iadd, 1), (113, .putfield 76, 3), (116, .goto 18, 3), (119, .iload 5, 2), (121, .ifCond .eq 13, 3), (124, .aload_n 0, 1), (125, .dup, 1), (126, .getfield 79, 3), (129, .iconst 1, 1), (130, .iadd, 1), (131, .putfield 79, 3), (134, .return_, 1)]
theorem dtX5_tryMatch_0 : kDec cX5_tryMatch lX5_tryMatch_0 = true := by decide +kernel
noncomputable def fX5_tryMatch_J101 (x0 : Nat) (x1 : Int32) (x2 : Int32) (x3 : Option Nat) (x4 : Option Nat) (x5 : Int32) (x6 : Int32) (w : kW) : Option kW :=
  if x6 = 0 then
  if x5 = 0 then
  some w
  else
  (kgI w 5 (some x0) 18).bind fun v1 =>
  (kpI w 5 (some x0) 18 (v1 + (1 : Int32))).bind fun w2 =>
  some w2
  else
  (kgI w 5 (some x0) 17).bind fun v3 =>
  (kpI w 5 (some x0) 17 (v3 + (1 : Int32))).bind fun w4 =>
  some w4

noncomputable def fX5_tryMatch_J56 (x0 : Nat) (x1 : Int32) (x2 : Int32) (x3 : Option Nat) (x4 : Option Nat) (x5 : Int32) (s0 : Int32) (w : kW) : Option kW :=
  if x5 = 0 then
  fX5_tryMatch_J101 x0 x1 x2 x3 x4 x5 s0 w
  else
  if s0 = 0 then
  fX5_tryMatch_J101 x0 x1 x2 x3 x4 x5 s0 w
  else
  (kpI w 5 (some x0) 11 (1 : Int32)).bind fun w1 =>
  (kpI w1 5 (some x0) 12 (1 : Int32)).bind fun w2 =>
  (kgP w2 5 (some x0) 1).bind fun v3 =>
  (kaI w2 14 v3 x1).bind fun v4 =>
  (kpI w2 5 (some x0) 13 v4).bind fun w5 =>
  (kgP w5 5 (some x0) 3).bind fun v6 =>
  (kaI w5 14 v6 x2).bind fun v7 =>
  (kpI w5 5 (some x0) 14 v7).bind fun w8 =>
  some w8

noncomputable def fX5_tryMatch (x0 : Nat) (x1 : Int32) (x2 : Int32) (w : kW) : Option kW :=
  (kgP w 5 (some x0) 0).bind fun v1 =>
  (kaP w 16 v1 x1).bind fun v2 =>
  (kgP w 5 (some x0) 2).bind fun v3 =>
  (kaP w 16 v3 x2).bind fun v4 =>
  (kRc w 5 (some x0)).bind fun b5 =>
  kb2 (fX5_isDone b5 v2 (0 : Int32) v4 (0 : Int32) w) fun v8 w6 =>
  if v8 = 0 then
  some w6
  else
  (kgP w6 5 (some x0) 4).bind fun v9 =>
  (kRc w6 4 v9).bind fun b10 =>
  kb2 (fX4_makes b10 v4 (0 : Int32) v2 (0 : Int32) w6) fun v13 w11 =>
  (kRc w11 5 (some x0)).bind fun b14 =>
  kb2 (fX5_isSlip b14 w11) fun v17 w15 =>
  if v13 = v17 then
  fX5_tryMatch_J56 x0 x1 x2 v2 v4 v13 (0 : Int32) w15
  else
  fX5_tryMatch_J56 x0 x1 x2 v2 v4 v13 (1 : Int32) w15

set_option maxHeartbeats 4000000 in
set_option maxRecDepth 100000 in
theorem rX5_tryMatch (l : Launch) (D : va_G) (aC : Nat → ClassId) {x0 : Nat} {x1 : Int32} {x2 : Int32} {w : kW} {wR : kW} (h : fX5_tryMatch x0 x1 x2 w = some wR) : kC l D aC yX5_tryMatch cX5_tryMatch 7 none 5 100 [.ref x0, .int x1, .int x2] w none wR 0 0 := by
  refine kOf (own := RX5) (by decide) rfl (Nat.le_of_ble_eq_true rfl) ?_
  intro p e s m below meth c ls F hml hr hlocks hnm hX hZ hl
  obtain ⟨hx, hb, hts, hown, hK⟩ := id F
  have hl : lv_has ls 7 [(0, .ref x0), (1, .int x1), (2, .int x2)] := hl
  have hJ0_101 : ∀ (j0_101 : Nat) (j1_101 : Int32) (j2_101 : Int32) (j3_101 : Option Nat) (j4_101 : Option Nat) (j5_101 : Int32) (j6_101 : Int32) (w_j101 : kW) (H : Heap) (locs : List Loc) (ls : Array Slot), kX D aC w s.heap w_j101 H locs → lv_has ls 7 [(0, .ref j0_101), (1, .int j1_101), (2, .int j2_101), (3, va_rf j3_101), (4, va_rf j4_101), (5, .int j5_101), (6, .int j6_101)] → fX5_tryMatch_J101 j0_101 j1_101 j2_101 j3_101 j4_101 j5_101 j6_101 w_j101 = some wR → W p l e { frames := 5, cells := 0, slots := 0, locals := 100 } s m ([.ref x0, .int x1, .int x2] : List Value).toArray below meth c H locs 0 0 (MQ below (kQc D aC w none wR) ([.ref x0, .int x1, .int x2] : List Value).toArray s 0 0 (kA w)) (F0 m 101 ls []) := by
    intro j0_101 j1_101 j2_101 j3_101 j4_101 j5_101 j6_101 w_j101 H locs ls hX hl hf
    rw [fX5_tryMatch_J101] at hf
    refine lv_iload hx hb (kd dtX5_tryMatch_0 57 rfl) (lv_at hl 6 rfl) ?_
    refine lv_if_eq (tgt := 119) hx hb (kd dtX5_tryMatch_0 58 rfl) (by decide) (fun hc => ?_) (fun hc => ?_)
    · have hf := kif_pos hc hf
      refine lv_iload hx hb (kd dtX5_tryMatch_0 66 rfl) (lv_at hl 5 rfl) ?_
      refine lv_if_eq (tgt := 134) hx hb (kd dtX5_tryMatch_0 67 rfl) (by decide) (fun hc => ?_) (fun hc => ?_)
      · have hf := kif_pos hc hf
        obtain rfl := Option.some.inj hf
        exact kvret F hX hr hlocks rfl (kd dtX5_tryMatch_0 74 rfl)
      · have hf := kif_neg hc hf
        refine lv_aload_n hx hb (kd dtX5_tryMatch_0 68 rfl) rfl (lv_at hl 0 rfl) ?_
        refine lv_dup hx hb (kd dtX5_tryMatch_0 69 rfl) rfl ?_
        obtain ⟨v26, hv26, hf⟩ := kbind hf
        refine kgetI hv26 F hX hinX5 rfl rfl rfl (by decide) (by decide) wfX5_79 (kd dtX5_tryMatch_0 70 rfl) ?_
        refine lv_iconst (v := (1 : Int32)) hx hb (kd dtX5_tryMatch_0 71 rfl) (by decide) ?_
        refine lv_iadd hx hb (kd dtX5_tryMatch_0 72 rfl) ?_
        obtain ⟨w27, hw27, hf⟩ := kbind hf
        refine kputI hw27 F hX hinX5 tyX5_ok nmX5 rfl rfl rfl (by decide) (by decide) wfX5_79 rfl rfl (Or.inl rfl) (kd dtX5_tryMatch_0 73 rfl) (fun H locs hX => ?_)
        obtain rfl := Option.some.inj hf
        exact kvret F hX hr hlocks rfl (kd dtX5_tryMatch_0 74 rfl)
    · have hf := kif_neg hc hf
      refine lv_aload_n hx hb (kd dtX5_tryMatch_0 59 rfl) rfl (lv_at hl 0 rfl) ?_
      refine lv_dup hx hb (kd dtX5_tryMatch_0 60 rfl) rfl ?_
      obtain ⟨v28, hv28, hf⟩ := kbind hf
      refine kgetI hv28 F hX hinX5 rfl rfl rfl (by decide) (by decide) wfX5_76 (kd dtX5_tryMatch_0 61 rfl) ?_
      refine lv_iconst (v := (1 : Int32)) hx hb (kd dtX5_tryMatch_0 62 rfl) (by decide) ?_
      refine lv_iadd hx hb (kd dtX5_tryMatch_0 63 rfl) ?_
      obtain ⟨w29, hw29, hf⟩ := kbind hf
      refine kputI hw29 F hX hinX5 tyX5_ok nmX5 rfl rfl rfl (by decide) (by decide) wfX5_76 rfl rfl (Or.inl rfl) (kd dtX5_tryMatch_0 64 rfl) (fun H locs hX => ?_)
      refine lv_goto (tgt := 134) hx hb (kd dtX5_tryMatch_0 65 rfl) (by decide) ?_
      obtain rfl := Option.some.inj hf
      exact kvret F hX hr hlocks rfl (kd dtX5_tryMatch_0 74 rfl)
  have hJ0_56 : ∀ (j0_56 : Nat) (j1_56 : Int32) (j2_56 : Int32) (j3_56 : Option Nat) (j4_56 : Option Nat) (j5_56 : Int32) (t0_56 : Int32) (w_j56 : kW) (H : Heap) (locs : List Loc) (ls : Array Slot), kX D aC w s.heap w_j56 H locs → lv_has ls 7 [(0, .ref j0_56), (1, .int j1_56), (2, .int j2_56), (3, va_rf j3_56), (4, va_rf j4_56), (5, .int j5_56)] → fX5_tryMatch_J56 j0_56 j1_56 j2_56 j3_56 j4_56 j5_56 t0_56 w_j56 = some wR → W p l e { frames := 5, cells := 0, slots := 0, locals := 100 } s m ([.ref x0, .int x1, .int x2] : List Value).toArray below meth c H locs 0 0 (MQ below (kQc D aC w none wR) ([.ref x0, .int x1, .int x2] : List Value).toArray s 0 0 (kA w)) (F0 m 56 ls [.int t0_56]) := by
    intro j0_56 j1_56 j2_56 j3_56 j4_56 j5_56 t0_56 w_j56 H locs ls hX hl hf
    rw [fX5_tryMatch_J56] at hf
    refine lv_istore (lv' := [(6, .int t0_56), (0, .ref j0_56), (1, .int j1_56), (2, .int j2_56), (3, va_rf j3_56), (4, va_rf j4_56), (5, .int j5_56)]) hx hb (kd dtX5_tryMatch_0 33 rfl) hl (by decide) rfl (fun ls hl => ?_)
    refine lv_iload hx hb (kd dtX5_tryMatch_0 34 rfl) (lv_at hl 6 rfl) ?_
    refine lv_if_eq (tgt := 101) hx hb (kd dtX5_tryMatch_0 35 rfl) (by decide) (fun hc => ?_) (fun hc => ?_)
    · have hf := kif_pos hc hf
      exact hJ0_101 j0_56 j1_56 j2_56 j3_56 j4_56 j5_56 t0_56 w_j56 _ _ _ hX (lv_sub hl [1, 2, 3, 4, 5, 6, 0] rfl) hf
    · have hf := kif_neg hc hf
      refine lv_iload hx hb (kd dtX5_tryMatch_0 36 rfl) (lv_at hl 0 rfl) ?_
      refine lv_if_eq (tgt := 101) hx hb (kd dtX5_tryMatch_0 37 rfl) (by decide) (fun hc => ?_) (fun hc => ?_)
      · have hf := kif_pos hc hf
        exact hJ0_101 j0_56 j1_56 j2_56 j3_56 j4_56 j5_56 t0_56 w_j56 _ _ _ hX (lv_sub hl [1, 2, 3, 4, 5, 6, 0] rfl) hf
      · have hf := kif_neg hc hf
        refine lv_aload_n hx hb (kd dtX5_tryMatch_0 38 rfl) rfl (lv_at hl 1 rfl) ?_
        refine lv_iconst (v := (1 : Int32)) hx hb (kd dtX5_tryMatch_0 39 rfl) (by decide) ?_
        obtain ⟨w18, hw18, hf⟩ := kbind hf
        refine kputI hw18 F hX hinX5 tyX5_ok nmX5 rfl rfl rfl (by decide) (by decide) wfX5_58 rfl rfl (Or.inl rfl) (kd dtX5_tryMatch_0 40 rfl) (fun H locs hX => ?_)
        refine lv_aload_n hx hb (kd dtX5_tryMatch_0 41 rfl) rfl (lv_at hl 1 rfl) ?_
        refine lv_iconst (v := (1 : Int32)) hx hb (kd dtX5_tryMatch_0 42 rfl) (by decide) ?_
        obtain ⟨w19, hw19, hf⟩ := kbind hf
        refine kputI hw19 F hX hinX5 tyX5_ok nmX5 rfl rfl rfl (by decide) (by decide) wfX5_61 rfl rfl (Or.inl rfl) (kd dtX5_tryMatch_0 43 rfl) (fun H locs hX => ?_)
        refine lv_aload_n hx hb (kd dtX5_tryMatch_0 44 rfl) rfl (lv_at hl 1 rfl) ?_
        refine lv_aload_n hx hb (kd dtX5_tryMatch_0 45 rfl) rfl (lv_at hl 1 rfl) ?_
        obtain ⟨v20, hv20, hf⟩ := kbind hf
        refine kgetP hv20 F hX hinX5 rfl rfl rfl (by decide) (by decide) wfX5_17 (kd dtX5_tryMatch_0 46 rfl) ?_
        refine lv_iload_n hx hb (kd dtX5_tryMatch_0 47 rfl) rfl (lv_at hl 2 rfl) ?_
        obtain ⟨v21, hv21, hf⟩ := kbind hf
        refine kald hv21 F hX (kd dtX5_tryMatch_0 48 rfl) ?_
        obtain ⟨w22, hw22, hf⟩ := kbind hf
        refine kputI hw22 F hX hinX5 tyX5_ok nmX5 rfl rfl rfl (by decide) (by decide) wfX5_64 rfl rfl (Or.inl rfl) (kd dtX5_tryMatch_0 49 rfl) (fun H locs hX => ?_)
        refine lv_aload_n hx hb (kd dtX5_tryMatch_0 50 rfl) rfl (lv_at hl 1 rfl) ?_
        refine lv_aload_n hx hb (kd dtX5_tryMatch_0 51 rfl) rfl (lv_at hl 1 rfl) ?_
        obtain ⟨v23, hv23, hf⟩ := kbind hf
        refine kgetP hv23 F hX hinX5 rfl rfl rfl (by decide) (by decide) wfX5_24 (kd dtX5_tryMatch_0 52 rfl) ?_
        refine lv_iload_n hx hb (kd dtX5_tryMatch_0 53 rfl) rfl (lv_at hl 3 rfl) ?_
        obtain ⟨v24, hv24, hf⟩ := kbind hf
        refine kald hv24 F hX (kd dtX5_tryMatch_0 54 rfl) ?_
        obtain ⟨w25, hw25, hf⟩ := kbind hf
        refine kputI hw25 F hX hinX5 tyX5_ok nmX5 rfl rfl rfl (by decide) (by decide) wfX5_67 rfl rfl (Or.inl rfl) (kd dtX5_tryMatch_0 55 rfl) (fun H locs hX => ?_)
        refine lv_goto (tgt := 134) hx hb (kd dtX5_tryMatch_0 56 rfl) (by decide) ?_
        obtain rfl := Option.some.inj hf
        exact kvret F hX hr hlocks rfl (kd dtX5_tryMatch_0 74 rfl)
  have hf := h
  rw [fX5_tryMatch] at hf
  refine lv_aload_n hx hb (kd dtX5_tryMatch_0 0 rfl) rfl (lv_at hl 0 rfl) ?_
  obtain ⟨v1, hv1, hf⟩ := kbind hf
  refine kgetP hv1 F hX hinX5 rfl rfl rfl (by decide) (by decide) wfX5_11 (kd dtX5_tryMatch_0 1 rfl) ?_
  refine lv_iload_n hx hb (kd dtX5_tryMatch_0 2 rfl) rfl (lv_at hl 1 rfl) ?_
  obtain ⟨v2, hv2, hf⟩ := kbind hf
  refine kqld16 hv2 F hX (kd dtX5_tryMatch_0 3 rfl) ?_
  refine kastore_n (lv' := [(3, va_rf v2), (0, .ref x0), (1, .int x1), (2, .int x2)]) hx hb (kd dtX5_tryMatch_0 4 rfl) rfl hl (by decide) rfl (fun ls hl => ?_)
  refine lv_aload_n hx hb (kd dtX5_tryMatch_0 5 rfl) rfl (lv_at hl 1 rfl) ?_
  obtain ⟨v3, hv3, hf⟩ := kbind hf
  refine kgetP hv3 F hX hinX5 rfl rfl rfl (by decide) (by decide) wfX5_21 (kd dtX5_tryMatch_0 6 rfl) ?_
  refine lv_iload_n hx hb (kd dtX5_tryMatch_0 7 rfl) rfl (lv_at hl 3 rfl) ?_
  obtain ⟨v4, hv4, hf⟩ := kbind hf
  refine kqld16 hv4 F hX (kd dtX5_tryMatch_0 8 rfl) ?_
  refine kastore (i := 4) (lv' := [(4, va_rf v4), (3, va_rf v2), (0, .ref x0), (1, .int x1), (2, .int x2)]) hx hb (kd dtX5_tryMatch_0 9 rfl) hl (by decide) (by simp [kcat_rf, kcat_i, kcat_r, kcat_l]) (fun ls hl => ?_)
  refine lv_aload_n hx hb (kd dtX5_tryMatch_0 10 rfl) rfl (lv_at hl 2 rfl) ?_
  refine kaload_n hx hb (kd dtX5_tryMatch_0 11 rfl) rfl (lv_at hl 1 rfl) ?_
  refine lv_iconst (v := (0 : Int32)) hx hb (kd dtX5_tryMatch_0 12 rfl) (by decide) ?_
  refine kaload hx hb (kd dtX5_tryMatch_0 13 rfl) (lv_at hl 0 rfl) ?_
  refine lv_iconst (v := (0 : Int32)) hx hb (kd dtX5_tryMatch_0 14 rfl) (by decide) ?_
  obtain ⟨b5, hb5, hf⟩ := kbind hf
  obtain ⟨hrb5, hkb5⟩ := kRc_s hb5
  obtain ⟨v8, w6, h7, hf⟩ := kbind2 hf
  refine kcallV (n := 4) [va_rf v2, .int (0 : Int32), va_rf v4, .int (0 : Int32)] [] [.int v8] (rX5_isDone l D aC h7) hrb5 hkb5 F hml hX hZ hl.1 mwX5_isDone wmX5_142 rfl (by decide) (by decide +kernel) ⟨(by decide), (by decide)⟩ rfl rfl rfl (Nat.le_of_ble_eq_true rfl) (kd dtX5_tryMatch_0 15 rfl) ⟨Nat.zero_le _, Nat.zero_le _⟩ (fun H locs hX => ?_)
  refine lv_if_ne (tgt := 28) hx hb (kd dtX5_tryMatch_0 16 rfl) (by decide) (fun hc => ?_) (fun hc => ?_)
  · have hf := kif_neg hc hf
    refine lv_aload_n hx hb (kd dtX5_tryMatch_0 18 rfl) rfl (lv_at hl 2 rfl) ?_
    obtain ⟨v9, hv9, hf⟩ := kbind hf
    refine kgetP hv9 F hX hinX5 rfl rfl rfl (by decide) (by decide) wfX5_30 (kd dtX5_tryMatch_0 19 rfl) ?_
    refine kaload hx hb (kd dtX5_tryMatch_0 20 rfl) (lv_at hl 0 rfl) ?_
    refine lv_iconst (v := (0 : Int32)) hx hb (kd dtX5_tryMatch_0 21 rfl) (by decide) ?_
    refine kaload_n hx hb (kd dtX5_tryMatch_0 22 rfl) rfl (lv_at hl 1 rfl) ?_
    refine lv_iconst (v := (0 : Int32)) hx hb (kd dtX5_tryMatch_0 23 rfl) (by decide) ?_
    obtain ⟨b10, hb10, hf⟩ := kbind hf
    obtain ⟨hrb10, hkb10⟩ := kRc_s hb10
    obtain ⟨v13, w11, h12, hf⟩ := kbind2 hf
    refine kcallV (n := 4) [va_rf v4, .int (0 : Int32), va_rf v2, .int (0 : Int32)] [] [.int v13] (rX4_makes l D aC h12) hrb10 hkb10 F hml hX hZ hl.1 mwX4_makes wmX5_146 rfl (by decide) (by decide +kernel) ⟨(by decide), (by decide)⟩ rfl rfl rfl (Nat.le_of_ble_eq_true rfl) (kd dtX5_tryMatch_0 24 rfl) ⟨Nat.zero_le _, Nat.zero_le _⟩ (fun H locs hX => ?_)
    refine lv_istore (i := 5) (lv' := [(5, .int v13), (4, va_rf v4), (3, va_rf v2), (0, .ref x0), (1, .int x1), (2, .int x2)]) hx hb (kd dtX5_tryMatch_0 25 rfl) hl (by decide) (by simp [kcat_rf, kcat_i, kcat_r, kcat_l]) (fun ls hl => ?_)
    refine lv_iload hx hb (kd dtX5_tryMatch_0 26 rfl) (lv_at hl 0 rfl) ?_
    refine lv_aload_n hx hb (kd dtX5_tryMatch_0 27 rfl) rfl (lv_at hl 3 rfl) ?_
    obtain ⟨b14, hb14, hf⟩ := kbind hf
    obtain ⟨hrb14, hkb14⟩ := kRc_s hb14
    obtain ⟨v17, w15, h16, hf⟩ := kbind2 hf
    refine kcallV (n := 0) [] [.int v13] [.int v17, .int v13] (rX5_isSlip l D aC h16) hrb14 hkb14 F hml hX hZ hl.1 mwX5_isSlip wmX5_149 rfl (by decide) (by decide +kernel) ⟨(by decide), (by decide)⟩ rfl rfl rfl (Nat.le_of_ble_eq_true rfl) (kd dtX5_tryMatch_0 28 rfl) ⟨Nat.zero_le _, Nat.zero_le _⟩ (fun H locs hX => ?_)
    refine lv_icmp_eq (tgt := 55) hx hb (kd dtX5_tryMatch_0 29 rfl) (by decide) (fun hc => ?_) (fun hc => ?_)
    · have hf := kif_pos hc hf
      refine lv_iconst (v := (0 : Int32)) hx hb (kd dtX5_tryMatch_0 32 rfl) (by decide) ?_
      exact hJ0_56 x0 x1 x2 v2 v4 v13 (0 : Int32) w15 _ _ _ hX (lv_sub hl [3, 4, 5, 2, 1, 0] rfl) hf
    · have hf := kif_neg hc hf
      refine lv_iconst (v := (1 : Int32)) hx hb (kd dtX5_tryMatch_0 30 rfl) (by decide) ?_
      refine lv_goto (tgt := 56) hx hb (kd dtX5_tryMatch_0 31 rfl) (by decide) ?_
      exact hJ0_56 x0 x1 x2 v2 v4 v13 (1 : Int32) w15 _ _ _ hX (lv_sub hl [3, 4, 5, 2, 1, 0] rfl) hf
  · have hf := kif_pos hc hf
    obtain rfl := Option.some.inj hf
    exact kvret F hX hr hlocks rfl (kd dtX5_tryMatch_0 17 rfl)
theorem wfX5_179 : Cond.fieldLinkNest RX5 179 (TX1 6).1 (TX1 6).2.1 (TX1 6).2.2.1 "KitchenCards" ∈ kNs := kNm 202 (by decide +kernel) rfl
theorem wmX5_182 : Cond.methodLink RX5 182 yX1_settle ∈ kT := kTm 916 (by decide +kernel) rfl
theorem wmX5_185 : Cond.methodLink RX5 185 yX1_samePart ∈ kT := kTm 917 (by decide +kernel) rfl
def lX5_offerNeed_0 : List (Nat × Instr × Nat) := [(0, .aload_n 0, 1), (1, .getfield 37, 3), (4, .getfield 179, 3), (7, .ifCond .ne 12, 3), (10, .aload_n 0, 1), (11, .getfield 41, 3), (14, .bipush 24, 2), (16, .if_icmp .lt 4, 3), (19, .return_, 1), (20, .aload_n 0, 1), (21, .getfield 37, 3), (24, .invokevirtual 182, 3), (27, .iconst 0, 1), (28, .istore_n 2, 1), (29, .iload_n 2, 1), (30, .aload_n 0, 1), (31, .getfield 41, 3), (34, .if_icmp .ge 28, 3), (37, .aload_n 0, 1), (38, .getfield 11, 3), (41, .iload_n 2, 1), (42, .aaload, 1), (43, .iconst 0, 1), (44, .aload_n 0, 1), (45, .getfield 37, 3), (48, .iconst 0, 1), (49, .invokevirtual 185, 3), (52, .ifCond .eq 4, 3), (55, .return_, 1), (56, .iinc 2 1, 3), (59, .goto (-30), 3), (62, .aload_n 0, 1), (63, .getfield 11, 3), (66, .aload_n 0, 1), (67, .getfield 41, 3), (70, .aaload, 1), (71, .astore_n 2, 1), (72, .aload_n 0, 1), (73, .getfield 11, 3), (76, .aload_n 0, 1), (77, .getfield 41, 3), (80, .aload_n 0, 1), (81, .getfield 37, 3), (84, .aastore, 1), (85, .aload_n 0, 1), (86, .getfield 17, 3), (89, .aload_n 0, 1), (90, .getfield 41, 3), (93, .aload_n 0, 1), (94, .getfield 17, 3), (97, .iload_n 1, 1), (98, .iaload, 1), (99, .iconst 1, 1), (100, .iadd, 1), (101, .iastore, 1), (102, .aload_n 0, 1), (103, .dup, 1), (104, .getfield 41, 3), (107, .iconst 1, 1), (108, .iadd, 1), (109, .putfield 41, 3), (112, .aload_n 0, 1), (113, .aload_n 2, 1), (114, .putfield 37, 3), (117, .return_, 1)]
theorem dtX5_offerNeed_0 : kDec cX5_offerNeed lX5_offerNeed_0 = true := by decide +kernel
noncomputable def fX5_offerNeed_L29 (x0 : Nat) (x1 : Int32) (w : kW) : Nat → (Int32 → Option kW) → Int32 → Option kW
  | 0, _, _ => none
  | n + 1, k, x2 =>
  (kgI w 5 (some x0) 6).bind fun v1 =>
  if v1 ≤ x2 then
  k x2
  else
  (kgP w 5 (some x0) 0).bind fun v2 =>
  (kaP w 16 v2 x2).bind fun v3 =>
  (kgP w 5 (some x0) 5).bind fun v4 =>
  (kRc w 1 v3).bind fun b5 =>
  (fX1_samePart b5 (0 : Int32) v4 (0 : Int32) w).bind fun v7 =>
  if v7 = 0 then
  fX5_offerNeed_L29 x0 x1 w n k (x2 + (1 : Int32))
  else
  some w

noncomputable def fX5_offerNeed (x0 : Nat) (x1 : Int32) (w : kW) : Option kW :=
  (kgP w 5 (some x0) 5).bind fun v1 =>
  (kgI w 1 v1 6).bind fun v2 =>
  if v2 = 0 then
  (kgI w 5 (some x0) 6).bind fun v3 =>
  if v3 < (24 : Int32) then
  (kgP w 5 (some x0) 5).bind fun v4 =>
  (kRc w 1 v4).bind fun b5 =>
  (fX1_settle b5 w).bind fun w6 =>
  fX5_offerNeed_L29 x0 x1 w6 kFU (fun y2_8 => (kgP w6 5 (some x0) 0).bind fun v9 =>
  (kgI w6 5 (some x0) 6).bind fun v10 =>
  (kaP w6 16 v9 v10).bind fun v11 =>
  (kgP w6 5 (some x0) 0).bind fun v12 =>
  (kgI w6 5 (some x0) 6).bind fun v13 =>
  (kgP w6 5 (some x0) 5).bind fun v14 =>
  (ksP w6 16 v12 v13 v14).bind fun w15 =>
  (kgP w15 5 (some x0) 1).bind fun v16 =>
  (kgI w15 5 (some x0) 6).bind fun v17 =>
  (kgP w15 5 (some x0) 1).bind fun v18 =>
  (kaI w15 14 v18 x1).bind fun v19 =>
  (ksI w15 14 v16 v17 (v19 + (1 : Int32))).bind fun w20 =>
  (kgI w20 5 (some x0) 6).bind fun v21 =>
  (kpI w20 5 (some x0) 6 (v21 + (1 : Int32))).bind fun w22 =>
  (kpP w22 5 (some x0) 5 v11).bind fun w23 =>
  some w23) (0 : Int32)
  else
  some w
  else
  some w

set_option maxHeartbeats 4000000 in
set_option maxRecDepth 100000 in
theorem rX5_offerNeed (l : Launch) (D : va_G) (aC : Nat → ClassId) {x0 : Nat} {x1 : Int32} {w : kW} {wR : kW} (h : fX5_offerNeed x0 x1 w = some wR) : kC l D aC yX5_offerNeed cX5_offerNeed 3 none 3 63 [.ref x0, .int x1] w none wR 0 0 := by
  refine kOf (own := RX5) (by decide) rfl (Nat.le_of_ble_eq_true rfl) ?_
  intro p e s m below meth c ls F hml hr hlocks hnm hX hZ hl
  obtain ⟨hx, hb, hts, hown, hK⟩ := id F
  have hl : lv_has ls 3 [(0, .ref x0), (1, .int x1)] := hl
  have hf := h
  rw [fX5_offerNeed] at hf
  refine lv_aload_n hx hb (kd dtX5_offerNeed_0 0 rfl) rfl (lv_at hl 0 rfl) ?_
  obtain ⟨v1, hv1, hf⟩ := kbind hf
  refine kgetP hv1 F hX hinX5 rfl rfl rfl (by decide) (by decide) wfX5_37 (kd dtX5_offerNeed_0 1 rfl) ?_
  obtain ⟨v2, hv2, hf⟩ := kbind hf
  refine kgetIN hv2 F hX hinX1 rfl rfl rfl (by decide) (by decide) hZ wfX5_179 (kd dtX5_offerNeed_0 2 rfl) ?_
  refine lv_if_ne (tgt := 19) hx hb (kd dtX5_offerNeed_0 3 rfl) (by decide) (fun hc => ?_) (fun hc => ?_)
  · have hf := kif_neg hc hf
    obtain rfl := Option.some.inj hf
    exact kvret F hX hr hlocks rfl (kd dtX5_offerNeed_0 8 rfl)
  · have hf := kif_pos hc hf
    refine lv_aload_n hx hb (kd dtX5_offerNeed_0 4 rfl) rfl (lv_at hl 0 rfl) ?_
    obtain ⟨v3, hv3, hf⟩ := kbind hf
    refine kgetI hv3 F hX hinX5 rfl rfl rfl (by decide) (by decide) wfX5_41 (kd dtX5_offerNeed_0 5 rfl) ?_
    refine lv_bipush (v := (24 : Int32)) hx hb (kd dtX5_offerNeed_0 6 rfl) (by decide) ?_
    refine lv_icmp_lt (tgt := 20) hx hb (kd dtX5_offerNeed_0 7 rfl) (by decide) (fun hc => ?_) (fun hc => ?_)
    · have hf := kif_pos hc hf
      refine lv_aload_n hx hb (kd dtX5_offerNeed_0 9 rfl) rfl (lv_at hl 0 rfl) ?_
      obtain ⟨v4, hv4, hf⟩ := kbind hf
      refine kgetP hv4 F hX hinX5 rfl rfl rfl (by decide) (by decide) wfX5_37 (kd dtX5_offerNeed_0 10 rfl) ?_
      obtain ⟨b5, hb5, hf⟩ := kbind hf
      obtain ⟨hrb5, hkb5⟩ := kRc_s hb5
      obtain ⟨w6, h7, hf⟩ := kbind hf
      refine kcallV (n := 0) [] [] [] (rX1_settle l D aC h7) hrb5 hkb5 F hml hX hZ hl.1 mwX1_settle wmX5_182 rfl (by decide) (by decide +kernel) ⟨(by decide), (by decide)⟩ rfl rfl rfl (Nat.le_of_ble_eq_true rfl) (kd dtX5_offerNeed_0 11 rfl) ⟨Nat.zero_le _, Nat.zero_le _⟩ (fun H locs hX => ?_)
      refine lv_iconst (v := (0 : Int32)) hx hb (kd dtX5_offerNeed_0 12 rfl) (by decide) ?_
      refine lv_istore_n (lv' := [(2, .int (0 : Int32)), (0, .ref x0), (1, .int x1)]) hx hb (kd dtX5_offerNeed_0 13 rfl) rfl hl (by decide) rfl (fun ls hl => ?_)
      have hL29 : ∀ (n : Nat) (k : Int32 → Option kW), ∀ (z2_29 : Int32) (H : Heap) (locs : List Loc) (ls : Array Slot), kX D aC w s.heap w6 H locs → lv_has ls 3 [(0, .ref x0), (1, .int x1), (2, .int z2_29)] → fX5_offerNeed_L29 x0 x1 w6 n k z2_29 = some wR → (∀ (z2_29 : Int32) (H : Heap) (locs : List Loc) (ls : Array Slot), kX D aC w s.heap w6 H locs → lv_has ls 3 [(0, .ref x0), (1, .int x1), (2, .int z2_29)] → k z2_29 = some wR → W p l e { frames := 3, cells := 0, slots := 0, locals := 63 } s m ([.ref x0, .int x1] : List Value).toArray below meth c H locs 0 0 (MQ below (kQc D aC w none wR) ([.ref x0, .int x1] : List Value).toArray s 0 0 (kA w)) (F0 m 62 ls [])) → W p l e { frames := 3, cells := 0, slots := 0, locals := 63 } s m ([.ref x0, .int x1] : List Value).toArray below meth c H locs 0 0 (MQ below (kQc D aC w none wR) ([.ref x0, .int x1] : List Value).toArray s 0 0 (kA w)) (F0 m 29 ls []) := by
        intro n k
        induction n with
        | zero =>
          intro z2_29 H locs ls hX hl hf hk
          rw [fX5_offerNeed_L29] at hf
          cases hf
        | succ n ih =>
          intro z2_29 H locs ls hX hl hf hk
          rw [fX5_offerNeed_L29] at hf
          refine lv_iload_n hx hb (kd dtX5_offerNeed_0 14 rfl) rfl (lv_at hl 2 rfl) ?_
          refine lv_aload_n hx hb (kd dtX5_offerNeed_0 15 rfl) rfl (lv_at hl 0 rfl) ?_
          obtain ⟨v24, hv24, hf⟩ := kbind hf
          refine kgetI hv24 F hX hinX5 rfl rfl rfl (by decide) (by decide) wfX5_41 (kd dtX5_offerNeed_0 16 rfl) ?_
          refine lv_icmp_ge (tgt := 62) hx hb (kd dtX5_offerNeed_0 17 rfl) (by decide) (fun hc => ?_) (fun hc => ?_)
          · have hf := kif_pos hc hf
            exact hk z2_29 _ _ _ hX hl hf
          · have hf := kif_neg hc hf
            refine lv_aload_n hx hb (kd dtX5_offerNeed_0 18 rfl) rfl (lv_at hl 0 rfl) ?_
            obtain ⟨v25, hv25, hf⟩ := kbind hf
            refine kgetP hv25 F hX hinX5 rfl rfl rfl (by decide) (by decide) wfX5_11 (kd dtX5_offerNeed_0 19 rfl) ?_
            refine lv_iload_n hx hb (kd dtX5_offerNeed_0 20 rfl) rfl (lv_at hl 2 rfl) ?_
            obtain ⟨v26, hv26, hf⟩ := kbind hf
            refine kqld16 hv26 F hX (kd dtX5_offerNeed_0 21 rfl) ?_
            refine lv_iconst (v := (0 : Int32)) hx hb (kd dtX5_offerNeed_0 22 rfl) (by decide) ?_
            refine lv_aload_n hx hb (kd dtX5_offerNeed_0 23 rfl) rfl (lv_at hl 0 rfl) ?_
            obtain ⟨v27, hv27, hf⟩ := kbind hf
            refine kgetP hv27 F hX hinX5 rfl rfl rfl (by decide) (by decide) wfX5_37 (kd dtX5_offerNeed_0 24 rfl) ?_
            refine lv_iconst (v := (0 : Int32)) hx hb (kd dtX5_offerNeed_0 25 rfl) (by decide) ?_
            obtain ⟨b28, hb28, hf⟩ := kbind hf
            obtain ⟨hrb28, hkb28⟩ := kRc_s hb28
            obtain ⟨v30, h29, hf⟩ := kbind hf
            refine kcallV (n := 3) [.int (0 : Int32), va_rf v27, .int (0 : Int32)] [] [.int v30] (rX1_samePart l D aC h29) hrb28 hkb28 F hml hX hZ hl.1 mwX1_samePart wmX5_185 rfl (by decide) (by decide +kernel) ⟨(by decide), (by decide)⟩ rfl rfl rfl (Nat.le_of_ble_eq_true rfl) (kd dtX5_offerNeed_0 26 rfl) ⟨Nat.zero_le _, Nat.zero_le _⟩ (fun H locs hX => ?_)
            refine lv_if_eq (tgt := 56) hx hb (kd dtX5_offerNeed_0 27 rfl) (by decide) (fun hc => ?_) (fun hc => ?_)
            · have hf := kif_pos hc hf
              refine lv_iinc (v := z2_29 + (1 : Int32)) (lv' := [(2, .int (z2_29 + (1 : Int32))), (0, .ref x0), (1, .int x1)]) hx hb (kd dtX5_offerNeed_0 29 rfl) hl (k := 2) rfl (by rfl) (by decide) rfl (fun ls hl => ?_)
              refine lv_goto (tgt := 29) hx hb (kd dtX5_offerNeed_0 30 rfl) (by decide) ?_
              exact ih (z2_29 + (1 : Int32)) _ _ _ hX (lv_sub hl [1, 2, 0] rfl) hf hk
            · have hf := kif_neg hc hf
              obtain rfl := Option.some.inj hf
              exact kvret F hX hr hlocks rfl (kd dtX5_offerNeed_0 28 rfl)
      refine hL29 kFU _ (0 : Int32) _ _ _ hX (lv_sub hl [1, 2, 0] rfl) hf ?_
      intro y2_8 H locs ls hX hl hf
      refine lv_aload_n hx hb (kd dtX5_offerNeed_0 31 rfl) rfl (lv_at hl 0 rfl) ?_
      obtain ⟨v9, hv9, hf⟩ := kbind hf
      refine kgetP hv9 F hX hinX5 rfl rfl rfl (by decide) (by decide) wfX5_11 (kd dtX5_offerNeed_0 32 rfl) ?_
      refine lv_aload_n hx hb (kd dtX5_offerNeed_0 33 rfl) rfl (lv_at hl 0 rfl) ?_
      obtain ⟨v10, hv10, hf⟩ := kbind hf
      refine kgetI hv10 F hX hinX5 rfl rfl rfl (by decide) (by decide) wfX5_41 (kd dtX5_offerNeed_0 34 rfl) ?_
      obtain ⟨v11, hv11, hf⟩ := kbind hf
      refine kqld16 hv11 F hX (kd dtX5_offerNeed_0 35 rfl) ?_
      refine kastore_n (lv' := [(2, va_rf v11), (0, .ref x0), (1, .int x1)]) hx hb (kd dtX5_offerNeed_0 36 rfl) rfl hl (by decide) rfl (fun ls hl => ?_)
      refine lv_aload_n hx hb (kd dtX5_offerNeed_0 37 rfl) rfl (lv_at hl 1 rfl) ?_
      obtain ⟨v12, hv12, hf⟩ := kbind hf
      refine kgetP hv12 F hX hinX5 rfl rfl rfl (by decide) (by decide) wfX5_11 (kd dtX5_offerNeed_0 38 rfl) ?_
      refine lv_aload_n hx hb (kd dtX5_offerNeed_0 39 rfl) rfl (lv_at hl 1 rfl) ?_
      obtain ⟨v13, hv13, hf⟩ := kbind hf
      refine kgetI hv13 F hX hinX5 rfl rfl rfl (by decide) (by decide) wfX5_41 (kd dtX5_offerNeed_0 40 rfl) ?_
      refine lv_aload_n hx hb (kd dtX5_offerNeed_0 41 rfl) rfl (lv_at hl 1 rfl) ?_
      obtain ⟨v14, hv14, hf⟩ := kbind hf
      refine kgetP hv14 F hX hinX5 rfl rfl rfl (by decide) (by decide) wfX5_37 (kd dtX5_offerNeed_0 42 rfl) ?_
      obtain ⟨w15, hw15, hf⟩ := kbind hf
      refine kqst16 hw15 F hX (kd dtX5_offerNeed_0 43 rfl) (fun H locs hX => ?_)
      refine lv_aload_n hx hb (kd dtX5_offerNeed_0 44 rfl) rfl (lv_at hl 1 rfl) ?_
      obtain ⟨v16, hv16, hf⟩ := kbind hf
      refine kgetP hv16 F hX hinX5 rfl rfl rfl (by decide) (by decide) wfX5_17 (kd dtX5_offerNeed_0 45 rfl) ?_
      refine lv_aload_n hx hb (kd dtX5_offerNeed_0 46 rfl) rfl (lv_at hl 1 rfl) ?_
      obtain ⟨v17, hv17, hf⟩ := kbind hf
      refine kgetI hv17 F hX hinX5 rfl rfl rfl (by decide) (by decide) wfX5_41 (kd dtX5_offerNeed_0 47 rfl) ?_
      refine lv_aload_n hx hb (kd dtX5_offerNeed_0 48 rfl) rfl (lv_at hl 1 rfl) ?_
      obtain ⟨v18, hv18, hf⟩ := kbind hf
      refine kgetP hv18 F hX hinX5 rfl rfl rfl (by decide) (by decide) wfX5_17 (kd dtX5_offerNeed_0 49 rfl) ?_
      refine lv_iload_n hx hb (kd dtX5_offerNeed_0 50 rfl) rfl (lv_at hl 2 rfl) ?_
      obtain ⟨v19, hv19, hf⟩ := kbind hf
      refine kald hv19 F hX (kd dtX5_offerNeed_0 51 rfl) ?_
      refine lv_iconst (v := (1 : Int32)) hx hb (kd dtX5_offerNeed_0 52 rfl) (by decide) ?_
      refine lv_iadd hx hb (kd dtX5_offerNeed_0 53 rfl) ?_
      obtain ⟨w20, hw20, hf⟩ := kbind hf
      refine kast hw20 F hX (kd dtX5_offerNeed_0 54 rfl) (fun H locs hX => ?_)
      refine lv_aload_n hx hb (kd dtX5_offerNeed_0 55 rfl) rfl (lv_at hl 1 rfl) ?_
      refine lv_dup hx hb (kd dtX5_offerNeed_0 56 rfl) rfl ?_
      obtain ⟨v21, hv21, hf⟩ := kbind hf
      refine kgetI hv21 F hX hinX5 rfl rfl rfl (by decide) (by decide) wfX5_41 (kd dtX5_offerNeed_0 57 rfl) ?_
      refine lv_iconst (v := (1 : Int32)) hx hb (kd dtX5_offerNeed_0 58 rfl) (by decide) ?_
      refine lv_iadd hx hb (kd dtX5_offerNeed_0 59 rfl) ?_
      obtain ⟨w22, hw22, hf⟩ := kbind hf
      refine kputI hw22 F hX hinX5 tyX5_ok nmX5 rfl rfl rfl (by decide) (by decide) wfX5_41 rfl rfl (Or.inl rfl) (kd dtX5_offerNeed_0 60 rfl) (fun H locs hX => ?_)
      refine lv_aload_n hx hb (kd dtX5_offerNeed_0 61 rfl) rfl (lv_at hl 1 rfl) ?_
      refine kaload_n hx hb (kd dtX5_offerNeed_0 62 rfl) rfl (lv_at hl 0 rfl) ?_
      obtain ⟨w23, hw23, hf⟩ := kbind hf
      refine kputP hw23 F hX hinX5 tyX5_ok nmX5 rfl rfl rfl (by decide) (by decide) wfX5_37 (Or.inl rfl) (kd dtX5_offerNeed_0 63 rfl) (fun H locs hX => ?_)
      obtain rfl := Option.some.inj hf
      exact kvret F hX hr hlocks rfl (kd dtX5_offerNeed_0 64 rfl)
    · have hf := kif_neg hc hf
      obtain rfl := Option.some.inj hf
      exact kvret F hX hr hlocks rfl (kd dtX5_offerNeed_0 8 rfl)
theorem wmX5_156 : Cond.methodLink RX5 156 yX1_isIf ∈ kT := kTm 902 (by decide +kernel) rfl
theorem wmX5_159 : Cond.methodLink RX5 159 yX1_second ∈ kT := kTm 903 (by decide +kernel) rfl
theorem wmX5_163 : Cond.methodLink RX5 163 yX1_clear ∈ kT := kTm 904 (by decide +kernel) rfl
theorem wmX5_166 : Cond.methodLink RX5 166 yX4_addPut ∈ kT := kTm 905 (by decide +kernel) rfl
theorem mwX4_addPut : kMV RX4 yX4_addPut cX4_addPut 7 none := ⟨kTm 908 (by decide +kernel) rfl, kTm 100 (by decide +kernel) rfl, kTm 906 (by decide +kernel) rfl, kTm 907 (by decide +kernel) rfl⟩
theorem wmX5_170 : Cond.methodLink RX5 170 yX5_offerNeed ∈ kT := kTm 912 (by decide +kernel) rfl
theorem mwX5_offerNeed : kMV RX5 yX5_offerNeed cX5_offerNeed 3 none := ⟨kTm 915 (by decide +kernel) rfl, kTm 103 (by decide +kernel) rfl, kTm 914 (by decide +kernel) rfl, kTm 30 (by decide +kernel) rfl⟩
def lX5_tryBack_0 : List (Nat × Instr × Nat) := [(0, .aload_n 3, 1), (1, .invokevirtual 156, 3), (4, .ifCond .ne 4, 3), (7, .return_, 1), (8, .aload_n 3, 1), (9, .invokevirtual 159, 3), (12, .istore 4, 2), (14, .aload_n 0, 1), (15, .aload_n 2, 1), (16, .iconst 0, 1), (17, .aload_n 3, 1), (18, .iload 4, 2), (20, .invokevirtual 142, 3), (23, .ifCond .eq 43, 3), (26, .aload_n 0, 1), (27, .getfield 30, 3), (30, .aload_n 3, 1), (31, .iload 4, 2), (33, .aload_n 2, 1), (34, .iconst 0, 1), (35, .invokevirtual 146, 3), (38, .ifCond .eq 28, 3), (41, .aload_n 0, 1), (42, .getfield 37, 3), (45, .invokevirtual 163, 3), (48, .aload_n 0, 1), (49, .getfield 30, 3), (52, .aload_n 0, 1), (53, .getfield 37, 3), (56, .aload_n 3, 1), (57, .iconst 1, 1), (58, .invokevirtual 166, 3), (61, .aload_n 0, 1), (62, .iload_n 1, 1), (63, .invokevirtual 170, 3), (66, .return_, 1)]
theorem dtX5_tryBack_0 : kDec cX5_tryBack lX5_tryBack_0 = true := by decide +kernel
noncomputable def fX5_tryBack (x0 : Nat) (x1 : Int32) (x2 : Option Nat) (x3 : Option Nat) (w : kW) : Option kW :=
  (kRc w 1 x3).bind fun b1 =>
  (fX1_isIf b1 w).bind fun v3 =>
  if v3 = 0 then
  some w
  else
  (kRc w 1 x3).bind fun b4 =>
  (fX1_second b4 w).bind fun v6 =>
  (kRc w 5 (some x0)).bind fun b7 =>
  kb2 (fX5_isDone b7 x2 (0 : Int32) x3 v6 w) fun v10 w8 =>
  if v10 = 0 then
  some w8
  else
  (kgP w8 5 (some x0) 4).bind fun v11 =>
  (kRc w8 4 v11).bind fun b12 =>
  kb2 (fX4_makes b12 x3 v6 x2 (0 : Int32) w8) fun v15 w13 =>
  if v15 = 0 then
  some w13
  else
  (kgP w13 5 (some x0) 5).bind fun v16 =>
  (kRc w13 1 v16).bind fun b17 =>
  (fX1_clear b17 w13).bind fun w18 =>
  (kgP w18 5 (some x0) 4).bind fun v20 =>
  (kgP w18 5 (some x0) 5).bind fun v21 =>
  (kRc w18 4 v20).bind fun b22 =>
  (fX4_addPut b22 v21 x3 (1 : Int32) w18).bind fun w23 =>
  (kRc w23 5 (some x0)).bind fun b25 =>
  (fX5_offerNeed b25 x1 w23).bind fun w26 =>
  some w26

set_option maxHeartbeats 4000000 in
set_option maxRecDepth 100000 in
theorem rX5_tryBack (l : Launch) (D : va_G) (aC : Nat → ClassId) {x0 : Nat} {x1 : Int32} {x2 : Option Nat} {x3 : Option Nat} {w : kW} {wR : kW} (h : fX5_tryBack x0 x1 x2 x3 w = some wR) : kC l D aC yX5_tryBack cX5_tryBack 5 none 5 100 [.ref x0, .int x1, va_rf x2, va_rf x3] w none wR 0 0 := by
  refine kOf (own := RX5) (by decide) rfl (by simp [lg_sl, kcat_rf, kcat_i, kcat_r, kcat_l]) ?_
  intro p e s m below meth c ls F hml hr hlocks hnm hX hZ hl
  obtain ⟨hx, hb, hts, hown, hK⟩ := id F
  have hl : lv_has ls 5 [(0, .ref x0), (1, .int x1), (2, va_rf x2), (3, va_rf x3)] := by simpa [lv_args, kcat_rf, kcat_i, kcat_r, kcat_l] using hl
  have hf := h
  rw [fX5_tryBack] at hf
  refine kaload_n hx hb (kd dtX5_tryBack_0 0 rfl) rfl (lv_at hl 3 rfl) ?_
  obtain ⟨b1, hb1, hf⟩ := kbind hf
  obtain ⟨hrb1, hkb1⟩ := kRc_s hb1
  obtain ⟨v3, h2, hf⟩ := kbind hf
  refine kcallV (n := 0) [] [] [.int v3] (rX1_isIf l D aC h2) hrb1 hkb1 F hml hX hZ hl.1 mwX1_isIf wmX5_156 rfl (by decide) (by decide +kernel) ⟨(by decide), (by decide)⟩ rfl rfl rfl (Nat.le_of_ble_eq_true rfl) (kd dtX5_tryBack_0 1 rfl) ⟨Nat.zero_le _, Nat.zero_le _⟩ (fun H locs hX => ?_)
  refine lv_if_ne (tgt := 8) hx hb (kd dtX5_tryBack_0 2 rfl) (by decide) (fun hc => ?_) (fun hc => ?_)
  · have hf := kif_neg hc hf
    refine kaload_n hx hb (kd dtX5_tryBack_0 4 rfl) rfl (lv_at hl 3 rfl) ?_
    obtain ⟨b4, hb4, hf⟩ := kbind hf
    obtain ⟨hrb4, hkb4⟩ := kRc_s hb4
    obtain ⟨v6, h5, hf⟩ := kbind hf
    refine kcallV (n := 0) [] [] [.int v6] (rX1_second l D aC h5) hrb4 hkb4 F hml hX hZ hl.1 mwX1_second wmX5_159 rfl (by decide) (by decide +kernel) ⟨(by decide), (by decide)⟩ rfl rfl rfl (Nat.le_of_ble_eq_true rfl) (kd dtX5_tryBack_0 5 rfl) ⟨Nat.zero_le _, Nat.zero_le _⟩ (fun H locs hX => ?_)
    refine lv_istore (i := 4) (lv' := [(4, .int v6), (0, .ref x0), (1, .int x1), (2, va_rf x2), (3, va_rf x3)]) hx hb (kd dtX5_tryBack_0 6 rfl) hl (by decide) (by simp [kcat_rf, kcat_i, kcat_r, kcat_l]) (fun ls hl => ?_)
    refine lv_aload_n hx hb (kd dtX5_tryBack_0 7 rfl) rfl (lv_at hl 1 rfl) ?_
    refine kaload_n hx hb (kd dtX5_tryBack_0 8 rfl) rfl (lv_at hl 3 rfl) ?_
    refine lv_iconst (v := (0 : Int32)) hx hb (kd dtX5_tryBack_0 9 rfl) (by decide) ?_
    refine kaload_n hx hb (kd dtX5_tryBack_0 10 rfl) rfl (lv_at hl 4 rfl) ?_
    refine lv_iload hx hb (kd dtX5_tryBack_0 11 rfl) (lv_at hl 0 rfl) ?_
    obtain ⟨b7, hb7, hf⟩ := kbind hf
    obtain ⟨hrb7, hkb7⟩ := kRc_s hb7
    obtain ⟨v10, w8, h9, hf⟩ := kbind2 hf
    refine kcallV (n := 4) [va_rf x2, .int (0 : Int32), va_rf x3, .int v6] [] [.int v10] (rX5_isDone l D aC h9) hrb7 hkb7 F hml hX hZ hl.1 mwX5_isDone wmX5_142 rfl (by decide) (by decide +kernel) ⟨(by decide), (by decide)⟩ rfl rfl rfl (Nat.le_of_ble_eq_true rfl) (kd dtX5_tryBack_0 12 rfl) ⟨Nat.zero_le _, Nat.zero_le _⟩ (fun H locs hX => ?_)
    refine lv_if_eq (tgt := 66) hx hb (kd dtX5_tryBack_0 13 rfl) (by decide) (fun hc => ?_) (fun hc => ?_)
    · have hf := kif_pos hc hf
      obtain rfl := Option.some.inj hf
      exact kvret F hX hr hlocks rfl (kd dtX5_tryBack_0 35 rfl)
    · have hf := kif_neg hc hf
      refine lv_aload_n hx hb (kd dtX5_tryBack_0 14 rfl) rfl (lv_at hl 1 rfl) ?_
      obtain ⟨v11, hv11, hf⟩ := kbind hf
      refine kgetP hv11 F hX hinX5 rfl rfl rfl (by decide) (by decide) wfX5_30 (kd dtX5_tryBack_0 15 rfl) ?_
      refine kaload_n hx hb (kd dtX5_tryBack_0 16 rfl) rfl (lv_at hl 4 rfl) ?_
      refine lv_iload hx hb (kd dtX5_tryBack_0 17 rfl) (lv_at hl 0 rfl) ?_
      refine kaload_n hx hb (kd dtX5_tryBack_0 18 rfl) rfl (lv_at hl 3 rfl) ?_
      refine lv_iconst (v := (0 : Int32)) hx hb (kd dtX5_tryBack_0 19 rfl) (by decide) ?_
      obtain ⟨b12, hb12, hf⟩ := kbind hf
      obtain ⟨hrb12, hkb12⟩ := kRc_s hb12
      obtain ⟨v15, w13, h14, hf⟩ := kbind2 hf
      refine kcallV (n := 4) [va_rf x3, .int v6, va_rf x2, .int (0 : Int32)] [] [.int v15] (rX4_makes l D aC h14) hrb12 hkb12 F hml hX hZ hl.1 mwX4_makes wmX5_146 rfl (by decide) (by decide +kernel) ⟨(by decide), (by decide)⟩ rfl rfl rfl (Nat.le_of_ble_eq_true rfl) (kd dtX5_tryBack_0 20 rfl) ⟨Nat.zero_le _, Nat.zero_le _⟩ (fun H locs hX => ?_)
      refine lv_if_eq (tgt := 66) hx hb (kd dtX5_tryBack_0 21 rfl) (by decide) (fun hc => ?_) (fun hc => ?_)
      · have hf := kif_pos hc hf
        obtain rfl := Option.some.inj hf
        exact kvret F hX hr hlocks rfl (kd dtX5_tryBack_0 35 rfl)
      · have hf := kif_neg hc hf
        refine lv_aload_n hx hb (kd dtX5_tryBack_0 22 rfl) rfl (lv_at hl 1 rfl) ?_
        obtain ⟨v16, hv16, hf⟩ := kbind hf
        refine kgetP hv16 F hX hinX5 rfl rfl rfl (by decide) (by decide) wfX5_37 (kd dtX5_tryBack_0 23 rfl) ?_
        obtain ⟨b17, hb17, hf⟩ := kbind hf
        obtain ⟨hrb17, hkb17⟩ := kRc_s hb17
        obtain ⟨w18, h19, hf⟩ := kbind hf
        refine kcallV (n := 0) [] [] [] (rX1_clear l D aC h19) hrb17 hkb17 F hml hX hZ hl.1 mwX1_clear wmX5_163 rfl (by decide) (by decide +kernel) ⟨(by decide), (by decide)⟩ rfl rfl rfl (Nat.le_of_ble_eq_true rfl) (kd dtX5_tryBack_0 24 rfl) ⟨Nat.zero_le _, Nat.zero_le _⟩ (fun H locs hX => ?_)
        refine lv_aload_n hx hb (kd dtX5_tryBack_0 25 rfl) rfl (lv_at hl 1 rfl) ?_
        obtain ⟨v20, hv20, hf⟩ := kbind hf
        refine kgetP hv20 F hX hinX5 rfl rfl rfl (by decide) (by decide) wfX5_30 (kd dtX5_tryBack_0 26 rfl) ?_
        refine lv_aload_n hx hb (kd dtX5_tryBack_0 27 rfl) rfl (lv_at hl 1 rfl) ?_
        obtain ⟨v21, hv21, hf⟩ := kbind hf
        refine kgetP hv21 F hX hinX5 rfl rfl rfl (by decide) (by decide) wfX5_37 (kd dtX5_tryBack_0 28 rfl) ?_
        refine kaload_n hx hb (kd dtX5_tryBack_0 29 rfl) rfl (lv_at hl 4 rfl) ?_
        refine lv_iconst (v := (1 : Int32)) hx hb (kd dtX5_tryBack_0 30 rfl) (by decide) ?_
        obtain ⟨b22, hb22, hf⟩ := kbind hf
        obtain ⟨hrb22, hkb22⟩ := kRc_s hb22
        obtain ⟨w23, h24, hf⟩ := kbind hf
        refine kcallV (n := 3) [va_rf v21, va_rf x3, .int (1 : Int32)] [] [] (rX4_addPut l D aC h24) hrb22 hkb22 F hml hX hZ hl.1 mwX4_addPut wmX5_166 rfl (by decide) (by decide +kernel) ⟨(by decide), (by decide)⟩ rfl rfl rfl (Nat.le_of_ble_eq_true rfl) (kd dtX5_tryBack_0 31 rfl) ⟨Nat.zero_le _, Nat.zero_le _⟩ (fun H locs hX => ?_)
        refine lv_aload_n hx hb (kd dtX5_tryBack_0 32 rfl) rfl (lv_at hl 1 rfl) ?_
        refine lv_iload_n hx hb (kd dtX5_tryBack_0 33 rfl) rfl (lv_at hl 2 rfl) ?_
        obtain ⟨b25, hb25, hf⟩ := kbind hf
        obtain ⟨hrb25, hkb25⟩ := kRc_s hb25
        obtain ⟨w26, h27, hf⟩ := kbind hf
        refine kcallV (n := 1) [.int x1] [] [] (rX5_offerNeed l D aC h27) hrb25 hkb25 F hml hX hZ hl.1 mwX5_offerNeed wmX5_170 rfl (by decide) (by decide +kernel) ⟨(by decide), (by decide)⟩ rfl rfl rfl (Nat.le_of_ble_eq_true rfl) (kd dtX5_tryBack_0 34 rfl) ⟨Nat.zero_le _, Nat.zero_le _⟩ (fun H locs hX => ?_)
        obtain rfl := Option.some.inj hf
        exact kvret F hX hr hlocks rfl (kd dtX5_tryBack_0 35 rfl)
  · have hf := kif_pos hc hf
    obtain rfl := Option.some.inj hf
    exact kvret F hX hr hlocks rfl (kd dtX5_tryBack_0 3 rfl)
theorem wmX5_173 : Cond.methodLink RX5 173 yX1_add ∈ kT := kTm 922 (by decide +kernel) rfl
theorem wmX5_176 : Cond.methodLink RX5 176 yX1_addPart ∈ kT := kTm 923 (by decide +kernel) rfl
def lX5_tryChainAhead_0 : List (Nat × Instr × Nat) := [(0, .aload_n 3, 1), (1, .invokevirtual 156, 3), (4, .ifCond .eq 10, 3), (7, .aload_n 2, 1), (8, .invokevirtual 156, 3), (11, .ifCond .ne 4, 3), (14, .return_, 1), (15, .aload_n 0, 1), (16, .aload_n 2, 1), (17, .iconst 1, 1), (18, .aload_n 3, 1), (19, .iconst 1, 1), (20, .invokevirtual 142, 3), (23, .ifCond .eq 66, 3), (26, .aload_n 0, 1), (27, .getfield 30, 3), (30, .aload_n 3, 1), (31, .iconst 1, 1), (32, .aload_n 2, 1), (33, .iconst 1, 1), (34, .invokevirtual 146, 3), (37, .ifCond .eq 52, 3), (40, .aload_n 0, 1), (41, .getfield 37, 3), (44, .invokevirtual 163, 3), (47, .aload_n 0, 1), (48, .getfield 37, 3), (51, .bipush 62, 2), (53, .invokevirtual 173, 3), (56, .aload_n 0, 1), (57, .getfield 30, 3), (60, .aload_n 0, 1), (61, .getfield 37, 3), (64, .aload_n 3, 1), (65, .aload_n 3, 1), (66, .invokevirtual 159, 3), (69, .invokevirtual 166, 3), (72, .aload_n 0, 1), (73, .getfield 37, 3), (76, .aload_n 2, 1), (77, .aload_n 2, 1), (78, .invokevirtual 159, 3), (81, .invokevirtual 176, 3), (84, .aload_n 0, 1), (85, .iload_n 1, 1), (86, .invokevirtual 170, 3), (89, .return_, 1)]
theorem dtX5_tryChainAhead_0 : kDec cX5_tryChainAhead lX5_tryChainAhead_0 = true := by decide +kernel
noncomputable def fX5_tryChainAhead (x0 : Nat) (x1 : Int32) (x2 : Option Nat) (x3 : Option Nat) (w : kW) : Option kW :=
  (kRc w 1 x3).bind fun b1 =>
  (fX1_isIf b1 w).bind fun v3 =>
  if v3 = 0 then
  some w
  else
  (kRc w 1 x2).bind fun b4 =>
  (fX1_isIf b4 w).bind fun v6 =>
  if v6 = 0 then
  some w
  else
  (kRc w 5 (some x0)).bind fun b7 =>
  kb2 (fX5_isDone b7 x2 (1 : Int32) x3 (1 : Int32) w) fun v10 w8 =>
  if v10 = 0 then
  some w8
  else
  (kgP w8 5 (some x0) 4).bind fun v11 =>
  (kRc w8 4 v11).bind fun b12 =>
  kb2 (fX4_makes b12 x3 (1 : Int32) x2 (1 : Int32) w8) fun v15 w13 =>
  if v15 = 0 then
  some w13
  else
  (kgP w13 5 (some x0) 5).bind fun v16 =>
  (kRc w13 1 v16).bind fun b17 =>
  (fX1_clear b17 w13).bind fun w18 =>
  (kgP w18 5 (some x0) 5).bind fun v20 =>
  (kRc w18 1 v20).bind fun b21 =>
  (fX1_add b21 (62 : Int32) w18).bind fun w22 =>
  (kgP w22 5 (some x0) 4).bind fun v24 =>
  (kgP w22 5 (some x0) 5).bind fun v25 =>
  (kRc w22 1 x3).bind fun b26 =>
  (fX1_second b26 w22).bind fun v28 =>
  (kRc w22 4 v24).bind fun b29 =>
  (fX4_addPut b29 v25 x3 v28 w22).bind fun w30 =>
  (kgP w30 5 (some x0) 5).bind fun v32 =>
  (kRc w30 1 x2).bind fun b33 =>
  (fX1_second b33 w30).bind fun v35 =>
  (kRc w30 1 v32).bind fun b36 =>
  (fX1_addPart b36 x2 v35 w30).bind fun w37 =>
  (kRc w37 5 (some x0)).bind fun b39 =>
  (fX5_offerNeed b39 x1 w37).bind fun w40 =>
  some w40

set_option maxHeartbeats 4000000 in
set_option maxRecDepth 100000 in
theorem rX5_tryChainAhead (l : Launch) (D : va_G) (aC : Nat → ClassId) {x0 : Nat} {x1 : Int32} {x2 : Option Nat} {x3 : Option Nat} {w : kW} {wR : kW} (h : fX5_tryChainAhead x0 x1 x2 x3 w = some wR) : kC l D aC yX5_tryChainAhead cX5_tryChainAhead 4 none 5 100 [.ref x0, .int x1, va_rf x2, va_rf x3] w none wR 0 0 := by
  refine kOf (own := RX5) (by decide) rfl (by simp [lg_sl, kcat_rf, kcat_i, kcat_r, kcat_l]) ?_
  intro p e s m below meth c ls F hml hr hlocks hnm hX hZ hl
  obtain ⟨hx, hb, hts, hown, hK⟩ := id F
  have hl : lv_has ls 4 [(0, .ref x0), (1, .int x1), (2, va_rf x2), (3, va_rf x3)] := by simpa [lv_args, kcat_rf, kcat_i, kcat_r, kcat_l] using hl
  have hf := h
  rw [fX5_tryChainAhead] at hf
  refine kaload_n hx hb (kd dtX5_tryChainAhead_0 0 rfl) rfl (lv_at hl 3 rfl) ?_
  obtain ⟨b1, hb1, hf⟩ := kbind hf
  obtain ⟨hrb1, hkb1⟩ := kRc_s hb1
  obtain ⟨v3, h2, hf⟩ := kbind hf
  refine kcallV (n := 0) [] [] [.int v3] (rX1_isIf l D aC h2) hrb1 hkb1 F hml hX hZ hl.1 mwX1_isIf wmX5_156 rfl (by decide) (by decide +kernel) ⟨(by decide), (by decide)⟩ rfl rfl rfl (Nat.le_of_ble_eq_true rfl) (kd dtX5_tryChainAhead_0 1 rfl) ⟨Nat.zero_le _, Nat.zero_le _⟩ (fun H locs hX => ?_)
  refine lv_if_eq (tgt := 14) hx hb (kd dtX5_tryChainAhead_0 2 rfl) (by decide) (fun hc => ?_) (fun hc => ?_)
  · have hf := kif_pos hc hf
    obtain rfl := Option.some.inj hf
    exact kvret F hX hr hlocks rfl (kd dtX5_tryChainAhead_0 6 rfl)
  · have hf := kif_neg hc hf
    refine kaload_n hx hb (kd dtX5_tryChainAhead_0 3 rfl) rfl (lv_at hl 2 rfl) ?_
    obtain ⟨b4, hb4, hf⟩ := kbind hf
    obtain ⟨hrb4, hkb4⟩ := kRc_s hb4
    obtain ⟨v6, h5, hf⟩ := kbind hf
    refine kcallV (n := 0) [] [] [.int v6] (rX1_isIf l D aC h5) hrb4 hkb4 F hml hX hZ hl.1 mwX1_isIf wmX5_156 rfl (by decide) (by decide +kernel) ⟨(by decide), (by decide)⟩ rfl rfl rfl (Nat.le_of_ble_eq_true rfl) (kd dtX5_tryChainAhead_0 4 rfl) ⟨Nat.zero_le _, Nat.zero_le _⟩ (fun H locs hX => ?_)
    refine lv_if_ne (tgt := 15) hx hb (kd dtX5_tryChainAhead_0 5 rfl) (by decide) (fun hc => ?_) (fun hc => ?_)
    · have hf := kif_neg hc hf
      refine lv_aload_n hx hb (kd dtX5_tryChainAhead_0 7 rfl) rfl (lv_at hl 0 rfl) ?_
      refine kaload_n hx hb (kd dtX5_tryChainAhead_0 8 rfl) rfl (lv_at hl 2 rfl) ?_
      refine lv_iconst (v := (1 : Int32)) hx hb (kd dtX5_tryChainAhead_0 9 rfl) (by decide) ?_
      refine kaload_n hx hb (kd dtX5_tryChainAhead_0 10 rfl) rfl (lv_at hl 3 rfl) ?_
      refine lv_iconst (v := (1 : Int32)) hx hb (kd dtX5_tryChainAhead_0 11 rfl) (by decide) ?_
      obtain ⟨b7, hb7, hf⟩ := kbind hf
      obtain ⟨hrb7, hkb7⟩ := kRc_s hb7
      obtain ⟨v10, w8, h9, hf⟩ := kbind2 hf
      refine kcallV (n := 4) [va_rf x2, .int (1 : Int32), va_rf x3, .int (1 : Int32)] [] [.int v10] (rX5_isDone l D aC h9) hrb7 hkb7 F hml hX hZ hl.1 mwX5_isDone wmX5_142 rfl (by decide) (by decide +kernel) ⟨(by decide), (by decide)⟩ rfl rfl rfl (Nat.le_of_ble_eq_true rfl) (kd dtX5_tryChainAhead_0 12 rfl) ⟨Nat.zero_le _, Nat.zero_le _⟩ (fun H locs hX => ?_)
      refine lv_if_eq (tgt := 89) hx hb (kd dtX5_tryChainAhead_0 13 rfl) (by decide) (fun hc => ?_) (fun hc => ?_)
      · have hf := kif_pos hc hf
        obtain rfl := Option.some.inj hf
        exact kvret F hX hr hlocks rfl (kd dtX5_tryChainAhead_0 46 rfl)
      · have hf := kif_neg hc hf
        refine lv_aload_n hx hb (kd dtX5_tryChainAhead_0 14 rfl) rfl (lv_at hl 0 rfl) ?_
        obtain ⟨v11, hv11, hf⟩ := kbind hf
        refine kgetP hv11 F hX hinX5 rfl rfl rfl (by decide) (by decide) wfX5_30 (kd dtX5_tryChainAhead_0 15 rfl) ?_
        refine kaload_n hx hb (kd dtX5_tryChainAhead_0 16 rfl) rfl (lv_at hl 3 rfl) ?_
        refine lv_iconst (v := (1 : Int32)) hx hb (kd dtX5_tryChainAhead_0 17 rfl) (by decide) ?_
        refine kaload_n hx hb (kd dtX5_tryChainAhead_0 18 rfl) rfl (lv_at hl 2 rfl) ?_
        refine lv_iconst (v := (1 : Int32)) hx hb (kd dtX5_tryChainAhead_0 19 rfl) (by decide) ?_
        obtain ⟨b12, hb12, hf⟩ := kbind hf
        obtain ⟨hrb12, hkb12⟩ := kRc_s hb12
        obtain ⟨v15, w13, h14, hf⟩ := kbind2 hf
        refine kcallV (n := 4) [va_rf x3, .int (1 : Int32), va_rf x2, .int (1 : Int32)] [] [.int v15] (rX4_makes l D aC h14) hrb12 hkb12 F hml hX hZ hl.1 mwX4_makes wmX5_146 rfl (by decide) (by decide +kernel) ⟨(by decide), (by decide)⟩ rfl rfl rfl (Nat.le_of_ble_eq_true rfl) (kd dtX5_tryChainAhead_0 20 rfl) ⟨Nat.zero_le _, Nat.zero_le _⟩ (fun H locs hX => ?_)
        refine lv_if_eq (tgt := 89) hx hb (kd dtX5_tryChainAhead_0 21 rfl) (by decide) (fun hc => ?_) (fun hc => ?_)
        · have hf := kif_pos hc hf
          obtain rfl := Option.some.inj hf
          exact kvret F hX hr hlocks rfl (kd dtX5_tryChainAhead_0 46 rfl)
        · have hf := kif_neg hc hf
          refine lv_aload_n hx hb (kd dtX5_tryChainAhead_0 22 rfl) rfl (lv_at hl 0 rfl) ?_
          obtain ⟨v16, hv16, hf⟩ := kbind hf
          refine kgetP hv16 F hX hinX5 rfl rfl rfl (by decide) (by decide) wfX5_37 (kd dtX5_tryChainAhead_0 23 rfl) ?_
          obtain ⟨b17, hb17, hf⟩ := kbind hf
          obtain ⟨hrb17, hkb17⟩ := kRc_s hb17
          obtain ⟨w18, h19, hf⟩ := kbind hf
          refine kcallV (n := 0) [] [] [] (rX1_clear l D aC h19) hrb17 hkb17 F hml hX hZ hl.1 mwX1_clear wmX5_163 rfl (by decide) (by decide +kernel) ⟨(by decide), (by decide)⟩ rfl rfl rfl (Nat.le_of_ble_eq_true rfl) (kd dtX5_tryChainAhead_0 24 rfl) ⟨Nat.zero_le _, Nat.zero_le _⟩ (fun H locs hX => ?_)
          refine lv_aload_n hx hb (kd dtX5_tryChainAhead_0 25 rfl) rfl (lv_at hl 0 rfl) ?_
          obtain ⟨v20, hv20, hf⟩ := kbind hf
          refine kgetP hv20 F hX hinX5 rfl rfl rfl (by decide) (by decide) wfX5_37 (kd dtX5_tryChainAhead_0 26 rfl) ?_
          refine lv_bipush (v := (62 : Int32)) hx hb (kd dtX5_tryChainAhead_0 27 rfl) (by decide) ?_
          obtain ⟨b21, hb21, hf⟩ := kbind hf
          obtain ⟨hrb21, hkb21⟩ := kRc_s hb21
          obtain ⟨w22, h23, hf⟩ := kbind hf
          refine kcallV (n := 1) [.int (62 : Int32)] [] [] (rX1_add l D aC h23) hrb21 hkb21 F hml hX hZ hl.1 mwX1_add wmX5_173 rfl (by decide) (by decide +kernel) ⟨(by decide), (by decide)⟩ rfl rfl rfl (Nat.le_of_ble_eq_true rfl) (kd dtX5_tryChainAhead_0 28 rfl) ⟨Nat.zero_le _, Nat.zero_le _⟩ (fun H locs hX => ?_)
          refine lv_aload_n hx hb (kd dtX5_tryChainAhead_0 29 rfl) rfl (lv_at hl 0 rfl) ?_
          obtain ⟨v24, hv24, hf⟩ := kbind hf
          refine kgetP hv24 F hX hinX5 rfl rfl rfl (by decide) (by decide) wfX5_30 (kd dtX5_tryChainAhead_0 30 rfl) ?_
          refine lv_aload_n hx hb (kd dtX5_tryChainAhead_0 31 rfl) rfl (lv_at hl 0 rfl) ?_
          obtain ⟨v25, hv25, hf⟩ := kbind hf
          refine kgetP hv25 F hX hinX5 rfl rfl rfl (by decide) (by decide) wfX5_37 (kd dtX5_tryChainAhead_0 32 rfl) ?_
          refine kaload_n hx hb (kd dtX5_tryChainAhead_0 33 rfl) rfl (lv_at hl 3 rfl) ?_
          refine kaload_n hx hb (kd dtX5_tryChainAhead_0 34 rfl) rfl (lv_at hl 3 rfl) ?_
          obtain ⟨b26, hb26, hf⟩ := kbind hf
          obtain ⟨hrb26, hkb26⟩ := kRc_s hb26
          obtain ⟨v28, h27, hf⟩ := kbind hf
          refine kcallV (n := 0) [] [va_rf x3, va_rf v25, va_rf v24] [.int v28, va_rf x3, va_rf v25, va_rf v24] (rX1_second l D aC h27) hrb26 hkb26 F hml hX hZ hl.1 mwX1_second wmX5_159 rfl (by decide) (by decide +kernel) ⟨(by decide), (by decide)⟩ rfl rfl rfl (by simp [kcat_rf, kcat_i, kcat_r, kcat_l]) (kd dtX5_tryChainAhead_0 35 rfl) ⟨Nat.zero_le _, Nat.zero_le _⟩ (fun H locs hX => ?_)
          obtain ⟨b29, hb29, hf⟩ := kbind hf
          obtain ⟨hrb29, hkb29⟩ := kRc_s hb29
          obtain ⟨w30, h31, hf⟩ := kbind hf
          refine kcallV (n := 3) [va_rf v25, va_rf x3, .int v28] [] [] (rX4_addPut l D aC h31) hrb29 hkb29 F hml hX hZ hl.1 mwX4_addPut wmX5_166 rfl (by decide) (by decide +kernel) ⟨(by decide), (by decide)⟩ rfl rfl rfl (Nat.le_of_ble_eq_true rfl) (kd dtX5_tryChainAhead_0 36 rfl) ⟨Nat.zero_le _, Nat.zero_le _⟩ (fun H locs hX => ?_)
          refine lv_aload_n hx hb (kd dtX5_tryChainAhead_0 37 rfl) rfl (lv_at hl 0 rfl) ?_
          obtain ⟨v32, hv32, hf⟩ := kbind hf
          refine kgetP hv32 F hX hinX5 rfl rfl rfl (by decide) (by decide) wfX5_37 (kd dtX5_tryChainAhead_0 38 rfl) ?_
          refine kaload_n hx hb (kd dtX5_tryChainAhead_0 39 rfl) rfl (lv_at hl 2 rfl) ?_
          refine kaload_n hx hb (kd dtX5_tryChainAhead_0 40 rfl) rfl (lv_at hl 2 rfl) ?_
          obtain ⟨b33, hb33, hf⟩ := kbind hf
          obtain ⟨hrb33, hkb33⟩ := kRc_s hb33
          obtain ⟨v35, h34, hf⟩ := kbind hf
          refine kcallV (n := 0) [] [va_rf x2, va_rf v32] [.int v35, va_rf x2, va_rf v32] (rX1_second l D aC h34) hrb33 hkb33 F hml hX hZ hl.1 mwX1_second wmX5_159 rfl (by decide) (by decide +kernel) ⟨(by decide), (by decide)⟩ rfl rfl rfl (by simp [kcat_rf, kcat_i, kcat_r, kcat_l]) (kd dtX5_tryChainAhead_0 41 rfl) ⟨Nat.zero_le _, Nat.zero_le _⟩ (fun H locs hX => ?_)
          obtain ⟨b36, hb36, hf⟩ := kbind hf
          obtain ⟨hrb36, hkb36⟩ := kRc_s hb36
          obtain ⟨w37, h38, hf⟩ := kbind hf
          refine kcallV (n := 2) [va_rf x2, .int v35] [] [] (rX1_addPart l D aC h38) hrb36 hkb36 F hml hX hZ hl.1 mwX1_addPart wmX5_176 rfl (by decide) (by decide +kernel) ⟨(by decide), (by decide)⟩ rfl rfl rfl (Nat.le_of_ble_eq_true rfl) (kd dtX5_tryChainAhead_0 42 rfl) ⟨Nat.zero_le _, Nat.zero_le _⟩ (fun H locs hX => ?_)
          refine lv_aload_n hx hb (kd dtX5_tryChainAhead_0 43 rfl) rfl (lv_at hl 0 rfl) ?_
          refine lv_iload_n hx hb (kd dtX5_tryChainAhead_0 44 rfl) rfl (lv_at hl 1 rfl) ?_
          obtain ⟨b39, hb39, hf⟩ := kbind hf
          obtain ⟨hrb39, hkb39⟩ := kRc_s hb39
          obtain ⟨w40, h41, hf⟩ := kbind hf
          refine kcallV (n := 1) [.int x1] [] [] (rX5_offerNeed l D aC h41) hrb39 hkb39 F hml hX hZ hl.1 mwX5_offerNeed wmX5_170 rfl (by decide) (by decide +kernel) ⟨(by decide), (by decide)⟩ rfl rfl rfl (Nat.le_of_ble_eq_true rfl) (kd dtX5_tryChainAhead_0 45 rfl) ⟨Nat.zero_le _, Nat.zero_le _⟩ (fun H locs hX => ?_)
          obtain rfl := Option.some.inj hf
          exact kvret F hX hr hlocks rfl (kd dtX5_tryChainAhead_0 46 rfl)
    · have hf := kif_pos hc hf
      obtain rfl := Option.some.inj hf
      exact kvret F hX hr hlocks rfl (kd dtX5_tryChainAhead_0 6 rfl)
def lX5_tryChainBehind_0 : List (Nat × Instr × Nat) := [(0, .aload_n 3, 1), (1, .invokevirtual 156, 3), (4, .ifCond .eq 10, 3), (7, .aload_n 2, 1), (8, .invokevirtual 156, 3), (11, .ifCond .ne 4, 3), (14, .return_, 1), (15, .aload_n 3, 1), (16, .invokevirtual 159, 3), (19, .istore 4, 2), (21, .aload_n 0, 1), (22, .aload_n 2, 1), (23, .aload_n 2, 1), (24, .invokevirtual 159, 3), (27, .aload_n 3, 1), (28, .iload 4, 2), (30, .invokevirtual 142, 3), (33, .ifCond .eq 64, 3), (36, .aload_n 0, 1), (37, .getfield 30, 3), (40, .aload_n 3, 1), (41, .iload 4, 2), (43, .aload_n 2, 1), (44, .aload_n 2, 1), (45, .invokevirtual 159, 3), (48, .invokevirtual 146, 3), (51, .ifCond .eq 46, 3), (54, .aload_n 0, 1), (55, .getfield 37, 3), (58, .invokevirtual 163, 3), (61, .aload_n 0, 1), (62, .getfield 37, 3), (65, .bipush 62, 2), (67, .invokevirtual 173, 3), (70, .aload_n 0, 1), (71, .getfield 37, 3), (74, .aload_n 2, 1), (75, .iconst 1, 1), (76, .invokevirtual 176, 3), (79, .aload_n 0, 1), (80, .getfield 30, 3), (83, .aload_n 0, 1), (84, .getfield 37, 3), (87, .aload_n 3, 1), (88, .iconst 1, 1), (89, .invokevirtual 166, 3), (92, .aload_n 0, 1), (93, .iload_n 1, 1), (94, .invokevirtual 170, 3), (97, .return_, 1)]
theorem dtX5_tryChainBehind_0 : kDec cX5_tryChainBehind lX5_tryChainBehind_0 = true := by decide +kernel
noncomputable def fX5_tryChainBehind (x0 : Nat) (x1 : Int32) (x2 : Option Nat) (x3 : Option Nat) (w : kW) : Option kW :=
  (kRc w 1 x3).bind fun b1 =>
  (fX1_isIf b1 w).bind fun v3 =>
  if v3 = 0 then
  some w
  else
  (kRc w 1 x2).bind fun b4 =>
  (fX1_isIf b4 w).bind fun v6 =>
  if v6 = 0 then
  some w
  else
  (kRc w 1 x3).bind fun b7 =>
  (fX1_second b7 w).bind fun v9 =>
  (kRc w 1 x2).bind fun b10 =>
  (fX1_second b10 w).bind fun v12 =>
  (kRc w 5 (some x0)).bind fun b13 =>
  kb2 (fX5_isDone b13 x2 v12 x3 v9 w) fun v16 w14 =>
  if v16 = 0 then
  some w14
  else
  (kgP w14 5 (some x0) 4).bind fun v17 =>
  (kRc w14 1 x2).bind fun b18 =>
  (fX1_second b18 w14).bind fun v20 =>
  (kRc w14 4 v17).bind fun b21 =>
  kb2 (fX4_makes b21 x3 v9 x2 v20 w14) fun v24 w22 =>
  if v24 = 0 then
  some w22
  else
  (kgP w22 5 (some x0) 5).bind fun v25 =>
  (kRc w22 1 v25).bind fun b26 =>
  (fX1_clear b26 w22).bind fun w27 =>
  (kgP w27 5 (some x0) 5).bind fun v29 =>
  (kRc w27 1 v29).bind fun b30 =>
  (fX1_add b30 (62 : Int32) w27).bind fun w31 =>
  (kgP w31 5 (some x0) 5).bind fun v33 =>
  (kRc w31 1 v33).bind fun b34 =>
  (fX1_addPart b34 x2 (1 : Int32) w31).bind fun w35 =>
  (kgP w35 5 (some x0) 4).bind fun v37 =>
  (kgP w35 5 (some x0) 5).bind fun v38 =>
  (kRc w35 4 v37).bind fun b39 =>
  (fX4_addPut b39 v38 x3 (1 : Int32) w35).bind fun w40 =>
  (kRc w40 5 (some x0)).bind fun b42 =>
  (fX5_offerNeed b42 x1 w40).bind fun w43 =>
  some w43

set_option maxHeartbeats 4000000 in
set_option maxRecDepth 100000 in
theorem rX5_tryChainBehind (l : Launch) (D : va_G) (aC : Nat → ClassId) {x0 : Nat} {x1 : Int32} {x2 : Option Nat} {x3 : Option Nat} {w : kW} {wR : kW} (h : fX5_tryChainBehind x0 x1 x2 x3 w = some wR) : kC l D aC yX5_tryChainBehind cX5_tryChainBehind 5 none 5 100 [.ref x0, .int x1, va_rf x2, va_rf x3] w none wR 0 0 := by
  refine kOf (own := RX5) (by decide) rfl (by simp [lg_sl, kcat_rf, kcat_i, kcat_r, kcat_l]) ?_
  intro p e s m below meth c ls F hml hr hlocks hnm hX hZ hl
  obtain ⟨hx, hb, hts, hown, hK⟩ := id F
  have hl : lv_has ls 5 [(0, .ref x0), (1, .int x1), (2, va_rf x2), (3, va_rf x3)] := by simpa [lv_args, kcat_rf, kcat_i, kcat_r, kcat_l] using hl
  have hf := h
  rw [fX5_tryChainBehind] at hf
  refine kaload_n hx hb (kd dtX5_tryChainBehind_0 0 rfl) rfl (lv_at hl 3 rfl) ?_
  obtain ⟨b1, hb1, hf⟩ := kbind hf
  obtain ⟨hrb1, hkb1⟩ := kRc_s hb1
  obtain ⟨v3, h2, hf⟩ := kbind hf
  refine kcallV (n := 0) [] [] [.int v3] (rX1_isIf l D aC h2) hrb1 hkb1 F hml hX hZ hl.1 mwX1_isIf wmX5_156 rfl (by decide) (by decide +kernel) ⟨(by decide), (by decide)⟩ rfl rfl rfl (Nat.le_of_ble_eq_true rfl) (kd dtX5_tryChainBehind_0 1 rfl) ⟨Nat.zero_le _, Nat.zero_le _⟩ (fun H locs hX => ?_)
  refine lv_if_eq (tgt := 14) hx hb (kd dtX5_tryChainBehind_0 2 rfl) (by decide) (fun hc => ?_) (fun hc => ?_)
  · have hf := kif_pos hc hf
    obtain rfl := Option.some.inj hf
    exact kvret F hX hr hlocks rfl (kd dtX5_tryChainBehind_0 6 rfl)
  · have hf := kif_neg hc hf
    refine kaload_n hx hb (kd dtX5_tryChainBehind_0 3 rfl) rfl (lv_at hl 2 rfl) ?_
    obtain ⟨b4, hb4, hf⟩ := kbind hf
    obtain ⟨hrb4, hkb4⟩ := kRc_s hb4
    obtain ⟨v6, h5, hf⟩ := kbind hf
    refine kcallV (n := 0) [] [] [.int v6] (rX1_isIf l D aC h5) hrb4 hkb4 F hml hX hZ hl.1 mwX1_isIf wmX5_156 rfl (by decide) (by decide +kernel) ⟨(by decide), (by decide)⟩ rfl rfl rfl (Nat.le_of_ble_eq_true rfl) (kd dtX5_tryChainBehind_0 4 rfl) ⟨Nat.zero_le _, Nat.zero_le _⟩ (fun H locs hX => ?_)
    refine lv_if_ne (tgt := 15) hx hb (kd dtX5_tryChainBehind_0 5 rfl) (by decide) (fun hc => ?_) (fun hc => ?_)
    · have hf := kif_neg hc hf
      refine kaload_n hx hb (kd dtX5_tryChainBehind_0 7 rfl) rfl (lv_at hl 3 rfl) ?_
      obtain ⟨b7, hb7, hf⟩ := kbind hf
      obtain ⟨hrb7, hkb7⟩ := kRc_s hb7
      obtain ⟨v9, h8, hf⟩ := kbind hf
      refine kcallV (n := 0) [] [] [.int v9] (rX1_second l D aC h8) hrb7 hkb7 F hml hX hZ hl.1 mwX1_second wmX5_159 rfl (by decide) (by decide +kernel) ⟨(by decide), (by decide)⟩ rfl rfl rfl (Nat.le_of_ble_eq_true rfl) (kd dtX5_tryChainBehind_0 8 rfl) ⟨Nat.zero_le _, Nat.zero_le _⟩ (fun H locs hX => ?_)
      refine lv_istore (i := 4) (lv' := [(4, .int v9), (0, .ref x0), (1, .int x1), (2, va_rf x2), (3, va_rf x3)]) hx hb (kd dtX5_tryChainBehind_0 9 rfl) hl (by decide) (by simp [kcat_rf, kcat_i, kcat_r, kcat_l]) (fun ls hl => ?_)
      refine lv_aload_n hx hb (kd dtX5_tryChainBehind_0 10 rfl) rfl (lv_at hl 1 rfl) ?_
      refine kaload_n hx hb (kd dtX5_tryChainBehind_0 11 rfl) rfl (lv_at hl 3 rfl) ?_
      refine kaload_n hx hb (kd dtX5_tryChainBehind_0 12 rfl) rfl (lv_at hl 3 rfl) ?_
      obtain ⟨b10, hb10, hf⟩ := kbind hf
      obtain ⟨hrb10, hkb10⟩ := kRc_s hb10
      obtain ⟨v12, h11, hf⟩ := kbind hf
      refine kcallV (n := 0) [] [va_rf x2, .ref x0] [.int v12, va_rf x2, .ref x0] (rX1_second l D aC h11) hrb10 hkb10 F hml hX hZ hl.1 mwX1_second wmX5_159 rfl (by decide) (by decide +kernel) ⟨(by decide), (by decide)⟩ rfl rfl rfl (by simp [kcat_rf, kcat_i, kcat_r, kcat_l]) (kd dtX5_tryChainBehind_0 13 rfl) ⟨Nat.zero_le _, Nat.zero_le _⟩ (fun H locs hX => ?_)
      refine kaload_n hx hb (kd dtX5_tryChainBehind_0 14 rfl) rfl (lv_at hl 4 rfl) ?_
      refine lv_iload hx hb (kd dtX5_tryChainBehind_0 15 rfl) (lv_at hl 0 rfl) ?_
      obtain ⟨b13, hb13, hf⟩ := kbind hf
      obtain ⟨hrb13, hkb13⟩ := kRc_s hb13
      obtain ⟨v16, w14, h15, hf⟩ := kbind2 hf
      refine kcallV (n := 4) [va_rf x2, .int v12, va_rf x3, .int v9] [] [.int v16] (rX5_isDone l D aC h15) hrb13 hkb13 F hml hX hZ hl.1 mwX5_isDone wmX5_142 rfl (by decide) (by decide +kernel) ⟨(by decide), (by decide)⟩ rfl rfl rfl (Nat.le_of_ble_eq_true rfl) (kd dtX5_tryChainBehind_0 16 rfl) ⟨Nat.zero_le _, Nat.zero_le _⟩ (fun H locs hX => ?_)
      refine lv_if_eq (tgt := 97) hx hb (kd dtX5_tryChainBehind_0 17 rfl) (by decide) (fun hc => ?_) (fun hc => ?_)
      · have hf := kif_pos hc hf
        obtain rfl := Option.some.inj hf
        exact kvret F hX hr hlocks rfl (kd dtX5_tryChainBehind_0 49 rfl)
      · have hf := kif_neg hc hf
        refine lv_aload_n hx hb (kd dtX5_tryChainBehind_0 18 rfl) rfl (lv_at hl 1 rfl) ?_
        obtain ⟨v17, hv17, hf⟩ := kbind hf
        refine kgetP hv17 F hX hinX5 rfl rfl rfl (by decide) (by decide) wfX5_30 (kd dtX5_tryChainBehind_0 19 rfl) ?_
        refine kaload_n hx hb (kd dtX5_tryChainBehind_0 20 rfl) rfl (lv_at hl 4 rfl) ?_
        refine lv_iload hx hb (kd dtX5_tryChainBehind_0 21 rfl) (lv_at hl 0 rfl) ?_
        refine kaload_n hx hb (kd dtX5_tryChainBehind_0 22 rfl) rfl (lv_at hl 3 rfl) ?_
        refine kaload_n hx hb (kd dtX5_tryChainBehind_0 23 rfl) rfl (lv_at hl 3 rfl) ?_
        obtain ⟨b18, hb18, hf⟩ := kbind hf
        obtain ⟨hrb18, hkb18⟩ := kRc_s hb18
        obtain ⟨v20, h19, hf⟩ := kbind hf
        refine kcallV (n := 0) [] [va_rf x2, .int v9, va_rf x3, va_rf v17] [.int v20, va_rf x2, .int v9, va_rf x3, va_rf v17] (rX1_second l D aC h19) hrb18 hkb18 F hml hX hZ hl.1 mwX1_second wmX5_159 rfl (by decide) (by decide +kernel) ⟨(by decide), (by decide)⟩ rfl rfl rfl (by simp [kcat_rf, kcat_i, kcat_r, kcat_l]) (kd dtX5_tryChainBehind_0 24 rfl) ⟨Nat.zero_le _, Nat.zero_le _⟩ (fun H locs hX => ?_)
        obtain ⟨b21, hb21, hf⟩ := kbind hf
        obtain ⟨hrb21, hkb21⟩ := kRc_s hb21
        obtain ⟨v24, w22, h23, hf⟩ := kbind2 hf
        refine kcallV (n := 4) [va_rf x3, .int v9, va_rf x2, .int v20] [] [.int v24] (rX4_makes l D aC h23) hrb21 hkb21 F hml hX hZ hl.1 mwX4_makes wmX5_146 rfl (by decide) (by decide +kernel) ⟨(by decide), (by decide)⟩ rfl rfl rfl (Nat.le_of_ble_eq_true rfl) (kd dtX5_tryChainBehind_0 25 rfl) ⟨Nat.zero_le _, Nat.zero_le _⟩ (fun H locs hX => ?_)
        refine lv_if_eq (tgt := 97) hx hb (kd dtX5_tryChainBehind_0 26 rfl) (by decide) (fun hc => ?_) (fun hc => ?_)
        · have hf := kif_pos hc hf
          obtain rfl := Option.some.inj hf
          exact kvret F hX hr hlocks rfl (kd dtX5_tryChainBehind_0 49 rfl)
        · have hf := kif_neg hc hf
          refine lv_aload_n hx hb (kd dtX5_tryChainBehind_0 27 rfl) rfl (lv_at hl 1 rfl) ?_
          obtain ⟨v25, hv25, hf⟩ := kbind hf
          refine kgetP hv25 F hX hinX5 rfl rfl rfl (by decide) (by decide) wfX5_37 (kd dtX5_tryChainBehind_0 28 rfl) ?_
          obtain ⟨b26, hb26, hf⟩ := kbind hf
          obtain ⟨hrb26, hkb26⟩ := kRc_s hb26
          obtain ⟨w27, h28, hf⟩ := kbind hf
          refine kcallV (n := 0) [] [] [] (rX1_clear l D aC h28) hrb26 hkb26 F hml hX hZ hl.1 mwX1_clear wmX5_163 rfl (by decide) (by decide +kernel) ⟨(by decide), (by decide)⟩ rfl rfl rfl (Nat.le_of_ble_eq_true rfl) (kd dtX5_tryChainBehind_0 29 rfl) ⟨Nat.zero_le _, Nat.zero_le _⟩ (fun H locs hX => ?_)
          refine lv_aload_n hx hb (kd dtX5_tryChainBehind_0 30 rfl) rfl (lv_at hl 1 rfl) ?_
          obtain ⟨v29, hv29, hf⟩ := kbind hf
          refine kgetP hv29 F hX hinX5 rfl rfl rfl (by decide) (by decide) wfX5_37 (kd dtX5_tryChainBehind_0 31 rfl) ?_
          refine lv_bipush (v := (62 : Int32)) hx hb (kd dtX5_tryChainBehind_0 32 rfl) (by decide) ?_
          obtain ⟨b30, hb30, hf⟩ := kbind hf
          obtain ⟨hrb30, hkb30⟩ := kRc_s hb30
          obtain ⟨w31, h32, hf⟩ := kbind hf
          refine kcallV (n := 1) [.int (62 : Int32)] [] [] (rX1_add l D aC h32) hrb30 hkb30 F hml hX hZ hl.1 mwX1_add wmX5_173 rfl (by decide) (by decide +kernel) ⟨(by decide), (by decide)⟩ rfl rfl rfl (Nat.le_of_ble_eq_true rfl) (kd dtX5_tryChainBehind_0 33 rfl) ⟨Nat.zero_le _, Nat.zero_le _⟩ (fun H locs hX => ?_)
          refine lv_aload_n hx hb (kd dtX5_tryChainBehind_0 34 rfl) rfl (lv_at hl 1 rfl) ?_
          obtain ⟨v33, hv33, hf⟩ := kbind hf
          refine kgetP hv33 F hX hinX5 rfl rfl rfl (by decide) (by decide) wfX5_37 (kd dtX5_tryChainBehind_0 35 rfl) ?_
          refine kaload_n hx hb (kd dtX5_tryChainBehind_0 36 rfl) rfl (lv_at hl 3 rfl) ?_
          refine lv_iconst (v := (1 : Int32)) hx hb (kd dtX5_tryChainBehind_0 37 rfl) (by decide) ?_
          obtain ⟨b34, hb34, hf⟩ := kbind hf
          obtain ⟨hrb34, hkb34⟩ := kRc_s hb34
          obtain ⟨w35, h36, hf⟩ := kbind hf
          refine kcallV (n := 2) [va_rf x2, .int (1 : Int32)] [] [] (rX1_addPart l D aC h36) hrb34 hkb34 F hml hX hZ hl.1 mwX1_addPart wmX5_176 rfl (by decide) (by decide +kernel) ⟨(by decide), (by decide)⟩ rfl rfl rfl (Nat.le_of_ble_eq_true rfl) (kd dtX5_tryChainBehind_0 38 rfl) ⟨Nat.zero_le _, Nat.zero_le _⟩ (fun H locs hX => ?_)
          refine lv_aload_n hx hb (kd dtX5_tryChainBehind_0 39 rfl) rfl (lv_at hl 1 rfl) ?_
          obtain ⟨v37, hv37, hf⟩ := kbind hf
          refine kgetP hv37 F hX hinX5 rfl rfl rfl (by decide) (by decide) wfX5_30 (kd dtX5_tryChainBehind_0 40 rfl) ?_
          refine lv_aload_n hx hb (kd dtX5_tryChainBehind_0 41 rfl) rfl (lv_at hl 1 rfl) ?_
          obtain ⟨v38, hv38, hf⟩ := kbind hf
          refine kgetP hv38 F hX hinX5 rfl rfl rfl (by decide) (by decide) wfX5_37 (kd dtX5_tryChainBehind_0 42 rfl) ?_
          refine kaload_n hx hb (kd dtX5_tryChainBehind_0 43 rfl) rfl (lv_at hl 4 rfl) ?_
          refine lv_iconst (v := (1 : Int32)) hx hb (kd dtX5_tryChainBehind_0 44 rfl) (by decide) ?_
          obtain ⟨b39, hb39, hf⟩ := kbind hf
          obtain ⟨hrb39, hkb39⟩ := kRc_s hb39
          obtain ⟨w40, h41, hf⟩ := kbind hf
          refine kcallV (n := 3) [va_rf v38, va_rf x3, .int (1 : Int32)] [] [] (rX4_addPut l D aC h41) hrb39 hkb39 F hml hX hZ hl.1 mwX4_addPut wmX5_166 rfl (by decide) (by decide +kernel) ⟨(by decide), (by decide)⟩ rfl rfl rfl (Nat.le_of_ble_eq_true rfl) (kd dtX5_tryChainBehind_0 45 rfl) ⟨Nat.zero_le _, Nat.zero_le _⟩ (fun H locs hX => ?_)
          refine lv_aload_n hx hb (kd dtX5_tryChainBehind_0 46 rfl) rfl (lv_at hl 1 rfl) ?_
          refine lv_iload_n hx hb (kd dtX5_tryChainBehind_0 47 rfl) rfl (lv_at hl 2 rfl) ?_
          obtain ⟨b42, hb42, hf⟩ := kbind hf
          obtain ⟨hrb42, hkb42⟩ := kRc_s hb42
          obtain ⟨w43, h44, hf⟩ := kbind hf
          refine kcallV (n := 1) [.int x1] [] [] (rX5_offerNeed l D aC h44) hrb42 hkb42 F hml hX hZ hl.1 mwX5_offerNeed wmX5_170 rfl (by decide) (by decide +kernel) ⟨(by decide), (by decide)⟩ rfl rfl rfl (Nat.le_of_ble_eq_true rfl) (kd dtX5_tryChainBehind_0 48 rfl) ⟨Nat.zero_le _, Nat.zero_le _⟩ (fun H locs hX => ?_)
          obtain rfl := Option.some.inj hf
          exact kvret F hX hr hlocks rfl (kd dtX5_tryChainBehind_0 49 rfl)
    · have hf := kif_pos hc hf
      obtain rfl := Option.some.inj hf
      exact kvret F hX hr hlocks rfl (kd dtX5_tryChainBehind_0 6 rfl)
theorem wmX5_97 : Cond.methodLink RX5 97 yX5_begin ∈ kT := kTm 871 (by decide +kernel) rfl
theorem mwX5_begin : kMV RX5 yX5_begin cX5_begin 3 none := ⟨kTm 874 (by decide +kernel) rfl, kTm 103 (by decide +kernel) rfl, kTm 873 (by decide +kernel) rfl, kTm 25 (by decide +kernel) rfl⟩
theorem wfX5_101 : Cond.fieldLinkNest RX5 101 (TX3 3).1 (TX3 3).2.1 (TX3 3).2.2.1 "KitchenCards" ∈ kNs := kNm 398 (by decide +kernel) rfl
theorem wmX5_106 : Cond.methodLink RX5 106 Lib.Math.max.name ∈ kT := kTm 876 (by decide +kernel) rfl
theorem wfX5_112 : Cond.fieldLinkNest RX5 112 (TX3 1).1 (TX3 1).2.1 (TX3 1).2.2.1 "KitchenCards" ∈ kNs := kNm 394 (by decide +kernel) rfl
theorem wmX5_115 : Cond.methodLink RX5 115 yX3_actAt ∈ kT := kTm 877 (by decide +kernel) rfl
theorem mwX3_actAt : kMV RX3 yX3_actAt cX3_actAt 2 (some .int) := ⟨kTm 880 (by decide +kernel) rfl, kTm 104 (by decide +kernel) rfl, kTm 878 (by decide +kernel) rfl, kTm 879 (by decide +kernel) rfl⟩
theorem wmX5_126 : Cond.methodLink RX5 126 yX5_tryChainAhead ∈ kT := kTm 918 (by decide +kernel) rfl
theorem mwX5_tryChainAhead : kMV RX5 yX5_tryChainAhead cX5_tryChainAhead 4 none := ⟨kTm 921 (by decide +kernel) rfl, kTm 103 (by decide +kernel) rfl, kTm 920 (by decide +kernel) rfl, kTm 31 (by decide +kernel) rfl⟩
theorem wmX5_129 : Cond.methodLink RX5 129 yX5_tryChainBehind ∈ kT := kTm 924 (by decide +kernel) rfl
theorem mwX5_tryChainBehind : kMV RX5 yX5_tryChainBehind cX5_tryChainBehind 5 none := ⟨kTm 927 (by decide +kernel) rfl, kTm 103 (by decide +kernel) rfl, kTm 926 (by decide +kernel) rfl, kTm 32 (by decide +kernel) rfl⟩
theorem wmX5_122 : Cond.methodLink RX5 122 yX5_tryBack ∈ kT := kTm 898 (by decide +kernel) rfl
theorem mwX5_tryBack : kMV RX5 yX5_tryBack cX5_tryBack 5 none := ⟨kTm 901 (by decide +kernel) rfl, kTm 103 (by decide +kernel) rfl, kTm 900 (by decide +kernel) rfl, kTm 29 (by decide +kernel) rfl⟩
theorem wmX5_118 : Cond.methodLink RX5 118 yX5_tryMatch ∈ kT := kTm 881 (by decide +kernel) rfl
theorem mwX5_tryMatch : kMV RX5 yX5_tryMatch cX5_tryMatch 7 none := ⟨kTm 884 (by decide +kernel) rfl, kTm 103 (by decide +kernel) rfl, kTm 883 (by decide +kernel) rfl, kTm 26 (by decide +kernel) rfl⟩
def lX5_look_0 : List (Nat × Instr × Nat) := [(0, .aload_n 1, 1), (1, .ifnull 7, 3), (4, .aload_n 2, 1), (5, .ifnonnull 4, 3), (8, .return_, 1), (9, .aload_n 0, 1), (10, .aload_n 1, 1), (11, .aload_n 2, 1), (12, .invokevirtual 97, 3), (15, .aload_n 0, 1), (16, .getfield 45, 3), (19, .aload_n 1, 1), (20, .getfield 101, 3), (23, .isub, 1), (24, .iconst 0, 1), (25, .invokestatic 106, 3), (28, .istore 4, 2), (30, .iconst 0, 1), (31, .istore 5, 2), (33, .iload 5, 2), (35, .bipush 24, 2), (37, .if_icmp .ge 193, 3), (40, .iload 5, 2), (42, .aload_n 0, 1), (43, .getfield 41, 3), (46, .if_icmp .ge 184, 3), (49, .aload_n 0, 1), (50, .getfield 58, 3), (53, .ifCond .ne 177, 3), (56, .aload_n 0, 1), (57, .getfield 17, 3), (60, .iload 5, 2), (62, .iaload, 1), (63, .iload_n 3, 1), (64, .if_icmp .lt 6, 3), (67, .goto 157, 3), (70, .iconst 0, 1), (71, .istore 6, 2), (73, .iload 6, 2), (75, .aload_n 1, 1), (76, .getfield 112, 3), (79, .if_icmp .ge 145, 3), (82, .aload_n 0, 1), (83, .getfield 58, 3), (86, .ifCond .ne 138, 3), (89, .aload_n 1, 1), (90, .iload 6, 2), (92, .invokevirtual 115, 3), (95, .istore 7, 2), (97, .iload 4, 2), (99, .istore 8, 2), (101, .iload 8, 2), (103, .aload_n 0, 1), (104, .getfield 45, 3), (107, .if_icmp .ge 111, 3), (110, .iload 8, 2), (112, .bipush 40, 2), (114, .if_icmp .ge 104, 3), (117, .aload_n 0, 1), (118, .getfield 58, 3), (121, .ifCond .ne 97, 3), (124, .iload 7, 2), (126, .bipush 109, 2), (128, .if_icmp .ne 14, 3), (131, .aload_n 0, 1), (132, .iload 5, 2), (134, .iload 8, 2), (136, .invokevirtual 118, 3), (139, .goto 73, 3), (142, .iload 7, 2), (144, .bipush 100, 2), (146, .if_icmp .ne 26, 3), (149, .aload_n 0, 1), (150, .iload 5, 2), (152, .aload_n 0, 1), (153, .getfield 11, 3), (156, .iload 5, 2), (158, .aaload, 1), (159, .aload_n 0, 1), (160, .getfield 21, 3)]
theorem dtX5_look_0 : kDec cX5_look lX5_look_0 = true := by decide +kernel
def lX5_look_1 : List (Nat × Instr × Nat) := [(163, .iload 8, 2), (165, .aaload, 1), (166, .invokevirtual 122, 3), (169, .goto 43, 3), (172, .aload_n 0, 1), (173, .iload 5, 2), (175, .aload_n 0, 1), (176, .getfield 11, 3), (179, .iload 5, 2), (181, .aaload, 1), (182, .aload_n 0, 1), (183, .getfield 21, 3), (186, .iload 8, 2), (188, .aaload, 1), (189, .invokevirtual 126, 3), (192, .aload_n 0, 1), (193, .iload 5, 2), (195, .aload_n 0, 1), (196, .getfield 11, 3), (199, .iload 5, 2), (201, .aaload, 1), (202, .aload_n 0, 1), (203, .getfield 21, 3), (206, .iload 8, 2), (208, .aaload, 1), (209, .invokevirtual 129, 3), (212, .iinc 8 1, 3), (215, .goto (-114), 3), (218, .iinc 6 1, 3), (221, .goto (-148), 3), (224, .iinc 5 1, 3), (227, .goto (-194), 3), (230, .return_, 1)]
theorem dtX5_look_1 : kDec cX5_look lX5_look_1 = true := by decide +kernel
noncomputable def fX5_look_L101 (x0 : Nat) (x1 : Option Nat) (x2 : Option Nat) (x3 : Int32) (x4 : Int32) (x5 : Int32) (x6 : Int32) (x7 : Int32) : Nat → (Int32 → kW → Option kW) → Int32 → kW → Option kW
  | 0, _, _, _ => none
  | n + 1, k, x8, w =>
  (kgI w 5 (some x0) 7).bind fun v1 =>
  if v1 ≤ x8 then
  k x8 w
  else
  if (40 : Int32) ≤ x8 then
  k x8 w
  else
  (kgI w 5 (some x0) 11).bind fun v2 =>
  if v2 = 0 then
  if x7 = (109 : Int32) then
  (kRc w 5 (some x0)).bind fun b24 =>
  (fX5_tryMatch b24 x5 x8 w).bind fun w25 =>
  fX5_look_L101 x0 x1 x2 x3 x4 x5 x6 x7 n k (x8 + (1 : Int32)) w25
  else
  if x7 = (100 : Int32) then
  (kgP w 5 (some x0) 0).bind fun v17 =>
  (kaP w 16 v17 x5).bind fun v18 =>
  (kgP w 5 (some x0) 2).bind fun v19 =>
  (kaP w 16 v19 x8).bind fun v20 =>
  (kRc w 5 (some x0)).bind fun b21 =>
  (fX5_tryBack b21 x5 v18 v20 w).bind fun w22 =>
  fX5_look_L101 x0 x1 x2 x3 x4 x5 x6 x7 n k (x8 + (1 : Int32)) w22
  else
  (kgP w 5 (some x0) 0).bind fun v3 =>
  (kaP w 16 v3 x5).bind fun v4 =>
  (kgP w 5 (some x0) 2).bind fun v5 =>
  (kaP w 16 v5 x8).bind fun v6 =>
  (kRc w 5 (some x0)).bind fun b7 =>
  (fX5_tryChainAhead b7 x5 v4 v6 w).bind fun w8 =>
  (kgP w8 5 (some x0) 0).bind fun v10 =>
  (kaP w8 16 v10 x5).bind fun v11 =>
  (kgP w8 5 (some x0) 2).bind fun v12 =>
  (kaP w8 16 v12 x8).bind fun v13 =>
  (kRc w8 5 (some x0)).bind fun b14 =>
  (fX5_tryChainBehind b14 x5 v11 v13 w8).bind fun w15 =>
  fX5_look_L101 x0 x1 x2 x3 x4 x5 x6 x7 n k (x8 + (1 : Int32)) w15
  else
  k x8 w

noncomputable def fX5_look_L73 (x0 : Nat) (x1 : Option Nat) (x2 : Option Nat) (x3 : Int32) (x4 : Int32) (x5 : Int32) : Nat → (Int32 → kW → Option kW) → Int32 → kW → Option kW
  | 0, _, _, _ => none
  | n + 1, k, x6, w =>
  (kgI w 3 x1 1).bind fun v1 =>
  if v1 ≤ x6 then
  k x6 w
  else
  (kgI w 5 (some x0) 11).bind fun v2 =>
  if v2 = 0 then
  (kRc w 3 x1).bind fun b3 =>
  (fX3_actAt b3 x6 w).bind fun v5 =>
  fX5_look_L101 x0 x1 x2 x3 x4 x5 x6 v5 kFU (fun y8_6 w7 => fX5_look_L73 x0 x1 x2 x3 x4 x5 n k (x6 + (1 : Int32)) w7) x4 w
  else
  k x6 w

noncomputable def fX5_look_L33 (x0 : Nat) (x1 : Option Nat) (x2 : Option Nat) (x3 : Int32) (x4 : Int32) : Nat → (Int32 → kW → Option kW) → Int32 → kW → Option kW
  | 0, _, _, _ => none
  | n + 1, k, x5, w =>
  if (24 : Int32) ≤ x5 then
  k x5 w
  else
  (kgI w 5 (some x0) 6).bind fun v1 =>
  if v1 ≤ x5 then
  k x5 w
  else
  (kgI w 5 (some x0) 11).bind fun v2 =>
  if v2 = 0 then
  (kgP w 5 (some x0) 1).bind fun v3 =>
  (kaI w 14 v3 x5).bind fun v4 =>
  if v4 < x3 then
  fX5_look_L73 x0 x1 x2 x3 x4 x5 kFU (fun y6_5 w6 => fX5_look_L33 x0 x1 x2 x3 x4 n k (x5 + (1 : Int32)) w6) (0 : Int32) w
  else
  fX5_look_L33 x0 x1 x2 x3 x4 n k (x5 + (1 : Int32)) w
  else
  k x5 w

noncomputable def fX5_look (x0 : Nat) (x1 : Option Nat) (x2 : Option Nat) (x3 : Int32) (w : kW) : Option kW :=
  if x1 = none then
  some w
  else
  if x2 = none then
  some w
  else
  (kRc w 5 (some x0)).bind fun b1 =>
  (fX5_begin b1 x1 x2 w).bind fun w2 =>
  (kgI w2 5 (some x0) 7).bind fun v4 =>
  (kgI w2 3 x1 3).bind fun v5 =>
  fX5_look_L33 x0 x1 x2 x3 (kMmax (v4 - v5) (0 : Int32)) kFU (fun y5_6 w7 => some w7) (0 : Int32) w2

set_option maxHeartbeats 4000000 in
set_option maxRecDepth 100000 in
theorem rX5_look (l : Launch) (D : va_G) (aC : Nat → ClassId) {x0 : Nat} {x1 : Option Nat} {x2 : Option Nat} {x3 : Int32} {w : kW} {wR : kW} (h : fX5_look x0 x1 x2 x3 w = some wR) : kC l D aC yX5_look cX5_look 9 none 6 126 [.ref x0, va_rf x1, va_rf x2, .int x3] w none wR 0 0 := by
  refine kOf (own := RX5) (by decide) rfl (by simp [lg_sl, kcat_rf, kcat_i, kcat_r, kcat_l]) ?_
  intro p e s m below meth c ls F hml hr hlocks hnm hX hZ hl
  obtain ⟨hx, hb, hts, hown, hK⟩ := id F
  have hl : lv_has ls 9 [(0, .ref x0), (1, va_rf x1), (2, va_rf x2), (3, .int x3)] := by simpa [lv_args, kcat_rf, kcat_i, kcat_r, kcat_l] using hl
  have hf := h
  rw [fX5_look] at hf
  refine kaload_n hx hb (kd dtX5_look_0 0 rfl) rfl (lv_at hl 1 rfl) ?_
  refine kifnull (tgt := 8) hx hb (kd dtX5_look_0 1 rfl) (by decide) (fun hc => ?_) (fun hc => ?_)
  · have hf := kif_pos hc hf
    obtain rfl := Option.some.inj hf
    exact kvret F hX hr hlocks rfl (kd dtX5_look_0 4 rfl)
  · have hf := kif_neg hc hf
    refine kaload_n hx hb (kd dtX5_look_0 2 rfl) rfl (lv_at hl 2 rfl) ?_
    refine kifnonnull (tgt := 9) hx hb (kd dtX5_look_0 3 rfl) (by decide) (fun hc => ?_) (fun hc => ?_)
    · have hf := kif_pos hc hf
      obtain rfl := Option.some.inj hf
      exact kvret F hX hr hlocks rfl (kd dtX5_look_0 4 rfl)
    · have hf := kif_neg hc hf
      refine lv_aload_n hx hb (kd dtX5_look_0 5 rfl) rfl (lv_at hl 0 rfl) ?_
      refine kaload_n hx hb (kd dtX5_look_0 6 rfl) rfl (lv_at hl 1 rfl) ?_
      refine kaload_n hx hb (kd dtX5_look_0 7 rfl) rfl (lv_at hl 2 rfl) ?_
      obtain ⟨b1, hb1, hf⟩ := kbind hf
      obtain ⟨hrb1, hkb1⟩ := kRc_s hb1
      obtain ⟨w2, h3, hf⟩ := kbind hf
      refine kcallV (n := 2) [va_rf x1, va_rf x2] [] [] (rX5_begin l D aC h3) hrb1 hkb1 F hml hX hZ hl.1 mwX5_begin wmX5_97 rfl (by decide) (by decide +kernel) ⟨(by decide), (by decide)⟩ rfl rfl rfl (Nat.le_of_ble_eq_true rfl) (kd dtX5_look_0 8 rfl) ⟨Nat.zero_le _, Nat.zero_le _⟩ (fun H locs hX => ?_)
      refine lv_aload_n hx hb (kd dtX5_look_0 9 rfl) rfl (lv_at hl 0 rfl) ?_
      obtain ⟨v4, hv4, hf⟩ := kbind hf
      refine kgetI hv4 F hX hinX5 rfl rfl rfl (by decide) (by decide) wfX5_45 (kd dtX5_look_0 10 rfl) ?_
      refine kaload_n hx hb (kd dtX5_look_0 11 rfl) rfl (lv_at hl 1 rfl) ?_
      obtain ⟨v5, hv5, hf⟩ := kbind hf
      refine kgetIN hv5 F hX hinX3 rfl rfl rfl (by decide) (by decide) hZ wfX5_101 (kd dtX5_look_0 12 rfl) ?_
      refine lv_isub hx hb (kd dtX5_look_0 13 rfl) ?_
      refine lv_iconst (v := (0 : Int32)) hx hb (kd dtX5_look_0 14 rfl) (by decide) ?_
      refine kmmax F (hml.trans hl.1.symm) wmX5_106 (Nat.le_of_ble_eq_true rfl) (Nat.le_of_ble_eq_true rfl) (Nat.zero_le _) (Nat.zero_le _) (kd dtX5_look_0 15 rfl) ?_
      refine lv_istore (lv' := [(4, .int (kMmax (v4 - v5) (0 : Int32))), (0, .ref x0), (1, va_rf x1), (2, va_rf x2), (3, .int x3)]) hx hb (kd dtX5_look_0 16 rfl) hl (by decide) rfl (fun ls hl => ?_)
      refine lv_iconst (v := (0 : Int32)) hx hb (kd dtX5_look_0 17 rfl) (by decide) ?_
      refine lv_istore (lv' := [(5, .int (0 : Int32)), (4, .int (kMmax (v4 - v5) (0 : Int32))), (0, .ref x0), (1, va_rf x1), (2, va_rf x2), (3, .int x3)]) hx hb (kd dtX5_look_0 18 rfl) hl (by decide) rfl (fun ls hl => ?_)
      have hL33 : ∀ (n : Nat) (k : Int32 → kW → Option kW), ∀ (z5_33 : Int32) (w_33 : kW) (H : Heap) (locs : List Loc) (ls : Array Slot), kX D aC w s.heap w_33 H locs → lv_has ls 9 [(0, .ref x0), (1, va_rf x1), (2, va_rf x2), (3, .int x3), (4, .int (kMmax (v4 - v5) (0 : Int32))), (5, .int z5_33)] → fX5_look_L33 x0 x1 x2 x3 (kMmax (v4 - v5) (0 : Int32)) n k z5_33 w_33 = some wR → (∀ (z5_33 : Int32) (w_33 : kW) (H : Heap) (locs : List Loc) (ls : Array Slot), kX D aC w s.heap w_33 H locs → lv_has ls 9 [(0, .ref x0), (1, va_rf x1), (2, va_rf x2), (3, .int x3), (4, .int (kMmax (v4 - v5) (0 : Int32))), (5, .int z5_33)] → k z5_33 w_33 = some wR → W p l e { frames := 6, cells := 0, slots := 0, locals := 126 } s m ([.ref x0, va_rf x1, va_rf x2, .int x3] : List Value).toArray below meth c H locs 0 0 (MQ below (kQc D aC w none wR) ([.ref x0, va_rf x1, va_rf x2, .int x3] : List Value).toArray s 0 0 (kA w)) (F0 m 230 ls [])) → W p l e { frames := 6, cells := 0, slots := 0, locals := 126 } s m ([.ref x0, va_rf x1, va_rf x2, .int x3] : List Value).toArray below meth c H locs 0 0 (MQ below (kQc D aC w none wR) ([.ref x0, va_rf x1, va_rf x2, .int x3] : List Value).toArray s 0 0 (kA w)) (F0 m 33 ls []) := by
        intro n k
        induction n with
        | zero =>
          intro z5_33 w_33 H locs ls hX hl hf hk
          rw [fX5_look_L33] at hf
          cases hf
        | succ n ih =>
          intro z5_33 w_33 H locs ls hX hl hf hk
          rw [fX5_look_L33] at hf
          refine lv_iload hx hb (kd dtX5_look_0 19 rfl) (lv_at hl 5 rfl) ?_
          refine lv_bipush (v := (24 : Int32)) hx hb (kd dtX5_look_0 20 rfl) (by decide) ?_
          refine lv_icmp_ge (tgt := 230) hx hb (kd dtX5_look_0 21 rfl) (by decide) (fun hc => ?_) (fun hc => ?_)
          · have hf := kif_pos hc hf
            exact hk z5_33 w_33 _ _ _ hX hl hf
          · have hf := kif_neg hc hf
            refine lv_iload hx hb (kd dtX5_look_0 22 rfl) (lv_at hl 5 rfl) ?_
            refine lv_aload_n hx hb (kd dtX5_look_0 23 rfl) rfl (lv_at hl 0 rfl) ?_
            obtain ⟨v8, hv8, hf⟩ := kbind hf
            refine kgetI hv8 F hX hinX5 rfl rfl rfl (by decide) (by decide) wfX5_41 (kd dtX5_look_0 24 rfl) ?_
            refine lv_icmp_ge (tgt := 230) hx hb (kd dtX5_look_0 25 rfl) (by decide) (fun hc => ?_) (fun hc => ?_)
            · have hf := kif_pos hc hf
              exact hk z5_33 w_33 _ _ _ hX hl hf
            · have hf := kif_neg hc hf
              refine lv_aload_n hx hb (kd dtX5_look_0 26 rfl) rfl (lv_at hl 0 rfl) ?_
              obtain ⟨v9, hv9, hf⟩ := kbind hf
              refine kgetI hv9 F hX hinX5 rfl rfl rfl (by decide) (by decide) wfX5_58 (kd dtX5_look_0 27 rfl) ?_
              refine lv_if_ne (tgt := 230) hx hb (kd dtX5_look_0 28 rfl) (by decide) (fun hc => ?_) (fun hc => ?_)
              · have hf := kif_neg hc hf
                exact hk z5_33 w_33 _ _ _ hX hl hf
              · have hf := kif_pos hc hf
                refine lv_aload_n hx hb (kd dtX5_look_0 29 rfl) rfl (lv_at hl 0 rfl) ?_
                obtain ⟨v10, hv10, hf⟩ := kbind hf
                refine kgetP hv10 F hX hinX5 rfl rfl rfl (by decide) (by decide) wfX5_17 (kd dtX5_look_0 30 rfl) ?_
                refine lv_iload hx hb (kd dtX5_look_0 31 rfl) (lv_at hl 5 rfl) ?_
                obtain ⟨v11, hv11, hf⟩ := kbind hf
                refine kald hv11 F hX (kd dtX5_look_0 32 rfl) ?_
                refine lv_iload_n hx hb (kd dtX5_look_0 33 rfl) rfl (lv_at hl 3 rfl) ?_
                refine lv_icmp_lt (tgt := 70) hx hb (kd dtX5_look_0 34 rfl) (by decide) (fun hc => ?_) (fun hc => ?_)
                · have hf := kif_pos hc hf
                  refine lv_iconst (v := (0 : Int32)) hx hb (kd dtX5_look_0 36 rfl) (by decide) ?_
                  refine lv_istore (lv' := [(6, .int (0 : Int32)), (0, .ref x0), (1, va_rf x1), (2, va_rf x2), (3, .int x3), (4, .int (kMmax (v4 - v5) (0 : Int32))), (5, .int z5_33)]) hx hb (kd dtX5_look_0 37 rfl) hl (by decide) rfl (fun ls hl => ?_)
                  have hL73 : ∀ (n : Nat) (k : Int32 → kW → Option kW), ∀ (z6_73 : Int32) (w_73 : kW) (H : Heap) (locs : List Loc) (ls : Array Slot), kX D aC w s.heap w_73 H locs → lv_has ls 9 [(0, .ref x0), (1, va_rf x1), (2, va_rf x2), (3, .int x3), (4, .int (kMmax (v4 - v5) (0 : Int32))), (5, .int z5_33), (6, .int z6_73)] → fX5_look_L73 x0 x1 x2 x3 (kMmax (v4 - v5) (0 : Int32)) z5_33 n k z6_73 w_73 = some wR → (∀ (z6_73 : Int32) (w_73 : kW) (H : Heap) (locs : List Loc) (ls : Array Slot), kX D aC w s.heap w_73 H locs → lv_has ls 9 [(0, .ref x0), (1, va_rf x1), (2, va_rf x2), (3, .int x3), (4, .int (kMmax (v4 - v5) (0 : Int32))), (5, .int z5_33), (6, .int z6_73)] → k z6_73 w_73 = some wR → W p l e { frames := 6, cells := 0, slots := 0, locals := 126 } s m ([.ref x0, va_rf x1, va_rf x2, .int x3] : List Value).toArray below meth c H locs 0 0 (MQ below (kQc D aC w none wR) ([.ref x0, va_rf x1, va_rf x2, .int x3] : List Value).toArray s 0 0 (kA w)) (F0 m 224 ls [])) → W p l e { frames := 6, cells := 0, slots := 0, locals := 126 } s m ([.ref x0, va_rf x1, va_rf x2, .int x3] : List Value).toArray below meth c H locs 0 0 (MQ below (kQc D aC w none wR) ([.ref x0, va_rf x1, va_rf x2, .int x3] : List Value).toArray s 0 0 (kA w)) (F0 m 73 ls []) := by
                    intro n k
                    induction n with
                    | zero =>
                      intro z6_73 w_73 H locs ls hX hl hf hk
                      rw [fX5_look_L73] at hf
                      cases hf
                    | succ n ih =>
                      intro z6_73 w_73 H locs ls hX hl hf hk
                      rw [fX5_look_L73] at hf
                      refine lv_iload hx hb (kd dtX5_look_0 38 rfl) (lv_at hl 6 rfl) ?_
                      refine kaload_n hx hb (kd dtX5_look_0 39 rfl) rfl (lv_at hl 1 rfl) ?_
                      obtain ⟨v14, hv14, hf⟩ := kbind hf
                      refine kgetIN hv14 F hX hinX3 rfl rfl rfl (by decide) (by decide) hZ wfX5_112 (kd dtX5_look_0 40 rfl) ?_
                      refine lv_icmp_ge (tgt := 224) hx hb (kd dtX5_look_0 41 rfl) (by decide) (fun hc => ?_) (fun hc => ?_)
                      · have hf := kif_pos hc hf
                        exact hk z6_73 w_73 _ _ _ hX hl hf
                      · have hf := kif_neg hc hf
                        refine lv_aload_n hx hb (kd dtX5_look_0 42 rfl) rfl (lv_at hl 0 rfl) ?_
                        obtain ⟨v15, hv15, hf⟩ := kbind hf
                        refine kgetI hv15 F hX hinX5 rfl rfl rfl (by decide) (by decide) wfX5_58 (kd dtX5_look_0 43 rfl) ?_
                        refine lv_if_ne (tgt := 224) hx hb (kd dtX5_look_0 44 rfl) (by decide) (fun hc => ?_) (fun hc => ?_)
                        · have hf := kif_neg hc hf
                          exact hk z6_73 w_73 _ _ _ hX hl hf
                        · have hf := kif_pos hc hf
                          refine kaload_n hx hb (kd dtX5_look_0 45 rfl) rfl (lv_at hl 1 rfl) ?_
                          refine lv_iload hx hb (kd dtX5_look_0 46 rfl) (lv_at hl 6 rfl) ?_
                          obtain ⟨b16, hb16, hf⟩ := kbind hf
                          obtain ⟨hrb16, hkb16⟩ := kRc_s hb16
                          obtain ⟨v18, h17, hf⟩ := kbind hf
                          refine kcallV (n := 1) [.int z6_73] [] [.int v18] (rX3_actAt l D aC h17) hrb16 hkb16 F hml hX hZ hl.1 mwX3_actAt wmX5_115 rfl (by decide) (by decide +kernel) ⟨(by decide), (by decide)⟩ rfl rfl rfl (Nat.le_of_ble_eq_true rfl) (kd dtX5_look_0 47 rfl) ⟨Nat.zero_le _, Nat.zero_le _⟩ (fun H locs hX => ?_)
                          refine lv_istore (lv' := [(7, .int v18), (0, .ref x0), (1, va_rf x1), (2, va_rf x2), (3, .int x3), (4, .int (kMmax (v4 - v5) (0 : Int32))), (5, .int z5_33), (6, .int z6_73)]) hx hb (kd dtX5_look_0 48 rfl) hl (by decide) rfl (fun ls hl => ?_)
                          refine lv_iload hx hb (kd dtX5_look_0 49 rfl) (lv_at hl 5 rfl) ?_
                          refine lv_istore (lv' := [(8, .int (kMmax (v4 - v5) (0 : Int32))), (7, .int v18), (0, .ref x0), (1, va_rf x1), (2, va_rf x2), (3, .int x3), (4, .int (kMmax (v4 - v5) (0 : Int32))), (5, .int z5_33), (6, .int z6_73)]) hx hb (kd dtX5_look_0 50 rfl) hl (by decide) rfl (fun ls hl => ?_)
                          have hL101 : ∀ (n : Nat) (k : Int32 → kW → Option kW), ∀ (z8_101 : Int32) (w_101 : kW) (H : Heap) (locs : List Loc) (ls : Array Slot), kX D aC w s.heap w_101 H locs → lv_has ls 9 [(0, .ref x0), (1, va_rf x1), (2, va_rf x2), (3, .int x3), (4, .int (kMmax (v4 - v5) (0 : Int32))), (5, .int z5_33), (6, .int z6_73), (7, .int v18), (8, .int z8_101)] → fX5_look_L101 x0 x1 x2 x3 (kMmax (v4 - v5) (0 : Int32)) z5_33 z6_73 v18 n k z8_101 w_101 = some wR → (∀ (z8_101 : Int32) (w_101 : kW) (H : Heap) (locs : List Loc) (ls : Array Slot), kX D aC w s.heap w_101 H locs → lv_has ls 9 [(0, .ref x0), (1, va_rf x1), (2, va_rf x2), (3, .int x3), (4, .int (kMmax (v4 - v5) (0 : Int32))), (5, .int z5_33), (6, .int z6_73), (7, .int v18), (8, .int z8_101)] → k z8_101 w_101 = some wR → W p l e { frames := 6, cells := 0, slots := 0, locals := 126 } s m ([.ref x0, va_rf x1, va_rf x2, .int x3] : List Value).toArray below meth c H locs 0 0 (MQ below (kQc D aC w none wR) ([.ref x0, va_rf x1, va_rf x2, .int x3] : List Value).toArray s 0 0 (kA w)) (F0 m 218 ls [])) → W p l e { frames := 6, cells := 0, slots := 0, locals := 126 } s m ([.ref x0, va_rf x1, va_rf x2, .int x3] : List Value).toArray below meth c H locs 0 0 (MQ below (kQc D aC w none wR) ([.ref x0, va_rf x1, va_rf x2, .int x3] : List Value).toArray s 0 0 (kA w)) (F0 m 101 ls []) := by
                            intro n k
                            induction n with
                            | zero =>
                              intro z8_101 w_101 H locs ls hX hl hf hk
                              rw [fX5_look_L101] at hf
                              cases hf
                            | succ n ih =>
                              intro z8_101 w_101 H locs ls hX hl hf hk
                              rw [fX5_look_L101] at hf
                              refine lv_iload hx hb (kd dtX5_look_0 51 rfl) (lv_at hl 8 rfl) ?_
                              refine lv_aload_n hx hb (kd dtX5_look_0 52 rfl) rfl (lv_at hl 0 rfl) ?_
                              obtain ⟨v21, hv21, hf⟩ := kbind hf
                              refine kgetI hv21 F hX hinX5 rfl rfl rfl (by decide) (by decide) wfX5_45 (kd dtX5_look_0 53 rfl) ?_
                              refine lv_icmp_ge (tgt := 218) hx hb (kd dtX5_look_0 54 rfl) (by decide) (fun hc => ?_) (fun hc => ?_)
                              · have hf := kif_pos hc hf
                                exact hk z8_101 w_101 _ _ _ hX hl hf
                              · have hf := kif_neg hc hf
                                refine lv_iload hx hb (kd dtX5_look_0 55 rfl) (lv_at hl 8 rfl) ?_
                                refine lv_bipush (v := (40 : Int32)) hx hb (kd dtX5_look_0 56 rfl) (by decide) ?_
                                refine lv_icmp_ge (tgt := 218) hx hb (kd dtX5_look_0 57 rfl) (by decide) (fun hc => ?_) (fun hc => ?_)
                                · have hf := kif_pos hc hf
                                  exact hk z8_101 w_101 _ _ _ hX hl hf
                                · have hf := kif_neg hc hf
                                  refine lv_aload_n hx hb (kd dtX5_look_0 58 rfl) rfl (lv_at hl 0 rfl) ?_
                                  obtain ⟨v22, hv22, hf⟩ := kbind hf
                                  refine kgetI hv22 F hX hinX5 rfl rfl rfl (by decide) (by decide) wfX5_58 (kd dtX5_look_0 59 rfl) ?_
                                  refine lv_if_ne (tgt := 218) hx hb (kd dtX5_look_0 60 rfl) (by decide) (fun hc => ?_) (fun hc => ?_)
                                  · have hf := kif_neg hc hf
                                    exact hk z8_101 w_101 _ _ _ hX hl hf
                                  · have hf := kif_pos hc hf
                                    refine lv_iload hx hb (kd dtX5_look_0 61 rfl) (lv_at hl 7 rfl) ?_
                                    refine lv_bipush (v := (109 : Int32)) hx hb (kd dtX5_look_0 62 rfl) (by decide) ?_
                                    refine lv_icmp_ne (tgt := 142) hx hb (kd dtX5_look_0 63 rfl) (by decide) (fun hc => ?_) (fun hc => ?_)
                                    · have hf := kif_neg hc hf
                                      refine lv_iload hx hb (kd dtX5_look_0 69 rfl) (lv_at hl 7 rfl) ?_
                                      refine lv_bipush (v := (100 : Int32)) hx hb (kd dtX5_look_0 70 rfl) (by decide) ?_
                                      refine lv_icmp_ne (tgt := 172) hx hb (kd dtX5_look_0 71 rfl) (by decide) (fun hc => ?_) (fun hc => ?_)
                                      · have hf := kif_neg hc hf
                                        refine lv_aload_n hx hb (kd dtX5_look_1 4 rfl) rfl (lv_at hl 0 rfl) ?_
                                        refine lv_iload hx hb (kd dtX5_look_1 5 rfl) (lv_at hl 5 rfl) ?_
                                        refine lv_aload_n hx hb (kd dtX5_look_1 6 rfl) rfl (lv_at hl 0 rfl) ?_
                                        obtain ⟨v23, hv23, hf⟩ := kbind hf
                                        refine kgetP hv23 F hX hinX5 rfl rfl rfl (by decide) (by decide) wfX5_11 (kd dtX5_look_1 7 rfl) ?_
                                        refine lv_iload hx hb (kd dtX5_look_1 8 rfl) (lv_at hl 5 rfl) ?_
                                        obtain ⟨v24, hv24, hf⟩ := kbind hf
                                        refine kqld16 hv24 F hX (kd dtX5_look_1 9 rfl) ?_
                                        refine lv_aload_n hx hb (kd dtX5_look_1 10 rfl) rfl (lv_at hl 0 rfl) ?_
                                        obtain ⟨v25, hv25, hf⟩ := kbind hf
                                        refine kgetP hv25 F hX hinX5 rfl rfl rfl (by decide) (by decide) wfX5_21 (kd dtX5_look_1 11 rfl) ?_
                                        refine lv_iload hx hb (kd dtX5_look_1 12 rfl) (lv_at hl 8 rfl) ?_
                                        obtain ⟨v26, hv26, hf⟩ := kbind hf
                                        refine kqld16 hv26 F hX (kd dtX5_look_1 13 rfl) ?_
                                        obtain ⟨b27, hb27, hf⟩ := kbind hf
                                        obtain ⟨hrb27, hkb27⟩ := kRc_s hb27
                                        obtain ⟨w28, h29, hf⟩ := kbind hf
                                        refine kcallV (n := 3) [.int z5_33, va_rf v24, va_rf v26] [] [] (rX5_tryChainAhead l D aC h29) hrb27 hkb27 F hml hX hZ hl.1 mwX5_tryChainAhead wmX5_126 rfl (by decide) (by decide +kernel) ⟨(by decide), (by decide)⟩ rfl rfl rfl (Nat.le_of_ble_eq_true rfl) (kd dtX5_look_1 14 rfl) ⟨Nat.zero_le _, Nat.zero_le _⟩ (fun H locs hX => ?_)
                                        refine lv_aload_n hx hb (kd dtX5_look_1 15 rfl) rfl (lv_at hl 0 rfl) ?_
                                        refine lv_iload hx hb (kd dtX5_look_1 16 rfl) (lv_at hl 5 rfl) ?_
                                        refine lv_aload_n hx hb (kd dtX5_look_1 17 rfl) rfl (lv_at hl 0 rfl) ?_
                                        obtain ⟨v30, hv30, hf⟩ := kbind hf
                                        refine kgetP hv30 F hX hinX5 rfl rfl rfl (by decide) (by decide) wfX5_11 (kd dtX5_look_1 18 rfl) ?_
                                        refine lv_iload hx hb (kd dtX5_look_1 19 rfl) (lv_at hl 5 rfl) ?_
                                        obtain ⟨v31, hv31, hf⟩ := kbind hf
                                        refine kqld16 hv31 F hX (kd dtX5_look_1 20 rfl) ?_
                                        refine lv_aload_n hx hb (kd dtX5_look_1 21 rfl) rfl (lv_at hl 0 rfl) ?_
                                        obtain ⟨v32, hv32, hf⟩ := kbind hf
                                        refine kgetP hv32 F hX hinX5 rfl rfl rfl (by decide) (by decide) wfX5_21 (kd dtX5_look_1 22 rfl) ?_
                                        refine lv_iload hx hb (kd dtX5_look_1 23 rfl) (lv_at hl 8 rfl) ?_
                                        obtain ⟨v33, hv33, hf⟩ := kbind hf
                                        refine kqld16 hv33 F hX (kd dtX5_look_1 24 rfl) ?_
                                        obtain ⟨b34, hb34, hf⟩ := kbind hf
                                        obtain ⟨hrb34, hkb34⟩ := kRc_s hb34
                                        obtain ⟨w35, h36, hf⟩ := kbind hf
                                        refine kcallV (n := 3) [.int z5_33, va_rf v31, va_rf v33] [] [] (rX5_tryChainBehind l D aC h36) hrb34 hkb34 F hml hX hZ hl.1 mwX5_tryChainBehind wmX5_129 rfl (by decide) (by decide +kernel) ⟨(by decide), (by decide)⟩ rfl rfl rfl (Nat.le_of_ble_eq_true rfl) (kd dtX5_look_1 25 rfl) ⟨Nat.zero_le _, Nat.zero_le _⟩ (fun H locs hX => ?_)
                                        refine lv_iinc (v := z8_101 + (1 : Int32)) (lv' := [(8, .int (z8_101 + (1 : Int32))), (0, .ref x0), (1, va_rf x1), (2, va_rf x2), (3, .int x3), (4, .int (kMmax (v4 - v5) (0 : Int32))), (5, .int z5_33), (6, .int z6_73), (7, .int v18)]) hx hb (kd dtX5_look_1 26 rfl) hl (k := 8) rfl (by rfl) (by decide) rfl (fun ls hl => ?_)
                                        refine lv_goto (tgt := 101) hx hb (kd dtX5_look_1 27 rfl) (by decide) ?_
                                        exact ih (z8_101 + (1 : Int32)) w35 _ _ _ hX (lv_sub hl [1, 2, 3, 4, 5, 6, 7, 8, 0] rfl) hf hk
                                      · have hf := kif_pos hc hf
                                        refine lv_aload_n hx hb (kd dtX5_look_0 72 rfl) rfl (lv_at hl 0 rfl) ?_
                                        refine lv_iload hx hb (kd dtX5_look_0 73 rfl) (lv_at hl 5 rfl) ?_
                                        refine lv_aload_n hx hb (kd dtX5_look_0 74 rfl) rfl (lv_at hl 0 rfl) ?_
                                        obtain ⟨v37, hv37, hf⟩ := kbind hf
                                        refine kgetP hv37 F hX hinX5 rfl rfl rfl (by decide) (by decide) wfX5_11 (kd dtX5_look_0 75 rfl) ?_
                                        refine lv_iload hx hb (kd dtX5_look_0 76 rfl) (lv_at hl 5 rfl) ?_
                                        obtain ⟨v38, hv38, hf⟩ := kbind hf
                                        refine kqld16 hv38 F hX (kd dtX5_look_0 77 rfl) ?_
                                        refine lv_aload_n hx hb (kd dtX5_look_0 78 rfl) rfl (lv_at hl 0 rfl) ?_
                                        obtain ⟨v39, hv39, hf⟩ := kbind hf
                                        refine kgetP hv39 F hX hinX5 rfl rfl rfl (by decide) (by decide) wfX5_21 (kd dtX5_look_0 79 rfl) ?_
                                        refine lv_iload hx hb (kd dtX5_look_1 0 rfl) (lv_at hl 8 rfl) ?_
                                        obtain ⟨v40, hv40, hf⟩ := kbind hf
                                        refine kqld16 hv40 F hX (kd dtX5_look_1 1 rfl) ?_
                                        obtain ⟨b41, hb41, hf⟩ := kbind hf
                                        obtain ⟨hrb41, hkb41⟩ := kRc_s hb41
                                        obtain ⟨w42, h43, hf⟩ := kbind hf
                                        refine kcallV (n := 3) [.int z5_33, va_rf v38, va_rf v40] [] [] (rX5_tryBack l D aC h43) hrb41 hkb41 F hml hX hZ hl.1 mwX5_tryBack wmX5_122 rfl (by decide) (by decide +kernel) ⟨(by decide), (by decide)⟩ rfl rfl rfl (Nat.le_of_ble_eq_true rfl) (kd dtX5_look_1 2 rfl) ⟨Nat.zero_le _, Nat.zero_le _⟩ (fun H locs hX => ?_)
                                        refine lv_goto (tgt := 212) hx hb (kd dtX5_look_1 3 rfl) (by decide) ?_
                                        refine lv_iinc (v := z8_101 + (1 : Int32)) (lv' := [(8, .int (z8_101 + (1 : Int32))), (0, .ref x0), (1, va_rf x1), (2, va_rf x2), (3, .int x3), (4, .int (kMmax (v4 - v5) (0 : Int32))), (5, .int z5_33), (6, .int z6_73), (7, .int v18)]) hx hb (kd dtX5_look_1 26 rfl) hl (k := 8) rfl (by rfl) (by decide) rfl (fun ls hl => ?_)
                                        refine lv_goto (tgt := 101) hx hb (kd dtX5_look_1 27 rfl) (by decide) ?_
                                        exact ih (z8_101 + (1 : Int32)) w42 _ _ _ hX (lv_sub hl [1, 2, 3, 4, 5, 6, 7, 8, 0] rfl) hf hk
                                    · have hf := kif_pos hc hf
                                      refine lv_aload_n hx hb (kd dtX5_look_0 64 rfl) rfl (lv_at hl 0 rfl) ?_
                                      refine lv_iload hx hb (kd dtX5_look_0 65 rfl) (lv_at hl 5 rfl) ?_
                                      refine lv_iload hx hb (kd dtX5_look_0 66 rfl) (lv_at hl 8 rfl) ?_
                                      obtain ⟨b44, hb44, hf⟩ := kbind hf
                                      obtain ⟨hrb44, hkb44⟩ := kRc_s hb44
                                      obtain ⟨w45, h46, hf⟩ := kbind hf
                                      refine kcallV (n := 2) [.int z5_33, .int z8_101] [] [] (rX5_tryMatch l D aC h46) hrb44 hkb44 F hml hX hZ hl.1 mwX5_tryMatch wmX5_118 rfl (by decide) (by decide +kernel) ⟨(by decide), (by decide)⟩ rfl rfl rfl (Nat.le_of_ble_eq_true rfl) (kd dtX5_look_0 67 rfl) ⟨Nat.zero_le _, Nat.zero_le _⟩ (fun H locs hX => ?_)
                                      refine lv_goto (tgt := 212) hx hb (kd dtX5_look_0 68 rfl) (by decide) ?_
                                      refine lv_iinc (v := z8_101 + (1 : Int32)) (lv' := [(8, .int (z8_101 + (1 : Int32))), (0, .ref x0), (1, va_rf x1), (2, va_rf x2), (3, .int x3), (4, .int (kMmax (v4 - v5) (0 : Int32))), (5, .int z5_33), (6, .int z6_73), (7, .int v18)]) hx hb (kd dtX5_look_1 26 rfl) hl (k := 8) rfl (by rfl) (by decide) rfl (fun ls hl => ?_)
                                      refine lv_goto (tgt := 101) hx hb (kd dtX5_look_1 27 rfl) (by decide) ?_
                                      exact ih (z8_101 + (1 : Int32)) w45 _ _ _ hX (lv_sub hl [1, 2, 3, 4, 5, 6, 7, 8, 0] rfl) hf hk
                          refine hL101 kFU _ (kMmax (v4 - v5) (0 : Int32)) w_73 _ _ _ hX (lv_sub hl [2, 3, 4, 5, 6, 7, 8, 1, 0] rfl) hf ?_
                          intro y8_19 w20 H locs ls hX hl hf
                          refine lv_iinc (v := z6_73 + (1 : Int32)) (lv' := [(6, .int (z6_73 + (1 : Int32))), (0, .ref x0), (1, va_rf x1), (2, va_rf x2), (3, .int x3), (4, .int (kMmax (v4 - v5) (0 : Int32))), (5, .int z5_33), (7, .int v18), (8, .int y8_19)]) hx hb (kd dtX5_look_1 28 rfl) hl (k := 6) rfl (by rfl) (by decide) rfl (fun ls hl => ?_)
                          refine lv_goto (tgt := 73) hx hb (kd dtX5_look_1 29 rfl) (by decide) ?_
                          exact ih (z6_73 + (1 : Int32)) w20 _ _ _ hX (lv_sub hl [1, 2, 3, 4, 5, 6, 0] rfl) hf hk
                  refine hL73 kFU _ (0 : Int32) w_33 _ _ _ hX (lv_sub hl [1, 2, 3, 4, 5, 6, 0] rfl) hf ?_
                  intro y6_12 w13 H locs ls hX hl hf
                  refine lv_iinc (v := z5_33 + (1 : Int32)) (lv' := [(5, .int (z5_33 + (1 : Int32))), (0, .ref x0), (1, va_rf x1), (2, va_rf x2), (3, .int x3), (4, .int (kMmax (v4 - v5) (0 : Int32))), (6, .int y6_12)]) hx hb (kd dtX5_look_1 30 rfl) hl (k := 5) rfl (by rfl) (by decide) rfl (fun ls hl => ?_)
                  refine lv_goto (tgt := 33) hx hb (kd dtX5_look_1 31 rfl) (by decide) ?_
                  exact ih (z5_33 + (1 : Int32)) w13 _ _ _ hX (lv_sub hl [1, 2, 3, 4, 5, 0] rfl) hf hk
                · have hf := kif_neg hc hf
                  refine lv_goto (tgt := 224) hx hb (kd dtX5_look_0 35 rfl) (by decide) ?_
                  refine lv_iinc (v := z5_33 + (1 : Int32)) (lv' := [(5, .int (z5_33 + (1 : Int32))), (0, .ref x0), (1, va_rf x1), (2, va_rf x2), (3, .int x3), (4, .int (kMmax (v4 - v5) (0 : Int32)))]) hx hb (kd dtX5_look_1 30 rfl) hl (k := 5) rfl (by rfl) (by decide) rfl (fun ls hl => ?_)
                  refine lv_goto (tgt := 33) hx hb (kd dtX5_look_1 31 rfl) (by decide) ?_
                  exact ih (z5_33 + (1 : Int32)) w_33 _ _ _ hX (lv_sub hl [1, 2, 3, 4, 5, 0] rfl) hf hk
      refine hL33 kFU _ (0 : Int32) w2 _ _ _ hX (lv_sub hl [2, 3, 4, 5, 1, 0] rfl) hf ?_
      intro y5_6 w7 H locs ls hX hl hf
      obtain rfl := Option.some.inj hf
      exact kvret F hX hr hlocks rfl (kd dtX5_look_1 32 rfl)
def lX5_needAt_0 : List (Nat × Instr × Nat) := [(0, .iload_n 1, 1), (1, .ifCond .lt 26, 3), (4, .iload_n 1, 1), (5, .aload_n 0, 1), (6, .getfield 41, 3), (9, .if_icmp .ge 18, 3), (12, .iload_n 1, 1), (13, .bipush 24, 2), (15, .if_icmp .ge 12, 3), (18, .aload_n 0, 1), (19, .getfield 11, 3), (22, .iload_n 1, 1), (23, .aaload, 1), (24, .goto 4, 3), (27, .aconst_null, 1), (28, .areturn, 1)]
theorem dtX5_needAt_0 : kDec cX5_needAt lX5_needAt_0 = true := by decide +kernel
noncomputable def fX5_needAt (x0 : Nat) (x1 : Int32) (w : kW) : Option (Option Nat) :=
  if x1 < 0 then
  some none
  else
  (kgI w 5 (some x0) 6).bind fun v1 =>
  if v1 ≤ x1 then
  some none
  else
  if (24 : Int32) ≤ x1 then
  some none
  else
  (kgP w 5 (some x0) 0).bind fun v2 =>
  (kaP w 16 v2 x1).bind fun v3 =>
  some v3

set_option maxHeartbeats 4000000 in
set_option maxRecDepth 100000 in
theorem rX5_needAt (l : Launch) (D : va_G) (aC : Nat → ClassId) {x0 : Nat} {x1 : Int32} {w : kW} {oR : Option Nat} (h : fX5_needAt x0 x1 w = some oR) : kC l D aC yX5_needAt cX5_needAt 2 (some (.object "KitchenCards$Line")) 1 12 [.ref x0, .int x1] w (some (va_rf oR)) w 0 0 := by
  refine kOf (own := RX5) (by decide) rfl (Nat.le_of_ble_eq_true rfl) ?_
  intro p e s m below meth c ls F hml hr hlocks hnm hX hZ hl
  obtain ⟨hx, hb, hts, hown, hK⟩ := id F
  have hl : lv_has ls 2 [(0, .ref x0), (1, .int x1)] := hl
  have hf := h
  rw [fX5_needAt] at hf
  refine lv_iload_n hx hb (kd dtX5_needAt_0 0 rfl) rfl (lv_at hl 1 rfl) ?_
  refine lv_if_lt (tgt := 27) hx hb (kd dtX5_needAt_0 1 rfl) (by decide) (fun hc => ?_) (fun hc => ?_)
  · have hf := kif_pos hc hf
    refine lv_null hx hb (kd dtX5_needAt_0 14 rfl) ?_
    obtain rfl := Option.some.inj hf
    exact karet F hX hr hlocks rfl (kd dtX5_needAt_0 15 rfl)
  · have hf := kif_neg hc hf
    refine lv_iload_n hx hb (kd dtX5_needAt_0 2 rfl) rfl (lv_at hl 1 rfl) ?_
    refine lv_aload_n hx hb (kd dtX5_needAt_0 3 rfl) rfl (lv_at hl 0 rfl) ?_
    obtain ⟨v1, hv1, hf⟩ := kbind hf
    refine kgetI hv1 F hX hinX5 rfl rfl rfl (by decide) (by decide) wfX5_41 (kd dtX5_needAt_0 4 rfl) ?_
    refine lv_icmp_ge (tgt := 27) hx hb (kd dtX5_needAt_0 5 rfl) (by decide) (fun hc => ?_) (fun hc => ?_)
    · have hf := kif_pos hc hf
      refine lv_null hx hb (kd dtX5_needAt_0 14 rfl) ?_
      obtain rfl := Option.some.inj hf
      exact karet F hX hr hlocks rfl (kd dtX5_needAt_0 15 rfl)
    · have hf := kif_neg hc hf
      refine lv_iload_n hx hb (kd dtX5_needAt_0 6 rfl) rfl (lv_at hl 1 rfl) ?_
      refine lv_bipush (v := (24 : Int32)) hx hb (kd dtX5_needAt_0 7 rfl) (by decide) ?_
      refine lv_icmp_ge (tgt := 27) hx hb (kd dtX5_needAt_0 8 rfl) (by decide) (fun hc => ?_) (fun hc => ?_)
      · have hf := kif_pos hc hf
        refine lv_null hx hb (kd dtX5_needAt_0 14 rfl) ?_
        obtain rfl := Option.some.inj hf
        exact karet F hX hr hlocks rfl (kd dtX5_needAt_0 15 rfl)
      · have hf := kif_neg hc hf
        refine lv_aload_n hx hb (kd dtX5_needAt_0 9 rfl) rfl (lv_at hl 0 rfl) ?_
        obtain ⟨v2, hv2, hf⟩ := kbind hf
        refine kgetP hv2 F hX hinX5 rfl rfl rfl (by decide) (by decide) wfX5_11 (kd dtX5_needAt_0 10 rfl) ?_
        refine lv_iload_n hx hb (kd dtX5_needAt_0 11 rfl) rfl (lv_at hl 1 rfl) ?_
        obtain ⟨v3, hv3, hf⟩ := kbind hf
        refine kqld16 hv3 F hX (kd dtX5_needAt_0 12 rfl) ?_
        refine lv_goto (tgt := 28) hx hb (kd dtX5_needAt_0 13 rfl) (by decide) ?_
        obtain rfl := Option.some.inj hf
        exact karet F hX hr hlocks rfl (kd dtX5_needAt_0 15 rfl)
