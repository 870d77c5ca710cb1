theorem wmX12_1 : Cond.methodLink RX12 1 objectInit ∈ kT := kTm 1233 (by decide +kernel) rfl
theorem wfX12_9 : Cond.fieldLink RX12 9 (TX12 0).1 (TX12 0).2.1 (TX12 0).2.2.1 ∈ kT := kTm 1234 (by decide +kernel) rfl
theorem wfX12_13 : Cond.fieldLink RX12 13 (TX12 1).1 (TX12 1).2.1 (TX12 1).2.2.1 ∈ kT := kTm 1235 (by decide +kernel) rfl
theorem wfX12_16 : Cond.fieldLink RX12 16 (TX12 2).1 (TX12 2).2.1 (TX12 2).2.2.1 ∈ kT := kTm 1236 (by decide +kernel) rfl
theorem wfX12_19 : Cond.fieldLink RX12 19 (TX12 3).1 (TX12 3).2.1 (TX12 3).2.2.1 ∈ kT := kTm 1237 (by decide +kernel) rfl
theorem wfX12_22 : Cond.fieldLink RX12 22 (TX12 4).1 (TX12 4).2.1 (TX12 4).2.2.1 ∈ kT := kTm 1238 (by decide +kernel) rfl
theorem wfX12_25 : Cond.fieldLink RX12 25 (TX12 5).1 (TX12 5).2.1 (TX12 5).2.2.1 ∈ kT := kTm 1239 (by decide +kernel) rfl
theorem wfX12_28 : Cond.fieldLink RX12 28 (TX12 6).1 (TX12 6).2.1 (TX12 6).2.2.1 ∈ kT := kTm 1240 (by decide +kernel) rfl
theorem wfX12_31 : Cond.fieldLink RX12 31 (TX12 7).1 (TX12 7).2.1 (TX12 7).2.2.1 ∈ kT := kTm 1241 (by decide +kernel) rfl
theorem wfX12_34 : Cond.fieldLink RX12 34 (TX12 8).1 (TX12 8).2.1 (TX12 8).2.2.1 ∈ kT := kTm 1242 (by decide +kernel) rfl
theorem wfX12_37 : Cond.fieldLink RX12 37 (TX12 9).1 (TX12 9).2.1 (TX12 9).2.2.1 ∈ kT := kTm 1243 (by decide +kernel) rfl
theorem wfX12_40 : Cond.fieldLink RX12 40 (TX12 15).1 (TX12 15).2.1 (TX12 15).2.2.1 ∈ kT := kTm 1249 (by decide +kernel) rfl
theorem wfX12_43 : Cond.fieldLink RX12 43 (TX12 16).1 (TX12 16).2.1 (TX12 16).2.2.1 ∈ kT := kTm 1250 (by decide +kernel) rfl
theorem wfX12_46 : Cond.fieldLink RX12 46 (TX12 20).1 (TX12 20).2.1 (TX12 20).2.2.1 ∈ kT := kTm 1254 (by decide +kernel) rfl
theorem wfX12_49 : Cond.fieldLink RX12 49 (TX12 25).1 (TX12 25).2.1 (TX12 25).2.2.1 ∈ kT := kTm 1259 (by decide +kernel) rfl
theorem wfX12_52 : Cond.fieldLink RX12 52 (TX12 26).1 (TX12 26).2.1 (TX12 26).2.2.1 ∈ kT := kTm 1260 (by decide +kernel) rfl
theorem wfX12_55 : Cond.fieldLink RX12 55 (TX12 27).1 (TX12 27).2.1 (TX12 27).2.2.1 ∈ kT := kTm 1261 (by decide +kernel) rfl
theorem wfX12_58 : Cond.fieldLink RX12 58 (TX12 38).1 (TX12 38).2.1 (TX12 38).2.2.1 ∈ kT := kTm 1272 (by decide +kernel) rfl
def lX12_init_0 : List (Nat × Instr × Nat) := [(0, .aload_n 0, 1), (1, .invokespecial 1, 3), (4, .aload_n 0, 1), (5, .sipush 10000, 3), (8, .newarray .int, 2), (10, .putfield 9, 3), (13, .aload_n 0, 1), (14, .sipush 2400, 3), (17, .newarray .int, 2), (19, .putfield 13, 3), (22, .aload_n 0, 1), (23, .sipush 1000, 3), (26, .newarray .int, 2), (28, .putfield 16, 3), (31, .aload_n 0, 1), (32, .sipush 1000, 3), (35, .newarray .int, 2), (37, .putfield 19, 3), (40, .aload_n 0, 1), (41, .bipush 8, 2), (43, .newarray .int, 2), (45, .putfield 22, 3), (48, .aload_n 0, 1), (49, .bipush 8, 2), (51, .newarray .int, 2), (53, .putfield 25, 3), (56, .aload_n 0, 1), (57, .bipush 8, 2), (59, .newarray .int, 2), (61, .putfield 28, 3), (64, .aload_n 0, 1), (65, .sipush 960, 3), (68, .newarray .int, 2), (70, .putfield 31, 3), (73, .aload_n 0, 1), (74, .bipush 8, 2), (76, .newarray .int, 2), (78, .putfield 34, 3), (81, .aload_n 0, 1), (82, .bipush 8, 2), (84, .newarray .int, 2), (86, .putfield 37, 3), (89, .aload_n 0, 1), (90, .bipush 6, 2), (92, .newarray .int, 2), (94, .putfield 40, 3), (97, .aload_n 0, 1), (98, .bipush 6, 2), (100, .newarray .int, 2), (102, .putfield 43, 3), (105, .aload_n 0, 1), (106, .bipush 120, 2), (108, .newarray .int, 2), (110, .putfield 46, 3), (113, .aload_n 0, 1), (114, .bipush 24, 2), (116, .newarray .int, 2), (118, .putfield 49, 3), (121, .aload_n 0, 1), (122, .bipush 24, 2), (124, .newarray .int, 2), (126, .putfield 52, 3), (129, .aload_n 0, 1), (130, .bipush 40, 2), (132, .newarray .int, 2), (134, .putfield 55, 3), (137, .aload_n 0, 1), (138, .bipush 40, 2), (140, .newarray .int, 2), (142, .putfield 58, 3), (145, .return_, 1)]
theorem dtX12_init_0 : kDec cX12_init lX12_init_0 = true := by decide +kernel
noncomputable def fX12_init (x0 : Nat) (w : kW) : Option kW :=
  (knA w 14 (10000 : Int32)).bind fun w1 =>
  (kpP w1 12 (some x0) 0 (some (kSz w))).bind fun w2 =>
  (knA w2 14 (2400 : Int32)).bind fun w3 =>
  (kpP w3 12 (some x0) 1 (some (kSz w2))).bind fun w4 =>
  (knA w4 14 (1000 : Int32)).bind fun w5 =>
  (kpP w5 12 (some x0) 2 (some (kSz w4))).bind fun w6 =>
  (knA w6 14 (1000 : Int32)).bind fun w7 =>
  (kpP w7 12 (some x0) 3 (some (kSz w6))).bind fun w8 =>
  (knA w8 14 (8 : Int32)).bind fun w9 =>
  (kpP w9 12 (some x0) 4 (some (kSz w8))).bind fun w10 =>
  (knA w10 14 (8 : Int32)).bind fun w11 =>
  (kpP w11 12 (some x0) 5 (some (kSz w10))).bind fun w12 =>
  (knA w12 14 (8 : Int32)).bind fun w13 =>
  (kpP w13 12 (some x0) 6 (some (kSz w12))).bind fun w14 =>
  (knA w14 14 (960 : Int32)).bind fun w15 =>
  (kpP w15 12 (some x0) 7 (some (kSz w14))).bind fun w16 =>
  (knA w16 14 (8 : Int32)).bind fun w17 =>
  (kpP w17 12 (some x0) 8 (some (kSz w16))).bind fun w18 =>
  (knA w18 14 (8 : Int32)).bind fun w19 =>
  (kpP w19 12 (some x0) 9 (some (kSz w18))).bind fun w20 =>
  (knA w20 14 (6 : Int32)).bind fun w21 =>
  (kpP w21 12 (some x0) 15 (some (kSz w20))).bind fun w22 =>
  (knA w22 14 (6 : Int32)).bind fun w23 =>
  (kpP w23 12 (some x0) 16 (some (kSz w22))).bind fun w24 =>
  (knA w24 14 (120 : Int32)).bind fun w25 =>
  (kpP w25 12 (some x0) 20 (some (kSz w24))).bind fun w26 =>
  (knA w26 14 (24 : Int32)).bind fun w27 =>
  (kpP w27 12 (some x0) 25 (some (kSz w26))).bind fun w28 =>
  (knA w28 14 (24 : Int32)).bind fun w29 =>
  (kpP w29 12 (some x0) 26 (some (kSz w28))).bind fun w30 =>
  (knA w30 14 (40 : Int32)).bind fun w31 =>
  (kpP w31 12 (some x0) 27 (some (kSz w30))).bind fun w32 =>
  (knA w32 14 (40 : Int32)).bind fun w33 =>
  (kpP w33 12 (some x0) 38 (some (kSz w32))).bind fun w34 =>
  some w34

set_option maxHeartbeats 4000000 in
set_option maxRecDepth 100000 in
theorem rX12_init (l : Launch) (D : va_G) (aC : Nat → ClassId) {x0 : Nat} {w : kW} {wR : kW} (h : fX12_init x0 w = some wR) : kC l D aC yX12_init cX12_init 1 none 1 20 [.ref x0] w none wR 17 15660 := by
  refine kOf (own := RX12) (by decide) rfl (Nat.le_of_ble_eq_true rfl) ?_
  intro p e s m below meth c ls F hml hr hlocks hnm hX hZ hl
  obtain ⟨hx, hb, hts, hown, hK⟩ := id F
  have hl : lv_has ls 1 [(0, .ref x0)] := hl
  have hf := h
  rw [fX12_init] at hf
  refine lv_aload_n hx hb (kd dtX12_init_0 0 rfl) rfl (lv_at hl 0 rfl) ?_
  refine kobj F (hml.trans hl.1.symm) wmX12_1 (Nat.le_of_ble_eq_true rfl) (Nat.le_of_ble_eq_true rfl) (kd dtX12_init_0 1 rfl) ?_
  refine lv_aload_n hx hb (kd dtX12_init_0 2 rfl) rfl (lv_at hl 0 rfl) ?_
  refine lv_sipush (v := (10000 : Int32)) hx hb (kd dtX12_init_0 3 rfl) (by decide) ?_
  obtain ⟨w1, hw1, hf⟩ := kbind hf
  refine knewa (mx := 10000) hw1 rfl (fun _ => rfl) (by decide) (by decide) F hX wA14 (by decide) (by decide) (Nat.le_of_ble_eq_true rfl) (Nat.le_of_ble_eq_true rfl) (kd dtX12_init_0 4 rfl) (fun H hX => ?_)
  obtain ⟨w2, hw2, hf⟩ := kbind hf
  refine kputP hw2 F hX hinX12 tyX12_ok nmX12 rfl rfl rfl (by decide) (by decide) wfX12_9 (Or.inr ⟨rfl, hnm, rfl⟩) (kd dtX12_init_0 5 rfl) (fun H locs hX => ?_)
  refine lv_aload_n hx hb (kd dtX12_init_0 6 rfl) rfl (lv_at hl 0 rfl) ?_
  refine lv_sipush (v := (2400 : Int32)) hx hb (kd dtX12_init_0 7 rfl) (by decide) ?_
  obtain ⟨w3, hw3, hf⟩ := kbind hf
  refine knewa (mx := 2400) hw3 rfl (fun _ => rfl) (by decide) (by decide) F hX wA14 (by decide) (by decide) (Nat.le_of_ble_eq_true rfl) (Nat.le_of_ble_eq_true rfl) (kd dtX12_init_0 8 rfl) (fun H hX => ?_)
  obtain ⟨w4, hw4, hf⟩ := kbind hf
  refine kputP hw4 F hX hinX12 tyX12_ok nmX12 rfl rfl rfl (by decide) (by decide) wfX12_13 (Or.inr ⟨rfl, hnm, rfl⟩) (kd dtX12_init_0 9 rfl) (fun H locs hX => ?_)
  refine lv_aload_n hx hb (kd dtX12_init_0 10 rfl) rfl (lv_at hl 0 rfl) ?_
  refine lv_sipush (v := (1000 : Int32)) hx hb (kd dtX12_init_0 11 rfl) (by decide) ?_
  obtain ⟨w5, hw5, hf⟩ := kbind hf
  refine knewa (mx := 1000) hw5 rfl (fun _ => rfl) (by decide) (by decide) F hX wA14 (by decide) (by decide) (Nat.le_of_ble_eq_true rfl) (Nat.le_of_ble_eq_true rfl) (kd dtX12_init_0 12 rfl) (fun H hX => ?_)
  obtain ⟨w6, hw6, hf⟩ := kbind hf
  refine kputP hw6 F hX hinX12 tyX12_ok nmX12 rfl rfl rfl (by decide) (by decide) wfX12_16 (Or.inr ⟨rfl, hnm, rfl⟩) (kd dtX12_init_0 13 rfl) (fun H locs hX => ?_)
  refine lv_aload_n hx hb (kd dtX12_init_0 14 rfl) rfl (lv_at hl 0 rfl) ?_
  refine lv_sipush (v := (1000 : Int32)) hx hb (kd dtX12_init_0 15 rfl) (by decide) ?_
  obtain ⟨w7, hw7, hf⟩ := kbind hf
  refine knewa (mx := 1000) hw7 rfl (fun _ => rfl) (by decide) (by decide) F hX wA14 (by decide) (by decide) (Nat.le_of_ble_eq_true rfl) (Nat.le_of_ble_eq_true rfl) (kd dtX12_init_0 16 rfl) (fun H hX => ?_)
  obtain ⟨w8, hw8, hf⟩ := kbind hf
  refine kputP hw8 F hX hinX12 tyX12_ok nmX12 rfl rfl rfl (by decide) (by decide) wfX12_19 (Or.inr ⟨rfl, hnm, rfl⟩) (kd dtX12_init_0 17 rfl) (fun H locs hX => ?_)
  refine lv_aload_n hx hb (kd dtX12_init_0 18 rfl) rfl (lv_at hl 0 rfl) ?_
  refine lv_bipush (v := (8 : Int32)) hx hb (kd dtX12_init_0 19 rfl) (by decide) ?_
  obtain ⟨w9, hw9, hf⟩ := kbind hf
  refine knewa (mx := 8) hw9 rfl (fun _ => rfl) (by decide) (by decide) F hX wA14 (by decide) (by decide) (Nat.le_of_ble_eq_true rfl) (Nat.le_of_ble_eq_true rfl) (kd dtX12_init_0 20 rfl) (fun H hX => ?_)
  obtain ⟨w10, hw10, hf⟩ := kbind hf
  refine kputP hw10 F hX hinX12 tyX12_ok nmX12 rfl rfl rfl (by decide) (by decide) wfX12_22 (Or.inr ⟨rfl, hnm, rfl⟩) (kd dtX12_init_0 21 rfl) (fun H locs hX => ?_)
  refine lv_aload_n hx hb (kd dtX12_init_0 22 rfl) rfl (lv_at hl 0 rfl) ?_
  refine lv_bipush (v := (8 : Int32)) hx hb (kd dtX12_init_0 23 rfl) (by decide) ?_
  obtain ⟨w11, hw11, hf⟩ := kbind hf
  refine knewa (mx := 8) hw11 rfl (fun _ => rfl) (by decide) (by decide) F hX wA14 (by decide) (by decide) (Nat.le_of_ble_eq_true rfl) (Nat.le_of_ble_eq_true rfl) (kd dtX12_init_0 24 rfl) (fun H hX => ?_)
  obtain ⟨w12, hw12, hf⟩ := kbind hf
  refine kputP hw12 F hX hinX12 tyX12_ok nmX12 rfl rfl rfl (by decide) (by decide) wfX12_25 (Or.inr ⟨rfl, hnm, rfl⟩) (kd dtX12_init_0 25 rfl) (fun H locs hX => ?_)
  refine lv_aload_n hx hb (kd dtX12_init_0 26 rfl) rfl (lv_at hl 0 rfl) ?_
  refine lv_bipush (v := (8 : Int32)) hx hb (kd dtX12_init_0 27 rfl) (by decide) ?_
  obtain ⟨w13, hw13, hf⟩ := kbind hf
  refine knewa (mx := 8) hw13 rfl (fun _ => rfl) (by decide) (by decide) F hX wA14 (by decide) (by decide) (Nat.le_of_ble_eq_true rfl) (Nat.le_of_ble_eq_true rfl) (kd dtX12_init_0 28 rfl) (fun H hX => ?_)
  obtain ⟨w14, hw14, hf⟩ := kbind hf
  refine kputP hw14 F hX hinX12 tyX12_ok nmX12 rfl rfl rfl (by decide) (by decide) wfX12_28 (Or.inr ⟨rfl, hnm, rfl⟩) (kd dtX12_init_0 29 rfl) (fun H locs hX => ?_)
  refine lv_aload_n hx hb (kd dtX12_init_0 30 rfl) rfl (lv_at hl 0 rfl) ?_
  refine lv_sipush (v := (960 : Int32)) hx hb (kd dtX12_init_0 31 rfl) (by decide) ?_
  obtain ⟨w15, hw15, hf⟩ := kbind hf
  refine knewa (mx := 960) hw15 rfl (fun _ => rfl) (by decide) (by decide) F hX wA14 (by decide) (by decide) (Nat.le_of_ble_eq_true rfl) (Nat.le_of_ble_eq_true rfl) (kd dtX12_init_0 32 rfl) (fun H hX => ?_)
  obtain ⟨w16, hw16, hf⟩ := kbind hf
  refine kputP hw16 F hX hinX12 tyX12_ok nmX12 rfl rfl rfl (by decide) (by decide) wfX12_31 (Or.inr ⟨rfl, hnm, rfl⟩) (kd dtX12_init_0 33 rfl) (fun H locs hX => ?_)
  refine lv_aload_n hx hb (kd dtX12_init_0 34 rfl) rfl (lv_at hl 0 rfl) ?_
  refine lv_bipush (v := (8 : Int32)) hx hb (kd dtX12_init_0 35 rfl) (by decide) ?_
  obtain ⟨w17, hw17, hf⟩ := kbind hf
  refine knewa (mx := 8) hw17 rfl (fun _ => rfl) (by decide) (by decide) F hX wA14 (by decide) (by decide) (Nat.le_of_ble_eq_true rfl) (Nat.le_of_ble_eq_true rfl) (kd dtX12_init_0 36 rfl) (fun H hX => ?_)
  obtain ⟨w18, hw18, hf⟩ := kbind hf
  refine kputP hw18 F hX hinX12 tyX12_ok nmX12 rfl rfl rfl (by decide) (by decide) wfX12_34 (Or.inr ⟨rfl, hnm, rfl⟩) (kd dtX12_init_0 37 rfl) (fun H locs hX => ?_)
  refine lv_aload_n hx hb (kd dtX12_init_0 38 rfl) rfl (lv_at hl 0 rfl) ?_
  refine lv_bipush (v := (8 : Int32)) hx hb (kd dtX12_init_0 39 rfl) (by decide) ?_
  obtain ⟨w19, hw19, hf⟩ := kbind hf
  refine knewa (mx := 8) hw19 rfl (fun _ => rfl) (by decide) (by decide) F hX wA14 (by decide) (by decide) (Nat.le_of_ble_eq_true rfl) (Nat.le_of_ble_eq_true rfl) (kd dtX12_init_0 40 rfl) (fun H hX => ?_)
  obtain ⟨w20, hw20, hf⟩ := kbind hf
  refine kputP hw20 F hX hinX12 tyX12_ok nmX12 rfl rfl rfl (by decide) (by decide) wfX12_37 (Or.inr ⟨rfl, hnm, rfl⟩) (kd dtX12_init_0 41 rfl) (fun H locs hX => ?_)
  refine lv_aload_n hx hb (kd dtX12_init_0 42 rfl) rfl (lv_at hl 0 rfl) ?_
  refine lv_bipush (v := (6 : Int32)) hx hb (kd dtX12_init_0 43 rfl) (by decide) ?_
  obtain ⟨w21, hw21, hf⟩ := kbind hf
  refine knewa (mx := 6) hw21 rfl (fun _ => rfl) (by decide) (by decide) F hX wA14 (by decide) (by decide) (Nat.le_of_ble_eq_true rfl) (Nat.le_of_ble_eq_true rfl) (kd dtX12_init_0 44 rfl) (fun H hX => ?_)
  obtain ⟨w22, hw22, hf⟩ := kbind hf
  refine kputP hw22 F hX hinX12 tyX12_ok nmX12 rfl rfl rfl (by decide) (by decide) wfX12_40 (Or.inr ⟨rfl, hnm, rfl⟩) (kd dtX12_init_0 45 rfl) (fun H locs hX => ?_)
  refine lv_aload_n hx hb (kd dtX12_init_0 46 rfl) rfl (lv_at hl 0 rfl) ?_
  refine lv_bipush (v := (6 : Int32)) hx hb (kd dtX12_init_0 47 rfl) (by decide) ?_
  obtain ⟨w23, hw23, hf⟩ := kbind hf
  refine knewa (mx := 6) hw23 rfl (fun _ => rfl) (by decide) (by decide) F hX wA14 (by decide) (by decide) (Nat.le_of_ble_eq_true rfl) (Nat.le_of_ble_eq_true rfl) (kd dtX12_init_0 48 rfl) (fun H hX => ?_)
  obtain ⟨w24, hw24, hf⟩ := kbind hf
  refine kputP hw24 F hX hinX12 tyX12_ok nmX12 rfl rfl rfl (by decide) (by decide) wfX12_43 (Or.inr ⟨rfl, hnm, rfl⟩) (kd dtX12_init_0 49 rfl) (fun H locs hX => ?_)
  refine lv_aload_n hx hb (kd dtX12_init_0 50 rfl) rfl (lv_at hl 0 rfl) ?_
  refine lv_bipush (v := (120 : Int32)) hx hb (kd dtX12_init_0 51 rfl) (by decide) ?_
  obtain ⟨w25, hw25, hf⟩ := kbind hf
  refine knewa (mx := 120) hw25 rfl (fun _ => rfl) (by decide) (by decide) F hX wA14 (by decide) (by decide) (Nat.le_of_ble_eq_true rfl) (Nat.le_of_ble_eq_true rfl) (kd dtX12_init_0 52 rfl) (fun H hX => ?_)
  obtain ⟨w26, hw26, hf⟩ := kbind hf
  refine kputP hw26 F hX hinX12 tyX12_ok nmX12 rfl rfl rfl (by decide) (by decide) wfX12_46 (Or.inr ⟨rfl, hnm, rfl⟩) (kd dtX12_init_0 53 rfl) (fun H locs hX => ?_)
  refine lv_aload_n hx hb (kd dtX12_init_0 54 rfl) rfl (lv_at hl 0 rfl) ?_
  refine lv_bipush (v := (24 : Int32)) hx hb (kd dtX12_init_0 55 rfl) (by decide) ?_
  obtain ⟨w27, hw27, hf⟩ := kbind hf
  refine knewa (mx := 24) hw27 rfl (fun _ => rfl) (by decide) (by decide) F hX wA14 (by decide) (by decide) (Nat.le_of_ble_eq_true rfl) (Nat.le_of_ble_eq_true rfl) (kd dtX12_init_0 56 rfl) (fun H hX => ?_)
  obtain ⟨w28, hw28, hf⟩ := kbind hf
  refine kputP hw28 F hX hinX12 tyX12_ok nmX12 rfl rfl rfl (by decide) (by decide) wfX12_49 (Or.inr ⟨rfl, hnm, rfl⟩) (kd dtX12_init_0 57 rfl) (fun H locs hX => ?_)
  refine lv_aload_n hx hb (kd dtX12_init_0 58 rfl) rfl (lv_at hl 0 rfl) ?_
  refine lv_bipush (v := (24 : Int32)) hx hb (kd dtX12_init_0 59 rfl) (by decide) ?_
  obtain ⟨w29, hw29, hf⟩ := kbind hf
  refine knewa (mx := 24) hw29 rfl (fun _ => rfl) (by decide) (by decide) F hX wA14 (by decide) (by decide) (Nat.le_of_ble_eq_true rfl) (Nat.le_of_ble_eq_true rfl) (kd dtX12_init_0 60 rfl) (fun H hX => ?_)
  obtain ⟨w30, hw30, hf⟩ := kbind hf
  refine kputP hw30 F hX hinX12 tyX12_ok nmX12 rfl rfl rfl (by decide) (by decide) wfX12_52 (Or.inr ⟨rfl, hnm, rfl⟩) (kd dtX12_init_0 61 rfl) (fun H locs hX => ?_)
  refine lv_aload_n hx hb (kd dtX12_init_0 62 rfl) rfl (lv_at hl 0 rfl) ?_
  refine lv_bipush (v := (40 : Int32)) hx hb (kd dtX12_init_0 63 rfl) (by decide) ?_
  obtain ⟨w31, hw31, hf⟩ := kbind hf
  refine knewa (mx := 40) hw31 rfl (fun _ => rfl) (by decide) (by decide) F hX wA14 (by decide) (by decide) (Nat.le_of_ble_eq_true rfl) (Nat.le_of_ble_eq_true rfl) (kd dtX12_init_0 64 rfl) (fun H hX => ?_)
  obtain ⟨w32, hw32, hf⟩ := kbind hf
  refine kputP hw32 F hX hinX12 tyX12_ok nmX12 rfl rfl rfl (by decide) (by decide) wfX12_55 (Or.inr ⟨rfl, hnm, rfl⟩) (kd dtX12_init_0 65 rfl) (fun H locs hX => ?_)
  refine lv_aload_n hx hb (kd dtX12_init_0 66 rfl) rfl (lv_at hl 0 rfl) ?_
  refine lv_bipush (v := (40 : Int32)) hx hb (kd dtX12_init_0 67 rfl) (by decide) ?_
  obtain ⟨w33, hw33, hf⟩ := kbind hf
  refine knewa (mx := 40) hw33 rfl (fun _ => rfl) (by decide) (by decide) F hX wA14 (by decide) (by decide) (Nat.le_of_ble_eq_true rfl) (Nat.le_of_ble_eq_true rfl) (kd dtX12_init_0 68 rfl) (fun H hX => ?_)
  obtain ⟨w34, hw34, hf⟩ := kbind hf
  refine kputP hw34 F hX hinX12 tyX12_ok nmX12 rfl rfl rfl (by decide) (by decide) wfX12_58 (Or.inr ⟨rfl, hnm, rfl⟩) (kd dtX12_init_0 69 rfl) (fun H locs hX => ?_)
  obtain rfl := Option.some.inj hf
  refine W.widen (k := 17) (n := 15660) (Nat.le_of_ble_eq_true rfl) (Nat.le_of_ble_eq_true rfl) ?_
  exact kvret F hX hr hlocks rfl (kd dtX12_init_0 70 rfl)
theorem wfX12_61 : Cond.fieldLink RX12 61 (TX12 11).1 (TX12 11).2.1 (TX12 11).2.2.1 ∈ kT := kTm 1245 (by decide +kernel) rfl
def lX12_thrown_0 : List (Nat × Instr × Nat) := [(0, .aload_n 0, 1), (1, .getfield 61, 3), (4, .ireturn, 1)]
theorem dtX12_thrown_0 : kDec cX12_thrown lX12_thrown_0 = true := by decide +kernel
noncomputable def fX12_thrown (w : rW) : Option Int32 :=
  some (rF w 11)

set_option maxHeartbeats 4000000 in
set_option maxRecDepth 100000 in
theorem rX12_thrown (l : Launch) (D : va_G) (aC : Nat → ClassId) {h0 : Nat} {wB : kW} (hB : rOK h0 wB) {w : rW} {oR : Int32} (h : fX12_thrown w = some oR) : kC l D aC yX12_thrown cX12_thrown 1 (some .int) 1 12 [.ref h0] (rWo h0 wB w) (some (.int oR)) (rWo h0 wB w) 0 0 := by
  refine kOf (own := RX12) (by decide) rfl (Nat.le_of_ble_eq_true rfl) ?_
  intro p e s m below meth c ls F hml hr hlocks hnm hX hZ hl
  obtain ⟨hx, hb, hts, hown, hK⟩ := id F
  have hl : lv_has ls 1 [(0, .ref h0)] := hl
  have hf := h
  rw [fX12_thrown] at hf
  refine lv_aload_n hx hb (kd dtX12_thrown_0 0 rfl) rfl (lv_at hl 0 rfl) ?_
  refine rgetF (j := 11) hB F hX wfX12_61 (by decide) rfl (kd dtX12_thrown_0 1 rfl) ?_
  obtain rfl := Option.some.inj hf
  exact kiret F hX hr hlocks rfl (kd dtX12_thrown_0 2 rfl)
def lX12_isIn_0 : List (Nat × Instr × Nat) := [(0, .lload_n 0, 1), (1, .lload_n 2, 1), (2, .lcmp, 1), (3, .ifCond .lt 14, 3), (6, .lload_n 0, 1), (7, .lload 4, 2), (9, .lcmp, 1), (10, .ifCond .gt 7, 3), (13, .iconst 1, 1), (14, .goto 4, 3), (17, .iconst 0, 1), (18, .ireturn, 1)]
theorem dtX12_isIn_0 : kDec cX12_isIn lX12_isIn_0 = true := by decide +kernel
noncomputable def fX12_isIn (x0 : Int64) (x2 : Int64) (x4 : Int64) : Option Int32 :=
  if (lg_cmp x0 x2) < 0 then
  some (0 : Int32)
  else
  if 0 < (lg_cmp x0 x4) then
  some (0 : Int32)
  else
  some (1 : Int32)

set_option maxHeartbeats 4000000 in
set_option maxRecDepth 100000 in
theorem rX12_isIn (l : Launch) (D : va_G) (aC : Nat → ClassId) (w : kW) {x0 : Int64} {x2 : Int64} {x4 : Int64} {oR : Int32} (h : fX12_isIn x0 x2 x4 = some oR) : kC l D aC yX12_isIn cX12_isIn 6 (some .boolean) 1 12 [.long x0, .long x2, .long x4] w (some (.int oR)) w 0 0 := by
  refine kOf (own := RX12) (by decide) rfl (Nat.le_of_ble_eq_true rfl) ?_
  intro p e s m below meth c ls F hml hr hlocks hnm hX hZ hl
  obtain ⟨hx, hb, hts, hown, hK⟩ := id F
  have hl : lv_has ls 6 [(0, .long x0), (2, .long x2), (4, .long x4)] := hl
  have hf := h
  rw [fX12_isIn] at hf
  refine lv_lload_n hx hb (kd dtX12_isIn_0 0 rfl) rfl (lv_at hl 0 rfl) ?_
  refine lv_lload_n hx hb (kd dtX12_isIn_0 1 rfl) rfl (lv_at hl 1 rfl) ?_
  refine W.lcmp hx hb (kd dtX12_isIn_0 2 rfl) ?_
  refine lv_if_lt (tgt := 17) hx hb (kd dtX12_isIn_0 3 rfl) (by decide) (fun hc => ?_) (fun hc => ?_)
  · have hf := kif_pos hc hf
    refine lv_iconst (v := (0 : Int32)) hx hb (kd dtX12_isIn_0 10 rfl) (by decide) ?_
    obtain rfl := Option.some.inj hf
    exact kzret F hX hr hlocks rfl rfl (kd dtX12_isIn_0 11 rfl)
  · have hf := kif_neg hc hf
    refine lv_lload_n hx hb (kd dtX12_isIn_0 4 rfl) rfl (lv_at hl 0 rfl) ?_
    refine lv_lload hx hb (kd dtX12_isIn_0 5 rfl) (lv_at hl 2 rfl) ?_
    refine W.lcmp hx hb (kd dtX12_isIn_0 6 rfl) ?_
    refine lv_if_gt (tgt := 17) hx hb (kd dtX12_isIn_0 7 rfl) (by decide) (fun hc => ?_) (fun hc => ?_)
    · have hf := kif_pos hc hf
      refine lv_iconst (v := (0 : Int32)) hx hb (kd dtX12_isIn_0 10 rfl) (by decide) ?_
      obtain rfl := Option.some.inj hf
      exact kzret F hX hr hlocks rfl rfl (kd dtX12_isIn_0 11 rfl)
    · have hf := kif_neg hc hf
      refine lv_iconst (v := (1 : Int32)) hx hb (kd dtX12_isIn_0 8 rfl) (by decide) ?_
      refine lv_goto (tgt := 18) hx hb (kd dtX12_isIn_0 9 rfl) (by decide) ?_
      obtain rfl := Option.some.inj hf
      exact kzret F hX hr hlocks rfl rfl (kd dtX12_isIn_0 11 rfl)
theorem wmX12_65 : Cond.methodLink RX12 65 yX12_isIn ∈ kT := kTm 1374 (by decide +kernel) rfl
theorem mwX12_isIn : kMS yX12_isIn cX12_isIn 6 (some .boolean) := ⟨kTm 1376 (by decide +kernel) rfl, kTm 106 (by decide +kernel) rfl, kTm 1375 (by decide +kernel) rfl⟩
def lX12_isLine_0 : List (Nat × Instr × Nat) := [(0, .iload_n 1, 1), (1, .i2l, 1), (2, .lconst 0, 1), (3, .aload_n 0, 1), (4, .getfield 16, 3), (7, .iconst 0, 1), (8, .iaload, 1), (9, .iconst 1, 1), (10, .isub, 1), (11, .i2l, 1), (12, .invokestatic 65, 3), (15, .ireturn, 1)]
theorem dtX12_isLine_0 : kDec cX12_isLine lX12_isLine_0 = true := by decide +kernel
noncomputable def fX12_isLine (x1 : Int32) (w : rW) : Option Int32 :=
  (raI w 2 1000 (0 : Int32)).bind fun v1 =>
  (fX12_isIn x1.toInt64 (0 : Int64) ((v1 - (1 : Int32)).toInt64)).bind fun v3 =>
  (kBl v3).bind fun v4 =>
  some v4

set_option maxHeartbeats 4000000 in
set_option maxRecDepth 100000 in
theorem rX12_isLine (l : Launch) (D : va_G) (aC : Nat → ClassId) {h0 : Nat} {wB : kW} (hB : rOK h0 wB) {x1 : Int32} {w : rW} {oR : Int32} (h : fX12_isLine x1 w = some oR) : kC l D aC yX12_isLine cX12_isLine 2 (some .boolean) 2 37 [.ref h0, .int x1] (rWo h0 wB w) (some (.int oR)) (rWo h0 wB w) 0 0 := by
  refine kOf (own := RX12) (by decide) rfl (Nat.le_of_ble_eq_true rfl) ?_
  intro p e s m below meth c ls F hml hr hlocks hnm hX hZ hl
  obtain ⟨hx, hb, hts, hown, hK⟩ := id F
  have hl : lv_has ls 2 [(0, .ref h0), (1, .int x1)] := hl
  have hf := h
  rw [fX12_isLine] at hf
  refine lv_iload_n hx hb (kd dtX12_isLine_0 0 rfl) rfl (lv_at hl 1 rfl) ?_
  refine lv_i2l (v := x1.toInt64) hx hb (kd dtX12_isLine_0 1 rfl) rfl ?_
  refine lv_lconst (v := (0 : Int64)) hx hb (kd dtX12_isLine_0 2 rfl) (by decide) ?_
  refine lv_aload_n hx hb (kd dtX12_isLine_0 3 rfl) rfl (lv_at hl 0 rfl) ?_
  refine rgetA (n := 2) (j := 2) hB (by decide) rfl F hX wfX12_16 (by decide) rfl (kd dtX12_isLine_0 4 rfl) ?_
  refine lv_iconst (v := (0 : Int32)) hx hb (kd dtX12_isLine_0 5 rfl) (by decide) ?_
  obtain ⟨v1, hv1, hf⟩ := kbind hf
  refine rald hB (by decide) hv1 F hX (kd dtX12_isLine_0 6 rfl) ?_
  refine lv_iconst (v := (1 : Int32)) hx hb (kd dtX12_isLine_0 7 rfl) (by decide) ?_
  refine lv_isub hx hb (kd dtX12_isLine_0 8 rfl) ?_
  refine lv_i2l (v := (v1 - (1 : Int32)).toInt64) hx hb (kd dtX12_isLine_0 9 rfl) rfl ?_
  obtain ⟨v3, h2, hf⟩ := kbind hf
  refine kcallS (n := 3) [.long x1.toInt64, .long (0 : Int64), .long ((v1 - (1 : Int32)).toInt64)] [] [.int v3] (rX12_isIn l D aC (rWo h0 wB w) h2) F hml hX hZ hl.1 mwX12_isIn wmX12_65 (by decide +kernel) ⟨(by decide), (by decide)⟩ rfl rfl rfl (Nat.le_of_ble_eq_true rfl) (kd dtX12_isLine_0 10 rfl) ⟨Nat.zero_le _, Nat.zero_le _⟩ (fun H locs hX => ?_)
  obtain ⟨v4, hv4, hf⟩ := kbind hf
  obtain rfl := kBl_e hv4
  obtain rfl := Option.some.inj hf
  exact kzret F hX hr hlocks hv4 rfl (kd dtX12_isLine_0 11 rfl)
theorem wcX12_69 : Cond.constantLong RX12 69 (7 : Int64) ∈ kT := kTm 1373 (by decide +kernel) rfl
def lX12_isShelf_0 : List (Nat × Instr × Nat) := [(0, .iload_n 0, 1), (1, .i2l, 1), (2, .lconst 0, 1), (3, .ldc2_w 69, 3), (6, .invokestatic 65, 3), (9, .ireturn, 1)]
theorem dtX12_isShelf_0 : kDec cX12_isShelf lX12_isShelf_0 = true := by decide +kernel
noncomputable def fX12_isShelf (x0 : Int32) : Option Int32 :=
  (fX12_isIn x0.toInt64 (0 : Int64) (7 : Int64)).bind fun v2 =>
  (kBl v2).bind fun v3 =>
  some v3

set_option maxHeartbeats 4000000 in
set_option maxRecDepth 100000 in
theorem rX12_isShelf (l : Launch) (D : va_G) (aC : Nat → ClassId) (w : kW) {x0 : Int32} {oR : Int32} (h : fX12_isShelf x0 = some oR) : kC l D aC yX12_isShelf cX12_isShelf 1 (some .boolean) 2 37 [.int x0] w (some (.int oR)) w 0 0 := by
  refine kOf (own := RX12) (by decide) rfl (Nat.le_of_ble_eq_true rfl) ?_
  intro p e s m below meth c ls F hml hr hlocks hnm hX hZ hl
  obtain ⟨hx, hb, hts, hown, hK⟩ := id F
  have hl : lv_has ls 1 [(0, .int x0)] := hl
  have hf := h
  rw [fX12_isShelf] at hf
  refine lv_iload_n hx hb (kd dtX12_isShelf_0 0 rfl) rfl (lv_at hl 0 rfl) ?_
  refine lv_i2l (v := x0.toInt64) hx hb (kd dtX12_isShelf_0 1 rfl) rfl ?_
  refine lv_lconst (v := (0 : Int64)) hx hb (kd dtX12_isShelf_0 2 rfl) (by decide) ?_
  refine lv_ldc2 (v := (7 : Int64)) hx hb hown (hts _ wcX12_69) (kd dtX12_isShelf_0 3 rfl) ?_
  obtain ⟨v2, h1, hf⟩ := kbind hf
  refine kcallS (n := 3) [.long x0.toInt64, .long (0 : Int64), .long (7 : Int64)] [] [.int v2] (rX12_isIn l D aC w h1) F hml hX hZ hl.1 mwX12_isIn wmX12_65 (by decide +kernel) ⟨(by decide), (by decide)⟩ rfl rfl rfl (Nat.le_of_ble_eq_true rfl) (kd dtX12_isShelf_0 4 rfl) ⟨Nat.zero_le _, Nat.zero_le _⟩ (fun H locs hX => ?_)
  obtain ⟨v3, hv3, hf⟩ := kbind hf
  obtain rfl := kBl_e hv3
  obtain rfl := Option.some.inj hf
  exact kzret F hX hr hlocks hv3 rfl (kd dtX12_isShelf_0 5 rfl)
def lX12_isLetter_0 : List (Nat × Instr × Nat) := [(0, .iload_n 0, 1), (1, .bipush 112, 2), (3, .if_icmp .lt 13, 3), (6, .iload_n 0, 1), (7, .bipush 117, 2), (9, .if_icmp .gt 7, 3), (12, .iconst 1, 1), (13, .goto 4, 3), (16, .iconst 0, 1), (17, .ireturn, 1)]
theorem dtX12_isLetter_0 : kDec cX12_isLetter lX12_isLetter_0 = true := by decide +kernel
noncomputable def fX12_isLetter (x0 : Int32) : Option Int32 :=
  if x0 < (112 : Int32) then
  some (0 : Int32)
  else
  if (117 : Int32) < x0 then
  some (0 : Int32)
  else
  some (1 : Int32)

set_option maxHeartbeats 4000000 in
set_option maxRecDepth 100000 in
theorem rX12_isLetter (l : Launch) (D : va_G) (aC : Nat → ClassId) (w : kW) {x0 : Int32} {oR : Int32} (h : fX12_isLetter x0 = some oR) : kC l D aC yX12_isLetter cX12_isLetter 1 (some .boolean) 1 12 [.int x0] w (some (.int oR)) w 0 0 := by
  refine kOf (own := RX12) (by decide) rfl (Nat.le_of_ble_eq_true rfl) ?_
  intro p e s m below meth c ls F hml hr hlocks hnm hX hZ hl
  obtain ⟨hx, hb, hts, hown, hK⟩ := id F
  have hl : lv_has ls 1 [(0, .int x0)] := hl
  have hf := h
  rw [fX12_isLetter] at hf
  refine lv_iload_n hx hb (kd dtX12_isLetter_0 0 rfl) rfl (lv_at hl 0 rfl) ?_
  refine lv_bipush (v := (112 : Int32)) hx hb (kd dtX12_isLetter_0 1 rfl) (by decide) ?_
  refine lv_icmp_lt (tgt := 16) hx hb (kd dtX12_isLetter_0 2 rfl) (by decide) (fun hc => ?_) (fun hc => ?_)
  · have hf := kif_pos hc hf
    refine lv_iconst (v := (0 : Int32)) hx hb (kd dtX12_isLetter_0 8 rfl) (by decide) ?_
    obtain rfl := Option.some.inj hf
    exact kzret F hX hr hlocks rfl rfl (kd dtX12_isLetter_0 9 rfl)
  · have hf := kif_neg hc hf
    refine lv_iload_n hx hb (kd dtX12_isLetter_0 3 rfl) rfl (lv_at hl 0 rfl) ?_
    refine lv_bipush (v := (117 : Int32)) hx hb (kd dtX12_isLetter_0 4 rfl) (by decide) ?_
    refine lv_icmp_gt (tgt := 16) hx hb (kd dtX12_isLetter_0 5 rfl) (by decide) (fun hc => ?_) (fun hc => ?_)
    · have hf := kif_pos hc hf
      refine lv_iconst (v := (0 : Int32)) hx hb (kd dtX12_isLetter_0 8 rfl) (by decide) ?_
      obtain rfl := Option.some.inj hf
      exact kzret F hX hr hlocks rfl rfl (kd dtX12_isLetter_0 9 rfl)
    · have hf := kif_neg hc hf
      refine lv_iconst (v := (1 : Int32)) hx hb (kd dtX12_isLetter_0 6 rfl) (by decide) ?_
      refine lv_goto (tgt := 17) hx hb (kd dtX12_isLetter_0 7 rfl) (by decide) ?_
      obtain rfl := Option.some.inj hf
      exact kzret F hX hr hlocks rfl rfl (kd dtX12_isLetter_0 9 rfl)
def lX12_textOf_0 : List (Nat × Instr × Nat) := [(0, .bipush 60, 2), (2, .iload_n 0, 1), (3, .imul, 1), (4, .ireturn, 1)]
theorem dtX12_textOf_0 : kDec cX12_textOf lX12_textOf_0 = true := by decide +kernel
noncomputable def fX12_textOf (x0 : Int32) : Option Int32 :=
  some ((60 : Int32) * x0)

set_option maxHeartbeats 4000000 in
set_option maxRecDepth 100000 in
theorem rX12_textOf (l : Launch) (D : va_G) (aC : Nat → ClassId) (w : kW) {x0 : Int32} {oR : Int32} (h : fX12_textOf x0 = some oR) : kC l D aC yX12_textOf cX12_textOf 1 (some .int) 1 12 [.int x0] w (some (.int oR)) w 0 0 := by
  refine kOf (own := RX12) (by decide) rfl (Nat.le_of_ble_eq_true rfl) ?_
  intro p e s m below meth c ls F hml hr hlocks hnm hX hZ hl
  obtain ⟨hx, hb, hts, hown, hK⟩ := id F
  have hl : lv_has ls 1 [(0, .int x0)] := hl
  have hf := h
  rw [fX12_textOf] at hf
  refine lv_bipush (v := (60 : Int32)) hx hb (kd dtX12_textOf_0 0 rfl) (by decide) ?_
  refine lv_iload_n hx hb (kd dtX12_textOf_0 1 rfl) rfl (lv_at hl 0 rfl) ?_
  refine lv_imul hx hb (kd dtX12_textOf_0 2 rfl) ?_
  obtain rfl := Option.some.inj hf
  exact kiret F hX hr hlocks rfl (kd dtX12_textOf_0 3 rfl)
def lX12_isKnown_0 : List (Nat × Instr × Nat) := [(0, .aload_n 0, 1), (1, .getfield 16, 3), (4, .bipush 43, 2), (6, .iload_n 1, 1), (7, .iadd, 1), (8, .iaload, 1), (9, .ifCond .eq 7, 3), (12, .iconst 1, 1), (13, .goto 4, 3), (16, .iconst 0, 1), (17, .ireturn, 1)]
theorem dtX12_isKnown_0 : kDec cX12_isKnown lX12_isKnown_0 = true := by decide +kernel
noncomputable def fX12_isKnown (x1 : Int32) (w : rW) : Option Int32 :=
  (raI w 2 1000 ((43 : Int32) + x1)).bind fun v1 =>
  if v1 = 0 then
  some (0 : Int32)
  else
  some (1 : Int32)

set_option maxHeartbeats 4000000 in
set_option maxRecDepth 100000 in
theorem rX12_isKnown (l : Launch) (D : va_G) (aC : Nat → ClassId) {h0 : Nat} {wB : kW} (hB : rOK h0 wB) {x1 : Int32} {w : rW} {oR : Int32} (h : fX12_isKnown x1 w = some oR) : kC l D aC yX12_isKnown cX12_isKnown 2 (some .boolean) 1 12 [.ref h0, .int x1] (rWo h0 wB w) (some (.int oR)) (rWo h0 wB w) 0 0 := by
  refine kOf (own := RX12) (by decide) rfl (Nat.le_of_ble_eq_true rfl) ?_
  intro p e s m below meth c ls F hml hr hlocks hnm hX hZ hl
  obtain ⟨hx, hb, hts, hown, hK⟩ := id F
  have hl : lv_has ls 2 [(0, .ref h0), (1, .int x1)] := hl
  have hf := h
  rw [fX12_isKnown] at hf
  refine lv_aload_n hx hb (kd dtX12_isKnown_0 0 rfl) rfl (lv_at hl 0 rfl) ?_
  refine rgetA (n := 2) (j := 2) hB (by decide) rfl F hX wfX12_16 (by decide) rfl (kd dtX12_isKnown_0 1 rfl) ?_
  refine lv_bipush (v := (43 : Int32)) hx hb (kd dtX12_isKnown_0 2 rfl) (by decide) ?_
  refine lv_iload_n hx hb (kd dtX12_isKnown_0 3 rfl) rfl (lv_at hl 1 rfl) ?_
  refine lv_iadd hx hb (kd dtX12_isKnown_0 4 rfl) ?_
  obtain ⟨v1, hv1, hf⟩ := kbind hf
  refine rald hB (by decide) hv1 F hX (kd dtX12_isKnown_0 5 rfl) ?_
  refine lv_if_eq (tgt := 16) hx hb (kd dtX12_isKnown_0 6 rfl) (by decide) (fun hc => ?_) (fun hc => ?_)
  · have hf := kif_pos hc hf
    refine lv_iconst (v := (0 : Int32)) hx hb (kd dtX12_isKnown_0 9 rfl) (by decide) ?_
    obtain rfl := Option.some.inj hf
    exact kzret F hX hr hlocks rfl rfl (kd dtX12_isKnown_0 10 rfl)
  · have hf := kif_neg hc hf
    refine lv_iconst (v := (1 : Int32)) hx hb (kd dtX12_isKnown_0 7 rfl) (by decide) ?_
    refine lv_goto (tgt := 17) hx hb (kd dtX12_isKnown_0 8 rfl) (by decide) ?_
    obtain rfl := Option.some.inj hf
    exact kzret F hX hr hlocks rfl rfl (kd dtX12_isKnown_0 10 rfl)
theorem wmX12_71 : Cond.methodLink RX12 71 yX12_isLetter ∈ kT := kTm 1389 (by decide +kernel) rfl
theorem mwX12_isLetter : kMS yX12_isLetter cX12_isLetter 1 (some .boolean) := ⟨kTm 1391 (by decide +kernel) rfl, kTm 106 (by decide +kernel) rfl, kTm 1390 (by decide +kernel) rfl⟩
theorem wmX12_75 : Cond.methodLink RX12 75 yX12_end ∈ kT := kTm 1420 (by decide +kernel) rfl
theorem mwX12_end : kMV RX12 yX12_end cX12_end 3 (some .int) := ⟨kTm 1423 (by decide +kernel) rfl, kTm 106 (by decide +kernel) rfl, kTm 1422 (by decide +kernel) rfl, kTm 50 (by decide +kernel) rfl⟩
def lX12_end_0 : List (Nat × Instr × Nat) := [(0, .aload_n 0, 1), (1, .getfield 9, 3), (4, .iload_n 1, 1), (5, .iaload, 1), (6, .istore_n 2, 1), (7, .iload_n 2, 1), (8, .invokestatic 71, 3), (11, .ifCond .eq 7, 3), (14, .iload_n 1, 1), (15, .iconst 1, 1), (16, .iadd, 1), (17, .ireturn, 1), (18, .iload_n 2, 1), (19, .bipush 126, 2), (21, .if_icmp .ne 11, 3), (24, .aload_n 0, 1), (25, .iload_n 1, 1), (26, .iconst 1, 1), (27, .iadd, 1), (28, .invokevirtual 75, 3), (31, .ireturn, 1), (32, .aload_n 0, 1), (33, .aload_n 0, 1), (34, .iload_n 1, 1), (35, .iconst 1, 1), (36, .iadd, 1), (37, .invokevirtual 75, 3), (40, .iconst 1, 1), (41, .iadd, 1), (42, .invokevirtual 75, 3), (45, .iconst 1, 1), (46, .iadd, 1), (47, .ireturn, 1)]
theorem dtX12_end_0 : kDec cX12_end lX12_end_0 = true := by decide +kernel
noncomputable def fX12_end : Nat → Int32 → rW → Option Int32
  | 0, _, _ => none
  | dp + 1, x1, w =>
  (raI w 0 10000 x1).bind fun v1 =>
  (fX12_isLetter v1).bind fun v3 =>
  if v3 = 0 then
  if v1 = (126 : Int32) then
  (fX12_end dp (x1 + (1 : Int32)) w).bind fun v9 =>
  some v9
  else
  (fX12_end dp (x1 + (1 : Int32)) w).bind fun v5 =>
  (fX12_end dp (v5 + (1 : Int32)) w).bind fun v7 =>
  some (v7 + (1 : Int32))
  else
  some (x1 + (1 : Int32))

set_option maxHeartbeats 4000000 in
set_option maxRecDepth 100000 in
theorem rX12_end_dp (l : Launch) (D : va_G) (aC : Nat → ClassId) {h0 : Nat} {wB : kW} (hB : rOK h0 wB) : ∀ (dp : Nat) {x1 : Int32} {w : rW} {oR : Int32}, fX12_end dp x1 w = some oR → kC l D aC yX12_end cX12_end 3 (some .int) (dp + 2) (dp * 22 + 32) [.ref h0, .int x1] (rWo h0 wB w) (some (.int oR)) (rWo h0 wB w) 0 0 := by
  intro dp
  induction dp with
  | zero =>
    intro x1 w oR h
    rw [fX12_end] at h
    cases h
  | succ dp IH =>
    intro x1 w oR h
    refine kOf (own := RX12) (by decide) rfl (Nat.le_of_ble_eq_true rfl) ?_
    intro p e s m below meth c ls F hml hr hlocks hnm hX hZ hl
    obtain ⟨hx, hb, hts, hown, hK⟩ := id F
    have hl : lv_has ls 3 [(0, .ref h0), (1, .int x1)] := hl
    have hf := h
    rw [fX12_end] at hf
    refine lv_aload_n hx hb (kd dtX12_end_0 0 rfl) rfl (lv_at hl 0 rfl) ?_
    refine rgetA (n := 0) (j := 0) hB (by decide) rfl F hX wfX12_9 (by decide) rfl (kd dtX12_end_0 1 rfl) ?_
    refine lv_iload_n hx hb (kd dtX12_end_0 2 rfl) rfl (lv_at hl 1 rfl) ?_
    obtain ⟨v1, hv1, hf⟩ := kbind hf
    refine rald hB (by decide) hv1 F hX (kd dtX12_end_0 3 rfl) ?_
    refine lv_istore_n (lv' := [(2, .int v1), (0, .ref h0), (1, .int x1)]) hx hb (kd dtX12_end_0 4 rfl) rfl hl (by decide) rfl (fun ls hl => ?_)
    refine lv_iload_n hx hb (kd dtX12_end_0 5 rfl) rfl (lv_at hl 0 rfl) ?_
    obtain ⟨v3, h2, hf⟩ := kbind hf
    refine kcallS (n := 1) [.int v1] [] [.int v3] (rX12_isLetter l D aC (rWo h0 wB w) h2) F hml hX hZ hl.1 mwX12_isLetter wmX12_71 (by decide +kernel) ⟨(by dsimp only; omega), (by dsimp only; omega)⟩ rfl rfl rfl (Nat.le_of_ble_eq_true rfl) (kd dtX12_end_0 6 rfl) ⟨Nat.zero_le _, Nat.zero_le _⟩ (fun H locs hX => ?_)
    refine lv_if_eq (tgt := 18) hx hb (kd dtX12_end_0 7 rfl) (by decide) (fun hc => ?_) (fun hc => ?_)
    · have hf := kif_pos hc hf
      refine lv_iload_n hx hb (kd dtX12_end_0 12 rfl) rfl (lv_at hl 0 rfl) ?_
      refine lv_bipush (v := (126 : Int32)) hx hb (kd dtX12_end_0 13 rfl) (by decide) ?_
      refine lv_icmp_ne (tgt := 32) hx hb (kd dtX12_end_0 14 rfl) (by decide) (fun hc => ?_) (fun hc => ?_)
      · have hf := kif_neg hc hf
        refine lv_aload_n hx hb (kd dtX12_end_0 21 rfl) rfl (lv_at hl 1 rfl) ?_
        refine lv_aload_n hx hb (kd dtX12_end_0 22 rfl) rfl (lv_at hl 1 rfl) ?_
        refine lv_iload_n hx hb (kd dtX12_end_0 23 rfl) rfl (lv_at hl 2 rfl) ?_
        refine lv_iconst (v := (1 : Int32)) hx hb (kd dtX12_end_0 24 rfl) (by decide) ?_
        refine lv_iadd hx hb (kd dtX12_end_0 25 rfl) ?_
        obtain ⟨v5, h4, hf⟩ := kbind hf
        refine kcallV (n := 1) [.int (x1 + (1 : Int32))] [.ref h0] [.int v5, .ref h0] (IH h4) rfl hB.1 F hml hX hZ hl.1 mwX12_end wmX12_75 rfl (by decide) (by decide +kernel) ⟨(by dsimp only; omega), (by dsimp only; omega)⟩ rfl rfl rfl (Nat.le_of_ble_eq_true rfl) (kd dtX12_end_0 26 rfl) ⟨Nat.zero_le _, Nat.zero_le _⟩ (fun H locs hX => ?_)
        refine lv_iconst (v := (1 : Int32)) hx hb (kd dtX12_end_0 27 rfl) (by decide) ?_
        refine lv_iadd hx hb (kd dtX12_end_0 28 rfl) ?_
        obtain ⟨v7, h6, hf⟩ := kbind hf
        refine kcallV (n := 1) [.int (v5 + (1 : Int32))] [] [.int v7] (IH h6) rfl hB.1 F hml hX hZ hl.1 mwX12_end wmX12_75 rfl (by decide) (by decide +kernel) ⟨(by dsimp only; omega), (by dsimp only; omega)⟩ rfl rfl rfl (Nat.le_of_ble_eq_true rfl) (kd dtX12_end_0 29 rfl) ⟨Nat.zero_le _, Nat.zero_le _⟩ (fun H locs hX => ?_)
        refine lv_iconst (v := (1 : Int32)) hx hb (kd dtX12_end_0 30 rfl) (by decide) ?_
        refine lv_iadd hx hb (kd dtX12_end_0 31 rfl) ?_
        obtain rfl := Option.some.inj hf
        exact kiret F hX hr hlocks rfl (kd dtX12_end_0 32 rfl)
      · have hf := kif_pos hc hf
        refine lv_aload_n hx hb (kd dtX12_end_0 15 rfl) rfl (lv_at hl 1 rfl) ?_
        refine lv_iload_n hx hb (kd dtX12_end_0 16 rfl) rfl (lv_at hl 2 rfl) ?_
        refine lv_iconst (v := (1 : Int32)) hx hb (kd dtX12_end_0 17 rfl) (by decide) ?_
        refine lv_iadd hx hb (kd dtX12_end_0 18 rfl) ?_
        obtain ⟨v9, h8, hf⟩ := kbind hf
        refine kcallV (n := 1) [.int (x1 + (1 : Int32))] [] [.int v9] (IH h8) rfl hB.1 F hml hX hZ hl.1 mwX12_end wmX12_75 rfl (by decide) (by decide +kernel) ⟨(by dsimp only; omega), (by dsimp only; omega)⟩ rfl rfl rfl (Nat.le_of_ble_eq_true rfl) (kd dtX12_end_0 19 rfl) ⟨Nat.zero_le _, Nat.zero_le _⟩ (fun H locs hX => ?_)
        obtain rfl := Option.some.inj hf
        exact kiret F hX hr hlocks rfl (kd dtX12_end_0 20 rfl)
    · have hf := kif_neg hc hf
      refine lv_iload_n hx hb (kd dtX12_end_0 8 rfl) rfl (lv_at hl 2 rfl) ?_
      refine lv_iconst (v := (1 : Int32)) hx hb (kd dtX12_end_0 9 rfl) (by decide) ?_
      refine lv_iadd hx hb (kd dtX12_end_0 10 rfl) ?_
      obtain rfl := Option.some.inj hf
      exact kiret F hX hr hlocks rfl (kd dtX12_end_0 11 rfl)
theorem rX12_end (l : Launch) (D : va_G) (aC : Nat → ClassId) {h0 : Nat} {wB : kW} (hB : rOK h0 wB) {x1 : Int32} {w : rW} {oR : Int32} (h : fX12_end kDP x1 w = some oR) : kC l D aC yX12_end cX12_end 3 (some .int) 402 8832 [.ref h0, .int x1] (rWo h0 wB w) (some (.int oR)) (rWo h0 wB w) 0 0 := rX12_end_dp l D aC hB kDP h
def lX12_sizeOf_0 : List (Nat × Instr × Nat) := [(0, .iconst 0, 1), (1, .istore_n 3, 1), (2, .iload_n 1, 1), (3, .istore 4, 2), (5, .iload 4, 2), (7, .iload_n 2, 1), (8, .if_icmp .ge 41, 3), (11, .iload_n 3, 1), (12, .aload_n 0, 1), (13, .getfield 9, 3), (16, .iload 4, 2), (18, .iaload, 1), (19, .bipush 40, 2), (21, .if_icmp .eq 15, 3), (24, .aload_n 0, 1), (25, .getfield 9, 3), (28, .iload 4, 2), (30, .iaload, 1), (31, .bipush 41, 2), (33, .if_icmp .ne 7, 3), (36, .iconst 0, 1), (37, .goto 4, 3), (40, .iconst 1, 1), (41, .iadd, 1), (42, .istore_n 3, 1), (43, .iinc 4 1, 3), (46, .goto (-41), 3), (49, .iload_n 3, 1), (50, .ireturn, 1)]
theorem dtX12_sizeOf_0 : kDec cX12_sizeOf lX12_sizeOf_0 = true := by decide +kernel
noncomputable def fX12_sizeOf_L5 (x1 : Int32) (x2 : Int32) (w : rW) : Nat → (Int32 → Int32 → Option Int32) → Int32 → Int32 → Option Int32
  | 0, _, _, _ => none
  | n + 1, k, x3, x4 =>
  if x2 ≤ x4 then
  k x3 x4
  else
  (raI w 0 10000 x4).bind fun v1 =>
  if v1 = (40 : Int32) then
  fX12_sizeOf_L5 x1 x2 w n k (x3 + (0 : Int32)) (x4 + (1 : Int32))
  else
  (raI w 0 10000 x4).bind fun v2 =>
  if v2 = (41 : Int32) then
  fX12_sizeOf_L5 x1 x2 w n k (x3 + (0 : Int32)) (x4 + (1 : Int32))
  else
  fX12_sizeOf_L5 x1 x2 w n k (x3 + (1 : Int32)) (x4 + (1 : Int32))

noncomputable def fX12_sizeOf (x1 : Int32) (x2 : Int32) (w : rW) : Option Int32 :=
  fX12_sizeOf_L5 x1 x2 w kFU (fun y3_1 y4_2 => some y3_1) (0 : Int32) x1

set_option maxHeartbeats 4000000 in
set_option maxRecDepth 100000 in
theorem rX12_sizeOf (l : Launch) (D : va_G) (aC : Nat → ClassId) {h0 : Nat} {wB : kW} (hB : rOK h0 wB) {x1 : Int32} {x2 : Int32} {w : rW} {oR : Int32} (h : fX12_sizeOf x1 x2 w = some oR) : kC l D aC yX12_sizeOf cX12_sizeOf 5 (some .int) 1 12 [.ref h0, .int x1, .int x2] (rWo h0 wB w) (some (.int oR)) (rWo h0 wB w) 0 0 := by
  refine kOf (own := RX12) (by decide) rfl (Nat.le_of_ble_eq_true rfl) ?_
  intro p e s m below meth c ls F hml hr hlocks hnm hX hZ hl
  obtain ⟨hx, hb, hts, hown, hK⟩ := id F
  have hl : lv_has ls 5 [(0, .ref h0), (1, .int x1), (2, .int x2)] := hl
  have hf := h
  rw [fX12_sizeOf] at hf
  refine lv_iconst (v := (0 : Int32)) hx hb (kd dtX12_sizeOf_0 0 rfl) (by decide) ?_
  refine lv_istore_n (lv' := [(3, .int (0 : Int32)), (0, .ref h0), (1, .int x1), (2, .int x2)]) hx hb (kd dtX12_sizeOf_0 1 rfl) rfl hl (by decide) rfl (fun ls hl => ?_)
  refine lv_iload_n hx hb (kd dtX12_sizeOf_0 2 rfl) rfl (lv_at hl 2 rfl) ?_
  refine lv_istore (lv' := [(4, .int x1), (3, .int (0 : Int32)), (0, .ref h0), (1, .int x1), (2, .int x2)]) hx hb (kd dtX12_sizeOf_0 3 rfl) hl (by decide) rfl (fun ls hl => ?_)
  have hL5 : ∀ (n : Nat) (k : Int32 → Int32 → Option Int32), ∀ (z3_5 : Int32) (z4_5 : Int32) (H : Heap) (locs : List Loc) (ls : Array Slot), kX D aC (rWo h0 wB w) s.heap (rWo h0 wB w) H locs → lv_has ls 5 [(0, .ref h0), (1, .int x1), (2, .int x2), (3, .int z3_5), (4, .int z4_5)] → fX12_sizeOf_L5 x1 x2 w n k z3_5 z4_5 = some oR → (∀ (z3_5 : Int32) (z4_5 : Int32) (H : Heap) (locs : List Loc) (ls : Array Slot), kX D aC (rWo h0 wB w) s.heap (rWo h0 wB w) H locs → lv_has ls 5 [(0, .ref h0), (1, .int x1), (2, .int x2), (3, .int z3_5), (4, .int z4_5)] → k z3_5 z4_5 = some oR → W p l e { frames := 1, cells := 0, slots := 0, locals := 12 } s m ([.ref h0, .int x1, .int x2] : List Value).toArray below meth c H locs 0 0 (MQ below (kQc D aC (rWo h0 wB w) (some (.int oR)) (rWo h0 wB w)) ([.ref h0, .int x1, .int x2] : List Value).toArray s 0 0 (kA (rWo h0 wB w))) (F0 m 49 ls [])) → W p l e { frames := 1, cells := 0, slots := 0, locals := 12 } s m ([.ref h0, .int x1, .int x2] : List Value).toArray below meth c H locs 0 0 (MQ below (kQc D aC (rWo h0 wB w) (some (.int oR)) (rWo h0 wB w)) ([.ref h0, .int x1, .int x2] : List Value).toArray s 0 0 (kA (rWo h0 wB w))) (F0 m 5 ls []) := by
    intro n k
    induction n with
    | zero =>
      intro z3_5 z4_5 H locs ls hX hl hf hk
      rw [fX12_sizeOf_L5] at hf
      cases hf
    | succ n ih =>
      intro z3_5 z4_5 H locs ls hX hl hf hk
      rw [fX12_sizeOf_L5] at hf
      refine lv_iload hx hb (kd dtX12_sizeOf_0 4 rfl) (lv_at hl 4 rfl) ?_
      refine lv_iload_n hx hb (kd dtX12_sizeOf_0 5 rfl) rfl (lv_at hl 2 rfl) ?_
      refine lv_icmp_ge (tgt := 49) hx hb (kd dtX12_sizeOf_0 6 rfl) (by decide) (fun hc => ?_) (fun hc => ?_)
      · have hf := kif_pos hc hf
        exact hk z3_5 z4_5 _ _ _ hX hl hf
      · have hf := kif_neg hc hf
        refine lv_iload_n hx hb (kd dtX12_sizeOf_0 7 rfl) rfl (lv_at hl 3 rfl) ?_
        refine lv_aload_n hx hb (kd dtX12_sizeOf_0 8 rfl) rfl (lv_at hl 0 rfl) ?_
        refine rgetA (n := 0) (j := 0) hB (by decide) rfl F hX wfX12_9 (by decide) rfl (kd dtX12_sizeOf_0 9 rfl) ?_
        refine lv_iload hx hb (kd dtX12_sizeOf_0 10 rfl) (lv_at hl 4 rfl) ?_
        obtain ⟨v3, hv3, hf⟩ := kbind hf
        refine rald hB (by decide) hv3 F hX (kd dtX12_sizeOf_0 11 rfl) ?_
        refine lv_bipush (v := (40 : Int32)) hx hb (kd dtX12_sizeOf_0 12 rfl) (by decide) ?_
        refine lv_icmp_eq (tgt := 36) hx hb (kd dtX12_sizeOf_0 13 rfl) (by decide) (fun hc => ?_) (fun hc => ?_)
        · have hf := kif_pos hc hf
          refine lv_iconst (v := (0 : Int32)) hx hb (kd dtX12_sizeOf_0 20 rfl) (by decide) ?_
          refine lv_goto (tgt := 41) hx hb (kd dtX12_sizeOf_0 21 rfl) (by decide) ?_
          refine lv_iadd hx hb (kd dtX12_sizeOf_0 23 rfl) ?_
          refine lv_istore_n (lv' := [(3, .int (z3_5 + (0 : Int32))), (0, .ref h0), (1, .int x1), (2, .int x2), (4, .int z4_5)]) hx hb (kd dtX12_sizeOf_0 24 rfl) rfl hl (by decide) rfl (fun ls hl => ?_)
          refine lv_iinc (v := z4_5 + (1 : Int32)) (lv' := [(4, .int (z4_5 + (1 : Int32))), (3, .int (z3_5 + (0 : Int32))), (0, .ref h0), (1, .int x1), (2, .int x2)]) hx hb (kd dtX12_sizeOf_0 25 rfl) hl (k := 4) rfl (by rfl) (by decide) rfl (fun ls hl => ?_)
          refine lv_goto (tgt := 5) hx hb (kd dtX12_sizeOf_0 26 rfl) (by decide) ?_
          exact ih (z3_5 + (0 : Int32)) (z4_5 + (1 : Int32)) _ _ _ hX (lv_sub hl [2, 3, 4, 1, 0] rfl) hf hk
        · have hf := kif_neg hc hf
          refine lv_aload_n hx hb (kd dtX12_sizeOf_0 14 rfl) rfl (lv_at hl 0 rfl) ?_
          refine rgetA (n := 0) (j := 0) hB (by decide) rfl F hX wfX12_9 (by decide) rfl (kd dtX12_sizeOf_0 15 rfl) ?_
          refine lv_iload hx hb (kd dtX12_sizeOf_0 16 rfl) (lv_at hl 4 rfl) ?_
          obtain ⟨v4, hv4, hf⟩ := kbind hf
          refine rald hB (by decide) hv4 F hX (kd dtX12_sizeOf_0 17 rfl) ?_
          refine lv_bipush (v := (41 : Int32)) hx hb (kd dtX12_sizeOf_0 18 rfl) (by decide) ?_
          refine lv_icmp_ne (tgt := 40) hx hb (kd dtX12_sizeOf_0 19 rfl) (by decide) (fun hc => ?_) (fun hc => ?_)
          · have hf := kif_neg hc hf
            refine lv_iconst (v := (1 : Int32)) hx hb (kd dtX12_sizeOf_0 22 rfl) (by decide) ?_
            refine lv_iadd hx hb (kd dtX12_sizeOf_0 23 rfl) ?_
            refine lv_istore_n (lv' := [(3, .int (z3_5 + (1 : Int32))), (0, .ref h0), (1, .int x1), (2, .int x2), (4, .int z4_5)]) hx hb (kd dtX12_sizeOf_0 24 rfl) rfl hl (by decide) rfl (fun ls hl => ?_)
            refine lv_iinc (v := z4_5 + (1 : Int32)) (lv' := [(4, .int (z4_5 + (1 : Int32))), (3, .int (z3_5 + (1 : Int32))), (0, .ref h0), (1, .int x1), (2, .int x2)]) hx hb (kd dtX12_sizeOf_0 25 rfl) hl (k := 4) rfl (by rfl) (by decide) rfl (fun ls hl => ?_)
            refine lv_goto (tgt := 5) hx hb (kd dtX12_sizeOf_0 26 rfl) (by decide) ?_
            exact ih (z3_5 + (1 : Int32)) (z4_5 + (1 : Int32)) _ _ _ hX (lv_sub hl [2, 3, 4, 1, 0] rfl) hf hk
          · have hf := kif_pos hc hf
            refine lv_iconst (v := (0 : Int32)) hx hb (kd dtX12_sizeOf_0 20 rfl) (by decide) ?_
            refine lv_goto (tgt := 41) hx hb (kd dtX12_sizeOf_0 21 rfl) (by decide) ?_
            refine lv_iadd hx hb (kd dtX12_sizeOf_0 23 rfl) ?_
            refine lv_istore_n (lv' := [(3, .int (z3_5 + (0 : Int32))), (0, .ref h0), (1, .int x1), (2, .int x2), (4, .int z4_5)]) hx hb (kd dtX12_sizeOf_0 24 rfl) rfl hl (by decide) rfl (fun ls hl => ?_)
            refine lv_iinc (v := z4_5 + (1 : Int32)) (lv' := [(4, .int (z4_5 + (1 : Int32))), (3, .int (z3_5 + (0 : Int32))), (0, .ref h0), (1, .int x1), (2, .int x2)]) hx hb (kd dtX12_sizeOf_0 25 rfl) hl (k := 4) rfl (by rfl) (by decide) rfl (fun ls hl => ?_)
            refine lv_goto (tgt := 5) hx hb (kd dtX12_sizeOf_0 26 rfl) (by decide) ?_
            exact ih (z3_5 + (0 : Int32)) (z4_5 + (1 : Int32)) _ _ _ hX (lv_sub hl [2, 3, 4, 1, 0] rfl) hf hk
  refine hL5 kFU _ (0 : Int32) x1 _ _ _ hX (lv_sub hl [2, 3, 4, 1, 0] rfl) hf ?_
  intro y3_1 y4_2 H locs ls hX hl hf
  refine lv_iload_n hx hb (kd dtX12_sizeOf_0 27 rfl) rfl (lv_at hl 3 rfl) ?_
  obtain rfl := Option.some.inj hf
  exact kiret F hX hr hlocks rfl (kd dtX12_sizeOf_0 28 rfl)
theorem wmX12_79 : Cond.methodLink RX12 79 yX12_levels ∈ kT := kTm 1416 (by decide +kernel) rfl
theorem mwX12_levels : kMV RX12 yX12_levels cX12_levels 4 (some .int) := ⟨kTm 1419 (by decide +kernel) rfl, kTm 106 (by decide +kernel) rfl, kTm 1418 (by decide +kernel) rfl, kTm 49 (by decide +kernel) rfl⟩
def lX12_levels_0 : List (Nat × Instr × Nat) := [(0, .aload_n 0, 1), (1, .getfield 9, 3), (4, .iload_n 1, 1), (5, .iaload, 1), (6, .invokestatic 71, 3), (9, .ifCond .eq 5, 3), (12, .iconst 1, 1), (13, .ireturn, 1), (14, .aload_n 0, 1), (15, .getfield 9, 3), (18, .iload_n 1, 1), (19, .iaload, 1), (20, .bipush 126, 2), (22, .if_icmp .ne 13, 3), (25, .iconst 1, 1), (26, .aload_n 0, 1), (27, .iload_n 1, 1), (28, .iconst 1, 1), (29, .iadd, 1), (30, .invokevirtual 79, 3), (33, .iadd, 1), (34, .ireturn, 1), (35, .aload_n 0, 1), (36, .iload_n 1, 1), (37, .iconst 1, 1), (38, .iadd, 1), (39, .invokevirtual 79, 3), (42, .istore_n 2, 1), (43, .aload_n 0, 1), (44, .aload_n 0, 1), (45, .iload_n 1, 1), (46, .iconst 1, 1), (47, .iadd, 1), (48, .invokevirtual 75, 3), (51, .iconst 1, 1), (52, .iadd, 1), (53, .invokevirtual 79, 3), (56, .istore_n 3, 1), (57, .iconst 1, 1), (58, .iload_n 2, 1), (59, .iload_n 3, 1), (60, .if_icmp .le 7, 3), (63, .iload_n 2, 1), (64, .goto 4, 3), (67, .iload_n 3, 1), (68, .iadd, 1), (69, .ireturn, 1)]
theorem dtX12_levels_0 : kDec cX12_levels lX12_levels_0 = true := by decide +kernel
noncomputable def fX12_levels : Nat → Int32 → rW → Option Int32
  | 0, _, _ => none
  | dp + 1, x1, w =>
  (raI w 0 10000 x1).bind fun v1 =>
  (fX12_isLetter v1).bind fun v3 =>
  if v3 = 0 then
  (raI w 0 10000 x1).bind fun v4 =>
  if v4 = (126 : Int32) then
  (fX12_levels dp (x1 + (1 : Int32)) w).bind fun v12 =>
  some ((1 : Int32) + v12)
  else
  (fX12_levels dp (x1 + (1 : Int32)) w).bind fun v6 =>
  (fX12_end kDP (x1 + (1 : Int32)) w).bind fun v8 =>
  (fX12_levels dp (v8 + (1 : Int32)) w).bind fun v10 =>
  if v6 ≤ v10 then
  some ((1 : Int32) + v10)
  else
  some ((1 : Int32) + v6)
  else
  some (1 : Int32)

set_option maxHeartbeats 4000000 in
set_option maxRecDepth 100000 in
theorem rX12_levels_dp (l : Launch) (D : va_G) (aC : Nat → ClassId) {h0 : Nat} {wB : kW} (hB : rOK h0 wB) : ∀ (dp : Nat) {x1 : Int32} {w : rW} {oR : Int32}, fX12_levels dp x1 w = some oR → kC l D aC yX12_levels cX12_levels 4 (some .int) (dp + 403) (dp * 23 + 8854) [.ref h0, .int x1] (rWo h0 wB w) (some (.int oR)) (rWo h0 wB w) 0 0 := by
  intro dp
  induction dp with
  | zero =>
    intro x1 w oR h
    rw [fX12_levels] at h
    cases h
  | succ dp IH =>
    intro x1 w oR h
    refine kOf (own := RX12) (by decide) rfl (Nat.le_of_ble_eq_true rfl) ?_
    intro p e s m below meth c ls F hml hr hlocks hnm hX hZ hl
    obtain ⟨hx, hb, hts, hown, hK⟩ := id F
    have hl : lv_has ls 4 [(0, .ref h0), (1, .int x1)] := hl
    have hf := h
    rw [fX12_levels] at hf
    refine lv_aload_n hx hb (kd dtX12_levels_0 0 rfl) rfl (lv_at hl 0 rfl) ?_
    refine rgetA (n := 0) (j := 0) hB (by decide) rfl F hX wfX12_9 (by decide) rfl (kd dtX12_levels_0 1 rfl) ?_
    refine lv_iload_n hx hb (kd dtX12_levels_0 2 rfl) rfl (lv_at hl 1 rfl) ?_
    obtain ⟨v1, hv1, hf⟩ := kbind hf
    refine rald hB (by decide) hv1 F hX (kd dtX12_levels_0 3 rfl) ?_
    obtain ⟨v3, h2, hf⟩ := kbind hf
    refine kcallS (n := 1) [.int v1] [] [.int v3] (rX12_isLetter l D aC (rWo h0 wB w) h2) F hml hX hZ hl.1 mwX12_isLetter wmX12_71 (by decide +kernel) ⟨(by dsimp only; omega), (by dsimp only; omega)⟩ rfl rfl rfl (Nat.le_of_ble_eq_true rfl) (kd dtX12_levels_0 4 rfl) ⟨Nat.zero_le _, Nat.zero_le _⟩ (fun H locs hX => ?_)
    refine lv_if_eq (tgt := 14) hx hb (kd dtX12_levels_0 5 rfl) (by decide) (fun hc => ?_) (fun hc => ?_)
    · have hf := kif_pos hc hf
      refine lv_aload_n hx hb (kd dtX12_levels_0 8 rfl) rfl (lv_at hl 0 rfl) ?_
      refine rgetA (n := 0) (j := 0) hB (by decide) rfl F hX wfX12_9 (by decide) rfl (kd dtX12_levels_0 9 rfl) ?_
      refine lv_iload_n hx hb (kd dtX12_levels_0 10 rfl) rfl (lv_at hl 1 rfl) ?_
      obtain ⟨v4, hv4, hf⟩ := kbind hf
      refine rald hB (by decide) hv4 F hX (kd dtX12_levels_0 11 rfl) ?_
      refine lv_bipush (v := (126 : Int32)) hx hb (kd dtX12_levels_0 12 rfl) (by decide) ?_
      refine lv_icmp_ne (tgt := 35) hx hb (kd dtX12_levels_0 13 rfl) (by decide) (fun hc => ?_) (fun hc => ?_)
      · have hf := kif_neg hc hf
        refine lv_aload_n hx hb (kd dtX12_levels_0 22 rfl) rfl (lv_at hl 0 rfl) ?_
        refine lv_iload_n hx hb (kd dtX12_levels_0 23 rfl) rfl (lv_at hl 1 rfl) ?_
        refine lv_iconst (v := (1 : Int32)) hx hb (kd dtX12_levels_0 24 rfl) (by decide) ?_
        refine lv_iadd hx hb (kd dtX12_levels_0 25 rfl) ?_
        obtain ⟨v6, h5, hf⟩ := kbind hf
        refine kcallV (n := 1) [.int (x1 + (1 : Int32))] [] [.int v6] (IH h5) rfl hB.1 F hml hX hZ hl.1 mwX12_levels wmX12_79 rfl (by decide) (by decide +kernel) ⟨(by dsimp only; omega), (by dsimp only; omega)⟩ rfl rfl rfl (Nat.le_of_ble_eq_true rfl) (kd dtX12_levels_0 26 rfl) ⟨Nat.zero_le _, Nat.zero_le _⟩ (fun H locs hX => ?_)
        refine lv_istore_n (lv' := [(2, .int v6), (0, .ref h0), (1, .int x1)]) hx hb (kd dtX12_levels_0 27 rfl) rfl hl (by decide) rfl (fun ls hl => ?_)
        refine lv_aload_n hx hb (kd dtX12_levels_0 28 rfl) rfl (lv_at hl 1 rfl) ?_
        refine lv_aload_n hx hb (kd dtX12_levels_0 29 rfl) rfl (lv_at hl 1 rfl) ?_
        refine lv_iload_n hx hb (kd dtX12_levels_0 30 rfl) rfl (lv_at hl 2 rfl) ?_
        refine lv_iconst (v := (1 : Int32)) hx hb (kd dtX12_levels_0 31 rfl) (by decide) ?_
        refine lv_iadd hx hb (kd dtX12_levels_0 32 rfl) ?_
        obtain ⟨v8, h7, hf⟩ := kbind hf
        refine kcallV (n := 1) [.int (x1 + (1 : Int32))] [.ref h0] [.int v8, .ref h0] (rX12_end l D aC hB h7) rfl hB.1 F hml hX hZ hl.1 mwX12_end wmX12_75 rfl (by decide) (by decide +kernel) ⟨(by dsimp only; omega), (by dsimp only; omega)⟩ rfl rfl rfl (Nat.le_of_ble_eq_true rfl) (kd dtX12_levels_0 33 rfl) ⟨Nat.zero_le _, Nat.zero_le _⟩ (fun H locs hX => ?_)
        refine lv_iconst (v := (1 : Int32)) hx hb (kd dtX12_levels_0 34 rfl) (by decide) ?_
        refine lv_iadd hx hb (kd dtX12_levels_0 35 rfl) ?_
        obtain ⟨v10, h9, hf⟩ := kbind hf
        refine kcallV (n := 1) [.int (v8 + (1 : Int32))] [] [.int v10] (IH h9) rfl hB.1 F hml hX hZ hl.1 mwX12_levels wmX12_79 rfl (by decide) (by decide +kernel) ⟨(by dsimp only; omega), (by dsimp only; omega)⟩ rfl rfl rfl (Nat.le_of_ble_eq_true rfl) (kd dtX12_levels_0 36 rfl) ⟨Nat.zero_le _, Nat.zero_le _⟩ (fun H locs hX => ?_)
        refine lv_istore_n (lv' := [(3, .int v10), (2, .int v6), (0, .ref h0), (1, .int x1)]) hx hb (kd dtX12_levels_0 37 rfl) rfl hl (by decide) rfl (fun ls hl => ?_)
        refine lv_iconst (v := (1 : Int32)) hx hb (kd dtX12_levels_0 38 rfl) (by decide) ?_
        refine lv_iload_n hx hb (kd dtX12_levels_0 39 rfl) rfl (lv_at hl 1 rfl) ?_
        refine lv_iload_n hx hb (kd dtX12_levels_0 40 rfl) rfl (lv_at hl 0 rfl) ?_
        refine lv_icmp_le (tgt := 67) hx hb (kd dtX12_levels_0 41 rfl) (by decide) (fun hc => ?_) (fun hc => ?_)
        · have hf := kif_pos hc hf
          refine lv_iload_n hx hb (kd dtX12_levels_0 44 rfl) rfl (lv_at hl 0 rfl) ?_
          refine lv_iadd hx hb (kd dtX12_levels_0 45 rfl) ?_
          obtain rfl := Option.some.inj hf
          exact kiret F hX hr hlocks rfl (kd dtX12_levels_0 46 rfl)
        · have hf := kif_neg hc hf
          refine lv_iload_n hx hb (kd dtX12_levels_0 42 rfl) rfl (lv_at hl 1 rfl) ?_
          refine lv_goto (tgt := 68) hx hb (kd dtX12_levels_0 43 rfl) (by decide) ?_
          refine lv_iadd hx hb (kd dtX12_levels_0 45 rfl) ?_
          obtain rfl := Option.some.inj hf
          exact kiret F hX hr hlocks rfl (kd dtX12_levels_0 46 rfl)
      · have hf := kif_pos hc hf
        refine lv_iconst (v := (1 : Int32)) hx hb (kd dtX12_levels_0 14 rfl) (by decide) ?_
        refine lv_aload_n hx hb (kd dtX12_levels_0 15 rfl) rfl (lv_at hl 0 rfl) ?_
        refine lv_iload_n hx hb (kd dtX12_levels_0 16 rfl) rfl (lv_at hl 1 rfl) ?_
        refine lv_iconst (v := (1 : Int32)) hx hb (kd dtX12_levels_0 17 rfl) (by decide) ?_
        refine lv_iadd hx hb (kd dtX12_levels_0 18 rfl) ?_
        obtain ⟨v12, h11, hf⟩ := kbind hf
        refine kcallV (n := 1) [.int (x1 + (1 : Int32))] [.int (1 : Int32)] [.int v12, .int (1 : Int32)] (IH h11) rfl hB.1 F hml hX hZ hl.1 mwX12_levels wmX12_79 rfl (by decide) (by decide +kernel) ⟨(by dsimp only; omega), (by dsimp only; omega)⟩ rfl rfl rfl (Nat.le_of_ble_eq_true rfl) (kd dtX12_levels_0 19 rfl) ⟨Nat.zero_le _, Nat.zero_le _⟩ (fun H locs hX => ?_)
        refine lv_iadd hx hb (kd dtX12_levels_0 20 rfl) ?_
        obtain rfl := Option.some.inj hf
        exact kiret F hX hr hlocks rfl (kd dtX12_levels_0 21 rfl)
    · have hf := kif_neg hc hf
      refine lv_iconst (v := (1 : Int32)) hx hb (kd dtX12_levels_0 6 rfl) (by decide) ?_
      obtain rfl := Option.some.inj hf
      exact kiret F hX hr hlocks rfl (kd dtX12_levels_0 7 rfl)
theorem rX12_levels (l : Launch) (D : va_G) (aC : Nat → ClassId) {h0 : Nat} {wB : kW} (hB : rOK h0 wB) {x1 : Int32} {w : rW} {oR : Int32} (h : fX12_levels kDP x1 w = some oR) : kC l D aC yX12_levels cX12_levels 4 (some .int) 803 18054 [.ref h0, .int x1] (rWo h0 wB w) (some (.int oR)) (rWo h0 wB w) 0 0 := rX12_levels_dp l D aC hB kDP h
def lX12_places_0 : List (Nat × Instr × Nat) := [(0, .iconst 0, 1), (1, .istore_n 3, 1), (2, .iload_n 1, 1), (3, .istore 4, 2), (5, .iload 4, 2), (7, .iload_n 2, 1), (8, .if_icmp .ge 30, 3), (11, .iload_n 3, 1), (12, .aload_n 0, 1), (13, .getfield 9, 3), (16, .iload 4, 2), (18, .iaload, 1), (19, .invokestatic 71, 3), (22, .ifCond .eq 7, 3), (25, .iconst 1, 1), (26, .goto 4, 3), (29, .iconst 0, 1), (30, .iadd, 1), (31, .istore_n 3, 1), (32, .iinc 4 1, 3), (35, .goto (-30), 3), (38, .iload_n 3, 1), (39, .ireturn, 1)]
theorem dtX12_places_0 : kDec cX12_places lX12_places_0 = true := by decide +kernel
noncomputable def fX12_places_L5 (x1 : Int32) (x2 : Int32) (w : rW) : Nat → (Int32 → Int32 → Option Int32) → Int32 → Int32 → Option Int32
  | 0, _, _, _ => none
  | n + 1, k, x3, x4 =>
  if x2 ≤ x4 then
  k x3 x4
  else
  (raI w 0 10000 x4).bind fun v1 =>
  (fX12_isLetter v1).bind fun v3 =>
  if v3 = 0 then
  fX12_places_L5 x1 x2 w n k (x3 + (0 : Int32)) (x4 + (1 : Int32))
  else
  fX12_places_L5 x1 x2 w n k (x3 + (1 : Int32)) (x4 + (1 : Int32))

noncomputable def fX12_places (x1 : Int32) (x2 : Int32) (w : rW) : Option Int32 :=
  fX12_places_L5 x1 x2 w kFU (fun y3_1 y4_2 => some y3_1) (0 : Int32) x1

set_option maxHeartbeats 4000000 in
set_option maxRecDepth 100000 in
theorem rX12_places (l : Launch) (D : va_G) (aC : Nat → ClassId) {h0 : Nat} {wB : kW} (hB : rOK h0 wB) {x1 : Int32} {x2 : Int32} {w : rW} {oR : Int32} (h : fX12_places x1 x2 w = some oR) : kC l D aC yX12_places cX12_places 5 (some .int) 2 32 [.ref h0, .int x1, .int x2] (rWo h0 wB w) (some (.int oR)) (rWo h0 wB w) 0 0 := by
  refine kOf (own := RX12) (by decide) rfl (Nat.le_of_ble_eq_true rfl) ?_
  intro p e s m below meth c ls F hml hr hlocks hnm hX hZ hl
  obtain ⟨hx, hb, hts, hown, hK⟩ := id F
  have hl : lv_has ls 5 [(0, .ref h0), (1, .int x1), (2, .int x2)] := hl
  have hf := h
  rw [fX12_places] at hf
  refine lv_iconst (v := (0 : Int32)) hx hb (kd dtX12_places_0 0 rfl) (by decide) ?_
  refine lv_istore_n (lv' := [(3, .int (0 : Int32)), (0, .ref h0), (1, .int x1), (2, .int x2)]) hx hb (kd dtX12_places_0 1 rfl) rfl hl (by decide) rfl (fun ls hl => ?_)
  refine lv_iload_n hx hb (kd dtX12_places_0 2 rfl) rfl (lv_at hl 2 rfl) ?_
  refine lv_istore (lv' := [(4, .int x1), (3, .int (0 : Int32)), (0, .ref h0), (1, .int x1), (2, .int x2)]) hx hb (kd dtX12_places_0 3 rfl) hl (by decide) rfl (fun ls hl => ?_)
  have hL5 : ∀ (n : Nat) (k : Int32 → Int32 → Option Int32), ∀ (z3_5 : Int32) (z4_5 : Int32) (H : Heap) (locs : List Loc) (ls : Array Slot), kX D aC (rWo h0 wB w) s.heap (rWo h0 wB w) H locs → lv_has ls 5 [(0, .ref h0), (1, .int x1), (2, .int x2), (3, .int z3_5), (4, .int z4_5)] → fX12_places_L5 x1 x2 w n k z3_5 z4_5 = some oR → (∀ (z3_5 : Int32) (z4_5 : Int32) (H : Heap) (locs : List Loc) (ls : Array Slot), kX D aC (rWo h0 wB w) s.heap (rWo h0 wB w) H locs → lv_has ls 5 [(0, .ref h0), (1, .int x1), (2, .int x2), (3, .int z3_5), (4, .int z4_5)] → k z3_5 z4_5 = some oR → W p l e { frames := 2, cells := 0, slots := 0, locals := 32 } s m ([.ref h0, .int x1, .int x2] : List Value).toArray below meth c H locs 0 0 (MQ below (kQc D aC (rWo h0 wB w) (some (.int oR)) (rWo h0 wB w)) ([.ref h0, .int x1, .int x2] : List Value).toArray s 0 0 (kA (rWo h0 wB w))) (F0 m 38 ls [])) → W p l e { frames := 2, cells := 0, slots := 0, locals := 32 } s m ([.ref h0, .int x1, .int x2] : List Value).toArray below meth c H locs 0 0 (MQ below (kQc D aC (rWo h0 wB w) (some (.int oR)) (rWo h0 wB w)) ([.ref h0, .int x1, .int x2] : List Value).toArray s 0 0 (kA (rWo h0 wB w))) (F0 m 5 ls []) := by
    intro n k
    induction n with
    | zero =>
      intro z3_5 z4_5 H locs ls hX hl hf hk
      rw [fX12_places_L5] at hf
      cases hf
    | succ n ih =>
      intro z3_5 z4_5 H locs ls hX hl hf hk
      rw [fX12_places_L5] at hf
      refine lv_iload hx hb (kd dtX12_places_0 4 rfl) (lv_at hl 4 rfl) ?_
      refine lv_iload_n hx hb (kd dtX12_places_0 5 rfl) rfl (lv_at hl 2 rfl) ?_
      refine lv_icmp_ge (tgt := 38) hx hb (kd dtX12_places_0 6 rfl) (by decide) (fun hc => ?_) (fun hc => ?_)
      · have hf := kif_pos hc hf
        exact hk z3_5 z4_5 _ _ _ hX hl hf
      · have hf := kif_neg hc hf
        refine lv_iload_n hx hb (kd dtX12_places_0 7 rfl) rfl (lv_at hl 3 rfl) ?_
        refine lv_aload_n hx hb (kd dtX12_places_0 8 rfl) rfl (lv_at hl 0 rfl) ?_
        refine rgetA (n := 0) (j := 0) hB (by decide) rfl F hX wfX12_9 (by decide) rfl (kd dtX12_places_0 9 rfl) ?_
        refine lv_iload hx hb (kd dtX12_places_0 10 rfl) (lv_at hl 4 rfl) ?_
        obtain ⟨v3, hv3, hf⟩ := kbind hf
        refine rald hB (by decide) hv3 F hX (kd dtX12_places_0 11 rfl) ?_
        obtain ⟨v5, h4, hf⟩ := kbind hf
        refine kcallS (n := 1) [.int v3] [.int z3_5] [.int v5, .int z3_5] (rX12_isLetter l D aC (rWo h0 wB w) h4) F hml hX hZ hl.1 mwX12_isLetter wmX12_71 (by decide +kernel) ⟨(by decide), (by decide)⟩ rfl rfl rfl (Nat.le_of_ble_eq_true rfl) (kd dtX12_places_0 12 rfl) ⟨Nat.zero_le _, Nat.zero_le _⟩ (fun H locs hX => ?_)
        refine lv_if_eq (tgt := 29) hx hb (kd dtX12_places_0 13 rfl) (by decide) (fun hc => ?_) (fun hc => ?_)
        · have hf := kif_pos hc hf
          refine lv_iconst (v := (0 : Int32)) hx hb (kd dtX12_places_0 16 rfl) (by decide) ?_
          refine lv_iadd hx hb (kd dtX12_places_0 17 rfl) ?_
          refine lv_istore_n (lv' := [(3, .int (z3_5 + (0 : Int32))), (0, .ref h0), (1, .int x1), (2, .int x2), (4, .int z4_5)]) hx hb (kd dtX12_places_0 18 rfl) rfl hl (by decide) rfl (fun ls hl => ?_)
          refine lv_iinc (v := z4_5 + (1 : Int32)) (lv' := [(4, .int (z4_5 + (1 : Int32))), (3, .int (z3_5 + (0 : Int32))), (0, .ref h0), (1, .int x1), (2, .int x2)]) hx hb (kd dtX12_places_0 19 rfl) hl (k := 4) rfl (by rfl) (by decide) rfl (fun ls hl => ?_)
          refine lv_goto (tgt := 5) hx hb (kd dtX12_places_0 20 rfl) (by decide) ?_
          exact ih (z3_5 + (0 : Int32)) (z4_5 + (1 : Int32)) _ _ _ hX (lv_sub hl [2, 3, 4, 1, 0] rfl) hf hk
        · have hf := kif_neg hc hf
          refine lv_iconst (v := (1 : Int32)) hx hb (kd dtX12_places_0 14 rfl) (by decide) ?_
          refine lv_goto (tgt := 30) hx hb (kd dtX12_places_0 15 rfl) (by decide) ?_
          refine lv_iadd hx hb (kd dtX12_places_0 17 rfl) ?_
          refine lv_istore_n (lv' := [(3, .int (z3_5 + (1 : Int32))), (0, .ref h0), (1, .int x1), (2, .int x2), (4, .int z4_5)]) hx hb (kd dtX12_places_0 18 rfl) rfl hl (by decide) rfl (fun ls hl => ?_)
          refine lv_iinc (v := z4_5 + (1 : Int32)) (lv' := [(4, .int (z4_5 + (1 : Int32))), (3, .int (z3_5 + (1 : Int32))), (0, .ref h0), (1, .int x1), (2, .int x2)]) hx hb (kd dtX12_places_0 19 rfl) hl (k := 4) rfl (by rfl) (by decide) rfl (fun ls hl => ?_)
          refine lv_goto (tgt := 5) hx hb (kd dtX12_places_0 20 rfl) (by decide) ?_
          exact ih (z3_5 + (1 : Int32)) (z4_5 + (1 : Int32)) _ _ _ hX (lv_sub hl [2, 3, 4, 1, 0] rfl) hf hk
  refine hL5 kFU _ (0 : Int32) x1 _ _ _ hX (lv_sub hl [2, 3, 4, 1, 0] rfl) hf ?_
  intro y3_1 y4_2 H locs ls hX hl hf
  refine lv_iload_n hx hb (kd dtX12_places_0 21 rfl) rfl (lv_at hl 3 rfl) ?_
  obtain rfl := Option.some.inj hf
  exact kiret F hX hr hlocks rfl (kd dtX12_places_0 22 rfl)
def lX12_letters_0 : List (Nat × Instr × Nat) := [(0, .iconst 0, 1), (1, .istore_n 3, 1), (2, .iload_n 1, 1), (3, .istore 4, 2), (5, .iload 4, 2), (7, .iload_n 2, 1), (8, .if_icmp .ge 41, 3), (11, .iload_n 3, 1), (12, .aload_n 0, 1), (13, .getfield 9, 3), (16, .iload 4, 2), (18, .iaload, 1), (19, .invokestatic 71, 3), (22, .ifCond .eq 18, 3), (25, .iconst 1, 1), (26, .aload_n 0, 1), (27, .getfield 9, 3), (30, .iload 4, 2), (32, .iaload, 1), (33, .bipush 112, 2), (35, .isub, 1), (36, .ishl, 1), (37, .goto 4, 3), (40, .iconst 0, 1), (41, .ior, 1), (42, .istore_n 3, 1), (43, .iinc 4 1, 3), (46, .goto (-41), 3), (49, .iload_n 3, 1), (50, .ireturn, 1)]
theorem dtX12_letters_0 : kDec cX12_letters lX12_letters_0 = true := by decide +kernel
noncomputable def fX12_letters_L5 (x1 : Int32) (x2 : Int32) (w : rW) : Nat → (Int32 → Int32 → Option Int32) → Int32 → Int32 → Option Int32
  | 0, _, _, _ => none
  | n + 1, k, x3, x4 =>
  if x2 ≤ x4 then
  k x3 x4
  else
  (raI w 0 10000 x4).bind fun v1 =>
  (fX12_isLetter v1).bind fun v3 =>
  if v3 = 0 then
  fX12_letters_L5 x1 x2 w n k (x3 ||| (0 : Int32)) (x4 + (1 : Int32))
  else
  (raI w 0 10000 x4).bind fun v4 =>
  (some (x3 ||| ((1 : Int32) <<< ((v4 - (112 : Int32)) &&& 31)))).bind fun v5 =>
  fX12_letters_L5 x1 x2 w n k v5 (x4 + (1 : Int32))

noncomputable def fX12_letters (x1 : Int32) (x2 : Int32) (w : rW) : Option Int32 :=
  fX12_letters_L5 x1 x2 w kFU (fun y3_1 y4_2 => some y3_1) (0 : Int32) x1

set_option maxHeartbeats 4000000 in
set_option maxRecDepth 100000 in
theorem rX12_letters (l : Launch) (D : va_G) (aC : Nat → ClassId) {h0 : Nat} {wB : kW} (hB : rOK h0 wB) {x1 : Int32} {x2 : Int32} {w : rW} {oR : Int32} (h : fX12_letters x1 x2 w = some oR) : kC l D aC yX12_letters cX12_letters 5 (some .int) 2 32 [.ref h0, .int x1, .int x2] (rWo h0 wB w) (some (.int oR)) (rWo h0 wB w) 0 0 := by
  refine kOf (own := RX12) (by decide) rfl (Nat.le_of_ble_eq_true rfl) ?_
  intro p e s m below meth c ls F hml hr hlocks hnm hX hZ hl
  obtain ⟨hx, hb, hts, hown, hK⟩ := id F
  have hl : lv_has ls 5 [(0, .ref h0), (1, .int x1), (2, .int x2)] := hl
  have hf := h
  rw [fX12_letters] at hf
  refine lv_iconst (v := (0 : Int32)) hx hb (kd dtX12_letters_0 0 rfl) (by decide) ?_
  refine lv_istore_n (lv' := [(3, .int (0 : Int32)), (0, .ref h0), (1, .int x1), (2, .int x2)]) hx hb (kd dtX12_letters_0 1 rfl) rfl hl (by decide) rfl (fun ls hl => ?_)
  refine lv_iload_n hx hb (kd dtX12_letters_0 2 rfl) rfl (lv_at hl 2 rfl) ?_
  refine lv_istore (lv' := [(4, .int x1), (3, .int (0 : Int32)), (0, .ref h0), (1, .int x1), (2, .int x2)]) hx hb (kd dtX12_letters_0 3 rfl) hl (by decide) rfl (fun ls hl => ?_)
  have hL5 : ∀ (n : Nat) (k : Int32 → Int32 → Option Int32), ∀ (z3_5 : Int32) (z4_5 : Int32) (H : Heap) (locs : List Loc) (ls : Array Slot), kX D aC (rWo h0 wB w) s.heap (rWo h0 wB w) H locs → lv_has ls 5 [(0, .ref h0), (1, .int x1), (2, .int x2), (3, .int z3_5), (4, .int z4_5)] → fX12_letters_L5 x1 x2 w n k z3_5 z4_5 = some oR → (∀ (z3_5 : Int32) (z4_5 : Int32) (H : Heap) (locs : List Loc) (ls : Array Slot), kX D aC (rWo h0 wB w) s.heap (rWo h0 wB w) H locs → lv_has ls 5 [(0, .ref h0), (1, .int x1), (2, .int x2), (3, .int z3_5), (4, .int z4_5)] → k z3_5 z4_5 = some oR → W p l e { frames := 2, cells := 0, slots := 0, locals := 32 } s m ([.ref h0, .int x1, .int x2] : List Value).toArray below meth c H locs 0 0 (MQ below (kQc D aC (rWo h0 wB w) (some (.int oR)) (rWo h0 wB w)) ([.ref h0, .int x1, .int x2] : List Value).toArray s 0 0 (kA (rWo h0 wB w))) (F0 m 49 ls [])) → W p l e { frames := 2, cells := 0, slots := 0, locals := 32 } s m ([.ref h0, .int x1, .int x2] : List Value).toArray below meth c H locs 0 0 (MQ below (kQc D aC (rWo h0 wB w) (some (.int oR)) (rWo h0 wB w)) ([.ref h0, .int x1, .int x2] : List Value).toArray s 0 0 (kA (rWo h0 wB w))) (F0 m 5 ls []) := by
    intro n k
    induction n with
    | zero =>
      intro z3_5 z4_5 H locs ls hX hl hf hk
      rw [fX12_letters_L5] at hf
      cases hf
    | succ n ih =>
      intro z3_5 z4_5 H locs ls hX hl hf hk
      rw [fX12_letters_L5] at hf
      refine lv_iload hx hb (kd dtX12_letters_0 4 rfl) (lv_at hl 4 rfl) ?_
      refine lv_iload_n hx hb (kd dtX12_letters_0 5 rfl) rfl (lv_at hl 2 rfl) ?_
      refine lv_icmp_ge (tgt := 49) hx hb (kd dtX12_letters_0 6 rfl) (by decide) (fun hc => ?_) (fun hc => ?_)
      · have hf := kif_pos hc hf
        exact hk z3_5 z4_5 _ _ _ hX hl hf
      · have hf := kif_neg hc hf
        refine lv_iload_n hx hb (kd dtX12_letters_0 7 rfl) rfl (lv_at hl 3 rfl) ?_
        refine lv_aload_n hx hb (kd dtX12_letters_0 8 rfl) rfl (lv_at hl 0 rfl) ?_
        refine rgetA (n := 0) (j := 0) hB (by decide) rfl F hX wfX12_9 (by decide) rfl (kd dtX12_letters_0 9 rfl) ?_
        refine lv_iload hx hb (kd dtX12_letters_0 10 rfl) (lv_at hl 4 rfl) ?_
        obtain ⟨v3, hv3, hf⟩ := kbind hf
        refine rald hB (by decide) hv3 F hX (kd dtX12_letters_0 11 rfl) ?_
        obtain ⟨v5, h4, hf⟩ := kbind hf
        refine kcallS (n := 1) [.int v3] [.int z3_5] [.int v5, .int z3_5] (rX12_isLetter l D aC (rWo h0 wB w) h4) F hml hX hZ hl.1 mwX12_isLetter wmX12_71 (by decide +kernel) ⟨(by decide), (by decide)⟩ rfl rfl rfl (Nat.le_of_ble_eq_true rfl) (kd dtX12_letters_0 12 rfl) ⟨Nat.zero_le _, Nat.zero_le _⟩ (fun H locs hX => ?_)
        refine lv_if_eq (tgt := 40) hx hb (kd dtX12_letters_0 13 rfl) (by decide) (fun hc => ?_) (fun hc => ?_)
        · have hf := kif_pos hc hf
          refine lv_iconst (v := (0 : Int32)) hx hb (kd dtX12_letters_0 23 rfl) (by decide) ?_
          refine lv_ior hx hb (kd dtX12_letters_0 24 rfl) ?_
          refine lv_istore_n (lv' := [(3, .int (z3_5 ||| (0 : Int32))), (0, .ref h0), (1, .int x1), (2, .int x2), (4, .int z4_5)]) hx hb (kd dtX12_letters_0 25 rfl) rfl hl (by decide) rfl (fun ls hl => ?_)
          refine lv_iinc (v := z4_5 + (1 : Int32)) (lv' := [(4, .int (z4_5 + (1 : Int32))), (3, .int (z3_5 ||| (0 : Int32))), (0, .ref h0), (1, .int x1), (2, .int x2)]) hx hb (kd dtX12_letters_0 26 rfl) hl (k := 4) rfl (by rfl) (by decide) rfl (fun ls hl => ?_)
          refine lv_goto (tgt := 5) hx hb (kd dtX12_letters_0 27 rfl) (by decide) ?_
          exact ih (z3_5 ||| (0 : Int32)) (z4_5 + (1 : Int32)) _ _ _ hX (lv_sub hl [2, 3, 4, 1, 0] rfl) hf hk
        · have hf := kif_neg hc hf
          refine lv_iconst (v := (1 : Int32)) hx hb (kd dtX12_letters_0 14 rfl) (by decide) ?_
          refine lv_aload_n hx hb (kd dtX12_letters_0 15 rfl) rfl (lv_at hl 0 rfl) ?_
          refine rgetA (n := 0) (j := 0) hB (by decide) rfl F hX wfX12_9 (by decide) rfl (kd dtX12_letters_0 16 rfl) ?_
          refine lv_iload hx hb (kd dtX12_letters_0 17 rfl) (lv_at hl 4 rfl) ?_
          obtain ⟨v6, hv6, hf⟩ := kbind hf
          refine rald hB (by decide) hv6 F hX (kd dtX12_letters_0 18 rfl) ?_
          refine lv_bipush (v := (112 : Int32)) hx hb (kd dtX12_letters_0 19 rfl) (by decide) ?_
          refine lv_isub hx hb (kd dtX12_letters_0 20 rfl) ?_
          refine lv_ishl hx hb (kd dtX12_letters_0 21 rfl) ?_
          refine lv_goto (tgt := 41) hx hb (kd dtX12_letters_0 22 rfl) (by decide) ?_
          refine lv_ior hx hb (kd dtX12_letters_0 24 rfl) ?_
          obtain ⟨v7, hv7, hf⟩ := kbind hf
          have hv7 := Option.some.inj hv7
          rw [hv7]
          refine lv_istore_n (lv' := [(3, .int v7), (0, .ref h0), (1, .int x1), (2, .int x2), (4, .int z4_5)]) hx hb (kd dtX12_letters_0 25 rfl) rfl hl (by decide) rfl (fun ls hl => ?_)
          refine lv_iinc (v := z4_5 + (1 : Int32)) (lv' := [(4, .int (z4_5 + (1 : Int32))), (3, .int v7), (0, .ref h0), (1, .int x1), (2, .int x2)]) hx hb (kd dtX12_letters_0 26 rfl) hl (k := 4) rfl (by rfl) (by decide) rfl (fun ls hl => ?_)
          refine lv_goto (tgt := 5) hx hb (kd dtX12_letters_0 27 rfl) (by decide) ?_
          exact ih v7 (z4_5 + (1 : Int32)) _ _ _ hX (lv_sub hl [2, 3, 4, 1, 0] rfl) hf hk
  refine hL5 kFU _ (0 : Int32) x1 _ _ _ hX (lv_sub hl [2, 3, 4, 1, 0] rfl) hf ?_
  intro y3_1 y4_2 H locs ls hX hl hf
  refine lv_iload_n hx hb (kd dtX12_letters_0 28 rfl) rfl (lv_at hl 3 rfl) ?_
  obtain rfl := Option.some.inj hf
  exact kiret F hX hr hlocks rfl (kd dtX12_letters_0 29 rfl)
def lX12_bits_0 : List (Nat × Instr × Nat) := [(0, .iconst 0, 1), (1, .istore_n 1, 1), (2, .iload_n 0, 1), (3, .istore_n 2, 1), (4, .iload_n 2, 1), (5, .ifCond .le 16, 3), (8, .iload_n 1, 1), (9, .iload_n 2, 1), (10, .iconst 1, 1), (11, .iand, 1), (12, .iadd, 1), (13, .istore_n 1, 1), (14, .iload_n 2, 1), (15, .iconst 1, 1), (16, .ishr, 1), (17, .istore_n 2, 1), (18, .goto (-14), 3), (21, .iload_n 1, 1), (22, .ireturn, 1)]
theorem dtX12_bits_0 : kDec cX12_bits lX12_bits_0 = true := by decide +kernel
noncomputable def fX12_bits_L4 (x0 : Int32) : Nat → (Int32 → Int32 → Option Int32) → Int32 → Int32 → Option Int32
  | 0, _, _, _ => none
  | n + 1, k, x1, x2 =>
  if x2 ≤ 0 then
  k x1 x2
  else
  fX12_bits_L4 x0 n k (x1 + (x2 &&& (1 : Int32))) (x2 >>> ((1 : Int32) &&& 31))

noncomputable def fX12_bits (x0 : Int32) : Option Int32 :=
  fX12_bits_L4 x0 kFU (fun y1_1 y2_2 => some y1_1) (0 : Int32) x0

set_option maxHeartbeats 4000000 in
set_option maxRecDepth 100000 in
theorem rX12_bits (l : Launch) (D : va_G) (aC : Nat → ClassId) (w : kW) {x0 : Int32} {oR : Int32} (h : fX12_bits x0 = some oR) : kC l D aC yX12_bits cX12_bits 3 (some .int) 1 12 [.int x0] w (some (.int oR)) w 0 0 := by
  refine kOf (own := RX12) (by decide) rfl (Nat.le_of_ble_eq_true rfl) ?_
  intro p e s m below meth c ls F hml hr hlocks hnm hX hZ hl
  obtain ⟨hx, hb, hts, hown, hK⟩ := id F
  have hl : lv_has ls 3 [(0, .int x0)] := hl
  have hf := h
  rw [fX12_bits] at hf
  refine lv_iconst (v := (0 : Int32)) hx hb (kd dtX12_bits_0 0 rfl) (by decide) ?_
  refine lv_istore_n (lv' := [(1, .int (0 : Int32)), (0, .int x0)]) hx hb (kd dtX12_bits_0 1 rfl) rfl hl (by decide) rfl (fun ls hl => ?_)
  refine lv_iload_n hx hb (kd dtX12_bits_0 2 rfl) rfl (lv_at hl 1 rfl) ?_
  refine lv_istore_n (lv' := [(2, .int x0), (1, .int (0 : Int32)), (0, .int x0)]) hx hb (kd dtX12_bits_0 3 rfl) rfl hl (by decide) rfl (fun ls hl => ?_)
  have hL4 : ∀ (n : Nat) (k : Int32 → Int32 → Option Int32), ∀ (z1_4 : Int32) (z2_4 : Int32) (H : Heap) (locs : List Loc) (ls : Array Slot), kX D aC w s.heap w H locs → lv_has ls 3 [(0, .int x0), (1, .int z1_4), (2, .int z2_4)] → fX12_bits_L4 x0 n k z1_4 z2_4 = some oR → (∀ (z1_4 : Int32) (z2_4 : Int32) (H : Heap) (locs : List Loc) (ls : Array Slot), kX D aC w s.heap w H locs → lv_has ls 3 [(0, .int x0), (1, .int z1_4), (2, .int z2_4)] → k z1_4 z2_4 = some oR → W p l e { frames := 1, cells := 0, slots := 0, locals := 12 } s m ([.int x0] : List Value).toArray below meth c H locs 0 0 (MQ below (kQc D aC w (some (.int oR)) w) ([.int x0] : List Value).toArray s 0 0 (kA w)) (F0 m 21 ls [])) → W p l e { frames := 1, cells := 0, slots := 0, locals := 12 } s m ([.int x0] : List Value).toArray below meth c H locs 0 0 (MQ below (kQc D aC w (some (.int oR)) w) ([.int x0] : List Value).toArray s 0 0 (kA w)) (F0 m 4 ls []) := by
    intro n k
    induction n with
    | zero =>
      intro z1_4 z2_4 H locs ls hX hl hf hk
      rw [fX12_bits_L4] at hf
      cases hf
    | succ n ih =>
      intro z1_4 z2_4 H locs ls hX hl hf hk
      rw [fX12_bits_L4] at hf
      refine lv_iload_n hx hb (kd dtX12_bits_0 4 rfl) rfl (lv_at hl 2 rfl) ?_
      refine lv_if_le (tgt := 21) hx hb (kd dtX12_bits_0 5 rfl) (by decide) (fun hc => ?_) (fun hc => ?_)
      · have hf := kif_pos hc hf
        exact hk z1_4 z2_4 _ _ _ hX hl hf
      · have hf := kif_neg hc hf
        refine lv_iload_n hx hb (kd dtX12_bits_0 6 rfl) rfl (lv_at hl 1 rfl) ?_
        refine lv_iload_n hx hb (kd dtX12_bits_0 7 rfl) rfl (lv_at hl 2 rfl) ?_
        refine lv_iconst (v := (1 : Int32)) hx hb (kd dtX12_bits_0 8 rfl) (by decide) ?_
        refine lv_iand hx hb (kd dtX12_bits_0 9 rfl) ?_
        refine lv_iadd hx hb (kd dtX12_bits_0 10 rfl) ?_
        refine lv_istore_n (lv' := [(1, .int (z1_4 + (z2_4 &&& (1 : Int32)))), (0, .int x0), (2, .int z2_4)]) hx hb (kd dtX12_bits_0 11 rfl) rfl hl (by decide) rfl (fun ls hl => ?_)
        refine lv_iload_n hx hb (kd dtX12_bits_0 12 rfl) rfl (lv_at hl 2 rfl) ?_
        refine lv_iconst (v := (1 : Int32)) hx hb (kd dtX12_bits_0 13 rfl) (by decide) ?_
        refine lv_ishr hx hb (kd dtX12_bits_0 14 rfl) ?_
        refine lv_istore_n (lv' := [(2, .int (z2_4 >>> ((1 : Int32) &&& 31))), (1, .int (z1_4 + (z2_4 &&& (1 : Int32)))), (0, .int x0)]) hx hb (kd dtX12_bits_0 15 rfl) rfl hl (by decide) rfl (fun ls hl => ?_)
        refine lv_goto (tgt := 4) hx hb (kd dtX12_bits_0 16 rfl) (by decide) ?_
        exact ih (z1_4 + (z2_4 &&& (1 : Int32))) (z2_4 >>> ((1 : Int32) &&& 31)) _ _ _ hX (lv_sub hl [2, 1, 0] rfl) hf hk
  refine hL4 kFU _ (0 : Int32) x0 _ _ _ hX (lv_sub hl [2, 1, 0] rfl) hf ?_
  intro y1_1 y2_2 H locs ls hX hl hf
  refine lv_iload_n hx hb (kd dtX12_bits_0 17 rfl) rfl (lv_at hl 1 rfl) ?_
  obtain rfl := Option.some.inj hf
  exact kiret F hX hr hlocks rfl (kd dtX12_bits_0 18 rfl)
theorem wmX12_82 : Cond.methodLink RX12 82 yX12_isTrue ∈ kT := kTm 1443 (by decide +kernel) rfl
theorem mwX12_isTrue : kMV RX12 yX12_isTrue cX12_isTrue 7 (some .boolean) := ⟨kTm 1446 (by decide +kernel) rfl, kTm 106 (by decide +kernel) rfl, kTm 1445 (by decide +kernel) rfl, kTm 55 (by decide +kernel) rfl⟩
def lX12_isTrue_0 : List (Nat × Instr × Nat) := [(0, .aload_n 0, 1), (1, .getfield 9, 3), (4, .iload_n 1, 1), (5, .iaload, 1), (6, .istore_n 3, 1), (7, .iload_n 3, 1), (8, .invokestatic 71, 3), (11, .ifCond .eq 21, 3), (14, .iload_n 2, 1), (15, .iload_n 3, 1), (16, .bipush 112, 2), (18, .isub, 1), (19, .ishr, 1), (20, .iconst 1, 1), (21, .iand, 1), (22, .iconst 1, 1), (23, .if_icmp .ne 7, 3), (26, .iconst 1, 1), (27, .goto 4, 3), (30, .iconst 0, 1), (31, .ireturn, 1), (32, .iload_n 3, 1), (33, .bipush 126, 2), (35, .if_icmp .ne 20, 3), (38, .aload_n 0, 1), (39, .iload_n 1, 1), (40, .iconst 1, 1), (41, .iadd, 1), (42, .iload_n 2, 1), (43, .invokevirtual 82, 3), (46, .ifCond .ne 7, 3), (49, .iconst 1, 1), (50, .goto 4, 3), (53, .iconst 0, 1), (54, .ireturn, 1), (55, .aload_n 0, 1), (56, .iload_n 1, 1), (57, .iconst 1, 1), (58, .iadd, 1), (59, .invokevirtual 75, 3), (62, .istore 4, 2), (64, .aload_n 0, 1), (65, .iload_n 1, 1), (66, .iconst 1, 1), (67, .iadd, 1), (68, .iload_n 2, 1), (69, .invokevirtual 82, 3), (72, .istore 5, 2), (74, .aload_n 0, 1), (75, .iload 4, 2), (77, .iconst 1, 1), (78, .iadd, 1), (79, .iload_n 2, 1), (80, .invokevirtual 82, 3), (83, .istore 6, 2), (85, .aload_n 0, 1), (86, .getfield 9, 3), (89, .iload 4, 2), (91, .iaload, 1), (92, .bipush 118, 2), (94, .if_icmp .ne 21, 3), (97, .iload 5, 2), (99, .ifCond .ne 8, 3), (102, .iload 6, 2), (104, .ifCond .eq 7, 3), (107, .iconst 1, 1), (108, .goto 22, 3), (111, .iconst 0, 1), (112, .goto 18, 3), (115, .iload 5, 2), (117, .ifCond .eq 8, 3), (120, .iload 6, 2), (122, .ifCond .eq 7, 3), (125, .iconst 1, 1), (126, .goto 4, 3), (129, .iconst 0, 1), (130, .ireturn, 1)]
theorem dtX12_isTrue_0 : kDec cX12_isTrue lX12_isTrue_0 = true := by decide +kernel
noncomputable def fX12_isTrue : Nat → Int32 → Int32 → rW → Option Int32
  | 0, _, _, _ => none
  | dp + 1, x1, x2, w =>
  (raI w 0 10000 x1).bind fun v1 =>
  (fX12_isLetter v1).bind fun v3 =>
  if v3 = 0 then
  if v1 = (126 : Int32) then
  (fX12_isTrue dp (x1 + (1 : Int32)) x2 w).bind fun v12 =>
  if v12 = 0 then
  some (1 : Int32)
  else
  some (0 : Int32)
  else
  (fX12_end kDP (x1 + (1 : Int32)) w).bind fun v5 =>
  (fX12_isTrue dp (x1 + (1 : Int32)) x2 w).bind fun v7 =>
  (fX12_isTrue dp (v5 + (1 : Int32)) x2 w).bind fun v9 =>
  (raI w 0 10000 v5).bind fun v10 =>
  if v10 = (118 : Int32) then
  if v7 = 0 then
  if v9 = 0 then
  some (0 : Int32)
  else
  some (1 : Int32)
  else
  some (1 : Int32)
  else
  if v7 = 0 then
  some (1 : Int32)
  else
  if v9 = 0 then
  some (0 : Int32)
  else
  some (1 : Int32)
  else
  if ((x2 >>> ((v1 - (112 : Int32)) &&& 31)) &&& (1 : Int32)) = (1 : Int32) then
  some (1 : Int32)
  else
  some (0 : Int32)

set_option maxHeartbeats 4000000 in
set_option maxRecDepth 100000 in
theorem rX12_isTrue_dp (l : Launch) (D : va_G) (aC : Nat → ClassId) {h0 : Nat} {wB : kW} (hB : rOK h0 wB) : ∀ (dp : Nat) {x1 : Int32} {x2 : Int32} {w : rW} {oR : Int32}, fX12_isTrue dp x1 x2 w = some oR → kC l D aC yX12_isTrue cX12_isTrue 7 (some .boolean) (dp + 403) (dp * 26 + 8854) [.ref h0, .int x1, .int x2] (rWo h0 wB w) (some (.int oR)) (rWo h0 wB w) 0 0 := by
  intro dp
  induction dp with
  | zero =>
    intro x1 x2 w oR h
    rw [fX12_isTrue] at h
    cases h
  | succ dp IH =>
    intro x1 x2 w oR h
    refine kOf (own := RX12) (by decide) rfl (Nat.le_of_ble_eq_true rfl) ?_
    intro p e s m below meth c ls F hml hr hlocks hnm hX hZ hl
    obtain ⟨hx, hb, hts, hown, hK⟩ := id F
    have hl : lv_has ls 7 [(0, .ref h0), (1, .int x1), (2, .int x2)] := hl
    have hf := h
    rw [fX12_isTrue] at hf
    refine lv_aload_n hx hb (kd dtX12_isTrue_0 0 rfl) rfl (lv_at hl 0 rfl) ?_
    refine rgetA (n := 0) (j := 0) hB (by decide) rfl F hX wfX12_9 (by decide) rfl (kd dtX12_isTrue_0 1 rfl) ?_
    refine lv_iload_n hx hb (kd dtX12_isTrue_0 2 rfl) rfl (lv_at hl 1 rfl) ?_
    obtain ⟨v1, hv1, hf⟩ := kbind hf
    refine rald hB (by decide) hv1 F hX (kd dtX12_isTrue_0 3 rfl) ?_
    refine lv_istore_n (lv' := [(3, .int v1), (0, .ref h0), (1, .int x1), (2, .int x2)]) hx hb (kd dtX12_isTrue_0 4 rfl) rfl hl (by decide) rfl (fun ls hl => ?_)
    refine lv_iload_n hx hb (kd dtX12_isTrue_0 5 rfl) rfl (lv_at hl 0 rfl) ?_
    obtain ⟨v3, h2, hf⟩ := kbind hf
    refine kcallS (n := 1) [.int v1] [] [.int v3] (rX12_isLetter l D aC (rWo h0 wB w) h2) F hml hX hZ hl.1 mwX12_isLetter wmX12_71 (by decide +kernel) ⟨(by dsimp only; omega), (by dsimp only; omega)⟩ rfl rfl rfl (Nat.le_of_ble_eq_true rfl) (kd dtX12_isTrue_0 6 rfl) ⟨Nat.zero_le _, Nat.zero_le _⟩ (fun H locs hX => ?_)
    refine lv_if_eq (tgt := 32) hx hb (kd dtX12_isTrue_0 7 rfl) (by decide) (fun hc => ?_) (fun hc => ?_)
    · have hf := kif_pos hc hf
      refine lv_iload_n hx hb (kd dtX12_isTrue_0 21 rfl) rfl (lv_at hl 0 rfl) ?_
      refine lv_bipush (v := (126 : Int32)) hx hb (kd dtX12_isTrue_0 22 rfl) (by decide) ?_
      refine lv_icmp_ne (tgt := 55) hx hb (kd dtX12_isTrue_0 23 rfl) (by decide) (fun hc => ?_) (fun hc => ?_)
      · have hf := kif_neg hc hf
        refine lv_aload_n hx hb (kd dtX12_isTrue_0 35 rfl) rfl (lv_at hl 1 rfl) ?_
        refine lv_iload_n hx hb (kd dtX12_isTrue_0 36 rfl) rfl (lv_at hl 2 rfl) ?_
        refine lv_iconst (v := (1 : Int32)) hx hb (kd dtX12_isTrue_0 37 rfl) (by decide) ?_
        refine lv_iadd hx hb (kd dtX12_isTrue_0 38 rfl) ?_
        obtain ⟨v5, h4, hf⟩ := kbind hf
        refine kcallV (n := 1) [.int (x1 + (1 : Int32))] [] [.int v5] (rX12_end l D aC hB h4) rfl hB.1 F hml hX hZ hl.1 mwX12_end wmX12_75 rfl (by decide) (by decide +kernel) ⟨(by dsimp only; omega), (by dsimp only; omega)⟩ rfl rfl rfl (Nat.le_of_ble_eq_true rfl) (kd dtX12_isTrue_0 39 rfl) ⟨Nat.zero_le _, Nat.zero_le _⟩ (fun H locs hX => ?_)
        refine lv_istore (lv' := [(4, .int v5), (3, .int v1), (0, .ref h0), (1, .int x1), (2, .int x2)]) hx hb (kd dtX12_isTrue_0 40 rfl) hl (by decide) rfl (fun ls hl => ?_)
        refine lv_aload_n hx hb (kd dtX12_isTrue_0 41 rfl) rfl (lv_at hl 2 rfl) ?_
        refine lv_iload_n hx hb (kd dtX12_isTrue_0 42 rfl) rfl (lv_at hl 3 rfl) ?_
        refine lv_iconst (v := (1 : Int32)) hx hb (kd dtX12_isTrue_0 43 rfl) (by decide) ?_
        refine lv_iadd hx hb (kd dtX12_isTrue_0 44 rfl) ?_
        refine lv_iload_n hx hb (kd dtX12_isTrue_0 45 rfl) rfl (lv_at hl 4 rfl) ?_
        obtain ⟨v7, h6, hf⟩ := kbind hf
        refine kcallV (n := 2) [.int (x1 + (1 : Int32)), .int x2] [] [.int v7] (IH h6) rfl hB.1 F hml hX hZ hl.1 mwX12_isTrue wmX12_82 rfl (by decide) (by decide +kernel) ⟨(by dsimp only; omega), (by dsimp only; omega)⟩ rfl rfl rfl (Nat.le_of_ble_eq_true rfl) (kd dtX12_isTrue_0 46 rfl) ⟨Nat.zero_le _, Nat.zero_le _⟩ (fun H locs hX => ?_)
        refine lv_istore (lv' := [(5, .int v7), (4, .int v5), (3, .int v1), (0, .ref h0), (1, .int x1), (2, .int x2)]) hx hb (kd dtX12_isTrue_0 47 rfl) hl (by decide) rfl (fun ls hl => ?_)
        refine lv_aload_n hx hb (kd dtX12_isTrue_0 48 rfl) rfl (lv_at hl 3 rfl) ?_
        refine lv_iload hx hb (kd dtX12_isTrue_0 49 rfl) (lv_at hl 1 rfl) ?_
        refine lv_iconst (v := (1 : Int32)) hx hb (kd dtX12_isTrue_0 50 rfl) (by decide) ?_
        refine lv_iadd hx hb (kd dtX12_isTrue_0 51 rfl) ?_
        refine lv_iload_n hx hb (kd dtX12_isTrue_0 52 rfl) rfl (lv_at hl 5 rfl) ?_
        obtain ⟨v9, h8, hf⟩ := kbind hf
        refine kcallV (n := 2) [.int (v5 + (1 : Int32)), .int x2] [] [.int v9] (IH h8) rfl hB.1 F hml hX hZ hl.1 mwX12_isTrue wmX12_82 rfl (by decide) (by decide +kernel) ⟨(by dsimp only; omega), (by dsimp only; omega)⟩ rfl rfl rfl (Nat.le_of_ble_eq_true rfl) (kd dtX12_isTrue_0 53 rfl) ⟨Nat.zero_le _, Nat.zero_le _⟩ (fun H locs hX => ?_)
        refine lv_istore (lv' := [(6, .int v9), (5, .int v7), (4, .int v5), (3, .int v1), (0, .ref h0), (1, .int x1), (2, .int x2)]) hx hb (kd dtX12_isTrue_0 54 rfl) hl (by decide) rfl (fun ls hl => ?_)
        refine lv_aload_n hx hb (kd dtX12_isTrue_0 55 rfl) rfl (lv_at hl 4 rfl) ?_
        refine rgetA (n := 0) (j := 0) hB (by decide) rfl F hX wfX12_9 (by decide) rfl (kd dtX12_isTrue_0 56 rfl) ?_
        refine lv_iload hx hb (kd dtX12_isTrue_0 57 rfl) (lv_at hl 2 rfl) ?_
        obtain ⟨v10, hv10, hf⟩ := kbind hf
        refine rald hB (by decide) hv10 F hX (kd dtX12_isTrue_0 58 rfl) ?_
        refine lv_bipush (v := (118 : Int32)) hx hb (kd dtX12_isTrue_0 59 rfl) (by decide) ?_
        refine lv_icmp_ne (tgt := 115) hx hb (kd dtX12_isTrue_0 60 rfl) (by decide) (fun hc => ?_) (fun hc => ?_)
        · have hf := kif_neg hc hf
          refine lv_iload hx hb (kd dtX12_isTrue_0 69 rfl) (lv_at hl 1 rfl) ?_
          refine lv_if_eq (tgt := 125) hx hb (kd dtX12_isTrue_0 70 rfl) (by decide) (fun hc => ?_) (fun hc => ?_)
          · have hf := kif_pos hc hf
            refine lv_iconst (v := (1 : Int32)) hx hb (kd dtX12_isTrue_0 73 rfl) (by decide) ?_
            refine lv_goto (tgt := 130) hx hb (kd dtX12_isTrue_0 74 rfl) (by decide) ?_
            obtain rfl := Option.some.inj hf
            exact kzret F hX hr hlocks rfl rfl (kd dtX12_isTrue_0 76 rfl)
          · have hf := kif_neg hc hf
            refine lv_iload hx hb (kd dtX12_isTrue_0 71 rfl) (lv_at hl 0 rfl) ?_
            refine lv_if_eq (tgt := 129) hx hb (kd dtX12_isTrue_0 72 rfl) (by decide) (fun hc => ?_) (fun hc => ?_)
            · have hf := kif_pos hc hf
              refine lv_iconst (v := (0 : Int32)) hx hb (kd dtX12_isTrue_0 75 rfl) (by decide) ?_
              obtain rfl := Option.some.inj hf
              exact kzret F hX hr hlocks rfl rfl (kd dtX12_isTrue_0 76 rfl)
            · have hf := kif_neg hc hf
              refine lv_iconst (v := (1 : Int32)) hx hb (kd dtX12_isTrue_0 73 rfl) (by decide) ?_
              refine lv_goto (tgt := 130) hx hb (kd dtX12_isTrue_0 74 rfl) (by decide) ?_
              obtain rfl := Option.some.inj hf
              exact kzret F hX hr hlocks rfl rfl (kd dtX12_isTrue_0 76 rfl)
        · have hf := kif_pos hc hf
          refine lv_iload hx hb (kd dtX12_isTrue_0 61 rfl) (lv_at hl 1 rfl) ?_
          refine lv_if_ne (tgt := 107) hx hb (kd dtX12_isTrue_0 62 rfl) (by decide) (fun hc => ?_) (fun hc => ?_)
          · have hf := kif_neg hc hf
            refine lv_iconst (v := (1 : Int32)) hx hb (kd dtX12_isTrue_0 65 rfl) (by decide) ?_
            refine lv_goto (tgt := 130) hx hb (kd dtX12_isTrue_0 66 rfl) (by decide) ?_
            obtain rfl := Option.some.inj hf
            exact kzret F hX hr hlocks rfl rfl (kd dtX12_isTrue_0 76 rfl)
          · have hf := kif_pos hc hf
            refine lv_iload hx hb (kd dtX12_isTrue_0 63 rfl) (lv_at hl 0 rfl) ?_
            refine lv_if_eq (tgt := 111) hx hb (kd dtX12_isTrue_0 64 rfl) (by decide) (fun hc => ?_) (fun hc => ?_)
            · have hf := kif_pos hc hf
              refine lv_iconst (v := (0 : Int32)) hx hb (kd dtX12_isTrue_0 67 rfl) (by decide) ?_
              refine lv_goto (tgt := 130) hx hb (kd dtX12_isTrue_0 68 rfl) (by decide) ?_
              obtain rfl := Option.some.inj hf
              exact kzret F hX hr hlocks rfl rfl (kd dtX12_isTrue_0 76 rfl)
            · have hf := kif_neg hc hf
              refine lv_iconst (v := (1 : Int32)) hx hb (kd dtX12_isTrue_0 65 rfl) (by decide) ?_
              refine lv_goto (tgt := 130) hx hb (kd dtX12_isTrue_0 66 rfl) (by decide) ?_
              obtain rfl := Option.some.inj hf
              exact kzret F hX hr hlocks rfl rfl (kd dtX12_isTrue_0 76 rfl)
      · have hf := kif_pos hc hf
        refine lv_aload_n hx hb (kd dtX12_isTrue_0 24 rfl) rfl (lv_at hl 1 rfl) ?_
        refine lv_iload_n hx hb (kd dtX12_isTrue_0 25 rfl) rfl (lv_at hl 2 rfl) ?_
        refine lv_iconst (v := (1 : Int32)) hx hb (kd dtX12_isTrue_0 26 rfl) (by decide) ?_
        refine lv_iadd hx hb (kd dtX12_isTrue_0 27 rfl) ?_
        refine lv_iload_n hx hb (kd dtX12_isTrue_0 28 rfl) rfl (lv_at hl 3 rfl) ?_
        obtain ⟨v12, h11, hf⟩ := kbind hf
        refine kcallV (n := 2) [.int (x1 + (1 : Int32)), .int x2] [] [.int v12] (IH h11) rfl hB.1 F hml hX hZ hl.1 mwX12_isTrue wmX12_82 rfl (by decide) (by decide +kernel) ⟨(by dsimp only; omega), (by dsimp only; omega)⟩ rfl rfl rfl (Nat.le_of_ble_eq_true rfl) (kd dtX12_isTrue_0 29 rfl) ⟨Nat.zero_le _, Nat.zero_le _⟩ (fun H locs hX => ?_)
        refine lv_if_ne (tgt := 53) hx hb (kd dtX12_isTrue_0 30 rfl) (by decide) (fun hc => ?_) (fun hc => ?_)
        · have hf := kif_neg hc hf
          refine lv_iconst (v := (0 : Int32)) hx hb (kd dtX12_isTrue_0 33 rfl) (by decide) ?_
          obtain rfl := Option.some.inj hf
          exact kzret F hX hr hlocks rfl rfl (kd dtX12_isTrue_0 34 rfl)
        · have hf := kif_pos hc hf
          refine lv_iconst (v := (1 : Int32)) hx hb (kd dtX12_isTrue_0 31 rfl) (by decide) ?_
          refine lv_goto (tgt := 54) hx hb (kd dtX12_isTrue_0 32 rfl) (by decide) ?_
          obtain rfl := Option.some.inj hf
          exact kzret F hX hr hlocks rfl rfl (kd dtX12_isTrue_0 34 rfl)
    · have hf := kif_neg hc hf
      refine lv_iload_n hx hb (kd dtX12_isTrue_0 8 rfl) rfl (lv_at hl 3 rfl) ?_
      refine lv_iload_n hx hb (kd dtX12_isTrue_0 9 rfl) rfl (lv_at hl 0 rfl) ?_
      refine lv_bipush (v := (112 : Int32)) hx hb (kd dtX12_isTrue_0 10 rfl) (by decide) ?_
      refine lv_isub hx hb (kd dtX12_isTrue_0 11 rfl) ?_
      refine lv_ishr hx hb (kd dtX12_isTrue_0 12 rfl) ?_
      refine lv_iconst (v := (1 : Int32)) hx hb (kd dtX12_isTrue_0 13 rfl) (by decide) ?_
      refine lv_iand hx hb (kd dtX12_isTrue_0 14 rfl) ?_
      refine lv_iconst (v := (1 : Int32)) hx hb (kd dtX12_isTrue_0 15 rfl) (by decide) ?_
      refine lv_icmp_ne (tgt := 30) hx hb (kd dtX12_isTrue_0 16 rfl) (by decide) (fun hc => ?_) (fun hc => ?_)
      · have hf := kif_neg hc hf
        refine lv_iconst (v := (0 : Int32)) hx hb (kd dtX12_isTrue_0 19 rfl) (by decide) ?_
        obtain rfl := Option.some.inj hf
        exact kzret F hX hr hlocks rfl rfl (kd dtX12_isTrue_0 20 rfl)
      · have hf := kif_pos hc hf
        refine lv_iconst (v := (1 : Int32)) hx hb (kd dtX12_isTrue_0 17 rfl) (by decide) ?_
        refine lv_goto (tgt := 31) hx hb (kd dtX12_isTrue_0 18 rfl) (by decide) ?_
        obtain rfl := Option.some.inj hf
        exact kzret F hX hr hlocks rfl rfl (kd dtX12_isTrue_0 20 rfl)
theorem rX12_isTrue (l : Launch) (D : va_G) (aC : Nat → ClassId) {h0 : Nat} {wB : kW} (hB : rOK h0 wB) {x1 : Int32} {x2 : Int32} {w : rW} {oR : Int32} (h : fX12_isTrue kDP x1 x2 w = some oR) : kC l D aC yX12_isTrue cX12_isTrue 7 (some .boolean) 803 19254 [.ref h0, .int x1, .int x2] (rWo h0 wB w) (some (.int oR)) (rWo h0 wB w) 0 0 := rX12_isTrue_dp l D aC hB kDP h
theorem wmX12_86 : Cond.methodLink RX12 86 yX12_textOf ∈ kT := kTm 1400 (by decide +kernel) rfl
theorem mwX12_textOf : kMS yX12_textOf cX12_textOf 1 (some .int) := ⟨kTm 1402 (by decide +kernel) rfl, kTm 106 (by decide +kernel) rfl, kTm 1401 (by decide +kernel) rfl⟩
theorem wmX12_89 : Cond.methodLink RX12 89 yX12_letters ∈ kT := kTm 1428 (by decide +kernel) rfl
theorem mwX12_letters : kMV RX12 yX12_letters cX12_letters 5 (some .int) := ⟨kTm 1431 (by decide +kernel) rfl, kTm 106 (by decide +kernel) rfl, kTm 1430 (by decide +kernel) rfl, kTm 52 (by decide +kernel) rfl⟩
def lX12_tableOf_0 : List (Nat × Instr × Nat) := [(0, .iload_n 1, 1), (1, .invokestatic 86, 3), (4, .istore_n 2, 1), (5, .aload_n 0, 1), (6, .iload_n 2, 1), (7, .iload_n 2, 1), (8, .aload_n 0, 1), (9, .getfield 16, 3), (12, .iconst 3, 1), (13, .iload_n 1, 1), (14, .iadd, 1), (15, .iaload, 1), (16, .iadd, 1), (17, .invokevirtual 89, 3), (20, .istore_n 3, 1), (21, .iconst 0, 1), (22, .istore 4, 2), (24, .iconst 0, 1), (25, .istore 5, 2), (27, .iload 5, 2), (29, .bipush 64, 2), (31, .if_icmp .ge 38, 3), (34, .iload 4, 2), (36, .iload 5, 2), (38, .iload_n 3, 1), (39, .iconst (-1), 1), (40, .ixor, 1), (41, .iand, 1), (42, .ifCond .ne 17, 3), (45, .aload_n 0, 1), (46, .iload_n 2, 1), (47, .iload 5, 2), (49, .invokevirtual 82, 3), (52, .ifCond .eq 7, 3), (55, .iconst 1, 1), (56, .goto 4, 3), (59, .iconst 0, 1), (60, .iadd, 1), (61, .istore 4, 2), (63, .iinc 5 1, 3), (66, .goto (-39), 3), (69, .iload 4, 2), (71, .ireturn, 1)]
theorem dtX12_tableOf_0 : kDec cX12_tableOf lX12_tableOf_0 = true := by decide +kernel
noncomputable def fX12_tableOf_L27 (x1 : Int32) (x2 : Int32) (x3 : Int32) (w : rW) : Nat → (Int32 → Int32 → Option Int32) → Int32 → Int32 → Option Int32
  | 0, _, _, _ => none
  | n + 1, k, x4, x5 =>
  if (64 : Int32) ≤ x5 then
  k x4 x5
  else
  if (x5 &&& (x3 ^^^ (-1 : Int32))) = 0 then
  (fX12_isTrue kDP x2 x5 w).bind fun v2 =>
  if v2 = 0 then
  fX12_tableOf_L27 x1 x2 x3 w n k (x4 + (0 : Int32)) (x5 + (1 : Int32))
  else
  fX12_tableOf_L27 x1 x2 x3 w n k (x4 + (1 : Int32)) (x5 + (1 : Int32))
  else
  fX12_tableOf_L27 x1 x2 x3 w n k (x4 + (0 : Int32)) (x5 + (1 : Int32))

noncomputable def fX12_tableOf (x1 : Int32) (w : rW) : Option Int32 :=
  (fX12_textOf x1).bind fun v2 =>
  (raI w 2 1000 ((3 : Int32) + x1)).bind fun v3 =>
  (fX12_letters v2 (v2 + v3) w).bind fun v5 =>
  fX12_tableOf_L27 x1 v2 v5 w kFU (fun y4_6 y5_7 => some y4_6) (0 : Int32) (0 : Int32)

set_option maxHeartbeats 4000000 in
set_option maxRecDepth 100000 in
theorem rX12_tableOf (l : Launch) (D : va_G) (aC : Nat → ClassId) {h0 : Nat} {wB : kW} (hB : rOK h0 wB) {x1 : Int32} {w : rW} {oR : Int32} (h : fX12_tableOf x1 w = some oR) : kC l D aC yX12_tableOf cX12_tableOf 6 (some .int) 804 19280 [.ref h0, .int x1] (rWo h0 wB w) (some (.int oR)) (rWo h0 wB w) 0 0 := by
  refine kOf (own := RX12) (by decide) rfl (Nat.le_of_ble_eq_true rfl) ?_
  intro p e s m below meth c ls F hml hr hlocks hnm hX hZ hl
  obtain ⟨hx, hb, hts, hown, hK⟩ := id F
  have hl : lv_has ls 6 [(0, .ref h0), (1, .int x1)] := hl
  have hf := h
  rw [fX12_tableOf] at hf
  refine lv_iload_n hx hb (kd dtX12_tableOf_0 0 rfl) rfl (lv_at hl 1 rfl) ?_
  obtain ⟨v2, h1, hf⟩ := kbind hf
  refine kcallS (n := 1) [.int x1] [] [.int v2] (rX12_textOf l D aC (rWo h0 wB w) h1) F hml hX hZ hl.1 mwX12_textOf wmX12_86 (by decide +kernel) ⟨(by decide), (by decide)⟩ rfl rfl rfl (Nat.le_of_ble_eq_true rfl) (kd dtX12_tableOf_0 1 rfl) ⟨Nat.zero_le _, Nat.zero_le _⟩ (fun H locs hX => ?_)
  refine lv_istore_n (lv' := [(2, .int v2), (0, .ref h0), (1, .int x1)]) hx hb (kd dtX12_tableOf_0 2 rfl) rfl hl (by decide) rfl (fun ls hl => ?_)
  refine lv_aload_n hx hb (kd dtX12_tableOf_0 3 rfl) rfl (lv_at hl 1 rfl) ?_
  refine lv_iload_n hx hb (kd dtX12_tableOf_0 4 rfl) rfl (lv_at hl 0 rfl) ?_
  refine lv_iload_n hx hb (kd dtX12_tableOf_0 5 rfl) rfl (lv_at hl 0 rfl) ?_
  refine lv_aload_n hx hb (kd dtX12_tableOf_0 6 rfl) rfl (lv_at hl 1 rfl) ?_
  refine rgetA (n := 2) (j := 2) hB (by decide) rfl F hX wfX12_16 (by decide) rfl (kd dtX12_tableOf_0 7 rfl) ?_
  refine lv_iconst (v := (3 : Int32)) hx hb (kd dtX12_tableOf_0 8 rfl) (by decide) ?_
  refine lv_iload_n hx hb (kd dtX12_tableOf_0 9 rfl) rfl (lv_at hl 2 rfl) ?_
  refine lv_iadd hx hb (kd dtX12_tableOf_0 10 rfl) ?_
  obtain ⟨v3, hv3, hf⟩ := kbind hf
  refine rald hB (by decide) hv3 F hX (kd dtX12_tableOf_0 11 rfl) ?_
  refine lv_iadd hx hb (kd dtX12_tableOf_0 12 rfl) ?_
  obtain ⟨v5, h4, hf⟩ := kbind hf
  refine kcallV (n := 2) [.int v2, .int (v2 + v3)] [] [.int v5] (rX12_letters l D aC hB h4) rfl hB.1 F hml hX hZ hl.1 mwX12_letters wmX12_89 rfl (by decide) (by decide +kernel) ⟨(by decide), (by decide)⟩ rfl rfl rfl (Nat.le_of_ble_eq_true rfl) (kd dtX12_tableOf_0 13 rfl) ⟨Nat.zero_le _, Nat.zero_le _⟩ (fun H locs hX => ?_)
  refine lv_istore_n (lv' := [(3, .int v5), (2, .int v2), (0, .ref h0), (1, .int x1)]) hx hb (kd dtX12_tableOf_0 14 rfl) rfl hl (by decide) rfl (fun ls hl => ?_)
  refine lv_iconst (v := (0 : Int32)) hx hb (kd dtX12_tableOf_0 15 rfl) (by decide) ?_
  refine lv_istore (lv' := [(4, .int (0 : Int32)), (3, .int v5), (2, .int v2), (0, .ref h0), (1, .int x1)]) hx hb (kd dtX12_tableOf_0 16 rfl) hl (by decide) rfl (fun ls hl => ?_)
  refine lv_iconst (v := (0 : Int32)) hx hb (kd dtX12_tableOf_0 17 rfl) (by decide) ?_
  refine lv_istore (lv' := [(5, .int (0 : Int32)), (4, .int (0 : Int32)), (3, .int v5), (2, .int v2), (0, .ref h0), (1, .int x1)]) hx hb (kd dtX12_tableOf_0 18 rfl) hl (by decide) rfl (fun ls hl => ?_)
  have hL27 : ∀ (n : Nat) (k : Int32 → Int32 → Option Int32), ∀ (z4_27 : Int32) (z5_27 : Int32) (H : Heap) (locs : List Loc) (ls : Array Slot), kX D aC (rWo h0 wB w) s.heap (rWo h0 wB w) H locs → lv_has ls 6 [(0, .ref h0), (1, .int x1), (2, .int v2), (3, .int v5), (4, .int z4_27), (5, .int z5_27)] → fX12_tableOf_L27 x1 v2 v5 w n k z4_27 z5_27 = some oR → (∀ (z4_27 : Int32) (z5_27 : Int32) (H : Heap) (locs : List Loc) (ls : Array Slot), kX D aC (rWo h0 wB w) s.heap (rWo h0 wB w) H locs → lv_has ls 6 [(0, .ref h0), (1, .int x1), (2, .int v2), (3, .int v5), (4, .int z4_27), (5, .int z5_27)] → k z4_27 z5_27 = some oR → W p l e { frames := 804, cells := 0, slots := 0, locals := 19280 } s m ([.ref h0, .int x1] : List Value).toArray below meth c H locs 0 0 (MQ below (kQc D aC (rWo h0 wB w) (some (.int oR)) (rWo h0 wB w)) ([.ref h0, .int x1] : List Value).toArray s 0 0 (kA (rWo h0 wB w))) (F0 m 69 ls [])) → W p l e { frames := 804, cells := 0, slots := 0, locals := 19280 } s m ([.ref h0, .int x1] : List Value).toArray below meth c H locs 0 0 (MQ below (kQc D aC (rWo h0 wB w) (some (.int oR)) (rWo h0 wB w)) ([.ref h0, .int x1] : List Value).toArray s 0 0 (kA (rWo h0 wB w))) (F0 m 27 ls []) := by
    intro n k
    induction n with
    | zero =>
      intro z4_27 z5_27 H locs ls hX hl hf hk
      rw [fX12_tableOf_L27] at hf
      cases hf
    | succ n ih =>
      intro z4_27 z5_27 H locs ls hX hl hf hk
      rw [fX12_tableOf_L27] at hf
      refine lv_iload hx hb (kd dtX12_tableOf_0 19 rfl) (lv_at hl 5 rfl) ?_
      refine lv_bipush (v := (64 : Int32)) hx hb (kd dtX12_tableOf_0 20 rfl) (by decide) ?_
      refine lv_icmp_ge (tgt := 69) hx hb (kd dtX12_tableOf_0 21 rfl) (by decide) (fun hc => ?_) (fun hc => ?_)
      · have hf := kif_pos hc hf
        exact hk z4_27 z5_27 _ _ _ hX hl hf
      · have hf := kif_neg hc hf
        refine lv_iload hx hb (kd dtX12_tableOf_0 22 rfl) (lv_at hl 4 rfl) ?_
        refine lv_iload hx hb (kd dtX12_tableOf_0 23 rfl) (lv_at hl 5 rfl) ?_
        refine lv_iload_n hx hb (kd dtX12_tableOf_0 24 rfl) rfl (lv_at hl 3 rfl) ?_
        refine lv_iconst (v := (-1 : Int32)) hx hb (kd dtX12_tableOf_0 25 rfl) (by decide) ?_
        refine lv_ixor hx hb (kd dtX12_tableOf_0 26 rfl) ?_
        refine lv_iand hx hb (kd dtX12_tableOf_0 27 rfl) ?_
        refine lv_if_ne (tgt := 59) hx hb (kd dtX12_tableOf_0 28 rfl) (by decide) (fun hc => ?_) (fun hc => ?_)
        · have hf := kif_neg hc hf
          refine lv_iconst (v := (0 : Int32)) hx hb (kd dtX12_tableOf_0 36 rfl) (by decide) ?_
          refine lv_iadd hx hb (kd dtX12_tableOf_0 37 rfl) ?_
          refine lv_istore (lv' := [(4, .int (z4_27 + (0 : Int32))), (0, .ref h0), (1, .int x1), (2, .int v2), (3, .int v5), (5, .int z5_27)]) hx hb (kd dtX12_tableOf_0 38 rfl) hl (by decide) rfl (fun ls hl => ?_)
          refine lv_iinc (v := z5_27 + (1 : Int32)) (lv' := [(5, .int (z5_27 + (1 : Int32))), (4, .int (z4_27 + (0 : Int32))), (0, .ref h0), (1, .int x1), (2, .int v2), (3, .int v5)]) hx hb (kd dtX12_tableOf_0 39 rfl) hl (k := 5) rfl (by rfl) (by decide) rfl (fun ls hl => ?_)
          refine lv_goto (tgt := 27) hx hb (kd dtX12_tableOf_0 40 rfl) (by decide) ?_
          exact ih (z4_27 + (0 : Int32)) (z5_27 + (1 : Int32)) _ _ _ hX (lv_sub hl [2, 3, 4, 5, 1, 0] rfl) hf hk
        · have hf := kif_pos hc hf
          refine lv_aload_n hx hb (kd dtX12_tableOf_0 29 rfl) rfl (lv_at hl 0 rfl) ?_
          refine lv_iload_n hx hb (kd dtX12_tableOf_0 30 rfl) rfl (lv_at hl 2 rfl) ?_
          refine lv_iload hx hb (kd dtX12_tableOf_0 31 rfl) (lv_at hl 5 rfl) ?_
          obtain ⟨v9, h8, hf⟩ := kbind hf
          refine kcallV (n := 2) [.int v2, .int z5_27] [.int z4_27] [.int v9, .int z4_27] (rX12_isTrue l D aC hB h8) rfl hB.1 F hml hX hZ hl.1 mwX12_isTrue wmX12_82 rfl (by decide) (by decide +kernel) ⟨(by decide), (by decide)⟩ rfl rfl rfl (Nat.le_of_ble_eq_true rfl) (kd dtX12_tableOf_0 32 rfl) ⟨Nat.zero_le _, Nat.zero_le _⟩ (fun H locs hX => ?_)
          refine lv_if_eq (tgt := 59) hx hb (kd dtX12_tableOf_0 33 rfl) (by decide) (fun hc => ?_) (fun hc => ?_)
          · have hf := kif_pos hc hf
            refine lv_iconst (v := (0 : Int32)) hx hb (kd dtX12_tableOf_0 36 rfl) (by decide) ?_
            refine lv_iadd hx hb (kd dtX12_tableOf_0 37 rfl) ?_
            refine lv_istore (lv' := [(4, .int (z4_27 + (0 : Int32))), (0, .ref h0), (1, .int x1), (2, .int v2), (3, .int v5), (5, .int z5_27)]) hx hb (kd dtX12_tableOf_0 38 rfl) hl (by decide) rfl (fun ls hl => ?_)
            refine lv_iinc (v := z5_27 + (1 : Int32)) (lv' := [(5, .int (z5_27 + (1 : Int32))), (4, .int (z4_27 + (0 : Int32))), (0, .ref h0), (1, .int x1), (2, .int v2), (3, .int v5)]) hx hb (kd dtX12_tableOf_0 39 rfl) hl (k := 5) rfl (by rfl) (by decide) rfl (fun ls hl => ?_)
            refine lv_goto (tgt := 27) hx hb (kd dtX12_tableOf_0 40 rfl) (by decide) ?_
            exact ih (z4_27 + (0 : Int32)) (z5_27 + (1 : Int32)) _ _ _ hX (lv_sub hl [2, 3, 4, 5, 1, 0] rfl) hf hk
          · have hf := kif_neg hc hf
            refine lv_iconst (v := (1 : Int32)) hx hb (kd dtX12_tableOf_0 34 rfl) (by decide) ?_
            refine lv_goto (tgt := 60) hx hb (kd dtX12_tableOf_0 35 rfl) (by decide) ?_
            refine lv_iadd hx hb (kd dtX12_tableOf_0 37 rfl) ?_
            refine lv_istore (lv' := [(4, .int (z4_27 + (1 : Int32))), (0, .ref h0), (1, .int x1), (2, .int v2), (3, .int v5), (5, .int z5_27)]) hx hb (kd dtX12_tableOf_0 38 rfl) hl (by decide) rfl (fun ls hl => ?_)
            refine lv_iinc (v := z5_27 + (1 : Int32)) (lv' := [(5, .int (z5_27 + (1 : Int32))), (4, .int (z4_27 + (1 : Int32))), (0, .ref h0), (1, .int x1), (2, .int v2), (3, .int v5)]) hx hb (kd dtX12_tableOf_0 39 rfl) hl (k := 5) rfl (by rfl) (by decide) rfl (fun ls hl => ?_)
            refine lv_goto (tgt := 27) hx hb (kd dtX12_tableOf_0 40 rfl) (by decide) ?_
            exact ih (z4_27 + (1 : Int32)) (z5_27 + (1 : Int32)) _ _ _ hX (lv_sub hl [2, 3, 4, 5, 1, 0] rfl) hf hk
  refine hL27 kFU _ (0 : Int32) (0 : Int32) _ _ _ hX (lv_sub hl [4, 5, 3, 2, 1, 0] rfl) hf ?_
  intro y4_6 y5_7 H locs ls hX hl hf
  refine lv_iload hx hb (kd dtX12_tableOf_0 41 rfl) (lv_at hl 4 rfl) ?_
  obtain rfl := Option.some.inj hf
  exact kiret F hX hr hlocks rfl (kd dtX12_tableOf_0 42 rfl)
theorem wmX12_93 : Cond.methodLink RX12 93 yX12_tableOf ∈ kT := kTm 1439 (by decide +kernel) rfl
theorem mwX12_tableOf : kMV RX12 yX12_tableOf cX12_tableOf 6 (some .int) := ⟨kTm 1442 (by decide +kernel) rfl, kTm 106 (by decide +kernel) rfl, kTm 1441 (by decide +kernel) rfl, kTm 54 (by decide +kernel) rfl⟩
theorem wmX12_96 : Cond.methodLink RX12 96 yX12_bits ∈ kT := kTm 1432 (by decide +kernel) rfl
theorem mwX12_bits : kMS yX12_bits cX12_bits 3 (some .int) := ⟨kTm 1434 (by decide +kernel) rfl, kTm 106 (by decide +kernel) rfl, kTm 1433 (by decide +kernel) rfl⟩
def lX12_isAlways_0 : List (Nat × Instr × Nat) := [(0, .aload_n 0, 1), (1, .iload_n 1, 1), (2, .invokevirtual 93, 3), (5, .iconst 1, 1), (6, .aload_n 0, 1), (7, .iload_n 1, 1), (8, .invokestatic 86, 3), (11, .iload_n 1, 1), (12, .invokestatic 86, 3), (15, .aload_n 0, 1), (16, .getfield 16, 3), (19, .iconst 3, 1), (20, .iload_n 1, 1), (21, .iadd, 1), (22, .iaload, 1), (23, .iadd, 1), (24, .invokevirtual 89, 3), (27, .invokestatic 96, 3), (30, .ishl, 1), (31, .if_icmp .ne 7, 3), (34, .iconst 1, 1), (35, .goto 4, 3), (38, .iconst 0, 1), (39, .ireturn, 1)]
theorem dtX12_isAlways_0 : kDec cX12_isAlways lX12_isAlways_0 = true := by decide +kernel
noncomputable def fX12_isAlways (x1 : Int32) (w : rW) : Option Int32 :=
  (fX12_tableOf x1 w).bind fun v2 =>
  (fX12_textOf x1).bind fun v4 =>
  (fX12_textOf x1).bind fun v6 =>
  (raI w 2 1000 ((3 : Int32) + x1)).bind fun v7 =>
  (fX12_letters v4 (v6 + v7) w).bind fun v9 =>
  (fX12_bits v9).bind fun v11 =>
  if v2 = ((1 : Int32) <<< (v11 &&& 31)) then
  some (1 : Int32)
  else
  some (0 : Int32)

set_option maxHeartbeats 4000000 in
set_option maxRecDepth 100000 in
theorem rX12_isAlways (l : Launch) (D : va_G) (aC : Nat → ClassId) {h0 : Nat} {wB : kW} (hB : rOK h0 wB) {x1 : Int32} {w : rW} {oR : Int32} (h : fX12_isAlways x1 w = some oR) : kC l D aC yX12_isAlways cX12_isAlways 2 (some .boolean) 805 19305 [.ref h0, .int x1] (rWo h0 wB w) (some (.int oR)) (rWo h0 wB w) 0 0 := by
  refine kOf (own := RX12) (by decide) rfl (Nat.le_of_ble_eq_true rfl) ?_
  intro p e s m below meth c ls F hml hr hlocks hnm hX hZ hl
  obtain ⟨hx, hb, hts, hown, hK⟩ := id F
  have hl : lv_has ls 2 [(0, .ref h0), (1, .int x1)] := hl
  have hf := h
  rw [fX12_isAlways] at hf
  refine lv_aload_n hx hb (kd dtX12_isAlways_0 0 rfl) rfl (lv_at hl 0 rfl) ?_
  refine lv_iload_n hx hb (kd dtX12_isAlways_0 1 rfl) rfl (lv_at hl 1 rfl) ?_
  obtain ⟨v2, h1, hf⟩ := kbind hf
  refine kcallV (n := 1) [.int x1] [] [.int v2] (rX12_tableOf l D aC hB h1) rfl hB.1 F hml hX hZ hl.1 mwX12_tableOf wmX12_93 rfl (by decide) (by decide +kernel) ⟨(by decide), (by decide)⟩ rfl rfl rfl (Nat.le_of_ble_eq_true rfl) (kd dtX12_isAlways_0 2 rfl) ⟨Nat.zero_le _, Nat.zero_le _⟩ (fun H locs hX => ?_)
  refine lv_iconst (v := (1 : Int32)) hx hb (kd dtX12_isAlways_0 3 rfl) (by decide) ?_
  refine lv_aload_n hx hb (kd dtX12_isAlways_0 4 rfl) rfl (lv_at hl 0 rfl) ?_
  refine lv_iload_n hx hb (kd dtX12_isAlways_0 5 rfl) rfl (lv_at hl 1 rfl) ?_
  obtain ⟨v4, h3, hf⟩ := kbind hf
  refine kcallS (n := 1) [.int x1] [.ref h0, .int (1 : Int32), .int v2] [.int v4, .ref h0, .int (1 : Int32), .int v2] (rX12_textOf l D aC (rWo h0 wB w) h3) F hml hX hZ hl.1 mwX12_textOf wmX12_86 (by decide +kernel) ⟨(by decide), (by decide)⟩ rfl rfl rfl (Nat.le_of_ble_eq_true rfl) (kd dtX12_isAlways_0 6 rfl) ⟨Nat.zero_le _, Nat.zero_le _⟩ (fun H locs hX => ?_)
  refine lv_iload_n hx hb (kd dtX12_isAlways_0 7 rfl) rfl (lv_at hl 1 rfl) ?_
  obtain ⟨v6, h5, hf⟩ := kbind hf
  refine kcallS (n := 1) [.int x1] [.int v4, .ref h0, .int (1 : Int32), .int v2] [.int v6, .int v4, .ref h0, .int (1 : Int32), .int v2] (rX12_textOf l D aC (rWo h0 wB w) h5) F hml hX hZ hl.1 mwX12_textOf wmX12_86 (by decide +kernel) ⟨(by decide), (by decide)⟩ rfl rfl rfl (Nat.le_of_ble_eq_true rfl) (kd dtX12_isAlways_0 8 rfl) ⟨Nat.zero_le _, Nat.zero_le _⟩ (fun H locs hX => ?_)
  refine lv_aload_n hx hb (kd dtX12_isAlways_0 9 rfl) rfl (lv_at hl 0 rfl) ?_
  refine rgetA (n := 2) (j := 2) hB (by decide) rfl F hX wfX12_16 (by decide) rfl (kd dtX12_isAlways_0 10 rfl) ?_
  refine lv_iconst (v := (3 : Int32)) hx hb (kd dtX12_isAlways_0 11 rfl) (by decide) ?_
  refine lv_iload_n hx hb (kd dtX12_isAlways_0 12 rfl) rfl (lv_at hl 1 rfl) ?_
  refine lv_iadd hx hb (kd dtX12_isAlways_0 13 rfl) ?_
  obtain ⟨v7, hv7, hf⟩ := kbind hf
  refine rald hB (by decide) hv7 F hX (kd dtX12_isAlways_0 14 rfl) ?_
  refine lv_iadd hx hb (kd dtX12_isAlways_0 15 rfl) ?_
  obtain ⟨v9, h8, hf⟩ := kbind hf
  refine kcallV (n := 2) [.int v4, .int (v6 + v7)] [.int (1 : Int32), .int v2] [.int v9, .int (1 : Int32), .int v2] (rX12_letters l D aC hB h8) rfl hB.1 F hml hX hZ hl.1 mwX12_letters wmX12_89 rfl (by decide) (by decide +kernel) ⟨(by decide), (by decide)⟩ rfl rfl rfl (Nat.le_of_ble_eq_true rfl) (kd dtX12_isAlways_0 16 rfl) ⟨Nat.zero_le _, Nat.zero_le _⟩ (fun H locs hX => ?_)
  obtain ⟨v11, h10, hf⟩ := kbind hf
  refine kcallS (n := 1) [.int v9] [.int (1 : Int32), .int v2] [.int v11, .int (1 : Int32), .int v2] (rX12_bits l D aC (rWo h0 wB w) h10) F hml hX hZ hl.1 mwX12_bits wmX12_96 (by decide +kernel) ⟨(by decide), (by decide)⟩ rfl rfl rfl (Nat.le_of_ble_eq_true rfl) (kd dtX12_isAlways_0 17 rfl) ⟨Nat.zero_le _, Nat.zero_le _⟩ (fun H locs hX => ?_)
  refine lv_ishl hx hb (kd dtX12_isAlways_0 18 rfl) ?_
  refine lv_icmp_ne (tgt := 38) hx hb (kd dtX12_isAlways_0 19 rfl) (by decide) (fun hc => ?_) (fun hc => ?_)
  · have hf := kif_neg hc hf
    refine lv_iconst (v := (0 : Int32)) hx hb (kd dtX12_isAlways_0 22 rfl) (by decide) ?_
    obtain rfl := Option.some.inj hf
    exact kzret F hX hr hlocks rfl rfl (kd dtX12_isAlways_0 23 rfl)
  · have hf := kif_pos hc hf
    refine lv_iconst (v := (1 : Int32)) hx hb (kd dtX12_isAlways_0 20 rfl) (by decide) ?_
    refine lv_goto (tgt := 39) hx hb (kd dtX12_isAlways_0 21 rfl) (by decide) ?_
    obtain rfl := Option.some.inj hf
    exact kzret F hX hr hlocks rfl rfl (kd dtX12_isAlways_0 23 rfl)
def lX12_same_0 : List (Nat × Instr × Nat) := [(0, .iload_n 2, 1), (1, .iload_n 1, 1), (2, .isub, 1), (3, .iload 4, 2), (5, .iload_n 3, 1), (6, .isub, 1), (7, .if_icmp .eq 5, 3), (10, .iconst 0, 1), (11, .ireturn, 1), (12, .iconst 0, 1), (13, .istore 5, 2), (15, .iload 5, 2), (17, .iload_n 2, 1), (18, .iload_n 1, 1), (19, .isub, 1), (20, .if_icmp .ge 32, 3), (23, .aload_n 0, 1), (24, .getfield 9, 3), (27, .iload_n 1, 1), (28, .iload 5, 2), (30, .iadd, 1), (31, .iaload, 1), (32, .aload_n 0, 1), (33, .getfield 9, 3), (36, .iload_n 3, 1), (37, .iload 5, 2), (39, .iadd, 1), (40, .iaload, 1), (41, .if_icmp .eq 5, 3), (44, .iconst 0, 1), (45, .ireturn, 1), (46, .iinc 5 1, 3), (49, .goto (-34), 3), (52, .iconst 1, 1), (53, .ireturn, 1)]
theorem dtX12_same_0 : kDec cX12_same lX12_same_0 = true := by decide +kernel
noncomputable def fX12_same_L15 (x1 : Int32) (x2 : Int32) (x3 : Int32) (x4 : Int32) (w : rW) : Nat → (Int32 → Option Int32) → Int32 → Option Int32
  | 0, _, _ => none
  | n + 1, k, x5 =>
  if (x2 - x1) ≤ x5 then
  k x5
  else
  (raI w 0 10000 (x1 + x5)).bind fun v1 =>
  (raI w 0 10000 (x3 + x5)).bind fun v2 =>
  if v1 = v2 then
  fX12_same_L15 x1 x2 x3 x4 w n k (x5 + (1 : Int32))
  else
  some (0 : Int32)

noncomputable def fX12_same (x1 : Int32) (x2 : Int32) (x3 : Int32) (x4 : Int32) (w : rW) : Option Int32 :=
  if (x2 - x1) = (x4 - x3) then
  fX12_same_L15 x1 x2 x3 x4 w kFU (fun y5_1 => some (1 : Int32)) (0 : Int32)
  else
  some (0 : Int32)

set_option maxHeartbeats 4000000 in
set_option maxRecDepth 100000 in
theorem rX12_same (l : Launch) (D : va_G) (aC : Nat → ClassId) {h0 : Nat} {wB : kW} (hB : rOK h0 wB) {x1 : Int32} {x2 : Int32} {x3 : Int32} {x4 : Int32} {w : rW} {oR : Int32} (h : fX12_same x1 x2 x3 x4 w = some oR) : kC l D aC yX12_same cX12_same 6 (some .boolean) 1 12 [.ref h0, .int x1, .int x2, .int x3, .int x4] (rWo h0 wB w) (some (.int oR)) (rWo h0 wB w) 0 0 := by
  refine kOf (own := RX12) (by decide) rfl (Nat.le_of_ble_eq_true rfl) ?_
  intro p e s m below meth c ls F hml hr hlocks hnm hX hZ hl
  obtain ⟨hx, hb, hts, hown, hK⟩ := id F
  have hl : lv_has ls 6 [(0, .ref h0), (1, .int x1), (2, .int x2), (3, .int x3), (4, .int x4)] := hl
  have hf := h
  rw [fX12_same] at hf
  refine lv_iload_n hx hb (kd dtX12_same_0 0 rfl) rfl (lv_at hl 2 rfl) ?_
  refine lv_iload_n hx hb (kd dtX12_same_0 1 rfl) rfl (lv_at hl 1 rfl) ?_
  refine lv_isub hx hb (kd dtX12_same_0 2 rfl) ?_
  refine lv_iload hx hb (kd dtX12_same_0 3 rfl) (lv_at hl 4 rfl) ?_
  refine lv_iload_n hx hb (kd dtX12_same_0 4 rfl) rfl (lv_at hl 3 rfl) ?_
  refine lv_isub hx hb (kd dtX12_same_0 5 rfl) ?_
  refine lv_icmp_eq (tgt := 12) hx hb (kd dtX12_same_0 6 rfl) (by decide) (fun hc => ?_) (fun hc => ?_)
  · have hf := kif_pos hc hf
    refine lv_iconst (v := (0 : Int32)) hx hb (kd dtX12_same_0 9 rfl) (by decide) ?_
    refine lv_istore (lv' := [(5, .int (0 : Int32)), (0, .ref h0), (1, .int x1), (2, .int x2), (3, .int x3), (4, .int x4)]) hx hb (kd dtX12_same_0 10 rfl) hl (by decide) rfl (fun ls hl => ?_)
    have hL15 : ∀ (n : Nat) (k : Int32 → Option Int32), ∀ (z5_15 : Int32) (H : Heap) (locs : List Loc) (ls : Array Slot), kX D aC (rWo h0 wB w) s.heap (rWo h0 wB w) H locs → lv_has ls 6 [(0, .ref h0), (1, .int x1), (2, .int x2), (3, .int x3), (4, .int x4), (5, .int z5_15)] → fX12_same_L15 x1 x2 x3 x4 w n k z5_15 = some oR → (∀ (z5_15 : Int32) (H : Heap) (locs : List Loc) (ls : Array Slot), kX D aC (rWo h0 wB w) s.heap (rWo h0 wB w) H locs → lv_has ls 6 [(0, .ref h0), (1, .int x1), (2, .int x2), (3, .int x3), (4, .int x4), (5, .int z5_15)] → k z5_15 = some oR → W p l e { frames := 1, cells := 0, slots := 0, locals := 12 } s m ([.ref h0, .int x1, .int x2, .int x3, .int x4] : List Value).toArray below meth c H locs 0 0 (MQ below (kQc D aC (rWo h0 wB w) (some (.int oR)) (rWo h0 wB w)) ([.ref h0, .int x1, .int x2, .int x3, .int x4] : List Value).toArray s 0 0 (kA (rWo h0 wB w))) (F0 m 52 ls [])) → W p l e { frames := 1, cells := 0, slots := 0, locals := 12 } s m ([.ref h0, .int x1, .int x2, .int x3, .int x4] : List Value).toArray below meth c H locs 0 0 (MQ below (kQc D aC (rWo h0 wB w) (some (.int oR)) (rWo h0 wB w)) ([.ref h0, .int x1, .int x2, .int x3, .int x4] : List Value).toArray s 0 0 (kA (rWo h0 wB w))) (F0 m 15 ls []) := by
      intro n k
      induction n with
      | zero =>
        intro z5_15 H locs ls hX hl hf hk
        rw [fX12_same_L15] at hf
        cases hf
      | succ n ih =>
        intro z5_15 H locs ls hX hl hf hk
        rw [fX12_same_L15] at hf
        refine lv_iload hx hb (kd dtX12_same_0 11 rfl) (lv_at hl 5 rfl) ?_
        refine lv_iload_n hx hb (kd dtX12_same_0 12 rfl) rfl (lv_at hl 2 rfl) ?_
        refine lv_iload_n hx hb (kd dtX12_same_0 13 rfl) rfl (lv_at hl 1 rfl) ?_
        refine lv_isub hx hb (kd dtX12_same_0 14 rfl) ?_
        refine lv_icmp_ge (tgt := 52) hx hb (kd dtX12_same_0 15 rfl) (by decide) (fun hc => ?_) (fun hc => ?_)
        · have hf := kif_pos hc hf
          exact hk z5_15 _ _ _ hX hl hf
        · have hf := kif_neg hc hf
          refine lv_aload_n hx hb (kd dtX12_same_0 16 rfl) rfl (lv_at hl 0 rfl) ?_
          refine rgetA (n := 0) (j := 0) hB (by decide) rfl F hX wfX12_9 (by decide) rfl (kd dtX12_same_0 17 rfl) ?_
          refine lv_iload_n hx hb (kd dtX12_same_0 18 rfl) rfl (lv_at hl 1 rfl) ?_
          refine lv_iload hx hb (kd dtX12_same_0 19 rfl) (lv_at hl 5 rfl) ?_
          refine lv_iadd hx hb (kd dtX12_same_0 20 rfl) ?_
          obtain ⟨v2, hv2, hf⟩ := kbind hf
          refine rald hB (by decide) hv2 F hX (kd dtX12_same_0 21 rfl) ?_
          refine lv_aload_n hx hb (kd dtX12_same_0 22 rfl) rfl (lv_at hl 0 rfl) ?_
          refine rgetA (n := 0) (j := 0) hB (by decide) rfl F hX wfX12_9 (by decide) rfl (kd dtX12_same_0 23 rfl) ?_
          refine lv_iload_n hx hb (kd dtX12_same_0 24 rfl) rfl (lv_at hl 3 rfl) ?_
          refine lv_iload hx hb (kd dtX12_same_0 25 rfl) (lv_at hl 5 rfl) ?_
          refine lv_iadd hx hb (kd dtX12_same_0 26 rfl) ?_
          obtain ⟨v3, hv3, hf⟩ := kbind hf
          refine rald hB (by decide) hv3 F hX (kd dtX12_same_0 27 rfl) ?_
          refine lv_icmp_eq (tgt := 46) hx hb (kd dtX12_same_0 28 rfl) (by decide) (fun hc => ?_) (fun hc => ?_)
          · have hf := kif_pos hc hf
            refine lv_iinc (v := z5_15 + (1 : Int32)) (lv' := [(5, .int (z5_15 + (1 : Int32))), (0, .ref h0), (1, .int x1), (2, .int x2), (3, .int x3), (4, .int x4)]) hx hb (kd dtX12_same_0 31 rfl) hl (k := 5) rfl (by rfl) (by decide) rfl (fun ls hl => ?_)
            refine lv_goto (tgt := 15) hx hb (kd dtX12_same_0 32 rfl) (by decide) ?_
            exact ih (z5_15 + (1 : Int32)) _ _ _ hX (lv_sub hl [1, 2, 3, 4, 5, 0] rfl) hf hk
          · have hf := kif_neg hc hf
            refine lv_iconst (v := (0 : Int32)) hx hb (kd dtX12_same_0 29 rfl) (by decide) ?_
            obtain rfl := Option.some.inj hf
            exact kzret F hX hr hlocks rfl rfl (kd dtX12_same_0 30 rfl)
    refine hL15 kFU _ (0 : Int32) _ _ _ hX (lv_sub hl [1, 2, 3, 4, 5, 0] rfl) hf ?_
    intro y5_1 H locs ls hX hl hf
    refine lv_iconst (v := (1 : Int32)) hx hb (kd dtX12_same_0 33 rfl) (by decide) ?_
    obtain rfl := Option.some.inj hf
    exact kzret F hX hr hlocks rfl rfl (kd dtX12_same_0 34 rfl)
  · have hf := kif_neg hc hf
    refine lv_iconst (v := (0 : Int32)) hx hb (kd dtX12_same_0 7 rfl) (by decide) ?_
    obtain rfl := Option.some.inj hf
    exact kzret F hX hr hlocks rfl rfl (kd dtX12_same_0 8 rfl)
theorem wfX12_99 : Cond.fieldLink RX12 99 (TX12 12).1 (TX12 12).2.1 (TX12 12).2.2.1 ∈ kT := kTm 1246 (by decide +kernel) rfl
theorem wfX12_102 : Cond.fieldLink RX12 102 (TX12 14).1 (TX12 14).2.1 (TX12 14).2.2.1 ∈ kT := kTm 1248 (by decide +kernel) rfl
theorem wfX12_105 : Cond.fieldLink RX12 105 (TX12 13).1 (TX12 13).2.1 (TX12 13).2.2.1 ∈ kT := kTm 1247 (by decide +kernel) rfl
def lX12_sign_0 : List (Nat × Instr × Nat) := [(0, .aload_n 0, 1), (1, .getfield 99, 3), (4, .aload_n 0, 1), (5, .getfield 102, 3), (8, .if_icmp .ge 20, 3), (11, .aload_n 0, 1), (12, .getfield 31, 3), (15, .aload_n 0, 1), (16, .getfield 105, 3), (19, .aload_n 0, 1), (20, .getfield 99, 3), (23, .iadd, 1), (24, .iaload, 1), (25, .goto 6, 3), (28, .sipush (-1000), 3), (31, .ireturn, 1)]
theorem dtX12_sign_0 : kDec cX12_sign lX12_sign_0 = true := by decide +kernel
noncomputable def fX12_sign (w : rW) : Option Int32 :=
  if (rF w 14) ≤ (rF w 12) then
  some (-1000 : Int32)
  else
  (raI w 7 960 ((rF w 13) + (rF w 12))).bind fun v1 =>
  some v1

set_option maxHeartbeats 4000000 in
set_option maxRecDepth 100000 in
theorem rX12_sign (l : Launch) (D : va_G) (aC : Nat → ClassId) {h0 : Nat} {wB : kW} (hB : rOK h0 wB) {w : rW} {oR : Int32} (h : fX12_sign w = some oR) : kC l D aC yX12_sign cX12_sign 1 (some .int) 1 12 [.ref h0] (rWo h0 wB w) (some (.int oR)) (rWo h0 wB w) 0 0 := by
  refine kOf (own := RX12) (by decide) rfl (Nat.le_of_ble_eq_true rfl) ?_
  intro p e s m below meth c ls F hml hr hlocks hnm hX hZ hl
  obtain ⟨hx, hb, hts, hown, hK⟩ := id F
  have hl : lv_has ls 1 [(0, .ref h0)] := hl
  have hf := h
  rw [fX12_sign] at hf
  refine lv_aload_n hx hb (kd dtX12_sign_0 0 rfl) rfl (lv_at hl 0 rfl) ?_
  refine rgetF (j := 12) hB F hX wfX12_99 (by decide) rfl (kd dtX12_sign_0 1 rfl) ?_
  refine lv_aload_n hx hb (kd dtX12_sign_0 2 rfl) rfl (lv_at hl 0 rfl) ?_
  refine rgetF (j := 14) hB F hX wfX12_102 (by decide) rfl (kd dtX12_sign_0 3 rfl) ?_
  refine lv_icmp_ge (tgt := 28) hx hb (kd dtX12_sign_0 4 rfl) (by decide) (fun hc => ?_) (fun hc => ?_)
  · have hf := kif_pos hc hf
    refine lv_sipush (v := (-1000 : Int32)) hx hb (kd dtX12_sign_0 14 rfl) (by decide) ?_
    obtain rfl := Option.some.inj hf
    exact kiret F hX hr hlocks rfl (kd dtX12_sign_0 15 rfl)
  · have hf := kif_neg hc hf
    refine lv_aload_n hx hb (kd dtX12_sign_0 5 rfl) rfl (lv_at hl 0 rfl) ?_
    refine rgetA (n := 7) (j := 7) hB (by decide) rfl F hX wfX12_31 (by decide) rfl (kd dtX12_sign_0 6 rfl) ?_
    refine lv_aload_n hx hb (kd dtX12_sign_0 7 rfl) rfl (lv_at hl 0 rfl) ?_
    refine rgetF (j := 13) hB F hX wfX12_105 (by decide) rfl (kd dtX12_sign_0 8 rfl) ?_
    refine lv_aload_n hx hb (kd dtX12_sign_0 9 rfl) rfl (lv_at hl 0 rfl) ?_
    refine rgetF (j := 12) hB F hX wfX12_99 (by decide) rfl (kd dtX12_sign_0 10 rfl) ?_
    refine lv_iadd hx hb (kd dtX12_sign_0 11 rfl) ?_
    obtain ⟨v1, hv1, hf⟩ := kbind hf
    refine rald hB (by decide) hv1 F hX (kd dtX12_sign_0 12 rfl) ?_
    refine lv_goto (tgt := 31) hx hb (kd dtX12_sign_0 13 rfl) (by decide) ?_
    obtain rfl := Option.some.inj hf
    exact kiret F hX hr hlocks rfl (kd dtX12_sign_0 15 rfl)
theorem wmX12_108 : Cond.methodLink RX12 108 yX12_sign ∈ kT := kTm 1385 (by decide +kernel) rfl
theorem mwX12_sign : kMV RX12 yX12_sign cX12_sign 1 (some .int) := ⟨kTm 1388 (by decide +kernel) rfl, kTm 106 (by decide +kernel) rfl, kTm 1387 (by decide +kernel) rfl, kTm 45 (by decide +kernel) rfl⟩
def lX12_takes_0 : List (Nat × Instr × Nat) := [(0, .aload_n 0, 1), (1, .getfield 99, 3), (4, .bipush 60, 2), (6, .if_icmp .eq 11, 3), (9, .aload_n 0, 1), (10, .invokevirtual 108, 3), (13, .iload_n 1, 1), (14, .if_icmp .eq 5, 3), (17, .iconst 0, 1), (18, .ireturn, 1), (19, .aload_n 0, 1), (20, .dup, 1), (21, .getfield 99, 3), (24, .iconst 1, 1), (25, .iadd, 1), (26, .putfield 99, 3), (29, .iconst 1, 1), (30, .ireturn, 1)]
theorem dtX12_takes_0 : kDec cX12_takes lX12_takes_0 = true := by decide +kernel
noncomputable def fX12_takes (x1 : Int32) (w : rW) : Option (Int32 × rW) :=
  if (rF w 12) = (60 : Int32) then
  some ((0 : Int32), w)
  else
  (fX12_sign w).bind fun v2 =>
  if v2 = x1 then
  (rpF w 12 ((rF w 12) + (1 : Int32))).bind fun w3 =>
  some ((1 : Int32), w3)
  else
  some ((0 : Int32), w)

set_option maxHeartbeats 4000000 in
set_option maxRecDepth 100000 in
theorem rX12_takes (l : Launch) (D : va_G) (aC : Nat → ClassId) {h0 : Nat} {wB : kW} (hB : rOK h0 wB) {x1 : Int32} {w : rW} {wR : rW} {oR : Int32} (h : fX12_takes x1 w = some (oR, wR)) : kC l D aC yX12_takes cX12_takes 2 (some .boolean) 2 32 [.ref h0, .int x1] (rWo h0 wB w) (some (.int oR)) (rWo h0 wB wR) 0 0 := by
  refine kOf (own := RX12) (by decide) rfl (Nat.le_of_ble_eq_true rfl) ?_
  intro p e s m below meth c ls F hml hr hlocks hnm hX hZ hl
  obtain ⟨hx, hb, hts, hown, hK⟩ := id F
  have hl : lv_has ls 2 [(0, .ref h0), (1, .int x1)] := hl
  have hf := h
  rw [fX12_takes] at hf
  refine lv_aload_n hx hb (kd dtX12_takes_0 0 rfl) rfl (lv_at hl 0 rfl) ?_
  refine rgetF (j := 12) hB F hX wfX12_99 (by decide) rfl (kd dtX12_takes_0 1 rfl) ?_
  refine lv_bipush (v := (60 : Int32)) hx hb (kd dtX12_takes_0 2 rfl) (by decide) ?_
  refine lv_icmp_eq (tgt := 17) hx hb (kd dtX12_takes_0 3 rfl) (by decide) (fun hc => ?_) (fun hc => ?_)
  · have hf := kif_pos hc hf
    refine lv_iconst (v := (0 : Int32)) hx hb (kd dtX12_takes_0 8 rfl) (by decide) ?_
    obtain ⟨rfl, rfl⟩ := Prod.mk.inj (Option.some.inj hf)
    exact kzret F hX hr hlocks rfl rfl (kd dtX12_takes_0 9 rfl)
  · have hf := kif_neg hc hf
    refine lv_aload_n hx hb (kd dtX12_takes_0 4 rfl) rfl (lv_at hl 0 rfl) ?_
    obtain ⟨v2, h1, hf⟩ := kbind hf
    refine kcallV (n := 0) [] [] [.int v2] (rX12_sign l D aC hB h1) rfl hB.1 F hml hX hZ hl.1 mwX12_sign wmX12_108 rfl (by decide) (by decide +kernel) ⟨(by decide), (by decide)⟩ rfl rfl rfl (Nat.le_of_ble_eq_true rfl) (kd dtX12_takes_0 5 rfl) ⟨Nat.zero_le _, Nat.zero_le _⟩ (fun H locs hX => ?_)
    refine lv_iload_n hx hb (kd dtX12_takes_0 6 rfl) rfl (lv_at hl 1 rfl) ?_
    refine lv_icmp_eq (tgt := 19) hx hb (kd dtX12_takes_0 7 rfl) (by decide) (fun hc => ?_) (fun hc => ?_)
    · have hf := kif_pos hc hf
      refine lv_aload_n hx hb (kd dtX12_takes_0 10 rfl) rfl (lv_at hl 0 rfl) ?_
      refine lv_dup hx hb (kd dtX12_takes_0 11 rfl) rfl ?_
      refine rgetF (j := 12) hB F hX wfX12_99 (by decide) rfl (kd dtX12_takes_0 12 rfl) ?_
      refine lv_iconst (v := (1 : Int32)) hx hb (kd dtX12_takes_0 13 rfl) (by decide) ?_
      refine lv_iadd hx hb (kd dtX12_takes_0 14 rfl) ?_
      obtain ⟨w3, hw3, hf⟩ := kbind hf
      refine rputF hw3 hB F hX wfX12_99 (by decide) rfl rfl rfl rfl (kd dtX12_takes_0 15 rfl) (fun H locs hX => ?_)
      refine lv_iconst (v := (1 : Int32)) hx hb (kd dtX12_takes_0 16 rfl) (by decide) ?_
      obtain ⟨rfl, rfl⟩ := Prod.mk.inj (Option.some.inj hf)
      exact kzret F hX hr hlocks rfl rfl (kd dtX12_takes_0 17 rfl)
    · have hf := kif_neg hc hf
      refine lv_iconst (v := (0 : Int32)) hx hb (kd dtX12_takes_0 8 rfl) (by decide) ?_
      obtain ⟨rfl, rfl⟩ := Prod.mk.inj (Option.some.inj hf)
      exact kzret F hX hr hlocks rfl rfl (kd dtX12_takes_0 9 rfl)
theorem wmX12_112 : Cond.methodLink RX12 112 yX12_readsLine ∈ kT := kTm 1381 (by decide +kernel) rfl
theorem mwX12_readsLine : kMV RX12 yX12_readsLine cX12_readsLine 3 (some .boolean) := ⟨kTm 1384 (by decide +kernel) rfl, kTm 106 (by decide +kernel) rfl, kTm 1383 (by decide +kernel) rfl, kTm 44 (by decide +kernel) rfl⟩
theorem wmX12_115 : Cond.methodLink RX12 115 yX12_takes ∈ kT := kTm 1392 (by decide +kernel) rfl
theorem mwX12_takes : kMV RX12 yX12_takes cX12_takes 2 (some .boolean) := ⟨kTm 1395 (by decide +kernel) rfl, kTm 106 (by decide +kernel) rfl, kTm 1394 (by decide +kernel) rfl, kTm 46 (by decide +kernel) rfl⟩
def lX12_readsLine_0 : List (Nat × Instr × Nat) := [(0, .aload_n 0, 1), (1, .getfield 99, 3), (4, .bipush 60, 2), (6, .if_icmp .ge 25, 3), (9, .aload_n 0, 1), (10, .invokevirtual 108, 3), (13, .invokestatic 71, 3), (16, .ifCond .eq 15, 3), (19, .aload_n 0, 1), (20, .dup, 1), (21, .getfield 99, 3), (24, .iconst 1, 1), (25, .iadd, 1), (26, .putfield 99, 3), (29, .iconst 1, 1), (30, .ireturn, 1), (31, .aload_n 0, 1), (32, .invokevirtual 108, 3), (35, .istore_n 2, 1), (36, .iload_n 2, 1), (37, .bipush 126, 2), (39, .if_icmp .eq 9, 3), (42, .iload_n 2, 1), (43, .bipush 40, 2), (45, .if_icmp .ne 18, 3), (48, .iload_n 1, 1), (49, .bipush 12, 2), (51, .if_icmp .eq 12, 3), (54, .aload_n 0, 1), (55, .getfield 99, 3), (58, .bipush 60, 2), (60, .if_icmp .ne 5, 3), (63, .iconst 0, 1), (64, .ireturn, 1), (65, .aload_n 0, 1), (66, .dup, 1), (67, .getfield 99, 3), (70, .iconst 1, 1), (71, .iadd, 1), (72, .putfield 99, 3), (75, .iload_n 2, 1), (76, .bipush 126, 2), (78, .if_icmp .ne 11, 3), (81, .aload_n 0, 1), (82, .iload_n 1, 1), (83, .iconst 1, 1), (84, .iadd, 1), (85, .invokevirtual 112, 3), (88, .ireturn, 1), (89, .aload_n 0, 1), (90, .iload_n 1, 1), (91, .iconst 1, 1), (92, .iadd, 1), (93, .invokevirtual 112, 3), (96, .ifCond .eq 44, 3), (99, .aload_n 0, 1), (100, .bipush 118, 2), (102, .invokevirtual 115, 3), (105, .ifCond .ne 12, 3), (108, .aload_n 0, 1), (109, .bipush 62, 2), (111, .invokevirtual 115, 3), (114, .ifCond .eq 26, 3), (117, .aload_n 0, 1), (118, .iload_n 1, 1), (119, .iconst 1, 1), (120, .iadd, 1), (121, .invokevirtual 112, 3), (124, .ifCond .eq 16, 3), (127, .aload_n 0, 1), (128, .bipush 41, 2), (130, .invokevirtual 115, 3), (133, .ifCond .eq 7, 3), (136, .iconst 1, 1), (137, .goto 4, 3), (140, .iconst 0, 1), (141, .ireturn, 1)]
theorem dtX12_readsLine_0 : kDec cX12_readsLine lX12_readsLine_0 = true := by decide +kernel
noncomputable def fX12_readsLine : Nat → Int32 → rW → Option (Int32 × rW)
  | 0, _, _ => none
  | dp + 1, x1, w =>
  if (60 : Int32) ≤ (rF w 12) then
  (fX12_sign w).bind fun v2 =>
  if v2 = (126 : Int32) then
  if x1 = (12 : Int32) then
  some ((0 : Int32), w)
  else
  if (rF w 12) = (60 : Int32) then
  some ((0 : Int32), w)
  else
  (rpF w 12 ((rF w 12) + (1 : Int32))).bind fun w3 =>
  if v2 = (126 : Int32) then
  kb2 (fX12_readsLine dp (x1 + (1 : Int32)) w3) fun v27 w25 =>
  (kBl v27).bind fun v28 =>
  some (v28, w25)
  else
  kb2 (fX12_readsLine dp (x1 + (1 : Int32)) w3) fun v6 w4 =>
  if v6 = 0 then
  some ((0 : Int32), w4)
  else
  kb2 (fX12_takes (118 : Int32) w4) fun v9 w7 =>
  if v9 = 0 then
  kb2 (fX12_takes (62 : Int32) w7) fun v18 w16 =>
  if v18 = 0 then
  some ((0 : Int32), w16)
  else
  kb2 (fX12_readsLine dp (x1 + (1 : Int32)) w16) fun v21 w19 =>
  if v21 = 0 then
  some ((0 : Int32), w19)
  else
  kb2 (fX12_takes (41 : Int32) w19) fun v24 w22 =>
  if v24 = 0 then
  some ((0 : Int32), w22)
  else
  some ((1 : Int32), w22)
  else
  kb2 (fX12_readsLine dp (x1 + (1 : Int32)) w7) fun v12 w10 =>
  if v12 = 0 then
  some ((0 : Int32), w10)
  else
  kb2 (fX12_takes (41 : Int32) w10) fun v15 w13 =>
  if v15 = 0 then
  some ((0 : Int32), w13)
  else
  some ((1 : Int32), w13)
  else
  if v2 = (40 : Int32) then
  if x1 = (12 : Int32) then
  some ((0 : Int32), w)
  else
  if (rF w 12) = (60 : Int32) then
  some ((0 : Int32), w)
  else
  (rpF w 12 ((rF w 12) + (1 : Int32))).bind fun w29 =>
  if v2 = (126 : Int32) then
  kb2 (fX12_readsLine dp (x1 + (1 : Int32)) w29) fun v53 w51 =>
  (kBl v53).bind fun v54 =>
  some (v54, w51)
  else
  kb2 (fX12_readsLine dp (x1 + (1 : Int32)) w29) fun v32 w30 =>
  if v32 = 0 then
  some ((0 : Int32), w30)
  else
  kb2 (fX12_takes (118 : Int32) w30) fun v35 w33 =>
  if v35 = 0 then
  kb2 (fX12_takes (62 : Int32) w33) fun v44 w42 =>
  if v44 = 0 then
  some ((0 : Int32), w42)
  else
  kb2 (fX12_readsLine dp (x1 + (1 : Int32)) w42) fun v47 w45 =>
  if v47 = 0 then
  some ((0 : Int32), w45)
  else
  kb2 (fX12_takes (41 : Int32) w45) fun v50 w48 =>
  if v50 = 0 then
  some ((0 : Int32), w48)
  else
  some ((1 : Int32), w48)
  else
  kb2 (fX12_readsLine dp (x1 + (1 : Int32)) w33) fun v38 w36 =>
  if v38 = 0 then
  some ((0 : Int32), w36)
  else
  kb2 (fX12_takes (41 : Int32) w36) fun v41 w39 =>
  if v41 = 0 then
  some ((0 : Int32), w39)
  else
  some ((1 : Int32), w39)
  else
  some ((0 : Int32), w)
  else
  (fX12_sign w).bind fun v56 =>
  (fX12_isLetter v56).bind fun v58 =>
  if v58 = 0 then
  (fX12_sign w).bind fun v60 =>
  if v60 = (126 : Int32) then
  if x1 = (12 : Int32) then
  some ((0 : Int32), w)
  else
  if (rF w 12) = (60 : Int32) then
  some ((0 : Int32), w)
  else
  (rpF w 12 ((rF w 12) + (1 : Int32))).bind fun w61 =>
  if v60 = (126 : Int32) then
  kb2 (fX12_readsLine dp (x1 + (1 : Int32)) w61) fun v85 w83 =>
  (kBl v85).bind fun v86 =>
  some (v86, w83)
  else
  kb2 (fX12_readsLine dp (x1 + (1 : Int32)) w61) fun v64 w62 =>
  if v64 = 0 then
  some ((0 : Int32), w62)
  else
  kb2 (fX12_takes (118 : Int32) w62) fun v67 w65 =>
  if v67 = 0 then
  kb2 (fX12_takes (62 : Int32) w65) fun v76 w74 =>
  if v76 = 0 then
  some ((0 : Int32), w74)
  else
  kb2 (fX12_readsLine dp (x1 + (1 : Int32)) w74) fun v79 w77 =>
  if v79 = 0 then
  some ((0 : Int32), w77)
  else
  kb2 (fX12_takes (41 : Int32) w77) fun v82 w80 =>
  if v82 = 0 then
  some ((0 : Int32), w80)
  else
  some ((1 : Int32), w80)
  else
  kb2 (fX12_readsLine dp (x1 + (1 : Int32)) w65) fun v70 w68 =>
  if v70 = 0 then
  some ((0 : Int32), w68)
  else
  kb2 (fX12_takes (41 : Int32) w68) fun v73 w71 =>
  if v73 = 0 then
  some ((0 : Int32), w71)
  else
  some ((1 : Int32), w71)
  else
  if v60 = (40 : Int32) then
  if x1 = (12 : Int32) then
  some ((0 : Int32), w)
  else
  if (rF w 12) = (60 : Int32) then
  some ((0 : Int32), w)
  else
  (rpF w 12 ((rF w 12) + (1 : Int32))).bind fun w87 =>
  if v60 = (126 : Int32) then
  kb2 (fX12_readsLine dp (x1 + (1 : Int32)) w87) fun v111 w109 =>
  (kBl v111).bind fun v112 =>
  some (v112, w109)
  else
  kb2 (fX12_readsLine dp (x1 + (1 : Int32)) w87) fun v90 w88 =>
  if v90 = 0 then
  some ((0 : Int32), w88)
  else
  kb2 (fX12_takes (118 : Int32) w88) fun v93 w91 =>
  if v93 = 0 then
  kb2 (fX12_takes (62 : Int32) w91) fun v102 w100 =>
  if v102 = 0 then
  some ((0 : Int32), w100)
  else
  kb2 (fX12_readsLine dp (x1 + (1 : Int32)) w100) fun v105 w103 =>
  if v105 = 0 then
  some ((0 : Int32), w103)
  else
  kb2 (fX12_takes (41 : Int32) w103) fun v108 w106 =>
  if v108 = 0 then
  some ((0 : Int32), w106)
  else
  some ((1 : Int32), w106)
  else
  kb2 (fX12_readsLine dp (x1 + (1 : Int32)) w91) fun v96 w94 =>
  if v96 = 0 then
  some ((0 : Int32), w94)
  else
  kb2 (fX12_takes (41 : Int32) w94) fun v99 w97 =>
  if v99 = 0 then
  some ((0 : Int32), w97)
  else
  some ((1 : Int32), w97)
  else
  some ((0 : Int32), w)
  else
  (rpF w 12 ((rF w 12) + (1 : Int32))).bind fun w113 =>
  some ((1 : Int32), w113)

set_option maxHeartbeats 4000000 in
set_option maxRecDepth 100000 in
theorem rX12_readsLine_dp (l : Launch) (D : va_G) (aC : Nat → ClassId) {h0 : Nat} {wB : kW} (hB : rOK h0 wB) : ∀ (dp : Nat) {x1 : Int32} {w : rW} {wR : rW} {oR : Int32}, fX12_readsLine dp x1 w = some (oR, wR) → kC l D aC yX12_readsLine cX12_readsLine 3 (some .boolean) (dp + 3) (dp * 22 + 53) [.ref h0, .int x1] (rWo h0 wB w) (some (.int oR)) (rWo h0 wB wR) 0 0 := by
  intro dp
  induction dp with
  | zero =>
    intro x1 w wR oR h
    rw [fX12_readsLine] at h
    cases h
  | succ dp IH =>
    intro x1 w wR oR h
    refine kOf (own := RX12) (by decide) rfl (Nat.le_of_ble_eq_true rfl) ?_
    intro p e s m below meth c ls F hml hr hlocks hnm hX hZ hl
    obtain ⟨hx, hb, hts, hown, hK⟩ := id F
    have hl : lv_has ls 3 [(0, .ref h0), (1, .int x1)] := hl
    have hf := h
    rw [fX12_readsLine] at hf
    refine lv_aload_n hx hb (kd dtX12_readsLine_0 0 rfl) rfl (lv_at hl 0 rfl) ?_
    refine rgetF (j := 12) hB F hX wfX12_99 (by decide) rfl (kd dtX12_readsLine_0 1 rfl) ?_
    refine lv_bipush (v := (60 : Int32)) hx hb (kd dtX12_readsLine_0 2 rfl) (by decide) ?_
    refine lv_icmp_ge (tgt := 31) hx hb (kd dtX12_readsLine_0 3 rfl) (by decide) (fun hc => ?_) (fun hc => ?_)
    · have hf := kif_pos hc hf
      refine lv_aload_n hx hb (kd dtX12_readsLine_0 16 rfl) rfl (lv_at hl 0 rfl) ?_
      obtain ⟨v2, h1, hf⟩ := kbind hf
      refine kcallV (n := 0) [] [] [.int v2] (rX12_sign l D aC hB h1) rfl hB.1 F hml hX hZ hl.1 mwX12_sign wmX12_108 rfl (by decide) (by decide +kernel) ⟨(by dsimp only; omega), (by dsimp only; omega)⟩ rfl rfl rfl (Nat.le_of_ble_eq_true rfl) (kd dtX12_readsLine_0 17 rfl) ⟨Nat.zero_le _, Nat.zero_le _⟩ (fun H locs hX => ?_)
      refine lv_istore_n (lv' := [(2, .int v2), (0, .ref h0), (1, .int x1)]) hx hb (kd dtX12_readsLine_0 18 rfl) rfl hl (by decide) rfl (fun ls hl => ?_)
      refine lv_iload_n hx hb (kd dtX12_readsLine_0 19 rfl) rfl (lv_at hl 0 rfl) ?_
      refine lv_bipush (v := (126 : Int32)) hx hb (kd dtX12_readsLine_0 20 rfl) (by decide) ?_
      refine lv_icmp_eq (tgt := 48) hx hb (kd dtX12_readsLine_0 21 rfl) (by decide) (fun hc => ?_) (fun hc => ?_)
      · have hf := kif_pos hc hf
        refine lv_iload_n hx hb (kd dtX12_readsLine_0 25 rfl) rfl (lv_at hl 2 rfl) ?_
        refine lv_bipush (v := (12 : Int32)) hx hb (kd dtX12_readsLine_0 26 rfl) (by decide) ?_
        refine lv_icmp_eq (tgt := 63) hx hb (kd dtX12_readsLine_0 27 rfl) (by decide) (fun hc => ?_) (fun hc => ?_)
        · have hf := kif_pos hc hf
          refine lv_iconst (v := (0 : Int32)) hx hb (kd dtX12_readsLine_0 32 rfl) (by decide) ?_
          obtain ⟨rfl, rfl⟩ := Prod.mk.inj (Option.some.inj hf)
          exact kzret F hX hr hlocks rfl rfl (kd dtX12_readsLine_0 33 rfl)
        · have hf := kif_neg hc hf
          refine lv_aload_n hx hb (kd dtX12_readsLine_0 28 rfl) rfl (lv_at hl 1 rfl) ?_
          refine rgetF (j := 12) hB F hX wfX12_99 (by decide) rfl (kd dtX12_readsLine_0 29 rfl) ?_
          refine lv_bipush (v := (60 : Int32)) hx hb (kd dtX12_readsLine_0 30 rfl) (by decide) ?_
          refine lv_icmp_ne (tgt := 65) hx hb (kd dtX12_readsLine_0 31 rfl) (by decide) (fun hc => ?_) (fun hc => ?_)
          · have hf := kif_neg hc hf
            refine lv_aload_n hx hb (kd dtX12_readsLine_0 34 rfl) rfl (lv_at hl 1 rfl) ?_
            refine lv_dup hx hb (kd dtX12_readsLine_0 35 rfl) rfl ?_
            refine rgetF (j := 12) hB F hX wfX12_99 (by decide) rfl (kd dtX12_readsLine_0 36 rfl) ?_
            refine lv_iconst (v := (1 : Int32)) hx hb (kd dtX12_readsLine_0 37 rfl) (by decide) ?_
            refine lv_iadd hx hb (kd dtX12_readsLine_0 38 rfl) ?_
            obtain ⟨w3, hw3, hf⟩ := kbind hf
            refine rputF hw3 hB F hX wfX12_99 (by decide) rfl rfl rfl rfl (kd dtX12_readsLine_0 39 rfl) (fun H locs hX => ?_)
            refine lv_iload_n hx hb (kd dtX12_readsLine_0 40 rfl) rfl (lv_at hl 0 rfl) ?_
            refine lv_bipush (v := (126 : Int32)) hx hb (kd dtX12_readsLine_0 41 rfl) (by decide) ?_
            refine lv_icmp_ne (tgt := 89) hx hb (kd dtX12_readsLine_0 42 rfl) (by decide) (fun hc => ?_) (fun hc => ?_)
            · have hf := kif_neg hc hf
              refine lv_aload_n hx hb (kd dtX12_readsLine_0 49 rfl) rfl (lv_at hl 1 rfl) ?_
              refine lv_iload_n hx hb (kd dtX12_readsLine_0 50 rfl) rfl (lv_at hl 2 rfl) ?_
              refine lv_iconst (v := (1 : Int32)) hx hb (kd dtX12_readsLine_0 51 rfl) (by decide) ?_
              refine lv_iadd hx hb (kd dtX12_readsLine_0 52 rfl) ?_
              obtain ⟨v6, w4, h5, hf⟩ := kbind2 hf
              refine kcallV (n := 1) [.int (x1 + (1 : Int32))] [] [.int v6] (IH h5) rfl hB.1 F hml hX hZ hl.1 mwX12_readsLine wmX12_112 rfl (by decide) (by decide +kernel) ⟨(by dsimp only; omega), (by dsimp only; omega)⟩ rfl rfl rfl (Nat.le_of_ble_eq_true rfl) (kd dtX12_readsLine_0 53 rfl) ⟨Nat.zero_le _, Nat.zero_le _⟩ (fun H locs hX => ?_)
              refine lv_if_eq (tgt := 140) hx hb (kd dtX12_readsLine_0 54 rfl) (by decide) (fun hc => ?_) (fun hc => ?_)
              · have hf := kif_pos hc hf
                refine lv_iconst (v := (0 : Int32)) hx hb (kd dtX12_readsLine_0 75 rfl) (by decide) ?_
                obtain ⟨rfl, rfl⟩ := Prod.mk.inj (Option.some.inj hf)
                exact kzret F hX hr hlocks rfl rfl (kd dtX12_readsLine_0 76 rfl)
              · have hf := kif_neg hc hf
                refine lv_aload_n hx hb (kd dtX12_readsLine_0 55 rfl) rfl (lv_at hl 1 rfl) ?_
                refine lv_bipush (v := (118 : Int32)) hx hb (kd dtX12_readsLine_0 56 rfl) (by decide) ?_
                obtain ⟨v9, w7, h8, hf⟩ := kbind2 hf
                refine kcallV (n := 1) [.int (118 : Int32)] [] [.int v9] (rX12_takes l D aC hB h8) rfl hB.1 F hml hX hZ hl.1 mwX12_takes wmX12_115 rfl (by decide) (by decide +kernel) ⟨(by dsimp only; omega), (by dsimp only; omega)⟩ rfl rfl rfl (Nat.le_of_ble_eq_true rfl) (kd dtX12_readsLine_0 57 rfl) ⟨Nat.zero_le _, Nat.zero_le _⟩ (fun H locs hX => ?_)
                refine lv_if_ne (tgt := 117) hx hb (kd dtX12_readsLine_0 58 rfl) (by decide) (fun hc => ?_) (fun hc => ?_)
                · have hf := kif_neg hc hf
                  refine lv_aload_n hx hb (kd dtX12_readsLine_0 63 rfl) rfl (lv_at hl 1 rfl) ?_
                  refine lv_iload_n hx hb (kd dtX12_readsLine_0 64 rfl) rfl (lv_at hl 2 rfl) ?_
                  refine lv_iconst (v := (1 : Int32)) hx hb (kd dtX12_readsLine_0 65 rfl) (by decide) ?_
                  refine lv_iadd hx hb (kd dtX12_readsLine_0 66 rfl) ?_
                  obtain ⟨v12, w10, h11, hf⟩ := kbind2 hf
                  refine kcallV (n := 1) [.int (x1 + (1 : Int32))] [] [.int v12] (IH h11) rfl hB.1 F hml hX hZ hl.1 mwX12_readsLine wmX12_112 rfl (by decide) (by decide +kernel) ⟨(by dsimp only; omega), (by dsimp only; omega)⟩ rfl rfl rfl (Nat.le_of_ble_eq_true rfl) (kd dtX12_readsLine_0 67 rfl) ⟨Nat.zero_le _, Nat.zero_le _⟩ (fun H locs hX => ?_)
                  refine lv_if_eq (tgt := 140) hx hb (kd dtX12_readsLine_0 68 rfl) (by decide) (fun hc => ?_) (fun hc => ?_)
                  · have hf := kif_pos hc hf
                    refine lv_iconst (v := (0 : Int32)) hx hb (kd dtX12_readsLine_0 75 rfl) (by decide) ?_
                    obtain ⟨rfl, rfl⟩ := Prod.mk.inj (Option.some.inj hf)
                    exact kzret F hX hr hlocks rfl rfl (kd dtX12_readsLine_0 76 rfl)
                  · have hf := kif_neg hc hf
                    refine lv_aload_n hx hb (kd dtX12_readsLine_0 69 rfl) rfl (lv_at hl 1 rfl) ?_
                    refine lv_bipush (v := (41 : Int32)) hx hb (kd dtX12_readsLine_0 70 rfl) (by decide) ?_
                    obtain ⟨v15, w13, h14, hf⟩ := kbind2 hf
                    refine kcallV (n := 1) [.int (41 : Int32)] [] [.int v15] (rX12_takes l D aC hB h14) rfl hB.1 F hml hX hZ hl.1 mwX12_takes wmX12_115 rfl (by decide) (by decide +kernel) ⟨(by dsimp only; omega), (by dsimp only; omega)⟩ rfl rfl rfl (Nat.le_of_ble_eq_true rfl) (kd dtX12_readsLine_0 71 rfl) ⟨Nat.zero_le _, Nat.zero_le _⟩ (fun H locs hX => ?_)
                    refine lv_if_eq (tgt := 140) hx hb (kd dtX12_readsLine_0 72 rfl) (by decide) (fun hc => ?_) (fun hc => ?_)
                    · have hf := kif_pos hc hf
                      refine lv_iconst (v := (0 : Int32)) hx hb (kd dtX12_readsLine_0 75 rfl) (by decide) ?_
                      obtain ⟨rfl, rfl⟩ := Prod.mk.inj (Option.some.inj hf)
                      exact kzret F hX hr hlocks rfl rfl (kd dtX12_readsLine_0 76 rfl)
                    · have hf := kif_neg hc hf
                      refine lv_iconst (v := (1 : Int32)) hx hb (kd dtX12_readsLine_0 73 rfl) (by decide) ?_
                      refine lv_goto (tgt := 141) hx hb (kd dtX12_readsLine_0 74 rfl) (by decide) ?_
                      obtain ⟨rfl, rfl⟩ := Prod.mk.inj (Option.some.inj hf)
                      exact kzret F hX hr hlocks rfl rfl (kd dtX12_readsLine_0 76 rfl)
                · have hf := kif_pos hc hf
                  refine lv_aload_n hx hb (kd dtX12_readsLine_0 59 rfl) rfl (lv_at hl 1 rfl) ?_
                  refine lv_bipush (v := (62 : Int32)) hx hb (kd dtX12_readsLine_0 60 rfl) (by decide) ?_
                  obtain ⟨v18, w16, h17, hf⟩ := kbind2 hf
                  refine kcallV (n := 1) [.int (62 : Int32)] [] [.int v18] (rX12_takes l D aC hB h17) rfl hB.1 F hml hX hZ hl.1 mwX12_takes wmX12_115 rfl (by decide) (by decide +kernel) ⟨(by dsimp only; omega), (by dsimp only; omega)⟩ rfl rfl rfl (Nat.le_of_ble_eq_true rfl) (kd dtX12_readsLine_0 61 rfl) ⟨Nat.zero_le _, Nat.zero_le _⟩ (fun H locs hX => ?_)
                  refine lv_if_eq (tgt := 140) hx hb (kd dtX12_readsLine_0 62 rfl) (by decide) (fun hc => ?_) (fun hc => ?_)
                  · have hf := kif_pos hc hf
                    refine lv_iconst (v := (0 : Int32)) hx hb (kd dtX12_readsLine_0 75 rfl) (by decide) ?_
                    obtain ⟨rfl, rfl⟩ := Prod.mk.inj (Option.some.inj hf)
                    exact kzret F hX hr hlocks rfl rfl (kd dtX12_readsLine_0 76 rfl)
                  · have hf := kif_neg hc hf
                    refine lv_aload_n hx hb (kd dtX12_readsLine_0 63 rfl) rfl (lv_at hl 1 rfl) ?_
                    refine lv_iload_n hx hb (kd dtX12_readsLine_0 64 rfl) rfl (lv_at hl 2 rfl) ?_
                    refine lv_iconst (v := (1 : Int32)) hx hb (kd dtX12_readsLine_0 65 rfl) (by decide) ?_
                    refine lv_iadd hx hb (kd dtX12_readsLine_0 66 rfl) ?_
                    obtain ⟨v21, w19, h20, hf⟩ := kbind2 hf
                    refine kcallV (n := 1) [.int (x1 + (1 : Int32))] [] [.int v21] (IH h20) rfl hB.1 F hml hX hZ hl.1 mwX12_readsLine wmX12_112 rfl (by decide) (by decide +kernel) ⟨(by dsimp only; omega), (by dsimp only; omega)⟩ rfl rfl rfl (Nat.le_of_ble_eq_true rfl) (kd dtX12_readsLine_0 67 rfl) ⟨Nat.zero_le _, Nat.zero_le _⟩ (fun H locs hX => ?_)
                    refine lv_if_eq (tgt := 140) hx hb (kd dtX12_readsLine_0 68 rfl) (by decide) (fun hc => ?_) (fun hc => ?_)
                    · have hf := kif_pos hc hf
                      refine lv_iconst (v := (0 : Int32)) hx hb (kd dtX12_readsLine_0 75 rfl) (by decide) ?_
                      obtain ⟨rfl, rfl⟩ := Prod.mk.inj (Option.some.inj hf)
                      exact kzret F hX hr hlocks rfl rfl (kd dtX12_readsLine_0 76 rfl)
                    · have hf := kif_neg hc hf
                      refine lv_aload_n hx hb (kd dtX12_readsLine_0 69 rfl) rfl (lv_at hl 1 rfl) ?_
                      refine lv_bipush (v := (41 : Int32)) hx hb (kd dtX12_readsLine_0 70 rfl) (by decide) ?_
                      obtain ⟨v24, w22, h23, hf⟩ := kbind2 hf
                      refine kcallV (n := 1) [.int (41 : Int32)] [] [.int v24] (rX12_takes l D aC hB h23) rfl hB.1 F hml hX hZ hl.1 mwX12_takes wmX12_115 rfl (by decide) (by decide +kernel) ⟨(by dsimp only; omega), (by dsimp only; omega)⟩ rfl rfl rfl (Nat.le_of_ble_eq_true rfl) (kd dtX12_readsLine_0 71 rfl) ⟨Nat.zero_le _, Nat.zero_le _⟩ (fun H locs hX => ?_)
                      refine lv_if_eq (tgt := 140) hx hb (kd dtX12_readsLine_0 72 rfl) (by decide) (fun hc => ?_) (fun hc => ?_)
                      · have hf := kif_pos hc hf
                        refine lv_iconst (v := (0 : Int32)) hx hb (kd dtX12_readsLine_0 75 rfl) (by decide) ?_
                        obtain ⟨rfl, rfl⟩ := Prod.mk.inj (Option.some.inj hf)
                        exact kzret F hX hr hlocks rfl rfl (kd dtX12_readsLine_0 76 rfl)
                      · have hf := kif_neg hc hf
                        refine lv_iconst (v := (1 : Int32)) hx hb (kd dtX12_readsLine_0 73 rfl) (by decide) ?_
                        refine lv_goto (tgt := 141) hx hb (kd dtX12_readsLine_0 74 rfl) (by decide) ?_
                        obtain ⟨rfl, rfl⟩ := Prod.mk.inj (Option.some.inj hf)
                        exact kzret F hX hr hlocks rfl rfl (kd dtX12_readsLine_0 76 rfl)
            · have hf := kif_pos hc hf
              refine lv_aload_n hx hb (kd dtX12_readsLine_0 43 rfl) rfl (lv_at hl 1 rfl) ?_
              refine lv_iload_n hx hb (kd dtX12_readsLine_0 44 rfl) rfl (lv_at hl 2 rfl) ?_
              refine lv_iconst (v := (1 : Int32)) hx hb (kd dtX12_readsLine_0 45 rfl) (by decide) ?_
              refine lv_iadd hx hb (kd dtX12_readsLine_0 46 rfl) ?_
              obtain ⟨v27, w25, h26, hf⟩ := kbind2 hf
              refine kcallV (n := 1) [.int (x1 + (1 : Int32))] [] [.int v27] (IH h26) rfl hB.1 F hml hX hZ hl.1 mwX12_readsLine wmX12_112 rfl (by decide) (by decide +kernel) ⟨(by dsimp only; omega), (by dsimp only; omega)⟩ rfl rfl rfl (Nat.le_of_ble_eq_true rfl) (kd dtX12_readsLine_0 47 rfl) ⟨Nat.zero_le _, Nat.zero_le _⟩ (fun H locs hX => ?_)
              obtain ⟨v28, hv28, hf⟩ := kbind hf
              obtain rfl := kBl_e hv28
              obtain ⟨rfl, rfl⟩ := Prod.mk.inj (Option.some.inj hf)
              exact kzret F hX hr hlocks hv28 rfl (kd dtX12_readsLine_0 48 rfl)
          · have hf := kif_pos hc hf
            refine lv_iconst (v := (0 : Int32)) hx hb (kd dtX12_readsLine_0 32 rfl) (by decide) ?_
            obtain ⟨rfl, rfl⟩ := Prod.mk.inj (Option.some.inj hf)
            exact kzret F hX hr hlocks rfl rfl (kd dtX12_readsLine_0 33 rfl)
      · have hf := kif_neg hc hf
        refine lv_iload_n hx hb (kd dtX12_readsLine_0 22 rfl) rfl (lv_at hl 0 rfl) ?_
        refine lv_bipush (v := (40 : Int32)) hx hb (kd dtX12_readsLine_0 23 rfl) (by decide) ?_
        refine lv_icmp_ne (tgt := 63) hx hb (kd dtX12_readsLine_0 24 rfl) (by decide) (fun hc => ?_) (fun hc => ?_)
        · have hf := kif_neg hc hf
          refine lv_iconst (v := (0 : Int32)) hx hb (kd dtX12_readsLine_0 32 rfl) (by decide) ?_
          obtain ⟨rfl, rfl⟩ := Prod.mk.inj (Option.some.inj hf)
          exact kzret F hX hr hlocks rfl rfl (kd dtX12_readsLine_0 33 rfl)
        · have hf := kif_pos hc hf
          refine lv_iload_n hx hb (kd dtX12_readsLine_0 25 rfl) rfl (lv_at hl 2 rfl) ?_
          refine lv_bipush (v := (12 : Int32)) hx hb (kd dtX12_readsLine_0 26 rfl) (by decide) ?_
          refine lv_icmp_eq (tgt := 63) hx hb (kd dtX12_readsLine_0 27 rfl) (by decide) (fun hc => ?_) (fun hc => ?_)
          · have hf := kif_pos hc hf
            refine lv_iconst (v := (0 : Int32)) hx hb (kd dtX12_readsLine_0 32 rfl) (by decide) ?_
            obtain ⟨rfl, rfl⟩ := Prod.mk.inj (Option.some.inj hf)
            exact kzret F hX hr hlocks rfl rfl (kd dtX12_readsLine_0 33 rfl)
          · have hf := kif_neg hc hf
            refine lv_aload_n hx hb (kd dtX12_readsLine_0 28 rfl) rfl (lv_at hl 1 rfl) ?_
            refine rgetF (j := 12) hB F hX wfX12_99 (by decide) rfl (kd dtX12_readsLine_0 29 rfl) ?_
            refine lv_bipush (v := (60 : Int32)) hx hb (kd dtX12_readsLine_0 30 rfl) (by decide) ?_
            refine lv_icmp_ne (tgt := 65) hx hb (kd dtX12_readsLine_0 31 rfl) (by decide) (fun hc => ?_) (fun hc => ?_)
            · have hf := kif_neg hc hf
              refine lv_aload_n hx hb (kd dtX12_readsLine_0 34 rfl) rfl (lv_at hl 1 rfl) ?_
              refine lv_dup hx hb (kd dtX12_readsLine_0 35 rfl) rfl ?_
              refine rgetF (j := 12) hB F hX wfX12_99 (by decide) rfl (kd dtX12_readsLine_0 36 rfl) ?_
              refine lv_iconst (v := (1 : Int32)) hx hb (kd dtX12_readsLine_0 37 rfl) (by decide) ?_
              refine lv_iadd hx hb (kd dtX12_readsLine_0 38 rfl) ?_
              obtain ⟨w29, hw29, hf⟩ := kbind hf
              refine rputF hw29 hB F hX wfX12_99 (by decide) rfl rfl rfl rfl (kd dtX12_readsLine_0 39 rfl) (fun H locs hX => ?_)
              refine lv_iload_n hx hb (kd dtX12_readsLine_0 40 rfl) rfl (lv_at hl 0 rfl) ?_
              refine lv_bipush (v := (126 : Int32)) hx hb (kd dtX12_readsLine_0 41 rfl) (by decide) ?_
              refine lv_icmp_ne (tgt := 89) hx hb (kd dtX12_readsLine_0 42 rfl) (by decide) (fun hc => ?_) (fun hc => ?_)
              · have hf := kif_neg hc hf
                refine lv_aload_n hx hb (kd dtX12_readsLine_0 49 rfl) rfl (lv_at hl 1 rfl) ?_
                refine lv_iload_n hx hb (kd dtX12_readsLine_0 50 rfl) rfl (lv_at hl 2 rfl) ?_
                refine lv_iconst (v := (1 : Int32)) hx hb (kd dtX12_readsLine_0 51 rfl) (by decide) ?_
                refine lv_iadd hx hb (kd dtX12_readsLine_0 52 rfl) ?_
                obtain ⟨v32, w30, h31, hf⟩ := kbind2 hf
                refine kcallV (n := 1) [.int (x1 + (1 : Int32))] [] [.int v32] (IH h31) rfl hB.1 F hml hX hZ hl.1 mwX12_readsLine wmX12_112 rfl (by decide) (by decide +kernel) ⟨(by dsimp only; omega), (by dsimp only; omega)⟩ rfl rfl rfl (Nat.le_of_ble_eq_true rfl) (kd dtX12_readsLine_0 53 rfl) ⟨Nat.zero_le _, Nat.zero_le _⟩ (fun H locs hX => ?_)
                refine lv_if_eq (tgt := 140) hx hb (kd dtX12_readsLine_0 54 rfl) (by decide) (fun hc => ?_) (fun hc => ?_)
                · have hf := kif_pos hc hf
                  refine lv_iconst (v := (0 : Int32)) hx hb (kd dtX12_readsLine_0 75 rfl) (by decide) ?_
                  obtain ⟨rfl, rfl⟩ := Prod.mk.inj (Option.some.inj hf)
                  exact kzret F hX hr hlocks rfl rfl (kd dtX12_readsLine_0 76 rfl)
                · have hf := kif_neg hc hf
                  refine lv_aload_n hx hb (kd dtX12_readsLine_0 55 rfl) rfl (lv_at hl 1 rfl) ?_
                  refine lv_bipush (v := (118 : Int32)) hx hb (kd dtX12_readsLine_0 56 rfl) (by decide) ?_
                  obtain ⟨v35, w33, h34, hf⟩ := kbind2 hf
                  refine kcallV (n := 1) [.int (118 : Int32)] [] [.int v35] (rX12_takes l D aC hB h34) rfl hB.1 F hml hX hZ hl.1 mwX12_takes wmX12_115 rfl (by decide) (by decide +kernel) ⟨(by dsimp only; omega), (by dsimp only; omega)⟩ rfl rfl rfl (Nat.le_of_ble_eq_true rfl) (kd dtX12_readsLine_0 57 rfl) ⟨Nat.zero_le _, Nat.zero_le _⟩ (fun H locs hX => ?_)
                  refine lv_if_ne (tgt := 117) hx hb (kd dtX12_readsLine_0 58 rfl) (by decide) (fun hc => ?_) (fun hc => ?_)
                  · have hf := kif_neg hc hf
                    refine lv_aload_n hx hb (kd dtX12_readsLine_0 63 rfl) rfl (lv_at hl 1 rfl) ?_
                    refine lv_iload_n hx hb (kd dtX12_readsLine_0 64 rfl) rfl (lv_at hl 2 rfl) ?_
                    refine lv_iconst (v := (1 : Int32)) hx hb (kd dtX12_readsLine_0 65 rfl) (by decide) ?_
                    refine lv_iadd hx hb (kd dtX12_readsLine_0 66 rfl) ?_
                    obtain ⟨v38, w36, h37, hf⟩ := kbind2 hf
                    refine kcallV (n := 1) [.int (x1 + (1 : Int32))] [] [.int v38] (IH h37) rfl hB.1 F hml hX hZ hl.1 mwX12_readsLine wmX12_112 rfl (by decide) (by decide +kernel) ⟨(by dsimp only; omega), (by dsimp only; omega)⟩ rfl rfl rfl (Nat.le_of_ble_eq_true rfl) (kd dtX12_readsLine_0 67 rfl) ⟨Nat.zero_le _, Nat.zero_le _⟩ (fun H locs hX => ?_)
                    refine lv_if_eq (tgt := 140) hx hb (kd dtX12_readsLine_0 68 rfl) (by decide) (fun hc => ?_) (fun hc => ?_)
                    · have hf := kif_pos hc hf
                      refine lv_iconst (v := (0 : Int32)) hx hb (kd dtX12_readsLine_0 75 rfl) (by decide) ?_
                      obtain ⟨rfl, rfl⟩ := Prod.mk.inj (Option.some.inj hf)
                      exact kzret F hX hr hlocks rfl rfl (kd dtX12_readsLine_0 76 rfl)
                    · have hf := kif_neg hc hf
                      refine lv_aload_n hx hb (kd dtX12_readsLine_0 69 rfl) rfl (lv_at hl 1 rfl) ?_
                      refine lv_bipush (v := (41 : Int32)) hx hb (kd dtX12_readsLine_0 70 rfl) (by decide) ?_
                      obtain ⟨v41, w39, h40, hf⟩ := kbind2 hf
                      refine kcallV (n := 1) [.int (41 : Int32)] [] [.int v41] (rX12_takes l D aC hB h40) rfl hB.1 F hml hX hZ hl.1 mwX12_takes wmX12_115 rfl (by decide) (by decide +kernel) ⟨(by dsimp only; omega), (by dsimp only; omega)⟩ rfl rfl rfl (Nat.le_of_ble_eq_true rfl) (kd dtX12_readsLine_0 71 rfl) ⟨Nat.zero_le _, Nat.zero_le _⟩ (fun H locs hX => ?_)
                      refine lv_if_eq (tgt := 140) hx hb (kd dtX12_readsLine_0 72 rfl) (by decide) (fun hc => ?_) (fun hc => ?_)
                      · have hf := kif_pos hc hf
                        refine lv_iconst (v := (0 : Int32)) hx hb (kd dtX12_readsLine_0 75 rfl) (by decide) ?_
                        obtain ⟨rfl, rfl⟩ := Prod.mk.inj (Option.some.inj hf)
                        exact kzret F hX hr hlocks rfl rfl (kd dtX12_readsLine_0 76 rfl)
                      · have hf := kif_neg hc hf
                        refine lv_iconst (v := (1 : Int32)) hx hb (kd dtX12_readsLine_0 73 rfl) (by decide) ?_
                        refine lv_goto (tgt := 141) hx hb (kd dtX12_readsLine_0 74 rfl) (by decide) ?_
                        obtain ⟨rfl, rfl⟩ := Prod.mk.inj (Option.some.inj hf)
                        exact kzret F hX hr hlocks rfl rfl (kd dtX12_readsLine_0 76 rfl)
                  · have hf := kif_pos hc hf
                    refine lv_aload_n hx hb (kd dtX12_readsLine_0 59 rfl) rfl (lv_at hl 1 rfl) ?_
                    refine lv_bipush (v := (62 : Int32)) hx hb (kd dtX12_readsLine_0 60 rfl) (by decide) ?_
                    obtain ⟨v44, w42, h43, hf⟩ := kbind2 hf
                    refine kcallV (n := 1) [.int (62 : Int32)] [] [.int v44] (rX12_takes l D aC hB h43) rfl hB.1 F hml hX hZ hl.1 mwX12_takes wmX12_115 rfl (by decide) (by decide +kernel) ⟨(by dsimp only; omega), (by dsimp only; omega)⟩ rfl rfl rfl (Nat.le_of_ble_eq_true rfl) (kd dtX12_readsLine_0 61 rfl) ⟨Nat.zero_le _, Nat.zero_le _⟩ (fun H locs hX => ?_)
                    refine lv_if_eq (tgt := 140) hx hb (kd dtX12_readsLine_0 62 rfl) (by decide) (fun hc => ?_) (fun hc => ?_)
                    · have hf := kif_pos hc hf
                      refine lv_iconst (v := (0 : Int32)) hx hb (kd dtX12_readsLine_0 75 rfl) (by decide) ?_
                      obtain ⟨rfl, rfl⟩ := Prod.mk.inj (Option.some.inj hf)
                      exact kzret F hX hr hlocks rfl rfl (kd dtX12_readsLine_0 76 rfl)
                    · have hf := kif_neg hc hf
                      refine lv_aload_n hx hb (kd dtX12_readsLine_0 63 rfl) rfl (lv_at hl 1 rfl) ?_
                      refine lv_iload_n hx hb (kd dtX12_readsLine_0 64 rfl) rfl (lv_at hl 2 rfl) ?_
                      refine lv_iconst (v := (1 : Int32)) hx hb (kd dtX12_readsLine_0 65 rfl) (by decide) ?_
                      refine lv_iadd hx hb (kd dtX12_readsLine_0 66 rfl) ?_
                      obtain ⟨v47, w45, h46, hf⟩ := kbind2 hf
                      refine kcallV (n := 1) [.int (x1 + (1 : Int32))] [] [.int v47] (IH h46) rfl hB.1 F hml hX hZ hl.1 mwX12_readsLine wmX12_112 rfl (by decide) (by decide +kernel) ⟨(by dsimp only; omega), (by dsimp only; omega)⟩ rfl rfl rfl (Nat.le_of_ble_eq_true rfl) (kd dtX12_readsLine_0 67 rfl) ⟨Nat.zero_le _, Nat.zero_le _⟩ (fun H locs hX => ?_)
                      refine lv_if_eq (tgt := 140) hx hb (kd dtX12_readsLine_0 68 rfl) (by decide) (fun hc => ?_) (fun hc => ?_)
                      · have hf := kif_pos hc hf
                        refine lv_iconst (v := (0 : Int32)) hx hb (kd dtX12_readsLine_0 75 rfl) (by decide) ?_
                        obtain ⟨rfl, rfl⟩ := Prod.mk.inj (Option.some.inj hf)
                        exact kzret F hX hr hlocks rfl rfl (kd dtX12_readsLine_0 76 rfl)
                      · have hf := kif_neg hc hf
                        refine lv_aload_n hx hb (kd dtX12_readsLine_0 69 rfl) rfl (lv_at hl 1 rfl) ?_
                        refine lv_bipush (v := (41 : Int32)) hx hb (kd dtX12_readsLine_0 70 rfl) (by decide) ?_
                        obtain ⟨v50, w48, h49, hf⟩ := kbind2 hf
                        refine kcallV (n := 1) [.int (41 : Int32)] [] [.int v50] (rX12_takes l D aC hB h49) rfl hB.1 F hml hX hZ hl.1 mwX12_takes wmX12_115 rfl (by decide) (by decide +kernel) ⟨(by dsimp only; omega), (by dsimp only; omega)⟩ rfl rfl rfl (Nat.le_of_ble_eq_true rfl) (kd dtX12_readsLine_0 71 rfl) ⟨Nat.zero_le _, Nat.zero_le _⟩ (fun H locs hX => ?_)
                        refine lv_if_eq (tgt := 140) hx hb (kd dtX12_readsLine_0 72 rfl) (by decide) (fun hc => ?_) (fun hc => ?_)
                        · have hf := kif_pos hc hf
                          refine lv_iconst (v := (0 : Int32)) hx hb (kd dtX12_readsLine_0 75 rfl) (by decide) ?_
                          obtain ⟨rfl, rfl⟩ := Prod.mk.inj (Option.some.inj hf)
                          exact kzret F hX hr hlocks rfl rfl (kd dtX12_readsLine_0 76 rfl)
                        · have hf := kif_neg hc hf
                          refine lv_iconst (v := (1 : Int32)) hx hb (kd dtX12_readsLine_0 73 rfl) (by decide) ?_
                          refine lv_goto (tgt := 141) hx hb (kd dtX12_readsLine_0 74 rfl) (by decide) ?_
                          obtain ⟨rfl, rfl⟩ := Prod.mk.inj (Option.some.inj hf)
                          exact kzret F hX hr hlocks rfl rfl (kd dtX12_readsLine_0 76 rfl)
              · have hf := kif_pos hc hf
                refine lv_aload_n hx hb (kd dtX12_readsLine_0 43 rfl) rfl (lv_at hl 1 rfl) ?_
                refine lv_iload_n hx hb (kd dtX12_readsLine_0 44 rfl) rfl (lv_at hl 2 rfl) ?_
                refine lv_iconst (v := (1 : Int32)) hx hb (kd dtX12_readsLine_0 45 rfl) (by decide) ?_
                refine lv_iadd hx hb (kd dtX12_readsLine_0 46 rfl) ?_
                obtain ⟨v53, w51, h52, hf⟩ := kbind2 hf
                refine kcallV (n := 1) [.int (x1 + (1 : Int32))] [] [.int v53] (IH h52) rfl hB.1 F hml hX hZ hl.1 mwX12_readsLine wmX12_112 rfl (by decide) (by decide +kernel) ⟨(by dsimp only; omega), (by dsimp only; omega)⟩ rfl rfl rfl (Nat.le_of_ble_eq_true rfl) (kd dtX12_readsLine_0 47 rfl) ⟨Nat.zero_le _, Nat.zero_le _⟩ (fun H locs hX => ?_)
                obtain ⟨v54, hv54, hf⟩ := kbind hf
                obtain rfl := kBl_e hv54
                obtain ⟨rfl, rfl⟩ := Prod.mk.inj (Option.some.inj hf)
                exact kzret F hX hr hlocks hv54 rfl (kd dtX12_readsLine_0 48 rfl)
            · have hf := kif_pos hc hf
              refine lv_iconst (v := (0 : Int32)) hx hb (kd dtX12_readsLine_0 32 rfl) (by decide) ?_
              obtain ⟨rfl, rfl⟩ := Prod.mk.inj (Option.some.inj hf)
              exact kzret F hX hr hlocks rfl rfl (kd dtX12_readsLine_0 33 rfl)
    · have hf := kif_neg hc hf
      refine lv_aload_n hx hb (kd dtX12_readsLine_0 4 rfl) rfl (lv_at hl 0 rfl) ?_
      obtain ⟨v56, h55, hf⟩ := kbind hf
      refine kcallV (n := 0) [] [] [.int v56] (rX12_sign l D aC hB h55) rfl hB.1 F hml hX hZ hl.1 mwX12_sign wmX12_108 rfl (by decide) (by decide +kernel) ⟨(by dsimp only; omega), (by dsimp only; omega)⟩ rfl rfl rfl (Nat.le_of_ble_eq_true rfl) (kd dtX12_readsLine_0 5 rfl) ⟨Nat.zero_le _, Nat.zero_le _⟩ (fun H locs hX => ?_)
      obtain ⟨v58, h57, hf⟩ := kbind hf
      refine kcallS (n := 1) [.int v56] [] [.int v58] (rX12_isLetter l D aC (rWo h0 wB w) h57) F hml hX hZ hl.1 mwX12_isLetter wmX12_71 (by decide +kernel) ⟨(by dsimp only; omega), (by dsimp only; omega)⟩ rfl rfl rfl (Nat.le_of_ble_eq_true rfl) (kd dtX12_readsLine_0 6 rfl) ⟨Nat.zero_le _, Nat.zero_le _⟩ (fun H locs hX => ?_)
      refine lv_if_eq (tgt := 31) hx hb (kd dtX12_readsLine_0 7 rfl) (by decide) (fun hc => ?_) (fun hc => ?_)
      · have hf := kif_pos hc hf
        refine lv_aload_n hx hb (kd dtX12_readsLine_0 16 rfl) rfl (lv_at hl 0 rfl) ?_
        obtain ⟨v60, h59, hf⟩ := kbind hf
        refine kcallV (n := 0) [] [] [.int v60] (rX12_sign l D aC hB h59) rfl hB.1 F hml hX hZ hl.1 mwX12_sign wmX12_108 rfl (by decide) (by decide +kernel) ⟨(by dsimp only; omega), (by dsimp only; omega)⟩ rfl rfl rfl (Nat.le_of_ble_eq_true rfl) (kd dtX12_readsLine_0 17 rfl) ⟨Nat.zero_le _, Nat.zero_le _⟩ (fun H locs hX => ?_)
        refine lv_istore_n (lv' := [(2, .int v60), (0, .ref h0), (1, .int x1)]) hx hb (kd dtX12_readsLine_0 18 rfl) rfl hl (by decide) rfl (fun ls hl => ?_)
        refine lv_iload_n hx hb (kd dtX12_readsLine_0 19 rfl) rfl (lv_at hl 0 rfl) ?_
        refine lv_bipush (v := (126 : Int32)) hx hb (kd dtX12_readsLine_0 20 rfl) (by decide) ?_
        refine lv_icmp_eq (tgt := 48) hx hb (kd dtX12_readsLine_0 21 rfl) (by decide) (fun hc => ?_) (fun hc => ?_)
        · have hf := kif_pos hc hf
          refine lv_iload_n hx hb (kd dtX12_readsLine_0 25 rfl) rfl (lv_at hl 2 rfl) ?_
          refine lv_bipush (v := (12 : Int32)) hx hb (kd dtX12_readsLine_0 26 rfl) (by decide) ?_
          refine lv_icmp_eq (tgt := 63) hx hb (kd dtX12_readsLine_0 27 rfl) (by decide) (fun hc => ?_) (fun hc => ?_)
          · have hf := kif_pos hc hf
            refine lv_iconst (v := (0 : Int32)) hx hb (kd dtX12_readsLine_0 32 rfl) (by decide) ?_
            obtain ⟨rfl, rfl⟩ := Prod.mk.inj (Option.some.inj hf)
            exact kzret F hX hr hlocks rfl rfl (kd dtX12_readsLine_0 33 rfl)
          · have hf := kif_neg hc hf
            refine lv_aload_n hx hb (kd dtX12_readsLine_0 28 rfl) rfl (lv_at hl 1 rfl) ?_
            refine rgetF (j := 12) hB F hX wfX12_99 (by decide) rfl (kd dtX12_readsLine_0 29 rfl) ?_
            refine lv_bipush (v := (60 : Int32)) hx hb (kd dtX12_readsLine_0 30 rfl) (by decide) ?_
            refine lv_icmp_ne (tgt := 65) hx hb (kd dtX12_readsLine_0 31 rfl) (by decide) (fun hc => ?_) (fun hc => ?_)
            · have hf := kif_neg hc hf
              refine lv_aload_n hx hb (kd dtX12_readsLine_0 34 rfl) rfl (lv_at hl 1 rfl) ?_
              refine lv_dup hx hb (kd dtX12_readsLine_0 35 rfl) rfl ?_
              refine rgetF (j := 12) hB F hX wfX12_99 (by decide) rfl (kd dtX12_readsLine_0 36 rfl) ?_
              refine lv_iconst (v := (1 : Int32)) hx hb (kd dtX12_readsLine_0 37 rfl) (by decide) ?_
              refine lv_iadd hx hb (kd dtX12_readsLine_0 38 rfl) ?_
              obtain ⟨w61, hw61, hf⟩ := kbind hf
              refine rputF hw61 hB F hX wfX12_99 (by decide) rfl rfl rfl rfl (kd dtX12_readsLine_0 39 rfl) (fun H locs hX => ?_)
              refine lv_iload_n hx hb (kd dtX12_readsLine_0 40 rfl) rfl (lv_at hl 0 rfl) ?_
              refine lv_bipush (v := (126 : Int32)) hx hb (kd dtX12_readsLine_0 41 rfl) (by decide) ?_
              refine lv_icmp_ne (tgt := 89) hx hb (kd dtX12_readsLine_0 42 rfl) (by decide) (fun hc => ?_) (fun hc => ?_)
              · have hf := kif_neg hc hf
                refine lv_aload_n hx hb (kd dtX12_readsLine_0 49 rfl) rfl (lv_at hl 1 rfl) ?_
                refine lv_iload_n hx hb (kd dtX12_readsLine_0 50 rfl) rfl (lv_at hl 2 rfl) ?_
                refine lv_iconst (v := (1 : Int32)) hx hb (kd dtX12_readsLine_0 51 rfl) (by decide) ?_
                refine lv_iadd hx hb (kd dtX12_readsLine_0 52 rfl) ?_
                obtain ⟨v64, w62, h63, hf⟩ := kbind2 hf
                refine kcallV (n := 1) [.int (x1 + (1 : Int32))] [] [.int v64] (IH h63) rfl hB.1 F hml hX hZ hl.1 mwX12_readsLine wmX12_112 rfl (by decide) (by decide +kernel) ⟨(by dsimp only; omega), (by dsimp only; omega)⟩ rfl rfl rfl (Nat.le_of_ble_eq_true rfl) (kd dtX12_readsLine_0 53 rfl) ⟨Nat.zero_le _, Nat.zero_le _⟩ (fun H locs hX => ?_)
                refine lv_if_eq (tgt := 140) hx hb (kd dtX12_readsLine_0 54 rfl) (by decide) (fun hc => ?_) (fun hc => ?_)
                · have hf := kif_pos hc hf
                  refine lv_iconst (v := (0 : Int32)) hx hb (kd dtX12_readsLine_0 75 rfl) (by decide) ?_
                  obtain ⟨rfl, rfl⟩ := Prod.mk.inj (Option.some.inj hf)
                  exact kzret F hX hr hlocks rfl rfl (kd dtX12_readsLine_0 76 rfl)
                · have hf := kif_neg hc hf
                  refine lv_aload_n hx hb (kd dtX12_readsLine_0 55 rfl) rfl (lv_at hl 1 rfl) ?_
                  refine lv_bipush (v := (118 : Int32)) hx hb (kd dtX12_readsLine_0 56 rfl) (by decide) ?_
                  obtain ⟨v67, w65, h66, hf⟩ := kbind2 hf
                  refine kcallV (n := 1) [.int (118 : Int32)] [] [.int v67] (rX12_takes l D aC hB h66) rfl hB.1 F hml hX hZ hl.1 mwX12_takes wmX12_115 rfl (by decide) (by decide +kernel) ⟨(by dsimp only; omega), (by dsimp only; omega)⟩ rfl rfl rfl (Nat.le_of_ble_eq_true rfl) (kd dtX12_readsLine_0 57 rfl) ⟨Nat.zero_le _, Nat.zero_le _⟩ (fun H locs hX => ?_)
                  refine lv_if_ne (tgt := 117) hx hb (kd dtX12_readsLine_0 58 rfl) (by decide) (fun hc => ?_) (fun hc => ?_)
                  · have hf := kif_neg hc hf
                    refine lv_aload_n hx hb (kd dtX12_readsLine_0 63 rfl) rfl (lv_at hl 1 rfl) ?_
                    refine lv_iload_n hx hb (kd dtX12_readsLine_0 64 rfl) rfl (lv_at hl 2 rfl) ?_
                    refine lv_iconst (v := (1 : Int32)) hx hb (kd dtX12_readsLine_0 65 rfl) (by decide) ?_
                    refine lv_iadd hx hb (kd dtX12_readsLine_0 66 rfl) ?_
                    obtain ⟨v70, w68, h69, hf⟩ := kbind2 hf
                    refine kcallV (n := 1) [.int (x1 + (1 : Int32))] [] [.int v70] (IH h69) rfl hB.1 F hml hX hZ hl.1 mwX12_readsLine wmX12_112 rfl (by decide) (by decide +kernel) ⟨(by dsimp only; omega), (by dsimp only; omega)⟩ rfl rfl rfl (Nat.le_of_ble_eq_true rfl) (kd dtX12_readsLine_0 67 rfl) ⟨Nat.zero_le _, Nat.zero_le _⟩ (fun H locs hX => ?_)
                    refine lv_if_eq (tgt := 140) hx hb (kd dtX12_readsLine_0 68 rfl) (by decide) (fun hc => ?_) (fun hc => ?_)
                    · have hf := kif_pos hc hf
                      refine lv_iconst (v := (0 : Int32)) hx hb (kd dtX12_readsLine_0 75 rfl) (by decide) ?_
                      obtain ⟨rfl, rfl⟩ := Prod.mk.inj (Option.some.inj hf)
                      exact kzret F hX hr hlocks rfl rfl (kd dtX12_readsLine_0 76 rfl)
                    · have hf := kif_neg hc hf
                      refine lv_aload_n hx hb (kd dtX12_readsLine_0 69 rfl) rfl (lv_at hl 1 rfl) ?_
                      refine lv_bipush (v := (41 : Int32)) hx hb (kd dtX12_readsLine_0 70 rfl) (by decide) ?_
                      obtain ⟨v73, w71, h72, hf⟩ := kbind2 hf
                      refine kcallV (n := 1) [.int (41 : Int32)] [] [.int v73] (rX12_takes l D aC hB h72) rfl hB.1 F hml hX hZ hl.1 mwX12_takes wmX12_115 rfl (by decide) (by decide +kernel) ⟨(by dsimp only; omega), (by dsimp only; omega)⟩ rfl rfl rfl (Nat.le_of_ble_eq_true rfl) (kd dtX12_readsLine_0 71 rfl) ⟨Nat.zero_le _, Nat.zero_le _⟩ (fun H locs hX => ?_)
                      refine lv_if_eq (tgt := 140) hx hb (kd dtX12_readsLine_0 72 rfl) (by decide) (fun hc => ?_) (fun hc => ?_)
                      · have hf := kif_pos hc hf
                        refine lv_iconst (v := (0 : Int32)) hx hb (kd dtX12_readsLine_0 75 rfl) (by decide) ?_
                        obtain ⟨rfl, rfl⟩ := Prod.mk.inj (Option.some.inj hf)
                        exact kzret F hX hr hlocks rfl rfl (kd dtX12_readsLine_0 76 rfl)
                      · have hf := kif_neg hc hf
                        refine lv_iconst (v := (1 : Int32)) hx hb (kd dtX12_readsLine_0 73 rfl) (by decide) ?_
                        refine lv_goto (tgt := 141) hx hb (kd dtX12_readsLine_0 74 rfl) (by decide) ?_
                        obtain ⟨rfl, rfl⟩ := Prod.mk.inj (Option.some.inj hf)
                        exact kzret F hX hr hlocks rfl rfl (kd dtX12_readsLine_0 76 rfl)
                  · have hf := kif_pos hc hf
                    refine lv_aload_n hx hb (kd dtX12_readsLine_0 59 rfl) rfl (lv_at hl 1 rfl) ?_
                    refine lv_bipush (v := (62 : Int32)) hx hb (kd dtX12_readsLine_0 60 rfl) (by decide) ?_
                    obtain ⟨v76, w74, h75, hf⟩ := kbind2 hf
                    refine kcallV (n := 1) [.int (62 : Int32)] [] [.int v76] (rX12_takes l D aC hB h75) rfl hB.1 F hml hX hZ hl.1 mwX12_takes wmX12_115 rfl (by decide) (by decide +kernel) ⟨(by dsimp only; omega), (by dsimp only; omega)⟩ rfl rfl rfl (Nat.le_of_ble_eq_true rfl) (kd dtX12_readsLine_0 61 rfl) ⟨Nat.zero_le _, Nat.zero_le _⟩ (fun H locs hX => ?_)
                    refine lv_if_eq (tgt := 140) hx hb (kd dtX12_readsLine_0 62 rfl) (by decide) (fun hc => ?_) (fun hc => ?_)
                    · have hf := kif_pos hc hf
                      refine lv_iconst (v := (0 : Int32)) hx hb (kd dtX12_readsLine_0 75 rfl) (by decide) ?_
                      obtain ⟨rfl, rfl⟩ := Prod.mk.inj (Option.some.inj hf)
                      exact kzret F hX hr hlocks rfl rfl (kd dtX12_readsLine_0 76 rfl)
                    · have hf := kif_neg hc hf
                      refine lv_aload_n hx hb (kd dtX12_readsLine_0 63 rfl) rfl (lv_at hl 1 rfl) ?_
                      refine lv_iload_n hx hb (kd dtX12_readsLine_0 64 rfl) rfl (lv_at hl 2 rfl) ?_
                      refine lv_iconst (v := (1 : Int32)) hx hb (kd dtX12_readsLine_0 65 rfl) (by decide) ?_
                      refine lv_iadd hx hb (kd dtX12_readsLine_0 66 rfl) ?_
                      obtain ⟨v79, w77, h78, hf⟩ := kbind2 hf
                      refine kcallV (n := 1) [.int (x1 + (1 : Int32))] [] [.int v79] (IH h78) rfl hB.1 F hml hX hZ hl.1 mwX12_readsLine wmX12_112 rfl (by decide) (by decide +kernel) ⟨(by dsimp only; omega), (by dsimp only; omega)⟩ rfl rfl rfl (Nat.le_of_ble_eq_true rfl) (kd dtX12_readsLine_0 67 rfl) ⟨Nat.zero_le _, Nat.zero_le _⟩ (fun H locs hX => ?_)
                      refine lv_if_eq (tgt := 140) hx hb (kd dtX12_readsLine_0 68 rfl) (by decide) (fun hc => ?_) (fun hc => ?_)
                      · have hf := kif_pos hc hf
                        refine lv_iconst (v := (0 : Int32)) hx hb (kd dtX12_readsLine_0 75 rfl) (by decide) ?_
                        obtain ⟨rfl, rfl⟩ := Prod.mk.inj (Option.some.inj hf)
                        exact kzret F hX hr hlocks rfl rfl (kd dtX12_readsLine_0 76 rfl)
                      · have hf := kif_neg hc hf
                        refine lv_aload_n hx hb (kd dtX12_readsLine_0 69 rfl) rfl (lv_at hl 1 rfl) ?_
                        refine lv_bipush (v := (41 : Int32)) hx hb (kd dtX12_readsLine_0 70 rfl) (by decide) ?_
                        obtain ⟨v82, w80, h81, hf⟩ := kbind2 hf
                        refine kcallV (n := 1) [.int (41 : Int32)] [] [.int v82] (rX12_takes l D aC hB h81) rfl hB.1 F hml hX hZ hl.1 mwX12_takes wmX12_115 rfl (by decide) (by decide +kernel) ⟨(by dsimp only; omega), (by dsimp only; omega)⟩ rfl rfl rfl (Nat.le_of_ble_eq_true rfl) (kd dtX12_readsLine_0 71 rfl) ⟨Nat.zero_le _, Nat.zero_le _⟩ (fun H locs hX => ?_)
                        refine lv_if_eq (tgt := 140) hx hb (kd dtX12_readsLine_0 72 rfl) (by decide) (fun hc => ?_) (fun hc => ?_)
                        · have hf := kif_pos hc hf
                          refine lv_iconst (v := (0 : Int32)) hx hb (kd dtX12_readsLine_0 75 rfl) (by decide) ?_
                          obtain ⟨rfl, rfl⟩ := Prod.mk.inj (Option.some.inj hf)
                          exact kzret F hX hr hlocks rfl rfl (kd dtX12_readsLine_0 76 rfl)
                        · have hf := kif_neg hc hf
                          refine lv_iconst (v := (1 : Int32)) hx hb (kd dtX12_readsLine_0 73 rfl) (by decide) ?_
                          refine lv_goto (tgt := 141) hx hb (kd dtX12_readsLine_0 74 rfl) (by decide) ?_
                          obtain ⟨rfl, rfl⟩ := Prod.mk.inj (Option.some.inj hf)
                          exact kzret F hX hr hlocks rfl rfl (kd dtX12_readsLine_0 76 rfl)
              · have hf := kif_pos hc hf
                refine lv_aload_n hx hb (kd dtX12_readsLine_0 43 rfl) rfl (lv_at hl 1 rfl) ?_
                refine lv_iload_n hx hb (kd dtX12_readsLine_0 44 rfl) rfl (lv_at hl 2 rfl) ?_
                refine lv_iconst (v := (1 : Int32)) hx hb (kd dtX12_readsLine_0 45 rfl) (by decide) ?_
                refine lv_iadd hx hb (kd dtX12_readsLine_0 46 rfl) ?_
                obtain ⟨v85, w83, h84, hf⟩ := kbind2 hf
                refine kcallV (n := 1) [.int (x1 + (1 : Int32))] [] [.int v85] (IH h84) rfl hB.1 F hml hX hZ hl.1 mwX12_readsLine wmX12_112 rfl (by decide) (by decide +kernel) ⟨(by dsimp only; omega), (by dsimp only; omega)⟩ rfl rfl rfl (Nat.le_of_ble_eq_true rfl) (kd dtX12_readsLine_0 47 rfl) ⟨Nat.zero_le _, Nat.zero_le _⟩ (fun H locs hX => ?_)
                obtain ⟨v86, hv86, hf⟩ := kbind hf
                obtain rfl := kBl_e hv86
                obtain ⟨rfl, rfl⟩ := Prod.mk.inj (Option.some.inj hf)
                exact kzret F hX hr hlocks hv86 rfl (kd dtX12_readsLine_0 48 rfl)
            · have hf := kif_pos hc hf
              refine lv_iconst (v := (0 : Int32)) hx hb (kd dtX12_readsLine_0 32 rfl) (by decide) ?_
              obtain ⟨rfl, rfl⟩ := Prod.mk.inj (Option.some.inj hf)
              exact kzret F hX hr hlocks rfl rfl (kd dtX12_readsLine_0 33 rfl)
        · have hf := kif_neg hc hf
          refine lv_iload_n hx hb (kd dtX12_readsLine_0 22 rfl) rfl (lv_at hl 0 rfl) ?_
          refine lv_bipush (v := (40 : Int32)) hx hb (kd dtX12_readsLine_0 23 rfl) (by decide) ?_
          refine lv_icmp_ne (tgt := 63) hx hb (kd dtX12_readsLine_0 24 rfl) (by decide) (fun hc => ?_) (fun hc => ?_)
          · have hf := kif_neg hc hf
            refine lv_iconst (v := (0 : Int32)) hx hb (kd dtX12_readsLine_0 32 rfl) (by decide) ?_
            obtain ⟨rfl, rfl⟩ := Prod.mk.inj (Option.some.inj hf)
            exact kzret F hX hr hlocks rfl rfl (kd dtX12_readsLine_0 33 rfl)
          · have hf := kif_pos hc hf
            refine lv_iload_n hx hb (kd dtX12_readsLine_0 25 rfl) rfl (lv_at hl 2 rfl) ?_
            refine lv_bipush (v := (12 : Int32)) hx hb (kd dtX12_readsLine_0 26 rfl) (by decide) ?_
            refine lv_icmp_eq (tgt := 63) hx hb (kd dtX12_readsLine_0 27 rfl) (by decide) (fun hc => ?_) (fun hc => ?_)
            · have hf := kif_pos hc hf
              refine lv_iconst (v := (0 : Int32)) hx hb (kd dtX12_readsLine_0 32 rfl) (by decide) ?_
              obtain ⟨rfl, rfl⟩ := Prod.mk.inj (Option.some.inj hf)
              exact kzret F hX hr hlocks rfl rfl (kd dtX12_readsLine_0 33 rfl)
            · have hf := kif_neg hc hf
              refine lv_aload_n hx hb (kd dtX12_readsLine_0 28 rfl) rfl (lv_at hl 1 rfl) ?_
              refine rgetF (j := 12) hB F hX wfX12_99 (by decide) rfl (kd dtX12_readsLine_0 29 rfl) ?_
              refine lv_bipush (v := (60 : Int32)) hx hb (kd dtX12_readsLine_0 30 rfl) (by decide) ?_
              refine lv_icmp_ne (tgt := 65) hx hb (kd dtX12_readsLine_0 31 rfl) (by decide) (fun hc => ?_) (fun hc => ?_)
              · have hf := kif_neg hc hf
                refine lv_aload_n hx hb (kd dtX12_readsLine_0 34 rfl) rfl (lv_at hl 1 rfl) ?_
                refine lv_dup hx hb (kd dtX12_readsLine_0 35 rfl) rfl ?_
                refine rgetF (j := 12) hB F hX wfX12_99 (by decide) rfl (kd dtX12_readsLine_0 36 rfl) ?_
                refine lv_iconst (v := (1 : Int32)) hx hb (kd dtX12_readsLine_0 37 rfl) (by decide) ?_
                refine lv_iadd hx hb (kd dtX12_readsLine_0 38 rfl) ?_
                obtain ⟨w87, hw87, hf⟩ := kbind hf
                refine rputF hw87 hB F hX wfX12_99 (by decide) rfl rfl rfl rfl (kd dtX12_readsLine_0 39 rfl) (fun H locs hX => ?_)
                refine lv_iload_n hx hb (kd dtX12_readsLine_0 40 rfl) rfl (lv_at hl 0 rfl) ?_
                refine lv_bipush (v := (126 : Int32)) hx hb (kd dtX12_readsLine_0 41 rfl) (by decide) ?_
                refine lv_icmp_ne (tgt := 89) hx hb (kd dtX12_readsLine_0 42 rfl) (by decide) (fun hc => ?_) (fun hc => ?_)
                · have hf := kif_neg hc hf
                  refine lv_aload_n hx hb (kd dtX12_readsLine_0 49 rfl) rfl (lv_at hl 1 rfl) ?_
                  refine lv_iload_n hx hb (kd dtX12_readsLine_0 50 rfl) rfl (lv_at hl 2 rfl) ?_
                  refine lv_iconst (v := (1 : Int32)) hx hb (kd dtX12_readsLine_0 51 rfl) (by decide) ?_
                  refine lv_iadd hx hb (kd dtX12_readsLine_0 52 rfl) ?_
                  obtain ⟨v90, w88, h89, hf⟩ := kbind2 hf
                  refine kcallV (n := 1) [.int (x1 + (1 : Int32))] [] [.int v90] (IH h89) rfl hB.1 F hml hX hZ hl.1 mwX12_readsLine wmX12_112 rfl (by decide) (by decide +kernel) ⟨(by dsimp only; omega), (by dsimp only; omega)⟩ rfl rfl rfl (Nat.le_of_ble_eq_true rfl) (kd dtX12_readsLine_0 53 rfl) ⟨Nat.zero_le _, Nat.zero_le _⟩ (fun H locs hX => ?_)
                  refine lv_if_eq (tgt := 140) hx hb (kd dtX12_readsLine_0 54 rfl) (by decide) (fun hc => ?_) (fun hc => ?_)
                  · have hf := kif_pos hc hf
                    refine lv_iconst (v := (0 : Int32)) hx hb (kd dtX12_readsLine_0 75 rfl) (by decide) ?_
                    obtain ⟨rfl, rfl⟩ := Prod.mk.inj (Option.some.inj hf)
                    exact kzret F hX hr hlocks rfl rfl (kd dtX12_readsLine_0 76 rfl)
                  · have hf := kif_neg hc hf
                    refine lv_aload_n hx hb (kd dtX12_readsLine_0 55 rfl) rfl (lv_at hl 1 rfl) ?_
                    refine lv_bipush (v := (118 : Int32)) hx hb (kd dtX12_readsLine_0 56 rfl) (by decide) ?_
                    obtain ⟨v93, w91, h92, hf⟩ := kbind2 hf
                    refine kcallV (n := 1) [.int (118 : Int32)] [] [.int v93] (rX12_takes l D aC hB h92) rfl hB.1 F hml hX hZ hl.1 mwX12_takes wmX12_115 rfl (by decide) (by decide +kernel) ⟨(by dsimp only; omega), (by dsimp only; omega)⟩ rfl rfl rfl (Nat.le_of_ble_eq_true rfl) (kd dtX12_readsLine_0 57 rfl) ⟨Nat.zero_le _, Nat.zero_le _⟩ (fun H locs hX => ?_)
                    refine lv_if_ne (tgt := 117) hx hb (kd dtX12_readsLine_0 58 rfl) (by decide) (fun hc => ?_) (fun hc => ?_)
                    · have hf := kif_neg hc hf
                      refine lv_aload_n hx hb (kd dtX12_readsLine_0 63 rfl) rfl (lv_at hl 1 rfl) ?_
                      refine lv_iload_n hx hb (kd dtX12_readsLine_0 64 rfl) rfl (lv_at hl 2 rfl) ?_
                      refine lv_iconst (v := (1 : Int32)) hx hb (kd dtX12_readsLine_0 65 rfl) (by decide) ?_
                      refine lv_iadd hx hb (kd dtX12_readsLine_0 66 rfl) ?_
                      obtain ⟨v96, w94, h95, hf⟩ := kbind2 hf
                      refine kcallV (n := 1) [.int (x1 + (1 : Int32))] [] [.int v96] (IH h95) rfl hB.1 F hml hX hZ hl.1 mwX12_readsLine wmX12_112 rfl (by decide) (by decide +kernel) ⟨(by dsimp only; omega), (by dsimp only; omega)⟩ rfl rfl rfl (Nat.le_of_ble_eq_true rfl) (kd dtX12_readsLine_0 67 rfl) ⟨Nat.zero_le _, Nat.zero_le _⟩ (fun H locs hX => ?_)
                      refine lv_if_eq (tgt := 140) hx hb (kd dtX12_readsLine_0 68 rfl) (by decide) (fun hc => ?_) (fun hc => ?_)
                      · have hf := kif_pos hc hf
                        refine lv_iconst (v := (0 : Int32)) hx hb (kd dtX12_readsLine_0 75 rfl) (by decide) ?_
                        obtain ⟨rfl, rfl⟩ := Prod.mk.inj (Option.some.inj hf)
                        exact kzret F hX hr hlocks rfl rfl (kd dtX12_readsLine_0 76 rfl)
                      · have hf := kif_neg hc hf
                        refine lv_aload_n hx hb (kd dtX12_readsLine_0 69 rfl) rfl (lv_at hl 1 rfl) ?_
                        refine lv_bipush (v := (41 : Int32)) hx hb (kd dtX12_readsLine_0 70 rfl) (by decide) ?_
                        obtain ⟨v99, w97, h98, hf⟩ := kbind2 hf
                        refine kcallV (n := 1) [.int (41 : Int32)] [] [.int v99] (rX12_takes l D aC hB h98) rfl hB.1 F hml hX hZ hl.1 mwX12_takes wmX12_115 rfl (by decide) (by decide +kernel) ⟨(by dsimp only; omega), (by dsimp only; omega)⟩ rfl rfl rfl (Nat.le_of_ble_eq_true rfl) (kd dtX12_readsLine_0 71 rfl) ⟨Nat.zero_le _, Nat.zero_le _⟩ (fun H locs hX => ?_)
                        refine lv_if_eq (tgt := 140) hx hb (kd dtX12_readsLine_0 72 rfl) (by decide) (fun hc => ?_) (fun hc => ?_)
                        · have hf := kif_pos hc hf
                          refine lv_iconst (v := (0 : Int32)) hx hb (kd dtX12_readsLine_0 75 rfl) (by decide) ?_
                          obtain ⟨rfl, rfl⟩ := Prod.mk.inj (Option.some.inj hf)
                          exact kzret F hX hr hlocks rfl rfl (kd dtX12_readsLine_0 76 rfl)
                        · have hf := kif_neg hc hf
                          refine lv_iconst (v := (1 : Int32)) hx hb (kd dtX12_readsLine_0 73 rfl) (by decide) ?_
                          refine lv_goto (tgt := 141) hx hb (kd dtX12_readsLine_0 74 rfl) (by decide) ?_
                          obtain ⟨rfl, rfl⟩ := Prod.mk.inj (Option.some.inj hf)
                          exact kzret F hX hr hlocks rfl rfl (kd dtX12_readsLine_0 76 rfl)
                    · have hf := kif_pos hc hf
                      refine lv_aload_n hx hb (kd dtX12_readsLine_0 59 rfl) rfl (lv_at hl 1 rfl) ?_
                      refine lv_bipush (v := (62 : Int32)) hx hb (kd dtX12_readsLine_0 60 rfl) (by decide) ?_
                      obtain ⟨v102, w100, h101, hf⟩ := kbind2 hf
                      refine kcallV (n := 1) [.int (62 : Int32)] [] [.int v102] (rX12_takes l D aC hB h101) rfl hB.1 F hml hX hZ hl.1 mwX12_takes wmX12_115 rfl (by decide) (by decide +kernel) ⟨(by dsimp only; omega), (by dsimp only; omega)⟩ rfl rfl rfl (Nat.le_of_ble_eq_true rfl) (kd dtX12_readsLine_0 61 rfl) ⟨Nat.zero_le _, Nat.zero_le _⟩ (fun H locs hX => ?_)
                      refine lv_if_eq (tgt := 140) hx hb (kd dtX12_readsLine_0 62 rfl) (by decide) (fun hc => ?_) (fun hc => ?_)
                      · have hf := kif_pos hc hf
                        refine lv_iconst (v := (0 : Int32)) hx hb (kd dtX12_readsLine_0 75 rfl) (by decide) ?_
                        obtain ⟨rfl, rfl⟩ := Prod.mk.inj (Option.some.inj hf)
                        exact kzret F hX hr hlocks rfl rfl (kd dtX12_readsLine_0 76 rfl)
                      · have hf := kif_neg hc hf
                        refine lv_aload_n hx hb (kd dtX12_readsLine_0 63 rfl) rfl (lv_at hl 1 rfl) ?_
                        refine lv_iload_n hx hb (kd dtX12_readsLine_0 64 rfl) rfl (lv_at hl 2 rfl) ?_
                        refine lv_iconst (v := (1 : Int32)) hx hb (kd dtX12_readsLine_0 65 rfl) (by decide) ?_
                        refine lv_iadd hx hb (kd dtX12_readsLine_0 66 rfl) ?_
                        obtain ⟨v105, w103, h104, hf⟩ := kbind2 hf
                        refine kcallV (n := 1) [.int (x1 + (1 : Int32))] [] [.int v105] (IH h104) rfl hB.1 F hml hX hZ hl.1 mwX12_readsLine wmX12_112 rfl (by decide) (by decide +kernel) ⟨(by dsimp only; omega), (by dsimp only; omega)⟩ rfl rfl rfl (Nat.le_of_ble_eq_true rfl) (kd dtX12_readsLine_0 67 rfl) ⟨Nat.zero_le _, Nat.zero_le _⟩ (fun H locs hX => ?_)
                        refine lv_if_eq (tgt := 140) hx hb (kd dtX12_readsLine_0 68 rfl) (by decide) (fun hc => ?_) (fun hc => ?_)
                        · have hf := kif_pos hc hf
                          refine lv_iconst (v := (0 : Int32)) hx hb (kd dtX12_readsLine_0 75 rfl) (by decide) ?_
                          obtain ⟨rfl, rfl⟩ := Prod.mk.inj (Option.some.inj hf)
                          exact kzret F hX hr hlocks rfl rfl (kd dtX12_readsLine_0 76 rfl)
                        · have hf := kif_neg hc hf
                          refine lv_aload_n hx hb (kd dtX12_readsLine_0 69 rfl) rfl (lv_at hl 1 rfl) ?_
                          refine lv_bipush (v := (41 : Int32)) hx hb (kd dtX12_readsLine_0 70 rfl) (by decide) ?_
                          obtain ⟨v108, w106, h107, hf⟩ := kbind2 hf
                          refine kcallV (n := 1) [.int (41 : Int32)] [] [.int v108] (rX12_takes l D aC hB h107) rfl hB.1 F hml hX hZ hl.1 mwX12_takes wmX12_115 rfl (by decide) (by decide +kernel) ⟨(by dsimp only; omega), (by dsimp only; omega)⟩ rfl rfl rfl (Nat.le_of_ble_eq_true rfl) (kd dtX12_readsLine_0 71 rfl) ⟨Nat.zero_le _, Nat.zero_le _⟩ (fun H locs hX => ?_)
                          refine lv_if_eq (tgt := 140) hx hb (kd dtX12_readsLine_0 72 rfl) (by decide) (fun hc => ?_) (fun hc => ?_)
                          · have hf := kif_pos hc hf
                            refine lv_iconst (v := (0 : Int32)) hx hb (kd dtX12_readsLine_0 75 rfl) (by decide) ?_
                            obtain ⟨rfl, rfl⟩ := Prod.mk.inj (Option.some.inj hf)
                            exact kzret F hX hr hlocks rfl rfl (kd dtX12_readsLine_0 76 rfl)
                          · have hf := kif_neg hc hf
                            refine lv_iconst (v := (1 : Int32)) hx hb (kd dtX12_readsLine_0 73 rfl) (by decide) ?_
                            refine lv_goto (tgt := 141) hx hb (kd dtX12_readsLine_0 74 rfl) (by decide) ?_
                            obtain ⟨rfl, rfl⟩ := Prod.mk.inj (Option.some.inj hf)
                            exact kzret F hX hr hlocks rfl rfl (kd dtX12_readsLine_0 76 rfl)
                · have hf := kif_pos hc hf
                  refine lv_aload_n hx hb (kd dtX12_readsLine_0 43 rfl) rfl (lv_at hl 1 rfl) ?_
                  refine lv_iload_n hx hb (kd dtX12_readsLine_0 44 rfl) rfl (lv_at hl 2 rfl) ?_
                  refine lv_iconst (v := (1 : Int32)) hx hb (kd dtX12_readsLine_0 45 rfl) (by decide) ?_
                  refine lv_iadd hx hb (kd dtX12_readsLine_0 46 rfl) ?_
                  obtain ⟨v111, w109, h110, hf⟩ := kbind2 hf
                  refine kcallV (n := 1) [.int (x1 + (1 : Int32))] [] [.int v111] (IH h110) rfl hB.1 F hml hX hZ hl.1 mwX12_readsLine wmX12_112 rfl (by decide) (by decide +kernel) ⟨(by dsimp only; omega), (by dsimp only; omega)⟩ rfl rfl rfl (Nat.le_of_ble_eq_true rfl) (kd dtX12_readsLine_0 47 rfl) ⟨Nat.zero_le _, Nat.zero_le _⟩ (fun H locs hX => ?_)
                  obtain ⟨v112, hv112, hf⟩ := kbind hf
                  obtain rfl := kBl_e hv112
                  obtain ⟨rfl, rfl⟩ := Prod.mk.inj (Option.some.inj hf)
                  exact kzret F hX hr hlocks hv112 rfl (kd dtX12_readsLine_0 48 rfl)
              · have hf := kif_pos hc hf
                refine lv_iconst (v := (0 : Int32)) hx hb (kd dtX12_readsLine_0 32 rfl) (by decide) ?_
                obtain ⟨rfl, rfl⟩ := Prod.mk.inj (Option.some.inj hf)
                exact kzret F hX hr hlocks rfl rfl (kd dtX12_readsLine_0 33 rfl)
      · have hf := kif_neg hc hf
        refine lv_aload_n hx hb (kd dtX12_readsLine_0 8 rfl) rfl (lv_at hl 0 rfl) ?_
        refine lv_dup hx hb (kd dtX12_readsLine_0 9 rfl) rfl ?_
        refine rgetF (j := 12) hB F hX wfX12_99 (by decide) rfl (kd dtX12_readsLine_0 10 rfl) ?_
        refine lv_iconst (v := (1 : Int32)) hx hb (kd dtX12_readsLine_0 11 rfl) (by decide) ?_
        refine lv_iadd hx hb (kd dtX12_readsLine_0 12 rfl) ?_
        obtain ⟨w113, hw113, hf⟩ := kbind hf
        refine rputF hw113 hB F hX wfX12_99 (by decide) rfl rfl rfl rfl (kd dtX12_readsLine_0 13 rfl) (fun H locs hX => ?_)
        refine lv_iconst (v := (1 : Int32)) hx hb (kd dtX12_readsLine_0 14 rfl) (by decide) ?_
        obtain ⟨rfl, rfl⟩ := Prod.mk.inj (Option.some.inj hf)
        exact kzret F hX hr hlocks rfl rfl (kd dtX12_readsLine_0 15 rfl)
theorem rX12_readsLine (l : Launch) (D : va_G) (aC : Nat → ClassId) {h0 : Nat} {wB : kW} (hB : rOK h0 wB) {x1 : Int32} {w : rW} {wR : rW} {oR : Int32} (h : fX12_readsLine kDP x1 w = some (oR, wR)) : kC l D aC yX12_readsLine cX12_readsLine 3 (some .boolean) 403 8853 [.ref h0, .int x1] (rWo h0 wB w) (some (.int oR)) (rWo h0 wB wR) 0 0 := rX12_readsLine_dp l D aC hB kDP h
theorem wmX12_118 : Cond.methodLink RX12 118 yX12_isShelf ∈ kT := kTm 1370 (by decide +kernel) rfl
theorem mwX12_isShelf : kMS yX12_isShelf cX12_isShelf 1 (some .boolean) := ⟨kTm 1372 (by decide +kernel) rfl, kTm 106 (by decide +kernel) rfl, kTm 1371 (by decide +kernel) rfl⟩
def lX12_wrongRow_0 : List (Nat × Instr × Nat) := [(0, .iload_n 1, 1), (1, .invokestatic 118, 3), (4, .ifCond .ne 7, 3), (7, .iconst (-1), 1), (8, .goto 47, 3), (11, .aload_n 0, 1), (12, .getfield 22, 3), (15, .iload_n 1, 1), (16, .iaload, 1), (17, .ifCond .ne 8, 3), (20, .bipush (-11), 2), (22, .goto 33, 3), (25, .aload_n 0, 1), (26, .getfield 22, 3), (29, .iload_n 1, 1), (30, .iaload, 1), (31, .iconst 2, 1), (32, .if_icmp .ne 17, 3), (35, .iload_n 2, 1), (36, .ifCond .lt 18, 3), (39, .aload_n 0, 1), (40, .getfield 25, 3), (43, .iload_n 1, 1), (44, .iaload, 1), (45, .iload_n 2, 1), (46, .if_icmp .eq 8, 3), (49, .bipush (-12), 2), (51, .goto 4, 3), (54, .iconst 0, 1), (55, .ireturn, 1)]
theorem dtX12_wrongRow_0 : kDec cX12_wrongRow lX12_wrongRow_0 = true := by decide +kernel
noncomputable def fX12_wrongRow (x1 : Int32) (x2 : Int32) (w : rW) : Option Int32 :=
  (fX12_isShelf x1).bind fun v2 =>
  if v2 = 0 then
  some (-1 : Int32)
  else
  (raI w 4 8 x1).bind fun v3 =>
  if v3 = 0 then
  some (-11 : Int32)
  else
  (raI w 4 8 x1).bind fun v4 =>
  if v4 = (2 : Int32) then
  if x2 < 0 then
  some (0 : Int32)
  else
  (raI w 5 8 x1).bind fun v5 =>
  if v5 = x2 then
  some (0 : Int32)
  else
  some (-12 : Int32)
  else
  some (-12 : Int32)

set_option maxHeartbeats 4000000 in
set_option maxRecDepth 100000 in
theorem rX12_wrongRow (l : Launch) (D : va_G) (aC : Nat → ClassId) {h0 : Nat} {wB : kW} (hB : rOK h0 wB) {x1 : Int32} {x2 : Int32} {w : rW} {oR : Int32} (h : fX12_wrongRow x1 x2 w = some oR) : kC l D aC yX12_wrongRow cX12_wrongRow 3 (some .int) 3 57 [.ref h0, .int x1, .int x2] (rWo h0 wB w) (some (.int oR)) (rWo h0 wB w) 0 0 := by
  refine kOf (own := RX12) (by decide) rfl (Nat.le_of_ble_eq_true rfl) ?_
  intro p e s m below meth c ls F hml hr hlocks hnm hX hZ hl
  obtain ⟨hx, hb, hts, hown, hK⟩ := id F
  have hl : lv_has ls 3 [(0, .ref h0), (1, .int x1), (2, .int x2)] := hl
  have hf := h
  rw [fX12_wrongRow] at hf
  refine lv_iload_n hx hb (kd dtX12_wrongRow_0 0 rfl) rfl (lv_at hl 1 rfl) ?_
  obtain ⟨v2, h1, hf⟩ := kbind hf
  refine kcallS (n := 1) [.int x1] [] [.int v2] (rX12_isShelf l D aC (rWo h0 wB w) h1) F hml hX hZ hl.1 mwX12_isShelf wmX12_118 (by decide +kernel) ⟨(by decide), (by decide)⟩ rfl rfl rfl (Nat.le_of_ble_eq_true rfl) (kd dtX12_wrongRow_0 1 rfl) ⟨Nat.zero_le _, Nat.zero_le _⟩ (fun H locs hX => ?_)
  refine lv_if_ne (tgt := 11) hx hb (kd dtX12_wrongRow_0 2 rfl) (by decide) (fun hc => ?_) (fun hc => ?_)
  · have hf := kif_neg hc hf
    refine lv_aload_n hx hb (kd dtX12_wrongRow_0 5 rfl) rfl (lv_at hl 0 rfl) ?_
    refine rgetA (n := 4) (j := 4) hB (by decide) rfl F hX wfX12_22 (by decide) rfl (kd dtX12_wrongRow_0 6 rfl) ?_
    refine lv_iload_n hx hb (kd dtX12_wrongRow_0 7 rfl) rfl (lv_at hl 1 rfl) ?_
    obtain ⟨v3, hv3, hf⟩ := kbind hf
    refine rald hB (by decide) hv3 F hX (kd dtX12_wrongRow_0 8 rfl) ?_
    refine lv_if_ne (tgt := 25) hx hb (kd dtX12_wrongRow_0 9 rfl) (by decide) (fun hc => ?_) (fun hc => ?_)
    · have hf := kif_neg hc hf
      refine lv_aload_n hx hb (kd dtX12_wrongRow_0 12 rfl) rfl (lv_at hl 0 rfl) ?_
      refine rgetA (n := 4) (j := 4) hB (by decide) rfl F hX wfX12_22 (by decide) rfl (kd dtX12_wrongRow_0 13 rfl) ?_
      refine lv_iload_n hx hb (kd dtX12_wrongRow_0 14 rfl) rfl (lv_at hl 1 rfl) ?_
      obtain ⟨v4, hv4, hf⟩ := kbind hf
      refine rald hB (by decide) hv4 F hX (kd dtX12_wrongRow_0 15 rfl) ?_
      refine lv_iconst (v := (2 : Int32)) hx hb (kd dtX12_wrongRow_0 16 rfl) (by decide) ?_
      refine lv_icmp_ne (tgt := 49) hx hb (kd dtX12_wrongRow_0 17 rfl) (by decide) (fun hc => ?_) (fun hc => ?_)
      · have hf := kif_neg hc hf
        refine lv_bipush (v := (-12 : Int32)) hx hb (kd dtX12_wrongRow_0 26 rfl) (by decide) ?_
        refine lv_goto (tgt := 55) hx hb (kd dtX12_wrongRow_0 27 rfl) (by decide) ?_
        obtain rfl := Option.some.inj hf
        exact kiret F hX hr hlocks rfl (kd dtX12_wrongRow_0 29 rfl)
      · have hf := kif_pos hc hf
        refine lv_iload_n hx hb (kd dtX12_wrongRow_0 18 rfl) rfl (lv_at hl 2 rfl) ?_
        refine lv_if_lt (tgt := 54) hx hb (kd dtX12_wrongRow_0 19 rfl) (by decide) (fun hc => ?_) (fun hc => ?_)
        · have hf := kif_pos hc hf
          refine lv_iconst (v := (0 : Int32)) hx hb (kd dtX12_wrongRow_0 28 rfl) (by decide) ?_
          obtain rfl := Option.some.inj hf
          exact kiret F hX hr hlocks rfl (kd dtX12_wrongRow_0 29 rfl)
        · have hf := kif_neg hc hf
          refine lv_aload_n hx hb (kd dtX12_wrongRow_0 20 rfl) rfl (lv_at hl 0 rfl) ?_
          refine rgetA (n := 5) (j := 5) hB (by decide) rfl F hX wfX12_25 (by decide) rfl (kd dtX12_wrongRow_0 21 rfl) ?_
          refine lv_iload_n hx hb (kd dtX12_wrongRow_0 22 rfl) rfl (lv_at hl 1 rfl) ?_
          obtain ⟨v5, hv5, hf⟩ := kbind hf
          refine rald hB (by decide) hv5 F hX (kd dtX12_wrongRow_0 23 rfl) ?_
          refine lv_iload_n hx hb (kd dtX12_wrongRow_0 24 rfl) rfl (lv_at hl 2 rfl) ?_
          refine lv_icmp_eq (tgt := 54) hx hb (kd dtX12_wrongRow_0 25 rfl) (by decide) (fun hc => ?_) (fun hc => ?_)
          · have hf := kif_pos hc hf
            refine lv_iconst (v := (0 : Int32)) hx hb (kd dtX12_wrongRow_0 28 rfl) (by decide) ?_
            obtain rfl := Option.some.inj hf
            exact kiret F hX hr hlocks rfl (kd dtX12_wrongRow_0 29 rfl)
          · have hf := kif_neg hc hf
            refine lv_bipush (v := (-12 : Int32)) hx hb (kd dtX12_wrongRow_0 26 rfl) (by decide) ?_
            refine lv_goto (tgt := 55) hx hb (kd dtX12_wrongRow_0 27 rfl) (by decide) ?_
            obtain rfl := Option.some.inj hf
            exact kiret F hX hr hlocks rfl (kd dtX12_wrongRow_0 29 rfl)
    · have hf := kif_pos hc hf
      refine lv_bipush (v := (-11 : Int32)) hx hb (kd dtX12_wrongRow_0 10 rfl) (by decide) ?_
      refine lv_goto (tgt := 55) hx hb (kd dtX12_wrongRow_0 11 rfl) (by decide) ?_
      obtain rfl := Option.some.inj hf
      exact kiret F hX hr hlocks rfl (kd dtX12_wrongRow_0 29 rfl)
  · have hf := kif_pos hc hf
    refine lv_iconst (v := (-1 : Int32)) hx hb (kd dtX12_wrongRow_0 3 rfl) (by decide) ?_
    refine lv_goto (tgt := 55) hx hb (kd dtX12_wrongRow_0 4 rfl) (by decide) ?_
    obtain rfl := Option.some.inj hf
    exact kiret F hX hr hlocks rfl (kd dtX12_wrongRow_0 29 rfl)
def lX12_faultIn_0 : List (Nat × Instr × Nat) := [(0, .aload_n 0, 1), (1, .bipush 120, 2), (3, .iload_n 1, 1), (4, .imul, 1), (5, .putfield 105, 3), (8, .aload_n 0, 1), (9, .aload_n 0, 1), (10, .getfield 28, 3), (13, .iload_n 1, 1), (14, .iaload, 1), (15, .putfield 102, 3), (18, .aload_n 0, 1), (19, .iconst 0, 1), (20, .putfield 99, 3), (23, .aload_n 0, 1), (24, .iconst 0, 1), (25, .invokevirtual 112, 3), (28, .ifCond .eq 19, 3), (31, .aload_n 0, 1), (32, .getfield 99, 3), (35, .aload_n 0, 1), (36, .getfield 102, 3), (39, .if_icmp .ne 8, 3), (42, .bipush (-4), 2), (44, .goto 7, 3), (47, .aload_n 0, 1), (48, .getfield 99, 3), (51, .ireturn, 1)]
theorem dtX12_faultIn_0 : kDec cX12_faultIn lX12_faultIn_0 = true := by decide +kernel
noncomputable def fX12_faultIn (x1 : Int32) (w : rW) : Option (Int32 × rW) :=
  (rpF w 13 ((120 : Int32) * x1)).bind fun w1 =>
  (raI w1 6 8 x1).bind fun v2 =>
  (rpF w1 14 v2).bind fun w3 =>
  (rpF w3 12 (0 : Int32)).bind fun w4 =>
  kb2 (fX12_readsLine kDP (0 : Int32) w4) fun v7 w5 =>
  if v7 = 0 then
  some (rF w5 12, w5)
  else
  if (rF w5 12) = (rF w5 14) then
  some ((-4 : Int32), w5)
  else
  some (rF w5 12, w5)

set_option maxHeartbeats 4000000 in
set_option maxRecDepth 100000 in
theorem rX12_faultIn (l : Launch) (D : va_G) (aC : Nat → ClassId) {h0 : Nat} {wB : kW} (hB : rOK h0 wB) {x1 : Int32} {w : rW} {wR : rW} {oR : Int32} (h : fX12_faultIn x1 w = some (oR, wR)) : kC l D aC yX12_faultIn cX12_faultIn 2 (some .int) 404 8875 [.ref h0, .int x1] (rWo h0 wB w) (some (.int oR)) (rWo h0 wB wR) 0 0 := by
  refine kOf (own := RX12) (by decide) rfl (Nat.le_of_ble_eq_true rfl) ?_
  intro p e s m below meth c ls F hml hr hlocks hnm hX hZ hl
  obtain ⟨hx, hb, hts, hown, hK⟩ := id F
  have hl : lv_has ls 2 [(0, .ref h0), (1, .int x1)] := hl
  have hf := h
  rw [fX12_faultIn] at hf
  refine lv_aload_n hx hb (kd dtX12_faultIn_0 0 rfl) rfl (lv_at hl 0 rfl) ?_
  refine lv_bipush (v := (120 : Int32)) hx hb (kd dtX12_faultIn_0 1 rfl) (by decide) ?_
  refine lv_iload_n hx hb (kd dtX12_faultIn_0 2 rfl) rfl (lv_at hl 1 rfl) ?_
  refine lv_imul hx hb (kd dtX12_faultIn_0 3 rfl) ?_
  obtain ⟨w1, hw1, hf⟩ := kbind hf
  refine rputF hw1 hB F hX wfX12_105 (by decide) rfl rfl rfl rfl (kd dtX12_faultIn_0 4 rfl) (fun H locs hX => ?_)
  refine lv_aload_n hx hb (kd dtX12_faultIn_0 5 rfl) rfl (lv_at hl 0 rfl) ?_
  refine lv_aload_n hx hb (kd dtX12_faultIn_0 6 rfl) rfl (lv_at hl 0 rfl) ?_
  refine rgetA (n := 6) (j := 6) hB (by decide) rfl F hX wfX12_28 (by decide) rfl (kd dtX12_faultIn_0 7 rfl) ?_
  refine lv_iload_n hx hb (kd dtX12_faultIn_0 8 rfl) rfl (lv_at hl 1 rfl) ?_
  obtain ⟨v2, hv2, hf⟩ := kbind hf
  refine rald hB (by decide) hv2 F hX (kd dtX12_faultIn_0 9 rfl) ?_
  obtain ⟨w3, hw3, hf⟩ := kbind hf
  refine rputF hw3 hB F hX wfX12_102 (by decide) rfl rfl rfl rfl (kd dtX12_faultIn_0 10 rfl) (fun H locs hX => ?_)
  refine lv_aload_n hx hb (kd dtX12_faultIn_0 11 rfl) rfl (lv_at hl 0 rfl) ?_
  refine lv_iconst (v := (0 : Int32)) hx hb (kd dtX12_faultIn_0 12 rfl) (by decide) ?_
  obtain ⟨w4, hw4, hf⟩ := kbind hf
  refine rputF hw4 hB F hX wfX12_99 (by decide) rfl rfl rfl rfl (kd dtX12_faultIn_0 13 rfl) (fun H locs hX => ?_)
  refine lv_aload_n hx hb (kd dtX12_faultIn_0 14 rfl) rfl (lv_at hl 0 rfl) ?_
  refine lv_iconst (v := (0 : Int32)) hx hb (kd dtX12_faultIn_0 15 rfl) (by decide) ?_
  obtain ⟨v7, w5, h6, hf⟩ := kbind2 hf
  refine kcallV (n := 1) [.int (0 : Int32)] [] [.int v7] (rX12_readsLine l D aC hB h6) rfl hB.1 F hml hX hZ hl.1 mwX12_readsLine wmX12_112 rfl (by decide) (by decide +kernel) ⟨(by decide), (by decide)⟩ rfl rfl rfl (Nat.le_of_ble_eq_true rfl) (kd dtX12_faultIn_0 16 rfl) ⟨Nat.zero_le _, Nat.zero_le _⟩ (fun H locs hX => ?_)
  refine lv_if_eq (tgt := 47) hx hb (kd dtX12_faultIn_0 17 rfl) (by decide) (fun hc => ?_) (fun hc => ?_)
  · have hf := kif_pos hc hf
    refine lv_aload_n hx hb (kd dtX12_faultIn_0 25 rfl) rfl (lv_at hl 0 rfl) ?_
    refine rgetF (j := 12) hB F hX wfX12_99 (by decide) rfl (kd dtX12_faultIn_0 26 rfl) ?_
    obtain ⟨rfl, rfl⟩ := Prod.mk.inj (Option.some.inj hf)
    exact kiret F hX hr hlocks rfl (kd dtX12_faultIn_0 27 rfl)
  · have hf := kif_neg hc hf
    refine lv_aload_n hx hb (kd dtX12_faultIn_0 18 rfl) rfl (lv_at hl 0 rfl) ?_
    refine rgetF (j := 12) hB F hX wfX12_99 (by decide) rfl (kd dtX12_faultIn_0 19 rfl) ?_
    refine lv_aload_n hx hb (kd dtX12_faultIn_0 20 rfl) rfl (lv_at hl 0 rfl) ?_
    refine rgetF (j := 14) hB F hX wfX12_102 (by decide) rfl (kd dtX12_faultIn_0 21 rfl) ?_
    refine lv_icmp_ne (tgt := 47) hx hb (kd dtX12_faultIn_0 22 rfl) (by decide) (fun hc => ?_) (fun hc => ?_)
    · have hf := kif_neg hc hf
      refine lv_aload_n hx hb (kd dtX12_faultIn_0 25 rfl) rfl (lv_at hl 0 rfl) ?_
      refine rgetF (j := 12) hB F hX wfX12_99 (by decide) rfl (kd dtX12_faultIn_0 26 rfl) ?_
      obtain ⟨rfl, rfl⟩ := Prod.mk.inj (Option.some.inj hf)
      exact kiret F hX hr hlocks rfl (kd dtX12_faultIn_0 27 rfl)
    · have hf := kif_pos hc hf
      refine lv_bipush (v := (-4 : Int32)) hx hb (kd dtX12_faultIn_0 23 rfl) (by decide) ?_
      refine lv_goto (tgt := 51) hx hb (kd dtX12_faultIn_0 24 rfl) (by decide) ?_
      obtain ⟨rfl, rfl⟩ := Prod.mk.inj (Option.some.inj hf)
      exact kiret F hX hr hlocks rfl (kd dtX12_faultIn_0 27 rfl)
theorem wmX12_121 : Cond.methodLink RX12 121 yX12_wrongRow ∈ kT := kTm 1366 (by decide +kernel) rfl
theorem mwX12_wrongRow : kMV RX12 yX12_wrongRow cX12_wrongRow 3 (some .int) := ⟨kTm 1369 (by decide +kernel) rfl, kTm 106 (by decide +kernel) rfl, kTm 1368 (by decide +kernel) rfl, kTm 42 (by decide +kernel) rfl⟩
theorem wmX12_124 : Cond.methodLink RX12 124 yX12_faultIn ∈ kT := kTm 1377 (by decide +kernel) rfl
theorem mwX12_faultIn : kMV RX12 yX12_faultIn cX12_faultIn 2 (some .int) := ⟨kTm 1380 (by decide +kernel) rfl, kTm 106 (by decide +kernel) rfl, kTm 1379 (by decide +kernel) rfl, kTm 43 (by decide +kernel) rfl⟩
def lX12_fault_0 : List (Nat × Instr × Nat) := [(0, .aload_n 0, 1), (1, .iload_n 1, 1), (2, .iconst 0, 1), (3, .invokevirtual 121, 3), (6, .istore_n 2, 1), (7, .iload_n 2, 1), (8, .ifCond .eq 7, 3), (11, .iload_n 2, 1), (12, .goto 8, 3), (15, .aload_n 0, 1), (16, .iload_n 1, 1), (17, .invokevirtual 124, 3), (20, .ireturn, 1)]
theorem dtX12_fault_0 : kDec cX12_fault lX12_fault_0 = true := by decide +kernel
noncomputable def fX12_fault (x1 : Int32) (w : rW) : Option (Int32 × rW) :=
  (fX12_wrongRow x1 (0 : Int32) w).bind fun v2 =>
  if v2 = 0 then
  kb2 (fX12_faultIn x1 w) fun v5 w3 =>
  some (v5, w3)
  else
  some (v2, w)

set_option maxHeartbeats 4000000 in
set_option maxRecDepth 100000 in
theorem rX12_fault (l : Launch) (D : va_G) (aC : Nat → ClassId) {h0 : Nat} {wB : kW} (hB : rOK h0 wB) {x1 : Int32} {w : rW} {wR : rW} {oR : Int32} (h : fX12_fault x1 w = some (oR, wR)) : kC l D aC yX12_fault cX12_fault 3 (some .int) 405 8896 [.ref h0, .int x1] (rWo h0 wB w) (some (.int oR)) (rWo h0 wB wR) 0 0 := by
  refine kOf (own := RX12) (by decide) rfl (Nat.le_of_ble_eq_true rfl) ?_
  intro p e s m below meth c ls F hml hr hlocks hnm hX hZ hl
  obtain ⟨hx, hb, hts, hown, hK⟩ := id F
  have hl : lv_has ls 3 [(0, .ref h0), (1, .int x1)] := hl
  have hf := h
  rw [fX12_fault] at hf
  refine lv_aload_n hx hb (kd dtX12_fault_0 0 rfl) rfl (lv_at hl 0 rfl) ?_
  refine lv_iload_n hx hb (kd dtX12_fault_0 1 rfl) rfl (lv_at hl 1 rfl) ?_
  refine lv_iconst (v := (0 : Int32)) hx hb (kd dtX12_fault_0 2 rfl) (by decide) ?_
  obtain ⟨v2, h1, hf⟩ := kbind hf
  refine kcallV (n := 2) [.int x1, .int (0 : Int32)] [] [.int v2] (rX12_wrongRow l D aC hB h1) rfl hB.1 F hml hX hZ hl.1 mwX12_wrongRow wmX12_121 rfl (by decide) (by decide +kernel) ⟨(by decide), (by decide)⟩ rfl rfl rfl (Nat.le_of_ble_eq_true rfl) (kd dtX12_fault_0 3 rfl) ⟨Nat.zero_le _, Nat.zero_le _⟩ (fun H locs hX => ?_)
  refine lv_istore_n (lv' := [(2, .int v2), (0, .ref h0), (1, .int x1)]) hx hb (kd dtX12_fault_0 4 rfl) rfl hl (by decide) rfl (fun ls hl => ?_)
  refine lv_iload_n hx hb (kd dtX12_fault_0 5 rfl) rfl (lv_at hl 0 rfl) ?_
  refine lv_if_eq (tgt := 15) hx hb (kd dtX12_fault_0 6 rfl) (by decide) (fun hc => ?_) (fun hc => ?_)
  · have hf := kif_pos hc hf
    refine lv_aload_n hx hb (kd dtX12_fault_0 9 rfl) rfl (lv_at hl 1 rfl) ?_
    refine lv_iload_n hx hb (kd dtX12_fault_0 10 rfl) rfl (lv_at hl 2 rfl) ?_
    obtain ⟨v5, w3, h4, hf⟩ := kbind2 hf
    refine kcallV (n := 1) [.int x1] [] [.int v5] (rX12_faultIn l D aC hB h4) rfl hB.1 F hml hX hZ hl.1 mwX12_faultIn wmX12_124 rfl (by decide) (by decide +kernel) ⟨(by decide), (by decide)⟩ rfl rfl rfl (Nat.le_of_ble_eq_true rfl) (kd dtX12_fault_0 11 rfl) ⟨Nat.zero_le _, Nat.zero_le _⟩ (fun H locs hX => ?_)
    obtain ⟨rfl, rfl⟩ := Prod.mk.inj (Option.some.inj hf)
    exact kiret F hX hr hlocks rfl (kd dtX12_fault_0 12 rfl)
  · have hf := kif_neg hc hf
    refine lv_iload_n hx hb (kd dtX12_fault_0 7 rfl) rfl (lv_at hl 0 rfl) ?_
    refine lv_goto (tgt := 20) hx hb (kd dtX12_fault_0 8 rfl) (by decide) ?_
    obtain ⟨rfl, rfl⟩ := Prod.mk.inj (Option.some.inj hf)
    exact kiret F hX hr hlocks rfl (kd dtX12_fault_0 12 rfl)
