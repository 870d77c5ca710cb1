theorem wmX3_3 : Cond.methodLink RX3 3 objectInit ∈ kT := kTm 389 (by decide +kernel) rfl
theorem wfX3_9 : Cond.fieldLink RX3 9 (TX3 1).1 (TX3 1).2.1 (TX3 1).2.2.1 ∈ kT := kTm 393 (by decide +kernel) rfl
theorem wfX3_15 : Cond.fieldLink RX3 15 (TX3 2).1 (TX3 2).2.1 (TX3 2).2.2.1 ∈ kT := kTm 395 (by decide +kernel) rfl
theorem wcX3_19 : Cond.constant RX3 19 (1000000 : Int32) ∈ kT := kTm 390 (by decide +kernel) rfl
theorem wfX3_20 : Cond.fieldLink RX3 20 (TX3 3).1 (TX3 3).2.1 (TX3 3).2.2.1 ∈ kT := kTm 397 (by decide +kernel) rfl
theorem wfX3_23 : Cond.fieldLink RX3 23 (TX3 4).1 (TX3 4).2.1 (TX3 4).2.2.1 ∈ kT := kTm 399 (by decide +kernel) rfl
theorem wfX3_26 : Cond.fieldLink RX3 26 (TX3 5).1 (TX3 5).2.1 (TX3 5).2.2.1 ∈ kT := kTm 402 (by decide +kernel) rfl
theorem wfX3_29 : Cond.fieldLink RX3 29 (TX3 6).1 (TX3 6).2.1 (TX3 6).2.2.1 ∈ kT := kTm 403 (by decide +kernel) rfl
theorem wfX3_32 : Cond.fieldLink RX3 32 (TX3 7).1 (TX3 7).2.1 (TX3 7).2.2.1 ∈ kT := kTm 404 (by decide +kernel) rfl
theorem wfX3_35 : Cond.fieldLink RX3 35 (TX3 8).1 (TX3 8).2.1 (TX3 8).2.2.1 ∈ kT := kTm 405 (by decide +kernel) rfl
theorem wmX3_38 : Cond.methodLink RX3 38 Lib.Math.max.name ∈ kT := kTm 391 (by decide +kernel) rfl
theorem wfX3_44 : Cond.fieldLink RX3 44 (TX3 0).1 (TX3 0).2.1 (TX3 0).2.2.1 ∈ kT := kTm 392 (by decide +kernel) rfl
def lX3_init_0 : List (Nat × Instr × Nat) := [(0, .aload_n 0, 1), (1, .invokespecial 3, 3), (4, .aload_n 0, 1), (5, .iconst 0, 1), (6, .putfield 9, 3), (9, .aload_n 0, 1), (10, .iconst 0, 1), (11, .putfield 15, 3), (14, .aload_n 0, 1), (15, .ldc 19, 2), (17, .putfield 20, 3), (20, .aload_n 0, 1), (21, .bipush 60, 2), (23, .putfield 23, 3), (26, .aload_n 0, 1), (27, .iconst 0, 1), (28, .putfield 26, 3), (31, .aload_n 0, 1), (32, .iconst 0, 1), (33, .putfield 29, 3), (36, .aload_n 0, 1), (37, .iconst 0, 1), (38, .putfield 32, 3), (41, .aload_n 0, 1), (42, .iconst 0, 1), (43, .putfield 35, 3), (46, .aload_n 0, 1), (47, .iload_n 1, 1), (48, .iconst 0, 1), (49, .invokestatic 38, 3), (52, .newarray .byte, 2), (54, .putfield 44, 3), (57, .return_, 1)]
theorem dtX3_init_0 : kDec cX3_init lX3_init_0 = true := by decide +kernel
noncomputable def fX3_init (x0 : Nat) (x1 : Int32) (w : kW) : Option kW :=
  (kpI w 3 (some x0) 1 (0 : Int32)).bind fun w1 =>
  (kpI w1 3 (some x0) 2 (0 : Int32)).bind fun w2 =>
  (kpI w2 3 (some x0) 3 (1000000 : Int32)).bind fun w3 =>
  (kpI w3 3 (some x0) 4 (60 : Int32)).bind fun w4 =>
  (kpI w4 3 (some x0) 5 (0 : Int32)).bind fun w5 =>
  (kpI w5 3 (some x0) 6 (0 : Int32)).bind fun w6 =>
  (kpI w6 3 (some x0) 7 (0 : Int32)).bind fun w7 =>
  (kpI w7 3 (some x0) 8 (0 : Int32)).bind fun w8 =>
  (knC w8 13 (kMmax x1 (0 : Int32)) 120).bind fun w9 =>
  (kpP w9 3 (some x0) 0 (some (kSz w8))).bind fun w10 =>
  some w10

set_option maxHeartbeats 4000000 in
set_option maxRecDepth 100000 in
theorem rX3_init (l : Launch) (D : va_G) (aC : Nat → ClassId) {x0 : Nat} {x1 : Int32} {w : kW} {wR : kW} (h : fX3_init x0 x1 w = some wR) : kC l D aC yX3_init cX3_init 2 none 1 21 [.ref x0, .int x1] w none wR 1 120 := by
  refine kOf (own := RX3) (by decide) rfl (Nat.le_of_ble_eq_true rfl) ?_
  intro p e s m below meth c ls F hml hr hlocks hnm hX hZ hl
  obtain ⟨hx, hb, hts, hown, hK⟩ := id F
  have hl : lv_has ls 2 [(0, .ref x0), (1, .int x1)] := hl
  have hf := h
  rw [fX3_init] at hf
  refine lv_aload_n hx hb (kd dtX3_init_0 0 rfl) rfl (lv_at hl 0 rfl) ?_
  refine kobj F (hml.trans hl.1.symm) wmX3_3 (Nat.le_of_ble_eq_true rfl) (Nat.le_of_ble_eq_true rfl) (kd dtX3_init_0 1 rfl) ?_
  refine lv_aload_n hx hb (kd dtX3_init_0 2 rfl) rfl (lv_at hl 0 rfl) ?_
  refine lv_iconst (v := (0 : Int32)) hx hb (kd dtX3_init_0 3 rfl) (by decide) ?_
  obtain ⟨w1, hw1, hf⟩ := kbind hf
  refine kputI hw1 F hX hinX3 tyX3_ok nmX3 rfl rfl rfl (by decide) (by decide) wfX3_9 rfl rfl (Or.inl rfl) (kd dtX3_init_0 4 rfl) (fun H locs hX => ?_)
  refine lv_aload_n hx hb (kd dtX3_init_0 5 rfl) rfl (lv_at hl 0 rfl) ?_
  refine lv_iconst (v := (0 : Int32)) hx hb (kd dtX3_init_0 6 rfl) (by decide) ?_
  obtain ⟨w2, hw2, hf⟩ := kbind hf
  refine kputI hw2 F hX hinX3 tyX3_ok nmX3 rfl rfl rfl (by decide) (by decide) wfX3_15 rfl rfl (Or.inl rfl) (kd dtX3_init_0 7 rfl) (fun H locs hX => ?_)
  refine lv_aload_n hx hb (kd dtX3_init_0 8 rfl) rfl (lv_at hl 0 rfl) ?_
  refine lv_ldc (v := (1000000 : Int32)) hx hb hown (hts _ wcX3_19) (kd dtX3_init_0 9 rfl) ?_
  obtain ⟨w3, hw3, hf⟩ := kbind hf
  refine kputI hw3 F hX hinX3 tyX3_ok nmX3 rfl rfl rfl (by decide) (by decide) wfX3_20 rfl rfl (Or.inl rfl) (kd dtX3_init_0 10 rfl) (fun H locs hX => ?_)
  refine lv_aload_n hx hb (kd dtX3_init_0 11 rfl) rfl (lv_at hl 0 rfl) ?_
  refine lv_bipush (v := (60 : Int32)) hx hb (kd dtX3_init_0 12 rfl) (by decide) ?_
  obtain ⟨w4, hw4, hf⟩ := kbind hf
  refine kputI hw4 F hX hinX3 tyX3_ok nmX3 rfl rfl rfl (by decide) (by decide) wfX3_23 rfl rfl (Or.inl rfl) (kd dtX3_init_0 13 rfl) (fun H locs hX => ?_)
  refine lv_aload_n hx hb (kd dtX3_init_0 14 rfl) rfl (lv_at hl 0 rfl) ?_
  refine lv_iconst (v := (0 : Int32)) hx hb (kd dtX3_init_0 15 rfl) (by decide) ?_
  obtain ⟨w5, hw5, hf⟩ := kbind hf
  refine kputI hw5 F hX hinX3 tyX3_ok nmX3 rfl rfl rfl (by decide) (by decide) wfX3_26 rfl rfl (Or.inl rfl) (kd dtX3_init_0 16 rfl) (fun H locs hX => ?_)
  refine lv_aload_n hx hb (kd dtX3_init_0 17 rfl) rfl (lv_at hl 0 rfl) ?_
  refine lv_iconst (v := (0 : Int32)) hx hb (kd dtX3_init_0 18 rfl) (by decide) ?_
  obtain ⟨w6, hw6, hf⟩ := kbind hf
  refine kputI hw6 F hX hinX3 tyX3_ok nmX3 rfl rfl rfl (by decide) (by decide) wfX3_29 rfl rfl (Or.inl rfl) (kd dtX3_init_0 19 rfl) (fun H locs hX => ?_)
  refine lv_aload_n hx hb (kd dtX3_init_0 20 rfl) rfl (lv_at hl 0 rfl) ?_
  refine lv_iconst (v := (0 : Int32)) hx hb (kd dtX3_init_0 21 rfl) (by decide) ?_
  obtain ⟨w7, hw7, hf⟩ := kbind hf
  refine kputI hw7 F hX hinX3 tyX3_ok nmX3 rfl rfl rfl (by decide) (by decide) wfX3_32 rfl rfl (Or.inl rfl) (kd dtX3_init_0 22 rfl) (fun H locs hX => ?_)
  refine lv_aload_n hx hb (kd dtX3_init_0 23 rfl) rfl (lv_at hl 0 rfl) ?_
  refine lv_iconst (v := (0 : Int32)) hx hb (kd dtX3_init_0 24 rfl) (by decide) ?_
  obtain ⟨w8, hw8, hf⟩ := kbind hf
  refine kputI hw8 F hX hinX3 tyX3_ok nmX3 rfl rfl rfl (by decide) (by decide) wfX3_35 rfl rfl (Or.inl rfl) (kd dtX3_init_0 25 rfl) (fun H locs hX => ?_)
  refine lv_aload_n hx hb (kd dtX3_init_0 26 rfl) rfl (lv_at hl 0 rfl) ?_
  refine lv_iload_n hx hb (kd dtX3_init_0 27 rfl) rfl (lv_at hl 1 rfl) ?_
  refine lv_iconst (v := (0 : Int32)) hx hb (kd dtX3_init_0 28 rfl) (by decide) ?_
  refine kmmax F (hml.trans hl.1.symm) wmX3_38 (Nat.le_of_ble_eq_true rfl) (by simp [kcat_rf, kcat_i, kcat_r, kcat_l]) (Nat.zero_le _) (Nat.zero_le _) (kd dtX3_init_0 29 rfl) ?_
  obtain ⟨w9, hw9, hf⟩ := kbind hf
  obtain ⟨hcw9, hw9⟩ := knC_s hw9
  refine knewa (mx := 120) hw9 rfl (fun _ => rfl) (by decide) (by decide) F hX wA13 hcw9 (by decide) (Nat.le_of_ble_eq_true rfl) (Nat.le_of_ble_eq_true rfl) (kd dtX3_init_0 30 rfl) (fun H hX => ?_)
  obtain ⟨w10, hw10, hf⟩ := kbind hf
  refine kputP hw10 F hX hinX3 tyX3_ok nmX3 rfl rfl rfl (by decide) (by decide) wfX3_44 (Or.inr ⟨rfl, hnm, rfl⟩) (kd dtX3_init_0 31 rfl) (fun H locs hX => ?_)
  cases hf
  refine W.widen (k := 1) (n := 120) (Nat.le_of_ble_eq_true rfl) (Nat.le_of_ble_eq_true rfl) ?_
  exact kvret F hX hr hlocks rfl (kd dtX3_init_0 32 rfl)
def lX3_addAct_0 : List (Nat × Instr × Nat) := [(0, .aload_n 0, 1), (1, .getfield 9, 3), (4, .aload_n 0, 1), (5, .getfield 44, 3), (8, .arraylength, 1), (9, .if_icmp .ge 24, 3), (12, .aload_n 0, 1), (13, .getfield 44, 3), (16, .aload_n 0, 1), (17, .getfield 9, 3), (20, .iload_n 1, 1), (21, .i2b, 1), (22, .bastore, 1), (23, .aload_n 0, 1), (24, .dup, 1), (25, .getfield 9, 3), (28, .iconst 1, 1), (29, .iadd, 1), (30, .putfield 9, 3), (33, .return_, 1)]
theorem dtX3_addAct_0 : kDec cX3_addAct lX3_addAct_0 = true := by decide +kernel
noncomputable def fX3_addAct (x0 : Nat) (x1 : Int32) (w : kW) : Option kW :=
  (kgI w 3 (some x0) 1).bind fun v1 =>
  (kgP w 3 (some x0) 0).bind fun v2 =>
  (kal w 13 v2).bind fun v3 =>
  if v3 ≤ v1 then
  some w
  else
  (kgP w 3 (some x0) 0).bind fun v4 =>
  (kgI w 3 (some x0) 1).bind fun v5 =>
  (ksI w 13 v4 v5 x1.toInt8.toInt32).bind fun w6 =>
  (kgI w6 3 (some x0) 1).bind fun v7 =>
  (kpI w6 3 (some x0) 1 (v7 + (1 : Int32))).bind fun w8 =>
  some w8

set_option maxHeartbeats 4000000 in
set_option maxRecDepth 100000 in
theorem rX3_addAct (l : Launch) (D : va_G) (aC : Nat → ClassId) {x0 : Nat} {x1 : Int32} {w : kW} {wR : kW} (h : fX3_addAct x0 x1 w = some wR) : kC l D aC yX3_addAct cX3_addAct 2 none 1 12 [.ref x0, .int x1] w none wR 0 0 := by
  refine kOf (own := RX3) (by decide) rfl (Nat.le_of_ble_eq_true rfl) ?_
  intro p e s m below meth c ls F hml hr hlocks hnm hX hZ hl
  obtain ⟨hx, hb, hts, hown, hK⟩ := id F
  have hl : lv_has ls 2 [(0, .ref x0), (1, .int x1)] := hl
  have hf := h
  rw [fX3_addAct] at hf
  refine lv_aload_n hx hb (kd dtX3_addAct_0 0 rfl) rfl (lv_at hl 0 rfl) ?_
  obtain ⟨v1, hv1, hf⟩ := kbind hf
  refine kgetI hv1 F hX hinX3 rfl rfl rfl (by decide) (by decide) wfX3_9 (kd dtX3_addAct_0 1 rfl) ?_
  refine lv_aload_n hx hb (kd dtX3_addAct_0 2 rfl) rfl (lv_at hl 0 rfl) ?_
  obtain ⟨v2, hv2, hf⟩ := kbind hf
  refine kgetP hv2 F hX hinX3 rfl rfl rfl (by decide) (by decide) wfX3_44 (kd dtX3_addAct_0 3 rfl) ?_
  obtain ⟨v3, hv3, hf⟩ := kbind hf
  refine kalen hv3 (by decide) (by decide) F hX (kd dtX3_addAct_0 4 rfl) ?_
  refine lv_icmp_ge (tgt := 33) hx hb (kd dtX3_addAct_0 5 rfl) (by decide) (fun hc => ?_) (fun hc => ?_)
  · have hf := kif_pos hc hf
    cases hf
    exact kvret F hX hr hlocks rfl (kd dtX3_addAct_0 19 rfl)
  · have hf := kif_neg hc hf
    refine lv_aload_n hx hb (kd dtX3_addAct_0 6 rfl) rfl (lv_at hl 0 rfl) ?_
    obtain ⟨v4, hv4, hf⟩ := kbind hf
    refine kgetP hv4 F hX hinX3 rfl rfl rfl (by decide) (by decide) wfX3_44 (kd dtX3_addAct_0 7 rfl) ?_
    refine lv_aload_n hx hb (kd dtX3_addAct_0 8 rfl) rfl (lv_at hl 0 rfl) ?_
    obtain ⟨v5, hv5, hf⟩ := kbind hf
    refine kgetI hv5 F hX hinX3 rfl rfl rfl (by decide) (by decide) wfX3_9 (kd dtX3_addAct_0 9 rfl) ?_
    refine lv_iload_n hx hb (kd dtX3_addAct_0 10 rfl) rfl (lv_at hl 1 rfl) ?_
    refine lv_i2b (v := x1.toInt8.toInt32) hx hb (kd dtX3_addAct_0 11 rfl) rfl ?_
    obtain ⟨w6, hw6, hf⟩ := kbind hf
    refine kbst hw6 F hX (kd dtX3_addAct_0 12 rfl) (fun H locs hX => ?_)
    refine lv_aload_n hx hb (kd dtX3_addAct_0 13 rfl) rfl (lv_at hl 0 rfl) ?_
    refine lv_dup hx hb (kd dtX3_addAct_0 14 rfl) rfl ?_
    obtain ⟨v7, hv7, hf⟩ := kbind hf
    refine kgetI hv7 F hX hinX3 rfl rfl rfl (by decide) (by decide) wfX3_9 (kd dtX3_addAct_0 15 rfl) ?_
    refine lv_iconst (v := (1 : Int32)) hx hb (kd dtX3_addAct_0 16 rfl) (by decide) ?_
    refine lv_iadd hx hb (kd dtX3_addAct_0 17 rfl) ?_
    obtain ⟨w8, hw8, hf⟩ := kbind hf
    refine kputI hw8 F hX hinX3 tyX3_ok nmX3 rfl rfl rfl (by decide) (by decide) wfX3_9 rfl rfl (Or.inl rfl) (kd dtX3_addAct_0 18 rfl) (fun H locs hX => ?_)
    cases hf
    exact kvret F hX hr hlocks rfl (kd dtX3_addAct_0 19 rfl)
theorem wmX3_61 : Cond.methodLink RX3 61 yX3_addAct ∈ kT := kTm 823 (by decide +kernel) rfl
theorem mwX3_addAct : kMV RX3 yX3_addAct cX3_addAct 2 none := ⟨kTm 450 (by decide +kernel) rfl, kTm 104 (by decide +kernel) rfl, kTm 449 (by decide +kernel) rfl, kTm 0 (by decide +kernel) rfl⟩
def lX3_beginsStatement_0 : List (Nat × Instr × Nat) := [(0, .iload_n 1, 1), (1, .bipush 109, 2), (3, .if_icmp .eq 15, 3), (6, .iload_n 1, 1), (7, .bipush 100, 2), (9, .if_icmp .eq 9, 3), (12, .iload_n 1, 1), (13, .bipush 99, 2), (15, .if_icmp .ne 16, 3), (18, .aload_n 0, 1), (19, .iload_n 1, 1), (20, .invokevirtual 61, 3), (23, .aload_n 0, 1), (24, .iconst 1, 1), (25, .putfield 26, 3), (28, .goto 59, 3), (31, .iload_n 1, 1), (32, .bipush 108, 2), (34, .if_icmp .ne 16, 3), (37, .aload_n 0, 1), (38, .iconst 1, 1), (39, .putfield 15, 3), (42, .aload_n 0, 1), (43, .iconst 1, 1), (44, .putfield 26, 3), (47, .goto 40, 3), (50, .iload_n 1, 1), (51, .bipush 107, 2), (53, .if_icmp .eq 9, 3), (56, .iload_n 1, 1), (57, .bipush 115, 2), (59, .if_icmp .ne 26, 3), (62, .aload_n 0, 1), (63, .iload_n 1, 1), (64, .putfield 29, 3), (67, .aload_n 0, 1), (68, .iconst 0, 1), (69, .putfield 32, 3), (72, .aload_n 0, 1), (73, .iconst 0, 1), (74, .putfield 35, 3), (77, .aload_n 0, 1), (78, .iconst 2, 1), (79, .putfield 26, 3), (82, .goto 5, 3), (85, .iconst 0, 1), (86, .ireturn, 1), (87, .iconst 1, 1), (88, .ireturn, 1)]
theorem dtX3_beginsStatement_0 : kDec cX3_beginsStatement lX3_beginsStatement_0 = true := by decide +kernel
noncomputable def fX3_beginsStatement (x0 : Nat) (x1 : Int32) (w : kW) : Option (Int32 × kW) :=
  if x1 = (109 : Int32) then
  (kRc w 3 (some x0)).bind fun b1 =>
  (fX3_addAct b1 x1 w).bind fun w2 =>
  (kpI w2 3 (some x0) 5 (1 : Int32)).bind fun w4 =>
  some ((1 : Int32), w4)
  else
  if x1 = (100 : Int32) then
  (kRc w 3 (some x0)).bind fun b5 =>
  (fX3_addAct b5 x1 w).bind fun w6 =>
  (kpI w6 3 (some x0) 5 (1 : Int32)).bind fun w8 =>
  some ((1 : Int32), w8)
  else
  if x1 = (99 : Int32) then
  (kRc w 3 (some x0)).bind fun b19 =>
  (fX3_addAct b19 x1 w).bind fun w20 =>
  (kpI w20 3 (some x0) 5 (1 : Int32)).bind fun w22 =>
  some ((1 : Int32), w22)
  else
  if x1 = (108 : Int32) then
  (kpI w 3 (some x0) 2 (1 : Int32)).bind fun w17 =>
  (kpI w17 3 (some x0) 5 (1 : Int32)).bind fun w18 =>
  some ((1 : Int32), w18)
  else
  if x1 = (107 : Int32) then
  (kpI w 3 (some x0) 6 x1).bind fun w9 =>
  (kpI w9 3 (some x0) 7 (0 : Int32)).bind fun w10 =>
  (kpI w10 3 (some x0) 8 (0 : Int32)).bind fun w11 =>
  (kpI w11 3 (some x0) 5 (2 : Int32)).bind fun w12 =>
  some ((1 : Int32), w12)
  else
  if x1 = (115 : Int32) then
  (kpI w 3 (some x0) 6 x1).bind fun w13 =>
  (kpI w13 3 (some x0) 7 (0 : Int32)).bind fun w14 =>
  (kpI w14 3 (some x0) 8 (0 : Int32)).bind fun w15 =>
  (kpI w15 3 (some x0) 5 (2 : Int32)).bind fun w16 =>
  some ((1 : Int32), w16)
  else
  some ((0 : Int32), w)

set_option maxHeartbeats 4000000 in
set_option maxRecDepth 100000 in
theorem rX3_beginsStatement (l : Launch) (D : va_G) (aC : Nat → ClassId) {x0 : Nat} {x1 : Int32} {w : kW} {wR : kW} {oR : Int32} (h : fX3_beginsStatement x0 x1 w = some (oR, wR)) : kC l D aC yX3_beginsStatement cX3_beginsStatement 2 (some .boolean) 2 33 [.ref x0, .int x1] w (some (.int oR)) wR 0 0 := by
  refine kOf (own := RX3) (by decide) rfl (Nat.le_of_ble_eq_true rfl) ?_
  intro p e s m below meth c ls F hml hr hlocks hnm hX hZ hl
  obtain ⟨hx, hb, hts, hown, hK⟩ := id F
  have hl : lv_has ls 2 [(0, .ref x0), (1, .int x1)] := hl
  have hf := h
  rw [fX3_beginsStatement] at hf
  refine lv_iload_n hx hb (kd dtX3_beginsStatement_0 0 rfl) rfl (lv_at hl 1 rfl) ?_
  refine lv_bipush (v := (109 : Int32)) hx hb (kd dtX3_beginsStatement_0 1 rfl) (by decide) ?_
  refine lv_icmp_eq (tgt := 18) hx hb (kd dtX3_beginsStatement_0 2 rfl) (by decide) (fun hc => ?_) (fun hc => ?_)
  · have hf := kif_pos hc hf
    refine lv_aload_n hx hb (kd dtX3_beginsStatement_0 9 rfl) rfl (lv_at hl 0 rfl) ?_
    refine lv_iload_n hx hb (kd dtX3_beginsStatement_0 10 rfl) rfl (lv_at hl 1 rfl) ?_
    obtain ⟨b1, hb1, hf⟩ := kbind hf
    obtain ⟨hrb1, hkb1⟩ := kRc_s hb1
    obtain ⟨w2, h3, hf⟩ := kbind hf
    refine kcallV (n := 1) [.int x1] [] [] (rX3_addAct l D aC h3) hrb1 hkb1 F hml hX hZ hl.1 mwX3_addAct wmX3_61 rfl (by decide) (by decide +kernel) ⟨(by decide), (by decide)⟩ rfl rfl rfl (Nat.le_of_ble_eq_true rfl) (kd dtX3_beginsStatement_0 11 rfl) ⟨Nat.zero_le _, Nat.zero_le _⟩ (fun H locs hX => ?_)
    refine lv_aload_n hx hb (kd dtX3_beginsStatement_0 12 rfl) rfl (lv_at hl 0 rfl) ?_
    refine lv_iconst (v := (1 : Int32)) hx hb (kd dtX3_beginsStatement_0 13 rfl) (by decide) ?_
    obtain ⟨w4, hw4, hf⟩ := kbind hf
    refine kputI hw4 F hX hinX3 tyX3_ok nmX3 rfl rfl rfl (by decide) (by decide) wfX3_26 rfl rfl (Or.inl rfl) (kd dtX3_beginsStatement_0 14 rfl) (fun H locs hX => ?_)
    refine lv_goto (tgt := 87) hx hb (kd dtX3_beginsStatement_0 15 rfl) (by decide) ?_
    refine lv_iconst (v := (1 : Int32)) hx hb (kd dtX3_beginsStatement_0 47 rfl) (by decide) ?_
    cases hf
    exact kzret F hX hr hlocks rfl rfl (kd dtX3_beginsStatement_0 48 rfl)
  · have hf := kif_neg hc hf
    refine lv_iload_n hx hb (kd dtX3_beginsStatement_0 3 rfl) rfl (lv_at hl 1 rfl) ?_
    refine lv_bipush (v := (100 : Int32)) hx hb (kd dtX3_beginsStatement_0 4 rfl) (by decide) ?_
    refine lv_icmp_eq (tgt := 18) hx hb (kd dtX3_beginsStatement_0 5 rfl) (by decide) (fun hc => ?_) (fun hc => ?_)
    · have hf := kif_pos hc hf
      refine lv_aload_n hx hb (kd dtX3_beginsStatement_0 9 rfl) rfl (lv_at hl 0 rfl) ?_
      refine lv_iload_n hx hb (kd dtX3_beginsStatement_0 10 rfl) rfl (lv_at hl 1 rfl) ?_
      obtain ⟨b5, hb5, hf⟩ := kbind hf
      obtain ⟨hrb5, hkb5⟩ := kRc_s hb5
      obtain ⟨w6, h7, hf⟩ := kbind hf
      refine kcallV (n := 1) [.int x1] [] [] (rX3_addAct l D aC h7) hrb5 hkb5 F hml hX hZ hl.1 mwX3_addAct wmX3_61 rfl (by decide) (by decide +kernel) ⟨(by decide), (by decide)⟩ rfl rfl rfl (Nat.le_of_ble_eq_true rfl) (kd dtX3_beginsStatement_0 11 rfl) ⟨Nat.zero_le _, Nat.zero_le _⟩ (fun H locs hX => ?_)
      refine lv_aload_n hx hb (kd dtX3_beginsStatement_0 12 rfl) rfl (lv_at hl 0 rfl) ?_
      refine lv_iconst (v := (1 : Int32)) hx hb (kd dtX3_beginsStatement_0 13 rfl) (by decide) ?_
      obtain ⟨w8, hw8, hf⟩ := kbind hf
      refine kputI hw8 F hX hinX3 tyX3_ok nmX3 rfl rfl rfl (by decide) (by decide) wfX3_26 rfl rfl (Or.inl rfl) (kd dtX3_beginsStatement_0 14 rfl) (fun H locs hX => ?_)
      refine lv_goto (tgt := 87) hx hb (kd dtX3_beginsStatement_0 15 rfl) (by decide) ?_
      refine lv_iconst (v := (1 : Int32)) hx hb (kd dtX3_beginsStatement_0 47 rfl) (by decide) ?_
      cases hf
      exact kzret F hX hr hlocks rfl rfl (kd dtX3_beginsStatement_0 48 rfl)
    · have hf := kif_neg hc hf
      refine lv_iload_n hx hb (kd dtX3_beginsStatement_0 6 rfl) rfl (lv_at hl 1 rfl) ?_
      refine lv_bipush (v := (99 : Int32)) hx hb (kd dtX3_beginsStatement_0 7 rfl) (by decide) ?_
      refine lv_icmp_ne (tgt := 31) hx hb (kd dtX3_beginsStatement_0 8 rfl) (by decide) (fun hc => ?_) (fun hc => ?_)
      · have hf := kif_neg hc hf
        refine lv_iload_n hx hb (kd dtX3_beginsStatement_0 16 rfl) rfl (lv_at hl 1 rfl) ?_
        refine lv_bipush (v := (108 : Int32)) hx hb (kd dtX3_beginsStatement_0 17 rfl) (by decide) ?_
        refine lv_icmp_ne (tgt := 50) hx hb (kd dtX3_beginsStatement_0 18 rfl) (by decide) (fun hc => ?_) (fun hc => ?_)
        · have hf := kif_neg hc hf
          refine lv_iload_n hx hb (kd dtX3_beginsStatement_0 26 rfl) rfl (lv_at hl 1 rfl) ?_
          refine lv_bipush (v := (107 : Int32)) hx hb (kd dtX3_beginsStatement_0 27 rfl) (by decide) ?_
          refine lv_icmp_eq (tgt := 62) hx hb (kd dtX3_beginsStatement_0 28 rfl) (by decide) (fun hc => ?_) (fun hc => ?_)
          · have hf := kif_pos hc hf
            refine lv_aload_n hx hb (kd dtX3_beginsStatement_0 32 rfl) rfl (lv_at hl 0 rfl) ?_
            refine lv_iload_n hx hb (kd dtX3_beginsStatement_0 33 rfl) rfl (lv_at hl 1 rfl) ?_
            obtain ⟨w9, hw9, hf⟩ := kbind hf
            refine kputI hw9 F hX hinX3 tyX3_ok nmX3 rfl rfl rfl (by decide) (by decide) wfX3_29 rfl rfl (Or.inl rfl) (kd dtX3_beginsStatement_0 34 rfl) (fun H locs hX => ?_)
            refine lv_aload_n hx hb (kd dtX3_beginsStatement_0 35 rfl) rfl (lv_at hl 0 rfl) ?_
            refine lv_iconst (v := (0 : Int32)) hx hb (kd dtX3_beginsStatement_0 36 rfl) (by decide) ?_
            obtain ⟨w10, hw10, hf⟩ := kbind hf
            refine kputI hw10 F hX hinX3 tyX3_ok nmX3 rfl rfl rfl (by decide) (by decide) wfX3_32 rfl rfl (Or.inl rfl) (kd dtX3_beginsStatement_0 37 rfl) (fun H locs hX => ?_)
            refine lv_aload_n hx hb (kd dtX3_beginsStatement_0 38 rfl) rfl (lv_at hl 0 rfl) ?_
            refine lv_iconst (v := (0 : Int32)) hx hb (kd dtX3_beginsStatement_0 39 rfl) (by decide) ?_
            obtain ⟨w11, hw11, hf⟩ := kbind hf
            refine kputI hw11 F hX hinX3 tyX3_ok nmX3 rfl rfl rfl (by decide) (by decide) wfX3_35 rfl rfl (Or.inl rfl) (kd dtX3_beginsStatement_0 40 rfl) (fun H locs hX => ?_)
            refine lv_aload_n hx hb (kd dtX3_beginsStatement_0 41 rfl) rfl (lv_at hl 0 rfl) ?_
            refine lv_iconst (v := (2 : Int32)) hx hb (kd dtX3_beginsStatement_0 42 rfl) (by decide) ?_
            obtain ⟨w12, hw12, hf⟩ := kbind hf
            refine kputI hw12 F hX hinX3 tyX3_ok nmX3 rfl rfl rfl (by decide) (by decide) wfX3_26 rfl rfl (Or.inl rfl) (kd dtX3_beginsStatement_0 43 rfl) (fun H locs hX => ?_)
            refine lv_goto (tgt := 87) hx hb (kd dtX3_beginsStatement_0 44 rfl) (by decide) ?_
            refine lv_iconst (v := (1 : Int32)) hx hb (kd dtX3_beginsStatement_0 47 rfl) (by decide) ?_
            cases hf
            exact kzret F hX hr hlocks rfl rfl (kd dtX3_beginsStatement_0 48 rfl)
          · have hf := kif_neg hc hf
            refine lv_iload_n hx hb (kd dtX3_beginsStatement_0 29 rfl) rfl (lv_at hl 1 rfl) ?_
            refine lv_bipush (v := (115 : Int32)) hx hb (kd dtX3_beginsStatement_0 30 rfl) (by decide) ?_
            refine lv_icmp_ne (tgt := 85) hx hb (kd dtX3_beginsStatement_0 31 rfl) (by decide) (fun hc => ?_) (fun hc => ?_)
            · have hf := kif_neg hc hf
              refine lv_iconst (v := (0 : Int32)) hx hb (kd dtX3_beginsStatement_0 45 rfl) (by decide) ?_
              cases hf
              exact kzret F hX hr hlocks rfl rfl (kd dtX3_beginsStatement_0 46 rfl)
            · have hf := kif_pos hc hf
              refine lv_aload_n hx hb (kd dtX3_beginsStatement_0 32 rfl) rfl (lv_at hl 0 rfl) ?_
              refine lv_iload_n hx hb (kd dtX3_beginsStatement_0 33 rfl) rfl (lv_at hl 1 rfl) ?_
              obtain ⟨w13, hw13, hf⟩ := kbind hf
              refine kputI hw13 F hX hinX3 tyX3_ok nmX3 rfl rfl rfl (by decide) (by decide) wfX3_29 rfl rfl (Or.inl rfl) (kd dtX3_beginsStatement_0 34 rfl) (fun H locs hX => ?_)
              refine lv_aload_n hx hb (kd dtX3_beginsStatement_0 35 rfl) rfl (lv_at hl 0 rfl) ?_
              refine lv_iconst (v := (0 : Int32)) hx hb (kd dtX3_beginsStatement_0 36 rfl) (by decide) ?_
              obtain ⟨w14, hw14, hf⟩ := kbind hf
              refine kputI hw14 F hX hinX3 tyX3_ok nmX3 rfl rfl rfl (by decide) (by decide) wfX3_32 rfl rfl (Or.inl rfl) (kd dtX3_beginsStatement_0 37 rfl) (fun H locs hX => ?_)
              refine lv_aload_n hx hb (kd dtX3_beginsStatement_0 38 rfl) rfl (lv_at hl 0 rfl) ?_
              refine lv_iconst (v := (0 : Int32)) hx hb (kd dtX3_beginsStatement_0 39 rfl) (by decide) ?_
              obtain ⟨w15, hw15, hf⟩ := kbind hf
              refine kputI hw15 F hX hinX3 tyX3_ok nmX3 rfl rfl rfl (by decide) (by decide) wfX3_35 rfl rfl (Or.inl rfl) (kd dtX3_beginsStatement_0 40 rfl) (fun H locs hX => ?_)
              refine lv_aload_n hx hb (kd dtX3_beginsStatement_0 41 rfl) rfl (lv_at hl 0 rfl) ?_
              refine lv_iconst (v := (2 : Int32)) hx hb (kd dtX3_beginsStatement_0 42 rfl) (by decide) ?_
              obtain ⟨w16, hw16, hf⟩ := kbind hf
              refine kputI hw16 F hX hinX3 tyX3_ok nmX3 rfl rfl rfl (by decide) (by decide) wfX3_26 rfl rfl (Or.inl rfl) (kd dtX3_beginsStatement_0 43 rfl) (fun H locs hX => ?_)
              refine lv_goto (tgt := 87) hx hb (kd dtX3_beginsStatement_0 44 rfl) (by decide) ?_
              refine lv_iconst (v := (1 : Int32)) hx hb (kd dtX3_beginsStatement_0 47 rfl) (by decide) ?_
              cases hf
              exact kzret F hX hr hlocks rfl rfl (kd dtX3_beginsStatement_0 48 rfl)
        · have hf := kif_pos hc hf
          refine lv_aload_n hx hb (kd dtX3_beginsStatement_0 19 rfl) rfl (lv_at hl 0 rfl) ?_
          refine lv_iconst (v := (1 : Int32)) hx hb (kd dtX3_beginsStatement_0 20 rfl) (by decide) ?_
          obtain ⟨w17, hw17, hf⟩ := kbind hf
          refine kputI hw17 F hX hinX3 tyX3_ok nmX3 rfl rfl rfl (by decide) (by decide) wfX3_15 rfl rfl (Or.inl rfl) (kd dtX3_beginsStatement_0 21 rfl) (fun H locs hX => ?_)
          refine lv_aload_n hx hb (kd dtX3_beginsStatement_0 22 rfl) rfl (lv_at hl 0 rfl) ?_
          refine lv_iconst (v := (1 : Int32)) hx hb (kd dtX3_beginsStatement_0 23 rfl) (by decide) ?_
          obtain ⟨w18, hw18, hf⟩ := kbind hf
          refine kputI hw18 F hX hinX3 tyX3_ok nmX3 rfl rfl rfl (by decide) (by decide) wfX3_26 rfl rfl (Or.inl rfl) (kd dtX3_beginsStatement_0 24 rfl) (fun H locs hX => ?_)
          refine lv_goto (tgt := 87) hx hb (kd dtX3_beginsStatement_0 25 rfl) (by decide) ?_
          refine lv_iconst (v := (1 : Int32)) hx hb (kd dtX3_beginsStatement_0 47 rfl) (by decide) ?_
          cases hf
          exact kzret F hX hr hlocks rfl rfl (kd dtX3_beginsStatement_0 48 rfl)
      · have hf := kif_pos hc hf
        refine lv_aload_n hx hb (kd dtX3_beginsStatement_0 9 rfl) rfl (lv_at hl 0 rfl) ?_
        refine lv_iload_n hx hb (kd dtX3_beginsStatement_0 10 rfl) rfl (lv_at hl 1 rfl) ?_
        obtain ⟨b19, hb19, hf⟩ := kbind hf
        obtain ⟨hrb19, hkb19⟩ := kRc_s hb19
        obtain ⟨w20, h21, hf⟩ := kbind hf
        refine kcallV (n := 1) [.int x1] [] [] (rX3_addAct l D aC h21) hrb19 hkb19 F hml hX hZ hl.1 mwX3_addAct wmX3_61 rfl (by decide) (by decide +kernel) ⟨(by decide), (by decide)⟩ rfl rfl rfl (Nat.le_of_ble_eq_true rfl) (kd dtX3_beginsStatement_0 11 rfl) ⟨Nat.zero_le _, Nat.zero_le _⟩ (fun H locs hX => ?_)
        refine lv_aload_n hx hb (kd dtX3_beginsStatement_0 12 rfl) rfl (lv_at hl 0 rfl) ?_
        refine lv_iconst (v := (1 : Int32)) hx hb (kd dtX3_beginsStatement_0 13 rfl) (by decide) ?_
        obtain ⟨w22, hw22, hf⟩ := kbind hf
        refine kputI hw22 F hX hinX3 tyX3_ok nmX3 rfl rfl rfl (by decide) (by decide) wfX3_26 rfl rfl (Or.inl rfl) (kd dtX3_beginsStatement_0 14 rfl) (fun H locs hX => ?_)
        refine lv_goto (tgt := 87) hx hb (kd dtX3_beginsStatement_0 15 rfl) (by decide) ?_
        refine lv_iconst (v := (1 : Int32)) hx hb (kd dtX3_beginsStatement_0 47 rfl) (by decide) ?_
        cases hf
        exact kzret F hX hr hlocks rfl rfl (kd dtX3_beginsStatement_0 48 rfl)
theorem wmX3_65 : Cond.methodLink RX3 65 Lib.Math.min.name ∈ kT := kTm 828 (by decide +kernel) rfl
def lX3_goesOnNumber_0 : List (Nat × Instr × Nat) := [(0, .aload_n 0, 1), (1, .getfield 35, 3), (4, .ifCond .ne 8, 3), (7, .bipush 49, 2), (9, .goto 5, 3), (12, .bipush 48, 2), (14, .istore_n 2, 1), (15, .iload_n 1, 1), (16, .iload_n 2, 1), (17, .if_icmp .lt 45, 3), (20, .iload_n 1, 1), (21, .bipush 57, 2), (23, .if_icmp .gt 39, 3), (26, .aload_n 0, 1), (27, .getfield 35, 3), (30, .iconst 3, 1), (31, .if_icmp .ge 31, 3), (34, .aload_n 0, 1), (35, .aload_n 0, 1), (36, .getfield 32, 3), (39, .bipush 10, 2), (41, .imul, 1), (42, .iload_n 1, 1), (43, .bipush 48, 2), (45, .isub, 1), (46, .iadd, 1), (47, .putfield 32, 3), (50, .aload_n 0, 1), (51, .dup, 1), (52, .getfield 35, 3), (55, .iconst 1, 1), (56, .iadd, 1), (57, .putfield 35, 3), (60, .iconst 1, 1), (61, .ireturn, 1), (62, .aload_n 0, 1), (63, .getfield 35, 3), (66, .ifCond .eq 9, 3), (69, .iload_n 1, 1), (70, .bipush 59, 2), (72, .if_icmp .eq 5, 3), (75, .iconst 0, 1), (76, .ireturn, 1), (77, .aload_n 0, 1), (78, .getfield 29, 3), (81, .bipush 107, 2), (83, .if_icmp .ne 14, 3), (86, .aload_n 0, 1), (87, .aload_n 0, 1), (88, .getfield 32, 3), (91, .putfield 20, 3), (94, .goto 16, 3), (97, .aload_n 0, 1), (98, .aload_n 0, 1), (99, .getfield 32, 3), (102, .bipush 100, 2), (104, .invokestatic 65, 3), (107, .putfield 23, 3), (110, .aload_n 0, 1), (111, .iconst 0, 1), (112, .putfield 26, 3), (115, .iconst 1, 1), (116, .ireturn, 1)]
theorem dtX3_goesOnNumber_0 : kDec cX3_goesOnNumber lX3_goesOnNumber_0 = true := by decide +kernel
noncomputable def fX3_goesOnNumber_J62 (x0 : Nat) (x1 : Int32) (x2 : Int32) (w : kW) : Option (Int32 × kW) :=
  (kgI w 3 (some x0) 8).bind fun v1 =>
  if v1 = 0 then
  some ((0 : Int32), w)
  else
  if x1 = (59 : Int32) then
  (kgI w 3 (some x0) 6).bind fun v2 =>
  if v2 = (107 : Int32) then
  (kgI w 3 (some x0) 7).bind fun v6 =>
  (kpI w 3 (some x0) 3 v6).bind fun w7 =>
  (kpI w7 3 (some x0) 5 (0 : Int32)).bind fun w8 =>
  some ((1 : Int32), w8)
  else
  (kgI w 3 (some x0) 7).bind fun v3 =>
  (kpI w 3 (some x0) 4 (kMmin v3 (100 : Int32))).bind fun w4 =>
  (kpI w4 3 (some x0) 5 (0 : Int32)).bind fun w5 =>
  some ((1 : Int32), w5)
  else
  some ((0 : Int32), w)

noncomputable def fX3_goesOnNumber_J14 (x0 : Nat) (x1 : Int32) (s0 : Int32) (w : kW) : Option (Int32 × kW) :=
  if x1 < s0 then
  fX3_goesOnNumber_J62 x0 x1 s0 w
  else
  if (57 : Int32) < x1 then
  fX3_goesOnNumber_J62 x0 x1 s0 w
  else
  (kgI w 3 (some x0) 8).bind fun v1 =>
  if (3 : Int32) ≤ v1 then
  fX3_goesOnNumber_J62 x0 x1 s0 w
  else
  (kgI w 3 (some x0) 7).bind fun v2 =>
  (kpI w 3 (some x0) 7 ((v2 * (10 : Int32)) + (x1 - (48 : Int32)))).bind fun w3 =>
  (kgI w3 3 (some x0) 8).bind fun v4 =>
  (kpI w3 3 (some x0) 8 (v4 + (1 : Int32))).bind fun w5 =>
  some ((1 : Int32), w5)

noncomputable def fX3_goesOnNumber (x0 : Nat) (x1 : Int32) (w : kW) : Option (Int32 × kW) :=
  (kgI w 3 (some x0) 8).bind fun v1 =>
  if v1 = 0 then
  fX3_goesOnNumber_J14 x0 x1 (49 : Int32) w
  else
  fX3_goesOnNumber_J14 x0 x1 (48 : Int32) w

set_option maxHeartbeats 4000000 in
set_option maxRecDepth 100000 in
theorem rX3_goesOnNumber (l : Launch) (D : va_G) (aC : Nat → ClassId) {x0 : Nat} {x1 : Int32} {w : kW} {wR : kW} {oR : Int32} (h : fX3_goesOnNumber x0 x1 w = some (oR, wR)) : kC l D aC yX3_goesOnNumber cX3_goesOnNumber 3 (some .boolean) 1 21 [.ref x0, .int x1] w (some (.int oR)) wR 0 0 := by
  refine kOf (own := RX3) (by decide) rfl (Nat.le_of_ble_eq_true rfl) ?_
  intro p e s m below meth c ls F hml hr hlocks hnm hX hZ hl
  obtain ⟨hx, hb, hts, hown, hK⟩ := id F
  have hl : lv_has ls 3 [(0, .ref x0), (1, .int x1)] := hl
  have hJ0_62 : ∀ (j0_62 : Nat) (j1_62 : Int32) (j2_62 : Int32) (w_j62 : kW) (H : Heap) (locs : List Loc) (ls : Array Slot), kX D aC w s.heap w_j62 H locs → lv_has ls 3 [(0, .ref j0_62), (1, .int j1_62), (2, .int j2_62)] → fX3_goesOnNumber_J62 j0_62 j1_62 j2_62 w_j62 = some (oR, wR) → W p l e { frames := 1, cells := 0, slots := 0, locals := 21 } s m ([.ref x0, .int x1] : List Value).toArray below meth c H locs 0 0 (MQ below (kQc D aC w (some (.int oR)) wR) ([.ref x0, .int x1] : List Value).toArray s 0 0 (kA w)) (F0 m 62 ls []) := by
    intro j0_62 j1_62 j2_62 w_j62 H locs ls hX hl hf
    rw [fX3_goesOnNumber_J62] at hf
    refine lv_aload_n hx hb (kd dtX3_goesOnNumber_0 35 rfl) rfl (lv_at hl 0 rfl) ?_
    obtain ⟨v7, hv7, hf⟩ := kbind hf
    refine kgetI hv7 F hX hinX3 rfl rfl rfl (by decide) (by decide) wfX3_35 (kd dtX3_goesOnNumber_0 36 rfl) ?_
    refine lv_if_eq (tgt := 75) hx hb (kd dtX3_goesOnNumber_0 37 rfl) (by decide) (fun hc => ?_) (fun hc => ?_)
    · have hf := kif_pos hc hf
      refine lv_iconst (v := (0 : Int32)) hx hb (kd dtX3_goesOnNumber_0 41 rfl) (by decide) ?_
      cases hf
      exact kzret F hX hr hlocks rfl rfl (kd dtX3_goesOnNumber_0 42 rfl)
    · have hf := kif_neg hc hf
      refine lv_iload_n hx hb (kd dtX3_goesOnNumber_0 38 rfl) rfl (lv_at hl 1 rfl) ?_
      refine lv_bipush (v := (59 : Int32)) hx hb (kd dtX3_goesOnNumber_0 39 rfl) (by decide) ?_
      refine lv_icmp_eq (tgt := 77) hx hb (kd dtX3_goesOnNumber_0 40 rfl) (by decide) (fun hc => ?_) (fun hc => ?_)
      · have hf := kif_pos hc hf
        refine lv_aload_n hx hb (kd dtX3_goesOnNumber_0 43 rfl) rfl (lv_at hl 0 rfl) ?_
        obtain ⟨v8, hv8, hf⟩ := kbind hf
        refine kgetI hv8 F hX hinX3 rfl rfl rfl (by decide) (by decide) wfX3_29 (kd dtX3_goesOnNumber_0 44 rfl) ?_
        refine lv_bipush (v := (107 : Int32)) hx hb (kd dtX3_goesOnNumber_0 45 rfl) (by decide) ?_
        refine lv_icmp_ne (tgt := 97) hx hb (kd dtX3_goesOnNumber_0 46 rfl) (by decide) (fun hc => ?_) (fun hc => ?_)
        · have hf := kif_neg hc hf
          refine lv_aload_n hx hb (kd dtX3_goesOnNumber_0 52 rfl) rfl (lv_at hl 0 rfl) ?_
          refine lv_aload_n hx hb (kd dtX3_goesOnNumber_0 53 rfl) rfl (lv_at hl 0 rfl) ?_
          obtain ⟨v9, hv9, hf⟩ := kbind hf
          refine kgetI hv9 F hX hinX3 rfl rfl rfl (by decide) (by decide) wfX3_32 (kd dtX3_goesOnNumber_0 54 rfl) ?_
          refine lv_bipush (v := (100 : Int32)) hx hb (kd dtX3_goesOnNumber_0 55 rfl) (by decide) ?_
          refine kmmin F (hml.trans hl.1.symm) wmX3_65 (Nat.le_of_ble_eq_true rfl) (by simp [kcat_rf, kcat_i, kcat_r, kcat_l]) (Nat.zero_le _) (Nat.zero_le _) (kd dtX3_goesOnNumber_0 56 rfl) ?_
          obtain ⟨w10, hw10, hf⟩ := kbind hf
          refine kputI hw10 F hX hinX3 tyX3_ok nmX3 rfl rfl rfl (by decide) (by decide) wfX3_23 rfl rfl (Or.inl rfl) (kd dtX3_goesOnNumber_0 57 rfl) (fun H locs hX => ?_)
          refine lv_aload_n hx hb (kd dtX3_goesOnNumber_0 58 rfl) rfl (lv_at hl 0 rfl) ?_
          refine lv_iconst (v := (0 : Int32)) hx hb (kd dtX3_goesOnNumber_0 59 rfl) (by decide) ?_
          obtain ⟨w11, hw11, hf⟩ := kbind hf
          refine kputI hw11 F hX hinX3 tyX3_ok nmX3 rfl rfl rfl (by decide) (by decide) wfX3_26 rfl rfl (Or.inl rfl) (kd dtX3_goesOnNumber_0 60 rfl) (fun H locs hX => ?_)
          refine lv_iconst (v := (1 : Int32)) hx hb (kd dtX3_goesOnNumber_0 61 rfl) (by decide) ?_
          cases hf
          exact kzret F hX hr hlocks rfl rfl (kd dtX3_goesOnNumber_0 62 rfl)
        · have hf := kif_pos hc hf
          refine lv_aload_n hx hb (kd dtX3_goesOnNumber_0 47 rfl) rfl (lv_at hl 0 rfl) ?_
          refine lv_aload_n hx hb (kd dtX3_goesOnNumber_0 48 rfl) rfl (lv_at hl 0 rfl) ?_
          obtain ⟨v12, hv12, hf⟩ := kbind hf
          refine kgetI hv12 F hX hinX3 rfl rfl rfl (by decide) (by decide) wfX3_32 (kd dtX3_goesOnNumber_0 49 rfl) ?_
          obtain ⟨w13, hw13, hf⟩ := kbind hf
          refine kputI hw13 F hX hinX3 tyX3_ok nmX3 rfl rfl rfl (by decide) (by decide) wfX3_20 rfl rfl (Or.inl rfl) (kd dtX3_goesOnNumber_0 50 rfl) (fun H locs hX => ?_)
          refine lv_goto (tgt := 110) hx hb (kd dtX3_goesOnNumber_0 51 rfl) (by decide) ?_
          refine lv_aload_n hx hb (kd dtX3_goesOnNumber_0 58 rfl) rfl (lv_at hl 0 rfl) ?_
          refine lv_iconst (v := (0 : Int32)) hx hb (kd dtX3_goesOnNumber_0 59 rfl) (by decide) ?_
          obtain ⟨w14, hw14, hf⟩ := kbind hf
          refine kputI hw14 F hX hinX3 tyX3_ok nmX3 rfl rfl rfl (by decide) (by decide) wfX3_26 rfl rfl (Or.inl rfl) (kd dtX3_goesOnNumber_0 60 rfl) (fun H locs hX => ?_)
          refine lv_iconst (v := (1 : Int32)) hx hb (kd dtX3_goesOnNumber_0 61 rfl) (by decide) ?_
          cases hf
          exact kzret F hX hr hlocks rfl rfl (kd dtX3_goesOnNumber_0 62 rfl)
      · have hf := kif_neg hc hf
        refine lv_iconst (v := (0 : Int32)) hx hb (kd dtX3_goesOnNumber_0 41 rfl) (by decide) ?_
        cases hf
        exact kzret F hX hr hlocks rfl rfl (kd dtX3_goesOnNumber_0 42 rfl)
  have hJ0_14 : ∀ (j0_14 : Nat) (j1_14 : Int32) (t0_14 : Int32) (w_j14 : kW) (H : Heap) (locs : List Loc) (ls : Array Slot), kX D aC w s.heap w_j14 H locs → lv_has ls 3 [(0, .ref j0_14), (1, .int j1_14)] → fX3_goesOnNumber_J14 j0_14 j1_14 t0_14 w_j14 = some (oR, wR) → W p l e { frames := 1, cells := 0, slots := 0, locals := 21 } s m ([.ref x0, .int x1] : List Value).toArray below meth c H locs 0 0 (MQ below (kQc D aC w (some (.int oR)) wR) ([.ref x0, .int x1] : List Value).toArray s 0 0 (kA w)) (F0 m 14 ls [.int t0_14]) := by
    intro j0_14 j1_14 t0_14 w_j14 H locs ls hX hl hf
    rw [fX3_goesOnNumber_J14] at hf
    refine lv_istore_n (lv' := [(2, .int t0_14), (0, .ref j0_14), (1, .int j1_14)]) hx hb (kd dtX3_goesOnNumber_0 6 rfl) rfl hl (by decide) rfl (fun ls hl => ?_)
    refine lv_iload_n hx hb (kd dtX3_goesOnNumber_0 7 rfl) rfl (lv_at hl 2 rfl) ?_
    refine lv_iload_n hx hb (kd dtX3_goesOnNumber_0 8 rfl) rfl (lv_at hl 0 rfl) ?_
    refine lv_icmp_lt (tgt := 62) hx hb (kd dtX3_goesOnNumber_0 9 rfl) (by decide) (fun hc => ?_) (fun hc => ?_)
    · have hf := kif_pos hc hf
      exact hJ0_62 j0_14 j1_14 t0_14 w_j14 _ _ _ hX (lv_sub hl [1, 2, 0] rfl) hf
    · have hf := kif_neg hc hf
      refine lv_iload_n hx hb (kd dtX3_goesOnNumber_0 10 rfl) rfl (lv_at hl 2 rfl) ?_
      refine lv_bipush (v := (57 : Int32)) hx hb (kd dtX3_goesOnNumber_0 11 rfl) (by decide) ?_
      refine lv_icmp_gt (tgt := 62) hx hb (kd dtX3_goesOnNumber_0 12 rfl) (by decide) (fun hc => ?_) (fun hc => ?_)
      · have hf := kif_pos hc hf
        exact hJ0_62 j0_14 j1_14 t0_14 w_j14 _ _ _ hX (lv_sub hl [1, 2, 0] rfl) hf
      · have hf := kif_neg hc hf
        refine lv_aload_n hx hb (kd dtX3_goesOnNumber_0 13 rfl) rfl (lv_at hl 1 rfl) ?_
        obtain ⟨v2, hv2, hf⟩ := kbind hf
        refine kgetI hv2 F hX hinX3 rfl rfl rfl (by decide) (by decide) wfX3_35 (kd dtX3_goesOnNumber_0 14 rfl) ?_
        refine lv_iconst (v := (3 : Int32)) hx hb (kd dtX3_goesOnNumber_0 15 rfl) (by decide) ?_
        refine lv_icmp_ge (tgt := 62) hx hb (kd dtX3_goesOnNumber_0 16 rfl) (by decide) (fun hc => ?_) (fun hc => ?_)
        · have hf := kif_pos hc hf
          exact hJ0_62 j0_14 j1_14 t0_14 w_j14 _ _ _ hX (lv_sub hl [1, 2, 0] rfl) hf
        · have hf := kif_neg hc hf
          refine lv_aload_n hx hb (kd dtX3_goesOnNumber_0 17 rfl) rfl (lv_at hl 1 rfl) ?_
          refine lv_aload_n hx hb (kd dtX3_goesOnNumber_0 18 rfl) rfl (lv_at hl 1 rfl) ?_
          obtain ⟨v3, hv3, hf⟩ := kbind hf
          refine kgetI hv3 F hX hinX3 rfl rfl rfl (by decide) (by decide) wfX3_32 (kd dtX3_goesOnNumber_0 19 rfl) ?_
          refine lv_bipush (v := (10 : Int32)) hx hb (kd dtX3_goesOnNumber_0 20 rfl) (by decide) ?_
          refine lv_imul hx hb (kd dtX3_goesOnNumber_0 21 rfl) ?_
          refine lv_iload_n hx hb (kd dtX3_goesOnNumber_0 22 rfl) rfl (lv_at hl 2 rfl) ?_
          refine lv_bipush (v := (48 : Int32)) hx hb (kd dtX3_goesOnNumber_0 23 rfl) (by decide) ?_
          refine lv_isub hx hb (kd dtX3_goesOnNumber_0 24 rfl) ?_
          refine lv_iadd hx hb (kd dtX3_goesOnNumber_0 25 rfl) ?_
          obtain ⟨w4, hw4, hf⟩ := kbind hf
          refine kputI hw4 F hX hinX3 tyX3_ok nmX3 rfl rfl rfl (by decide) (by decide) wfX3_32 rfl rfl (Or.inl rfl) (kd dtX3_goesOnNumber_0 26 rfl) (fun H locs hX => ?_)
          refine lv_aload_n hx hb (kd dtX3_goesOnNumber_0 27 rfl) rfl (lv_at hl 1 rfl) ?_
          refine lv_dup hx hb (kd dtX3_goesOnNumber_0 28 rfl) rfl ?_
          obtain ⟨v5, hv5, hf⟩ := kbind hf
          refine kgetI hv5 F hX hinX3 rfl rfl rfl (by decide) (by decide) wfX3_35 (kd dtX3_goesOnNumber_0 29 rfl) ?_
          refine lv_iconst (v := (1 : Int32)) hx hb (kd dtX3_goesOnNumber_0 30 rfl) (by decide) ?_
          refine lv_iadd hx hb (kd dtX3_goesOnNumber_0 31 rfl) ?_
          obtain ⟨w6, hw6, hf⟩ := kbind hf
          refine kputI hw6 F hX hinX3 tyX3_ok nmX3 rfl rfl rfl (by decide) (by decide) wfX3_35 rfl rfl (Or.inl rfl) (kd dtX3_goesOnNumber_0 32 rfl) (fun H locs hX => ?_)
          refine lv_iconst (v := (1 : Int32)) hx hb (kd dtX3_goesOnNumber_0 33 rfl) (by decide) ?_
          cases hf
          exact kzret F hX hr hlocks rfl rfl (kd dtX3_goesOnNumber_0 34 rfl)
  have hf := h
  rw [fX3_goesOnNumber] at hf
  refine lv_aload_n hx hb (kd dtX3_goesOnNumber_0 0 rfl) rfl (lv_at hl 0 rfl) ?_
  obtain ⟨v1, hv1, hf⟩ := kbind hf
  refine kgetI hv1 F hX hinX3 rfl rfl rfl (by decide) (by decide) wfX3_35 (kd dtX3_goesOnNumber_0 1 rfl) ?_
  refine lv_if_ne (tgt := 12) hx hb (kd dtX3_goesOnNumber_0 2 rfl) (by decide) (fun hc => ?_) (fun hc => ?_)
  · have hf := kif_neg hc hf
    refine lv_bipush (v := (48 : Int32)) hx hb (kd dtX3_goesOnNumber_0 5 rfl) (by decide) ?_
    exact hJ0_14 x0 x1 (48 : Int32) w _ _ _ hX hl hf
  · have hf := kif_pos hc hf
    refine lv_bipush (v := (49 : Int32)) hx hb (kd dtX3_goesOnNumber_0 3 rfl) (by decide) ?_
    refine lv_goto (tgt := 14) hx hb (kd dtX3_goesOnNumber_0 4 rfl) (by decide) ?_
    exact hJ0_14 x0 x1 (49 : Int32) w _ _ _ hX hl hf
def lX3_endsStatement_0 : List (Nat × Instr × Nat) := [(0, .aload_n 0, 1), (1, .iconst 0, 1), (2, .putfield 26, 3), (5, .iload_n 1, 1), (6, .bipush 59, 2), (8, .if_icmp .ne 7, 3), (11, .iconst 1, 1), (12, .goto 4, 3), (15, .iconst 0, 1), (16, .ireturn, 1)]
theorem dtX3_endsStatement_0 : kDec cX3_endsStatement lX3_endsStatement_0 = true := by decide +kernel
noncomputable def fX3_endsStatement (x0 : Nat) (x1 : Int32) (w : kW) : Option (Int32 × kW) :=
  (kpI w 3 (some x0) 5 (0 : Int32)).bind fun w1 =>
  if x1 = (59 : Int32) then
  some ((1 : Int32), w1)
  else
  some ((0 : Int32), w1)

set_option maxHeartbeats 4000000 in
set_option maxRecDepth 100000 in
theorem rX3_endsStatement (l : Launch) (D : va_G) (aC : Nat → ClassId) {x0 : Nat} {x1 : Int32} {w : kW} {wR : kW} {oR : Int32} (h : fX3_endsStatement x0 x1 w = some (oR, wR)) : kC l D aC yX3_endsStatement cX3_endsStatement 2 (some .boolean) 1 12 [.ref x0, .int x1] w (some (.int oR)) wR 0 0 := by
  refine kOf (own := RX3) (by decide) rfl (Nat.le_of_ble_eq_true rfl) ?_
  intro p e s m below meth c ls F hml hr hlocks hnm hX hZ hl
  obtain ⟨hx, hb, hts, hown, hK⟩ := id F
  have hl : lv_has ls 2 [(0, .ref x0), (1, .int x1)] := hl
  have hf := h
  rw [fX3_endsStatement] at hf
  refine lv_aload_n hx hb (kd dtX3_endsStatement_0 0 rfl) rfl (lv_at hl 0 rfl) ?_
  refine lv_iconst (v := (0 : Int32)) hx hb (kd dtX3_endsStatement_0 1 rfl) (by decide) ?_
  obtain ⟨w1, hw1, hf⟩ := kbind hf
  refine kputI hw1 F hX hinX3 tyX3_ok nmX3 rfl rfl rfl (by decide) (by decide) wfX3_26 rfl rfl (Or.inl rfl) (kd dtX3_endsStatement_0 2 rfl) (fun H locs hX => ?_)
  refine lv_iload_n hx hb (kd dtX3_endsStatement_0 3 rfl) rfl (lv_at hl 1 rfl) ?_
  refine lv_bipush (v := (59 : Int32)) hx hb (kd dtX3_endsStatement_0 4 rfl) (by decide) ?_
  refine lv_icmp_ne (tgt := 15) hx hb (kd dtX3_endsStatement_0 5 rfl) (by decide) (fun hc => ?_) (fun hc => ?_)
  · have hf := kif_neg hc hf
    refine lv_iconst (v := (0 : Int32)) hx hb (kd dtX3_endsStatement_0 8 rfl) (by decide) ?_
    cases hf
    exact kzret F hX hr hlocks rfl rfl (kd dtX3_endsStatement_0 9 rfl)
  · have hf := kif_pos hc hf
    refine lv_iconst (v := (1 : Int32)) hx hb (kd dtX3_endsStatement_0 6 rfl) (by decide) ?_
    refine lv_goto (tgt := 16) hx hb (kd dtX3_endsStatement_0 7 rfl) (by decide) ?_
    cases hf
    exact kzret F hX hr hlocks rfl rfl (kd dtX3_endsStatement_0 9 rfl)
theorem wmX3_52 : Cond.methodLink RX3 52 yX3_beginsStatement ∈ kT := kTm 819 (by decide +kernel) rfl
theorem mwX3_beginsStatement : kMV RX3 yX3_beginsStatement cX3_beginsStatement 2 (some .boolean) := ⟨kTm 822 (by decide +kernel) rfl, kTm 104 (by decide +kernel) rfl, kTm 821 (by decide +kernel) rfl, kTm 20 (by decide +kernel) rfl⟩
theorem wmX3_55 : Cond.methodLink RX3 55 yX3_goesOnNumber ∈ kT := kTm 824 (by decide +kernel) rfl
theorem mwX3_goesOnNumber : kMV RX3 yX3_goesOnNumber cX3_goesOnNumber 3 (some .boolean) := ⟨kTm 827 (by decide +kernel) rfl, kTm 104 (by decide +kernel) rfl, kTm 826 (by decide +kernel) rfl, kTm 21 (by decide +kernel) rfl⟩
theorem wmX3_58 : Cond.methodLink RX3 58 yX3_endsStatement ∈ kT := kTm 829 (by decide +kernel) rfl
theorem mwX3_endsStatement : kMV RX3 yX3_endsStatement cX3_endsStatement 2 (some .boolean) := ⟨kTm 832 (by decide +kernel) rfl, kTm 104 (by decide +kernel) rfl, kTm 831 (by decide +kernel) rfl, kTm 22 (by decide +kernel) rfl⟩
def lX3_accepts_0 : List (Nat × Instr × Nat) := [(0, .aload_n 0, 1), (1, .getfield 26, 3), (4, .lookupswitch 40 #[(0, 28), (2, 34)], 28), (32, .aload_n 0, 1), (33, .iload_n 1, 1), (34, .invokevirtual 52, 3), (37, .ireturn, 1), (38, .aload_n 0, 1), (39, .iload_n 1, 1), (40, .invokevirtual 55, 3), (43, .ireturn, 1), (44, .aload_n 0, 1), (45, .iload_n 1, 1), (46, .invokevirtual 58, 3), (49, .ireturn, 1)]
theorem dtX3_accepts_0 : kDec cX3_accepts lX3_accepts_0 = true := by decide +kernel
noncomputable def fX3_accepts (x0 : Nat) (x1 : Int32) (w : kW) : Option (Int32 × kW) :=
  (kgI w 3 (some x0) 5).bind fun v1 =>
  if v1 = (0 : Int32) then
  (kRc w 3 (some x0)).bind fun b2 =>
  kb2 (fX3_beginsStatement b2 x1 w) fun v5 w3 =>
  (kBl v5).bind fun v6 =>
  some (v6, w3)
  else if v1 = (2 : Int32) then
  (kRc w 3 (some x0)).bind fun b7 =>
  kb2 (fX3_goesOnNumber b7 x1 w) fun v10 w8 =>
  (kBl v10).bind fun v11 =>
  some (v11, w8)
  else 
  (kRc w 3 (some x0)).bind fun b12 =>
  kb2 (fX3_endsStatement b12 x1 w) fun v15 w13 =>
  (kBl v15).bind fun v16 =>
  some (v16, w13)

set_option maxHeartbeats 4000000 in
set_option maxRecDepth 100000 in
theorem rX3_accepts (l : Launch) (D : va_G) (aC : Nat → ClassId) {x0 : Nat} {x1 : Int32} {w : kW} {wR : kW} {oR : Int32} (h : fX3_accepts x0 x1 w = some (oR, wR)) : kC l D aC yX3_accepts cX3_accepts 2 (some .boolean) 3 54 [.ref x0, .int x1] w (some (.int oR)) wR 0 0 := by
  refine kOf (own := RX3) (by decide) rfl (Nat.le_of_ble_eq_true rfl) ?_
  intro p e s m below meth c ls F hml hr hlocks hnm hX hZ hl
  obtain ⟨hx, hb, hts, hown, hK⟩ := id F
  have hl : lv_has ls 2 [(0, .ref x0), (1, .int x1)] := hl
  have hf := h
  rw [fX3_accepts] at hf
  refine lv_aload_n hx hb (kd dtX3_accepts_0 0 rfl) rfl (lv_at hl 0 rfl) ?_
  obtain ⟨v1, hv1, hf⟩ := kbind hf
  refine kgetI hv1 F hX hinX3 rfl rfl rfl (by decide) (by decide) wfX3_26 (kd dtX3_accepts_0 1 rfl) ?_
  by_cases hc0 : v1 = (0 : Int32)
  · have hf := kif_pos hc0 hf
    refine lv_lookup (off := 28) (tgt := 32) hx hb (kd dtX3_accepts_0 2 rfl) (by decide) (by rw [hc0]; rfl) (by decide) ?_
    refine lv_aload_n hx hb (kd dtX3_accepts_0 3 rfl) rfl (lv_at hl 0 rfl) ?_
    refine lv_iload_n hx hb (kd dtX3_accepts_0 4 rfl) rfl (lv_at hl 1 rfl) ?_
    obtain ⟨b2, hb2, hf⟩ := kbind hf
    obtain ⟨hrb2, hkb2⟩ := kRc_s hb2
    obtain ⟨v5, w3, h4, hf⟩ := kbind2 hf
    refine kcallV (n := 1) [.int x1] [] [.int v5] (rX3_beginsStatement l D aC h4) hrb2 hkb2 F hml hX hZ hl.1 mwX3_beginsStatement wmX3_52 rfl (by decide) (by decide +kernel) ⟨(by decide), (by decide)⟩ rfl rfl rfl (Nat.le_of_ble_eq_true rfl) (kd dtX3_accepts_0 5 rfl) ⟨Nat.zero_le _, Nat.zero_le _⟩ (fun H locs hX => ?_)
    obtain ⟨v6, hv6, hf⟩ := kbind hf
    obtain rfl := kBl_e hv6
    cases hf
    exact kzret F hX hr hlocks hv6 rfl (kd dtX3_accepts_0 6 rfl)
  have hf := kif_neg hc0 hf
  by_cases hc2 : v1 = (2 : Int32)
  · have hf := kif_pos hc2 hf
    refine lv_lookup (off := 34) (tgt := 38) hx hb (kd dtX3_accepts_0 2 rfl) (by decide) (by rw [hc2]; rfl) (by decide) ?_
    refine lv_aload_n hx hb (kd dtX3_accepts_0 7 rfl) rfl (lv_at hl 0 rfl) ?_
    refine lv_iload_n hx hb (kd dtX3_accepts_0 8 rfl) rfl (lv_at hl 1 rfl) ?_
    obtain ⟨b7, hb7, hf⟩ := kbind hf
    obtain ⟨hrb7, hkb7⟩ := kRc_s hb7
    obtain ⟨v10, w8, h9, hf⟩ := kbind2 hf
    refine kcallV (n := 1) [.int x1] [] [.int v10] (rX3_goesOnNumber l D aC h9) hrb7 hkb7 F hml hX hZ hl.1 mwX3_goesOnNumber wmX3_55 rfl (by decide) (by decide +kernel) ⟨(by decide), (by decide)⟩ rfl rfl rfl (Nat.le_of_ble_eq_true rfl) (kd dtX3_accepts_0 9 rfl) ⟨Nat.zero_le _, Nat.zero_le _⟩ (fun H locs hX => ?_)
    obtain ⟨v11, hv11, hf⟩ := kbind hf
    obtain rfl := kBl_e hv11
    cases hf
    exact kzret F hX hr hlocks hv11 rfl (kd dtX3_accepts_0 10 rfl)
  have hf := kif_neg hc2 hf
  refine lv_lookup (off := 40) (tgt := 44) hx hb (kd dtX3_accepts_0 2 rfl) (by decide) (by show Op.lookupswitch.offset [(0, 28), (2, 34)] _ _ = _; rw [lv_osw hc0 (a := 0) rfl, lv_osw hc2 (a := 2) rfl]; rfl) (by decide) ?_
  refine lv_aload_n hx hb (kd dtX3_accepts_0 11 rfl) rfl (lv_at hl 0 rfl) ?_
  refine lv_iload_n hx hb (kd dtX3_accepts_0 12 rfl) rfl (lv_at hl 1 rfl) ?_
  obtain ⟨b12, hb12, hf⟩ := kbind hf
  obtain ⟨hrb12, hkb12⟩ := kRc_s hb12
  obtain ⟨v15, w13, h14, hf⟩ := kbind2 hf
  refine kcallV (n := 1) [.int x1] [] [.int v15] (rX3_endsStatement l D aC h14) hrb12 hkb12 F hml hX hZ hl.1 mwX3_endsStatement wmX3_58 rfl (by decide) (by decide +kernel) ⟨(by decide), (by decide)⟩ rfl rfl rfl (Nat.le_of_ble_eq_true rfl) (kd dtX3_accepts_0 13 rfl) ⟨Nat.zero_le _, Nat.zero_le _⟩ (fun H locs hX => ?_)
  obtain ⟨v16, hv16, hf⟩ := kbind hf
  obtain rfl := kBl_e hv16
  cases hf
  exact kzret F hX hr hlocks hv16 rfl (kd dtX3_accepts_0 14 rfl)
theorem wmX3_48 : Cond.methodLink RX3 48 yX3_accepts ∈ kT := kTm 815 (by decide +kernel) rfl
theorem mwX3_accepts : kMV RX3 yX3_accepts cX3_accepts 2 (some .boolean) := ⟨kTm 818 (by decide +kernel) rfl, kTm 104 (by decide +kernel) rfl, kTm 817 (by decide +kernel) rfl, kTm 19 (by decide +kernel) rfl⟩
def lX3_readText_0 : List (Nat × Instr × Nat) := [(0, .iconst 0, 1), (1, .istore_n 3, 1), (2, .iload_n 3, 1), (3, .iload_n 2, 1), (4, .if_icmp .ge 27, 3), (7, .iload_n 3, 1), (8, .aload_n 1, 1), (9, .arraylength, 1), (10, .if_icmp .ge 21, 3), (13, .aload_n 0, 1), (14, .aload_n 1, 1), (15, .iload_n 3, 1), (16, .iaload, 1), (17, .invokevirtual 48, 3), (20, .ifCond .ne 5, 3), (23, .iload_n 3, 1), (24, .ireturn, 1), (25, .iinc 3 1, 3), (28, .goto (-26), 3), (31, .iload_n 2, 1), (32, .ifCond .le 15, 3), (35, .aload_n 0, 1), (36, .getfield 26, 3), (39, .ifCond .ne 8, 3), (42, .bipush (-4), 2), (44, .goto 4, 3), (47, .iload_n 2, 1), (48, .ireturn, 1)]
theorem dtX3_readText_0 : kDec cX3_readText lX3_readText_0 = true := by decide +kernel
noncomputable def fX3_readText_L2 (x0 : Nat) (x1 : Option Nat) (x2 : Int32) : Nat → (Int32 → kW → Option (Int32 × kW)) → Int32 → kW → Option (Int32 × kW)
  | 0, _, _, _ => none
  | n + 1, k, x3, w =>
  if x2 ≤ x3 then
  k x3 w
  else
  (kal w 14 x1).bind fun v1 =>
  if v1 ≤ x3 then
  k x3 w
  else
  (kaI w 14 x1 x3).bind fun v2 =>
  (kRc w 3 (some x0)).bind fun b3 =>
  kb2 (fX3_accepts b3 v2 w) fun v6 w4 =>
  if v6 = 0 then
  some (x3, w4)
  else
  fX3_readText_L2 x0 x1 x2 n k (x3 + (1 : Int32)) w4

noncomputable def fX3_readText (x0 : Nat) (x1 : Option Nat) (x2 : Int32) (w : kW) : Option (Int32 × kW) :=
  fX3_readText_L2 x0 x1 x2 kFU (fun y3_1 w2 => if x2 ≤ 0 then
  some (x2, w2)
  else
  (kgI w2 3 (some x0) 5).bind fun v3 =>
  if v3 = 0 then
  some ((-4 : Int32), w2)
  else
  some (x2, w2)) (0 : Int32) w

set_option maxHeartbeats 4000000 in
set_option maxRecDepth 100000 in
theorem rX3_readText (l : Launch) (D : va_G) (aC : Nat → ClassId) {x0 : Nat} {x1 : Option Nat} {x2 : Int32} {w : kW} {wR : kW} {oR : Int32} (h : fX3_readText x0 x1 x2 w = some (oR, wR)) : kC l D aC yX3_readText cX3_readText 4 (some .int) 4 75 [.ref x0, va_rf x1, .int x2] w (some (.int oR)) wR 0 0 := by
  refine kOf (own := RX3) (by decide) rfl (by simp [lg_sl, kcat_rf, kcat_i, kcat_r, kcat_l]) ?_
  intro p e s m below meth c ls F hml hr hlocks hnm hX hZ hl
  obtain ⟨hx, hb, hts, hown, hK⟩ := id F
  have hl : lv_has ls 4 [(0, .ref x0), (1, va_rf x1), (2, .int x2)] := by simpa [lv_args, kcat_rf, kcat_i, kcat_r, kcat_l] using hl
  have hf := h
  rw [fX3_readText] at hf
  refine lv_iconst (v := (0 : Int32)) hx hb (kd dtX3_readText_0 0 rfl) (by decide) ?_
  refine lv_istore_n (lv' := [(3, .int (0 : Int32)), (0, .ref x0), (1, va_rf x1), (2, .int x2)]) hx hb (kd dtX3_readText_0 1 rfl) rfl hl (by decide) rfl (fun ls hl => ?_)
  have hL2 : ∀ (n : Nat) (k : Int32 → kW → Option (Int32 × kW)), ∀ (z3_2 : Int32) (w_2 : kW) (H : Heap) (locs : List Loc) (ls : Array Slot), kX D aC w s.heap w_2 H locs → lv_has ls 4 [(0, .ref x0), (1, va_rf x1), (2, .int x2), (3, .int z3_2)] → fX3_readText_L2 x0 x1 x2 n k z3_2 w_2 = some (oR, wR) → (∀ (z3_2 : Int32) (w_2 : kW) (H : Heap) (locs : List Loc) (ls : Array Slot), kX D aC w s.heap w_2 H locs → lv_has ls 4 [(0, .ref x0), (1, va_rf x1), (2, .int x2), (3, .int z3_2)] → k z3_2 w_2 = some (oR, wR) → W p l e { frames := 4, cells := 0, slots := 0, locals := 75 } s m ([.ref x0, va_rf x1, .int x2] : List Value).toArray below meth c H locs 0 0 (MQ below (kQc D aC w (some (.int oR)) wR) ([.ref x0, va_rf x1, .int x2] : List Value).toArray s 0 0 (kA w)) (F0 m 31 ls [])) → W p l e { frames := 4, cells := 0, slots := 0, locals := 75 } s m ([.ref x0, va_rf x1, .int x2] : List Value).toArray below meth c H locs 0 0 (MQ below (kQc D aC w (some (.int oR)) wR) ([.ref x0, va_rf x1, .int x2] : List Value).toArray s 0 0 (kA w)) (F0 m 2 ls []) := by
    intro n k
    induction n with
    | zero =>
      intro z3_2 w_2 H locs ls hX hl hf hk
      rw [fX3_readText_L2] at hf
      cases hf
    | succ n ih =>
      intro z3_2 w_2 H locs ls hX hl hf hk
      rw [fX3_readText_L2] at hf
      refine lv_iload_n hx hb (kd dtX3_readText_0 2 rfl) rfl (lv_at hl 3 rfl) ?_
      refine lv_iload_n hx hb (kd dtX3_readText_0 3 rfl) rfl (lv_at hl 2 rfl) ?_
      refine lv_icmp_ge (tgt := 31) hx hb (kd dtX3_readText_0 4 rfl) (by decide) (fun hc => ?_) (fun hc => ?_)
      · have hf := kif_pos hc hf
        exact hk z3_2 w_2 _ _ _ hX hl hf
      · have hf := kif_neg hc hf
        refine lv_iload_n hx hb (kd dtX3_readText_0 5 rfl) rfl (lv_at hl 3 rfl) ?_
        refine kaload_n hx hb (kd dtX3_readText_0 6 rfl) rfl (lv_at hl 1 rfl) ?_
        obtain ⟨v4, hv4, hf⟩ := kbind hf
        refine kalen hv4 (by decide) (by decide) F hX (kd dtX3_readText_0 7 rfl) ?_
        refine lv_icmp_ge (tgt := 31) hx hb (kd dtX3_readText_0 8 rfl) (by decide) (fun hc => ?_) (fun hc => ?_)
        · have hf := kif_pos hc hf
          exact hk z3_2 w_2 _ _ _ hX hl hf
        · have hf := kif_neg hc hf
          refine lv_aload_n hx hb (kd dtX3_readText_0 9 rfl) rfl (lv_at hl 0 rfl) ?_
          refine kaload_n hx hb (kd dtX3_readText_0 10 rfl) rfl (lv_at hl 1 rfl) ?_
          refine lv_iload_n hx hb (kd dtX3_readText_0 11 rfl) rfl (lv_at hl 3 rfl) ?_
          obtain ⟨v5, hv5, hf⟩ := kbind hf
          refine kald hv5 F hX (kd dtX3_readText_0 12 rfl) ?_
          obtain ⟨b6, hb6, hf⟩ := kbind hf
          obtain ⟨hrb6, hkb6⟩ := kRc_s hb6
          obtain ⟨v9, w7, h8, hf⟩ := kbind2 hf
          refine kcallV (n := 1) [.int v5] [] [.int v9] (rX3_accepts l D aC h8) hrb6 hkb6 F hml hX hZ hl.1 mwX3_accepts wmX3_48 rfl (by decide) (by decide +kernel) ⟨(by decide), (by decide)⟩ rfl rfl rfl (Nat.le_of_ble_eq_true rfl) (kd dtX3_readText_0 13 rfl) ⟨Nat.zero_le _, Nat.zero_le _⟩ (fun H locs hX => ?_)
          refine lv_if_ne (tgt := 25) hx hb (kd dtX3_readText_0 14 rfl) (by decide) (fun hc => ?_) (fun hc => ?_)
          · have hf := kif_neg hc hf
            refine lv_iinc (v := z3_2 + (1 : Int32)) (lv' := [(3, .int (z3_2 + (1 : Int32))), (0, .ref x0), (1, va_rf x1), (2, .int x2)]) hx hb (kd dtX3_readText_0 17 rfl) hl (k := 3) rfl (by rfl) (by decide) rfl (fun ls hl => ?_)
            refine lv_goto (tgt := 2) hx hb (kd dtX3_readText_0 18 rfl) (by decide) ?_
            exact ih (z3_2 + (1 : Int32)) w7 _ _ _ hX (lv_sub hl [1, 2, 3, 0] rfl) hf hk
          · have hf := kif_pos hc hf
            refine lv_iload_n hx hb (kd dtX3_readText_0 15 rfl) rfl (lv_at hl 3 rfl) ?_
            cases hf
            exact kiret F hX hr hlocks rfl (kd dtX3_readText_0 16 rfl)
  refine hL2 kFU _ (0 : Int32) w _ _ _ hX (lv_sub hl [1, 2, 3, 0] rfl) hf ?_
  intro y3_1 w2 H locs ls hX hl hf
  refine lv_iload_n hx hb (kd dtX3_readText_0 19 rfl) rfl (lv_at hl 2 rfl) ?_
  refine lv_if_le (tgt := 47) hx hb (kd dtX3_readText_0 20 rfl) (by decide) (fun hc => ?_) (fun hc => ?_)
  · have hf := kif_pos hc hf
    refine lv_iload_n hx hb (kd dtX3_readText_0 26 rfl) rfl (lv_at hl 2 rfl) ?_
    cases hf
    exact kiret F hX hr hlocks rfl (kd dtX3_readText_0 27 rfl)
  · have hf := kif_neg hc hf
    refine lv_aload_n hx hb (kd dtX3_readText_0 21 rfl) rfl (lv_at hl 0 rfl) ?_
    obtain ⟨v3, hv3, hf⟩ := kbind hf
    refine kgetI hv3 F hX hinX3 rfl rfl rfl (by decide) (by decide) wfX3_26 (kd dtX3_readText_0 22 rfl) ?_
    refine lv_if_ne (tgt := 47) hx hb (kd dtX3_readText_0 23 rfl) (by decide) (fun hc => ?_) (fun hc => ?_)
    · have hf := kif_neg hc hf
      refine lv_iload_n hx hb (kd dtX3_readText_0 26 rfl) rfl (lv_at hl 2 rfl) ?_
      cases hf
      exact kiret F hX hr hlocks rfl (kd dtX3_readText_0 27 rfl)
    · have hf := kif_pos hc hf
      refine lv_bipush (v := (-4 : Int32)) hx hb (kd dtX3_readText_0 24 rfl) (by decide) ?_
      refine lv_goto (tgt := 48) hx hb (kd dtX3_readText_0 25 rfl) (by decide) ?_
      cases hf
      exact kiret F hX hr hlocks rfl (kd dtX3_readText_0 27 rfl)
def lX3_actAt_0 : List (Nat × Instr × Nat) := [(0, .iload_n 1, 1), (1, .ifCond .lt 29, 3), (4, .iload_n 1, 1), (5, .aload_n 0, 1), (6, .getfield 9, 3), (9, .if_icmp .ge 21, 3), (12, .iload_n 1, 1), (13, .aload_n 0, 1), (14, .getfield 44, 3), (17, .arraylength, 1), (18, .if_icmp .ge 12, 3), (21, .aload_n 0, 1), (22, .getfield 44, 3), (25, .iload_n 1, 1), (26, .baload, 1), (27, .goto 4, 3), (30, .iconst 0, 1), (31, .ireturn, 1)]
theorem dtX3_actAt_0 : kDec cX3_actAt lX3_actAt_0 = true := by decide +kernel
noncomputable def fX3_actAt (x0 : Nat) (x1 : Int32) (w : kW) : Option Int32 :=
  if x1 < 0 then
  some (0 : Int32)
  else
  (kgI w 3 (some x0) 1).bind fun v1 =>
  if v1 ≤ x1 then
  some (0 : Int32)
  else
  (kgP w 3 (some x0) 0).bind fun v2 =>
  (kal w 13 v2).bind fun v3 =>
  if v3 ≤ x1 then
  some (0 : Int32)
  else
  (kgP w 3 (some x0) 0).bind fun v4 =>
  (kaI w 13 v4 x1).bind fun v5 =>
  some v5

set_option maxHeartbeats 4000000 in
set_option maxRecDepth 100000 in
theorem rX3_actAt (l : Launch) (D : va_G) (aC : Nat → ClassId) {x0 : Nat} {x1 : Int32} {w : kW} {oR : Int32} (h : fX3_actAt x0 x1 w = some oR) : kC l D aC yX3_actAt cX3_actAt 2 (some .int) 1 12 [.ref x0, .int x1] w (some (.int oR)) w 0 0 := by
  refine kOf (own := RX3) (by decide) rfl (Nat.le_of_ble_eq_true rfl) ?_
  intro p e s m below meth c ls F hml hr hlocks hnm hX hZ hl
  obtain ⟨hx, hb, hts, hown, hK⟩ := id F
  have hl : lv_has ls 2 [(0, .ref x0), (1, .int x1)] := hl
  have hf := h
  rw [fX3_actAt] at hf
  refine lv_iload_n hx hb (kd dtX3_actAt_0 0 rfl) rfl (lv_at hl 1 rfl) ?_
  refine lv_if_lt (tgt := 30) hx hb (kd dtX3_actAt_0 1 rfl) (by decide) (fun hc => ?_) (fun hc => ?_)
  · have hf := kif_pos hc hf
    refine lv_iconst (v := (0 : Int32)) hx hb (kd dtX3_actAt_0 16 rfl) (by decide) ?_
    cases hf
    exact kiret F hX hr hlocks rfl (kd dtX3_actAt_0 17 rfl)
  · have hf := kif_neg hc hf
    refine lv_iload_n hx hb (kd dtX3_actAt_0 2 rfl) rfl (lv_at hl 1 rfl) ?_
    refine lv_aload_n hx hb (kd dtX3_actAt_0 3 rfl) rfl (lv_at hl 0 rfl) ?_
    obtain ⟨v1, hv1, hf⟩ := kbind hf
    refine kgetI hv1 F hX hinX3 rfl rfl rfl (by decide) (by decide) wfX3_9 (kd dtX3_actAt_0 4 rfl) ?_
    refine lv_icmp_ge (tgt := 30) hx hb (kd dtX3_actAt_0 5 rfl) (by decide) (fun hc => ?_) (fun hc => ?_)
    · have hf := kif_pos hc hf
      refine lv_iconst (v := (0 : Int32)) hx hb (kd dtX3_actAt_0 16 rfl) (by decide) ?_
      cases hf
      exact kiret F hX hr hlocks rfl (kd dtX3_actAt_0 17 rfl)
    · have hf := kif_neg hc hf
      refine lv_iload_n hx hb (kd dtX3_actAt_0 6 rfl) rfl (lv_at hl 1 rfl) ?_
      refine lv_aload_n hx hb (kd dtX3_actAt_0 7 rfl) rfl (lv_at hl 0 rfl) ?_
      obtain ⟨v2, hv2, hf⟩ := kbind hf
      refine kgetP hv2 F hX hinX3 rfl rfl rfl (by decide) (by decide) wfX3_44 (kd dtX3_actAt_0 8 rfl) ?_
      obtain ⟨v3, hv3, hf⟩ := kbind hf
      refine kalen hv3 (by decide) (by decide) F hX (kd dtX3_actAt_0 9 rfl) ?_
      refine lv_icmp_ge (tgt := 30) hx hb (kd dtX3_actAt_0 10 rfl) (by decide) (fun hc => ?_) (fun hc => ?_)
      · have hf := kif_pos hc hf
        refine lv_iconst (v := (0 : Int32)) hx hb (kd dtX3_actAt_0 16 rfl) (by decide) ?_
        cases hf
        exact kiret F hX hr hlocks rfl (kd dtX3_actAt_0 17 rfl)
      · have hf := kif_neg hc hf
        refine lv_aload_n hx hb (kd dtX3_actAt_0 11 rfl) rfl (lv_at hl 0 rfl) ?_
        obtain ⟨v4, hv4, hf⟩ := kbind hf
        refine kgetP hv4 F hX hinX3 rfl rfl rfl (by decide) (by decide) wfX3_44 (kd dtX3_actAt_0 12 rfl) ?_
        refine lv_iload_n hx hb (kd dtX3_actAt_0 13 rfl) rfl (lv_at hl 1 rfl) ?_
        obtain ⟨v5, hv5, hf⟩ := kbind hf
        refine kbld hv5 F hX (kd dtX3_actAt_0 14 rfl) ?_
        refine lv_goto (tgt := 31) hx hb (kd dtX3_actAt_0 15 rfl) (by decide) ?_
        cases hf
        exact kiret F hX hr hlocks rfl (kd dtX3_actAt_0 17 rfl)
