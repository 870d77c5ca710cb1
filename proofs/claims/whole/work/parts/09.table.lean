theorem wmX8_3 : Cond.methodLink RX8 3 objectInit ∈ kT := kTm 130 (by decide +kernel) rfl
theorem wkX8_9 : Cond.classLink RX8 9 RX1 ∈ kT := kTm 131 (by decide +kernel) rfl
theorem wfX8_11 : Cond.fieldLink RX8 11 (TX8 0).1 (TX8 0).2.1 (TX8 0).2.2.1 ∈ kT := kTm 135 (by decide +kernel) rfl
theorem wfX8_17 : Cond.fieldLink RX8 17 (TX8 1).1 (TX8 1).2.1 (TX8 1).2.2.1 ∈ kT := kTm 136 (by decide +kernel) rfl
theorem wfX8_21 : Cond.fieldLink RX8 21 (TX8 2).1 (TX8 2).2.1 (TX8 2).2.2.1 ∈ kT := kTm 137 (by decide +kernel) rfl
theorem wfX8_24 : Cond.fieldLink RX8 24 (TX8 3).1 (TX8 3).2.1 (TX8 3).2.2.1 ∈ kT := kTm 138 (by decide +kernel) rfl
theorem wfX8_27 : Cond.fieldLink RX8 27 (TX8 4).1 (TX8 4).2.1 (TX8 4).2.2.1 ∈ kT := kTm 139 (by decide +kernel) rfl
theorem wfX8_30 : Cond.fieldLink RX8 30 (TX8 5).1 (TX8 5).2.1 (TX8 5).2.2.1 ∈ kT := kTm 140 (by decide +kernel) rfl
theorem wkX8_33 : Cond.classLink RX8 33 RX3 ∈ kT := kTm 133 (by decide +kernel) rfl
theorem wfX8_35 : Cond.fieldLink RX8 35 (TX8 6).1 (TX8 6).2.1 (TX8 6).2.2.1 ∈ kT := kTm 141 (by decide +kernel) rfl
theorem wfX8_39 : Cond.fieldLink RX8 39 (TX8 7).1 (TX8 7).2.1 (TX8 7).2.2.1 ∈ kT := kTm 142 (by decide +kernel) rfl
theorem wfX8_43 : Cond.fieldLink RX8 43 (TX8 8).1 (TX8 8).2.1 (TX8 8).2.2.1 ∈ kT := kTm 145 (by decide +kernel) rfl
theorem wfX8_46 : Cond.fieldLink RX8 46 (TX8 9).1 (TX8 9).2.1 (TX8 9).2.2.1 ∈ kT := kTm 147 (by decide +kernel) rfl
def lX8_init_0 : List (Nat × Instr × Nat) := [(0, .aload_n 0, 1), (1, .invokespecial 3, 3), (4, .aload_n 0, 1), (5, .bipush 40, 2), (7, .anewarray 9, 3), (10, .putfield 11, 3), (13, .aload_n 0, 1), (14, .bipush 40, 2), (16, .newarray .int, 2), (18, .putfield 17, 3), (21, .aload_n 0, 1), (22, .bipush 40, 2), (24, .newarray .int, 2), (26, .putfield 21, 3), (29, .aload_n 0, 1), (30, .bipush 40, 2), (32, .newarray .int, 2), (34, .putfield 24, 3), (37, .aload_n 0, 1), (38, .bipush 40, 2), (40, .newarray .int, 2), (42, .putfield 27, 3), (45, .aload_n 0, 1), (46, .bipush 40, 2), (48, .newarray .int, 2), (50, .putfield 30, 3), (53, .aload_n 0, 1), (54, .bipush 6, 2), (56, .anewarray 33, 3), (59, .putfield 35, 3), (62, .aload_n 0, 1), (63, .iconst 0, 1), (64, .putfield 39, 3), (67, .aload_n 0, 1), (68, .iconst 0, 1), (69, .putfield 43, 3), (72, .aload_n 0, 1), (73, .iconst 0, 1), (74, .putfield 46, 3), (77, .return_, 1)]
theorem dtX8_init_0 : kDec cX8_init lX8_init_0 = true := by decide +kernel
noncomputable def fX8_init (x0 : Nat) (w : kW) : Option kW :=
  (knA w 16 (40 : Int32)).bind fun w1 =>
  (kpP w1 8 (some x0) 0 (some (kSz w))).bind fun w2 =>
  (knA w2 14 (40 : Int32)).bind fun w3 =>
  (kpP w3 8 (some x0) 1 (some (kSz w2))).bind fun w4 =>
  (knA w4 14 (40 : Int32)).bind fun w5 =>
  (kpP w5 8 (some x0) 2 (some (kSz w4))).bind fun w6 =>
  (knA w6 14 (40 : Int32)).bind fun w7 =>
  (kpP w7 8 (some x0) 3 (some (kSz w6))).bind fun w8 =>
  (knA w8 14 (40 : Int32)).bind fun w9 =>
  (kpP w9 8 (some x0) 4 (some (kSz w8))).bind fun w10 =>
  (knA w10 14 (40 : Int32)).bind fun w11 =>
  (kpP w11 8 (some x0) 5 (some (kSz w10))).bind fun w12 =>
  (knA w12 17 (6 : Int32)).bind fun w13 =>
  (kpP w13 8 (some x0) 6 (some (kSz w12))).bind fun w14 =>
  (kpI w14 8 (some x0) 7 (0 : Int32)).bind fun w15 =>
  (kpI w15 8 (some x0) 8 (0 : Int32)).bind fun w16 =>
  (kpI w16 8 (some x0) 9 (0 : Int32)).bind fun w17 =>
  some w17

set_option maxHeartbeats 4000000 in
set_option maxRecDepth 100000 in
theorem rX8_init (l : Launch) (D : va_G) (aC : Nat → ClassId) {x0 : Nat} {w : kW} {wR : kW} (h : fX8_init x0 w = some wR) : kC l D aC yX8_init cX8_init 1 none 1 20 [.ref x0] w none wR 7 246 := by
  refine kOf (own := RX8) (by decide) rfl (Nat.le_of_ble_eq_true rfl) ?_
  intro p e s m below meth c ls F hml hr hlocks hnm hX hZ hl
  obtain ⟨hx, hb, hts, hown, hK⟩ := id F
  have hl : lv_has ls 1 [(0, .ref x0)] := hl
  have hf := h
  rw [fX8_init] at hf
  refine lv_aload_n hx hb (kd dtX8_init_0 0 rfl) rfl (lv_at hl 0 rfl) ?_
  refine kobj F (hml.trans hl.1.symm) wmX8_3 (Nat.le_of_ble_eq_true rfl) (Nat.le_of_ble_eq_true rfl) (kd dtX8_init_0 1 rfl) ?_
  refine lv_aload_n hx hb (kd dtX8_init_0 2 rfl) rfl (lv_at hl 0 rfl) ?_
  refine lv_bipush (v := (40 : Int32)) hx hb (kd dtX8_init_0 3 rfl) (by decide) ?_
  obtain ⟨w1, hw1, hf⟩ := kbind hf
  refine knewq (mx := 40) hw1 rfl (by decide) (by decide) F hX hZ.2.1.1 wkX8_9 (by decide) (by decide) (Nat.le_of_ble_eq_true rfl) (Nat.le_of_ble_eq_true rfl) (kd dtX8_init_0 4 rfl) (fun H hX => ?_)
  obtain ⟨w2, hw2, hf⟩ := kbind hf
  refine kputP hw2 F hX hinX8 tyX8_ok nmX8 rfl rfl rfl (by decide) (by decide) wfX8_11 (Or.inr ⟨rfl, hnm, rfl⟩) (kd dtX8_init_0 5 rfl) (fun H locs hX => ?_)
  refine lv_aload_n hx hb (kd dtX8_init_0 6 rfl) rfl (lv_at hl 0 rfl) ?_
  refine lv_bipush (v := (40 : Int32)) hx hb (kd dtX8_init_0 7 rfl) (by decide) ?_
  obtain ⟨w3, hw3, hf⟩ := kbind hf
  refine knewa (mx := 40) hw3 rfl (fun _ => rfl) (by decide) (by decide) F hX wA14 (by decide) (by decide) (Nat.le_of_ble_eq_true rfl) (Nat.le_of_ble_eq_true rfl) (kd dtX8_init_0 8 rfl) (fun H hX => ?_)
  obtain ⟨w4, hw4, hf⟩ := kbind hf
  refine kputP hw4 F hX hinX8 tyX8_ok nmX8 rfl rfl rfl (by decide) (by decide) wfX8_17 (Or.inr ⟨rfl, hnm, rfl⟩) (kd dtX8_init_0 9 rfl) (fun H locs hX => ?_)
  refine lv_aload_n hx hb (kd dtX8_init_0 10 rfl) rfl (lv_at hl 0 rfl) ?_
  refine lv_bipush (v := (40 : Int32)) hx hb (kd dtX8_init_0 11 rfl) (by decide) ?_
  obtain ⟨w5, hw5, hf⟩ := kbind hf
  refine knewa (mx := 40) hw5 rfl (fun _ => rfl) (by decide) (by decide) F hX wA14 (by decide) (by decide) (Nat.le_of_ble_eq_true rfl) (Nat.le_of_ble_eq_true rfl) (kd dtX8_init_0 12 rfl) (fun H hX => ?_)
  obtain ⟨w6, hw6, hf⟩ := kbind hf
  refine kputP hw6 F hX hinX8 tyX8_ok nmX8 rfl rfl rfl (by decide) (by decide) wfX8_21 (Or.inr ⟨rfl, hnm, rfl⟩) (kd dtX8_init_0 13 rfl) (fun H locs hX => ?_)
  refine lv_aload_n hx hb (kd dtX8_init_0 14 rfl) rfl (lv_at hl 0 rfl) ?_
  refine lv_bipush (v := (40 : Int32)) hx hb (kd dtX8_init_0 15 rfl) (by decide) ?_
  obtain ⟨w7, hw7, hf⟩ := kbind hf
  refine knewa (mx := 40) hw7 rfl (fun _ => rfl) (by decide) (by decide) F hX wA14 (by decide) (by decide) (Nat.le_of_ble_eq_true rfl) (Nat.le_of_ble_eq_true rfl) (kd dtX8_init_0 16 rfl) (fun H hX => ?_)
  obtain ⟨w8, hw8, hf⟩ := kbind hf
  refine kputP hw8 F hX hinX8 tyX8_ok nmX8 rfl rfl rfl (by decide) (by decide) wfX8_24 (Or.inr ⟨rfl, hnm, rfl⟩) (kd dtX8_init_0 17 rfl) (fun H locs hX => ?_)
  refine lv_aload_n hx hb (kd dtX8_init_0 18 rfl) rfl (lv_at hl 0 rfl) ?_
  refine lv_bipush (v := (40 : Int32)) hx hb (kd dtX8_init_0 19 rfl) (by decide) ?_
  obtain ⟨w9, hw9, hf⟩ := kbind hf
  refine knewa (mx := 40) hw9 rfl (fun _ => rfl) (by decide) (by decide) F hX wA14 (by decide) (by decide) (Nat.le_of_ble_eq_true rfl) (Nat.le_of_ble_eq_true rfl) (kd dtX8_init_0 20 rfl) (fun H hX => ?_)
  obtain ⟨w10, hw10, hf⟩ := kbind hf
  refine kputP hw10 F hX hinX8 tyX8_ok nmX8 rfl rfl rfl (by decide) (by decide) wfX8_27 (Or.inr ⟨rfl, hnm, rfl⟩) (kd dtX8_init_0 21 rfl) (fun H locs hX => ?_)
  refine lv_aload_n hx hb (kd dtX8_init_0 22 rfl) rfl (lv_at hl 0 rfl) ?_
  refine lv_bipush (v := (40 : Int32)) hx hb (kd dtX8_init_0 23 rfl) (by decide) ?_
  obtain ⟨w11, hw11, hf⟩ := kbind hf
  refine knewa (mx := 40) hw11 rfl (fun _ => rfl) (by decide) (by decide) F hX wA14 (by decide) (by decide) (Nat.le_of_ble_eq_true rfl) (Nat.le_of_ble_eq_true rfl) (kd dtX8_init_0 24 rfl) (fun H hX => ?_)
  obtain ⟨w12, hw12, hf⟩ := kbind hf
  refine kputP hw12 F hX hinX8 tyX8_ok nmX8 rfl rfl rfl (by decide) (by decide) wfX8_30 (Or.inr ⟨rfl, hnm, rfl⟩) (kd dtX8_init_0 25 rfl) (fun H locs hX => ?_)
  refine lv_aload_n hx hb (kd dtX8_init_0 26 rfl) rfl (lv_at hl 0 rfl) ?_
  refine lv_bipush (v := (6 : Int32)) hx hb (kd dtX8_init_0 27 rfl) (by decide) ?_
  obtain ⟨w13, hw13, hf⟩ := kbind hf
  refine knewq (mx := 6) hw13 rfl (by decide) (by decide) F hX hZ.2.1.2.1 wkX8_33 (by decide) (by decide) (Nat.le_of_ble_eq_true rfl) (Nat.le_of_ble_eq_true rfl) (kd dtX8_init_0 28 rfl) (fun H hX => ?_)
  obtain ⟨w14, hw14, hf⟩ := kbind hf
  refine kputP hw14 F hX hinX8 tyX8_ok nmX8 rfl rfl rfl (by decide) (by decide) wfX8_35 (Or.inr ⟨rfl, hnm, rfl⟩) (kd dtX8_init_0 29 rfl) (fun H locs hX => ?_)
  refine lv_aload_n hx hb (kd dtX8_init_0 30 rfl) rfl (lv_at hl 0 rfl) ?_
  refine lv_iconst (v := (0 : Int32)) hx hb (kd dtX8_init_0 31 rfl) (by decide) ?_
  obtain ⟨w15, hw15, hf⟩ := kbind hf
  refine kputI hw15 F hX hinX8 tyX8_ok nmX8 rfl rfl rfl (by decide) (by decide) wfX8_39 rfl rfl (Or.inl rfl) (kd dtX8_init_0 32 rfl) (fun H locs hX => ?_)
  refine lv_aload_n hx hb (kd dtX8_init_0 33 rfl) rfl (lv_at hl 0 rfl) ?_
  refine lv_iconst (v := (0 : Int32)) hx hb (kd dtX8_init_0 34 rfl) (by decide) ?_
  obtain ⟨w16, hw16, hf⟩ := kbind hf
  refine kputI hw16 F hX hinX8 tyX8_ok nmX8 rfl rfl rfl (by decide) (by decide) wfX8_43 rfl rfl (Or.inl rfl) (kd dtX8_init_0 35 rfl) (fun H locs hX => ?_)
  refine lv_aload_n hx hb (kd dtX8_init_0 36 rfl) rfl (lv_at hl 0 rfl) ?_
  refine lv_iconst (v := (0 : Int32)) hx hb (kd dtX8_init_0 37 rfl) (by decide) ?_
  obtain ⟨w17, hw17, hf⟩ := kbind hf
  refine kputI hw17 F hX hinX8 tyX8_ok nmX8 rfl rfl rfl (by decide) (by decide) wfX8_46 rfl rfl (Or.inl rfl) (kd dtX8_init_0 38 rfl) (fun H locs hX => ?_)
  obtain rfl := Option.some.inj hf
  refine W.widen (k := 7) (n := 246) (Nat.le_of_ble_eq_true rfl) (Nat.le_of_ble_eq_true rfl) ?_
  exact kvret F hX hr hlocks rfl (kd dtX8_init_0 39 rfl)
def lX8_addLine_0 : List (Nat × Instr × Nat) := [(0, .aload_n 0, 1), (1, .getfield 39, 3), (4, .bipush 40, 2), (6, .if_icmp .lt 6, 3), (9, .bipush (-2), 2), (11, .ireturn, 1), (12, .aload_n 0, 1), (13, .getfield 11, 3), (16, .aload_n 0, 1), (17, .getfield 39, 3), (20, .aload_n 1, 1), (21, .aastore, 1), (22, .aload_n 0, 1), (23, .getfield 17, 3), (26, .aload_n 0, 1), (27, .getfield 39, 3), (30, .iconst 0, 1), (31, .iastore, 1), (32, .aload_n 0, 1), (33, .dup, 1), (34, .getfield 39, 3), (37, .iconst 1, 1), (38, .iadd, 1), (39, .putfield 39, 3), (42, .aload_n 0, 1), (43, .getfield 39, 3), (46, .iconst 1, 1), (47, .isub, 1), (48, .ireturn, 1)]
theorem dtX8_addLine_0 : kDec cX8_addLine lX8_addLine_0 = true := by decide +kernel
noncomputable def fX8_addLine (x0 : Nat) (x1 : Option Nat) (w : kW) : Option (Int32 × kW) :=
  (kgI w 8 (some x0) 7).bind fun v1 =>
  if v1 < (40 : Int32) then
  (kgP w 8 (some x0) 0).bind fun v2 =>
  (kgI w 8 (some x0) 7).bind fun v3 =>
  (ksP w 16 v2 v3 x1).bind fun w4 =>
  (kgP w4 8 (some x0) 1).bind fun v5 =>
  (kgI w4 8 (some x0) 7).bind fun v6 =>
  (ksI w4 14 v5 v6 (0 : Int32)).bind fun w7 =>
  (kgI w7 8 (some x0) 7).bind fun v8 =>
  (kpI w7 8 (some x0) 7 (v8 + (1 : Int32))).bind fun w9 =>
  (kgI w9 8 (some x0) 7).bind fun v10 =>
  some (v10 - (1 : Int32), w9)
  else
  some ((-2 : Int32), w)

set_option maxHeartbeats 4000000 in
set_option maxRecDepth 100000 in
theorem rX8_addLine (l : Launch) (D : va_G) (aC : Nat → ClassId) {x0 : Nat} {x1 : Option Nat} {w : kW} {wR : kW} {oR : Int32} (h : fX8_addLine x0 x1 w = some (oR, wR)) : kC l D aC yX8_addLine cX8_addLine 2 (some .int) 1 12 [.ref x0, va_rf x1] w (some (.int oR)) wR 0 0 := by
  refine kOf (own := RX8) (by decide) rfl (by simp [lg_sl, kcat_rf, kcat_i, kcat_r, kcat_l]) ?_
  intro p e s m below meth c ls F hml hr hlocks hnm hX hZ hl
  obtain ⟨hx, hb, hts, hown, hK⟩ := id F
  have hl : lv_has ls 2 [(0, .ref x0), (1, va_rf x1)] := by simpa [lv_args, kcat_rf, kcat_i, kcat_r, kcat_l] using hl
  have hf := h
  rw [fX8_addLine] at hf
  refine lv_aload_n hx hb (kd dtX8_addLine_0 0 rfl) rfl (lv_at hl 0 rfl) ?_
  obtain ⟨v1, hv1, hf⟩ := kbind hf
  refine kgetI hv1 F hX hinX8 rfl rfl rfl (by decide) (by decide) wfX8_39 (kd dtX8_addLine_0 1 rfl) ?_
  refine lv_bipush (v := (40 : Int32)) hx hb (kd dtX8_addLine_0 2 rfl) (by decide) ?_
  refine lv_icmp_lt (tgt := 12) hx hb (kd dtX8_addLine_0 3 rfl) (by decide) (fun hc => ?_) (fun hc => ?_)
  · have hf := kif_pos hc hf
    refine lv_aload_n hx hb (kd dtX8_addLine_0 6 rfl) rfl (lv_at hl 0 rfl) ?_
    obtain ⟨v2, hv2, hf⟩ := kbind hf
    refine kgetP hv2 F hX hinX8 rfl rfl rfl (by decide) (by decide) wfX8_11 (kd dtX8_addLine_0 7 rfl) ?_
    refine lv_aload_n hx hb (kd dtX8_addLine_0 8 rfl) rfl (lv_at hl 0 rfl) ?_
    obtain ⟨v3, hv3, hf⟩ := kbind hf
    refine kgetI hv3 F hX hinX8 rfl rfl rfl (by decide) (by decide) wfX8_39 (kd dtX8_addLine_0 9 rfl) ?_
    refine kaload_n hx hb (kd dtX8_addLine_0 10 rfl) rfl (lv_at hl 1 rfl) ?_
    obtain ⟨w4, hw4, hf⟩ := kbind hf
    refine kqst16 hw4 F hX (kd dtX8_addLine_0 11 rfl) (fun H locs hX => ?_)
    refine lv_aload_n hx hb (kd dtX8_addLine_0 12 rfl) rfl (lv_at hl 0 rfl) ?_
    obtain ⟨v5, hv5, hf⟩ := kbind hf
    refine kgetP hv5 F hX hinX8 rfl rfl rfl (by decide) (by decide) wfX8_17 (kd dtX8_addLine_0 13 rfl) ?_
    refine lv_aload_n hx hb (kd dtX8_addLine_0 14 rfl) rfl (lv_at hl 0 rfl) ?_
    obtain ⟨v6, hv6, hf⟩ := kbind hf
    refine kgetI hv6 F hX hinX8 rfl rfl rfl (by decide) (by decide) wfX8_39 (kd dtX8_addLine_0 15 rfl) ?_
    refine lv_iconst (v := (0 : Int32)) hx hb (kd dtX8_addLine_0 16 rfl) (by decide) ?_
    obtain ⟨w7, hw7, hf⟩ := kbind hf
    refine kast hw7 F hX (kd dtX8_addLine_0 17 rfl) (fun H locs hX => ?_)
    refine lv_aload_n hx hb (kd dtX8_addLine_0 18 rfl) rfl (lv_at hl 0 rfl) ?_
    refine lv_dup hx hb (kd dtX8_addLine_0 19 rfl) rfl ?_
    obtain ⟨v8, hv8, hf⟩ := kbind hf
    refine kgetI hv8 F hX hinX8 rfl rfl rfl (by decide) (by decide) wfX8_39 (kd dtX8_addLine_0 20 rfl) ?_
    refine lv_iconst (v := (1 : Int32)) hx hb (kd dtX8_addLine_0 21 rfl) (by decide) ?_
    refine lv_iadd hx hb (kd dtX8_addLine_0 22 rfl) ?_
    obtain ⟨w9, hw9, hf⟩ := kbind hf
    refine kputI hw9 F hX hinX8 tyX8_ok nmX8 rfl rfl rfl (by decide) (by decide) wfX8_39 rfl rfl (Or.inl rfl) (kd dtX8_addLine_0 23 rfl) (fun H locs hX => ?_)
    refine lv_aload_n hx hb (kd dtX8_addLine_0 24 rfl) rfl (lv_at hl 0 rfl) ?_
    obtain ⟨v10, hv10, hf⟩ := kbind hf
    refine kgetI hv10 F hX hinX8 rfl rfl rfl (by decide) (by decide) wfX8_39 (kd dtX8_addLine_0 25 rfl) ?_
    refine lv_iconst (v := (1 : Int32)) hx hb (kd dtX8_addLine_0 26 rfl) (by decide) ?_
    refine lv_isub hx hb (kd dtX8_addLine_0 27 rfl) ?_
    obtain ⟨rfl, rfl⟩ := Prod.mk.inj (Option.some.inj hf)
    exact kiret F hX hr hlocks rfl (kd dtX8_addLine_0 28 rfl)
  · have hf := kif_neg hc hf
    refine lv_bipush (v := (-2 : Int32)) hx hb (kd dtX8_addLine_0 4 rfl) (by decide) ?_
    obtain ⟨rfl, rfl⟩ := Prod.mk.inj (Option.some.inj hf)
    exact kiret F hX hr hlocks rfl (kd dtX8_addLine_0 5 rfl)
def lX8_lineAt_0 : List (Nat × Instr × Nat) := [(0, .iload_n 1, 1), (1, .ifCond .lt 26, 3), (4, .iload_n 1, 1), (5, .aload_n 0, 1), (6, .getfield 39, 3), (9, .if_icmp .ge 18, 3), (12, .iload_n 1, 1), (13, .bipush 40, 2), (15, .if_icmp .ge 12, 3), (18, .aload_n 0, 1), (19, .getfield 11, 3), (22, .iload_n 1, 1), (23, .aaload, 1), (24, .goto 4, 3), (27, .aconst_null, 1), (28, .areturn, 1)]
theorem dtX8_lineAt_0 : kDec cX8_lineAt lX8_lineAt_0 = true := by decide +kernel
noncomputable def fX8_lineAt (x0 : Nat) (x1 : Int32) (w : kW) : Option (Option Nat) :=
  if x1 < 0 then
  some none
  else
  (kgI w 8 (some x0) 7).bind fun v1 =>
  if v1 ≤ x1 then
  some none
  else
  if (40 : Int32) ≤ x1 then
  some none
  else
  (kgP w 8 (some x0) 0).bind fun v2 =>
  (kaP w 16 v2 x1).bind fun v3 =>
  some v3

set_option maxHeartbeats 4000000 in
set_option maxRecDepth 100000 in
theorem rX8_lineAt (l : Launch) (D : va_G) (aC : Nat → ClassId) {x0 : Nat} {x1 : Int32} {w : kW} {oR : Option Nat} (h : fX8_lineAt x0 x1 w = some oR) : kC l D aC yX8_lineAt cX8_lineAt 2 (some (.object "KitchenCards$Line")) 1 12 [.ref x0, .int x1] w (some (va_rf oR)) w 0 0 := by
  refine kOf (own := RX8) (by decide) rfl (Nat.le_of_ble_eq_true rfl) ?_
  intro p e s m below meth c ls F hml hr hlocks hnm hX hZ hl
  obtain ⟨hx, hb, hts, hown, hK⟩ := id F
  have hl : lv_has ls 2 [(0, .ref x0), (1, .int x1)] := hl
  have hf := h
  rw [fX8_lineAt] at hf
  refine lv_iload_n hx hb (kd dtX8_lineAt_0 0 rfl) rfl (lv_at hl 1 rfl) ?_
  refine lv_if_lt (tgt := 27) hx hb (kd dtX8_lineAt_0 1 rfl) (by decide) (fun hc => ?_) (fun hc => ?_)
  · have hf := kif_pos hc hf
    refine lv_null hx hb (kd dtX8_lineAt_0 14 rfl) ?_
    obtain rfl := Option.some.inj hf
    exact karet F hX hr hlocks rfl (kd dtX8_lineAt_0 15 rfl)
  · have hf := kif_neg hc hf
    refine lv_iload_n hx hb (kd dtX8_lineAt_0 2 rfl) rfl (lv_at hl 1 rfl) ?_
    refine lv_aload_n hx hb (kd dtX8_lineAt_0 3 rfl) rfl (lv_at hl 0 rfl) ?_
    obtain ⟨v1, hv1, hf⟩ := kbind hf
    refine kgetI hv1 F hX hinX8 rfl rfl rfl (by decide) (by decide) wfX8_39 (kd dtX8_lineAt_0 4 rfl) ?_
    refine lv_icmp_ge (tgt := 27) hx hb (kd dtX8_lineAt_0 5 rfl) (by decide) (fun hc => ?_) (fun hc => ?_)
    · have hf := kif_pos hc hf
      refine lv_null hx hb (kd dtX8_lineAt_0 14 rfl) ?_
      obtain rfl := Option.some.inj hf
      exact karet F hX hr hlocks rfl (kd dtX8_lineAt_0 15 rfl)
    · have hf := kif_neg hc hf
      refine lv_iload_n hx hb (kd dtX8_lineAt_0 6 rfl) rfl (lv_at hl 1 rfl) ?_
      refine lv_bipush (v := (40 : Int32)) hx hb (kd dtX8_lineAt_0 7 rfl) (by decide) ?_
      refine lv_icmp_ge (tgt := 27) hx hb (kd dtX8_lineAt_0 8 rfl) (by decide) (fun hc => ?_) (fun hc => ?_)
      · have hf := kif_pos hc hf
        refine lv_null hx hb (kd dtX8_lineAt_0 14 rfl) ?_
        obtain rfl := Option.some.inj hf
        exact karet F hX hr hlocks rfl (kd dtX8_lineAt_0 15 rfl)
      · have hf := kif_neg hc hf
        refine lv_aload_n hx hb (kd dtX8_lineAt_0 9 rfl) rfl (lv_at hl 0 rfl) ?_
        obtain ⟨v2, hv2, hf⟩ := kbind hf
        refine kgetP hv2 F hX hinX8 rfl rfl rfl (by decide) (by decide) wfX8_11 (kd dtX8_lineAt_0 10 rfl) ?_
        refine lv_iload_n hx hb (kd dtX8_lineAt_0 11 rfl) rfl (lv_at hl 1 rfl) ?_
        obtain ⟨v3, hv3, hf⟩ := kbind hf
        refine kqld16 hv3 F hX (kd dtX8_lineAt_0 12 rfl) ?_
        refine lv_goto (tgt := 28) hx hb (kd dtX8_lineAt_0 13 rfl) (by decide) ?_
        obtain rfl := Option.some.inj hf
        exact karet F hX hr hlocks rfl (kd dtX8_lineAt_0 15 rfl)
def lX8_howIs_0 : List (Nat × Instr × Nat) := [(0, .iload_n 1, 1), (1, .ifCond .lt 26, 3), (4, .iload_n 1, 1), (5, .aload_n 0, 1), (6, .getfield 39, 3), (9, .if_icmp .ge 18, 3), (12, .iload_n 1, 1), (13, .bipush 40, 2), (15, .if_icmp .ge 12, 3), (18, .aload_n 0, 1), (19, .getfield 17, 3), (22, .iload_n 1, 1), (23, .iaload, 1), (24, .goto 4, 3), (27, .iconst 0, 1), (28, .ireturn, 1)]
theorem dtX8_howIs_0 : kDec cX8_howIs lX8_howIs_0 = true := by decide +kernel
noncomputable def fX8_howIs (x0 : Nat) (x1 : Int32) (w : kW) : Option Int32 :=
  if x1 < 0 then
  some (0 : Int32)
  else
  (kgI w 8 (some x0) 7).bind fun v1 =>
  if v1 ≤ x1 then
  some (0 : Int32)
  else
  if (40 : Int32) ≤ x1 then
  some (0 : Int32)
  else
  (kgP w 8 (some x0) 1).bind fun v2 =>
  (kaI w 14 v2 x1).bind fun v3 =>
  some v3

set_option maxHeartbeats 4000000 in
set_option maxRecDepth 100000 in
theorem rX8_howIs (l : Launch) (D : va_G) (aC : Nat → ClassId) {x0 : Nat} {x1 : Int32} {w : kW} {oR : Int32} (h : fX8_howIs x0 x1 w = some oR) : kC l D aC yX8_howIs cX8_howIs 2 (some .int) 1 12 [.ref x0, .int x1] w (some (.int oR)) w 0 0 := by
  refine kOf (own := RX8) (by decide) rfl (Nat.le_of_ble_eq_true rfl) ?_
  intro p e s m below meth c ls F hml hr hlocks hnm hX hZ hl
  obtain ⟨hx, hb, hts, hown, hK⟩ := id F
  have hl : lv_has ls 2 [(0, .ref x0), (1, .int x1)] := hl
  have hf := h
  rw [fX8_howIs] at hf
  refine lv_iload_n hx hb (kd dtX8_howIs_0 0 rfl) rfl (lv_at hl 1 rfl) ?_
  refine lv_if_lt (tgt := 27) hx hb (kd dtX8_howIs_0 1 rfl) (by decide) (fun hc => ?_) (fun hc => ?_)
  · have hf := kif_pos hc hf
    refine lv_iconst (v := (0 : Int32)) hx hb (kd dtX8_howIs_0 14 rfl) (by decide) ?_
    obtain rfl := Option.some.inj hf
    exact kiret F hX hr hlocks rfl (kd dtX8_howIs_0 15 rfl)
  · have hf := kif_neg hc hf
    refine lv_iload_n hx hb (kd dtX8_howIs_0 2 rfl) rfl (lv_at hl 1 rfl) ?_
    refine lv_aload_n hx hb (kd dtX8_howIs_0 3 rfl) rfl (lv_at hl 0 rfl) ?_
    obtain ⟨v1, hv1, hf⟩ := kbind hf
    refine kgetI hv1 F hX hinX8 rfl rfl rfl (by decide) (by decide) wfX8_39 (kd dtX8_howIs_0 4 rfl) ?_
    refine lv_icmp_ge (tgt := 27) hx hb (kd dtX8_howIs_0 5 rfl) (by decide) (fun hc => ?_) (fun hc => ?_)
    · have hf := kif_pos hc hf
      refine lv_iconst (v := (0 : Int32)) hx hb (kd dtX8_howIs_0 14 rfl) (by decide) ?_
      obtain rfl := Option.some.inj hf
      exact kiret F hX hr hlocks rfl (kd dtX8_howIs_0 15 rfl)
    · have hf := kif_neg hc hf
      refine lv_iload_n hx hb (kd dtX8_howIs_0 6 rfl) rfl (lv_at hl 1 rfl) ?_
      refine lv_bipush (v := (40 : Int32)) hx hb (kd dtX8_howIs_0 7 rfl) (by decide) ?_
      refine lv_icmp_ge (tgt := 27) hx hb (kd dtX8_howIs_0 8 rfl) (by decide) (fun hc => ?_) (fun hc => ?_)
      · have hf := kif_pos hc hf
        refine lv_iconst (v := (0 : Int32)) hx hb (kd dtX8_howIs_0 14 rfl) (by decide) ?_
        obtain rfl := Option.some.inj hf
        exact kiret F hX hr hlocks rfl (kd dtX8_howIs_0 15 rfl)
      · have hf := kif_neg hc hf
        refine lv_aload_n hx hb (kd dtX8_howIs_0 9 rfl) rfl (lv_at hl 0 rfl) ?_
        obtain ⟨v2, hv2, hf⟩ := kbind hf
        refine kgetP hv2 F hX hinX8 rfl rfl rfl (by decide) (by decide) wfX8_17 (kd dtX8_howIs_0 10 rfl) ?_
        refine lv_iload_n hx hb (kd dtX8_howIs_0 11 rfl) rfl (lv_at hl 1 rfl) ?_
        obtain ⟨v3, hv3, hf⟩ := kbind hf
        refine kald hv3 F hX (kd dtX8_howIs_0 12 rfl) ?_
        refine lv_goto (tgt := 28) hx hb (kd dtX8_howIs_0 13 rfl) (by decide) ?_
        obtain rfl := Option.some.inj hf
        exact kiret F hX hr hlocks rfl (kd dtX8_howIs_0 15 rfl)
def lX8_knownAt_0 : List (Nat × Instr × Nat) := [(0, .iload_n 1, 1), (1, .ifCond .lt 26, 3), (4, .iload_n 1, 1), (5, .aload_n 0, 1), (6, .getfield 43, 3), (9, .if_icmp .ge 18, 3), (12, .iload_n 1, 1), (13, .bipush 40, 2), (15, .if_icmp .ge 12, 3), (18, .aload_n 0, 1), (19, .getfield 21, 3), (22, .iload_n 1, 1), (23, .iaload, 1), (24, .goto 5, 3), (27, .bipush (-4), 2), (29, .ireturn, 1)]
theorem dtX8_knownAt_0 : kDec cX8_knownAt lX8_knownAt_0 = true := by decide +kernel
noncomputable def fX8_knownAt (x0 : Nat) (x1 : Int32) (w : kW) : Option Int32 :=
  if x1 < 0 then
  some (-4 : Int32)
  else
  (kgI w 8 (some x0) 8).bind fun v1 =>
  if v1 ≤ x1 then
  some (-4 : Int32)
  else
  if (40 : Int32) ≤ x1 then
  some (-4 : Int32)
  else
  (kgP w 8 (some x0) 2).bind fun v2 =>
  (kaI w 14 v2 x1).bind fun v3 =>
  some v3

set_option maxHeartbeats 4000000 in
set_option maxRecDepth 100000 in
theorem rX8_knownAt (l : Launch) (D : va_G) (aC : Nat → ClassId) {x0 : Nat} {x1 : Int32} {w : kW} {oR : Int32} (h : fX8_knownAt x0 x1 w = some oR) : kC l D aC yX8_knownAt cX8_knownAt 2 (some .int) 1 12 [.ref x0, .int x1] w (some (.int oR)) w 0 0 := by
  refine kOf (own := RX8) (by decide) rfl (Nat.le_of_ble_eq_true rfl) ?_
  intro p e s m below meth c ls F hml hr hlocks hnm hX hZ hl
  obtain ⟨hx, hb, hts, hown, hK⟩ := id F
  have hl : lv_has ls 2 [(0, .ref x0), (1, .int x1)] := hl
  have hf := h
  rw [fX8_knownAt] at hf
  refine lv_iload_n hx hb (kd dtX8_knownAt_0 0 rfl) rfl (lv_at hl 1 rfl) ?_
  refine lv_if_lt (tgt := 27) hx hb (kd dtX8_knownAt_0 1 rfl) (by decide) (fun hc => ?_) (fun hc => ?_)
  · have hf := kif_pos hc hf
    refine lv_bipush (v := (-4 : Int32)) hx hb (kd dtX8_knownAt_0 14 rfl) (by decide) ?_
    obtain rfl := Option.some.inj hf
    exact kiret F hX hr hlocks rfl (kd dtX8_knownAt_0 15 rfl)
  · have hf := kif_neg hc hf
    refine lv_iload_n hx hb (kd dtX8_knownAt_0 2 rfl) rfl (lv_at hl 1 rfl) ?_
    refine lv_aload_n hx hb (kd dtX8_knownAt_0 3 rfl) rfl (lv_at hl 0 rfl) ?_
    obtain ⟨v1, hv1, hf⟩ := kbind hf
    refine kgetI hv1 F hX hinX8 rfl rfl rfl (by decide) (by decide) wfX8_43 (kd dtX8_knownAt_0 4 rfl) ?_
    refine lv_icmp_ge (tgt := 27) hx hb (kd dtX8_knownAt_0 5 rfl) (by decide) (fun hc => ?_) (fun hc => ?_)
    · have hf := kif_pos hc hf
      refine lv_bipush (v := (-4 : Int32)) hx hb (kd dtX8_knownAt_0 14 rfl) (by decide) ?_
      obtain rfl := Option.some.inj hf
      exact kiret F hX hr hlocks rfl (kd dtX8_knownAt_0 15 rfl)
    · have hf := kif_neg hc hf
      refine lv_iload_n hx hb (kd dtX8_knownAt_0 6 rfl) rfl (lv_at hl 1 rfl) ?_
      refine lv_bipush (v := (40 : Int32)) hx hb (kd dtX8_knownAt_0 7 rfl) (by decide) ?_
      refine lv_icmp_ge (tgt := 27) hx hb (kd dtX8_knownAt_0 8 rfl) (by decide) (fun hc => ?_) (fun hc => ?_)
      · have hf := kif_pos hc hf
        refine lv_bipush (v := (-4 : Int32)) hx hb (kd dtX8_knownAt_0 14 rfl) (by decide) ?_
        obtain rfl := Option.some.inj hf
        exact kiret F hX hr hlocks rfl (kd dtX8_knownAt_0 15 rfl)
      · have hf := kif_neg hc hf
        refine lv_aload_n hx hb (kd dtX8_knownAt_0 9 rfl) rfl (lv_at hl 0 rfl) ?_
        obtain ⟨v2, hv2, hf⟩ := kbind hf
        refine kgetP hv2 F hX hinX8 rfl rfl rfl (by decide) (by decide) wfX8_21 (kd dtX8_knownAt_0 10 rfl) ?_
        refine lv_iload_n hx hb (kd dtX8_knownAt_0 11 rfl) rfl (lv_at hl 1 rfl) ?_
        obtain ⟨v3, hv3, hf⟩ := kbind hf
        refine kald hv3 F hX (kd dtX8_knownAt_0 12 rfl) ?_
        refine lv_goto (tgt := 29) hx hb (kd dtX8_knownAt_0 13 rfl) (by decide) ?_
        obtain rfl := Option.some.inj hf
        exact kiret F hX hr hlocks rfl (kd dtX8_knownAt_0 15 rfl)
theorem wmX8_49 : Cond.methodLink RX8 49 yX8_knownAt ∈ kT := kTm 647 (by decide +kernel) rfl
theorem mwX8_knownAt : kMV RX8 yX8_knownAt cX8_knownAt 2 (some .int) := ⟨kTm 650 (by decide +kernel) rfl, kTm 95 (by decide +kernel) rfl, kTm 648 (by decide +kernel) rfl, kTm 649 (by decide +kernel) rfl⟩
def lX8_placeOf_0 : List (Nat × Instr × Nat) := [(0, .iconst 0, 1), (1, .istore_n 2, 1), (2, .iload_n 2, 1), (3, .aload_n 0, 1), (4, .getfield 43, 3), (7, .if_icmp .ge 20, 3), (10, .aload_n 0, 1), (11, .iload_n 2, 1), (12, .invokevirtual 49, 3), (15, .iload_n 1, 1), (16, .if_icmp .ne 5, 3), (19, .iload_n 2, 1), (20, .ireturn, 1), (21, .iinc 2 1, 3), (24, .goto (-22), 3), (27, .bipush (-4), 2), (29, .ireturn, 1)]
theorem dtX8_placeOf_0 : kDec cX8_placeOf lX8_placeOf_0 = true := by decide +kernel
noncomputable def fX8_placeOf_L2 (x0 : Nat) (x1 : Int32) (w : kW) : Nat → (Int32 → Option Int32) → Int32 → Option Int32
  | 0, _, _ => none
  | n + 1, k, x2 =>
  (kgI w 8 (some x0) 8).bind fun v1 =>
  if v1 ≤ x2 then
  k x2
  else
  (kRc w 8 (some x0)).bind fun b2 =>
  (fX8_knownAt b2 x2 w).bind fun v4 =>
  if v4 = x1 then
  some x2
  else
  fX8_placeOf_L2 x0 x1 w n k (x2 + (1 : Int32))

noncomputable def fX8_placeOf (x0 : Nat) (x1 : Int32) (w : kW) : Option Int32 :=
  fX8_placeOf_L2 x0 x1 w kFU (fun y2_1 => some (-4 : Int32)) (0 : Int32)

set_option maxHeartbeats 4000000 in
set_option maxRecDepth 100000 in
theorem rX8_placeOf (l : Launch) (D : va_G) (aC : Nat → ClassId) {x0 : Nat} {x1 : Int32} {w : kW} {oR : Int32} (h : fX8_placeOf x0 x1 w = some oR) : kC l D aC yX8_placeOf cX8_placeOf 3 (some .int) 2 33 [.ref x0, .int x1] w (some (.int oR)) w 0 0 := by
  refine kOf (own := RX8) (by decide) rfl (Nat.le_of_ble_eq_true rfl) ?_
  intro p e s m below meth c ls F hml hr hlocks hnm hX hZ hl
  obtain ⟨hx, hb, hts, hown, hK⟩ := id F
  have hl : lv_has ls 3 [(0, .ref x0), (1, .int x1)] := hl
  have hf := h
  rw [fX8_placeOf] at hf
  refine lv_iconst (v := (0 : Int32)) hx hb (kd dtX8_placeOf_0 0 rfl) (by decide) ?_
  refine lv_istore_n (lv' := [(2, .int (0 : Int32)), (0, .ref x0), (1, .int x1)]) hx hb (kd dtX8_placeOf_0 1 rfl) rfl hl (by decide) rfl (fun ls hl => ?_)
  have hL2 : ∀ (n : Nat) (k : Int32 → Option Int32), ∀ (z2_2 : Int32) (H : Heap) (locs : List Loc) (ls : Array Slot), kX D aC w s.heap w H locs → lv_has ls 3 [(0, .ref x0), (1, .int x1), (2, .int z2_2)] → fX8_placeOf_L2 x0 x1 w n k z2_2 = some oR → (∀ (z2_2 : Int32) (H : Heap) (locs : List Loc) (ls : Array Slot), kX D aC w s.heap w H locs → lv_has ls 3 [(0, .ref x0), (1, .int x1), (2, .int z2_2)] → k z2_2 = some oR → W p l e { frames := 2, cells := 0, slots := 0, locals := 33 } s m ([.ref x0, .int x1] : List Value).toArray below meth c H locs 0 0 (MQ below (kQc D aC w (some (.int oR)) w) ([.ref x0, .int x1] : List Value).toArray s 0 0 (kA w)) (F0 m 27 ls [])) → W p l e { frames := 2, cells := 0, slots := 0, locals := 33 } s m ([.ref x0, .int x1] : List Value).toArray below meth c H locs 0 0 (MQ below (kQc D aC w (some (.int oR)) w) ([.ref x0, .int x1] : List Value).toArray s 0 0 (kA w)) (F0 m 2 ls []) := by
    intro n k
    induction n with
    | zero =>
      intro z2_2 H locs ls hX hl hf hk
      rw [fX8_placeOf_L2] at hf
      cases hf
    | succ n ih =>
      intro z2_2 H locs ls hX hl hf hk
      rw [fX8_placeOf_L2] at hf
      refine lv_iload_n hx hb (kd dtX8_placeOf_0 2 rfl) rfl (lv_at hl 2 rfl) ?_
      refine lv_aload_n hx hb (kd dtX8_placeOf_0 3 rfl) rfl (lv_at hl 0 rfl) ?_
      obtain ⟨v2, hv2, hf⟩ := kbind hf
      refine kgetI hv2 F hX hinX8 rfl rfl rfl (by decide) (by decide) wfX8_43 (kd dtX8_placeOf_0 4 rfl) ?_
      refine lv_icmp_ge (tgt := 27) hx hb (kd dtX8_placeOf_0 5 rfl) (by decide) (fun hc => ?_) (fun hc => ?_)
      · have hf := kif_pos hc hf
        exact hk z2_2 _ _ _ hX hl hf
      · have hf := kif_neg hc hf
        refine lv_aload_n hx hb (kd dtX8_placeOf_0 6 rfl) rfl (lv_at hl 0 rfl) ?_
        refine lv_iload_n hx hb (kd dtX8_placeOf_0 7 rfl) rfl (lv_at hl 2 rfl) ?_
        obtain ⟨b3, hb3, hf⟩ := kbind hf
        obtain ⟨hrb3, hkb3⟩ := kRc_s hb3
        obtain ⟨v5, h4, hf⟩ := kbind hf
        refine kcallV (n := 1) [.int z2_2] [] [.int v5] (rX8_knownAt l D aC h4) hrb3 hkb3 F hml hX hZ hl.1 mwX8_knownAt wmX8_49 rfl (by decide) (by decide +kernel) ⟨(by decide), (by decide)⟩ rfl rfl rfl (Nat.le_of_ble_eq_true rfl) (kd dtX8_placeOf_0 8 rfl) ⟨Nat.zero_le _, Nat.zero_le _⟩ (fun H locs hX => ?_)
        refine lv_iload_n hx hb (kd dtX8_placeOf_0 9 rfl) rfl (lv_at hl 1 rfl) ?_
        refine lv_icmp_ne (tgt := 21) hx hb (kd dtX8_placeOf_0 10 rfl) (by decide) (fun hc => ?_) (fun hc => ?_)
        · have hf := kif_neg hc hf
          refine lv_iinc (v := z2_2 + (1 : Int32)) (lv' := [(2, .int (z2_2 + (1 : Int32))), (0, .ref x0), (1, .int x1)]) hx hb (kd dtX8_placeOf_0 13 rfl) hl (k := 2) rfl (by rfl) (by decide) rfl (fun ls hl => ?_)
          refine lv_goto (tgt := 2) hx hb (kd dtX8_placeOf_0 14 rfl) (by decide) ?_
          exact ih (z2_2 + (1 : Int32)) _ _ _ hX (lv_sub hl [1, 2, 0] rfl) hf hk
        · have hf := kif_pos hc hf
          refine lv_iload_n hx hb (kd dtX8_placeOf_0 11 rfl) rfl (lv_at hl 2 rfl) ?_
          obtain rfl := Option.some.inj hf
          exact kiret F hX hr hlocks rfl (kd dtX8_placeOf_0 12 rfl)
  refine hL2 kFU _ (0 : Int32) _ _ _ hX (lv_sub hl [1, 2, 0] rfl) hf ?_
  intro y2_1 H locs ls hX hl hf
  refine lv_bipush (v := (-4 : Int32)) hx hb (kd dtX8_placeOf_0 15 rfl) (by decide) ?_
  obtain rfl := Option.some.inj hf
  exact kiret F hX hr hlocks rfl (kd dtX8_placeOf_0 16 rfl)
def lX8_makeKnown_0 : List (Nat × Instr × Nat) := [(0, .iload_n 1, 1), (1, .ifCond .lt 45, 3), (4, .iload_n 1, 1), (5, .bipush 40, 2), (7, .if_icmp .ge 39, 3), (10, .aload_n 0, 1), (11, .getfield 43, 3), (14, .bipush 40, 2), (16, .if_icmp .ge 30, 3), (19, .aload_n 0, 1), (20, .getfield 17, 3), (23, .iload_n 1, 1), (24, .iload_n 2, 1), (25, .iastore, 1), (26, .aload_n 0, 1), (27, .getfield 21, 3), (30, .aload_n 0, 1), (31, .getfield 43, 3), (34, .iload_n 1, 1), (35, .iastore, 1), (36, .aload_n 0, 1), (37, .dup, 1), (38, .getfield 43, 3), (41, .iconst 1, 1), (42, .iadd, 1), (43, .putfield 43, 3), (46, .return_, 1)]
theorem dtX8_makeKnown_0 : kDec cX8_makeKnown lX8_makeKnown_0 = true := by decide +kernel
noncomputable def fX8_makeKnown (x0 : Nat) (x1 : Int32) (x2 : Int32) (w : kW) : Option kW :=
  if x1 < 0 then
  some w
  else
  if (40 : Int32) ≤ x1 then
  some w
  else
  (kgI w 8 (some x0) 8).bind fun v1 =>
  if (40 : Int32) ≤ v1 then
  some w
  else
  (kgP w 8 (some x0) 1).bind fun v2 =>
  (ksI w 14 v2 x1 x2).bind fun w3 =>
  (kgP w3 8 (some x0) 2).bind fun v4 =>
  (kgI w3 8 (some x0) 8).bind fun v5 =>
  (ksI w3 14 v4 v5 x1).bind fun w6 =>
  (kgI w6 8 (some x0) 8).bind fun v7 =>
  (kpI w6 8 (some x0) 8 (v7 + (1 : Int32))).bind fun w8 =>
  some w8

set_option maxHeartbeats 4000000 in
set_option maxRecDepth 100000 in
theorem rX8_makeKnown (l : Launch) (D : va_G) (aC : Nat → ClassId) {x0 : Nat} {x1 : Int32} {x2 : Int32} {w : kW} {wR : kW} (h : fX8_makeKnown x0 x1 x2 w = some wR) : kC l D aC yX8_makeKnown cX8_makeKnown 3 none 1 12 [.ref x0, .int x1, .int x2] w none wR 0 0 := by
  refine kOf (own := RX8) (by decide) rfl (Nat.le_of_ble_eq_true rfl) ?_
  intro p e s m below meth c ls F hml hr hlocks hnm hX hZ hl
  obtain ⟨hx, hb, hts, hown, hK⟩ := id F
  have hl : lv_has ls 3 [(0, .ref x0), (1, .int x1), (2, .int x2)] := hl
  have hf := h
  rw [fX8_makeKnown] at hf
  refine lv_iload_n hx hb (kd dtX8_makeKnown_0 0 rfl) rfl (lv_at hl 1 rfl) ?_
  refine lv_if_lt (tgt := 46) hx hb (kd dtX8_makeKnown_0 1 rfl) (by decide) (fun hc => ?_) (fun hc => ?_)
  · have hf := kif_pos hc hf
    obtain rfl := Option.some.inj hf
    exact kvret F hX hr hlocks rfl (kd dtX8_makeKnown_0 26 rfl)
  · have hf := kif_neg hc hf
    refine lv_iload_n hx hb (kd dtX8_makeKnown_0 2 rfl) rfl (lv_at hl 1 rfl) ?_
    refine lv_bipush (v := (40 : Int32)) hx hb (kd dtX8_makeKnown_0 3 rfl) (by decide) ?_
    refine lv_icmp_ge (tgt := 46) hx hb (kd dtX8_makeKnown_0 4 rfl) (by decide) (fun hc => ?_) (fun hc => ?_)
    · have hf := kif_pos hc hf
      obtain rfl := Option.some.inj hf
      exact kvret F hX hr hlocks rfl (kd dtX8_makeKnown_0 26 rfl)
    · have hf := kif_neg hc hf
      refine lv_aload_n hx hb (kd dtX8_makeKnown_0 5 rfl) rfl (lv_at hl 0 rfl) ?_
      obtain ⟨v1, hv1, hf⟩ := kbind hf
      refine kgetI hv1 F hX hinX8 rfl rfl rfl (by decide) (by decide) wfX8_43 (kd dtX8_makeKnown_0 6 rfl) ?_
      refine lv_bipush (v := (40 : Int32)) hx hb (kd dtX8_makeKnown_0 7 rfl) (by decide) ?_
      refine lv_icmp_ge (tgt := 46) hx hb (kd dtX8_makeKnown_0 8 rfl) (by decide) (fun hc => ?_) (fun hc => ?_)
      · have hf := kif_pos hc hf
        obtain rfl := Option.some.inj hf
        exact kvret F hX hr hlocks rfl (kd dtX8_makeKnown_0 26 rfl)
      · have hf := kif_neg hc hf
        refine lv_aload_n hx hb (kd dtX8_makeKnown_0 9 rfl) rfl (lv_at hl 0 rfl) ?_
        obtain ⟨v2, hv2, hf⟩ := kbind hf
        refine kgetP hv2 F hX hinX8 rfl rfl rfl (by decide) (by decide) wfX8_17 (kd dtX8_makeKnown_0 10 rfl) ?_
        refine lv_iload_n hx hb (kd dtX8_makeKnown_0 11 rfl) rfl (lv_at hl 1 rfl) ?_
        refine lv_iload_n hx hb (kd dtX8_makeKnown_0 12 rfl) rfl (lv_at hl 2 rfl) ?_
        obtain ⟨w3, hw3, hf⟩ := kbind hf
        refine kast hw3 F hX (kd dtX8_makeKnown_0 13 rfl) (fun H locs hX => ?_)
        refine lv_aload_n hx hb (kd dtX8_makeKnown_0 14 rfl) rfl (lv_at hl 0 rfl) ?_
        obtain ⟨v4, hv4, hf⟩ := kbind hf
        refine kgetP hv4 F hX hinX8 rfl rfl rfl (by decide) (by decide) wfX8_21 (kd dtX8_makeKnown_0 15 rfl) ?_
        refine lv_aload_n hx hb (kd dtX8_makeKnown_0 16 rfl) rfl (lv_at hl 0 rfl) ?_
        obtain ⟨v5, hv5, hf⟩ := kbind hf
        refine kgetI hv5 F hX hinX8 rfl rfl rfl (by decide) (by decide) wfX8_43 (kd dtX8_makeKnown_0 17 rfl) ?_
        refine lv_iload_n hx hb (kd dtX8_makeKnown_0 18 rfl) rfl (lv_at hl 1 rfl) ?_
        obtain ⟨w6, hw6, hf⟩ := kbind hf
        refine kast hw6 F hX (kd dtX8_makeKnown_0 19 rfl) (fun H locs hX => ?_)
        refine lv_aload_n hx hb (kd dtX8_makeKnown_0 20 rfl) rfl (lv_at hl 0 rfl) ?_
        refine lv_dup hx hb (kd dtX8_makeKnown_0 21 rfl) rfl ?_
        obtain ⟨v7, hv7, hf⟩ := kbind hf
        refine kgetI hv7 F hX hinX8 rfl rfl rfl (by decide) (by decide) wfX8_43 (kd dtX8_makeKnown_0 22 rfl) ?_
        refine lv_iconst (v := (1 : Int32)) hx hb (kd dtX8_makeKnown_0 23 rfl) (by decide) ?_
        refine lv_iadd hx hb (kd dtX8_makeKnown_0 24 rfl) ?_
        obtain ⟨w8, hw8, hf⟩ := kbind hf
        refine kputI hw8 F hX hinX8 tyX8_ok nmX8 rfl rfl rfl (by decide) (by decide) wfX8_43 rfl rfl (Or.inl rfl) (kd dtX8_makeKnown_0 25 rfl) (fun H locs hX => ?_)
        obtain rfl := Option.some.inj hf
        exact kvret F hX hr hlocks rfl (kd dtX8_makeKnown_0 26 rfl)
def lX8_noteSource_0 : List (Nat × Instr × Nat) := [(0, .iload_n 1, 1), (1, .ifCond .lt 31, 3), (4, .iload_n 1, 1), (5, .bipush 40, 2), (7, .if_icmp .ge 25, 3), (10, .aload_n 0, 1), (11, .getfield 24, 3), (14, .iload_n 1, 1), (15, .iload_n 2, 1), (16, .iastore, 1), (17, .aload_n 0, 1), (18, .getfield 27, 3), (21, .iload_n 1, 1), (22, .iload_n 3, 1), (23, .iastore, 1), (24, .aload_n 0, 1), (25, .getfield 30, 3), (28, .iload_n 1, 1), (29, .iload 4, 2), (31, .iastore, 1), (32, .return_, 1)]
theorem dtX8_noteSource_0 : kDec cX8_noteSource lX8_noteSource_0 = true := by decide +kernel
noncomputable def fX8_noteSource (x0 : Nat) (x1 : Int32) (x2 : Int32) (x3 : Int32) (x4 : Int32) (w : kW) : Option kW :=
  if x1 < 0 then
  some w
  else
  if (40 : Int32) ≤ x1 then
  some w
  else
  (kgP w 8 (some x0) 3).bind fun v1 =>
  (ksI w 14 v1 x1 x2).bind fun w2 =>
  (kgP w2 8 (some x0) 4).bind fun v3 =>
  (ksI w2 14 v3 x1 x3).bind fun w4 =>
  (kgP w4 8 (some x0) 5).bind fun v5 =>
  (ksI w4 14 v5 x1 x4).bind fun w6 =>
  some w6

set_option maxHeartbeats 4000000 in
set_option maxRecDepth 100000 in
theorem rX8_noteSource (l : Launch) (D : va_G) (aC : Nat → ClassId) {x0 : Nat} {x1 : Int32} {x2 : Int32} {x3 : Int32} {x4 : Int32} {w : kW} {wR : kW} (h : fX8_noteSource x0 x1 x2 x3 x4 w = some wR) : kC l D aC yX8_noteSource cX8_noteSource 5 none 1 12 [.ref x0, .int x1, .int x2, .int x3, .int x4] w none wR 0 0 := by
  refine kOf (own := RX8) (by decide) rfl (Nat.le_of_ble_eq_true rfl) ?_
  intro p e s m below meth c ls F hml hr hlocks hnm hX hZ hl
  obtain ⟨hx, hb, hts, hown, hK⟩ := id F
  have hl : lv_has ls 5 [(0, .ref x0), (1, .int x1), (2, .int x2), (3, .int x3), (4, .int x4)] := hl
  have hf := h
  rw [fX8_noteSource] at hf
  refine lv_iload_n hx hb (kd dtX8_noteSource_0 0 rfl) rfl (lv_at hl 1 rfl) ?_
  refine lv_if_lt (tgt := 32) hx hb (kd dtX8_noteSource_0 1 rfl) (by decide) (fun hc => ?_) (fun hc => ?_)
  · have hf := kif_pos hc hf
    obtain rfl := Option.some.inj hf
    exact kvret F hX hr hlocks rfl (kd dtX8_noteSource_0 20 rfl)
  · have hf := kif_neg hc hf
    refine lv_iload_n hx hb (kd dtX8_noteSource_0 2 rfl) rfl (lv_at hl 1 rfl) ?_
    refine lv_bipush (v := (40 : Int32)) hx hb (kd dtX8_noteSource_0 3 rfl) (by decide) ?_
    refine lv_icmp_ge (tgt := 32) hx hb (kd dtX8_noteSource_0 4 rfl) (by decide) (fun hc => ?_) (fun hc => ?_)
    · have hf := kif_pos hc hf
      obtain rfl := Option.some.inj hf
      exact kvret F hX hr hlocks rfl (kd dtX8_noteSource_0 20 rfl)
    · have hf := kif_neg hc hf
      refine lv_aload_n hx hb (kd dtX8_noteSource_0 5 rfl) rfl (lv_at hl 0 rfl) ?_
      obtain ⟨v1, hv1, hf⟩ := kbind hf
      refine kgetP hv1 F hX hinX8 rfl rfl rfl (by decide) (by decide) wfX8_24 (kd dtX8_noteSource_0 6 rfl) ?_
      refine lv_iload_n hx hb (kd dtX8_noteSource_0 7 rfl) rfl (lv_at hl 1 rfl) ?_
      refine lv_iload_n hx hb (kd dtX8_noteSource_0 8 rfl) rfl (lv_at hl 2 rfl) ?_
      obtain ⟨w2, hw2, hf⟩ := kbind hf
      refine kast hw2 F hX (kd dtX8_noteSource_0 9 rfl) (fun H locs hX => ?_)
      refine lv_aload_n hx hb (kd dtX8_noteSource_0 10 rfl) rfl (lv_at hl 0 rfl) ?_
      obtain ⟨v3, hv3, hf⟩ := kbind hf
      refine kgetP hv3 F hX hinX8 rfl rfl rfl (by decide) (by decide) wfX8_27 (kd dtX8_noteSource_0 11 rfl) ?_
      refine lv_iload_n hx hb (kd dtX8_noteSource_0 12 rfl) rfl (lv_at hl 1 rfl) ?_
      refine lv_iload_n hx hb (kd dtX8_noteSource_0 13 rfl) rfl (lv_at hl 3 rfl) ?_
      obtain ⟨w4, hw4, hf⟩ := kbind hf
      refine kast hw4 F hX (kd dtX8_noteSource_0 14 rfl) (fun H locs hX => ?_)
      refine lv_aload_n hx hb (kd dtX8_noteSource_0 15 rfl) rfl (lv_at hl 0 rfl) ?_
      obtain ⟨v5, hv5, hf⟩ := kbind hf
      refine kgetP hv5 F hX hinX8 rfl rfl rfl (by decide) (by decide) wfX8_30 (kd dtX8_noteSource_0 16 rfl) ?_
      refine lv_iload_n hx hb (kd dtX8_noteSource_0 17 rfl) rfl (lv_at hl 1 rfl) ?_
      refine lv_iload hx hb (kd dtX8_noteSource_0 18 rfl) (lv_at hl 4 rfl) ?_
      obtain ⟨w6, hw6, hf⟩ := kbind hf
      refine kast hw6 F hX (kd dtX8_noteSource_0 19 rfl) (fun H locs hX => ?_)
      obtain rfl := Option.some.inj hf
      exact kvret F hX hr hlocks rfl (kd dtX8_noteSource_0 20 rfl)
def lX8_sourceOf_0 : List (Nat × Instr × Nat) := [(0, .iload_n 1, 1), (1, .ifCond .lt 9, 3), (4, .iload_n 1, 1), (5, .bipush 40, 2), (7, .if_icmp .lt 6, 3), (10, .bipush (-4), 2), (12, .ireturn, 1), (13, .iload_n 2, 1), (14, .ifCond .ne 12, 3), (17, .aload_n 0, 1), (18, .getfield 24, 3), (21, .iload_n 1, 1), (22, .iaload, 1), (23, .goto 23, 3), (26, .iload_n 2, 1), (27, .iconst 1, 1), (28, .if_icmp .ne 12, 3), (31, .aload_n 0, 1), (32, .getfield 27, 3), (35, .iload_n 1, 1), (36, .iaload, 1), (37, .goto 9, 3), (40, .aload_n 0, 1), (41, .getfield 30, 3), (44, .iload_n 1, 1), (45, .iaload, 1), (46, .ireturn, 1)]
theorem dtX8_sourceOf_0 : kDec cX8_sourceOf lX8_sourceOf_0 = true := by decide +kernel
noncomputable def fX8_sourceOf (x0 : Nat) (x1 : Int32) (x2 : Int32) (w : kW) : Option Int32 :=
  if x1 < 0 then
  some (-4 : Int32)
  else
  if x1 < (40 : Int32) then
  if x2 = 0 then
  (kgP w 8 (some x0) 3).bind fun v5 =>
  (kaI w 14 v5 x1).bind fun v6 =>
  some v6
  else
  if x2 = (1 : Int32) then
  (kgP w 8 (some x0) 4).bind fun v3 =>
  (kaI w 14 v3 x1).bind fun v4 =>
  some v4
  else
  (kgP w 8 (some x0) 5).bind fun v1 =>
  (kaI w 14 v1 x1).bind fun v2 =>
  some v2
  else
  some (-4 : Int32)

set_option maxHeartbeats 4000000 in
set_option maxRecDepth 100000 in
theorem rX8_sourceOf (l : Launch) (D : va_G) (aC : Nat → ClassId) {x0 : Nat} {x1 : Int32} {x2 : Int32} {w : kW} {oR : Int32} (h : fX8_sourceOf x0 x1 x2 w = some oR) : kC l D aC yX8_sourceOf cX8_sourceOf 3 (some .int) 1 12 [.ref x0, .int x1, .int x2] w (some (.int oR)) w 0 0 := by
  refine kOf (own := RX8) (by decide) rfl (Nat.le_of_ble_eq_true rfl) ?_
  intro p e s m below meth c ls F hml hr hlocks hnm hX hZ hl
  obtain ⟨hx, hb, hts, hown, hK⟩ := id F
  have hl : lv_has ls 3 [(0, .ref x0), (1, .int x1), (2, .int x2)] := hl
  have hf := h
  rw [fX8_sourceOf] at hf
  refine lv_iload_n hx hb (kd dtX8_sourceOf_0 0 rfl) rfl (lv_at hl 1 rfl) ?_
  refine lv_if_lt (tgt := 10) hx hb (kd dtX8_sourceOf_0 1 rfl) (by decide) (fun hc => ?_) (fun hc => ?_)
  · have hf := kif_pos hc hf
    refine lv_bipush (v := (-4 : Int32)) hx hb (kd dtX8_sourceOf_0 5 rfl) (by decide) ?_
    obtain rfl := Option.some.inj hf
    exact kiret F hX hr hlocks rfl (kd dtX8_sourceOf_0 6 rfl)
  · have hf := kif_neg hc hf
    refine lv_iload_n hx hb (kd dtX8_sourceOf_0 2 rfl) rfl (lv_at hl 1 rfl) ?_
    refine lv_bipush (v := (40 : Int32)) hx hb (kd dtX8_sourceOf_0 3 rfl) (by decide) ?_
    refine lv_icmp_lt (tgt := 13) hx hb (kd dtX8_sourceOf_0 4 rfl) (by decide) (fun hc => ?_) (fun hc => ?_)
    · have hf := kif_pos hc hf
      refine lv_iload_n hx hb (kd dtX8_sourceOf_0 7 rfl) rfl (lv_at hl 2 rfl) ?_
      refine lv_if_ne (tgt := 26) hx hb (kd dtX8_sourceOf_0 8 rfl) (by decide) (fun hc => ?_) (fun hc => ?_)
      · have hf := kif_neg hc hf
        refine lv_iload_n hx hb (kd dtX8_sourceOf_0 14 rfl) rfl (lv_at hl 2 rfl) ?_
        refine lv_iconst (v := (1 : Int32)) hx hb (kd dtX8_sourceOf_0 15 rfl) (by decide) ?_
        refine lv_icmp_ne (tgt := 40) hx hb (kd dtX8_sourceOf_0 16 rfl) (by decide) (fun hc => ?_) (fun hc => ?_)
        · have hf := kif_neg hc hf
          refine lv_aload_n hx hb (kd dtX8_sourceOf_0 22 rfl) rfl (lv_at hl 0 rfl) ?_
          obtain ⟨v1, hv1, hf⟩ := kbind hf
          refine kgetP hv1 F hX hinX8 rfl rfl rfl (by decide) (by decide) wfX8_30 (kd dtX8_sourceOf_0 23 rfl) ?_
          refine lv_iload_n hx hb (kd dtX8_sourceOf_0 24 rfl) rfl (lv_at hl 1 rfl) ?_
          obtain ⟨v2, hv2, hf⟩ := kbind hf
          refine kald hv2 F hX (kd dtX8_sourceOf_0 25 rfl) ?_
          obtain rfl := Option.some.inj hf
          exact kiret F hX hr hlocks rfl (kd dtX8_sourceOf_0 26 rfl)
        · have hf := kif_pos hc hf
          refine lv_aload_n hx hb (kd dtX8_sourceOf_0 17 rfl) rfl (lv_at hl 0 rfl) ?_
          obtain ⟨v3, hv3, hf⟩ := kbind hf
          refine kgetP hv3 F hX hinX8 rfl rfl rfl (by decide) (by decide) wfX8_27 (kd dtX8_sourceOf_0 18 rfl) ?_
          refine lv_iload_n hx hb (kd dtX8_sourceOf_0 19 rfl) rfl (lv_at hl 1 rfl) ?_
          obtain ⟨v4, hv4, hf⟩ := kbind hf
          refine kald hv4 F hX (kd dtX8_sourceOf_0 20 rfl) ?_
          refine lv_goto (tgt := 46) hx hb (kd dtX8_sourceOf_0 21 rfl) (by decide) ?_
          obtain rfl := Option.some.inj hf
          exact kiret F hX hr hlocks rfl (kd dtX8_sourceOf_0 26 rfl)
      · have hf := kif_pos hc hf
        refine lv_aload_n hx hb (kd dtX8_sourceOf_0 9 rfl) rfl (lv_at hl 0 rfl) ?_
        obtain ⟨v5, hv5, hf⟩ := kbind hf
        refine kgetP hv5 F hX hinX8 rfl rfl rfl (by decide) (by decide) wfX8_24 (kd dtX8_sourceOf_0 10 rfl) ?_
        refine lv_iload_n hx hb (kd dtX8_sourceOf_0 11 rfl) rfl (lv_at hl 1 rfl) ?_
        obtain ⟨v6, hv6, hf⟩ := kbind hf
        refine kald hv6 F hX (kd dtX8_sourceOf_0 12 rfl) ?_
        refine lv_goto (tgt := 46) hx hb (kd dtX8_sourceOf_0 13 rfl) (by decide) ?_
        obtain rfl := Option.some.inj hf
        exact kiret F hX hr hlocks rfl (kd dtX8_sourceOf_0 26 rfl)
    · have hf := kif_neg hc hf
      refine lv_bipush (v := (-4 : Int32)) hx hb (kd dtX8_sourceOf_0 5 rfl) (by decide) ?_
      obtain rfl := Option.some.inj hf
      exact kiret F hX hr hlocks rfl (kd dtX8_sourceOf_0 6 rfl)
def lX8_addProgram_0 : List (Nat × Instr × Nat) := [(0, .aload_n 0, 1), (1, .getfield 46, 3), (4, .bipush 6, 2), (6, .if_icmp .lt 6, 3), (9, .bipush (-2), 2), (11, .ireturn, 1), (12, .aload_n 0, 1), (13, .getfield 35, 3), (16, .aload_n 0, 1), (17, .getfield 46, 3), (20, .aload_n 1, 1), (21, .aastore, 1), (22, .aload_n 0, 1), (23, .dup, 1), (24, .getfield 46, 3), (27, .iconst 1, 1), (28, .iadd, 1), (29, .putfield 46, 3), (32, .aload_n 0, 1), (33, .getfield 46, 3), (36, .iconst 1, 1), (37, .isub, 1), (38, .ireturn, 1)]
theorem dtX8_addProgram_0 : kDec cX8_addProgram lX8_addProgram_0 = true := by decide +kernel
noncomputable def fX8_addProgram (x0 : Nat) (x1 : Option Nat) (w : kW) : Option (Int32 × kW) :=
  (kgI w 8 (some x0) 9).bind fun v1 =>
  if v1 < (6 : Int32) then
  (kgP w 8 (some x0) 6).bind fun v2 =>
  (kgI w 8 (some x0) 9).bind fun v3 =>
  (ksP w 17 v2 v3 x1).bind fun w4 =>
  (kgI w4 8 (some x0) 9).bind fun v5 =>
  (kpI w4 8 (some x0) 9 (v5 + (1 : Int32))).bind fun w6 =>
  (kgI w6 8 (some x0) 9).bind fun v7 =>
  some (v7 - (1 : Int32), w6)
  else
  some ((-2 : Int32), w)

set_option maxHeartbeats 4000000 in
set_option maxRecDepth 100000 in
theorem rX8_addProgram (l : Launch) (D : va_G) (aC : Nat → ClassId) {x0 : Nat} {x1 : Option Nat} {w : kW} {wR : kW} {oR : Int32} (h : fX8_addProgram x0 x1 w = some (oR, wR)) : kC l D aC yX8_addProgram cX8_addProgram 2 (some .int) 1 12 [.ref x0, va_rf x1] w (some (.int oR)) wR 0 0 := by
  refine kOf (own := RX8) (by decide) rfl (by simp [lg_sl, kcat_rf, kcat_i, kcat_r, kcat_l]) ?_
  intro p e s m below meth c ls F hml hr hlocks hnm hX hZ hl
  obtain ⟨hx, hb, hts, hown, hK⟩ := id F
  have hl : lv_has ls 2 [(0, .ref x0), (1, va_rf x1)] := by simpa [lv_args, kcat_rf, kcat_i, kcat_r, kcat_l] using hl
  have hf := h
  rw [fX8_addProgram] at hf
  refine lv_aload_n hx hb (kd dtX8_addProgram_0 0 rfl) rfl (lv_at hl 0 rfl) ?_
  obtain ⟨v1, hv1, hf⟩ := kbind hf
  refine kgetI hv1 F hX hinX8 rfl rfl rfl (by decide) (by decide) wfX8_46 (kd dtX8_addProgram_0 1 rfl) ?_
  refine lv_bipush (v := (6 : Int32)) hx hb (kd dtX8_addProgram_0 2 rfl) (by decide) ?_
  refine lv_icmp_lt (tgt := 12) hx hb (kd dtX8_addProgram_0 3 rfl) (by decide) (fun hc => ?_) (fun hc => ?_)
  · have hf := kif_pos hc hf
    refine lv_aload_n hx hb (kd dtX8_addProgram_0 6 rfl) rfl (lv_at hl 0 rfl) ?_
    obtain ⟨v2, hv2, hf⟩ := kbind hf
    refine kgetP hv2 F hX hinX8 rfl rfl rfl (by decide) (by decide) wfX8_35 (kd dtX8_addProgram_0 7 rfl) ?_
    refine lv_aload_n hx hb (kd dtX8_addProgram_0 8 rfl) rfl (lv_at hl 0 rfl) ?_
    obtain ⟨v3, hv3, hf⟩ := kbind hf
    refine kgetI hv3 F hX hinX8 rfl rfl rfl (by decide) (by decide) wfX8_46 (kd dtX8_addProgram_0 9 rfl) ?_
    refine kaload_n hx hb (kd dtX8_addProgram_0 10 rfl) rfl (lv_at hl 1 rfl) ?_
    obtain ⟨w4, hw4, hf⟩ := kbind hf
    refine kqst17 hw4 F hX (kd dtX8_addProgram_0 11 rfl) (fun H locs hX => ?_)
    refine lv_aload_n hx hb (kd dtX8_addProgram_0 12 rfl) rfl (lv_at hl 0 rfl) ?_
    refine lv_dup hx hb (kd dtX8_addProgram_0 13 rfl) rfl ?_
    obtain ⟨v5, hv5, hf⟩ := kbind hf
    refine kgetI hv5 F hX hinX8 rfl rfl rfl (by decide) (by decide) wfX8_46 (kd dtX8_addProgram_0 14 rfl) ?_
    refine lv_iconst (v := (1 : Int32)) hx hb (kd dtX8_addProgram_0 15 rfl) (by decide) ?_
    refine lv_iadd hx hb (kd dtX8_addProgram_0 16 rfl) ?_
    obtain ⟨w6, hw6, hf⟩ := kbind hf
    refine kputI hw6 F hX hinX8 tyX8_ok nmX8 rfl rfl rfl (by decide) (by decide) wfX8_46 rfl rfl (Or.inl rfl) (kd dtX8_addProgram_0 17 rfl) (fun H locs hX => ?_)
    refine lv_aload_n hx hb (kd dtX8_addProgram_0 18 rfl) rfl (lv_at hl 0 rfl) ?_
    obtain ⟨v7, hv7, hf⟩ := kbind hf
    refine kgetI hv7 F hX hinX8 rfl rfl rfl (by decide) (by decide) wfX8_46 (kd dtX8_addProgram_0 19 rfl) ?_
    refine lv_iconst (v := (1 : Int32)) hx hb (kd dtX8_addProgram_0 20 rfl) (by decide) ?_
    refine lv_isub hx hb (kd dtX8_addProgram_0 21 rfl) ?_
    obtain ⟨rfl, rfl⟩ := Prod.mk.inj (Option.some.inj hf)
    exact kiret F hX hr hlocks rfl (kd dtX8_addProgram_0 22 rfl)
  · have hf := kif_neg hc hf
    refine lv_bipush (v := (-2 : Int32)) hx hb (kd dtX8_addProgram_0 4 rfl) (by decide) ?_
    obtain ⟨rfl, rfl⟩ := Prod.mk.inj (Option.some.inj hf)
    exact kiret F hX hr hlocks rfl (kd dtX8_addProgram_0 5 rfl)
def lX8_programAt_0 : List (Nat × Instr × Nat) := [(0, .iload_n 1, 1), (1, .ifCond .lt 26, 3), (4, .iload_n 1, 1), (5, .aload_n 0, 1), (6, .getfield 46, 3), (9, .if_icmp .ge 18, 3), (12, .iload_n 1, 1), (13, .bipush 6, 2), (15, .if_icmp .ge 12, 3), (18, .aload_n 0, 1), (19, .getfield 35, 3), (22, .iload_n 1, 1), (23, .aaload, 1), (24, .goto 4, 3), (27, .aconst_null, 1), (28, .areturn, 1)]
theorem dtX8_programAt_0 : kDec cX8_programAt lX8_programAt_0 = true := by decide +kernel
noncomputable def fX8_programAt (x0 : Nat) (x1 : Int32) (w : kW) : Option (Option Nat) :=
  if x1 < 0 then
  some none
  else
  (kgI w 8 (some x0) 9).bind fun v1 =>
  if v1 ≤ x1 then
  some none
  else
  if (6 : Int32) ≤ x1 then
  some none
  else
  (kgP w 8 (some x0) 6).bind fun v2 =>
  (kaP w 17 v2 x1).bind fun v3 =>
  some v3

set_option maxHeartbeats 4000000 in
set_option maxRecDepth 100000 in
theorem rX8_programAt (l : Launch) (D : va_G) (aC : Nat → ClassId) {x0 : Nat} {x1 : Int32} {w : kW} {oR : Option Nat} (h : fX8_programAt x0 x1 w = some oR) : kC l D aC yX8_programAt cX8_programAt 2 (some (.object "KitchenCards$Program")) 1 12 [.ref x0, .int x1] w (some (va_rf oR)) w 0 0 := by
  refine kOf (own := RX8) (by decide) rfl (Nat.le_of_ble_eq_true rfl) ?_
  intro p e s m below meth c ls F hml hr hlocks hnm hX hZ hl
  obtain ⟨hx, hb, hts, hown, hK⟩ := id F
  have hl : lv_has ls 2 [(0, .ref x0), (1, .int x1)] := hl
  have hf := h
  rw [fX8_programAt] at hf
  refine lv_iload_n hx hb (kd dtX8_programAt_0 0 rfl) rfl (lv_at hl 1 rfl) ?_
  refine lv_if_lt (tgt := 27) hx hb (kd dtX8_programAt_0 1 rfl) (by decide) (fun hc => ?_) (fun hc => ?_)
  · have hf := kif_pos hc hf
    refine lv_null hx hb (kd dtX8_programAt_0 14 rfl) ?_
    obtain rfl := Option.some.inj hf
    exact karet F hX hr hlocks rfl (kd dtX8_programAt_0 15 rfl)
  · have hf := kif_neg hc hf
    refine lv_iload_n hx hb (kd dtX8_programAt_0 2 rfl) rfl (lv_at hl 1 rfl) ?_
    refine lv_aload_n hx hb (kd dtX8_programAt_0 3 rfl) rfl (lv_at hl 0 rfl) ?_
    obtain ⟨v1, hv1, hf⟩ := kbind hf
    refine kgetI hv1 F hX hinX8 rfl rfl rfl (by decide) (by decide) wfX8_46 (kd dtX8_programAt_0 4 rfl) ?_
    refine lv_icmp_ge (tgt := 27) hx hb (kd dtX8_programAt_0 5 rfl) (by decide) (fun hc => ?_) (fun hc => ?_)
    · have hf := kif_pos hc hf
      refine lv_null hx hb (kd dtX8_programAt_0 14 rfl) ?_
      obtain rfl := Option.some.inj hf
      exact karet F hX hr hlocks rfl (kd dtX8_programAt_0 15 rfl)
    · have hf := kif_neg hc hf
      refine lv_iload_n hx hb (kd dtX8_programAt_0 6 rfl) rfl (lv_at hl 1 rfl) ?_
      refine lv_bipush (v := (6 : Int32)) hx hb (kd dtX8_programAt_0 7 rfl) (by decide) ?_
      refine lv_icmp_ge (tgt := 27) hx hb (kd dtX8_programAt_0 8 rfl) (by decide) (fun hc => ?_) (fun hc => ?_)
      · have hf := kif_pos hc hf
        refine lv_null hx hb (kd dtX8_programAt_0 14 rfl) ?_
        obtain rfl := Option.some.inj hf
        exact karet F hX hr hlocks rfl (kd dtX8_programAt_0 15 rfl)
      · have hf := kif_neg hc hf
        refine lv_aload_n hx hb (kd dtX8_programAt_0 9 rfl) rfl (lv_at hl 0 rfl) ?_
        obtain ⟨v2, hv2, hf⟩ := kbind hf
        refine kgetP hv2 F hX hinX8 rfl rfl rfl (by decide) (by decide) wfX8_35 (kd dtX8_programAt_0 10 rfl) ?_
        refine lv_iload_n hx hb (kd dtX8_programAt_0 11 rfl) rfl (lv_at hl 1 rfl) ?_
        obtain ⟨v3, hv3, hf⟩ := kbind hf
        refine kqld17 hv3 F hX (kd dtX8_programAt_0 12 rfl) ?_
        refine lv_goto (tgt := 28) hx hb (kd dtX8_programAt_0 13 rfl) (by decide) ?_
        obtain rfl := Option.some.inj hf
        exact karet F hX hr hlocks rfl (kd dtX8_programAt_0 15 rfl)
def lX8_copyOf_0 : List (Nat × Instr × Nat) := [(0, .iconst 0, 1), (1, .istore_n 2, 1), (2, .iload_n 2, 1), (3, .bipush 40, 2), (5, .if_icmp .ge 81, 3), (8, .aload_n 0, 1), (9, .getfield 11, 3), (12, .iload_n 2, 1), (13, .aload_n 1, 1), (14, .getfield 11, 3), (17, .iload_n 2, 1), (18, .aaload, 1), (19, .aastore, 1), (20, .aload_n 0, 1), (21, .getfield 17, 3), (24, .iload_n 2, 1), (25, .aload_n 1, 1), (26, .getfield 17, 3), (29, .iload_n 2, 1), (30, .iaload, 1), (31, .iastore, 1), (32, .aload_n 0, 1), (33, .getfield 21, 3), (36, .iload_n 2, 1), (37, .aload_n 1, 1), (38, .getfield 21, 3), (41, .iload_n 2, 1), (42, .iaload, 1), (43, .iastore, 1), (44, .aload_n 0, 1), (45, .getfield 24, 3), (48, .iload_n 2, 1), (49, .aload_n 1, 1), (50, .getfield 24, 3), (53, .iload_n 2, 1), (54, .iaload, 1), (55, .iastore, 1), (56, .aload_n 0, 1), (57, .getfield 27, 3), (60, .iload_n 2, 1), (61, .aload_n 1, 1), (62, .getfield 27, 3), (65, .iload_n 2, 1), (66, .iaload, 1), (67, .iastore, 1), (68, .aload_n 0, 1), (69, .getfield 30, 3), (72, .iload_n 2, 1), (73, .aload_n 1, 1), (74, .getfield 30, 3), (77, .iload_n 2, 1), (78, .iaload, 1), (79, .iastore, 1), (80, .iinc 2 1, 3), (83, .goto (-81), 3), (86, .iconst 0, 1), (87, .istore_n 2, 1), (88, .iload_n 2, 1), (89, .bipush 6, 2), (91, .if_icmp .ge 21, 3), (94, .aload_n 0, 1), (95, .getfield 35, 3), (98, .iload_n 2, 1), (99, .aload_n 1, 1), (100, .getfield 35, 3), (103, .iload_n 2, 1), (104, .aaload, 1), (105, .aastore, 1), (106, .iinc 2 1, 3), (109, .goto (-21), 3), (112, .aload_n 0, 1), (113, .aload_n 1, 1), (114, .getfield 39, 3), (117, .putfield 39, 3), (120, .aload_n 0, 1), (121, .aload_n 1, 1), (122, .getfield 43, 3), (125, .putfield 43, 3), (128, .aload_n 0, 1), (129, .aload_n 1, 1)]
theorem dtX8_copyOf_0 : kDec cX8_copyOf lX8_copyOf_0 = true := by decide +kernel
def lX8_copyOf_1 : List (Nat × Instr × Nat) := [(130, .getfield 46, 3), (133, .putfield 46, 3), (136, .return_, 1)]
theorem dtX8_copyOf_1 : kDec cX8_copyOf lX8_copyOf_1 = true := by decide +kernel
noncomputable def fX8_copyOf_L2 (x0 : Nat) (x1 : Option Nat) : Nat → (Int32 → kW → Option kW) → Int32 → kW → Option kW
  | 0, _, _, _ => none
  | n + 1, k, x2, w =>
  if (40 : Int32) ≤ x2 then
  k x2 w
  else
  (kgP w 8 (some x0) 0).bind fun v1 =>
  (kgP w 8 x1 0).bind fun v2 =>
  (kaP w 16 v2 x2).bind fun v3 =>
  (ksP w 16 v1 x2 v3).bind fun w4 =>
  (kgP w4 8 (some x0) 1).bind fun v5 =>
  (kgP w4 8 x1 1).bind fun v6 =>
  (kaI w4 14 v6 x2).bind fun v7 =>
  (ksI w4 14 v5 x2 v7).bind fun w8 =>
  (kgP w8 8 (some x0) 2).bind fun v9 =>
  (kgP w8 8 x1 2).bind fun v10 =>
  (kaI w8 14 v10 x2).bind fun v11 =>
  (ksI w8 14 v9 x2 v11).bind fun w12 =>
  (kgP w12 8 (some x0) 3).bind fun v13 =>
  (kgP w12 8 x1 3).bind fun v14 =>
  (kaI w12 14 v14 x2).bind fun v15 =>
  (ksI w12 14 v13 x2 v15).bind fun w16 =>
  (kgP w16 8 (some x0) 4).bind fun v17 =>
  (kgP w16 8 x1 4).bind fun v18 =>
  (kaI w16 14 v18 x2).bind fun v19 =>
  (ksI w16 14 v17 x2 v19).bind fun w20 =>
  (kgP w20 8 (some x0) 5).bind fun v21 =>
  (kgP w20 8 x1 5).bind fun v22 =>
  (kaI w20 14 v22 x2).bind fun v23 =>
  (ksI w20 14 v21 x2 v23).bind fun w24 =>
  fX8_copyOf_L2 x0 x1 n k (x2 + (1 : Int32)) w24

noncomputable def fX8_copyOf_L88 (x0 : Nat) (x1 : Option Nat) : Nat → (Int32 → kW → Option kW) → Int32 → kW → Option kW
  | 0, _, _, _ => none
  | n + 1, k, x2, w =>
  if (6 : Int32) ≤ x2 then
  k x2 w
  else
  (kgP w 8 (some x0) 6).bind fun v1 =>
  (kgP w 8 x1 6).bind fun v2 =>
  (kaP w 17 v2 x2).bind fun v3 =>
  (ksP w 17 v1 x2 v3).bind fun w4 =>
  fX8_copyOf_L88 x0 x1 n k (x2 + (1 : Int32)) w4

noncomputable def fX8_copyOf (x0 : Nat) (x1 : Option Nat) (w : kW) : Option kW :=
  fX8_copyOf_L2 x0 x1 kFU (fun y2_1 w2 => fX8_copyOf_L88 x0 x1 kFU (fun y2_3 w4 => (kgI w4 8 x1 7).bind fun v5 =>
  (kpI w4 8 (some x0) 7 v5).bind fun w6 =>
  (kgI w6 8 x1 8).bind fun v7 =>
  (kpI w6 8 (some x0) 8 v7).bind fun w8 =>
  (kgI w8 8 x1 9).bind fun v9 =>
  (kpI w8 8 (some x0) 9 v9).bind fun w10 =>
  some w10) (0 : Int32) w2) (0 : Int32) w

set_option maxHeartbeats 4000000 in
set_option maxRecDepth 100000 in
theorem rX8_copyOf (l : Launch) (D : va_G) (aC : Nat → ClassId) {x0 : Nat} {x1 : Option Nat} {w : kW} {wR : kW} (h : fX8_copyOf x0 x1 w = some wR) : kC l D aC yX8_copyOf cX8_copyOf 3 none 1 12 [.ref x0, va_rf x1] w none wR 0 0 := by
  refine kOf (own := RX8) (by decide) rfl (by simp [lg_sl, kcat_rf, kcat_i, kcat_r, kcat_l]) ?_
  intro p e s m below meth c ls F hml hr hlocks hnm hX hZ hl
  obtain ⟨hx, hb, hts, hown, hK⟩ := id F
  have hl : lv_has ls 3 [(0, .ref x0), (1, va_rf x1)] := by simpa [lv_args, kcat_rf, kcat_i, kcat_r, kcat_l] using hl
  have hf := h
  rw [fX8_copyOf] at hf
  refine lv_iconst (v := (0 : Int32)) hx hb (kd dtX8_copyOf_0 0 rfl) (by decide) ?_
  refine lv_istore_n (i := 2) (lv' := [(2, .int (0 : Int32)), (0, .ref x0), (1, va_rf x1)]) hx hb (kd dtX8_copyOf_0 1 rfl) rfl hl (by decide) (by simp [kcat_rf, kcat_i, kcat_r, kcat_l]) (fun ls hl => ?_)
  have hL2 : ∀ (n : Nat) (k : Int32 → kW → Option kW), ∀ (z2_2 : Int32) (w_2 : kW) (H : Heap) (locs : List Loc) (ls : Array Slot), kX D aC w s.heap w_2 H locs → lv_has ls 3 [(0, .ref x0), (1, va_rf x1), (2, .int z2_2)] → fX8_copyOf_L2 x0 x1 n k z2_2 w_2 = some wR → (∀ (z2_2 : Int32) (w_2 : kW) (H : Heap) (locs : List Loc) (ls : Array Slot), kX D aC w s.heap w_2 H locs → lv_has ls 3 [(0, .ref x0), (1, va_rf x1), (2, .int z2_2)] → k z2_2 w_2 = some wR → W p l e { frames := 1, cells := 0, slots := 0, locals := 12 } s m ([.ref x0, va_rf x1] : List Value).toArray below meth c H locs 0 0 (MQ below (kQc D aC w none wR) ([.ref x0, va_rf x1] : List Value).toArray s 0 0 (kA w)) (F0 m 86 ls [])) → W p l e { frames := 1, cells := 0, slots := 0, locals := 12 } s m ([.ref x0, va_rf x1] : List Value).toArray below meth c H locs 0 0 (MQ below (kQc D aC w none wR) ([.ref x0, va_rf x1] : List Value).toArray s 0 0 (kA w)) (F0 m 2 ls []) := by
    intro n k
    induction n with
    | zero =>
      intro z2_2 w_2 H locs ls hX hl hf hk
      rw [fX8_copyOf_L2] at hf
      cases hf
    | succ n ih =>
      intro z2_2 w_2 H locs ls hX hl hf hk
      rw [fX8_copyOf_L2] at hf
      refine lv_iload_n hx hb (kd dtX8_copyOf_0 2 rfl) rfl (lv_at hl 2 rfl) ?_
      refine lv_bipush (v := (40 : Int32)) hx hb (kd dtX8_copyOf_0 3 rfl) (by decide) ?_
      refine lv_icmp_ge (tgt := 86) hx hb (kd dtX8_copyOf_0 4 rfl) (by decide) (fun hc => ?_) (fun hc => ?_)
      · have hf := kif_pos hc hf
        exact hk z2_2 w_2 _ _ _ hX hl hf
      · have hf := kif_neg hc hf
        refine lv_aload_n hx hb (kd dtX8_copyOf_0 5 rfl) rfl (lv_at hl 0 rfl) ?_
        obtain ⟨v15, hv15, hf⟩ := kbind hf
        refine kgetP hv15 F hX hinX8 rfl rfl rfl (by decide) (by decide) wfX8_11 (kd dtX8_copyOf_0 6 rfl) ?_
        refine lv_iload_n hx hb (kd dtX8_copyOf_0 7 rfl) rfl (lv_at hl 2 rfl) ?_
        refine kaload_n hx hb (kd dtX8_copyOf_0 8 rfl) rfl (lv_at hl 1 rfl) ?_
        obtain ⟨v16, hv16, hf⟩ := kbind hf
        refine kgetP hv16 F hX hinX8 rfl rfl rfl (by decide) (by decide) wfX8_11 (kd dtX8_copyOf_0 9 rfl) ?_
        refine lv_iload_n hx hb (kd dtX8_copyOf_0 10 rfl) rfl (lv_at hl 2 rfl) ?_
        obtain ⟨v17, hv17, hf⟩ := kbind hf
        refine kqld16 hv17 F hX (kd dtX8_copyOf_0 11 rfl) ?_
        obtain ⟨w18, hw18, hf⟩ := kbind hf
        refine kqst16 hw18 F hX (kd dtX8_copyOf_0 12 rfl) (fun H locs hX => ?_)
        refine lv_aload_n hx hb (kd dtX8_copyOf_0 13 rfl) rfl (lv_at hl 0 rfl) ?_
        obtain ⟨v19, hv19, hf⟩ := kbind hf
        refine kgetP hv19 F hX hinX8 rfl rfl rfl (by decide) (by decide) wfX8_17 (kd dtX8_copyOf_0 14 rfl) ?_
        refine lv_iload_n hx hb (kd dtX8_copyOf_0 15 rfl) rfl (lv_at hl 2 rfl) ?_
        refine kaload_n hx hb (kd dtX8_copyOf_0 16 rfl) rfl (lv_at hl 1 rfl) ?_
        obtain ⟨v20, hv20, hf⟩ := kbind hf
        refine kgetP hv20 F hX hinX8 rfl rfl rfl (by decide) (by decide) wfX8_17 (kd dtX8_copyOf_0 17 rfl) ?_
        refine lv_iload_n hx hb (kd dtX8_copyOf_0 18 rfl) rfl (lv_at hl 2 rfl) ?_
        obtain ⟨v21, hv21, hf⟩ := kbind hf
        refine kald hv21 F hX (kd dtX8_copyOf_0 19 rfl) ?_
        obtain ⟨w22, hw22, hf⟩ := kbind hf
        refine kast hw22 F hX (kd dtX8_copyOf_0 20 rfl) (fun H locs hX => ?_)
        refine lv_aload_n hx hb (kd dtX8_copyOf_0 21 rfl) rfl (lv_at hl 0 rfl) ?_
        obtain ⟨v23, hv23, hf⟩ := kbind hf
        refine kgetP hv23 F hX hinX8 rfl rfl rfl (by decide) (by decide) wfX8_21 (kd dtX8_copyOf_0 22 rfl) ?_
        refine lv_iload_n hx hb (kd dtX8_copyOf_0 23 rfl) rfl (lv_at hl 2 rfl) ?_
        refine kaload_n hx hb (kd dtX8_copyOf_0 24 rfl) rfl (lv_at hl 1 rfl) ?_
        obtain ⟨v24, hv24, hf⟩ := kbind hf
        refine kgetP hv24 F hX hinX8 rfl rfl rfl (by decide) (by decide) wfX8_21 (kd dtX8_copyOf_0 25 rfl) ?_
        refine lv_iload_n hx hb (kd dtX8_copyOf_0 26 rfl) rfl (lv_at hl 2 rfl) ?_
        obtain ⟨v25, hv25, hf⟩ := kbind hf
        refine kald hv25 F hX (kd dtX8_copyOf_0 27 rfl) ?_
        obtain ⟨w26, hw26, hf⟩ := kbind hf
        refine kast hw26 F hX (kd dtX8_copyOf_0 28 rfl) (fun H locs hX => ?_)
        refine lv_aload_n hx hb (kd dtX8_copyOf_0 29 rfl) rfl (lv_at hl 0 rfl) ?_
        obtain ⟨v27, hv27, hf⟩ := kbind hf
        refine kgetP hv27 F hX hinX8 rfl rfl rfl (by decide) (by decide) wfX8_24 (kd dtX8_copyOf_0 30 rfl) ?_
        refine lv_iload_n hx hb (kd dtX8_copyOf_0 31 rfl) rfl (lv_at hl 2 rfl) ?_
        refine kaload_n hx hb (kd dtX8_copyOf_0 32 rfl) rfl (lv_at hl 1 rfl) ?_
        obtain ⟨v28, hv28, hf⟩ := kbind hf
        refine kgetP hv28 F hX hinX8 rfl rfl rfl (by decide) (by decide) wfX8_24 (kd dtX8_copyOf_0 33 rfl) ?_
        refine lv_iload_n hx hb (kd dtX8_copyOf_0 34 rfl) rfl (lv_at hl 2 rfl) ?_
        obtain ⟨v29, hv29, hf⟩ := kbind hf
        refine kald hv29 F hX (kd dtX8_copyOf_0 35 rfl) ?_
        obtain ⟨w30, hw30, hf⟩ := kbind hf
        refine kast hw30 F hX (kd dtX8_copyOf_0 36 rfl) (fun H locs hX => ?_)
        refine lv_aload_n hx hb (kd dtX8_copyOf_0 37 rfl) rfl (lv_at hl 0 rfl) ?_
        obtain ⟨v31, hv31, hf⟩ := kbind hf
        refine kgetP hv31 F hX hinX8 rfl rfl rfl (by decide) (by decide) wfX8_27 (kd dtX8_copyOf_0 38 rfl) ?_
        refine lv_iload_n hx hb (kd dtX8_copyOf_0 39 rfl) rfl (lv_at hl 2 rfl) ?_
        refine kaload_n hx hb (kd dtX8_copyOf_0 40 rfl) rfl (lv_at hl 1 rfl) ?_
        obtain ⟨v32, hv32, hf⟩ := kbind hf
        refine kgetP hv32 F hX hinX8 rfl rfl rfl (by decide) (by decide) wfX8_27 (kd dtX8_copyOf_0 41 rfl) ?_
        refine lv_iload_n hx hb (kd dtX8_copyOf_0 42 rfl) rfl (lv_at hl 2 rfl) ?_
        obtain ⟨v33, hv33, hf⟩ := kbind hf
        refine kald hv33 F hX (kd dtX8_copyOf_0 43 rfl) ?_
        obtain ⟨w34, hw34, hf⟩ := kbind hf
        refine kast hw34 F hX (kd dtX8_copyOf_0 44 rfl) (fun H locs hX => ?_)
        refine lv_aload_n hx hb (kd dtX8_copyOf_0 45 rfl) rfl (lv_at hl 0 rfl) ?_
        obtain ⟨v35, hv35, hf⟩ := kbind hf
        refine kgetP hv35 F hX hinX8 rfl rfl rfl (by decide) (by decide) wfX8_30 (kd dtX8_copyOf_0 46 rfl) ?_
        refine lv_iload_n hx hb (kd dtX8_copyOf_0 47 rfl) rfl (lv_at hl 2 rfl) ?_
        refine kaload_n hx hb (kd dtX8_copyOf_0 48 rfl) rfl (lv_at hl 1 rfl) ?_
        obtain ⟨v36, hv36, hf⟩ := kbind hf
        refine kgetP hv36 F hX hinX8 rfl rfl rfl (by decide) (by decide) wfX8_30 (kd dtX8_copyOf_0 49 rfl) ?_
        refine lv_iload_n hx hb (kd dtX8_copyOf_0 50 rfl) rfl (lv_at hl 2 rfl) ?_
        obtain ⟨v37, hv37, hf⟩ := kbind hf
        refine kald hv37 F hX (kd dtX8_copyOf_0 51 rfl) ?_
        obtain ⟨w38, hw38, hf⟩ := kbind hf
        refine kast hw38 F hX (kd dtX8_copyOf_0 52 rfl) (fun H locs hX => ?_)
        refine lv_iinc (v := z2_2 + (1 : Int32)) (lv' := [(2, .int (z2_2 + (1 : Int32))), (0, .ref x0), (1, va_rf x1)]) hx hb (kd dtX8_copyOf_0 53 rfl) hl (k := 2) rfl (by rfl) (by decide) (by simp [kcat_rf, kcat_i, kcat_r, kcat_l]) (fun ls hl => ?_)
        refine lv_goto (tgt := 2) hx hb (kd dtX8_copyOf_0 54 rfl) (by decide) ?_
        exact ih (z2_2 + (1 : Int32)) w38 _ _ _ hX (lv_sub hl [1, 2, 0] rfl) hf hk
  refine hL2 kFU _ (0 : Int32) w _ _ _ hX (lv_sub hl [1, 2, 0] rfl) hf ?_
  intro y2_1 w2 H locs ls hX hl hf
  refine lv_iconst (v := (0 : Int32)) hx hb (kd dtX8_copyOf_0 55 rfl) (by decide) ?_
  refine lv_istore_n (i := 2) (lv' := [(2, .int (0 : Int32)), (0, .ref x0), (1, va_rf x1)]) hx hb (kd dtX8_copyOf_0 56 rfl) rfl hl (by decide) (by simp [kcat_rf, kcat_i, kcat_r, kcat_l]) (fun ls hl => ?_)
  have hL88 : ∀ (n : Nat) (k : Int32 → kW → Option kW), ∀ (z2_88 : Int32) (w_88 : kW) (H : Heap) (locs : List Loc) (ls : Array Slot), kX D aC w s.heap w_88 H locs → lv_has ls 3 [(0, .ref x0), (1, va_rf x1), (2, .int z2_88)] → fX8_copyOf_L88 x0 x1 n k z2_88 w_88 = some wR → (∀ (z2_88 : Int32) (w_88 : kW) (H : Heap) (locs : List Loc) (ls : Array Slot), kX D aC w s.heap w_88 H locs → lv_has ls 3 [(0, .ref x0), (1, va_rf x1), (2, .int z2_88)] → k z2_88 w_88 = some wR → W p l e { frames := 1, cells := 0, slots := 0, locals := 12 } s m ([.ref x0, va_rf x1] : List Value).toArray below meth c H locs 0 0 (MQ below (kQc D aC w none wR) ([.ref x0, va_rf x1] : List Value).toArray s 0 0 (kA w)) (F0 m 112 ls [])) → W p l e { frames := 1, cells := 0, slots := 0, locals := 12 } s m ([.ref x0, va_rf x1] : List Value).toArray below meth c H locs 0 0 (MQ below (kQc D aC w none wR) ([.ref x0, va_rf x1] : List Value).toArray s 0 0 (kA w)) (F0 m 88 ls []) := by
    intro n k
    induction n with
    | zero =>
      intro z2_88 w_88 H locs ls hX hl hf hk
      rw [fX8_copyOf_L88] at hf
      cases hf
    | succ n ih =>
      intro z2_88 w_88 H locs ls hX hl hf hk
      rw [fX8_copyOf_L88] at hf
      refine lv_iload_n hx hb (kd dtX8_copyOf_0 57 rfl) rfl (lv_at hl 2 rfl) ?_
      refine lv_bipush (v := (6 : Int32)) hx hb (kd dtX8_copyOf_0 58 rfl) (by decide) ?_
      refine lv_icmp_ge (tgt := 112) hx hb (kd dtX8_copyOf_0 59 rfl) (by decide) (fun hc => ?_) (fun hc => ?_)
      · have hf := kif_pos hc hf
        exact hk z2_88 w_88 _ _ _ hX hl hf
      · have hf := kif_neg hc hf
        refine lv_aload_n hx hb (kd dtX8_copyOf_0 60 rfl) rfl (lv_at hl 0 rfl) ?_
        obtain ⟨v11, hv11, hf⟩ := kbind hf
        refine kgetP hv11 F hX hinX8 rfl rfl rfl (by decide) (by decide) wfX8_35 (kd dtX8_copyOf_0 61 rfl) ?_
        refine lv_iload_n hx hb (kd dtX8_copyOf_0 62 rfl) rfl (lv_at hl 2 rfl) ?_
        refine kaload_n hx hb (kd dtX8_copyOf_0 63 rfl) rfl (lv_at hl 1 rfl) ?_
        obtain ⟨v12, hv12, hf⟩ := kbind hf
        refine kgetP hv12 F hX hinX8 rfl rfl rfl (by decide) (by decide) wfX8_35 (kd dtX8_copyOf_0 64 rfl) ?_
        refine lv_iload_n hx hb (kd dtX8_copyOf_0 65 rfl) rfl (lv_at hl 2 rfl) ?_
        obtain ⟨v13, hv13, hf⟩ := kbind hf
        refine kqld17 hv13 F hX (kd dtX8_copyOf_0 66 rfl) ?_
        obtain ⟨w14, hw14, hf⟩ := kbind hf
        refine kqst17 hw14 F hX (kd dtX8_copyOf_0 67 rfl) (fun H locs hX => ?_)
        refine lv_iinc (v := z2_88 + (1 : Int32)) (lv' := [(2, .int (z2_88 + (1 : Int32))), (0, .ref x0), (1, va_rf x1)]) hx hb (kd dtX8_copyOf_0 68 rfl) hl (k := 2) rfl (by rfl) (by decide) (by simp [kcat_rf, kcat_i, kcat_r, kcat_l]) (fun ls hl => ?_)
        refine lv_goto (tgt := 88) hx hb (kd dtX8_copyOf_0 69 rfl) (by decide) ?_
        exact ih (z2_88 + (1 : Int32)) w14 _ _ _ hX (lv_sub hl [1, 2, 0] rfl) hf hk
  refine hL88 kFU _ (0 : Int32) w2 _ _ _ hX (lv_sub hl [1, 2, 0] rfl) hf ?_
  intro y2_3 w4 H locs ls hX hl hf
  refine lv_aload_n hx hb (kd dtX8_copyOf_0 70 rfl) rfl (lv_at hl 0 rfl) ?_
  refine kaload_n hx hb (kd dtX8_copyOf_0 71 rfl) rfl (lv_at hl 1 rfl) ?_
  obtain ⟨v5, hv5, hf⟩ := kbind hf
  refine kgetI hv5 F hX hinX8 rfl rfl rfl (by decide) (by decide) wfX8_39 (kd dtX8_copyOf_0 72 rfl) ?_
  obtain ⟨w6, hw6, hf⟩ := kbind hf
  refine kputI hw6 F hX hinX8 tyX8_ok nmX8 rfl rfl rfl (by decide) (by decide) wfX8_39 rfl rfl (Or.inl rfl) (kd dtX8_copyOf_0 73 rfl) (fun H locs hX => ?_)
  refine lv_aload_n hx hb (kd dtX8_copyOf_0 74 rfl) rfl (lv_at hl 0 rfl) ?_
  refine kaload_n hx hb (kd dtX8_copyOf_0 75 rfl) rfl (lv_at hl 1 rfl) ?_
  obtain ⟨v7, hv7, hf⟩ := kbind hf
  refine kgetI hv7 F hX hinX8 rfl rfl rfl (by decide) (by decide) wfX8_43 (kd dtX8_copyOf_0 76 rfl) ?_
  obtain ⟨w8, hw8, hf⟩ := kbind hf
  refine kputI hw8 F hX hinX8 tyX8_ok nmX8 rfl rfl rfl (by decide) (by decide) wfX8_43 rfl rfl (Or.inl rfl) (kd dtX8_copyOf_0 77 rfl) (fun H locs hX => ?_)
  refine lv_aload_n hx hb (kd dtX8_copyOf_0 78 rfl) rfl (lv_at hl 0 rfl) ?_
  refine kaload_n hx hb (kd dtX8_copyOf_0 79 rfl) rfl (lv_at hl 1 rfl) ?_
  obtain ⟨v9, hv9, hf⟩ := kbind hf
  refine kgetI hv9 F hX hinX8 rfl rfl rfl (by decide) (by decide) wfX8_46 (kd dtX8_copyOf_1 0 rfl) ?_
  obtain ⟨w10, hw10, hf⟩ := kbind hf
  refine kputI hw10 F hX hinX8 tyX8_ok nmX8 rfl rfl rfl (by decide) (by decide) wfX8_46 rfl rfl (Or.inl rfl) (kd dtX8_copyOf_1 1 rfl) (fun H locs hX => ?_)
  obtain rfl := Option.some.inj hf
  exact kvret F hX hr hlocks rfl (kd dtX8_copyOf_1 2 rfl)
theorem wmX8_53 : Cond.methodLink RX8 53 yX8_howIs ∈ kT := kTm 1025 (by decide +kernel) rfl
theorem mwX8_howIs : kMV RX8 yX8_howIs cX8_howIs 2 (some .int) := ⟨kTm 642 (by decide +kernel) rfl, kTm 95 (by decide +kernel) rfl, kTm 640 (by decide +kernel) rfl, kTm 641 (by decide +kernel) rfl⟩
def lX8_countOf_0 : List (Nat × Instr × Nat) := [(0, .iconst 0, 1), (1, .istore_n 2, 1), (2, .iconst 0, 1), (3, .istore_n 3, 1), (4, .iload_n 3, 1), (5, .aload_n 0, 1), (6, .getfield 39, 3), (9, .if_icmp .ge 21, 3), (12, .aload_n 0, 1), (13, .iload_n 3, 1), (14, .invokevirtual 53, 3), (17, .iload_n 1, 1), (18, .if_icmp .ne 6, 3), (21, .iinc 2 1, 3), (24, .iinc 3 1, 3), (27, .goto (-23), 3), (30, .iload_n 2, 1), (31, .ireturn, 1)]
theorem dtX8_countOf_0 : kDec cX8_countOf lX8_countOf_0 = true := by decide +kernel
noncomputable def fX8_countOf_L4 (x0 : Nat) (x1 : Int32) (w : kW) : Nat → (Int32 → Int32 → Option Int32) → Int32 → Int32 → Option Int32
  | 0, _, _, _ => none
  | n + 1, k, x2, x3 =>
  (kgI w 8 (some x0) 7).bind fun v1 =>
  if v1 ≤ x3 then
  k x2 x3
  else
  (kRc w 8 (some x0)).bind fun b2 =>
  (fX8_howIs b2 x3 w).bind fun v4 =>
  if v4 = x1 then
  fX8_countOf_L4 x0 x1 w n k (x2 + (1 : Int32)) (x3 + (1 : Int32))
  else
  fX8_countOf_L4 x0 x1 w n k x2 (x3 + (1 : Int32))

noncomputable def fX8_countOf (x0 : Nat) (x1 : Int32) (w : kW) : Option Int32 :=
  fX8_countOf_L4 x0 x1 w kFU (fun y2_1 y3_2 => some y2_1) (0 : Int32) (0 : Int32)

set_option maxHeartbeats 4000000 in
set_option maxRecDepth 100000 in
theorem rX8_countOf (l : Launch) (D : va_G) (aC : Nat → ClassId) {x0 : Nat} {x1 : Int32} {w : kW} {oR : Int32} (h : fX8_countOf x0 x1 w = some oR) : kC l D aC yX8_countOf cX8_countOf 4 (some .int) 2 33 [.ref x0, .int x1] w (some (.int oR)) w 0 0 := by
  refine kOf (own := RX8) (by decide) rfl (Nat.le_of_ble_eq_true rfl) ?_
  intro p e s m below meth c ls F hml hr hlocks hnm hX hZ hl
  obtain ⟨hx, hb, hts, hown, hK⟩ := id F
  have hl : lv_has ls 4 [(0, .ref x0), (1, .int x1)] := hl
  have hf := h
  rw [fX8_countOf] at hf
  refine lv_iconst (v := (0 : Int32)) hx hb (kd dtX8_countOf_0 0 rfl) (by decide) ?_
  refine lv_istore_n (lv' := [(2, .int (0 : Int32)), (0, .ref x0), (1, .int x1)]) hx hb (kd dtX8_countOf_0 1 rfl) rfl hl (by decide) rfl (fun ls hl => ?_)
  refine lv_iconst (v := (0 : Int32)) hx hb (kd dtX8_countOf_0 2 rfl) (by decide) ?_
  refine lv_istore_n (lv' := [(3, .int (0 : Int32)), (2, .int (0 : Int32)), (0, .ref x0), (1, .int x1)]) hx hb (kd dtX8_countOf_0 3 rfl) rfl hl (by decide) rfl (fun ls hl => ?_)
  have hL4 : ∀ (n : Nat) (k : Int32 → Int32 → Option Int32), ∀ (z2_4 : Int32) (z3_4 : Int32) (H : Heap) (locs : List Loc) (ls : Array Slot), kX D aC w s.heap w H locs → lv_has ls 4 [(0, .ref x0), (1, .int x1), (2, .int z2_4), (3, .int z3_4)] → fX8_countOf_L4 x0 x1 w n k z2_4 z3_4 = some oR → (∀ (z2_4 : Int32) (z3_4 : Int32) (H : Heap) (locs : List Loc) (ls : Array Slot), kX D aC w s.heap w H locs → lv_has ls 4 [(0, .ref x0), (1, .int x1), (2, .int z2_4), (3, .int z3_4)] → k z2_4 z3_4 = some oR → W p l e { frames := 2, cells := 0, slots := 0, locals := 33 } s m ([.ref x0, .int x1] : List Value).toArray below meth c H locs 0 0 (MQ below (kQc D aC w (some (.int oR)) w) ([.ref x0, .int x1] : List Value).toArray s 0 0 (kA w)) (F0 m 30 ls [])) → W p l e { frames := 2, cells := 0, slots := 0, locals := 33 } s m ([.ref x0, .int x1] : List Value).toArray below meth c H locs 0 0 (MQ below (kQc D aC w (some (.int oR)) w) ([.ref x0, .int x1] : List Value).toArray s 0 0 (kA w)) (F0 m 4 ls []) := by
    intro n k
    induction n with
    | zero =>
      intro z2_4 z3_4 H locs ls hX hl hf hk
      rw [fX8_countOf_L4] at hf
      cases hf
    | succ n ih =>
      intro z2_4 z3_4 H locs ls hX hl hf hk
      rw [fX8_countOf_L4] at hf
      refine lv_iload_n hx hb (kd dtX8_countOf_0 4 rfl) rfl (lv_at hl 3 rfl) ?_
      refine lv_aload_n hx hb (kd dtX8_countOf_0 5 rfl) rfl (lv_at hl 0 rfl) ?_
      obtain ⟨v3, hv3, hf⟩ := kbind hf
      refine kgetI hv3 F hX hinX8 rfl rfl rfl (by decide) (by decide) wfX8_39 (kd dtX8_countOf_0 6 rfl) ?_
      refine lv_icmp_ge (tgt := 30) hx hb (kd dtX8_countOf_0 7 rfl) (by decide) (fun hc => ?_) (fun hc => ?_)
      · have hf := kif_pos hc hf
        exact hk z2_4 z3_4 _ _ _ hX hl hf
      · have hf := kif_neg hc hf
        refine lv_aload_n hx hb (kd dtX8_countOf_0 8 rfl) rfl (lv_at hl 0 rfl) ?_
        refine lv_iload_n hx hb (kd dtX8_countOf_0 9 rfl) rfl (lv_at hl 3 rfl) ?_
        obtain ⟨b4, hb4, hf⟩ := kbind hf
        obtain ⟨hrb4, hkb4⟩ := kRc_s hb4
        obtain ⟨v6, h5, hf⟩ := kbind hf
        refine kcallV (n := 1) [.int z3_4] [] [.int v6] (rX8_howIs l D aC h5) hrb4 hkb4 F hml hX hZ hl.1 mwX8_howIs wmX8_53 rfl (by decide) (by decide +kernel) ⟨(by decide), (by decide)⟩ rfl rfl rfl (Nat.le_of_ble_eq_true rfl) (kd dtX8_countOf_0 10 rfl) ⟨Nat.zero_le _, Nat.zero_le _⟩ (fun H locs hX => ?_)
        refine lv_iload_n hx hb (kd dtX8_countOf_0 11 rfl) rfl (lv_at hl 1 rfl) ?_
        refine lv_icmp_ne (tgt := 24) hx hb (kd dtX8_countOf_0 12 rfl) (by decide) (fun hc => ?_) (fun hc => ?_)
        · have hf := kif_neg hc hf
          refine lv_iinc (v := z3_4 + (1 : Int32)) (lv' := [(3, .int (z3_4 + (1 : Int32))), (0, .ref x0), (1, .int x1), (2, .int z2_4)]) hx hb (kd dtX8_countOf_0 14 rfl) hl (k := 3) rfl (by rfl) (by decide) rfl (fun ls hl => ?_)
          refine lv_goto (tgt := 4) hx hb (kd dtX8_countOf_0 15 rfl) (by decide) ?_
          exact ih z2_4 (z3_4 + (1 : Int32)) _ _ _ hX (lv_sub hl [1, 2, 3, 0] rfl) hf hk
        · have hf := kif_pos hc hf
          refine lv_iinc (v := z2_4 + (1 : Int32)) (lv' := [(2, .int (z2_4 + (1 : Int32))), (0, .ref x0), (1, .int x1), (3, .int z3_4)]) hx hb (kd dtX8_countOf_0 13 rfl) hl (k := 2) rfl (by rfl) (by decide) rfl (fun ls hl => ?_)
          refine lv_iinc (v := z3_4 + (1 : Int32)) (lv' := [(3, .int (z3_4 + (1 : Int32))), (2, .int (z2_4 + (1 : Int32))), (0, .ref x0), (1, .int x1)]) hx hb (kd dtX8_countOf_0 14 rfl) hl (k := 3) rfl (by rfl) (by decide) rfl (fun ls hl => ?_)
          refine lv_goto (tgt := 4) hx hb (kd dtX8_countOf_0 15 rfl) (by decide) ?_
          exact ih (z2_4 + (1 : Int32)) (z3_4 + (1 : Int32)) _ _ _ hX (lv_sub hl [2, 3, 1, 0] rfl) hf hk
  refine hL4 kFU _ (0 : Int32) (0 : Int32) _ _ _ hX (lv_sub hl [2, 3, 1, 0] rfl) hf ?_
  intro y2_1 y3_2 H locs ls hX hl hf
  refine lv_iload_n hx hb (kd dtX8_countOf_0 16 rfl) rfl (lv_at hl 2 rfl) ?_
  obtain rfl := Option.some.inj hf
  exact kiret F hX hr hlocks rfl (kd dtX8_countOf_0 17 rfl)
theorem wmX8_56 : Cond.methodLink RX8 56 yX8_lineAt ∈ kT := kTm 1030 (by decide +kernel) rfl
theorem mwX8_lineAt : kMV RX8 yX8_lineAt cX8_lineAt 2 (some (.object "KitchenCards$Line")) := ⟨kTm 631 (by decide +kernel) rfl, kTm 95 (by decide +kernel) rfl, kTm 629 (by decide +kernel) rfl, kTm 630 (by decide +kernel) rfl⟩
theorem wfX8_60 : Cond.fieldLinkNest RX8 60 (TX1 5).1 (TX1 5).2.1 (TX1 5).2.2.1 "KitchenCards" ∈ kNs := kNm 199 (by decide +kernel) rfl
def lX8_allSizes_0 : List (Nat × Instr × Nat) := [(0, .iconst 0, 1), (1, .istore_n 1, 1), (2, .iconst 0, 1), (3, .istore_n 2, 1), (4, .iload_n 2, 1), (5, .aload_n 0, 1), (6, .getfield 39, 3), (9, .if_icmp .ge 30, 3), (12, .aload_n 0, 1), (13, .iload_n 2, 1), (14, .invokevirtual 56, 3), (17, .astore_n 3, 1), (18, .iload_n 1, 1), (19, .aload_n 3, 1), (20, .ifnonnull 7, 3), (23, .iconst 0, 1), (24, .goto 7, 3), (27, .aload_n 3, 1), (28, .getfield 60, 3), (31, .iadd, 1), (32, .istore_n 1, 1), (33, .iinc 2 1, 3), (36, .goto (-32), 3), (39, .iload_n 1, 1), (40, .ireturn, 1)]
theorem dtX8_allSizes_0 : kDec cX8_allSizes lX8_allSizes_0 = true := by decide +kernel
noncomputable def fX8_allSizes_L4 (x0 : Nat) (w : kW) : Nat → (Int32 → Int32 → Option Int32) → Int32 → Int32 → Option Int32
  | 0, _, _, _ => none
  | n + 1, k, x1, x2 =>
  (kgI w 8 (some x0) 7).bind fun v1 =>
  if v1 ≤ x2 then
  k x1 x2
  else
  (kRc w 8 (some x0)).bind fun b2 =>
  (fX8_lineAt b2 x2 w).bind fun v4 =>
  if v4 = none then
  fX8_allSizes_L4 x0 w n k (x1 + (0 : Int32)) (x2 + (1 : Int32))
  else
  (kgI w 1 v4 5).bind fun v5 =>
  fX8_allSizes_L4 x0 w n k (x1 + v5) (x2 + (1 : Int32))

noncomputable def fX8_allSizes (x0 : Nat) (w : kW) : Option Int32 :=
  fX8_allSizes_L4 x0 w kFU (fun y1_1 y2_2 => some y1_1) (0 : Int32) (0 : Int32)

set_option maxHeartbeats 4000000 in
set_option maxRecDepth 100000 in
theorem rX8_allSizes (l : Launch) (D : va_G) (aC : Nat → ClassId) {x0 : Nat} {w : kW} {oR : Int32} (h : fX8_allSizes x0 w = some oR) : kC l D aC yX8_allSizes cX8_allSizes 4 (some .int) 2 33 [.ref x0] w (some (.int oR)) w 0 0 := by
  refine kOf (own := RX8) (by decide) rfl (Nat.le_of_ble_eq_true rfl) ?_
  intro p e s m below meth c ls F hml hr hlocks hnm hX hZ hl
  obtain ⟨hx, hb, hts, hown, hK⟩ := id F
  have hl : lv_has ls 4 [(0, .ref x0)] := hl
  have hf := h
  rw [fX8_allSizes] at hf
  refine lv_iconst (v := (0 : Int32)) hx hb (kd dtX8_allSizes_0 0 rfl) (by decide) ?_
  refine lv_istore_n (lv' := [(1, .int (0 : Int32)), (0, .ref x0)]) hx hb (kd dtX8_allSizes_0 1 rfl) rfl hl (by decide) rfl (fun ls hl => ?_)
  refine lv_iconst (v := (0 : Int32)) hx hb (kd dtX8_allSizes_0 2 rfl) (by decide) ?_
  refine lv_istore_n (lv' := [(2, .int (0 : Int32)), (1, .int (0 : Int32)), (0, .ref x0)]) hx hb (kd dtX8_allSizes_0 3 rfl) rfl hl (by decide) rfl (fun ls hl => ?_)
  have hL4 : ∀ (n : Nat) (k : Int32 → Int32 → Option Int32), ∀ (z1_4 : Int32) (z2_4 : Int32) (H : Heap) (locs : List Loc) (ls : Array Slot), kX D aC w s.heap w H locs → lv_has ls 4 [(0, .ref x0), (1, .int z1_4), (2, .int z2_4)] → fX8_allSizes_L4 x0 w n k z1_4 z2_4 = some oR → (∀ (z1_4 : Int32) (z2_4 : Int32) (H : Heap) (locs : List Loc) (ls : Array Slot), kX D aC w s.heap w H locs → lv_has ls 4 [(0, .ref x0), (1, .int z1_4), (2, .int z2_4)] → k z1_4 z2_4 = some oR → W p l e { frames := 2, cells := 0, slots := 0, locals := 33 } s m ([.ref x0] : List Value).toArray below meth c H locs 0 0 (MQ below (kQc D aC w (some (.int oR)) w) ([.ref x0] : List Value).toArray s 0 0 (kA w)) (F0 m 39 ls [])) → W p l e { frames := 2, cells := 0, slots := 0, locals := 33 } s m ([.ref x0] : List Value).toArray below meth c H locs 0 0 (MQ below (kQc D aC w (some (.int oR)) w) ([.ref x0] : List Value).toArray s 0 0 (kA w)) (F0 m 4 ls []) := by
    intro n k
    induction n with
    | zero =>
      intro z1_4 z2_4 H locs ls hX hl hf hk
      rw [fX8_allSizes_L4] at hf
      cases hf
    | succ n ih =>
      intro z1_4 z2_4 H locs ls hX hl hf hk
      rw [fX8_allSizes_L4] at hf
      refine lv_iload_n hx hb (kd dtX8_allSizes_0 4 rfl) rfl (lv_at hl 2 rfl) ?_
      refine lv_aload_n hx hb (kd dtX8_allSizes_0 5 rfl) rfl (lv_at hl 0 rfl) ?_
      obtain ⟨v3, hv3, hf⟩ := kbind hf
      refine kgetI hv3 F hX hinX8 rfl rfl rfl (by decide) (by decide) wfX8_39 (kd dtX8_allSizes_0 6 rfl) ?_
      refine lv_icmp_ge (tgt := 39) hx hb (kd dtX8_allSizes_0 7 rfl) (by decide) (fun hc => ?_) (fun hc => ?_)
      · have hf := kif_pos hc hf
        exact hk z1_4 z2_4 _ _ _ hX hl hf
      · have hf := kif_neg hc hf
        refine lv_aload_n hx hb (kd dtX8_allSizes_0 8 rfl) rfl (lv_at hl 0 rfl) ?_
        refine lv_iload_n hx hb (kd dtX8_allSizes_0 9 rfl) rfl (lv_at hl 2 rfl) ?_
        obtain ⟨b4, hb4, hf⟩ := kbind hf
        obtain ⟨hrb4, hkb4⟩ := kRc_s hb4
        obtain ⟨v6, h5, hf⟩ := kbind hf
        refine kcallV (n := 1) [.int z2_4] [] [va_rf v6] (rX8_lineAt l D aC h5) hrb4 hkb4 F hml hX hZ hl.1 mwX8_lineAt wmX8_56 rfl (by decide) (by decide +kernel) ⟨(by decide), (by decide)⟩ rfl rfl rfl (Nat.le_of_ble_eq_true rfl) (kd dtX8_allSizes_0 10 rfl) ⟨Nat.zero_le _, Nat.zero_le _⟩ (fun H locs hX => ?_)
        refine kastore_n (lv' := [(3, va_rf v6), (0, .ref x0), (1, .int z1_4), (2, .int z2_4)]) hx hb (kd dtX8_allSizes_0 11 rfl) rfl hl (by decide) rfl (fun ls hl => ?_)
        refine lv_iload_n hx hb (kd dtX8_allSizes_0 12 rfl) rfl (lv_at hl 2 rfl) ?_
        refine kaload_n hx hb (kd dtX8_allSizes_0 13 rfl) rfl (lv_at hl 0 rfl) ?_
        refine kifnonnull (tgt := 27) hx hb (kd dtX8_allSizes_0 14 rfl) (by decide) (fun hc => ?_) (fun hc => ?_)
        · have hf := kif_pos hc hf
          refine lv_iconst (v := (0 : Int32)) hx hb (kd dtX8_allSizes_0 15 rfl) (by decide) ?_
          refine lv_goto (tgt := 31) hx hb (kd dtX8_allSizes_0 16 rfl) (by decide) ?_
          refine lv_iadd hx hb (kd dtX8_allSizes_0 19 rfl) ?_
          refine lv_istore_n (lv' := [(1, .int (z1_4 + (0 : Int32))), (3, va_rf v6), (0, .ref x0), (2, .int z2_4)]) hx hb (kd dtX8_allSizes_0 20 rfl) rfl hl (by decide) rfl (fun ls hl => ?_)
          refine lv_iinc (v := z2_4 + (1 : Int32)) (lv' := [(2, .int (z2_4 + (1 : Int32))), (1, .int (z1_4 + (0 : Int32))), (3, va_rf v6), (0, .ref x0)]) hx hb (kd dtX8_allSizes_0 21 rfl) hl (k := 3) rfl (by rfl) (by decide) rfl (fun ls hl => ?_)
          refine lv_goto (tgt := 4) hx hb (kd dtX8_allSizes_0 22 rfl) (by decide) ?_
          exact ih (z1_4 + (0 : Int32)) (z2_4 + (1 : Int32)) _ _ _ hX (lv_sub hl [3, 1, 0] rfl) hf hk
        · have hf := kif_neg hc hf
          refine kaload_n hx hb (kd dtX8_allSizes_0 17 rfl) rfl (lv_at hl 0 rfl) ?_
          obtain ⟨v7, hv7, hf⟩ := kbind hf
          refine kgetIN hv7 F hX hinX1 rfl rfl rfl (by decide) (by decide) hZ wfX8_60 (kd dtX8_allSizes_0 18 rfl) ?_
          refine lv_iadd hx hb (kd dtX8_allSizes_0 19 rfl) ?_
          refine lv_istore_n (lv' := [(1, .int (z1_4 + v7)), (3, va_rf v6), (0, .ref x0), (2, .int z2_4)]) hx hb (kd dtX8_allSizes_0 20 rfl) rfl hl (by decide) rfl (fun ls hl => ?_)
          refine lv_iinc (v := z2_4 + (1 : Int32)) (lv' := [(2, .int (z2_4 + (1 : Int32))), (1, .int (z1_4 + v7)), (3, va_rf v6), (0, .ref x0)]) hx hb (kd dtX8_allSizes_0 21 rfl) hl (k := 3) rfl (by rfl) (by decide) rfl (fun ls hl => ?_)
          refine lv_goto (tgt := 4) hx hb (kd dtX8_allSizes_0 22 rfl) (by decide) ?_
          exact ih (z1_4 + v7) (z2_4 + (1 : Int32)) _ _ _ hX (lv_sub hl [3, 1, 0] rfl) hf hk
  refine hL4 kFU _ (0 : Int32) (0 : Int32) _ _ _ hX (lv_sub hl [2, 1, 0] rfl) hf ?_
  intro y1_1 y2_2 H locs ls hX hl hf
  refine lv_iload_n hx hb (kd dtX8_allSizes_0 23 rfl) rfl (lv_at hl 1 rfl) ?_
  obtain rfl := Option.some.inj hf
  exact kiret F hX hr hlocks rfl (kd dtX8_allSizes_0 24 rfl)
theorem wmX8_63 : Cond.methodLink RX8 63 yX1_isTrue ∈ kT := kTm 1035 (by decide +kernel) rfl
theorem mwX1_isTrue : kMV RX1 yX1_isTrue cX1_isTrue 1 (some .boolean) := ⟨kTm 638 (by decide +kernel) rfl, kTm 97 (by decide +kernel) rfl, kTm 636 (by decide +kernel) rfl, kTm 637 (by decide +kernel) rfl⟩
def lX8_trueLines_0 : List (Nat × Instr × Nat) := [(0, .iconst 0, 1), (1, .istore_n 1, 1), (2, .iconst 0, 1), (3, .istore_n 2, 1), (4, .iload_n 2, 1), (5, .aload_n 0, 1), (6, .getfield 39, 3), (9, .if_icmp .ge 29, 3), (12, .aload_n 0, 1), (13, .iload_n 2, 1), (14, .invokevirtual 56, 3), (17, .astore_n 3, 1), (18, .aload_n 3, 1), (19, .ifnull 13, 3), (22, .aload_n 3, 1), (23, .invokevirtual 63, 3), (26, .ifCond .eq 6, 3), (29, .iinc 1 1, 3), (32, .iinc 2 1, 3), (35, .goto (-31), 3), (38, .iload_n 1, 1), (39, .ireturn, 1)]
theorem dtX8_trueLines_0 : kDec cX8_trueLines lX8_trueLines_0 = true := by decide +kernel
noncomputable def fX8_trueLines_L4 (x0 : Nat) (w : kW) : Nat → (Int32 → Int32 → Option Int32) → Int32 → Int32 → Option Int32
  | 0, _, _, _ => none
  | n + 1, k, x1, x2 =>
  (kgI w 8 (some x0) 7).bind fun v1 =>
  if v1 ≤ x2 then
  k x1 x2
  else
  (kRc w 8 (some x0)).bind fun b2 =>
  (fX8_lineAt b2 x2 w).bind fun v4 =>
  if v4 = none then
  fX8_trueLines_L4 x0 w n k x1 (x2 + (1 : Int32))
  else
  (kRc w 1 v4).bind fun b5 =>
  (fX1_isTrue b5 w).bind fun v7 =>
  if v7 = 0 then
  fX8_trueLines_L4 x0 w n k x1 (x2 + (1 : Int32))
  else
  fX8_trueLines_L4 x0 w n k (x1 + (1 : Int32)) (x2 + (1 : Int32))

noncomputable def fX8_trueLines (x0 : Nat) (w : kW) : Option Int32 :=
  fX8_trueLines_L4 x0 w kFU (fun y1_1 y2_2 => some y1_1) (0 : Int32) (0 : Int32)

set_option maxHeartbeats 4000000 in
set_option maxRecDepth 100000 in
theorem rX8_trueLines (l : Launch) (D : va_G) (aC : Nat → ClassId) {x0 : Nat} {w : kW} {oR : Int32} (h : fX8_trueLines x0 w = some oR) : kC l D aC yX8_trueLines cX8_trueLines 4 (some .int) 4 73 [.ref x0] w (some (.int oR)) w 0 0 := by
  refine kOf (own := RX8) (by decide) rfl (Nat.le_of_ble_eq_true rfl) ?_
  intro p e s m below meth c ls F hml hr hlocks hnm hX hZ hl
  obtain ⟨hx, hb, hts, hown, hK⟩ := id F
  have hl : lv_has ls 4 [(0, .ref x0)] := hl
  have hf := h
  rw [fX8_trueLines] at hf
  refine lv_iconst (v := (0 : Int32)) hx hb (kd dtX8_trueLines_0 0 rfl) (by decide) ?_
  refine lv_istore_n (lv' := [(1, .int (0 : Int32)), (0, .ref x0)]) hx hb (kd dtX8_trueLines_0 1 rfl) rfl hl (by decide) rfl (fun ls hl => ?_)
  refine lv_iconst (v := (0 : Int32)) hx hb (kd dtX8_trueLines_0 2 rfl) (by decide) ?_
  refine lv_istore_n (lv' := [(2, .int (0 : Int32)), (1, .int (0 : Int32)), (0, .ref x0)]) hx hb (kd dtX8_trueLines_0 3 rfl) rfl hl (by decide) rfl (fun ls hl => ?_)
  have hL4 : ∀ (n : Nat) (k : Int32 → Int32 → Option Int32), ∀ (z1_4 : Int32) (z2_4 : Int32) (H : Heap) (locs : List Loc) (ls : Array Slot), kX D aC w s.heap w H locs → lv_has ls 4 [(0, .ref x0), (1, .int z1_4), (2, .int z2_4)] → fX8_trueLines_L4 x0 w n k z1_4 z2_4 = some oR → (∀ (z1_4 : Int32) (z2_4 : Int32) (H : Heap) (locs : List Loc) (ls : Array Slot), kX D aC w s.heap w H locs → lv_has ls 4 [(0, .ref x0), (1, .int z1_4), (2, .int z2_4)] → k z1_4 z2_4 = some oR → W p l e { frames := 4, cells := 0, slots := 0, locals := 73 } s m ([.ref x0] : List Value).toArray below meth c H locs 0 0 (MQ below (kQc D aC w (some (.int oR)) w) ([.ref x0] : List Value).toArray s 0 0 (kA w)) (F0 m 38 ls [])) → W p l e { frames := 4, cells := 0, slots := 0, locals := 73 } s m ([.ref x0] : List Value).toArray below meth c H locs 0 0 (MQ below (kQc D aC w (some (.int oR)) w) ([.ref x0] : List Value).toArray s 0 0 (kA w)) (F0 m 4 ls []) := by
    intro n k
    induction n with
    | zero =>
      intro z1_4 z2_4 H locs ls hX hl hf hk
      rw [fX8_trueLines_L4] at hf
      cases hf
    | succ n ih =>
      intro z1_4 z2_4 H locs ls hX hl hf hk
      rw [fX8_trueLines_L4] at hf
      refine lv_iload_n hx hb (kd dtX8_trueLines_0 4 rfl) rfl (lv_at hl 2 rfl) ?_
      refine lv_aload_n hx hb (kd dtX8_trueLines_0 5 rfl) rfl (lv_at hl 0 rfl) ?_
      obtain ⟨v3, hv3, hf⟩ := kbind hf
      refine kgetI hv3 F hX hinX8 rfl rfl rfl (by decide) (by decide) wfX8_39 (kd dtX8_trueLines_0 6 rfl) ?_
      refine lv_icmp_ge (tgt := 38) hx hb (kd dtX8_trueLines_0 7 rfl) (by decide) (fun hc => ?_) (fun hc => ?_)
      · have hf := kif_pos hc hf
        exact hk z1_4 z2_4 _ _ _ hX hl hf
      · have hf := kif_neg hc hf
        refine lv_aload_n hx hb (kd dtX8_trueLines_0 8 rfl) rfl (lv_at hl 0 rfl) ?_
        refine lv_iload_n hx hb (kd dtX8_trueLines_0 9 rfl) rfl (lv_at hl 2 rfl) ?_
        obtain ⟨b4, hb4, hf⟩ := kbind hf
        obtain ⟨hrb4, hkb4⟩ := kRc_s hb4
        obtain ⟨v6, h5, hf⟩ := kbind hf
        refine kcallV (n := 1) [.int z2_4] [] [va_rf v6] (rX8_lineAt l D aC h5) hrb4 hkb4 F hml hX hZ hl.1 mwX8_lineAt wmX8_56 rfl (by decide) (by decide +kernel) ⟨(by decide), (by decide)⟩ rfl rfl rfl (Nat.le_of_ble_eq_true rfl) (kd dtX8_trueLines_0 10 rfl) ⟨Nat.zero_le _, Nat.zero_le _⟩ (fun H locs hX => ?_)
        refine kastore_n (lv' := [(3, va_rf v6), (0, .ref x0), (1, .int z1_4), (2, .int z2_4)]) hx hb (kd dtX8_trueLines_0 11 rfl) rfl hl (by decide) rfl (fun ls hl => ?_)
        refine kaload_n hx hb (kd dtX8_trueLines_0 12 rfl) rfl (lv_at hl 0 rfl) ?_
        refine kifnull (tgt := 32) hx hb (kd dtX8_trueLines_0 13 rfl) (by decide) (fun hc => ?_) (fun hc => ?_)
        · have hf := kif_pos hc hf
          refine lv_iinc (v := z2_4 + (1 : Int32)) (lv' := [(2, .int (z2_4 + (1 : Int32))), (3, va_rf v6), (0, .ref x0), (1, .int z1_4)]) hx hb (kd dtX8_trueLines_0 18 rfl) hl (k := 3) rfl (by rfl) (by decide) rfl (fun ls hl => ?_)
          refine lv_goto (tgt := 4) hx hb (kd dtX8_trueLines_0 19 rfl) (by decide) ?_
          exact ih z1_4 (z2_4 + (1 : Int32)) _ _ _ hX (lv_sub hl [2, 3, 0] rfl) hf hk
        · have hf := kif_neg hc hf
          refine kaload_n hx hb (kd dtX8_trueLines_0 14 rfl) rfl (lv_at hl 0 rfl) ?_
          obtain ⟨b7, hb7, hf⟩ := kbind hf
          obtain ⟨hrb7, hkb7⟩ := kRc_s hb7
          obtain ⟨v9, h8, hf⟩ := kbind hf
          refine kcallV (n := 0) [] [] [.int v9] (rX1_isTrue l D aC h8) hrb7 hkb7 F hml hX hZ hl.1 mwX1_isTrue wmX8_63 rfl (by decide) (by decide +kernel) ⟨(by decide), (by decide)⟩ rfl rfl rfl (Nat.le_of_ble_eq_true rfl) (kd dtX8_trueLines_0 15 rfl) ⟨Nat.zero_le _, Nat.zero_le _⟩ (fun H locs hX => ?_)
          refine lv_if_eq (tgt := 32) hx hb (kd dtX8_trueLines_0 16 rfl) (by decide) (fun hc => ?_) (fun hc => ?_)
          · have hf := kif_pos hc hf
            refine lv_iinc (v := z2_4 + (1 : Int32)) (lv' := [(2, .int (z2_4 + (1 : Int32))), (3, va_rf v6), (0, .ref x0), (1, .int z1_4)]) hx hb (kd dtX8_trueLines_0 18 rfl) hl (k := 3) rfl (by rfl) (by decide) rfl (fun ls hl => ?_)
            refine lv_goto (tgt := 4) hx hb (kd dtX8_trueLines_0 19 rfl) (by decide) ?_
            exact ih z1_4 (z2_4 + (1 : Int32)) _ _ _ hX (lv_sub hl [2, 3, 0] rfl) hf hk
          · have hf := kif_neg hc hf
            refine lv_iinc (v := z1_4 + (1 : Int32)) (lv' := [(1, .int (z1_4 + (1 : Int32))), (3, va_rf v6), (0, .ref x0), (2, .int z2_4)]) hx hb (kd dtX8_trueLines_0 17 rfl) hl (k := 2) rfl (by rfl) (by decide) rfl (fun ls hl => ?_)
            refine lv_iinc (v := z2_4 + (1 : Int32)) (lv' := [(2, .int (z2_4 + (1 : Int32))), (1, .int (z1_4 + (1 : Int32))), (3, va_rf v6), (0, .ref x0)]) hx hb (kd dtX8_trueLines_0 18 rfl) hl (k := 3) rfl (by rfl) (by decide) rfl (fun ls hl => ?_)
            refine lv_goto (tgt := 4) hx hb (kd dtX8_trueLines_0 19 rfl) (by decide) ?_
            exact ih (z1_4 + (1 : Int32)) (z2_4 + (1 : Int32)) _ _ _ hX (lv_sub hl [3, 1, 0] rfl) hf hk
  refine hL4 kFU _ (0 : Int32) (0 : Int32) _ _ _ hX (lv_sub hl [2, 1, 0] rfl) hf ?_
  intro y1_1 y2_2 H locs ls hX hl hf
  refine lv_iload_n hx hb (kd dtX8_trueLines_0 20 rfl) rfl (lv_at hl 1 rfl) ?_
  obtain rfl := Option.some.inj hf
  exact kiret F hX hr hlocks rfl (kd dtX8_trueLines_0 21 rfl)
