theorem wmX10_3 : Cond.methodLink RX10 3 objectInit ∈ kT := kTm 245 (by decide +kernel) rfl
theorem wfX10_9 : Cond.fieldLink RX10 9 (TX10 0).1 (TX10 0).2.1 (TX10 0).2.2.1 ∈ kT := kTm 246 (by decide +kernel) rfl
theorem wfX10_15 : Cond.fieldLink RX10 15 (TX10 1).1 (TX10 1).2.1 (TX10 1).2.2.1 ∈ kT := kTm 247 (by decide +kernel) rfl
theorem wfX10_19 : Cond.fieldLink RX10 19 (TX10 2).1 (TX10 2).2.1 (TX10 2).2.2.1 ∈ kT := kTm 248 (by decide +kernel) rfl
theorem wfX10_23 : Cond.fieldLink RX10 23 (TX10 3).1 (TX10 3).2.1 (TX10 3).2.2.1 ∈ kT := kTm 249 (by decide +kernel) rfl
def lX10_init_0 : List (Nat × Instr × Nat) := [(0, .aload_n 0, 1), (1, .invokespecial 3, 3), (4, .aload_n 0, 1), (5, .sipush 400, 3), (8, .newarray .byte, 2), (10, .putfield 9, 3), (13, .aload_n 0, 1), (14, .sipush 200, 3), (17, .newarray .int, 2), (19, .putfield 15, 3), (22, .aload_n 0, 1), (23, .iconst 0, 1), (24, .putfield 19, 3), (27, .aload_n 0, 1), (28, .iconst 0, 1), (29, .putfield 23, 3), (32, .return_, 1)]
theorem dtX10_init_0 : kDec cX10_init lX10_init_0 = true := by decide +kernel
noncomputable def fX10_init (x0 : Nat) (w : kW) : Option kW :=
  (knA w 13 (400 : Int32)).bind fun w1 =>
  (kpP w1 10 (some x0) 0 (some (kSz w))).bind fun w2 =>
  (knA w2 14 (200 : Int32)).bind fun w3 =>
  (kpP w3 10 (some x0) 1 (some (kSz w2))).bind fun w4 =>
  (kpI w4 10 (some x0) 2 (0 : Int32)).bind fun w5 =>
  (kpI w5 10 (some x0) 3 (0 : Int32)).bind fun w6 =>
  some w6

set_option maxHeartbeats 4000000 in
set_option maxRecDepth 100000 in
theorem rX10_init (l : Launch) (D : va_G) (aC : Nat → ClassId) {x0 : Nat} {w : kW} {wR : kW} (h : fX10_init x0 w = some wR) : kC l D aC yX10_init cX10_init 1 none 1 20 [.ref x0] w none wR 2 600 := by
  refine kOf (own := RX10) (by decide) rfl (Nat.le_of_ble_eq_true rfl) ?_
  intro p e s m below meth c ls F hml hr hlocks hnm hX hZ hl
  obtain ⟨hx, hb, hts, hown, hK⟩ := id F
  have hl : lv_has ls 1 [(0, .ref x0)] := hl
  have hf := h
  rw [fX10_init] at hf
  refine lv_aload_n hx hb (kd dtX10_init_0 0 rfl) rfl (lv_at hl 0 rfl) ?_
  refine kobj F (hml.trans hl.1.symm) wmX10_3 (Nat.le_of_ble_eq_true rfl) (Nat.le_of_ble_eq_true rfl) (kd dtX10_init_0 1 rfl) ?_
  refine lv_aload_n hx hb (kd dtX10_init_0 2 rfl) rfl (lv_at hl 0 rfl) ?_
  refine lv_sipush (v := (400 : Int32)) hx hb (kd dtX10_init_0 3 rfl) (by decide) ?_
  obtain ⟨w1, hw1, hf⟩ := kbind hf
  refine knewa (mx := 400) hw1 rfl (fun _ => rfl) (by decide) (by decide) F hX wA13 (by decide) (by decide) (Nat.le_of_ble_eq_true rfl) (Nat.le_of_ble_eq_true rfl) (kd dtX10_init_0 4 rfl) (fun H hX => ?_)
  obtain ⟨w2, hw2, hf⟩ := kbind hf
  refine kputP hw2 F hX hinX10 tyX10_ok nmX10 rfl rfl rfl (by decide) (by decide) wfX10_9 (Or.inr ⟨rfl, hnm, rfl⟩) (kd dtX10_init_0 5 rfl) (fun H locs hX => ?_)
  refine lv_aload_n hx hb (kd dtX10_init_0 6 rfl) rfl (lv_at hl 0 rfl) ?_
  refine lv_sipush (v := (200 : Int32)) hx hb (kd dtX10_init_0 7 rfl) (by decide) ?_
  obtain ⟨w3, hw3, hf⟩ := kbind hf
  refine knewa (mx := 200) hw3 rfl (fun _ => rfl) (by decide) (by decide) F hX wA14 (by decide) (by decide) (Nat.le_of_ble_eq_true rfl) (Nat.le_of_ble_eq_true rfl) (kd dtX10_init_0 8 rfl) (fun H hX => ?_)
  obtain ⟨w4, hw4, hf⟩ := kbind hf
  refine kputP hw4 F hX hinX10 tyX10_ok nmX10 rfl rfl rfl (by decide) (by decide) wfX10_15 (Or.inr ⟨rfl, hnm, rfl⟩) (kd dtX10_init_0 9 rfl) (fun H locs hX => ?_)
  refine lv_aload_n hx hb (kd dtX10_init_0 10 rfl) rfl (lv_at hl 0 rfl) ?_
  refine lv_iconst (v := (0 : Int32)) hx hb (kd dtX10_init_0 11 rfl) (by decide) ?_
  obtain ⟨w5, hw5, hf⟩ := kbind hf
  refine kputI hw5 F hX hinX10 tyX10_ok nmX10 rfl rfl rfl (by decide) (by decide) wfX10_19 rfl rfl (Or.inl rfl) (kd dtX10_init_0 12 rfl) (fun H locs hX => ?_)
  refine lv_aload_n hx hb (kd dtX10_init_0 13 rfl) rfl (lv_at hl 0 rfl) ?_
  refine lv_iconst (v := (0 : Int32)) hx hb (kd dtX10_init_0 14 rfl) (by decide) ?_
  obtain ⟨w6, hw6, hf⟩ := kbind hf
  refine kputI hw6 F hX hinX10 tyX10_ok nmX10 rfl rfl rfl (by decide) (by decide) wfX10_23 rfl rfl (Or.inl rfl) (kd dtX10_init_0 15 rfl) (fun H locs hX => ?_)
  cases hf
  refine W.widen (k := 2) (n := 600) (Nat.le_of_ble_eq_true rfl) (Nat.le_of_ble_eq_true rfl) ?_
  exact kvret F hX hr hlocks rfl (kd dtX10_init_0 16 rfl)
def lX10_append_0 : List (Nat × Instr × Nat) := [(0, .aload_n 0, 1), (1, .getfield 19, 3), (4, .aload_n 0, 1), (5, .getfield 9, 3), (8, .arraylength, 1), (9, .if_icmp .ge 24, 3), (12, .aload_n 0, 1), (13, .getfield 9, 3), (16, .aload_n 0, 1), (17, .getfield 19, 3), (20, .iload_n 1, 1), (21, .i2b, 1), (22, .bastore, 1), (23, .aload_n 0, 1), (24, .dup, 1), (25, .getfield 19, 3), (28, .iconst 1, 1), (29, .iadd, 1), (30, .putfield 19, 3), (33, .return_, 1)]
theorem dtX10_append_0 : kDec cX10_append lX10_append_0 = true := by decide +kernel
noncomputable def fX10_append (x0 : Nat) (x1 : Int32) (w : kW) : Option kW :=
  (kgI w 10 (some x0) 2).bind fun v1 =>
  (kgP w 10 (some x0) 0).bind fun v2 =>
  (kal w 13 v2).bind fun v3 =>
  if v3 ≤ v1 then
  some w
  else
  (kgP w 10 (some x0) 0).bind fun v4 =>
  (kgI w 10 (some x0) 2).bind fun v5 =>
  (ksI w 13 v4 v5 x1.toInt8.toInt32).bind fun w6 =>
  (kgI w6 10 (some x0) 2).bind fun v7 =>
  (kpI w6 10 (some x0) 2 (v7 + (1 : Int32))).bind fun w8 =>
  some w8

set_option maxHeartbeats 4000000 in
set_option maxRecDepth 100000 in
theorem rX10_append (l : Launch) (D : va_G) (aC : Nat → ClassId) {x0 : Nat} {x1 : Int32} {w : kW} {wR : kW} (h : fX10_append x0 x1 w = some wR) : kC l D aC yX10_append cX10_append 2 none 1 12 [.ref x0, .int x1] w none wR 0 0 := by
  refine kOf (own := RX10) (by decide) rfl (Nat.le_of_ble_eq_true rfl) ?_
  intro p e s m below meth c ls F hml hr hlocks hnm hX hZ hl
  obtain ⟨hx, hb, hts, hown, hK⟩ := id F
  have hl : lv_has ls 2 [(0, .ref x0), (1, .int x1)] := hl
  have hf := h
  rw [fX10_append] at hf
  refine lv_aload_n hx hb (kd dtX10_append_0 0 rfl) rfl (lv_at hl 0 rfl) ?_
  obtain ⟨v1, hv1, hf⟩ := kbind hf
  refine kgetI hv1 F hX hinX10 rfl rfl rfl (by decide) (by decide) wfX10_19 (kd dtX10_append_0 1 rfl) ?_
  refine lv_aload_n hx hb (kd dtX10_append_0 2 rfl) rfl (lv_at hl 0 rfl) ?_
  obtain ⟨v2, hv2, hf⟩ := kbind hf
  refine kgetP hv2 F hX hinX10 rfl rfl rfl (by decide) (by decide) wfX10_9 (kd dtX10_append_0 3 rfl) ?_
  obtain ⟨v3, hv3, hf⟩ := kbind hf
  refine kalen hv3 (by decide) (by decide) F hX (kd dtX10_append_0 4 rfl) ?_
  refine lv_icmp_ge (tgt := 33) hx hb (kd dtX10_append_0 5 rfl) (by decide) (fun hc => ?_) (fun hc => ?_)
  · have hf := kif_pos hc hf
    cases hf
    exact kvret F hX hr hlocks rfl (kd dtX10_append_0 19 rfl)
  · have hf := kif_neg hc hf
    refine lv_aload_n hx hb (kd dtX10_append_0 6 rfl) rfl (lv_at hl 0 rfl) ?_
    obtain ⟨v4, hv4, hf⟩ := kbind hf
    refine kgetP hv4 F hX hinX10 rfl rfl rfl (by decide) (by decide) wfX10_9 (kd dtX10_append_0 7 rfl) ?_
    refine lv_aload_n hx hb (kd dtX10_append_0 8 rfl) rfl (lv_at hl 0 rfl) ?_
    obtain ⟨v5, hv5, hf⟩ := kbind hf
    refine kgetI hv5 F hX hinX10 rfl rfl rfl (by decide) (by decide) wfX10_19 (kd dtX10_append_0 9 rfl) ?_
    refine lv_iload_n hx hb (kd dtX10_append_0 10 rfl) rfl (lv_at hl 1 rfl) ?_
    refine lv_i2b (v := x1.toInt8.toInt32) hx hb (kd dtX10_append_0 11 rfl) rfl ?_
    obtain ⟨w6, hw6, hf⟩ := kbind hf
    refine kbst hw6 F hX (kd dtX10_append_0 12 rfl) (fun H locs hX => ?_)
    refine lv_aload_n hx hb (kd dtX10_append_0 13 rfl) rfl (lv_at hl 0 rfl) ?_
    refine lv_dup hx hb (kd dtX10_append_0 14 rfl) rfl ?_
    obtain ⟨v7, hv7, hf⟩ := kbind hf
    refine kgetI hv7 F hX hinX10 rfl rfl rfl (by decide) (by decide) wfX10_19 (kd dtX10_append_0 15 rfl) ?_
    refine lv_iconst (v := (1 : Int32)) hx hb (kd dtX10_append_0 16 rfl) (by decide) ?_
    refine lv_iadd hx hb (kd dtX10_append_0 17 rfl) ?_
    obtain ⟨w8, hw8, hf⟩ := kbind hf
    refine kputI hw8 F hX hinX10 tyX10_ok nmX10 rfl rfl rfl (by decide) (by decide) wfX10_19 rfl rfl (Or.inl rfl) (kd dtX10_append_0 18 rfl) (fun H locs hX => ?_)
    cases hf
    exact kvret F hX hr hlocks rfl (kd dtX10_append_0 19 rfl)
theorem wmX10_42 : Cond.methodLink RX10 42 yX10_append ∈ kT := kTm 666 (by decide +kernel) rfl
theorem mwX10_append : kMV RX10 yX10_append cX10_append 2 none := ⟨kTm 669 (by decide +kernel) rfl, kTm 99 (by decide +kernel) rfl, kTm 668 (by decide +kernel) rfl, kTm 9 (by decide +kernel) rfl⟩
def lX10_endPart_0 : List (Nat × Instr × Nat) := [(0, .aload_n 0, 1), (1, .getfield 23, 3), (4, .ifCond .le 82, 3), (7, .aload_n 0, 1), (8, .getfield 23, 3), (11, .aload_n 0, 1), (12, .getfield 15, 3), (15, .arraylength, 1), (16, .if_icmp .gt 70, 3), (19, .aload_n 0, 1), (20, .getfield 15, 3), (23, .aload_n 0, 1), (24, .getfield 23, 3), (27, .iconst 1, 1), (28, .isub, 1), (29, .iaload, 1), (30, .istore_n 1, 1), (31, .iload_n 1, 1), (32, .bipush 118, 2), (34, .if_icmp .eq 9, 3), (37, .iload_n 1, 1), (38, .bipush 62, 2), (40, .if_icmp .ne 22, 3), (43, .aload_n 0, 1), (44, .iload_n 1, 1), (45, .invokevirtual 42, 3), (48, .aload_n 0, 1), (49, .getfield 15, 3), (52, .aload_n 0, 1), (53, .getfield 23, 3), (56, .iconst 1, 1), (57, .isub, 1), (58, .bipush 41, 2), (60, .iastore, 1), (61, .return_, 1), (62, .iload_n 1, 1), (63, .bipush 41, 2), (65, .if_icmp .ne 8, 3), (68, .aload_n 0, 1), (69, .iload_n 1, 1), (70, .invokevirtual 42, 3), (73, .aload_n 0, 1), (74, .dup, 1), (75, .getfield 23, 3), (78, .iconst 1, 1), (79, .isub, 1), (80, .putfield 23, 3), (83, .goto (-83), 3), (86, .return_, 1)]
theorem dtX10_endPart_0 : kDec cX10_endPart lX10_endPart_0 = true := by decide +kernel
noncomputable def fX10_endPart_L0 (x0 : Nat) : Nat → (kW → Option kW) → kW → Option kW
  | 0, _, _ => none
  | n + 1, k, w =>
  (kgI w 10 (some x0) 3).bind fun v1 =>
  if v1 ≤ 0 then
  k w
  else
  (kgI w 10 (some x0) 3).bind fun v2 =>
  (kgP w 10 (some x0) 1).bind fun v3 =>
  (kal w 14 v3).bind fun v4 =>
  if v4 < v2 then
  k w
  else
  (kgP w 10 (some x0) 1).bind fun v5 =>
  (kgI w 10 (some x0) 3).bind fun v6 =>
  (kaI w 14 v5 (v6 - (1 : Int32))).bind fun v7 =>
  if v7 = (118 : Int32) then
  (kRc w 10 (some x0)).bind fun b8 =>
  (fX10_append b8 v7 w).bind fun w9 =>
  (kgP w9 10 (some x0) 1).bind fun v11 =>
  (kgI w9 10 (some x0) 3).bind fun v12 =>
  (ksI w9 14 v11 (v12 - (1 : Int32)) (41 : Int32)).bind fun w13 =>
  some w13
  else
  if v7 = (62 : Int32) then
  (kRc w 10 (some x0)).bind fun b21 =>
  (fX10_append b21 v7 w).bind fun w22 =>
  (kgP w22 10 (some x0) 1).bind fun v24 =>
  (kgI w22 10 (some x0) 3).bind fun v25 =>
  (ksI w22 14 v24 (v25 - (1 : Int32)) (41 : Int32)).bind fun w26 =>
  some w26
  else
  if v7 = (41 : Int32) then
  (kRc w 10 (some x0)).bind fun b16 =>
  (fX10_append b16 v7 w).bind fun w17 =>
  (kgI w17 10 (some x0) 3).bind fun v19 =>
  (kpI w17 10 (some x0) 3 (v19 - (1 : Int32))).bind fun w20 =>
  fX10_endPart_L0 x0 n k w20
  else
  (kgI w 10 (some x0) 3).bind fun v14 =>
  (kpI w 10 (some x0) 3 (v14 - (1 : Int32))).bind fun w15 =>
  fX10_endPart_L0 x0 n k w15

noncomputable def fX10_endPart (x0 : Nat) (w : kW) : Option kW :=
  fX10_endPart_L0 x0 kFU (fun w1 => some w1) w

set_option maxHeartbeats 4000000 in
set_option maxRecDepth 100000 in
theorem rX10_endPart (l : Launch) (D : va_G) (aC : Nat → ClassId) {x0 : Nat} {w : kW} {wR : kW} (h : fX10_endPart x0 w = some wR) : kC l D aC yX10_endPart cX10_endPart 2 none 2 33 [.ref x0] w none wR 0 0 := by
  refine kOf (own := RX10) (by decide) rfl (Nat.le_of_ble_eq_true rfl) ?_
  intro p e s m below meth c ls F hml hr hlocks hnm hX hZ hl
  obtain ⟨hx, hb, hts, hown, hK⟩ := id F
  have hl : lv_has ls 2 [(0, .ref x0)] := hl
  have hf := h
  rw [fX10_endPart] at hf
  have hL0 : ∀ (n : Nat) (k : kW → Option kW), ∀ (w_0 : kW) (H : Heap) (locs : List Loc) (ls : Array Slot), kX D aC w s.heap w_0 H locs → lv_has ls 2 [(0, .ref x0)] → fX10_endPart_L0 x0 n k w_0 = some wR → (∀ (w_0 : kW) (H : Heap) (locs : List Loc) (ls : Array Slot), kX D aC w s.heap w_0 H locs → lv_has ls 2 [(0, .ref x0)] → k w_0 = some wR → W p l e { frames := 2, cells := 0, slots := 0, locals := 33 } s m ([.ref x0] : List Value).toArray below meth c H locs 0 0 (MQ below (kQc D aC w none wR) ([.ref x0] : List Value).toArray s 0 0 (kA w)) (F0 m 86 ls [])) → W p l e { frames := 2, cells := 0, slots := 0, locals := 33 } s m ([.ref x0] : List Value).toArray below meth c H locs 0 0 (MQ below (kQc D aC w none wR) ([.ref x0] : List Value).toArray s 0 0 (kA w)) (F0 m 0 ls []) := by
    intro n k
    induction n with
    | zero =>
      intro w_0 H locs ls hX hl hf hk
      rw [fX10_endPart_L0] at hf
      cases hf
    | succ n ih =>
      intro w_0 H locs ls hX hl hf hk
      rw [fX10_endPart_L0] at hf
      refine lv_aload_n hx hb (kd dtX10_endPart_0 0 rfl) rfl (lv_at hl 0 rfl) ?_
      obtain ⟨v2, hv2, hf⟩ := kbind hf
      refine kgetI hv2 F hX hinX10 rfl rfl rfl (by decide) (by decide) wfX10_23 (kd dtX10_endPart_0 1 rfl) ?_
      refine lv_if_le (tgt := 86) hx hb (kd dtX10_endPart_0 2 rfl) (by decide) (fun hc => ?_) (fun hc => ?_)
      · have hf := kif_pos hc hf
        exact hk w_0 _ _ _ hX hl hf
      · have hf := kif_neg hc hf
        refine lv_aload_n hx hb (kd dtX10_endPart_0 3 rfl) rfl (lv_at hl 0 rfl) ?_
        obtain ⟨v3, hv3, hf⟩ := kbind hf
        refine kgetI hv3 F hX hinX10 rfl rfl rfl (by decide) (by decide) wfX10_23 (kd dtX10_endPart_0 4 rfl) ?_
        refine lv_aload_n hx hb (kd dtX10_endPart_0 5 rfl) rfl (lv_at hl 0 rfl) ?_
        obtain ⟨v4, hv4, hf⟩ := kbind hf
        refine kgetP hv4 F hX hinX10 rfl rfl rfl (by decide) (by decide) wfX10_15 (kd dtX10_endPart_0 6 rfl) ?_
        obtain ⟨v5, hv5, hf⟩ := kbind hf
        refine kalen hv5 (by decide) (by decide) F hX (kd dtX10_endPart_0 7 rfl) ?_
        refine lv_icmp_gt (tgt := 86) hx hb (kd dtX10_endPart_0 8 rfl) (by decide) (fun hc => ?_) (fun hc => ?_)
        · have hf := kif_pos hc hf
          exact hk w_0 _ _ _ hX hl hf
        · have hf := kif_neg hc hf
          refine lv_aload_n hx hb (kd dtX10_endPart_0 9 rfl) rfl (lv_at hl 0 rfl) ?_
          obtain ⟨v6, hv6, hf⟩ := kbind hf
          refine kgetP hv6 F hX hinX10 rfl rfl rfl (by decide) (by decide) wfX10_15 (kd dtX10_endPart_0 10 rfl) ?_
          refine lv_aload_n hx hb (kd dtX10_endPart_0 11 rfl) rfl (lv_at hl 0 rfl) ?_
          obtain ⟨v7, hv7, hf⟩ := kbind hf
          refine kgetI hv7 F hX hinX10 rfl rfl rfl (by decide) (by decide) wfX10_23 (kd dtX10_endPart_0 12 rfl) ?_
          refine lv_iconst (v := (1 : Int32)) hx hb (kd dtX10_endPart_0 13 rfl) (by decide) ?_
          refine lv_isub hx hb (kd dtX10_endPart_0 14 rfl) ?_
          obtain ⟨v8, hv8, hf⟩ := kbind hf
          refine kald hv8 F hX (kd dtX10_endPart_0 15 rfl) ?_
          refine lv_istore_n (lv' := [(1, .int v8), (0, .ref x0)]) hx hb (kd dtX10_endPart_0 16 rfl) rfl hl (by decide) rfl (fun ls hl => ?_)
          refine lv_iload_n hx hb (kd dtX10_endPart_0 17 rfl) rfl (lv_at hl 0 rfl) ?_
          refine lv_bipush (v := (118 : Int32)) hx hb (kd dtX10_endPart_0 18 rfl) (by decide) ?_
          refine lv_icmp_eq (tgt := 43) hx hb (kd dtX10_endPart_0 19 rfl) (by decide) (fun hc => ?_) (fun hc => ?_)
          · have hf := kif_pos hc hf
            refine lv_aload_n hx hb (kd dtX10_endPart_0 23 rfl) rfl (lv_at hl 1 rfl) ?_
            refine lv_iload_n hx hb (kd dtX10_endPart_0 24 rfl) rfl (lv_at hl 0 rfl) ?_
            obtain ⟨b9, hb9, hf⟩ := kbind hf
            obtain ⟨hrb9, hkb9⟩ := kRc_s hb9
            obtain ⟨w10, h11, hf⟩ := kbind hf
            refine kcallV (n := 1) [.int v8] [] [] (rX10_append l D aC h11) hrb9 hkb9 F hml hX hZ hl.1 mwX10_append wmX10_42 rfl (by decide) (by decide +kernel) ⟨(by decide), (by decide)⟩ rfl rfl rfl (Nat.le_of_ble_eq_true rfl) (kd dtX10_endPart_0 25 rfl) ⟨Nat.zero_le _, Nat.zero_le _⟩ (fun H locs hX => ?_)
            refine lv_aload_n hx hb (kd dtX10_endPart_0 26 rfl) rfl (lv_at hl 1 rfl) ?_
            obtain ⟨v12, hv12, hf⟩ := kbind hf
            refine kgetP hv12 F hX hinX10 rfl rfl rfl (by decide) (by decide) wfX10_15 (kd dtX10_endPart_0 27 rfl) ?_
            refine lv_aload_n hx hb (kd dtX10_endPart_0 28 rfl) rfl (lv_at hl 1 rfl) ?_
            obtain ⟨v13, hv13, hf⟩ := kbind hf
            refine kgetI hv13 F hX hinX10 rfl rfl rfl (by decide) (by decide) wfX10_23 (kd dtX10_endPart_0 29 rfl) ?_
            refine lv_iconst (v := (1 : Int32)) hx hb (kd dtX10_endPart_0 30 rfl) (by decide) ?_
            refine lv_isub hx hb (kd dtX10_endPart_0 31 rfl) ?_
            refine lv_bipush (v := (41 : Int32)) hx hb (kd dtX10_endPart_0 32 rfl) (by decide) ?_
            obtain ⟨w14, hw14, hf⟩ := kbind hf
            refine kast hw14 F hX (kd dtX10_endPart_0 33 rfl) (fun H locs hX => ?_)
            cases hf
            exact kvret F hX hr hlocks rfl (kd dtX10_endPart_0 34 rfl)
          · have hf := kif_neg hc hf
            refine lv_iload_n hx hb (kd dtX10_endPart_0 20 rfl) rfl (lv_at hl 0 rfl) ?_
            refine lv_bipush (v := (62 : Int32)) hx hb (kd dtX10_endPart_0 21 rfl) (by decide) ?_
            refine lv_icmp_ne (tgt := 62) hx hb (kd dtX10_endPart_0 22 rfl) (by decide) (fun hc => ?_) (fun hc => ?_)
            · have hf := kif_neg hc hf
              refine lv_iload_n hx hb (kd dtX10_endPart_0 35 rfl) rfl (lv_at hl 0 rfl) ?_
              refine lv_bipush (v := (41 : Int32)) hx hb (kd dtX10_endPart_0 36 rfl) (by decide) ?_
              refine lv_icmp_ne (tgt := 73) hx hb (kd dtX10_endPart_0 37 rfl) (by decide) (fun hc => ?_) (fun hc => ?_)
              · have hf := kif_neg hc hf
                refine lv_aload_n hx hb (kd dtX10_endPart_0 41 rfl) rfl (lv_at hl 1 rfl) ?_
                refine lv_dup hx hb (kd dtX10_endPart_0 42 rfl) rfl ?_
                obtain ⟨v15, hv15, hf⟩ := kbind hf
                refine kgetI hv15 F hX hinX10 rfl rfl rfl (by decide) (by decide) wfX10_23 (kd dtX10_endPart_0 43 rfl) ?_
                refine lv_iconst (v := (1 : Int32)) hx hb (kd dtX10_endPart_0 44 rfl) (by decide) ?_
                refine lv_isub hx hb (kd dtX10_endPart_0 45 rfl) ?_
                obtain ⟨w16, hw16, hf⟩ := kbind hf
                refine kputI hw16 F hX hinX10 tyX10_ok nmX10 rfl rfl rfl (by decide) (by decide) wfX10_23 rfl rfl (Or.inl rfl) (kd dtX10_endPart_0 46 rfl) (fun H locs hX => ?_)
                refine lv_goto (tgt := 0) hx hb (kd dtX10_endPart_0 47 rfl) (by decide) ?_
                exact ih w16 _ _ _ hX (lv_sub hl [1] rfl) hf hk
              · have hf := kif_pos hc hf
                refine lv_aload_n hx hb (kd dtX10_endPart_0 38 rfl) rfl (lv_at hl 1 rfl) ?_
                refine lv_iload_n hx hb (kd dtX10_endPart_0 39 rfl) rfl (lv_at hl 0 rfl) ?_
                obtain ⟨b17, hb17, hf⟩ := kbind hf
                obtain ⟨hrb17, hkb17⟩ := kRc_s hb17
                obtain ⟨w18, h19, hf⟩ := kbind hf
                refine kcallV (n := 1) [.int v8] [] [] (rX10_append l D aC h19) hrb17 hkb17 F hml hX hZ hl.1 mwX10_append wmX10_42 rfl (by decide) (by decide +kernel) ⟨(by decide), (by decide)⟩ rfl rfl rfl (Nat.le_of_ble_eq_true rfl) (kd dtX10_endPart_0 40 rfl) ⟨Nat.zero_le _, Nat.zero_le _⟩ (fun H locs hX => ?_)
                refine lv_aload_n hx hb (kd dtX10_endPart_0 41 rfl) rfl (lv_at hl 1 rfl) ?_
                refine lv_dup hx hb (kd dtX10_endPart_0 42 rfl) rfl ?_
                obtain ⟨v20, hv20, hf⟩ := kbind hf
                refine kgetI hv20 F hX hinX10 rfl rfl rfl (by decide) (by decide) wfX10_23 (kd dtX10_endPart_0 43 rfl) ?_
                refine lv_iconst (v := (1 : Int32)) hx hb (kd dtX10_endPart_0 44 rfl) (by decide) ?_
                refine lv_isub hx hb (kd dtX10_endPart_0 45 rfl) ?_
                obtain ⟨w21, hw21, hf⟩ := kbind hf
                refine kputI hw21 F hX hinX10 tyX10_ok nmX10 rfl rfl rfl (by decide) (by decide) wfX10_23 rfl rfl (Or.inl rfl) (kd dtX10_endPart_0 46 rfl) (fun H locs hX => ?_)
                refine lv_goto (tgt := 0) hx hb (kd dtX10_endPart_0 47 rfl) (by decide) ?_
                exact ih w21 _ _ _ hX (lv_sub hl [1] rfl) hf hk
            · have hf := kif_pos hc hf
              refine lv_aload_n hx hb (kd dtX10_endPart_0 23 rfl) rfl (lv_at hl 1 rfl) ?_
              refine lv_iload_n hx hb (kd dtX10_endPart_0 24 rfl) rfl (lv_at hl 0 rfl) ?_
              obtain ⟨b22, hb22, hf⟩ := kbind hf
              obtain ⟨hrb22, hkb22⟩ := kRc_s hb22
              obtain ⟨w23, h24, hf⟩ := kbind hf
              refine kcallV (n := 1) [.int v8] [] [] (rX10_append l D aC h24) hrb22 hkb22 F hml hX hZ hl.1 mwX10_append wmX10_42 rfl (by decide) (by decide +kernel) ⟨(by decide), (by decide)⟩ rfl rfl rfl (Nat.le_of_ble_eq_true rfl) (kd dtX10_endPart_0 25 rfl) ⟨Nat.zero_le _, Nat.zero_le _⟩ (fun H locs hX => ?_)
              refine lv_aload_n hx hb (kd dtX10_endPart_0 26 rfl) rfl (lv_at hl 1 rfl) ?_
              obtain ⟨v25, hv25, hf⟩ := kbind hf
              refine kgetP hv25 F hX hinX10 rfl rfl rfl (by decide) (by decide) wfX10_15 (kd dtX10_endPart_0 27 rfl) ?_
              refine lv_aload_n hx hb (kd dtX10_endPart_0 28 rfl) rfl (lv_at hl 1 rfl) ?_
              obtain ⟨v26, hv26, hf⟩ := kbind hf
              refine kgetI hv26 F hX hinX10 rfl rfl rfl (by decide) (by decide) wfX10_23 (kd dtX10_endPart_0 29 rfl) ?_
              refine lv_iconst (v := (1 : Int32)) hx hb (kd dtX10_endPart_0 30 rfl) (by decide) ?_
              refine lv_isub hx hb (kd dtX10_endPart_0 31 rfl) ?_
              refine lv_bipush (v := (41 : Int32)) hx hb (kd dtX10_endPart_0 32 rfl) (by decide) ?_
              obtain ⟨w27, hw27, hf⟩ := kbind hf
              refine kast hw27 F hX (kd dtX10_endPart_0 33 rfl) (fun H locs hX => ?_)
              cases hf
              exact kvret F hX hr hlocks rfl (kd dtX10_endPart_0 34 rfl)
  refine hL0 kFU _ w _ _ _ hX hl hf ?_
  intro w1 H locs ls hX hl hf
  cases hf
  exact kvret F hX hr hlocks rfl (kd dtX10_endPart_0 48 rfl)
def lX10_open_0 : List (Nat × Instr × Nat) := [(0, .aload_n 0, 1), (1, .getfield 23, 3), (4, .aload_n 0, 1), (5, .getfield 15, 3), (8, .arraylength, 1), (9, .if_icmp .ge 23, 3), (12, .aload_n 0, 1), (13, .getfield 15, 3), (16, .aload_n 0, 1), (17, .getfield 23, 3), (20, .iload_n 1, 1), (21, .iastore, 1), (22, .aload_n 0, 1), (23, .dup, 1), (24, .getfield 23, 3), (27, .iconst 1, 1), (28, .iadd, 1), (29, .putfield 23, 3), (32, .return_, 1)]
theorem dtX10_open_0 : kDec cX10_open lX10_open_0 = true := by decide +kernel
noncomputable def fX10_open (x0 : Nat) (x1 : Int32) (w : kW) : Option kW :=
  (kgI w 10 (some x0) 3).bind fun v1 =>
  (kgP w 10 (some x0) 1).bind fun v2 =>
  (kal w 14 v2).bind fun v3 =>
  if v3 ≤ v1 then
  some w
  else
  (kgP w 10 (some x0) 1).bind fun v4 =>
  (kgI w 10 (some x0) 3).bind fun v5 =>
  (ksI w 14 v4 v5 x1).bind fun w6 =>
  (kgI w6 10 (some x0) 3).bind fun v7 =>
  (kpI w6 10 (some x0) 3 (v7 + (1 : Int32))).bind fun w8 =>
  some w8

set_option maxHeartbeats 4000000 in
set_option maxRecDepth 100000 in
theorem rX10_open (l : Launch) (D : va_G) (aC : Nat → ClassId) {x0 : Nat} {x1 : Int32} {w : kW} {wR : kW} (h : fX10_open x0 x1 w = some wR) : kC l D aC yX10_open cX10_open 2 none 1 12 [.ref x0, .int x1] w none wR 0 0 := by
  refine kOf (own := RX10) (by decide) rfl (Nat.le_of_ble_eq_true rfl) ?_
  intro p e s m below meth c ls F hml hr hlocks hnm hX hZ hl
  obtain ⟨hx, hb, hts, hown, hK⟩ := id F
  have hl : lv_has ls 2 [(0, .ref x0), (1, .int x1)] := hl
  have hf := h
  rw [fX10_open] at hf
  refine lv_aload_n hx hb (kd dtX10_open_0 0 rfl) rfl (lv_at hl 0 rfl) ?_
  obtain ⟨v1, hv1, hf⟩ := kbind hf
  refine kgetI hv1 F hX hinX10 rfl rfl rfl (by decide) (by decide) wfX10_23 (kd dtX10_open_0 1 rfl) ?_
  refine lv_aload_n hx hb (kd dtX10_open_0 2 rfl) rfl (lv_at hl 0 rfl) ?_
  obtain ⟨v2, hv2, hf⟩ := kbind hf
  refine kgetP hv2 F hX hinX10 rfl rfl rfl (by decide) (by decide) wfX10_15 (kd dtX10_open_0 3 rfl) ?_
  obtain ⟨v3, hv3, hf⟩ := kbind hf
  refine kalen hv3 (by decide) (by decide) F hX (kd dtX10_open_0 4 rfl) ?_
  refine lv_icmp_ge (tgt := 32) hx hb (kd dtX10_open_0 5 rfl) (by decide) (fun hc => ?_) (fun hc => ?_)
  · have hf := kif_pos hc hf
    cases hf
    exact kvret F hX hr hlocks rfl (kd dtX10_open_0 18 rfl)
  · have hf := kif_neg hc hf
    refine lv_aload_n hx hb (kd dtX10_open_0 6 rfl) rfl (lv_at hl 0 rfl) ?_
    obtain ⟨v4, hv4, hf⟩ := kbind hf
    refine kgetP hv4 F hX hinX10 rfl rfl rfl (by decide) (by decide) wfX10_15 (kd dtX10_open_0 7 rfl) ?_
    refine lv_aload_n hx hb (kd dtX10_open_0 8 rfl) rfl (lv_at hl 0 rfl) ?_
    obtain ⟨v5, hv5, hf⟩ := kbind hf
    refine kgetI hv5 F hX hinX10 rfl rfl rfl (by decide) (by decide) wfX10_23 (kd dtX10_open_0 9 rfl) ?_
    refine lv_iload_n hx hb (kd dtX10_open_0 10 rfl) rfl (lv_at hl 1 rfl) ?_
    obtain ⟨w6, hw6, hf⟩ := kbind hf
    refine kast hw6 F hX (kd dtX10_open_0 11 rfl) (fun H locs hX => ?_)
    refine lv_aload_n hx hb (kd dtX10_open_0 12 rfl) rfl (lv_at hl 0 rfl) ?_
    refine lv_dup hx hb (kd dtX10_open_0 13 rfl) rfl ?_
    obtain ⟨v7, hv7, hf⟩ := kbind hf
    refine kgetI hv7 F hX hinX10 rfl rfl rfl (by decide) (by decide) wfX10_23 (kd dtX10_open_0 14 rfl) ?_
    refine lv_iconst (v := (1 : Int32)) hx hb (kd dtX10_open_0 15 rfl) (by decide) ?_
    refine lv_iadd hx hb (kd dtX10_open_0 16 rfl) ?_
    obtain ⟨w8, hw8, hf⟩ := kbind hf
    refine kputI hw8 F hX hinX10 tyX10_ok nmX10 rfl rfl rfl (by decide) (by decide) wfX10_23 rfl rfl (Or.inl rfl) (kd dtX10_open_0 17 rfl) (fun H locs hX => ?_)
    cases hf
    exact kvret F hX hr hlocks rfl (kd dtX10_open_0 18 rfl)
theorem wmX10_39 : Cond.methodLinkNest RX10 39 yX11_letterOf "KitchenCards" ∈ kNs := kNm 665 (by decide +kernel) rfl
theorem wmX10_48 : Cond.methodLink RX10 48 yX10_open ∈ kT := kTm 674 (by decide +kernel) rfl
theorem mwX10_open : kMV RX10 yX10_open cX10_open 2 none := ⟨kTm 677 (by decide +kernel) rfl, kTm 99 (by decide +kernel) rfl, kTm 676 (by decide +kernel) rfl, kTm 11 (by decide +kernel) rfl⟩
theorem wmX10_45 : Cond.methodLink RX10 45 yX10_endPart ∈ kT := kTm 670 (by decide +kernel) rfl
theorem mwX10_endPart : kMV RX10 yX10_endPart cX10_endPart 2 none := ⟨kTm 673 (by decide +kernel) rfl, kTm 99 (by decide +kernel) rfl, kTm 672 (by decide +kernel) rfl, kTm 10 (by decide +kernel) rfl⟩
def lX10_write_0 : List (Nat × Instr × Nat) := [(0, .iload_n 1, 1), (1, .invokestatic 39, 3), (4, .ifCond .lt 15, 3), (7, .aload_n 0, 1), (8, .iload_n 1, 1), (9, .invokevirtual 42, 3), (12, .aload_n 0, 1), (13, .invokevirtual 45, 3), (16, .goto 24, 3), (19, .aload_n 0, 1), (20, .iload_n 1, 1), (21, .bipush 126, 2), (23, .if_icmp .ne 7, 3), (26, .iload_n 1, 1), (27, .goto 5, 3), (30, .bipush 40, 2), (32, .invokevirtual 42, 3), (35, .aload_n 0, 1), (36, .iload_n 1, 1), (37, .invokevirtual 48, 3), (40, .return_, 1)]
theorem dtX10_write_0 : kDec cX10_write lX10_write_0 = true := by decide +kernel
noncomputable def fX10_write (x0 : Nat) (x1 : Int32) (w : kW) : Option kW :=
  (fX11_letterOf x1).bind fun v2 =>
  if v2 < 0 then
  if x1 = (126 : Int32) then
  (kRc w 10 (some x0)).bind fun b9 =>
  (fX10_append b9 x1 w).bind fun w10 =>
  (kRc w10 10 (some x0)).bind fun b12 =>
  (fX10_open b12 x1 w10).bind fun w13 =>
  some w13
  else
  (kRc w 10 (some x0)).bind fun b3 =>
  (fX10_append b3 (40 : Int32) w).bind fun w4 =>
  (kRc w4 10 (some x0)).bind fun b6 =>
  (fX10_open b6 x1 w4).bind fun w7 =>
  some w7
  else
  (kRc w 10 (some x0)).bind fun b15 =>
  (fX10_append b15 x1 w).bind fun w16 =>
  (kRc w16 10 (some x0)).bind fun b18 =>
  (fX10_endPart b18 w16).bind fun w19 =>
  some w19

set_option maxHeartbeats 4000000 in
set_option maxRecDepth 100000 in
theorem rX10_write (l : Launch) (D : va_G) (aC : Nat → ClassId) {x0 : Nat} {x1 : Int32} {w : kW} {wR : kW} (h : fX10_write x0 x1 w = some wR) : kC l D aC yX10_write cX10_write 2 none 3 54 [.ref x0, .int x1] w none wR 0 0 := by
  refine kOf (own := RX10) (by decide) rfl (Nat.le_of_ble_eq_true rfl) ?_
  intro p e s m below meth c ls F hml hr hlocks hnm hX hZ hl
  obtain ⟨hx, hb, hts, hown, hK⟩ := id F
  have hl : lv_has ls 2 [(0, .ref x0), (1, .int x1)] := hl
  have hf := h
  rw [fX10_write] at hf
  refine lv_iload_n hx hb (kd dtX10_write_0 0 rfl) rfl (lv_at hl 1 rfl) ?_
  obtain ⟨v2, h1, hf⟩ := kbind hf
  refine kcallSN (n := 1) [.int x1] [] [.int v2] (rX11_letterOf l D aC w h1) F hml hX hZ hl.1 mwX11_letterOf wmX10_39 (by decide +kernel) ⟨(by decide), (by decide)⟩ rfl rfl rfl (Nat.le_of_ble_eq_true rfl) (kd dtX10_write_0 1 rfl) ⟨Nat.zero_le _, Nat.zero_le _⟩ (fun H locs hX => ?_)
  refine lv_if_lt (tgt := 19) hx hb (kd dtX10_write_0 2 rfl) (by decide) (fun hc => ?_) (fun hc => ?_)
  · have hf := kif_pos hc hf
    refine lv_aload_n hx hb (kd dtX10_write_0 9 rfl) rfl (lv_at hl 0 rfl) ?_
    refine lv_iload_n hx hb (kd dtX10_write_0 10 rfl) rfl (lv_at hl 1 rfl) ?_
    refine lv_bipush (v := (126 : Int32)) hx hb (kd dtX10_write_0 11 rfl) (by decide) ?_
    refine lv_icmp_ne (tgt := 30) hx hb (kd dtX10_write_0 12 rfl) (by decide) (fun hc => ?_) (fun hc => ?_)
    · have hf := kif_neg hc hf
      refine lv_bipush (v := (40 : Int32)) hx hb (kd dtX10_write_0 15 rfl) (by decide) ?_
      obtain ⟨b3, hb3, hf⟩ := kbind hf
      obtain ⟨hrb3, hkb3⟩ := kRc_s hb3
      obtain ⟨w4, h5, hf⟩ := kbind hf
      refine kcallV (n := 1) [.int (40 : Int32)] [] [] (rX10_append l D aC h5) hrb3 hkb3 F hml hX hZ hl.1 mwX10_append wmX10_42 rfl (by decide) (by decide +kernel) ⟨(by decide), (by decide)⟩ rfl rfl rfl (Nat.le_of_ble_eq_true rfl) (kd dtX10_write_0 16 rfl) ⟨Nat.zero_le _, Nat.zero_le _⟩ (fun H locs hX => ?_)
      refine lv_aload_n hx hb (kd dtX10_write_0 17 rfl) rfl (lv_at hl 0 rfl) ?_
      refine lv_iload_n hx hb (kd dtX10_write_0 18 rfl) rfl (lv_at hl 1 rfl) ?_
      obtain ⟨b6, hb6, hf⟩ := kbind hf
      obtain ⟨hrb6, hkb6⟩ := kRc_s hb6
      obtain ⟨w7, h8, hf⟩ := kbind hf
      refine kcallV (n := 1) [.int x1] [] [] (rX10_open l D aC h8) hrb6 hkb6 F hml hX hZ hl.1 mwX10_open wmX10_48 rfl (by decide) (by decide +kernel) ⟨(by decide), (by decide)⟩ rfl rfl rfl (Nat.le_of_ble_eq_true rfl) (kd dtX10_write_0 19 rfl) ⟨Nat.zero_le _, Nat.zero_le _⟩ (fun H locs hX => ?_)
      cases hf
      exact kvret F hX hr hlocks rfl (kd dtX10_write_0 20 rfl)
    · have hf := kif_pos hc hf
      refine lv_iload_n hx hb (kd dtX10_write_0 13 rfl) rfl (lv_at hl 1 rfl) ?_
      refine lv_goto (tgt := 32) hx hb (kd dtX10_write_0 14 rfl) (by decide) ?_
      obtain ⟨b9, hb9, hf⟩ := kbind hf
      obtain ⟨hrb9, hkb9⟩ := kRc_s hb9
      obtain ⟨w10, h11, hf⟩ := kbind hf
      refine kcallV (n := 1) [.int x1] [] [] (rX10_append l D aC h11) hrb9 hkb9 F hml hX hZ hl.1 mwX10_append wmX10_42 rfl (by decide) (by decide +kernel) ⟨(by decide), (by decide)⟩ rfl rfl rfl (Nat.le_of_ble_eq_true rfl) (kd dtX10_write_0 16 rfl) ⟨Nat.zero_le _, Nat.zero_le _⟩ (fun H locs hX => ?_)
      refine lv_aload_n hx hb (kd dtX10_write_0 17 rfl) rfl (lv_at hl 0 rfl) ?_
      refine lv_iload_n hx hb (kd dtX10_write_0 18 rfl) rfl (lv_at hl 1 rfl) ?_
      obtain ⟨b12, hb12, hf⟩ := kbind hf
      obtain ⟨hrb12, hkb12⟩ := kRc_s hb12
      obtain ⟨w13, h14, hf⟩ := kbind hf
      refine kcallV (n := 1) [.int x1] [] [] (rX10_open l D aC h14) hrb12 hkb12 F hml hX hZ hl.1 mwX10_open wmX10_48 rfl (by decide) (by decide +kernel) ⟨(by decide), (by decide)⟩ rfl rfl rfl (Nat.le_of_ble_eq_true rfl) (kd dtX10_write_0 19 rfl) ⟨Nat.zero_le _, Nat.zero_le _⟩ (fun H locs hX => ?_)
      cases hf
      exact kvret F hX hr hlocks rfl (kd dtX10_write_0 20 rfl)
  · have hf := kif_neg hc hf
    refine lv_aload_n hx hb (kd dtX10_write_0 3 rfl) rfl (lv_at hl 0 rfl) ?_
    refine lv_iload_n hx hb (kd dtX10_write_0 4 rfl) rfl (lv_at hl 1 rfl) ?_
    obtain ⟨b15, hb15, hf⟩ := kbind hf
    obtain ⟨hrb15, hkb15⟩ := kRc_s hb15
    obtain ⟨w16, h17, hf⟩ := kbind hf
    refine kcallV (n := 1) [.int x1] [] [] (rX10_append l D aC h17) hrb15 hkb15 F hml hX hZ hl.1 mwX10_append wmX10_42 rfl (by decide) (by decide +kernel) ⟨(by decide), (by decide)⟩ rfl rfl rfl (Nat.le_of_ble_eq_true rfl) (kd dtX10_write_0 5 rfl) ⟨Nat.zero_le _, Nat.zero_le _⟩ (fun H locs hX => ?_)
    refine lv_aload_n hx hb (kd dtX10_write_0 6 rfl) rfl (lv_at hl 0 rfl) ?_
    obtain ⟨b18, hb18, hf⟩ := kbind hf
    obtain ⟨hrb18, hkb18⟩ := kRc_s hb18
    obtain ⟨w19, h20, hf⟩ := kbind hf
    refine kcallV (n := 0) [] [] [] (rX10_endPart l D aC h20) hrb18 hkb18 F hml hX hZ hl.1 mwX10_endPart wmX10_45 rfl (by decide) (by decide +kernel) ⟨(by decide), (by decide)⟩ rfl rfl rfl (Nat.le_of_ble_eq_true rfl) (kd dtX10_write_0 7 rfl) ⟨Nat.zero_le _, Nat.zero_le _⟩ (fun H locs hX => ?_)
    refine lv_goto (tgt := 40) hx hb (kd dtX10_write_0 8 rfl) (by decide) ?_
    cases hf
    exact kvret F hX hr hlocks rfl (kd dtX10_write_0 20 rfl)
theorem wmX10_26 : Cond.methodLink RX10 26 yX1_endAt ∈ kT := kTm 659 (by decide +kernel) rfl
theorem wmX10_32 : Cond.methodLink RX10 32 yX1_at ∈ kT := kTm 660 (by decide +kernel) rfl
theorem wmX10_35 : Cond.methodLink RX10 35 yX10_write ∈ kT := kTm 661 (by decide +kernel) rfl
theorem mwX10_write : kMV RX10 yX10_write cX10_write 2 none := ⟨kTm 664 (by decide +kernel) rfl, kTm 99 (by decide +kernel) rfl, kTm 663 (by decide +kernel) rfl, kTm 8 (by decide +kernel) rfl⟩
def lX10_byteOf_0 : List (Nat × Instr × Nat) := [(0, .aload_n 0, 1), (1, .iconst 0, 1), (2, .putfield 19, 3), (5, .aload_n 0, 1), (6, .iconst 0, 1), (7, .putfield 23, 3), (10, .aload_n 1, 1), (11, .iload_n 2, 1), (12, .invokevirtual 26, 3), (15, .istore 4, 2), (17, .iload_n 2, 1), (18, .istore 5, 2), (20, .iload 5, 2), (22, .iload 4, 2), (24, .if_icmp .ge 19, 3), (27, .aload_n 0, 1), (28, .aload_n 1, 1), (29, .iload 5, 2), (31, .invokevirtual 32, 3), (34, .invokevirtual 35, 3), (37, .iinc 5 1, 3), (40, .goto (-20), 3), (43, .iload_n 3, 1), (44, .ifCond .lt 29, 3), (47, .iload_n 3, 1), (48, .aload_n 0, 1), (49, .getfield 19, 3), (52, .if_icmp .ge 21, 3), (55, .iload_n 3, 1), (56, .aload_n 0, 1), (57, .getfield 9, 3), (60, .arraylength, 1), (61, .if_icmp .ge 12, 3), (64, .aload_n 0, 1), (65, .getfield 9, 3), (68, .iload_n 3, 1), (69, .baload, 1), (70, .goto 5, 3), (73, .bipush (-4), 2), (75, .ireturn, 1)]
theorem dtX10_byteOf_0 : kDec cX10_byteOf lX10_byteOf_0 = true := by decide +kernel
noncomputable def fX10_byteOf_L20 (x0 : Nat) (x1 : Option Nat) (x2 : Int32) (x3 : Int32) (x4 : Int32) : Nat → (Int32 → kW → Option (Int32 × kW)) → Int32 → kW → Option (Int32 × kW)
  | 0, _, _, _ => none
  | n + 1, k, x5, w =>
  if x4 ≤ x5 then
  k x5 w
  else
  (kRc w 1 x1).bind fun b1 =>
  (fX1_at b1 x5 w).bind fun v3 =>
  (kRc w 10 (some x0)).bind fun b4 =>
  (fX10_write b4 v3 w).bind fun w5 =>
  fX10_byteOf_L20 x0 x1 x2 x3 x4 n k (x5 + (1 : Int32)) w5

noncomputable def fX10_byteOf (x0 : Nat) (x1 : Option Nat) (x2 : Int32) (x3 : Int32) (w : kW) : Option (Int32 × kW) :=
  (kpI w 10 (some x0) 2 (0 : Int32)).bind fun w1 =>
  (kpI w1 10 (some x0) 3 (0 : Int32)).bind fun w2 =>
  (kRc w2 1 x1).bind fun b3 =>
  (fX1_endAt b3 x2 w2).bind fun v5 =>
  fX10_byteOf_L20 x0 x1 x2 x3 v5 kFU (fun y5_6 w7 => if x3 < 0 then
  some ((-4 : Int32), w7)
  else
  (kgI w7 10 (some x0) 2).bind fun v8 =>
  if v8 ≤ x3 then
  some ((-4 : Int32), w7)
  else
  (kgP w7 10 (some x0) 0).bind fun v9 =>
  (kal w7 13 v9).bind fun v10 =>
  if v10 ≤ x3 then
  some ((-4 : Int32), w7)
  else
  (kgP w7 10 (some x0) 0).bind fun v11 =>
  (kaI w7 13 v11 x3).bind fun v12 =>
  some (v12, w7)) x2 w2

set_option maxHeartbeats 4000000 in
set_option maxRecDepth 100000 in
theorem rX10_byteOf (l : Launch) (D : va_G) (aC : Nat → ClassId) {x0 : Nat} {x1 : Option Nat} {x2 : Int32} {x3 : Int32} {w : kW} {wR : kW} {oR : Int32} (h : fX10_byteOf x0 x1 x2 x3 w = some (oR, wR)) : kC l D aC yX10_byteOf cX10_byteOf 6 (some .int) 4 75 [.ref x0, va_rf x1, .int x2, .int x3] w (some (.int oR)) wR 0 0 := by
  refine kOf (own := RX10) (by decide) rfl (by simp [lg_sl, kcat_rf, kcat_i, kcat_r, kcat_l]) ?_
  intro p e s m below meth c ls F hml hr hlocks hnm hX hZ hl
  obtain ⟨hx, hb, hts, hown, hK⟩ := id F
  have hl : lv_has ls 6 [(0, .ref x0), (1, va_rf x1), (2, .int x2), (3, .int x3)] := by simpa [lv_args, kcat_rf, kcat_i, kcat_r, kcat_l] using hl
  have hf := h
  rw [fX10_byteOf] at hf
  refine lv_aload_n hx hb (kd dtX10_byteOf_0 0 rfl) rfl (lv_at hl 0 rfl) ?_
  refine lv_iconst (v := (0 : Int32)) hx hb (kd dtX10_byteOf_0 1 rfl) (by decide) ?_
  obtain ⟨w1, hw1, hf⟩ := kbind hf
  refine kputI hw1 F hX hinX10 tyX10_ok nmX10 rfl rfl rfl (by decide) (by decide) wfX10_19 rfl rfl (Or.inl rfl) (kd dtX10_byteOf_0 2 rfl) (fun H locs hX => ?_)
  refine lv_aload_n hx hb (kd dtX10_byteOf_0 3 rfl) rfl (lv_at hl 0 rfl) ?_
  refine lv_iconst (v := (0 : Int32)) hx hb (kd dtX10_byteOf_0 4 rfl) (by decide) ?_
  obtain ⟨w2, hw2, hf⟩ := kbind hf
  refine kputI hw2 F hX hinX10 tyX10_ok nmX10 rfl rfl rfl (by decide) (by decide) wfX10_23 rfl rfl (Or.inl rfl) (kd dtX10_byteOf_0 5 rfl) (fun H locs hX => ?_)
  refine kaload_n hx hb (kd dtX10_byteOf_0 6 rfl) rfl (lv_at hl 1 rfl) ?_
  refine lv_iload_n hx hb (kd dtX10_byteOf_0 7 rfl) rfl (lv_at hl 2 rfl) ?_
  obtain ⟨b3, hb3, hf⟩ := kbind hf
  obtain ⟨hrb3, hkb3⟩ := kRc_s hb3
  obtain ⟨v5, h4, hf⟩ := kbind hf
  refine kcallV (n := 1) [.int x2] [] [.int v5] (rX1_endAt l D aC h4) hrb3 hkb3 F hml hX hZ hl.1 mwX1_endAt wmX10_26 rfl (by decide) (by decide +kernel) ⟨(by decide), (by decide)⟩ rfl rfl rfl (Nat.le_of_ble_eq_true rfl) (kd dtX10_byteOf_0 8 rfl) ⟨Nat.zero_le _, Nat.zero_le _⟩ (fun H locs hX => ?_)
  refine lv_istore (lv' := [(4, .int v5), (0, .ref x0), (1, va_rf x1), (2, .int x2), (3, .int x3)]) hx hb (kd dtX10_byteOf_0 9 rfl) hl (by decide) rfl (fun ls hl => ?_)
  refine lv_iload_n hx hb (kd dtX10_byteOf_0 10 rfl) rfl (lv_at hl 3 rfl) ?_
  refine lv_istore (lv' := [(5, .int x2), (4, .int v5), (0, .ref x0), (1, va_rf x1), (2, .int x2), (3, .int x3)]) hx hb (kd dtX10_byteOf_0 11 rfl) hl (by decide) rfl (fun ls hl => ?_)
  have hL20 : ∀ (n : Nat) (k : Int32 → kW → Option (Int32 × kW)), ∀ (z5_20 : Int32) (w_20 : kW) (H : Heap) (locs : List Loc) (ls : Array Slot), kX D aC w s.heap w_20 H locs → lv_has ls 6 [(0, .ref x0), (1, va_rf x1), (2, .int x2), (3, .int x3), (4, .int v5), (5, .int z5_20)] → fX10_byteOf_L20 x0 x1 x2 x3 v5 n k z5_20 w_20 = some (oR, wR) → (∀ (z5_20 : Int32) (w_20 : kW) (H : Heap) (locs : List Loc) (ls : Array Slot), kX D aC w s.heap w_20 H locs → lv_has ls 6 [(0, .ref x0), (1, va_rf x1), (2, .int x2), (3, .int x3), (4, .int v5), (5, .int z5_20)] → k z5_20 w_20 = some (oR, wR) → W p l e { frames := 4, cells := 0, slots := 0, locals := 75 } s m ([.ref x0, va_rf x1, .int x2, .int x3] : List Value).toArray below meth c H locs 0 0 (MQ below (kQc D aC w (some (.int oR)) wR) ([.ref x0, va_rf x1, .int x2, .int x3] : List Value).toArray s 0 0 (kA w)) (F0 m 43 ls [])) → W p l e { frames := 4, cells := 0, slots := 0, locals := 75 } s m ([.ref x0, va_rf x1, .int x2, .int x3] : List Value).toArray below meth c H locs 0 0 (MQ below (kQc D aC w (some (.int oR)) wR) ([.ref x0, va_rf x1, .int x2, .int x3] : List Value).toArray s 0 0 (kA w)) (F0 m 20 ls []) := by
    intro n k
    induction n with
    | zero =>
      intro z5_20 w_20 H locs ls hX hl hf hk
      rw [fX10_byteOf_L20] at hf
      cases hf
    | succ n ih =>
      intro z5_20 w_20 H locs ls hX hl hf hk
      rw [fX10_byteOf_L20] at hf
      refine lv_iload hx hb (kd dtX10_byteOf_0 12 rfl) (lv_at hl 5 rfl) ?_
      refine lv_iload hx hb (kd dtX10_byteOf_0 13 rfl) (lv_at hl 4 rfl) ?_
      refine lv_icmp_ge (tgt := 43) hx hb (kd dtX10_byteOf_0 14 rfl) (by decide) (fun hc => ?_) (fun hc => ?_)
      · have hf := kif_pos hc hf
        exact hk z5_20 w_20 _ _ _ hX hl hf
      · have hf := kif_neg hc hf
        refine lv_aload_n hx hb (kd dtX10_byteOf_0 15 rfl) rfl (lv_at hl 0 rfl) ?_
        refine kaload_n hx hb (kd dtX10_byteOf_0 16 rfl) rfl (lv_at hl 1 rfl) ?_
        refine lv_iload hx hb (kd dtX10_byteOf_0 17 rfl) (lv_at hl 5 rfl) ?_
        obtain ⟨b13, hb13, hf⟩ := kbind hf
        obtain ⟨hrb13, hkb13⟩ := kRc_s hb13
        obtain ⟨v15, h14, hf⟩ := kbind hf
        refine kcallV (n := 1) [.int z5_20] [.ref x0] [.int v15, .ref x0] (rX1_at l D aC h14) hrb13 hkb13 F hml hX hZ hl.1 mwX1_at wmX10_32 rfl (by decide) (by decide +kernel) ⟨(by decide), (by decide)⟩ rfl rfl rfl (Nat.le_of_ble_eq_true rfl) (kd dtX10_byteOf_0 18 rfl) ⟨Nat.zero_le _, Nat.zero_le _⟩ (fun H locs hX => ?_)
        obtain ⟨b16, hb16, hf⟩ := kbind hf
        obtain ⟨hrb16, hkb16⟩ := kRc_s hb16
        obtain ⟨w17, h18, hf⟩ := kbind hf
        refine kcallV (n := 1) [.int v15] [] [] (rX10_write l D aC h18) hrb16 hkb16 F hml hX hZ hl.1 mwX10_write wmX10_35 rfl (by decide) (by decide +kernel) ⟨(by decide), (by decide)⟩ rfl rfl rfl (Nat.le_of_ble_eq_true rfl) (kd dtX10_byteOf_0 19 rfl) ⟨Nat.zero_le _, Nat.zero_le _⟩ (fun H locs hX => ?_)
        refine lv_iinc (v := z5_20 + (1 : Int32)) (lv' := [(5, .int (z5_20 + (1 : Int32))), (0, .ref x0), (1, va_rf x1), (2, .int x2), (3, .int x3), (4, .int v5)]) hx hb (kd dtX10_byteOf_0 20 rfl) hl (k := 5) rfl (by rfl) (by decide) rfl (fun ls hl => ?_)
        refine lv_goto (tgt := 20) hx hb (kd dtX10_byteOf_0 21 rfl) (by decide) ?_
        exact ih (z5_20 + (1 : Int32)) w17 _ _ _ hX (lv_sub hl [1, 2, 3, 4, 5, 0] rfl) hf hk
  refine hL20 kFU _ x2 w2 _ _ _ hX (lv_sub hl [2, 3, 4, 5, 1, 0] rfl) hf ?_
  intro y5_6 w7 H locs ls hX hl hf
  refine lv_iload_n hx hb (kd dtX10_byteOf_0 22 rfl) rfl (lv_at hl 3 rfl) ?_
  refine lv_if_lt (tgt := 73) hx hb (kd dtX10_byteOf_0 23 rfl) (by decide) (fun hc => ?_) (fun hc => ?_)
  · have hf := kif_pos hc hf
    refine lv_bipush (v := (-4 : Int32)) hx hb (kd dtX10_byteOf_0 38 rfl) (by decide) ?_
    cases hf
    exact kiret F hX hr hlocks rfl (kd dtX10_byteOf_0 39 rfl)
  · have hf := kif_neg hc hf
    refine lv_iload_n hx hb (kd dtX10_byteOf_0 24 rfl) rfl (lv_at hl 3 rfl) ?_
    refine lv_aload_n hx hb (kd dtX10_byteOf_0 25 rfl) rfl (lv_at hl 0 rfl) ?_
    obtain ⟨v8, hv8, hf⟩ := kbind hf
    refine kgetI hv8 F hX hinX10 rfl rfl rfl (by decide) (by decide) wfX10_19 (kd dtX10_byteOf_0 26 rfl) ?_
    refine lv_icmp_ge (tgt := 73) hx hb (kd dtX10_byteOf_0 27 rfl) (by decide) (fun hc => ?_) (fun hc => ?_)
    · have hf := kif_pos hc hf
      refine lv_bipush (v := (-4 : Int32)) hx hb (kd dtX10_byteOf_0 38 rfl) (by decide) ?_
      cases hf
      exact kiret F hX hr hlocks rfl (kd dtX10_byteOf_0 39 rfl)
    · have hf := kif_neg hc hf
      refine lv_iload_n hx hb (kd dtX10_byteOf_0 28 rfl) rfl (lv_at hl 3 rfl) ?_
      refine lv_aload_n hx hb (kd dtX10_byteOf_0 29 rfl) rfl (lv_at hl 0 rfl) ?_
      obtain ⟨v9, hv9, hf⟩ := kbind hf
      refine kgetP hv9 F hX hinX10 rfl rfl rfl (by decide) (by decide) wfX10_9 (kd dtX10_byteOf_0 30 rfl) ?_
      obtain ⟨v10, hv10, hf⟩ := kbind hf
      refine kalen hv10 (by decide) (by decide) F hX (kd dtX10_byteOf_0 31 rfl) ?_
      refine lv_icmp_ge (tgt := 73) hx hb (kd dtX10_byteOf_0 32 rfl) (by decide) (fun hc => ?_) (fun hc => ?_)
      · have hf := kif_pos hc hf
        refine lv_bipush (v := (-4 : Int32)) hx hb (kd dtX10_byteOf_0 38 rfl) (by decide) ?_
        cases hf
        exact kiret F hX hr hlocks rfl (kd dtX10_byteOf_0 39 rfl)
      · have hf := kif_neg hc hf
        refine lv_aload_n hx hb (kd dtX10_byteOf_0 33 rfl) rfl (lv_at hl 0 rfl) ?_
        obtain ⟨v11, hv11, hf⟩ := kbind hf
        refine kgetP hv11 F hX hinX10 rfl rfl rfl (by decide) (by decide) wfX10_9 (kd dtX10_byteOf_0 34 rfl) ?_
        refine lv_iload_n hx hb (kd dtX10_byteOf_0 35 rfl) rfl (lv_at hl 3 rfl) ?_
        obtain ⟨v12, hv12, hf⟩ := kbind hf
        refine kbld hv12 F hX (kd dtX10_byteOf_0 36 rfl) ?_
        refine lv_goto (tgt := 75) hx hb (kd dtX10_byteOf_0 37 rfl) (by decide) ?_
        cases hf
        exact kiret F hX hr hlocks rfl (kd dtX10_byteOf_0 39 rfl)
