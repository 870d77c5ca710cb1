theorem wmX2_3 : Cond.methodLink RX2 3 objectInit ∈ kT := kTm 178 (by decide +kernel) rfl
theorem wkX2_9 : Cond.classLink RX2 9 RX1 ∈ kT := kTm 179 (by decide +kernel) rfl
theorem wnX1 : Cond.instantiable RX1 8 ∈ kT := kTm 180 (by decide +kernel) rfl
theorem wiX1 : Cond.initialized RX1 ∈ kT := kTm 97 (by decide +kernel) rfl
theorem wmX2_11 : Cond.methodLink RX2 11 yX1_init ∈ kT := kTm 181 (by decide +kernel) rfl
theorem mwX1_init : kMI yX1_init cX1_init 3 := ⟨kTm 183 (by decide +kernel) rfl, kTm 97 (by decide +kernel) rfl, kTm 182 (by decide +kernel) rfl⟩
theorem wfX2_14 : Cond.fieldLink RX2 14 (TX2 0).1 (TX2 0).2.1 (TX2 0).2.2.1 ∈ kT := kTm 223 (by decide +kernel) rfl
theorem wfX2_20 : Cond.fieldLink RX2 20 (TX2 1).1 (TX2 1).2.1 (TX2 1).2.2.1 ∈ kT := kTm 224 (by decide +kernel) rfl
theorem wA15 : Cond.arrayClass (newarray.typeOf .long) ∈ kT := kTm 239 (by decide +kernel) rfl
theorem wfX2_24 : Cond.fieldLink RX2 24 (TX2 2).1 (TX2 2).2.1 (TX2 2).2.2.1 ∈ kT := kTm 225 (by decide +kernel) rfl
theorem wfX2_28 : Cond.fieldLink RX2 28 (TX2 3).1 (TX2 3).2.1 (TX2 3).2.2.1 ∈ kT := kTm 226 (by decide +kernel) rfl
theorem wfX2_32 : Cond.fieldLink RX2 32 (TX2 4).1 (TX2 4).2.1 (TX2 4).2.2.1 ∈ kT := kTm 227 (by decide +kernel) rfl
def lX2_init_0 : List (Nat × Instr × Nat) := [(0, .aload_n 0, 1), (1, .invokespecial 3, 3), (4, .aload_n 0, 1), (5, .new 9, 3), (8, .dup, 1), (9, .bipush 60, 2), (11, .invokespecial 11, 3), (14, .putfield 14, 3), (17, .aload_n 0, 1), (18, .bipush 12, 2), (20, .newarray .int, 2), (22, .putfield 20, 3), (25, .aload_n 0, 1), (26, .bipush 60, 2), (28, .newarray .long, 2), (30, .putfield 24, 3), (33, .aload_n 0, 1), (34, .iconst 0, 1), (35, .putfield 28, 3), (38, .aload_n 0, 1), (39, .iconst 1, 1), (40, .putfield 32, 3), (43, .return_, 1)]
theorem dtX2_init_0 : kDec cX2_init lX2_init_0 = true := by decide +kernel
noncomputable def fX2_init (x0 : Nat) (w : kW) : Option kW :=
  (knO w 1).bind fun w1 =>
  (fX1_init (kSz w) (60 : Int32) w1).bind fun w2 =>
  (kpP w2 2 (some x0) 0 (some (kSz w))).bind fun w4 =>
  (knA w4 14 (12 : Int32)).bind fun w5 =>
  (kpP w5 2 (some x0) 1 (some (kSz w4))).bind fun w6 =>
  (knA w6 15 (60 : Int32)).bind fun w7 =>
  (kpP w7 2 (some x0) 2 (some (kSz w6))).bind fun w8 =>
  (kpI w8 2 (some x0) 3 (0 : Int32)).bind fun w9 =>
  (kpI w9 2 (some x0) 4 (1 : Int32)).bind fun w10 =>
  some w10

set_option maxHeartbeats 4000000 in
set_option maxRecDepth 100000 in
theorem rX2_init (l : Launch) (D : va_G) (aC : Nat → ClassId) {x0 : Nat} {w : kW} {wR : kW} (h : fX2_init x0 w = some wR) : kC l D aC yX2_init cX2_init 1 none 2 43 [.ref x0] w none wR 8 1080 := by
  refine kOf (own := RX2) (by decide) rfl (Nat.le_of_ble_eq_true rfl) ?_
  intro p e s m below meth c ls F hml hr hlocks hnm hX hZ hl
  obtain ⟨hx, hb, hts, hown, hK⟩ := id F
  have hl : lv_has ls 1 [(0, .ref x0)] := hl
  have hf := h
  rw [fX2_init] at hf
  refine lv_aload_n hx hb (kd dtX2_init_0 0 rfl) rfl (lv_at hl 0 rfl) ?_
  refine kobj F (hml.trans hl.1.symm) wmX2_3 (Nat.le_of_ble_eq_true rfl) (Nat.le_of_ble_eq_true rfl) (kd dtX2_init_0 1 rfl) ?_
  refine lv_aload_n hx hb (kd dtX2_init_0 2 rfl) rfl (lv_at hl 0 rfl) ?_
  obtain ⟨w1, hw1, hf⟩ := kbind hf
  refine knewo (k := 1) hw1 F hX hinX1 tyX1_ok (by decide +kernel) rfl rfl (by decide) wkX2_9 wnX1 wiX1 (Nat.le_of_ble_eq_true rfl) (Nat.le_of_ble_eq_true rfl) (kd dtX2_init_0 3 rfl) (fun H hX => ?_)
  refine lv_dup hx hb (kd dtX2_init_0 4 rfl) rfl ?_
  refine lv_bipush (v := (60 : Int32)) hx hb (kd dtX2_init_0 5 rfl) (by decide) ?_
  obtain ⟨w2, h3, hf⟩ := kbind hf
  refine kcallI (n := 1) [.int (60 : Int32)] [.ref (kSz w), .ref x0] [.ref (kSz w), .ref x0] (rX1_init l D aC h3) F hml hX hZ hl.1 mwX1_init wmX2_11 rfl (by decide +kernel) ⟨(by decide), (by decide)⟩ rfl rfl rfl (Nat.le_of_ble_eq_true rfl) (kd dtX2_init_0 6 rfl) ⟨Nat.le_of_ble_eq_true rfl, Nat.le_of_ble_eq_true rfl⟩ (fun H locs hX => ?_)
  obtain ⟨w4, hw4, hf⟩ := kbind hf
  refine kputP hw4 F hX hinX2 tyX2_ok nmX2 rfl rfl rfl (by decide) (by decide) wfX2_14 (Or.inr ⟨rfl, hnm, rfl⟩) (kd dtX2_init_0 7 rfl) (fun H locs hX => ?_)
  refine lv_aload_n hx hb (kd dtX2_init_0 8 rfl) rfl (lv_at hl 0 rfl) ?_
  refine lv_bipush (v := (12 : Int32)) hx hb (kd dtX2_init_0 9 rfl) (by decide) ?_
  obtain ⟨w5, hw5, hf⟩ := kbind hf
  refine knewa (mx := 12) hw5 rfl (fun _ => rfl) (by decide) (by decide) F hX wA14 (by decide) (by decide) (Nat.le_of_ble_eq_true rfl) (Nat.le_of_ble_eq_true rfl) (kd dtX2_init_0 10 rfl) (fun H hX => ?_)
  obtain ⟨w6, hw6, hf⟩ := kbind hf
  refine kputP hw6 F hX hinX2 tyX2_ok nmX2 rfl rfl rfl (by decide) (by decide) wfX2_20 (Or.inr ⟨rfl, hnm, rfl⟩) (kd dtX2_init_0 11 rfl) (fun H locs hX => ?_)
  refine lv_aload_n hx hb (kd dtX2_init_0 12 rfl) rfl (lv_at hl 0 rfl) ?_
  refine lv_bipush (v := (60 : Int32)) hx hb (kd dtX2_init_0 13 rfl) (by decide) ?_
  obtain ⟨w7, hw7, hf⟩ := kbind hf
  refine knewa (mx := 60) hw7 rfl (fun _ => rfl) (by decide) (by decide) F hX wA15 (by decide) (by decide) (Nat.le_of_ble_eq_true rfl) (Nat.le_of_ble_eq_true rfl) (kd dtX2_init_0 14 rfl) (fun H hX => ?_)
  obtain ⟨w8, hw8, hf⟩ := kbind hf
  refine kputP hw8 F hX hinX2 tyX2_ok nmX2 rfl rfl rfl (by decide) (by decide) wfX2_24 (Or.inr ⟨rfl, hnm, rfl⟩) (kd dtX2_init_0 15 rfl) (fun H locs hX => ?_)
  refine lv_aload_n hx hb (kd dtX2_init_0 16 rfl) rfl (lv_at hl 0 rfl) ?_
  refine lv_iconst (v := (0 : Int32)) hx hb (kd dtX2_init_0 17 rfl) (by decide) ?_
  obtain ⟨w9, hw9, hf⟩ := kbind hf
  refine kputI hw9 F hX hinX2 tyX2_ok nmX2 rfl rfl rfl (by decide) (by decide) wfX2_28 rfl rfl (Or.inl rfl) (kd dtX2_init_0 18 rfl) (fun H locs hX => ?_)
  refine lv_aload_n hx hb (kd dtX2_init_0 19 rfl) rfl (lv_at hl 0 rfl) ?_
  refine lv_iconst (v := (1 : Int32)) hx hb (kd dtX2_init_0 20 rfl) (by decide) ?_
  obtain ⟨w10, hw10, hf⟩ := kbind hf
  refine kputI hw10 F hX hinX2 tyX2_ok nmX2 rfl rfl rfl (by decide) (by decide) wfX2_32 rfl rfl (Or.inl rfl) (kd dtX2_init_0 21 rfl) (fun H locs hX => ?_)
  cases hf
  refine W.widen (k := 8) (n := 1080) (Nat.le_of_ble_eq_true rfl) (Nat.le_of_ble_eq_true rfl) ?_
  exact kvret F hX hr hlocks rfl (kd dtX2_init_0 22 rfl)
def lX2_endPart_0 : List (Nat × Instr × Nat) := [(0, .aload_n 0, 1), (1, .iconst 0, 1), (2, .putfield 32, 3), (5, .aload_n 0, 1), (6, .getfield 28, 3), (9, .ifCond .le 43, 3), (12, .aload_n 0, 1), (13, .getfield 28, 3), (16, .aload_n 0, 1), (17, .getfield 20, 3), (20, .arraylength, 1), (21, .if_icmp .gt 31, 3), (24, .aload_n 0, 1), (25, .getfield 20, 3), (28, .aload_n 0, 1), (29, .getfield 28, 3), (32, .iconst 1, 1), (33, .isub, 1), (34, .iaload, 1), (35, .iconst (-1), 1), (36, .if_icmp .ne 16, 3), (39, .aload_n 0, 1), (40, .dup, 1), (41, .getfield 28, 3), (44, .iconst 1, 1), (45, .isub, 1), (46, .putfield 28, 3), (49, .goto (-44), 3), (52, .return_, 1)]
theorem dtX2_endPart_0 : kDec cX2_endPart lX2_endPart_0 = true := by decide +kernel
noncomputable def fX2_endPart_L5 (x0 : Nat) : Nat → (kW → Option kW) → kW → Option kW
  | 0, _, _ => none
  | n + 1, k, w =>
  (kgI w 2 (some x0) 3).bind fun v1 =>
  if v1 ≤ 0 then
  k w
  else
  (kgI w 2 (some x0) 3).bind fun v2 =>
  (kgP w 2 (some x0) 1).bind fun v3 =>
  (kal w 14 v3).bind fun v4 =>
  if v4 < v2 then
  k w
  else
  (kgP w 2 (some x0) 1).bind fun v5 =>
  (kgI w 2 (some x0) 3).bind fun v6 =>
  (kaI w 14 v5 (v6 - (1 : Int32))).bind fun v7 =>
  if v7 = (-1 : Int32) then
  (kgI w 2 (some x0) 3).bind fun v8 =>
  (kpI w 2 (some x0) 3 (v8 - (1 : Int32))).bind fun w9 =>
  fX2_endPart_L5 x0 n k w9
  else
  k w

noncomputable def fX2_endPart (x0 : Nat) (w : kW) : Option kW :=
  (kpI w 2 (some x0) 4 (0 : Int32)).bind fun w1 =>
  fX2_endPart_L5 x0 kFU (fun w2 => some w2) w1

set_option maxHeartbeats 4000000 in
set_option maxRecDepth 100000 in
theorem rX2_endPart (l : Launch) (D : va_G) (aC : Nat → ClassId) {x0 : Nat} {w : kW} {wR : kW} (h : fX2_endPart x0 w = some wR) : kC l D aC yX2_endPart cX2_endPart 1 none 1 12 [.ref x0] w none wR 0 0 := by
  refine kOf (own := RX2) (by decide) rfl (Nat.le_of_ble_eq_true rfl) ?_
  intro p e s m below meth c ls F hml hr hlocks hnm hX hZ hl
  obtain ⟨hx, hb, hts, hown, hK⟩ := id F
  have hl : lv_has ls 1 [(0, .ref x0)] := hl
  have hf := h
  rw [fX2_endPart] at hf
  refine lv_aload_n hx hb (kd dtX2_endPart_0 0 rfl) rfl (lv_at hl 0 rfl) ?_
  refine lv_iconst (v := (0 : Int32)) hx hb (kd dtX2_endPart_0 1 rfl) (by decide) ?_
  obtain ⟨w1, hw1, hf⟩ := kbind hf
  refine kputI hw1 F hX hinX2 tyX2_ok nmX2 rfl rfl rfl (by decide) (by decide) wfX2_32 rfl rfl (Or.inl rfl) (kd dtX2_endPart_0 2 rfl) (fun H locs hX => ?_)
  have hL5 : ∀ (n : Nat) (k : kW → Option kW), ∀ (w_5 : kW) (H : Heap) (locs : List Loc) (ls : Array Slot), kX D aC w s.heap w_5 H locs → lv_has ls 1 [(0, .ref x0)] → fX2_endPart_L5 x0 n k w_5 = some wR → (∀ (w_5 : kW) (H : Heap) (locs : List Loc) (ls : Array Slot), kX D aC w s.heap w_5 H locs → lv_has ls 1 [(0, .ref x0)] → k w_5 = some wR → W p l e { frames := 1, cells := 0, slots := 0, locals := 12 } s m ([.ref x0] : List Value).toArray below meth c H locs 0 0 (MQ below (kQc D aC w none wR) ([.ref x0] : List Value).toArray s 0 0 (kA w)) (F0 m 52 ls [])) → W p l e { frames := 1, cells := 0, slots := 0, locals := 12 } s m ([.ref x0] : List Value).toArray below meth c H locs 0 0 (MQ below (kQc D aC w none wR) ([.ref x0] : List Value).toArray s 0 0 (kA w)) (F0 m 5 ls []) := by
    intro n k
    induction n with
    | zero =>
      intro w_5 H locs ls hX hl hf hk
      rw [fX2_endPart_L5] at hf
      cases hf
    | succ n ih =>
      intro w_5 H locs ls hX hl hf hk
      rw [fX2_endPart_L5] at hf
      refine lv_aload_n hx hb (kd dtX2_endPart_0 3 rfl) rfl (lv_at hl 0 rfl) ?_
      obtain ⟨v3, hv3, hf⟩ := kbind hf
      refine kgetI hv3 F hX hinX2 rfl rfl rfl (by decide) (by decide) wfX2_28 (kd dtX2_endPart_0 4 rfl) ?_
      refine lv_if_le (tgt := 52) hx hb (kd dtX2_endPart_0 5 rfl) (by decide) (fun hc => ?_) (fun hc => ?_)
      · have hf := kif_pos hc hf
        exact hk w_5 _ _ _ hX hl hf
      · have hf := kif_neg hc hf
        refine lv_aload_n hx hb (kd dtX2_endPart_0 6 rfl) rfl (lv_at hl 0 rfl) ?_
        obtain ⟨v4, hv4, hf⟩ := kbind hf
        refine kgetI hv4 F hX hinX2 rfl rfl rfl (by decide) (by decide) wfX2_28 (kd dtX2_endPart_0 7 rfl) ?_
        refine lv_aload_n hx hb (kd dtX2_endPart_0 8 rfl) rfl (lv_at hl 0 rfl) ?_
        obtain ⟨v5, hv5, hf⟩ := kbind hf
        refine kgetP hv5 F hX hinX2 rfl rfl rfl (by decide) (by decide) wfX2_20 (kd dtX2_endPart_0 9 rfl) ?_
        obtain ⟨v6, hv6, hf⟩ := kbind hf
        refine kalen hv6 (by decide) (by decide) F hX (kd dtX2_endPart_0 10 rfl) ?_
        refine lv_icmp_gt (tgt := 52) hx hb (kd dtX2_endPart_0 11 rfl) (by decide) (fun hc => ?_) (fun hc => ?_)
        · have hf := kif_pos hc hf
          exact hk w_5 _ _ _ hX hl hf
        · have hf := kif_neg hc hf
          refine lv_aload_n hx hb (kd dtX2_endPart_0 12 rfl) rfl (lv_at hl 0 rfl) ?_
          obtain ⟨v7, hv7, hf⟩ := kbind hf
          refine kgetP hv7 F hX hinX2 rfl rfl rfl (by decide) (by decide) wfX2_20 (kd dtX2_endPart_0 13 rfl) ?_
          refine lv_aload_n hx hb (kd dtX2_endPart_0 14 rfl) rfl (lv_at hl 0 rfl) ?_
          obtain ⟨v8, hv8, hf⟩ := kbind hf
          refine kgetI hv8 F hX hinX2 rfl rfl rfl (by decide) (by decide) wfX2_28 (kd dtX2_endPart_0 15 rfl) ?_
          refine lv_iconst (v := (1 : Int32)) hx hb (kd dtX2_endPart_0 16 rfl) (by decide) ?_
          refine lv_isub hx hb (kd dtX2_endPart_0 17 rfl) ?_
          obtain ⟨v9, hv9, hf⟩ := kbind hf
          refine kald hv9 F hX (kd dtX2_endPart_0 18 rfl) ?_
          refine lv_iconst (v := (-1 : Int32)) hx hb (kd dtX2_endPart_0 19 rfl) (by decide) ?_
          refine lv_icmp_ne (tgt := 52) hx hb (kd dtX2_endPart_0 20 rfl) (by decide) (fun hc => ?_) (fun hc => ?_)
          · have hf := kif_neg hc hf
            exact hk w_5 _ _ _ hX hl hf
          · have hf := kif_pos hc hf
            refine lv_aload_n hx hb (kd dtX2_endPart_0 21 rfl) rfl (lv_at hl 0 rfl) ?_
            refine lv_dup hx hb (kd dtX2_endPart_0 22 rfl) rfl ?_
            obtain ⟨v10, hv10, hf⟩ := kbind hf
            refine kgetI hv10 F hX hinX2 rfl rfl rfl (by decide) (by decide) wfX2_28 (kd dtX2_endPart_0 23 rfl) ?_
            refine lv_iconst (v := (1 : Int32)) hx hb (kd dtX2_endPart_0 24 rfl) (by decide) ?_
            refine lv_isub hx hb (kd dtX2_endPart_0 25 rfl) ?_
            obtain ⟨w11, hw11, hf⟩ := kbind hf
            refine kputI hw11 F hX hinX2 tyX2_ok nmX2 rfl rfl rfl (by decide) (by decide) wfX2_28 rfl rfl (Or.inl rfl) (kd dtX2_endPart_0 26 rfl) (fun H locs hX => ?_)
            refine lv_goto (tgt := 5) hx hb (kd dtX2_endPart_0 27 rfl) (by decide) ?_
            exact ih w11 _ _ _ hX hl hf hk
  refine hL5 kFU _ w1 _ _ _ hX hl hf ?_
  intro w2 H locs ls hX hl hf
  cases hf
  exact kvret F hX hr hlocks rfl (kd dtX2_endPart_0 28 rfl)
theorem wmX2_63 : Cond.methodLinkNest RX2 63 yX11_letterOf "KitchenCards" ∈ kNs := kNm 527 (by decide +kernel) rfl
theorem wfX2_43 : Cond.fieldLinkNest RX2 43 (TX1 5).1 (TX1 5).2.1 (TX1 5).2.2.1 "KitchenCards" ∈ kNs := kNm 196 (by decide +kernel) rfl
theorem wmX2_67 : Cond.methodLink RX2 67 yX1_add ∈ kT := kTm 530 (by decide +kernel) rfl
theorem wmX2_70 : Cond.methodLink RX2 70 yX2_endPart ∈ kT := kTm 534 (by decide +kernel) rfl
theorem mwX2_endPart : kMV RX2 yX2_endPart cX2_endPart 1 none := ⟨kTm 537 (by decide +kernel) rfl, kTm 96 (by decide +kernel) rfl, kTm 536 (by decide +kernel) rfl, kTm 4 (by decide +kernel) rfl⟩
def lX2_begins_0 : List (Nat × Instr × Nat) := [(0, .iload_n 1, 1), (1, .invokestatic 63, 3), (4, .ifCond .lt 17, 3), (7, .aload_n 0, 1), (8, .getfield 14, 3), (11, .iload_n 1, 1), (12, .invokevirtual 67, 3), (15, .aload_n 0, 1), (16, .invokevirtual 70, 3), (19, .iconst 1, 1), (20, .ireturn, 1), (21, .iload_n 1, 1), (22, .bipush 126, 2), (24, .if_icmp .eq 9, 3), (27, .iload_n 1, 1), (28, .bipush 40, 2), (30, .if_icmp .ne 15, 3), (33, .aload_n 0, 1), (34, .getfield 28, 3), (37, .aload_n 0, 1), (38, .getfield 20, 3), (41, .arraylength, 1), (42, .if_icmp .lt 5, 3), (45, .iconst 0, 1), (46, .ireturn, 1), (47, .aload_n 0, 1), (48, .getfield 20, 3), (51, .aload_n 0, 1), (52, .getfield 28, 3), (55, .iload_n 1, 1), (56, .bipush 126, 2), (58, .if_icmp .ne 7, 3), (61, .iconst (-1), 1), (62, .goto 10, 3), (65, .aload_n 0, 1), (66, .getfield 14, 3), (69, .getfield 43, 3), (72, .iastore, 1), (73, .aload_n 0, 1), (74, .dup, 1), (75, .getfield 28, 3), (78, .iconst 1, 1), (79, .iadd, 1), (80, .putfield 28, 3), (83, .aload_n 0, 1), (84, .getfield 14, 3), (87, .iload_n 1, 1), (88, .invokevirtual 67, 3), (91, .iconst 1, 1), (92, .ireturn, 1)]
theorem dtX2_begins_0 : kDec cX2_begins lX2_begins_0 = true := by decide +kernel
noncomputable def fX2_begins (x0 : Nat) (x1 : Int32) (w : kW) : Option (Int32 × kW) :=
  (fX11_letterOf x1).bind fun v2 =>
  if v2 < 0 then
  if x1 = (126 : Int32) then
  (kgI w 2 (some x0) 3).bind fun v3 =>
  (kgP w 2 (some x0) 1).bind fun v4 =>
  (kal w 14 v4).bind fun v5 =>
  if v3 < v5 then
  (kgP w 2 (some x0) 1).bind fun v6 =>
  (kgI w 2 (some x0) 3).bind fun v7 =>
  if x1 = (126 : Int32) then
  (ksI w 14 v6 v7 (-1 : Int32)).bind fun w17 =>
  (kgI w17 2 (some x0) 3).bind fun v18 =>
  (kpI w17 2 (some x0) 3 (v18 + (1 : Int32))).bind fun w19 =>
  (kgP w19 2 (some x0) 0).bind fun v20 =>
  (kRc w19 1 v20).bind fun b21 =>
  (fX1_add b21 x1 w19).bind fun w22 =>
  some ((1 : Int32), w22)
  else
  (kgP w 2 (some x0) 0).bind fun v8 =>
  (kgI w 1 v8 5).bind fun v9 =>
  (ksI w 14 v6 v7 v9).bind fun w10 =>
  (kgI w10 2 (some x0) 3).bind fun v11 =>
  (kpI w10 2 (some x0) 3 (v11 + (1 : Int32))).bind fun w12 =>
  (kgP w12 2 (some x0) 0).bind fun v13 =>
  (kRc w12 1 v13).bind fun b14 =>
  (fX1_add b14 x1 w12).bind fun w15 =>
  some ((1 : Int32), w15)
  else
  some ((0 : Int32), w)
  else
  if x1 = (40 : Int32) then
  (kgI w 2 (some x0) 3).bind fun v24 =>
  (kgP w 2 (some x0) 1).bind fun v25 =>
  (kal w 14 v25).bind fun v26 =>
  if v24 < v26 then
  (kgP w 2 (some x0) 1).bind fun v27 =>
  (kgI w 2 (some x0) 3).bind fun v28 =>
  if x1 = (126 : Int32) then
  (ksI w 14 v27 v28 (-1 : Int32)).bind fun w38 =>
  (kgI w38 2 (some x0) 3).bind fun v39 =>
  (kpI w38 2 (some x0) 3 (v39 + (1 : Int32))).bind fun w40 =>
  (kgP w40 2 (some x0) 0).bind fun v41 =>
  (kRc w40 1 v41).bind fun b42 =>
  (fX1_add b42 x1 w40).bind fun w43 =>
  some ((1 : Int32), w43)
  else
  (kgP w 2 (some x0) 0).bind fun v29 =>
  (kgI w 1 v29 5).bind fun v30 =>
  (ksI w 14 v27 v28 v30).bind fun w31 =>
  (kgI w31 2 (some x0) 3).bind fun v32 =>
  (kpI w31 2 (some x0) 3 (v32 + (1 : Int32))).bind fun w33 =>
  (kgP w33 2 (some x0) 0).bind fun v34 =>
  (kRc w33 1 v34).bind fun b35 =>
  (fX1_add b35 x1 w33).bind fun w36 =>
  some ((1 : Int32), w36)
  else
  some ((0 : Int32), w)
  else
  some ((0 : Int32), w)
  else
  (kgP w 2 (some x0) 0).bind fun v45 =>
  (kRc w 1 v45).bind fun b46 =>
  (fX1_add b46 x1 w).bind fun w47 =>
  (kRc w47 2 (some x0)).bind fun b49 =>
  (fX2_endPart b49 w47).bind fun w50 =>
  some ((1 : Int32), w50)

set_option maxHeartbeats 4000000 in
set_option maxRecDepth 100000 in
theorem rX2_begins (l : Launch) (D : va_G) (aC : Nat → ClassId) {x0 : Nat} {x1 : Int32} {w : kW} {wR : kW} {oR : Int32} (h : fX2_begins x0 x1 w = some (oR, wR)) : kC l D aC yX2_begins cX2_begins 2 (some .boolean) 2 33 [.ref x0, .int x1] w (some (.int oR)) wR 0 0 := by
  refine kOf (own := RX2) (by decide) rfl (Nat.le_of_ble_eq_true rfl) ?_
  intro p e s m below meth c ls F hml hr hlocks hnm hX hZ hl
  obtain ⟨hx, hb, hts, hown, hK⟩ := id F
  have hl : lv_has ls 2 [(0, .ref x0), (1, .int x1)] := hl
  have hf := h
  rw [fX2_begins] at hf
  refine lv_iload_n hx hb (kd dtX2_begins_0 0 rfl) rfl (lv_at hl 1 rfl) ?_
  obtain ⟨v2, h1, hf⟩ := kbind hf
  refine kcallSN (n := 1) [.int x1] [] [.int v2] (rX11_letterOf l D aC w h1) F hml hX hZ hl.1 mwX11_letterOf wmX2_63 (by decide +kernel) ⟨(by decide), (by decide)⟩ rfl rfl rfl (Nat.le_of_ble_eq_true rfl) (kd dtX2_begins_0 1 rfl) ⟨Nat.zero_le _, Nat.zero_le _⟩ (fun H locs hX => ?_)
  refine lv_if_lt (tgt := 21) hx hb (kd dtX2_begins_0 2 rfl) (by decide) (fun hc => ?_) (fun hc => ?_)
  · have hf := kif_pos hc hf
    refine lv_iload_n hx hb (kd dtX2_begins_0 11 rfl) rfl (lv_at hl 1 rfl) ?_
    refine lv_bipush (v := (126 : Int32)) hx hb (kd dtX2_begins_0 12 rfl) (by decide) ?_
    refine lv_icmp_eq (tgt := 33) hx hb (kd dtX2_begins_0 13 rfl) (by decide) (fun hc => ?_) (fun hc => ?_)
    · have hf := kif_pos hc hf
      refine lv_aload_n hx hb (kd dtX2_begins_0 17 rfl) rfl (lv_at hl 0 rfl) ?_
      obtain ⟨v3, hv3, hf⟩ := kbind hf
      refine kgetI hv3 F hX hinX2 rfl rfl rfl (by decide) (by decide) wfX2_28 (kd dtX2_begins_0 18 rfl) ?_
      refine lv_aload_n hx hb (kd dtX2_begins_0 19 rfl) rfl (lv_at hl 0 rfl) ?_
      obtain ⟨v4, hv4, hf⟩ := kbind hf
      refine kgetP hv4 F hX hinX2 rfl rfl rfl (by decide) (by decide) wfX2_20 (kd dtX2_begins_0 20 rfl) ?_
      obtain ⟨v5, hv5, hf⟩ := kbind hf
      refine kalen hv5 (by decide) (by decide) F hX (kd dtX2_begins_0 21 rfl) ?_
      refine lv_icmp_lt (tgt := 47) hx hb (kd dtX2_begins_0 22 rfl) (by decide) (fun hc => ?_) (fun hc => ?_)
      · have hf := kif_pos hc hf
        refine lv_aload_n hx hb (kd dtX2_begins_0 25 rfl) rfl (lv_at hl 0 rfl) ?_
        obtain ⟨v6, hv6, hf⟩ := kbind hf
        refine kgetP hv6 F hX hinX2 rfl rfl rfl (by decide) (by decide) wfX2_20 (kd dtX2_begins_0 26 rfl) ?_
        refine lv_aload_n hx hb (kd dtX2_begins_0 27 rfl) rfl (lv_at hl 0 rfl) ?_
        obtain ⟨v7, hv7, hf⟩ := kbind hf
        refine kgetI hv7 F hX hinX2 rfl rfl rfl (by decide) (by decide) wfX2_28 (kd dtX2_begins_0 28 rfl) ?_
        refine lv_iload_n hx hb (kd dtX2_begins_0 29 rfl) rfl (lv_at hl 1 rfl) ?_
        refine lv_bipush (v := (126 : Int32)) hx hb (kd dtX2_begins_0 30 rfl) (by decide) ?_
        refine lv_icmp_ne (tgt := 65) hx hb (kd dtX2_begins_0 31 rfl) (by decide) (fun hc => ?_) (fun hc => ?_)
        · have hf := kif_neg hc hf
          refine lv_aload_n hx hb (kd dtX2_begins_0 34 rfl) rfl (lv_at hl 0 rfl) ?_
          obtain ⟨v8, hv8, hf⟩ := kbind hf
          refine kgetP hv8 F hX hinX2 rfl rfl rfl (by decide) (by decide) wfX2_14 (kd dtX2_begins_0 35 rfl) ?_
          obtain ⟨v9, hv9, hf⟩ := kbind hf
          refine kgetIN hv9 F hX hinX1 rfl rfl rfl (by decide) (by decide) hZ wfX2_43 (kd dtX2_begins_0 36 rfl) ?_
          obtain ⟨w10, hw10, hf⟩ := kbind hf
          refine kast hw10 F hX (kd dtX2_begins_0 37 rfl) (fun H locs hX => ?_)
          refine lv_aload_n hx hb (kd dtX2_begins_0 38 rfl) rfl (lv_at hl 0 rfl) ?_
          refine lv_dup hx hb (kd dtX2_begins_0 39 rfl) rfl ?_
          obtain ⟨v11, hv11, hf⟩ := kbind hf
          refine kgetI hv11 F hX hinX2 rfl rfl rfl (by decide) (by decide) wfX2_28 (kd dtX2_begins_0 40 rfl) ?_
          refine lv_iconst (v := (1 : Int32)) hx hb (kd dtX2_begins_0 41 rfl) (by decide) ?_
          refine lv_iadd hx hb (kd dtX2_begins_0 42 rfl) ?_
          obtain ⟨w12, hw12, hf⟩ := kbind hf
          refine kputI hw12 F hX hinX2 tyX2_ok nmX2 rfl rfl rfl (by decide) (by decide) wfX2_28 rfl rfl (Or.inl rfl) (kd dtX2_begins_0 43 rfl) (fun H locs hX => ?_)
          refine lv_aload_n hx hb (kd dtX2_begins_0 44 rfl) rfl (lv_at hl 0 rfl) ?_
          obtain ⟨v13, hv13, hf⟩ := kbind hf
          refine kgetP hv13 F hX hinX2 rfl rfl rfl (by decide) (by decide) wfX2_14 (kd dtX2_begins_0 45 rfl) ?_
          refine lv_iload_n hx hb (kd dtX2_begins_0 46 rfl) rfl (lv_at hl 1 rfl) ?_
          obtain ⟨b14, hb14, hf⟩ := kbind hf
          obtain ⟨hrb14, hkb14⟩ := kRc_s hb14
          obtain ⟨w15, h16, hf⟩ := kbind hf
          refine kcallV (n := 1) [.int x1] [] [] (rX1_add l D aC h16) hrb14 hkb14 F hml hX hZ hl.1 mwX1_add wmX2_67 rfl (by decide) (by decide +kernel) ⟨(by decide), (by decide)⟩ rfl rfl rfl (Nat.le_of_ble_eq_true rfl) (kd dtX2_begins_0 47 rfl) ⟨Nat.zero_le _, Nat.zero_le _⟩ (fun H locs hX => ?_)
          refine lv_iconst (v := (1 : Int32)) hx hb (kd dtX2_begins_0 48 rfl) (by decide) ?_
          cases hf
          exact kzret F hX hr hlocks rfl rfl (kd dtX2_begins_0 49 rfl)
        · have hf := kif_pos hc hf
          refine lv_iconst (v := (-1 : Int32)) hx hb (kd dtX2_begins_0 32 rfl) (by decide) ?_
          refine lv_goto (tgt := 72) hx hb (kd dtX2_begins_0 33 rfl) (by decide) ?_
          obtain ⟨w17, hw17, hf⟩ := kbind hf
          refine kast hw17 F hX (kd dtX2_begins_0 37 rfl) (fun H locs hX => ?_)
          refine lv_aload_n hx hb (kd dtX2_begins_0 38 rfl) rfl (lv_at hl 0 rfl) ?_
          refine lv_dup hx hb (kd dtX2_begins_0 39 rfl) rfl ?_
          obtain ⟨v18, hv18, hf⟩ := kbind hf
          refine kgetI hv18 F hX hinX2 rfl rfl rfl (by decide) (by decide) wfX2_28 (kd dtX2_begins_0 40 rfl) ?_
          refine lv_iconst (v := (1 : Int32)) hx hb (kd dtX2_begins_0 41 rfl) (by decide) ?_
          refine lv_iadd hx hb (kd dtX2_begins_0 42 rfl) ?_
          obtain ⟨w19, hw19, hf⟩ := kbind hf
          refine kputI hw19 F hX hinX2 tyX2_ok nmX2 rfl rfl rfl (by decide) (by decide) wfX2_28 rfl rfl (Or.inl rfl) (kd dtX2_begins_0 43 rfl) (fun H locs hX => ?_)
          refine lv_aload_n hx hb (kd dtX2_begins_0 44 rfl) rfl (lv_at hl 0 rfl) ?_
          obtain ⟨v20, hv20, hf⟩ := kbind hf
          refine kgetP hv20 F hX hinX2 rfl rfl rfl (by decide) (by decide) wfX2_14 (kd dtX2_begins_0 45 rfl) ?_
          refine lv_iload_n hx hb (kd dtX2_begins_0 46 rfl) rfl (lv_at hl 1 rfl) ?_
          obtain ⟨b21, hb21, hf⟩ := kbind hf
          obtain ⟨hrb21, hkb21⟩ := kRc_s hb21
          obtain ⟨w22, h23, hf⟩ := kbind hf
          refine kcallV (n := 1) [.int x1] [] [] (rX1_add l D aC h23) hrb21 hkb21 F hml hX hZ hl.1 mwX1_add wmX2_67 rfl (by decide) (by decide +kernel) ⟨(by decide), (by decide)⟩ rfl rfl rfl (Nat.le_of_ble_eq_true rfl) (kd dtX2_begins_0 47 rfl) ⟨Nat.zero_le _, Nat.zero_le _⟩ (fun H locs hX => ?_)
          refine lv_iconst (v := (1 : Int32)) hx hb (kd dtX2_begins_0 48 rfl) (by decide) ?_
          cases hf
          exact kzret F hX hr hlocks rfl rfl (kd dtX2_begins_0 49 rfl)
      · have hf := kif_neg hc hf
        refine lv_iconst (v := (0 : Int32)) hx hb (kd dtX2_begins_0 23 rfl) (by decide) ?_
        cases hf
        exact kzret F hX hr hlocks rfl rfl (kd dtX2_begins_0 24 rfl)
    · have hf := kif_neg hc hf
      refine lv_iload_n hx hb (kd dtX2_begins_0 14 rfl) rfl (lv_at hl 1 rfl) ?_
      refine lv_bipush (v := (40 : Int32)) hx hb (kd dtX2_begins_0 15 rfl) (by decide) ?_
      refine lv_icmp_ne (tgt := 45) hx hb (kd dtX2_begins_0 16 rfl) (by decide) (fun hc => ?_) (fun hc => ?_)
      · have hf := kif_neg hc hf
        refine lv_iconst (v := (0 : Int32)) hx hb (kd dtX2_begins_0 23 rfl) (by decide) ?_
        cases hf
        exact kzret F hX hr hlocks rfl rfl (kd dtX2_begins_0 24 rfl)
      · have hf := kif_pos hc hf
        refine lv_aload_n hx hb (kd dtX2_begins_0 17 rfl) rfl (lv_at hl 0 rfl) ?_
        obtain ⟨v24, hv24, hf⟩ := kbind hf
        refine kgetI hv24 F hX hinX2 rfl rfl rfl (by decide) (by decide) wfX2_28 (kd dtX2_begins_0 18 rfl) ?_
        refine lv_aload_n hx hb (kd dtX2_begins_0 19 rfl) rfl (lv_at hl 0 rfl) ?_
        obtain ⟨v25, hv25, hf⟩ := kbind hf
        refine kgetP hv25 F hX hinX2 rfl rfl rfl (by decide) (by decide) wfX2_20 (kd dtX2_begins_0 20 rfl) ?_
        obtain ⟨v26, hv26, hf⟩ := kbind hf
        refine kalen hv26 (by decide) (by decide) F hX (kd dtX2_begins_0 21 rfl) ?_
        refine lv_icmp_lt (tgt := 47) hx hb (kd dtX2_begins_0 22 rfl) (by decide) (fun hc => ?_) (fun hc => ?_)
        · have hf := kif_pos hc hf
          refine lv_aload_n hx hb (kd dtX2_begins_0 25 rfl) rfl (lv_at hl 0 rfl) ?_
          obtain ⟨v27, hv27, hf⟩ := kbind hf
          refine kgetP hv27 F hX hinX2 rfl rfl rfl (by decide) (by decide) wfX2_20 (kd dtX2_begins_0 26 rfl) ?_
          refine lv_aload_n hx hb (kd dtX2_begins_0 27 rfl) rfl (lv_at hl 0 rfl) ?_
          obtain ⟨v28, hv28, hf⟩ := kbind hf
          refine kgetI hv28 F hX hinX2 rfl rfl rfl (by decide) (by decide) wfX2_28 (kd dtX2_begins_0 28 rfl) ?_
          refine lv_iload_n hx hb (kd dtX2_begins_0 29 rfl) rfl (lv_at hl 1 rfl) ?_
          refine lv_bipush (v := (126 : Int32)) hx hb (kd dtX2_begins_0 30 rfl) (by decide) ?_
          refine lv_icmp_ne (tgt := 65) hx hb (kd dtX2_begins_0 31 rfl) (by decide) (fun hc => ?_) (fun hc => ?_)
          · have hf := kif_neg hc hf
            refine lv_aload_n hx hb (kd dtX2_begins_0 34 rfl) rfl (lv_at hl 0 rfl) ?_
            obtain ⟨v29, hv29, hf⟩ := kbind hf
            refine kgetP hv29 F hX hinX2 rfl rfl rfl (by decide) (by decide) wfX2_14 (kd dtX2_begins_0 35 rfl) ?_
            obtain ⟨v30, hv30, hf⟩ := kbind hf
            refine kgetIN hv30 F hX hinX1 rfl rfl rfl (by decide) (by decide) hZ wfX2_43 (kd dtX2_begins_0 36 rfl) ?_
            obtain ⟨w31, hw31, hf⟩ := kbind hf
            refine kast hw31 F hX (kd dtX2_begins_0 37 rfl) (fun H locs hX => ?_)
            refine lv_aload_n hx hb (kd dtX2_begins_0 38 rfl) rfl (lv_at hl 0 rfl) ?_
            refine lv_dup hx hb (kd dtX2_begins_0 39 rfl) rfl ?_
            obtain ⟨v32, hv32, hf⟩ := kbind hf
            refine kgetI hv32 F hX hinX2 rfl rfl rfl (by decide) (by decide) wfX2_28 (kd dtX2_begins_0 40 rfl) ?_
            refine lv_iconst (v := (1 : Int32)) hx hb (kd dtX2_begins_0 41 rfl) (by decide) ?_
            refine lv_iadd hx hb (kd dtX2_begins_0 42 rfl) ?_
            obtain ⟨w33, hw33, hf⟩ := kbind hf
            refine kputI hw33 F hX hinX2 tyX2_ok nmX2 rfl rfl rfl (by decide) (by decide) wfX2_28 rfl rfl (Or.inl rfl) (kd dtX2_begins_0 43 rfl) (fun H locs hX => ?_)
            refine lv_aload_n hx hb (kd dtX2_begins_0 44 rfl) rfl (lv_at hl 0 rfl) ?_
            obtain ⟨v34, hv34, hf⟩ := kbind hf
            refine kgetP hv34 F hX hinX2 rfl rfl rfl (by decide) (by decide) wfX2_14 (kd dtX2_begins_0 45 rfl) ?_
            refine lv_iload_n hx hb (kd dtX2_begins_0 46 rfl) rfl (lv_at hl 1 rfl) ?_
            obtain ⟨b35, hb35, hf⟩ := kbind hf
            obtain ⟨hrb35, hkb35⟩ := kRc_s hb35
            obtain ⟨w36, h37, hf⟩ := kbind hf
            refine kcallV (n := 1) [.int x1] [] [] (rX1_add l D aC h37) hrb35 hkb35 F hml hX hZ hl.1 mwX1_add wmX2_67 rfl (by decide) (by decide +kernel) ⟨(by decide), (by decide)⟩ rfl rfl rfl (Nat.le_of_ble_eq_true rfl) (kd dtX2_begins_0 47 rfl) ⟨Nat.zero_le _, Nat.zero_le _⟩ (fun H locs hX => ?_)
            refine lv_iconst (v := (1 : Int32)) hx hb (kd dtX2_begins_0 48 rfl) (by decide) ?_
            cases hf
            exact kzret F hX hr hlocks rfl rfl (kd dtX2_begins_0 49 rfl)
          · have hf := kif_pos hc hf
            refine lv_iconst (v := (-1 : Int32)) hx hb (kd dtX2_begins_0 32 rfl) (by decide) ?_
            refine lv_goto (tgt := 72) hx hb (kd dtX2_begins_0 33 rfl) (by decide) ?_
            obtain ⟨w38, hw38, hf⟩ := kbind hf
            refine kast hw38 F hX (kd dtX2_begins_0 37 rfl) (fun H locs hX => ?_)
            refine lv_aload_n hx hb (kd dtX2_begins_0 38 rfl) rfl (lv_at hl 0 rfl) ?_
            refine lv_dup hx hb (kd dtX2_begins_0 39 rfl) rfl ?_
            obtain ⟨v39, hv39, hf⟩ := kbind hf
            refine kgetI hv39 F hX hinX2 rfl rfl rfl (by decide) (by decide) wfX2_28 (kd dtX2_begins_0 40 rfl) ?_
            refine lv_iconst (v := (1 : Int32)) hx hb (kd dtX2_begins_0 41 rfl) (by decide) ?_
            refine lv_iadd hx hb (kd dtX2_begins_0 42 rfl) ?_
            obtain ⟨w40, hw40, hf⟩ := kbind hf
            refine kputI hw40 F hX hinX2 tyX2_ok nmX2 rfl rfl rfl (by decide) (by decide) wfX2_28 rfl rfl (Or.inl rfl) (kd dtX2_begins_0 43 rfl) (fun H locs hX => ?_)
            refine lv_aload_n hx hb (kd dtX2_begins_0 44 rfl) rfl (lv_at hl 0 rfl) ?_
            obtain ⟨v41, hv41, hf⟩ := kbind hf
            refine kgetP hv41 F hX hinX2 rfl rfl rfl (by decide) (by decide) wfX2_14 (kd dtX2_begins_0 45 rfl) ?_
            refine lv_iload_n hx hb (kd dtX2_begins_0 46 rfl) rfl (lv_at hl 1 rfl) ?_
            obtain ⟨b42, hb42, hf⟩ := kbind hf
            obtain ⟨hrb42, hkb42⟩ := kRc_s hb42
            obtain ⟨w43, h44, hf⟩ := kbind hf
            refine kcallV (n := 1) [.int x1] [] [] (rX1_add l D aC h44) hrb42 hkb42 F hml hX hZ hl.1 mwX1_add wmX2_67 rfl (by decide) (by decide +kernel) ⟨(by decide), (by decide)⟩ rfl rfl rfl (Nat.le_of_ble_eq_true rfl) (kd dtX2_begins_0 47 rfl) ⟨Nat.zero_le _, Nat.zero_le _⟩ (fun H locs hX => ?_)
            refine lv_iconst (v := (1 : Int32)) hx hb (kd dtX2_begins_0 48 rfl) (by decide) ?_
            cases hf
            exact kzret F hX hr hlocks rfl rfl (kd dtX2_begins_0 49 rfl)
        · have hf := kif_neg hc hf
          refine lv_iconst (v := (0 : Int32)) hx hb (kd dtX2_begins_0 23 rfl) (by decide) ?_
          cases hf
          exact kzret F hX hr hlocks rfl rfl (kd dtX2_begins_0 24 rfl)
  · have hf := kif_neg hc hf
    refine lv_aload_n hx hb (kd dtX2_begins_0 3 rfl) rfl (lv_at hl 0 rfl) ?_
    obtain ⟨v45, hv45, hf⟩ := kbind hf
    refine kgetP hv45 F hX hinX2 rfl rfl rfl (by decide) (by decide) wfX2_14 (kd dtX2_begins_0 4 rfl) ?_
    refine lv_iload_n hx hb (kd dtX2_begins_0 5 rfl) rfl (lv_at hl 1 rfl) ?_
    obtain ⟨b46, hb46, hf⟩ := kbind hf
    obtain ⟨hrb46, hkb46⟩ := kRc_s hb46
    obtain ⟨w47, h48, hf⟩ := kbind hf
    refine kcallV (n := 1) [.int x1] [] [] (rX1_add l D aC h48) hrb46 hkb46 F hml hX hZ hl.1 mwX1_add wmX2_67 rfl (by decide) (by decide +kernel) ⟨(by decide), (by decide)⟩ rfl rfl rfl (Nat.le_of_ble_eq_true rfl) (kd dtX2_begins_0 6 rfl) ⟨Nat.zero_le _, Nat.zero_le _⟩ (fun H locs hX => ?_)
    refine lv_aload_n hx hb (kd dtX2_begins_0 7 rfl) rfl (lv_at hl 0 rfl) ?_
    obtain ⟨b49, hb49, hf⟩ := kbind hf
    obtain ⟨hrb49, hkb49⟩ := kRc_s hb49
    obtain ⟨w50, h51, hf⟩ := kbind hf
    refine kcallV (n := 0) [] [] [] (rX2_endPart l D aC h51) hrb49 hkb49 F hml hX hZ hl.1 mwX2_endPart wmX2_70 rfl (by decide) (by decide +kernel) ⟨(by decide), (by decide)⟩ rfl rfl rfl (Nat.le_of_ble_eq_true rfl) (kd dtX2_begins_0 8 rfl) ⟨Nat.zero_le _, Nat.zero_le _⟩ (fun H locs hX => ?_)
    refine lv_iconst (v := (1 : Int32)) hx hb (kd dtX2_begins_0 9 rfl) (by decide) ?_
    cases hf
    exact kzret F hX hr hlocks rfl rfl (kd dtX2_begins_0 10 rfl)
theorem wmX2_73 : Cond.methodLink RX2 73 yX1_setSign ∈ kT := kTm 542 (by decide +kernel) rfl
theorem mwX1_setSign : kMV RX1 yX1_setSign cX1_setSign 3 none := ⟨kTm 545 (by decide +kernel) rfl, kTm 97 (by decide +kernel) rfl, kTm 543 (by decide +kernel) rfl, kTm 544 (by decide +kernel) rfl⟩
def lX2_goesOn_0 : List (Nat × Instr × Nat) := [(0, .aload_n 0, 1), (1, .getfield 28, 3), (4, .iconst 1, 1), (5, .isub, 1), (6, .istore_n 2, 1), (7, .iload_n 2, 1), (8, .ifCond .lt 12, 3), (11, .iload_n 2, 1), (12, .aload_n 0, 1), (13, .getfield 20, 3), (16, .arraylength, 1), (17, .if_icmp .lt 5, 3), (20, .iconst 0, 1), (21, .ireturn, 1), (22, .aload_n 0, 1), (23, .getfield 20, 3), (26, .iload_n 2, 1), (27, .iaload, 1), (28, .bipush (-2), 2), (30, .if_icmp .ne 27, 3), (33, .iload_n 1, 1), (34, .bipush 41, 2), (36, .if_icmp .eq 5, 3), (39, .iconst 0, 1), (40, .ireturn, 1), (41, .aload_n 0, 1), (42, .dup, 1), (43, .getfield 28, 3), (46, .iconst 1, 1), (47, .isub, 1), (48, .putfield 28, 3), (51, .aload_n 0, 1), (52, .invokevirtual 70, 3), (55, .iconst 1, 1), (56, .ireturn, 1), (57, .iload_n 1, 1), (58, .bipush 118, 2), (60, .if_icmp .eq 11, 3), (63, .iload_n 1, 1), (64, .bipush 62, 2), (66, .if_icmp .eq 5, 3), (69, .iconst 0, 1), (70, .ireturn, 1), (71, .aload_n 0, 1), (72, .getfield 14, 3), (75, .aload_n 0, 1), (76, .getfield 20, 3), (79, .iload_n 2, 1), (80, .iaload, 1), (81, .iload_n 1, 1), (82, .invokevirtual 73, 3), (85, .aload_n 0, 1), (86, .getfield 20, 3), (89, .iload_n 2, 1), (90, .bipush (-2), 2), (92, .iastore, 1), (93, .aload_n 0, 1), (94, .iconst 1, 1), (95, .putfield 32, 3), (98, .iconst 1, 1), (99, .ireturn, 1)]
theorem dtX2_goesOn_0 : kDec cX2_goesOn lX2_goesOn_0 = true := by decide +kernel
noncomputable def fX2_goesOn (x0 : Nat) (x1 : Int32) (w : kW) : Option (Int32 × kW) :=
  (kgI w 2 (some x0) 3).bind fun v1 =>
  if (v1 - (1 : Int32)) < 0 then
  some ((0 : Int32), w)
  else
  (kgP w 2 (some x0) 1).bind fun v2 =>
  (kal w 14 v2).bind fun v3 =>
  if (v1 - (1 : Int32)) < v3 then
  (kgP w 2 (some x0) 1).bind fun v4 =>
  (kaI w 14 v4 (v1 - (1 : Int32))).bind fun v5 =>
  if v5 = (-2 : Int32) then
  if x1 = (41 : Int32) then
  (kgI w 2 (some x0) 3).bind fun v24 =>
  (kpI w 2 (some x0) 3 (v24 - (1 : Int32))).bind fun w25 =>
  (kRc w25 2 (some x0)).bind fun b26 =>
  (fX2_endPart b26 w25).bind fun w27 =>
  some ((1 : Int32), w27)
  else
  some ((0 : Int32), w)
  else
  if x1 = (118 : Int32) then
  (kgP w 2 (some x0) 0).bind fun v6 =>
  (kgP w 2 (some x0) 1).bind fun v7 =>
  (kaI w 14 v7 (v1 - (1 : Int32))).bind fun v8 =>
  (kRc w 1 v6).bind fun b9 =>
  (fX1_setSign b9 v8 x1 w).bind fun w10 =>
  (kgP w10 2 (some x0) 1).bind fun v12 =>
  (ksI w10 14 v12 (v1 - (1 : Int32)) (-2 : Int32)).bind fun w13 =>
  (kpI w13 2 (some x0) 4 (1 : Int32)).bind fun w14 =>
  some ((1 : Int32), w14)
  else
  if x1 = (62 : Int32) then
  (kgP w 2 (some x0) 0).bind fun v15 =>
  (kgP w 2 (some x0) 1).bind fun v16 =>
  (kaI w 14 v16 (v1 - (1 : Int32))).bind fun v17 =>
  (kRc w 1 v15).bind fun b18 =>
  (fX1_setSign b18 v17 x1 w).bind fun w19 =>
  (kgP w19 2 (some x0) 1).bind fun v21 =>
  (ksI w19 14 v21 (v1 - (1 : Int32)) (-2 : Int32)).bind fun w22 =>
  (kpI w22 2 (some x0) 4 (1 : Int32)).bind fun w23 =>
  some ((1 : Int32), w23)
  else
  some ((0 : Int32), w)
  else
  some ((0 : Int32), w)

set_option maxHeartbeats 4000000 in
set_option maxRecDepth 100000 in
theorem rX2_goesOn (l : Launch) (D : va_G) (aC : Nat → ClassId) {x0 : Nat} {x1 : Int32} {w : kW} {wR : kW} {oR : Int32} (h : fX2_goesOn x0 x1 w = some (oR, wR)) : kC l D aC yX2_goesOn cX2_goesOn 3 (some .boolean) 2 34 [.ref x0, .int x1] w (some (.int oR)) wR 0 0 := by
  refine kOf (own := RX2) (by decide) rfl (Nat.le_of_ble_eq_true rfl) ?_
  intro p e s m below meth c ls F hml hr hlocks hnm hX hZ hl
  obtain ⟨hx, hb, hts, hown, hK⟩ := id F
  have hl : lv_has ls 3 [(0, .ref x0), (1, .int x1)] := hl
  have hf := h
  rw [fX2_goesOn] at hf
  refine lv_aload_n hx hb (kd dtX2_goesOn_0 0 rfl) rfl (lv_at hl 0 rfl) ?_
  obtain ⟨v1, hv1, hf⟩ := kbind hf
  refine kgetI hv1 F hX hinX2 rfl rfl rfl (by decide) (by decide) wfX2_28 (kd dtX2_goesOn_0 1 rfl) ?_
  refine lv_iconst (v := (1 : Int32)) hx hb (kd dtX2_goesOn_0 2 rfl) (by decide) ?_
  refine lv_isub hx hb (kd dtX2_goesOn_0 3 rfl) ?_
  refine lv_istore_n (lv' := [(2, .int (v1 - (1 : Int32))), (0, .ref x0), (1, .int x1)]) hx hb (kd dtX2_goesOn_0 4 rfl) rfl hl (by decide) rfl (fun ls hl => ?_)
  refine lv_iload_n hx hb (kd dtX2_goesOn_0 5 rfl) rfl (lv_at hl 0 rfl) ?_
  refine lv_if_lt (tgt := 20) hx hb (kd dtX2_goesOn_0 6 rfl) (by decide) (fun hc => ?_) (fun hc => ?_)
  · have hf := kif_pos hc hf
    refine lv_iconst (v := (0 : Int32)) hx hb (kd dtX2_goesOn_0 12 rfl) (by decide) ?_
    cases hf
    exact kzret F hX hr hlocks rfl rfl (kd dtX2_goesOn_0 13 rfl)
  · have hf := kif_neg hc hf
    refine lv_iload_n hx hb (kd dtX2_goesOn_0 7 rfl) rfl (lv_at hl 0 rfl) ?_
    refine lv_aload_n hx hb (kd dtX2_goesOn_0 8 rfl) rfl (lv_at hl 1 rfl) ?_
    obtain ⟨v2, hv2, hf⟩ := kbind hf
    refine kgetP hv2 F hX hinX2 rfl rfl rfl (by decide) (by decide) wfX2_20 (kd dtX2_goesOn_0 9 rfl) ?_
    obtain ⟨v3, hv3, hf⟩ := kbind hf
    refine kalen hv3 (by decide) (by decide) F hX (kd dtX2_goesOn_0 10 rfl) ?_
    refine lv_icmp_lt (tgt := 22) hx hb (kd dtX2_goesOn_0 11 rfl) (by decide) (fun hc => ?_) (fun hc => ?_)
    · have hf := kif_pos hc hf
      refine lv_aload_n hx hb (kd dtX2_goesOn_0 14 rfl) rfl (lv_at hl 1 rfl) ?_
      obtain ⟨v4, hv4, hf⟩ := kbind hf
      refine kgetP hv4 F hX hinX2 rfl rfl rfl (by decide) (by decide) wfX2_20 (kd dtX2_goesOn_0 15 rfl) ?_
      refine lv_iload_n hx hb (kd dtX2_goesOn_0 16 rfl) rfl (lv_at hl 0 rfl) ?_
      obtain ⟨v5, hv5, hf⟩ := kbind hf
      refine kald hv5 F hX (kd dtX2_goesOn_0 17 rfl) ?_
      refine lv_bipush (v := (-2 : Int32)) hx hb (kd dtX2_goesOn_0 18 rfl) (by decide) ?_
      refine lv_icmp_ne (tgt := 57) hx hb (kd dtX2_goesOn_0 19 rfl) (by decide) (fun hc => ?_) (fun hc => ?_)
      · have hf := kif_neg hc hf
        refine lv_iload_n hx hb (kd dtX2_goesOn_0 35 rfl) rfl (lv_at hl 2 rfl) ?_
        refine lv_bipush (v := (118 : Int32)) hx hb (kd dtX2_goesOn_0 36 rfl) (by decide) ?_
        refine lv_icmp_eq (tgt := 71) hx hb (kd dtX2_goesOn_0 37 rfl) (by decide) (fun hc => ?_) (fun hc => ?_)
        · have hf := kif_pos hc hf
          refine lv_aload_n hx hb (kd dtX2_goesOn_0 43 rfl) rfl (lv_at hl 1 rfl) ?_
          obtain ⟨v6, hv6, hf⟩ := kbind hf
          refine kgetP hv6 F hX hinX2 rfl rfl rfl (by decide) (by decide) wfX2_14 (kd dtX2_goesOn_0 44 rfl) ?_
          refine lv_aload_n hx hb (kd dtX2_goesOn_0 45 rfl) rfl (lv_at hl 1 rfl) ?_
          obtain ⟨v7, hv7, hf⟩ := kbind hf
          refine kgetP hv7 F hX hinX2 rfl rfl rfl (by decide) (by decide) wfX2_20 (kd dtX2_goesOn_0 46 rfl) ?_
          refine lv_iload_n hx hb (kd dtX2_goesOn_0 47 rfl) rfl (lv_at hl 0 rfl) ?_
          obtain ⟨v8, hv8, hf⟩ := kbind hf
          refine kald hv8 F hX (kd dtX2_goesOn_0 48 rfl) ?_
          refine lv_iload_n hx hb (kd dtX2_goesOn_0 49 rfl) rfl (lv_at hl 2 rfl) ?_
          obtain ⟨b9, hb9, hf⟩ := kbind hf
          obtain ⟨hrb9, hkb9⟩ := kRc_s hb9
          obtain ⟨w10, h11, hf⟩ := kbind hf
          refine kcallV (n := 2) [.int v8, .int x1] [] [] (rX1_setSign l D aC h11) hrb9 hkb9 F hml hX hZ hl.1 mwX1_setSign wmX2_73 rfl (by decide) (by decide +kernel) ⟨(by decide), (by decide)⟩ rfl rfl rfl (Nat.le_of_ble_eq_true rfl) (kd dtX2_goesOn_0 50 rfl) ⟨Nat.zero_le _, Nat.zero_le _⟩ (fun H locs hX => ?_)
          refine lv_aload_n hx hb (kd dtX2_goesOn_0 51 rfl) rfl (lv_at hl 1 rfl) ?_
          obtain ⟨v12, hv12, hf⟩ := kbind hf
          refine kgetP hv12 F hX hinX2 rfl rfl rfl (by decide) (by decide) wfX2_20 (kd dtX2_goesOn_0 52 rfl) ?_
          refine lv_iload_n hx hb (kd dtX2_goesOn_0 53 rfl) rfl (lv_at hl 0 rfl) ?_
          refine lv_bipush (v := (-2 : Int32)) hx hb (kd dtX2_goesOn_0 54 rfl) (by decide) ?_
          obtain ⟨w13, hw13, hf⟩ := kbind hf
          refine kast hw13 F hX (kd dtX2_goesOn_0 55 rfl) (fun H locs hX => ?_)
          refine lv_aload_n hx hb (kd dtX2_goesOn_0 56 rfl) rfl (lv_at hl 1 rfl) ?_
          refine lv_iconst (v := (1 : Int32)) hx hb (kd dtX2_goesOn_0 57 rfl) (by decide) ?_
          obtain ⟨w14, hw14, hf⟩ := kbind hf
          refine kputI hw14 F hX hinX2 tyX2_ok nmX2 rfl rfl rfl (by decide) (by decide) wfX2_32 rfl rfl (Or.inl rfl) (kd dtX2_goesOn_0 58 rfl) (fun H locs hX => ?_)
          refine lv_iconst (v := (1 : Int32)) hx hb (kd dtX2_goesOn_0 59 rfl) (by decide) ?_
          cases hf
          exact kzret F hX hr hlocks rfl rfl (kd dtX2_goesOn_0 60 rfl)
        · have hf := kif_neg hc hf
          refine lv_iload_n hx hb (kd dtX2_goesOn_0 38 rfl) rfl (lv_at hl 2 rfl) ?_
          refine lv_bipush (v := (62 : Int32)) hx hb (kd dtX2_goesOn_0 39 rfl) (by decide) ?_
          refine lv_icmp_eq (tgt := 71) hx hb (kd dtX2_goesOn_0 40 rfl) (by decide) (fun hc => ?_) (fun hc => ?_)
          · have hf := kif_pos hc hf
            refine lv_aload_n hx hb (kd dtX2_goesOn_0 43 rfl) rfl (lv_at hl 1 rfl) ?_
            obtain ⟨v15, hv15, hf⟩ := kbind hf
            refine kgetP hv15 F hX hinX2 rfl rfl rfl (by decide) (by decide) wfX2_14 (kd dtX2_goesOn_0 44 rfl) ?_
            refine lv_aload_n hx hb (kd dtX2_goesOn_0 45 rfl) rfl (lv_at hl 1 rfl) ?_
            obtain ⟨v16, hv16, hf⟩ := kbind hf
            refine kgetP hv16 F hX hinX2 rfl rfl rfl (by decide) (by decide) wfX2_20 (kd dtX2_goesOn_0 46 rfl) ?_
            refine lv_iload_n hx hb (kd dtX2_goesOn_0 47 rfl) rfl (lv_at hl 0 rfl) ?_
            obtain ⟨v17, hv17, hf⟩ := kbind hf
            refine kald hv17 F hX (kd dtX2_goesOn_0 48 rfl) ?_
            refine lv_iload_n hx hb (kd dtX2_goesOn_0 49 rfl) rfl (lv_at hl 2 rfl) ?_
            obtain ⟨b18, hb18, hf⟩ := kbind hf
            obtain ⟨hrb18, hkb18⟩ := kRc_s hb18
            obtain ⟨w19, h20, hf⟩ := kbind hf
            refine kcallV (n := 2) [.int v17, .int x1] [] [] (rX1_setSign l D aC h20) hrb18 hkb18 F hml hX hZ hl.1 mwX1_setSign wmX2_73 rfl (by decide) (by decide +kernel) ⟨(by decide), (by decide)⟩ rfl rfl rfl (Nat.le_of_ble_eq_true rfl) (kd dtX2_goesOn_0 50 rfl) ⟨Nat.zero_le _, Nat.zero_le _⟩ (fun H locs hX => ?_)
            refine lv_aload_n hx hb (kd dtX2_goesOn_0 51 rfl) rfl (lv_at hl 1 rfl) ?_
            obtain ⟨v21, hv21, hf⟩ := kbind hf
            refine kgetP hv21 F hX hinX2 rfl rfl rfl (by decide) (by decide) wfX2_20 (kd dtX2_goesOn_0 52 rfl) ?_
            refine lv_iload_n hx hb (kd dtX2_goesOn_0 53 rfl) rfl (lv_at hl 0 rfl) ?_
            refine lv_bipush (v := (-2 : Int32)) hx hb (kd dtX2_goesOn_0 54 rfl) (by decide) ?_
            obtain ⟨w22, hw22, hf⟩ := kbind hf
            refine kast hw22 F hX (kd dtX2_goesOn_0 55 rfl) (fun H locs hX => ?_)
            refine lv_aload_n hx hb (kd dtX2_goesOn_0 56 rfl) rfl (lv_at hl 1 rfl) ?_
            refine lv_iconst (v := (1 : Int32)) hx hb (kd dtX2_goesOn_0 57 rfl) (by decide) ?_
            obtain ⟨w23, hw23, hf⟩ := kbind hf
            refine kputI hw23 F hX hinX2 tyX2_ok nmX2 rfl rfl rfl (by decide) (by decide) wfX2_32 rfl rfl (Or.inl rfl) (kd dtX2_goesOn_0 58 rfl) (fun H locs hX => ?_)
            refine lv_iconst (v := (1 : Int32)) hx hb (kd dtX2_goesOn_0 59 rfl) (by decide) ?_
            cases hf
            exact kzret F hX hr hlocks rfl rfl (kd dtX2_goesOn_0 60 rfl)
          · have hf := kif_neg hc hf
            refine lv_iconst (v := (0 : Int32)) hx hb (kd dtX2_goesOn_0 41 rfl) (by decide) ?_
            cases hf
            exact kzret F hX hr hlocks rfl rfl (kd dtX2_goesOn_0 42 rfl)
      · have hf := kif_pos hc hf
        refine lv_iload_n hx hb (kd dtX2_goesOn_0 20 rfl) rfl (lv_at hl 2 rfl) ?_
        refine lv_bipush (v := (41 : Int32)) hx hb (kd dtX2_goesOn_0 21 rfl) (by decide) ?_
        refine lv_icmp_eq (tgt := 41) hx hb (kd dtX2_goesOn_0 22 rfl) (by decide) (fun hc => ?_) (fun hc => ?_)
        · have hf := kif_pos hc hf
          refine lv_aload_n hx hb (kd dtX2_goesOn_0 25 rfl) rfl (lv_at hl 1 rfl) ?_
          refine lv_dup hx hb (kd dtX2_goesOn_0 26 rfl) rfl ?_
          obtain ⟨v24, hv24, hf⟩ := kbind hf
          refine kgetI hv24 F hX hinX2 rfl rfl rfl (by decide) (by decide) wfX2_28 (kd dtX2_goesOn_0 27 rfl) ?_
          refine lv_iconst (v := (1 : Int32)) hx hb (kd dtX2_goesOn_0 28 rfl) (by decide) ?_
          refine lv_isub hx hb (kd dtX2_goesOn_0 29 rfl) ?_
          obtain ⟨w25, hw25, hf⟩ := kbind hf
          refine kputI hw25 F hX hinX2 tyX2_ok nmX2 rfl rfl rfl (by decide) (by decide) wfX2_28 rfl rfl (Or.inl rfl) (kd dtX2_goesOn_0 30 rfl) (fun H locs hX => ?_)
          refine lv_aload_n hx hb (kd dtX2_goesOn_0 31 rfl) rfl (lv_at hl 1 rfl) ?_
          obtain ⟨b26, hb26, hf⟩ := kbind hf
          obtain ⟨hrb26, hkb26⟩ := kRc_s hb26
          obtain ⟨w27, h28, hf⟩ := kbind hf
          refine kcallV (n := 0) [] [] [] (rX2_endPart l D aC h28) hrb26 hkb26 F hml hX hZ hl.1 mwX2_endPart wmX2_70 rfl (by decide) (by decide +kernel) ⟨(by decide), (by decide)⟩ rfl rfl rfl (Nat.le_of_ble_eq_true rfl) (kd dtX2_goesOn_0 32 rfl) ⟨Nat.zero_le _, Nat.zero_le _⟩ (fun H locs hX => ?_)
          refine lv_iconst (v := (1 : Int32)) hx hb (kd dtX2_goesOn_0 33 rfl) (by decide) ?_
          cases hf
          exact kzret F hX hr hlocks rfl rfl (kd dtX2_goesOn_0 34 rfl)
        · have hf := kif_neg hc hf
          refine lv_iconst (v := (0 : Int32)) hx hb (kd dtX2_goesOn_0 23 rfl) (by decide) ?_
          cases hf
          exact kzret F hX hr hlocks rfl rfl (kd dtX2_goesOn_0 24 rfl)
    · have hf := kif_neg hc hf
      refine lv_iconst (v := (0 : Int32)) hx hb (kd dtX2_goesOn_0 12 rfl) (by decide) ?_
      cases hf
      exact kzret F hX hr hlocks rfl rfl (kd dtX2_goesOn_0 13 rfl)
theorem wmX2_60 : Cond.methodLink RX2 60 yX2_goesOn ∈ kT := kTm 538 (by decide +kernel) rfl
theorem mwX2_goesOn : kMV RX2 yX2_goesOn cX2_goesOn 3 (some .boolean) := ⟨kTm 541 (by decide +kernel) rfl, kTm 96 (by decide +kernel) rfl, kTm 540 (by decide +kernel) rfl, kTm 5 (by decide +kernel) rfl⟩
theorem wmX2_57 : Cond.methodLink RX2 57 yX2_begins ∈ kT := kTm 523 (by decide +kernel) rfl
theorem mwX2_begins : kMV RX2 yX2_begins cX2_begins 2 (some .boolean) := ⟨kTm 526 (by decide +kernel) rfl, kTm 96 (by decide +kernel) rfl, kTm 525 (by decide +kernel) rfl, kTm 3 (by decide +kernel) rfl⟩
def lX2_accepts_0 : List (Nat × Instr × Nat) := [(0, .aload_n 0, 1), (1, .getfield 32, 3), (4, .ifCond .eq 11, 3), (7, .aload_n 0, 1), (8, .iload_n 1, 1), (9, .invokevirtual 57, 3), (12, .goto 8, 3), (15, .aload_n 0, 1), (16, .iload_n 1, 1), (17, .invokevirtual 60, 3), (20, .ireturn, 1)]
theorem dtX2_accepts_0 : kDec cX2_accepts lX2_accepts_0 = true := by decide +kernel
noncomputable def fX2_accepts (x0 : Nat) (x1 : Int32) (w : kW) : Option (Int32 × kW) :=
  (kgI w 2 (some x0) 4).bind fun v1 =>
  if v1 = 0 then
  (kRc w 2 (some x0)).bind fun b2 =>
  kb2 (fX2_goesOn b2 x1 w) fun v5 w3 =>
  (kBl v5).bind fun v6 =>
  some (v6, w3)
  else
  (kRc w 2 (some x0)).bind fun b7 =>
  kb2 (fX2_begins b7 x1 w) fun v10 w8 =>
  (kBl v10).bind fun v11 =>
  some (v11, w8)

set_option maxHeartbeats 4000000 in
set_option maxRecDepth 100000 in
theorem rX2_accepts (l : Launch) (D : va_G) (aC : Nat → ClassId) {x0 : Nat} {x1 : Int32} {w : kW} {wR : kW} {oR : Int32} (h : fX2_accepts x0 x1 w = some (oR, wR)) : kC l D aC yX2_accepts cX2_accepts 2 (some .boolean) 3 56 [.ref x0, .int x1] w (some (.int oR)) wR 0 0 := by
  refine kOf (own := RX2) (by decide) rfl (Nat.le_of_ble_eq_true rfl) ?_
  intro p e s m below meth c ls F hml hr hlocks hnm hX hZ hl
  obtain ⟨hx, hb, hts, hown, hK⟩ := id F
  have hl : lv_has ls 2 [(0, .ref x0), (1, .int x1)] := hl
  have hf := h
  rw [fX2_accepts] at hf
  refine lv_aload_n hx hb (kd dtX2_accepts_0 0 rfl) rfl (lv_at hl 0 rfl) ?_
  obtain ⟨v1, hv1, hf⟩ := kbind hf
  refine kgetI hv1 F hX hinX2 rfl rfl rfl (by decide) (by decide) wfX2_32 (kd dtX2_accepts_0 1 rfl) ?_
  refine lv_if_eq (tgt := 15) hx hb (kd dtX2_accepts_0 2 rfl) (by decide) (fun hc => ?_) (fun hc => ?_)
  · have hf := kif_pos hc hf
    refine lv_aload_n hx hb (kd dtX2_accepts_0 7 rfl) rfl (lv_at hl 0 rfl) ?_
    refine lv_iload_n hx hb (kd dtX2_accepts_0 8 rfl) rfl (lv_at hl 1 rfl) ?_
    obtain ⟨b2, hb2, hf⟩ := kbind hf
    obtain ⟨hrb2, hkb2⟩ := kRc_s hb2
    obtain ⟨v5, w3, h4, hf⟩ := kbind2 hf
    refine kcallV (n := 1) [.int x1] [] [.int v5] (rX2_goesOn l D aC h4) hrb2 hkb2 F hml hX hZ hl.1 mwX2_goesOn wmX2_60 rfl (by decide) (by decide +kernel) ⟨(by decide), (by decide)⟩ rfl rfl rfl (Nat.le_of_ble_eq_true rfl) (kd dtX2_accepts_0 9 rfl) ⟨Nat.zero_le _, Nat.zero_le _⟩ (fun H locs hX => ?_)
    obtain ⟨v6, hv6, hf⟩ := kbind hf
    obtain rfl := kBl_e hv6
    cases hf
    exact kzret F hX hr hlocks hv6 rfl (kd dtX2_accepts_0 10 rfl)
  · have hf := kif_neg hc hf
    refine lv_aload_n hx hb (kd dtX2_accepts_0 3 rfl) rfl (lv_at hl 0 rfl) ?_
    refine lv_iload_n hx hb (kd dtX2_accepts_0 4 rfl) rfl (lv_at hl 1 rfl) ?_
    obtain ⟨b7, hb7, hf⟩ := kbind hf
    obtain ⟨hrb7, hkb7⟩ := kRc_s hb7
    obtain ⟨v10, w8, h9, hf⟩ := kbind2 hf
    refine kcallV (n := 1) [.int x1] [] [.int v10] (rX2_begins l D aC h9) hrb7 hkb7 F hml hX hZ hl.1 mwX2_begins wmX2_57 rfl (by decide) (by decide +kernel) ⟨(by decide), (by decide)⟩ rfl rfl rfl (Nat.le_of_ble_eq_true rfl) (kd dtX2_accepts_0 5 rfl) ⟨Nat.zero_le _, Nat.zero_le _⟩ (fun H locs hX => ?_)
    refine lv_goto (tgt := 20) hx hb (kd dtX2_accepts_0 6 rfl) (by decide) ?_
    obtain ⟨v11, hv11, hf⟩ := kbind hf
    obtain rfl := kBl_e hv11
    cases hf
    exact kzret F hX hr hlocks hv11 rfl (kd dtX2_accepts_0 10 rfl)
theorem wmX2_36 : Cond.methodLink RX2 36 yX1_clear ∈ kT := kTm 515 (by decide +kernel) rfl
theorem wmX2_39 : Cond.methodLink RX2 39 yX2_accepts ∈ kT := kTm 519 (by decide +kernel) rfl
theorem mwX2_accepts : kMV RX2 yX2_accepts cX2_accepts 2 (some .boolean) := ⟨kTm 522 (by decide +kernel) rfl, kTm 96 (by decide +kernel) rfl, kTm 521 (by decide +kernel) rfl, kTm 2 (by decide +kernel) rfl⟩
def lX2_readText_0 : List (Nat × Instr × Nat) := [(0, .aload_n 0, 1), (1, .getfield 14, 3), (4, .invokevirtual 36, 3), (7, .aload_n 0, 1), (8, .iconst 0, 1), (9, .putfield 28, 3), (12, .aload_n 0, 1), (13, .iconst 1, 1), (14, .putfield 32, 3), (17, .iconst 0, 1), (18, .istore_n 3, 1), (19, .iload_n 3, 1), (20, .iload_n 2, 1), (21, .if_icmp .ge 33, 3), (24, .iload_n 3, 1), (25, .aload_n 1, 1), (26, .arraylength, 1), (27, .if_icmp .ge 27, 3), (30, .iload_n 3, 1), (31, .bipush 60, 2), (33, .if_icmp .ge 13, 3), (36, .aload_n 0, 1), (37, .aload_n 1, 1), (38, .iload_n 3, 1), (39, .iaload, 1), (40, .invokevirtual 39, 3), (43, .ifCond .ne 5, 3), (46, .iload_n 3, 1), (47, .ireturn, 1), (48, .iinc 3 1, 3), (51, .goto (-32), 3), (54, .aload_n 0, 1), (55, .getfield 32, 3), (58, .ifCond .ne 15, 3), (61, .aload_n 0, 1), (62, .getfield 28, 3), (65, .ifCond .ne 8, 3), (68, .bipush (-4), 2), (70, .goto 4, 3), (73, .iload_n 2, 1), (74, .ireturn, 1)]
theorem dtX2_readText_0 : kDec cX2_readText lX2_readText_0 = true := by decide +kernel
noncomputable def fX2_readText_L19 (x0 : Nat) (x1 : Option Nat) (x2 : Int32) : Nat → (Int32 → kW → Option (Int32 × kW)) → Int32 → kW → Option (Int32 × kW)
  | 0, _, _, _ => none
  | n + 1, k, x3, w =>
  if x2 ≤ x3 then
  k x3 w
  else
  (kal w 14 x1).bind fun v1 =>
  if v1 ≤ x3 then
  k x3 w
  else
  if (60 : Int32) ≤ x3 then
  some (x3, w)
  else
  (kaI w 14 x1 x3).bind fun v2 =>
  (kRc w 2 (some x0)).bind fun b3 =>
  kb2 (fX2_accepts b3 v2 w) fun v6 w4 =>
  if v6 = 0 then
  some (x3, w4)
  else
  fX2_readText_L19 x0 x1 x2 n k (x3 + (1 : Int32)) w4

noncomputable def fX2_readText (x0 : Nat) (x1 : Option Nat) (x2 : Int32) (w : kW) : Option (Int32 × kW) :=
  (kgP w 2 (some x0) 0).bind fun v1 =>
  (kRc w 1 v1).bind fun b2 =>
  (fX1_clear b2 w).bind fun w3 =>
  (kpI w3 2 (some x0) 3 (0 : Int32)).bind fun w5 =>
  (kpI w5 2 (some x0) 4 (1 : Int32)).bind fun w6 =>
  fX2_readText_L19 x0 x1 x2 kFU (fun y3_7 w8 => (kgI w8 2 (some x0) 4).bind fun v9 =>
  if v9 = 0 then
  (kgI w8 2 (some x0) 3).bind fun v10 =>
  if v10 = 0 then
  some ((-4 : Int32), w8)
  else
  some (x2, w8)
  else
  some (x2, w8)) (0 : Int32) w6

set_option maxHeartbeats 4000000 in
set_option maxRecDepth 100000 in
theorem rX2_readText (l : Launch) (D : va_G) (aC : Nat → ClassId) {x0 : Nat} {x1 : Option Nat} {x2 : Int32} {w : kW} {wR : kW} {oR : Int32} (h : fX2_readText x0 x1 x2 w = some (oR, wR)) : kC l D aC yX2_readText cX2_readText 4 (some .int) 4 77 [.ref x0, va_rf x1, .int x2] w (some (.int oR)) wR 0 0 := by
  refine kOf (own := RX2) (by decide) rfl (by simp [lg_sl, kcat_rf, kcat_i, kcat_r, kcat_l]) ?_
  intro p e s m below meth c ls F hml hr hlocks hnm hX hZ hl
  obtain ⟨hx, hb, hts, hown, hK⟩ := id F
  have hl : lv_has ls 4 [(0, .ref x0), (1, va_rf x1), (2, .int x2)] := by simpa [lv_args, kcat_rf, kcat_i, kcat_r, kcat_l] using hl
  have hf := h
  rw [fX2_readText] at hf
  refine lv_aload_n hx hb (kd dtX2_readText_0 0 rfl) rfl (lv_at hl 0 rfl) ?_
  obtain ⟨v1, hv1, hf⟩ := kbind hf
  refine kgetP hv1 F hX hinX2 rfl rfl rfl (by decide) (by decide) wfX2_14 (kd dtX2_readText_0 1 rfl) ?_
  obtain ⟨b2, hb2, hf⟩ := kbind hf
  obtain ⟨hrb2, hkb2⟩ := kRc_s hb2
  obtain ⟨w3, h4, hf⟩ := kbind hf
  refine kcallV (n := 0) [] [] [] (rX1_clear l D aC h4) hrb2 hkb2 F hml hX hZ hl.1 mwX1_clear wmX2_36 rfl (by decide) (by decide +kernel) ⟨(by decide), (by decide)⟩ rfl rfl rfl (Nat.le_of_ble_eq_true rfl) (kd dtX2_readText_0 2 rfl) ⟨Nat.zero_le _, Nat.zero_le _⟩ (fun H locs hX => ?_)
  refine lv_aload_n hx hb (kd dtX2_readText_0 3 rfl) rfl (lv_at hl 0 rfl) ?_
  refine lv_iconst (v := (0 : Int32)) hx hb (kd dtX2_readText_0 4 rfl) (by decide) ?_
  obtain ⟨w5, hw5, hf⟩ := kbind hf
  refine kputI hw5 F hX hinX2 tyX2_ok nmX2 rfl rfl rfl (by decide) (by decide) wfX2_28 rfl rfl (Or.inl rfl) (kd dtX2_readText_0 5 rfl) (fun H locs hX => ?_)
  refine lv_aload_n hx hb (kd dtX2_readText_0 6 rfl) rfl (lv_at hl 0 rfl) ?_
  refine lv_iconst (v := (1 : Int32)) hx hb (kd dtX2_readText_0 7 rfl) (by decide) ?_
  obtain ⟨w6, hw6, hf⟩ := kbind hf
  refine kputI hw6 F hX hinX2 tyX2_ok nmX2 rfl rfl rfl (by decide) (by decide) wfX2_32 rfl rfl (Or.inl rfl) (kd dtX2_readText_0 8 rfl) (fun H locs hX => ?_)
  refine lv_iconst (v := (0 : Int32)) hx hb (kd dtX2_readText_0 9 rfl) (by decide) ?_
  refine lv_istore_n (lv' := [(3, .int (0 : Int32)), (0, .ref x0), (1, va_rf x1), (2, .int x2)]) hx hb (kd dtX2_readText_0 10 rfl) rfl hl (by decide) rfl (fun ls hl => ?_)
  have hL19 : ∀ (n : Nat) (k : Int32 → kW → Option (Int32 × kW)), ∀ (z3_19 : Int32) (w_19 : kW) (H : Heap) (locs : List Loc) (ls : Array Slot), kX D aC w s.heap w_19 H locs → lv_has ls 4 [(0, .ref x0), (1, va_rf x1), (2, .int x2), (3, .int z3_19)] → fX2_readText_L19 x0 x1 x2 n k z3_19 w_19 = some (oR, wR) → (∀ (z3_19 : Int32) (w_19 : kW) (H : Heap) (locs : List Loc) (ls : Array Slot), kX D aC w s.heap w_19 H locs → lv_has ls 4 [(0, .ref x0), (1, va_rf x1), (2, .int x2), (3, .int z3_19)] → k z3_19 w_19 = some (oR, wR) → W p l e { frames := 4, cells := 0, slots := 0, locals := 77 } s m ([.ref x0, va_rf x1, .int x2] : List Value).toArray below meth c H locs 0 0 (MQ below (kQc D aC w (some (.int oR)) wR) ([.ref x0, va_rf x1, .int x2] : List Value).toArray s 0 0 (kA w)) (F0 m 54 ls [])) → W p l e { frames := 4, cells := 0, slots := 0, locals := 77 } s m ([.ref x0, va_rf x1, .int x2] : List Value).toArray below meth c H locs 0 0 (MQ below (kQc D aC w (some (.int oR)) wR) ([.ref x0, va_rf x1, .int x2] : List Value).toArray s 0 0 (kA w)) (F0 m 19 ls []) := by
    intro n k
    induction n with
    | zero =>
      intro z3_19 w_19 H locs ls hX hl hf hk
      rw [fX2_readText_L19] at hf
      cases hf
    | succ n ih =>
      intro z3_19 w_19 H locs ls hX hl hf hk
      rw [fX2_readText_L19] at hf
      refine lv_iload_n hx hb (kd dtX2_readText_0 11 rfl) rfl (lv_at hl 3 rfl) ?_
      refine lv_iload_n hx hb (kd dtX2_readText_0 12 rfl) rfl (lv_at hl 2 rfl) ?_
      refine lv_icmp_ge (tgt := 54) hx hb (kd dtX2_readText_0 13 rfl) (by decide) (fun hc => ?_) (fun hc => ?_)
      · have hf := kif_pos hc hf
        exact hk z3_19 w_19 _ _ _ hX hl hf
      · have hf := kif_neg hc hf
        refine lv_iload_n hx hb (kd dtX2_readText_0 14 rfl) rfl (lv_at hl 3 rfl) ?_
        refine kaload_n hx hb (kd dtX2_readText_0 15 rfl) rfl (lv_at hl 1 rfl) ?_
        obtain ⟨v11, hv11, hf⟩ := kbind hf
        refine kalen hv11 (by decide) (by decide) F hX (kd dtX2_readText_0 16 rfl) ?_
        refine lv_icmp_ge (tgt := 54) hx hb (kd dtX2_readText_0 17 rfl) (by decide) (fun hc => ?_) (fun hc => ?_)
        · have hf := kif_pos hc hf
          exact hk z3_19 w_19 _ _ _ hX hl hf
        · have hf := kif_neg hc hf
          refine lv_iload_n hx hb (kd dtX2_readText_0 18 rfl) rfl (lv_at hl 3 rfl) ?_
          refine lv_bipush (v := (60 : Int32)) hx hb (kd dtX2_readText_0 19 rfl) (by decide) ?_
          refine lv_icmp_ge (tgt := 46) hx hb (kd dtX2_readText_0 20 rfl) (by decide) (fun hc => ?_) (fun hc => ?_)
          · have hf := kif_pos hc hf
            refine lv_iload_n hx hb (kd dtX2_readText_0 27 rfl) rfl (lv_at hl 3 rfl) ?_
            cases hf
            exact kiret F hX hr hlocks rfl (kd dtX2_readText_0 28 rfl)
          · have hf := kif_neg hc hf
            refine lv_aload_n hx hb (kd dtX2_readText_0 21 rfl) rfl (lv_at hl 0 rfl) ?_
            refine kaload_n hx hb (kd dtX2_readText_0 22 rfl) rfl (lv_at hl 1 rfl) ?_
            refine lv_iload_n hx hb (kd dtX2_readText_0 23 rfl) rfl (lv_at hl 3 rfl) ?_
            obtain ⟨v12, hv12, hf⟩ := kbind hf
            refine kald hv12 F hX (kd dtX2_readText_0 24 rfl) ?_
            obtain ⟨b13, hb13, hf⟩ := kbind hf
            obtain ⟨hrb13, hkb13⟩ := kRc_s hb13
            obtain ⟨v16, w14, h15, hf⟩ := kbind2 hf
            refine kcallV (n := 1) [.int v12] [] [.int v16] (rX2_accepts l D aC h15) hrb13 hkb13 F hml hX hZ hl.1 mwX2_accepts wmX2_39 rfl (by decide) (by decide +kernel) ⟨(by decide), (by decide)⟩ rfl rfl rfl (Nat.le_of_ble_eq_true rfl) (kd dtX2_readText_0 25 rfl) ⟨Nat.zero_le _, Nat.zero_le _⟩ (fun H locs hX => ?_)
            refine lv_if_ne (tgt := 48) hx hb (kd dtX2_readText_0 26 rfl) (by decide) (fun hc => ?_) (fun hc => ?_)
            · have hf := kif_neg hc hf
              refine lv_iinc (v := z3_19 + (1 : Int32)) (lv' := [(3, .int (z3_19 + (1 : Int32))), (0, .ref x0), (1, va_rf x1), (2, .int x2)]) hx hb (kd dtX2_readText_0 29 rfl) hl (k := 3) rfl (by rfl) (by decide) rfl (fun ls hl => ?_)
              refine lv_goto (tgt := 19) hx hb (kd dtX2_readText_0 30 rfl) (by decide) ?_
              exact ih (z3_19 + (1 : Int32)) w14 _ _ _ hX (lv_sub hl [1, 2, 3, 0] rfl) hf hk
            · have hf := kif_pos hc hf
              refine lv_iload_n hx hb (kd dtX2_readText_0 27 rfl) rfl (lv_at hl 3 rfl) ?_
              cases hf
              exact kiret F hX hr hlocks rfl (kd dtX2_readText_0 28 rfl)
  refine hL19 kFU _ (0 : Int32) w6 _ _ _ hX (lv_sub hl [1, 2, 3, 0] rfl) hf ?_
  intro y3_7 w8 H locs ls hX hl hf
  refine lv_aload_n hx hb (kd dtX2_readText_0 31 rfl) rfl (lv_at hl 0 rfl) ?_
  obtain ⟨v9, hv9, hf⟩ := kbind hf
  refine kgetI hv9 F hX hinX2 rfl rfl rfl (by decide) (by decide) wfX2_32 (kd dtX2_readText_0 32 rfl) ?_
  refine lv_if_ne (tgt := 73) hx hb (kd dtX2_readText_0 33 rfl) (by decide) (fun hc => ?_) (fun hc => ?_)
  · have hf := kif_neg hc hf
    refine lv_iload_n hx hb (kd dtX2_readText_0 39 rfl) rfl (lv_at hl 2 rfl) ?_
    cases hf
    exact kiret F hX hr hlocks rfl (kd dtX2_readText_0 40 rfl)
  · have hf := kif_pos hc hf
    refine lv_aload_n hx hb (kd dtX2_readText_0 34 rfl) rfl (lv_at hl 0 rfl) ?_
    obtain ⟨v10, hv10, hf⟩ := kbind hf
    refine kgetI hv10 F hX hinX2 rfl rfl rfl (by decide) (by decide) wfX2_28 (kd dtX2_readText_0 35 rfl) ?_
    refine lv_if_ne (tgt := 73) hx hb (kd dtX2_readText_0 36 rfl) (by decide) (fun hc => ?_) (fun hc => ?_)
    · have hf := kif_neg hc hf
      refine lv_iload_n hx hb (kd dtX2_readText_0 39 rfl) rfl (lv_at hl 2 rfl) ?_
      cases hf
      exact kiret F hX hr hlocks rfl (kd dtX2_readText_0 40 rfl)
    · have hf := kif_pos hc hf
      refine lv_bipush (v := (-4 : Int32)) hx hb (kd dtX2_readText_0 37 rfl) (by decide) ?_
      refine lv_goto (tgt := 74) hx hb (kd dtX2_readText_0 38 rfl) (by decide) ?_
      cases hf
      exact kiret F hX hr hlocks rfl (kd dtX2_readText_0 40 rfl)
theorem wmX2_46 : Cond.methodLink RX2 46 yX1_settle ∈ kT := kTm 554 (by decide +kernel) rfl
theorem wmX2_49 : Cond.methodLink RX2 49 yX1_become ∈ kT := kTm 582 (by decide +kernel) rfl
theorem mwX1_become : kMV RX1 yX1_become cX1_become 3 none := ⟨kTm 585 (by decide +kernel) rfl, kTm 97 (by decide +kernel) rfl, kTm 583 (by decide +kernel) rfl, kTm 584 (by decide +kernel) rfl⟩
theorem wmX2_53 : Cond.methodLink RX2 53 yX1_weigh ∈ kT := kTm 597 (by decide +kernel) rfl
theorem mwX1_weigh : kMV RX1 yX1_weigh cX1_weigh 9 none := ⟨kTm 600 (by decide +kernel) rfl, kTm 97 (by decide +kernel) rfl, kTm 598 (by decide +kernel) rfl, kTm 599 (by decide +kernel) rfl⟩
def lX2_madeLine_0 : List (Nat × Instr × Nat) := [(0, .new 9, 3), (3, .dup, 1), (4, .aload_n 0, 1), (5, .getfield 14, 3), (8, .getfield 43, 3), (11, .invokespecial 11, 3), (14, .astore_n 1, 1), (15, .aload_n 0, 1), (16, .getfield 14, 3), (19, .invokevirtual 46, 3), (22, .aload_n 1, 1), (23, .aload_n 0, 1), (24, .getfield 14, 3), (27, .iconst 0, 1), (28, .invokevirtual 49, 3), (31, .aload_n 1, 1), (32, .aload_n 0, 1), (33, .getfield 24, 3), (36, .invokevirtual 53, 3), (39, .aload_n 1, 1), (40, .areturn, 1)]
theorem dtX2_madeLine_0 : kDec cX2_madeLine lX2_madeLine_0 = true := by decide +kernel
noncomputable def fX2_madeLine (x0 : Nat) (w : kW) : Option (Option Nat × kW) :=
  (knO w 1).bind fun w1 =>
  (kgP w1 2 (some x0) 0).bind fun v2 =>
  (kgI w1 1 v2 5).bind fun v3 =>
  (fX1_init (kSz w) v3 w1).bind fun w4 =>
  (kgP w4 2 (some x0) 0).bind fun v6 =>
  (kRc w4 1 v6).bind fun b7 =>
  (fX1_settle b7 w4).bind fun w8 =>
  (kgP w8 2 (some x0) 0).bind fun v10 =>
  (kRc w8 1 (some (kSz w))).bind fun b11 =>
  (fX1_become b11 v10 (0 : Int32) w8).bind fun w12 =>
  (kgP w12 2 (some x0) 2).bind fun v14 =>
  (kRc w12 1 (some (kSz w))).bind fun b15 =>
  (fX1_weigh b15 v14 w12).bind fun w16 =>
  some ((some (kSz w)), w16)

set_option maxHeartbeats 4000000 in
set_option maxRecDepth 100000 in
theorem rX2_madeLine (l : Launch) (D : va_G) (aC : Nat → ClassId) {x0 : Nat} {w : kW} {wR : kW} {oR : Option Nat} (h : fX2_madeLine x0 w = some (oR, wR)) : kC l D aC yX2_madeLine cX2_madeLine 2 (some (.object "KitchenCards$Line")) 4 85 [.ref x0] w (some (va_rf oR)) wR 6 1008 := by
  refine kOf (own := RX2) (by decide) rfl (Nat.le_of_ble_eq_true rfl) ?_
  intro p e s m below meth c ls F hml hr hlocks hnm hX hZ hl
  obtain ⟨hx, hb, hts, hown, hK⟩ := id F
  have hl : lv_has ls 2 [(0, .ref x0)] := hl
  have hf := h
  rw [fX2_madeLine] at hf
  obtain ⟨w1, hw1, hf⟩ := kbind hf
  refine knewo (k := 1) hw1 F hX hinX1 tyX1_ok (by decide +kernel) rfl rfl (by decide) wkX2_9 wnX1 wiX1 (Nat.le_of_ble_eq_true rfl) (Nat.le_of_ble_eq_true rfl) (kd dtX2_madeLine_0 0 rfl) (fun H hX => ?_)
  refine lv_dup hx hb (kd dtX2_madeLine_0 1 rfl) rfl ?_
  refine lv_aload_n hx hb (kd dtX2_madeLine_0 2 rfl) rfl (lv_at hl 0 rfl) ?_
  obtain ⟨v2, hv2, hf⟩ := kbind hf
  refine kgetP hv2 F hX hinX2 rfl rfl rfl (by decide) (by decide) wfX2_14 (kd dtX2_madeLine_0 3 rfl) ?_
  obtain ⟨v3, hv3, hf⟩ := kbind hf
  refine kgetIN hv3 F hX hinX1 rfl rfl rfl (by decide) (by decide) hZ wfX2_43 (kd dtX2_madeLine_0 4 rfl) ?_
  obtain ⟨w4, h5, hf⟩ := kbind hf
  refine kcallI (n := 1) [.int v3] [.ref (kSz w)] [.ref (kSz w)] (rX1_init l D aC h5) F hml hX hZ hl.1 mwX1_init wmX2_11 rfl (by decide +kernel) ⟨(by decide), (by decide)⟩ rfl rfl rfl (Nat.le_of_ble_eq_true rfl) (kd dtX2_madeLine_0 5 rfl) ⟨Nat.le_of_ble_eq_true rfl, Nat.le_of_ble_eq_true rfl⟩ (fun H locs hX => ?_)
  refine lv_astore_n (lv' := [(1, .ref (kSz w)), (0, .ref x0)]) hx hb (kd dtX2_madeLine_0 6 rfl) rfl hl (by decide) rfl (fun ls hl => ?_)
  refine lv_aload_n hx hb (kd dtX2_madeLine_0 7 rfl) rfl (lv_at hl 1 rfl) ?_
  obtain ⟨v6, hv6, hf⟩ := kbind hf
  refine kgetP hv6 F hX hinX2 rfl rfl rfl (by decide) (by decide) wfX2_14 (kd dtX2_madeLine_0 8 rfl) ?_
  obtain ⟨b7, hb7, hf⟩ := kbind hf
  obtain ⟨hrb7, hkb7⟩ := kRc_s hb7
  obtain ⟨w8, h9, hf⟩ := kbind hf
  refine kcallV (n := 0) [] [] [] (rX1_settle l D aC h9) hrb7 hkb7 F hml hX hZ hl.1 mwX1_settle wmX2_46 rfl (by decide) (by decide +kernel) ⟨(by decide), (by decide)⟩ rfl rfl rfl (Nat.le_of_ble_eq_true rfl) (kd dtX2_madeLine_0 9 rfl) ⟨Nat.le_of_ble_eq_true rfl, Nat.le_of_ble_eq_true rfl⟩ (fun H locs hX => ?_)
  refine lv_aload_n hx hb (kd dtX2_madeLine_0 10 rfl) rfl (lv_at hl 0 rfl) ?_
  refine lv_aload_n hx hb (kd dtX2_madeLine_0 11 rfl) rfl (lv_at hl 1 rfl) ?_
  obtain ⟨v10, hv10, hf⟩ := kbind hf
  refine kgetP hv10 F hX hinX2 rfl rfl rfl (by decide) (by decide) wfX2_14 (kd dtX2_madeLine_0 12 rfl) ?_
  refine lv_iconst (v := (0 : Int32)) hx hb (kd dtX2_madeLine_0 13 rfl) (by decide) ?_
  obtain ⟨b11, hb11, hf⟩ := kbind hf
  obtain ⟨hrb11, hkb11⟩ := kRc_s hb11
  obtain ⟨w12, h13, hf⟩ := kbind hf
  refine kcallV (n := 2) [va_rf v10, .int (0 : Int32)] [] [] (rX1_become l D aC h13) hrb11 hkb11 F hml hX hZ hl.1 mwX1_become wmX2_49 rfl (by decide) (by decide +kernel) ⟨(by decide), (by decide)⟩ rfl rfl rfl (Nat.le_of_ble_eq_true rfl) (kd dtX2_madeLine_0 14 rfl) ⟨Nat.le_of_ble_eq_true rfl, Nat.le_of_ble_eq_true rfl⟩ (fun H locs hX => ?_)
  refine lv_aload_n hx hb (kd dtX2_madeLine_0 15 rfl) rfl (lv_at hl 0 rfl) ?_
  refine lv_aload_n hx hb (kd dtX2_madeLine_0 16 rfl) rfl (lv_at hl 1 rfl) ?_
  obtain ⟨v14, hv14, hf⟩ := kbind hf
  refine kgetP hv14 F hX hinX2 rfl rfl rfl (by decide) (by decide) wfX2_24 (kd dtX2_madeLine_0 17 rfl) ?_
  obtain ⟨b15, hb15, hf⟩ := kbind hf
  obtain ⟨hrb15, hkb15⟩ := kRc_s hb15
  obtain ⟨w16, h17, hf⟩ := kbind hf
  refine kcallV (n := 1) [va_rf v14] [] [] (rX1_weigh l D aC h17) hrb15 hkb15 F hml hX hZ hl.1 mwX1_weigh wmX2_53 rfl (by decide) (by decide +kernel) ⟨(by decide), (by decide)⟩ rfl rfl rfl (Nat.le_of_ble_eq_true rfl) (kd dtX2_madeLine_0 18 rfl) ⟨Nat.le_of_ble_eq_true rfl, Nat.le_of_ble_eq_true rfl⟩ (fun H locs hX => ?_)
  refine lv_aload_n hx hb (kd dtX2_madeLine_0 19 rfl) rfl (lv_at hl 0 rfl) ?_
  cases hf
  refine W.widen (k := 6) (n := 1008) (Nat.le_of_ble_eq_true rfl) (Nat.le_of_ble_eq_true rfl) ?_
  exact karet F hX hr hlocks rfl (kd dtX2_madeLine_0 20 rfl)
