def lX11_letterOf_0 : List (Nat × Instr × Nat) := [(0, .iload_n 0, 1), (1, .bipush 112, 2), (3, .if_icmp .lt 16, 3), (6, .iload_n 0, 1), (7, .bipush 117, 2), (9, .if_icmp .gt 10, 3), (12, .iload_n 0, 1), (13, .bipush 112, 2), (15, .isub, 1), (16, .goto 4, 3), (19, .iconst (-1), 1), (20, .ireturn, 1)]
theorem dtX11_letterOf_0 : kDec cX11_letterOf lX11_letterOf_0 = true := by decide +kernel
noncomputable def fX11_letterOf (x0 : Int32) : Option Int32 :=
  if x0 < (112 : Int32) then
  some (-1 : Int32)
  else
  if (117 : Int32) < x0 then
  some (-1 : Int32)
  else
  some (x0 - (112 : Int32))

set_option maxHeartbeats 4000000 in
set_option maxRecDepth 100000 in
theorem rX11_letterOf (l : Launch) (D : va_G) (aC : Nat → ClassId) (w : kW) {x0 : Int32} {oR : Int32} (h : fX11_letterOf x0 = some oR) : kC l D aC yX11_letterOf cX11_letterOf 1 (some .int) 1 12 [.int x0] w (some (.int oR)) w 0 0 := by
  refine kOf (own := RX11) (by decide) rfl (Nat.le_of_ble_eq_true rfl) ?_
  intro p e s m below meth c ls F hml hr hlocks hnm hX hZ hl
  obtain ⟨hx, hb, hts, hown, hK⟩ := id F
  have hl : lv_has ls 1 [(0, .int x0)] := hl
  have hf := h
  rw [fX11_letterOf] at hf
  refine lv_iload_n hx hb (kd dtX11_letterOf_0 0 rfl) rfl (lv_at hl 0 rfl) ?_
  refine lv_bipush (v := (112 : Int32)) hx hb (kd dtX11_letterOf_0 1 rfl) (by decide) ?_
  refine lv_icmp_lt (tgt := 19) hx hb (kd dtX11_letterOf_0 2 rfl) (by decide) (fun hc => ?_) (fun hc => ?_)
  · have hf := kif_pos hc hf
    refine lv_iconst (v := (-1 : Int32)) hx hb (kd dtX11_letterOf_0 10 rfl) (by decide) ?_
    obtain rfl := Option.some.inj hf
    exact kiret F hX hr hlocks rfl (kd dtX11_letterOf_0 11 rfl)
  · have hf := kif_neg hc hf
    refine lv_iload_n hx hb (kd dtX11_letterOf_0 3 rfl) rfl (lv_at hl 0 rfl) ?_
    refine lv_bipush (v := (117 : Int32)) hx hb (kd dtX11_letterOf_0 4 rfl) (by decide) ?_
    refine lv_icmp_gt (tgt := 19) hx hb (kd dtX11_letterOf_0 5 rfl) (by decide) (fun hc => ?_) (fun hc => ?_)
    · have hf := kif_pos hc hf
      refine lv_iconst (v := (-1 : Int32)) hx hb (kd dtX11_letterOf_0 10 rfl) (by decide) ?_
      obtain rfl := Option.some.inj hf
      exact kiret F hX hr hlocks rfl (kd dtX11_letterOf_0 11 rfl)
    · have hf := kif_neg hc hf
      refine lv_iload_n hx hb (kd dtX11_letterOf_0 6 rfl) rfl (lv_at hl 0 rfl) ?_
      refine lv_bipush (v := (112 : Int32)) hx hb (kd dtX11_letterOf_0 7 rfl) (by decide) ?_
      refine lv_isub hx hb (kd dtX11_letterOf_0 8 rfl) ?_
      refine lv_goto (tgt := 20) hx hb (kd dtX11_letterOf_0 9 rfl) (by decide) ?_
      obtain rfl := Option.some.inj hf
      exact kiret F hX hr hlocks rfl (kd dtX11_letterOf_0 11 rfl)
theorem wcJ6_265 : Cond.constant RJ6 265 (1431655765 : Int32) ∈ kT := kTm 611 (by decide +kernel) rfl
theorem wcJ6_266 : Cond.constant RJ6 266 (858993459 : Int32) ∈ kT := kTm 612 (by decide +kernel) rfl
theorem wcJ6_267 : Cond.constant RJ6 267 (252645135 : Int32) ∈ kT := kTm 613 (by decide +kernel) rfl
def lJ6_bitCount_0f7a4_0 : List (Nat × Instr × Nat) := [(0, .iload_n 0, 1), (1, .iload_n 0, 1), (2, .iconst 1, 1), (3, .iushr, 1), (4, .ldc_w 265, 3), (7, .iand, 1), (8, .isub, 1), (9, .istore_n 0, 1), (10, .iload_n 0, 1), (11, .ldc_w 266, 3), (14, .iand, 1), (15, .iload_n 0, 1), (16, .iconst 2, 1), (17, .iushr, 1), (18, .ldc_w 266, 3), (21, .iand, 1), (22, .iadd, 1), (23, .istore_n 0, 1), (24, .iload_n 0, 1), (25, .iload_n 0, 1), (26, .iconst 4, 1), (27, .iushr, 1), (28, .iadd, 1), (29, .ldc_w 267, 3), (32, .iand, 1), (33, .istore_n 0, 1), (34, .iload_n 0, 1), (35, .iload_n 0, 1), (36, .bipush 8, 2), (38, .iushr, 1), (39, .iadd, 1), (40, .istore_n 0, 1), (41, .iload_n 0, 1), (42, .iload_n 0, 1), (43, .bipush 16, 2), (45, .iushr, 1), (46, .iadd, 1), (47, .istore_n 0, 1), (48, .iload_n 0, 1), (49, .bipush 63, 2), (51, .iand, 1), (52, .ireturn, 1)]
theorem dtJ6_bitCount_0f7a4_0 : kDec cJ6_bitCount_0f7a4 lJ6_bitCount_0f7a4_0 = true := by decide +kernel
noncomputable def fJ6_bitCount_0f7a4 (x0 : Int32) : Option Int32 :=
  (some (x0 - (((x0.toUInt32 >>> ((1 : Int32).toUInt32 &&& Int32.toUInt32 31)).toInt32) &&& (1431655765 : Int32)))).bind fun v1 =>
  (some ((v1 &&& (858993459 : Int32)) + (((v1.toUInt32 >>> ((2 : Int32).toUInt32 &&& Int32.toUInt32 31)).toInt32) &&& (858993459 : Int32)))).bind fun v2 =>
  (some ((v2 + ((v2.toUInt32 >>> ((4 : Int32).toUInt32 &&& Int32.toUInt32 31)).toInt32)) &&& (252645135 : Int32))).bind fun v3 =>
  (some (v3 + ((v3.toUInt32 >>> ((8 : Int32).toUInt32 &&& Int32.toUInt32 31)).toInt32))).bind fun v4 =>
  (some (v4 + ((v4.toUInt32 >>> ((16 : Int32).toUInt32 &&& Int32.toUInt32 31)).toInt32))).bind fun v5 =>
  some (v5 &&& (63 : Int32))

set_option maxHeartbeats 4000000 in
set_option maxRecDepth 100000 in
theorem rJ6_bitCount_0f7a4 (l : Launch) (D : va_G) (aC : Nat → ClassId) (w : kW) {x0 : Int32} {oR : Int32} (h : fJ6_bitCount_0f7a4 x0 = some oR) : kC l D aC yJ6_bitCount_0f7a4 cJ6_bitCount_0f7a4 1 (some .int) 1 12 [.int x0] w (some (.int oR)) w 0 0 := by
  refine kOf (own := RJ6) (by decide) rfl (Nat.le_of_ble_eq_true rfl) ?_
  intro p e s m below meth c ls F hml hr hlocks hnm hX hZ hl
  obtain ⟨hx, hb, hts, hown, hK⟩ := id F
  have hl : lv_has ls 1 [(0, .int x0)] := hl
  have hf := h
  rw [fJ6_bitCount_0f7a4] at hf
  refine lv_iload_n hx hb (kd dtJ6_bitCount_0f7a4_0 0 rfl) rfl (lv_at hl 0 rfl) ?_
  refine lv_iload_n hx hb (kd dtJ6_bitCount_0f7a4_0 1 rfl) rfl (lv_at hl 0 rfl) ?_
  refine lv_iconst (v := (1 : Int32)) hx hb (kd dtJ6_bitCount_0f7a4_0 2 rfl) (by decide) ?_
  refine lv_iushr (v := (x0.toUInt32 >>> ((1 : Int32).toUInt32 &&& Int32.toUInt32 31)).toInt32) hx hb (kd dtJ6_bitCount_0f7a4_0 3 rfl) rfl ?_
  refine lv_ldcw (v := (1431655765 : Int32)) hx hb hown (hts _ wcJ6_265) (kd dtJ6_bitCount_0f7a4_0 4 rfl) ?_
  refine lv_iand hx hb (kd dtJ6_bitCount_0f7a4_0 5 rfl) ?_
  refine lv_isub hx hb (kd dtJ6_bitCount_0f7a4_0 6 rfl) ?_
  obtain ⟨v1, hv1, hf⟩ := kbind hf
  have hv1 := Option.some.inj hv1
  rw [hv1]
  refine lv_istore_n (lv' := [(0, .int v1)]) hx hb (kd dtJ6_bitCount_0f7a4_0 7 rfl) rfl hl (by decide) rfl (fun ls hl => ?_)
  refine lv_iload_n hx hb (kd dtJ6_bitCount_0f7a4_0 8 rfl) rfl (lv_at hl 0 rfl) ?_
  refine lv_ldcw (v := (858993459 : Int32)) hx hb hown (hts _ wcJ6_266) (kd dtJ6_bitCount_0f7a4_0 9 rfl) ?_
  refine lv_iand hx hb (kd dtJ6_bitCount_0f7a4_0 10 rfl) ?_
  refine lv_iload_n hx hb (kd dtJ6_bitCount_0f7a4_0 11 rfl) rfl (lv_at hl 0 rfl) ?_
  refine lv_iconst (v := (2 : Int32)) hx hb (kd dtJ6_bitCount_0f7a4_0 12 rfl) (by decide) ?_
  refine lv_iushr (v := (v1.toUInt32 >>> ((2 : Int32).toUInt32 &&& Int32.toUInt32 31)).toInt32) hx hb (kd dtJ6_bitCount_0f7a4_0 13 rfl) rfl ?_
  refine lv_ldcw (v := (858993459 : Int32)) hx hb hown (hts _ wcJ6_266) (kd dtJ6_bitCount_0f7a4_0 14 rfl) ?_
  refine lv_iand hx hb (kd dtJ6_bitCount_0f7a4_0 15 rfl) ?_
  refine lv_iadd hx hb (kd dtJ6_bitCount_0f7a4_0 16 rfl) ?_
  obtain ⟨v2, hv2, hf⟩ := kbind hf
  have hv2 := Option.some.inj hv2
  rw [hv2]
  refine lv_istore_n (lv' := [(0, .int v2)]) hx hb (kd dtJ6_bitCount_0f7a4_0 17 rfl) rfl hl (by decide) rfl (fun ls hl => ?_)
  refine lv_iload_n hx hb (kd dtJ6_bitCount_0f7a4_0 18 rfl) rfl (lv_at hl 0 rfl) ?_
  refine lv_iload_n hx hb (kd dtJ6_bitCount_0f7a4_0 19 rfl) rfl (lv_at hl 0 rfl) ?_
  refine lv_iconst (v := (4 : Int32)) hx hb (kd dtJ6_bitCount_0f7a4_0 20 rfl) (by decide) ?_
  refine lv_iushr (v := (v2.toUInt32 >>> ((4 : Int32).toUInt32 &&& Int32.toUInt32 31)).toInt32) hx hb (kd dtJ6_bitCount_0f7a4_0 21 rfl) rfl ?_
  refine lv_iadd hx hb (kd dtJ6_bitCount_0f7a4_0 22 rfl) ?_
  refine lv_ldcw (v := (252645135 : Int32)) hx hb hown (hts _ wcJ6_267) (kd dtJ6_bitCount_0f7a4_0 23 rfl) ?_
  refine lv_iand hx hb (kd dtJ6_bitCount_0f7a4_0 24 rfl) ?_
  obtain ⟨v3, hv3, hf⟩ := kbind hf
  have hv3 := Option.some.inj hv3
  rw [hv3]
  refine lv_istore_n (lv' := [(0, .int v3)]) hx hb (kd dtJ6_bitCount_0f7a4_0 25 rfl) rfl hl (by decide) rfl (fun ls hl => ?_)
  refine lv_iload_n hx hb (kd dtJ6_bitCount_0f7a4_0 26 rfl) rfl (lv_at hl 0 rfl) ?_
  refine lv_iload_n hx hb (kd dtJ6_bitCount_0f7a4_0 27 rfl) rfl (lv_at hl 0 rfl) ?_
  refine lv_bipush (v := (8 : Int32)) hx hb (kd dtJ6_bitCount_0f7a4_0 28 rfl) (by decide) ?_
  refine lv_iushr (v := (v3.toUInt32 >>> ((8 : Int32).toUInt32 &&& Int32.toUInt32 31)).toInt32) hx hb (kd dtJ6_bitCount_0f7a4_0 29 rfl) rfl ?_
  refine lv_iadd hx hb (kd dtJ6_bitCount_0f7a4_0 30 rfl) ?_
  obtain ⟨v4, hv4, hf⟩ := kbind hf
  have hv4 := Option.some.inj hv4
  rw [hv4]
  refine lv_istore_n (lv' := [(0, .int v4)]) hx hb (kd dtJ6_bitCount_0f7a4_0 31 rfl) rfl hl (by decide) rfl (fun ls hl => ?_)
  refine lv_iload_n hx hb (kd dtJ6_bitCount_0f7a4_0 32 rfl) rfl (lv_at hl 0 rfl) ?_
  refine lv_iload_n hx hb (kd dtJ6_bitCount_0f7a4_0 33 rfl) rfl (lv_at hl 0 rfl) ?_
  refine lv_bipush (v := (16 : Int32)) hx hb (kd dtJ6_bitCount_0f7a4_0 34 rfl) (by decide) ?_
  refine lv_iushr (v := (v4.toUInt32 >>> ((16 : Int32).toUInt32 &&& Int32.toUInt32 31)).toInt32) hx hb (kd dtJ6_bitCount_0f7a4_0 35 rfl) rfl ?_
  refine lv_iadd hx hb (kd dtJ6_bitCount_0f7a4_0 36 rfl) ?_
  obtain ⟨v5, hv5, hf⟩ := kbind hf
  have hv5 := Option.some.inj hv5
  rw [hv5]
  refine lv_istore_n (lv' := [(0, .int v5)]) hx hb (kd dtJ6_bitCount_0f7a4_0 37 rfl) rfl hl (by decide) rfl (fun ls hl => ?_)
  refine lv_iload_n hx hb (kd dtJ6_bitCount_0f7a4_0 38 rfl) rfl (lv_at hl 0 rfl) ?_
  refine lv_bipush (v := (63 : Int32)) hx hb (kd dtJ6_bitCount_0f7a4_0 39 rfl) (by decide) ?_
  refine lv_iand hx hb (kd dtJ6_bitCount_0f7a4_0 40 rfl) ?_
  obtain rfl := Option.some.inj hf
  exact kiret F hX hr hlocks rfl (kd dtJ6_bitCount_0f7a4_0 41 rfl)
theorem wcJ13_314 : Cond.constantLong RJ13 314 (6148914691236517205 : Int64) ∈ kT := kTm 617 (by decide +kernel) rfl
theorem wcJ13_316 : Cond.constantLong RJ13 316 (3689348814741910323 : Int64) ∈ kT := kTm 618 (by decide +kernel) rfl
theorem wcJ13_318 : Cond.constantLong RJ13 318 (1085102592571150095 : Int64) ∈ kT := kTm 619 (by decide +kernel) rfl
def lJ13_bitCount_95d88_0 : List (Nat × Instr × Nat) := [(0, .lload_n 0, 1), (1, .lload_n 0, 1), (2, .iconst 1, 1), (3, .lushr, 1), (4, .ldc2_w 314, 3), (7, .land, 1), (8, .lsub, 1), (9, .lstore_n 0, 1), (10, .lload_n 0, 1), (11, .ldc2_w 316, 3), (14, .land, 1), (15, .lload_n 0, 1), (16, .iconst 2, 1), (17, .lushr, 1), (18, .ldc2_w 316, 3), (21, .land, 1), (22, .ladd, 1), (23, .lstore_n 0, 1), (24, .lload_n 0, 1), (25, .lload_n 0, 1), (26, .iconst 4, 1), (27, .lushr, 1), (28, .ladd, 1), (29, .ldc2_w 318, 3), (32, .land, 1), (33, .lstore_n 0, 1), (34, .lload_n 0, 1), (35, .lload_n 0, 1), (36, .bipush 8, 2), (38, .lushr, 1), (39, .ladd, 1), (40, .lstore_n 0, 1), (41, .lload_n 0, 1), (42, .lload_n 0, 1), (43, .bipush 16, 2), (45, .lushr, 1), (46, .ladd, 1), (47, .lstore_n 0, 1), (48, .lload_n 0, 1), (49, .lload_n 0, 1), (50, .bipush 32, 2), (52, .lushr, 1), (53, .ladd, 1), (54, .lstore_n 0, 1), (55, .lload_n 0, 1), (56, .l2i, 1), (57, .bipush 127, 2), (59, .iand, 1), (60, .ireturn, 1)]
theorem dtJ13_bitCount_95d88_0 : kDec cJ13_bitCount_95d88 lJ13_bitCount_95d88_0 = true := by decide +kernel
noncomputable def fJ13_bitCount_95d88 (x0 : Int64) : Option Int32 :=
  (some (x0 - (((x0.toUInt64 >>> ((1 : Int32).toInt64.toUInt64 &&& Int64.toUInt64 63)).toInt64) &&& (6148914691236517205 : Int64)))).bind fun v1 =>
  (some ((v1 &&& (3689348814741910323 : Int64)) + (((v1.toUInt64 >>> ((2 : Int32).toInt64.toUInt64 &&& Int64.toUInt64 63)).toInt64) &&& (3689348814741910323 : Int64)))).bind fun v2 =>
  (some ((v2 + ((v2.toUInt64 >>> ((4 : Int32).toInt64.toUInt64 &&& Int64.toUInt64 63)).toInt64)) &&& (1085102592571150095 : Int64))).bind fun v3 =>
  (some (v3 + ((v3.toUInt64 >>> ((8 : Int32).toInt64.toUInt64 &&& Int64.toUInt64 63)).toInt64))).bind fun v4 =>
  (some (v4 + ((v4.toUInt64 >>> ((16 : Int32).toInt64.toUInt64 &&& Int64.toUInt64 63)).toInt64))).bind fun v5 =>
  (some (v5 + ((v5.toUInt64 >>> ((32 : Int32).toInt64.toUInt64 &&& Int64.toUInt64 63)).toInt64))).bind fun v6 =>
  some (v6.toInt32 &&& (127 : Int32))

set_option maxHeartbeats 4000000 in
set_option maxRecDepth 100000 in
theorem rJ13_bitCount_95d88 (l : Launch) (D : va_G) (aC : Nat → ClassId) (w : kW) {x0 : Int64} {oR : Int32} (h : fJ13_bitCount_95d88 x0 = some oR) : kC l D aC yJ13_bitCount_95d88 cJ13_bitCount_95d88 2 (some .int) 1 12 [.long x0] w (some (.int oR)) w 0 0 := by
  refine kOf (own := RJ13) (by decide) rfl (Nat.le_of_ble_eq_true rfl) ?_
  intro p e s m below meth c ls F hml hr hlocks hnm hX hZ hl
  obtain ⟨hx, hb, hts, hown, hK⟩ := id F
  have hl : lv_has ls 2 [(0, .long x0)] := hl
  have hf := h
  rw [fJ13_bitCount_95d88] at hf
  refine lv_lload_n hx hb (kd dtJ13_bitCount_95d88_0 0 rfl) rfl (lv_at hl 0 rfl) ?_
  refine lv_lload_n hx hb (kd dtJ13_bitCount_95d88_0 1 rfl) rfl (lv_at hl 0 rfl) ?_
  refine lv_iconst (v := (1 : Int32)) hx hb (kd dtJ13_bitCount_95d88_0 2 rfl) (by decide) ?_
  refine lv_lushr (v := (x0.toUInt64 >>> ((1 : Int32).toInt64.toUInt64 &&& Int64.toUInt64 63)).toInt64) hx hb (kd dtJ13_bitCount_95d88_0 3 rfl) rfl ?_
  refine lv_ldc2 (v := (6148914691236517205 : Int64)) hx hb hown (hts _ wcJ13_314) (kd dtJ13_bitCount_95d88_0 4 rfl) ?_
  refine lv_land hx hb (kd dtJ13_bitCount_95d88_0 5 rfl) ?_
  refine lv_lsub hx hb (kd dtJ13_bitCount_95d88_0 6 rfl) ?_
  obtain ⟨v1, hv1, hf⟩ := kbind hf
  have hv1 := Option.some.inj hv1
  rw [hv1]
  refine lv_lstore_n (lv' := [(0, .long v1)]) hx hb (kd dtJ13_bitCount_95d88_0 7 rfl) rfl hl (by decide) rfl (fun ls hl => ?_)
  refine lv_lload_n hx hb (kd dtJ13_bitCount_95d88_0 8 rfl) rfl (lv_at hl 0 rfl) ?_
  refine lv_ldc2 (v := (3689348814741910323 : Int64)) hx hb hown (hts _ wcJ13_316) (kd dtJ13_bitCount_95d88_0 9 rfl) ?_
  refine lv_land hx hb (kd dtJ13_bitCount_95d88_0 10 rfl) ?_
  refine lv_lload_n hx hb (kd dtJ13_bitCount_95d88_0 11 rfl) rfl (lv_at hl 0 rfl) ?_
  refine lv_iconst (v := (2 : Int32)) hx hb (kd dtJ13_bitCount_95d88_0 12 rfl) (by decide) ?_
  refine lv_lushr (v := (v1.toUInt64 >>> ((2 : Int32).toInt64.toUInt64 &&& Int64.toUInt64 63)).toInt64) hx hb (kd dtJ13_bitCount_95d88_0 13 rfl) rfl ?_
  refine lv_ldc2 (v := (3689348814741910323 : Int64)) hx hb hown (hts _ wcJ13_316) (kd dtJ13_bitCount_95d88_0 14 rfl) ?_
  refine lv_land hx hb (kd dtJ13_bitCount_95d88_0 15 rfl) ?_
  refine lv_ladd hx hb (kd dtJ13_bitCount_95d88_0 16 rfl) ?_
  obtain ⟨v2, hv2, hf⟩ := kbind hf
  have hv2 := Option.some.inj hv2
  rw [hv2]
  refine lv_lstore_n (lv' := [(0, .long v2)]) hx hb (kd dtJ13_bitCount_95d88_0 17 rfl) rfl hl (by decide) rfl (fun ls hl => ?_)
  refine lv_lload_n hx hb (kd dtJ13_bitCount_95d88_0 18 rfl) rfl (lv_at hl 0 rfl) ?_
  refine lv_lload_n hx hb (kd dtJ13_bitCount_95d88_0 19 rfl) rfl (lv_at hl 0 rfl) ?_
  refine lv_iconst (v := (4 : Int32)) hx hb (kd dtJ13_bitCount_95d88_0 20 rfl) (by decide) ?_
  refine lv_lushr (v := (v2.toUInt64 >>> ((4 : Int32).toInt64.toUInt64 &&& Int64.toUInt64 63)).toInt64) hx hb (kd dtJ13_bitCount_95d88_0 21 rfl) rfl ?_
  refine lv_ladd hx hb (kd dtJ13_bitCount_95d88_0 22 rfl) ?_
  refine lv_ldc2 (v := (1085102592571150095 : Int64)) hx hb hown (hts _ wcJ13_318) (kd dtJ13_bitCount_95d88_0 23 rfl) ?_
  refine lv_land hx hb (kd dtJ13_bitCount_95d88_0 24 rfl) ?_
  obtain ⟨v3, hv3, hf⟩ := kbind hf
  have hv3 := Option.some.inj hv3
  rw [hv3]
  refine lv_lstore_n (lv' := [(0, .long v3)]) hx hb (kd dtJ13_bitCount_95d88_0 25 rfl) rfl hl (by decide) rfl (fun ls hl => ?_)
  refine lv_lload_n hx hb (kd dtJ13_bitCount_95d88_0 26 rfl) rfl (lv_at hl 0 rfl) ?_
  refine lv_lload_n hx hb (kd dtJ13_bitCount_95d88_0 27 rfl) rfl (lv_at hl 0 rfl) ?_
  refine lv_bipush (v := (8 : Int32)) hx hb (kd dtJ13_bitCount_95d88_0 28 rfl) (by decide) ?_
  refine lv_lushr (v := (v3.toUInt64 >>> ((8 : Int32).toInt64.toUInt64 &&& Int64.toUInt64 63)).toInt64) hx hb (kd dtJ13_bitCount_95d88_0 29 rfl) rfl ?_
  refine lv_ladd hx hb (kd dtJ13_bitCount_95d88_0 30 rfl) ?_
  obtain ⟨v4, hv4, hf⟩ := kbind hf
  have hv4 := Option.some.inj hv4
  rw [hv4]
  refine lv_lstore_n (lv' := [(0, .long v4)]) hx hb (kd dtJ13_bitCount_95d88_0 31 rfl) rfl hl (by decide) rfl (fun ls hl => ?_)
  refine lv_lload_n hx hb (kd dtJ13_bitCount_95d88_0 32 rfl) rfl (lv_at hl 0 rfl) ?_
  refine lv_lload_n hx hb (kd dtJ13_bitCount_95d88_0 33 rfl) rfl (lv_at hl 0 rfl) ?_
  refine lv_bipush (v := (16 : Int32)) hx hb (kd dtJ13_bitCount_95d88_0 34 rfl) (by decide) ?_
  refine lv_lushr (v := (v4.toUInt64 >>> ((16 : Int32).toInt64.toUInt64 &&& Int64.toUInt64 63)).toInt64) hx hb (kd dtJ13_bitCount_95d88_0 35 rfl) rfl ?_
  refine lv_ladd hx hb (kd dtJ13_bitCount_95d88_0 36 rfl) ?_
  obtain ⟨v5, hv5, hf⟩ := kbind hf
  have hv5 := Option.some.inj hv5
  rw [hv5]
  refine lv_lstore_n (lv' := [(0, .long v5)]) hx hb (kd dtJ13_bitCount_95d88_0 37 rfl) rfl hl (by decide) rfl (fun ls hl => ?_)
  refine lv_lload_n hx hb (kd dtJ13_bitCount_95d88_0 38 rfl) rfl (lv_at hl 0 rfl) ?_
  refine lv_lload_n hx hb (kd dtJ13_bitCount_95d88_0 39 rfl) rfl (lv_at hl 0 rfl) ?_
  refine lv_bipush (v := (32 : Int32)) hx hb (kd dtJ13_bitCount_95d88_0 40 rfl) (by decide) ?_
  refine lv_lushr (v := (v5.toUInt64 >>> ((32 : Int32).toInt64.toUInt64 &&& Int64.toUInt64 63)).toInt64) hx hb (kd dtJ13_bitCount_95d88_0 41 rfl) rfl ?_
  refine lv_ladd hx hb (kd dtJ13_bitCount_95d88_0 42 rfl) ?_
  obtain ⟨v6, hv6, hf⟩ := kbind hf
  have hv6 := Option.some.inj hv6
  rw [hv6]
  refine lv_lstore_n (lv' := [(0, .long v6)]) hx hb (kd dtJ13_bitCount_95d88_0 43 rfl) rfl hl (by decide) rfl (fun ls hl => ?_)
  refine lv_lload_n hx hb (kd dtJ13_bitCount_95d88_0 44 rfl) rfl (lv_at hl 0 rfl) ?_
  refine lv_l2i (v := v6.toInt32) hx hb (kd dtJ13_bitCount_95d88_0 45 rfl) rfl ?_
  refine lv_bipush (v := (127 : Int32)) hx hb (kd dtJ13_bitCount_95d88_0 46 rfl) (by decide) ?_
  refine lv_iand hx hb (kd dtJ13_bitCount_95d88_0 47 rfl) ?_
  obtain rfl := Option.some.inj hf
  exact kiret F hX hr hlocks rfl (kd dtJ13_bitCount_95d88_0 48 rfl)
def lX11_takesTwo_0 : List (Nat × Instr × Nat) := [(0, .iload_n 0, 1), (1, .iconst 1, 1), (2, .if_icmp .eq 8, 3), (5, .iload_n 0, 1), (6, .iconst 2, 1), (7, .if_icmp .ne 7, 3), (10, .iconst 1, 1), (11, .goto 4, 3), (14, .iconst 0, 1), (15, .ireturn, 1)]
theorem dtX11_takesTwo_0 : kDec cX11_takesTwo lX11_takesTwo_0 = true := by decide +kernel
noncomputable def fX11_takesTwo (x0 : Int32) : Option Int32 :=
  if x0 = (1 : Int32) then
  some (1 : Int32)
  else
  if x0 = (2 : Int32) then
  some (1 : Int32)
  else
  some (0 : Int32)

set_option maxHeartbeats 4000000 in
set_option maxRecDepth 100000 in
theorem rX11_takesTwo (l : Launch) (D : va_G) (aC : Nat → ClassId) (w : kW) {x0 : Int32} {oR : Int32} (h : fX11_takesTwo x0 = some oR) : kC l D aC yX11_takesTwo cX11_takesTwo 1 (some .boolean) 1 12 [.int x0] w (some (.int oR)) w 0 0 := by
  refine kOf (own := RX11) (by decide) rfl (Nat.le_of_ble_eq_true rfl) ?_
  intro p e s m below meth c ls F hml hr hlocks hnm hX hZ hl
  obtain ⟨hx, hb, hts, hown, hK⟩ := id F
  have hl : lv_has ls 1 [(0, .int x0)] := hl
  have hf := h
  rw [fX11_takesTwo] at hf
  refine lv_iload_n hx hb (kd dtX11_takesTwo_0 0 rfl) rfl (lv_at hl 0 rfl) ?_
  refine lv_iconst (v := (1 : Int32)) hx hb (kd dtX11_takesTwo_0 1 rfl) (by decide) ?_
  refine lv_icmp_eq (tgt := 10) hx hb (kd dtX11_takesTwo_0 2 rfl) (by decide) (fun hc => ?_) (fun hc => ?_)
  · have hf := kif_pos hc hf
    refine lv_iconst (v := (1 : Int32)) hx hb (kd dtX11_takesTwo_0 6 rfl) (by decide) ?_
    refine lv_goto (tgt := 15) hx hb (kd dtX11_takesTwo_0 7 rfl) (by decide) ?_
    obtain rfl := Option.some.inj hf
    exact kzret F hX hr hlocks rfl rfl (kd dtX11_takesTwo_0 9 rfl)
  · have hf := kif_neg hc hf
    refine lv_iload_n hx hb (kd dtX11_takesTwo_0 3 rfl) rfl (lv_at hl 0 rfl) ?_
    refine lv_iconst (v := (2 : Int32)) hx hb (kd dtX11_takesTwo_0 4 rfl) (by decide) ?_
    refine lv_icmp_ne (tgt := 14) hx hb (kd dtX11_takesTwo_0 5 rfl) (by decide) (fun hc => ?_) (fun hc => ?_)
    · have hf := kif_neg hc hf
      refine lv_iconst (v := (0 : Int32)) hx hb (kd dtX11_takesTwo_0 8 rfl) (by decide) ?_
      obtain rfl := Option.some.inj hf
      exact kzret F hX hr hlocks rfl rfl (kd dtX11_takesTwo_0 9 rfl)
    · have hf := kif_pos hc hf
      refine lv_iconst (v := (1 : Int32)) hx hb (kd dtX11_takesTwo_0 6 rfl) (by decide) ?_
      refine lv_goto (tgt := 15) hx hb (kd dtX11_takesTwo_0 7 rfl) (by decide) ?_
      obtain rfl := Option.some.inj hf
      exact kzret F hX hr hlocks rfl rfl (kd dtX11_takesTwo_0 9 rfl)
theorem wmX1_3 : Cond.methodLink RX1 3 objectInit ∈ kT := kTm 184 (by decide +kernel) rfl
theorem wfX1_9 : Cond.fieldLink RX1 9 (TX1 5).1 (TX1 5).2.1 (TX1 5).2.2.1 ∈ kT := kTm 193 (by decide +kernel) rfl
theorem wfX1_15 : Cond.fieldLink RX1 15 (TX1 6).1 (TX1 6).2.1 (TX1 6).2.2.1 ∈ kT := kTm 200 (by decide +kernel) rfl
theorem wfX1_19 : Cond.fieldLink RX1 19 (TX1 7).1 (TX1 7).2.1 (TX1 7).2.2.1 ∈ kT := kTm 203 (by decide +kernel) rfl
theorem wmX1_22 : Cond.methodLink RX1 22 Lib.Math.max.name ∈ kT := kTm 185 (by decide +kernel) rfl
theorem wA13 : Cond.arrayClass (newarray.typeOf .byte) ∈ kT := kTm 222 (by decide +kernel) rfl
theorem wfX1_28 : Cond.fieldLink RX1 28 (TX1 0).1 (TX1 0).2.1 (TX1 0).2.2.1 ∈ kT := kTm 188 (by decide +kernel) rfl
theorem wA14 : Cond.arrayClass (newarray.typeOf .int) ∈ kT := kTm 170 (by decide +kernel) rfl
theorem wfX1_32 : Cond.fieldLink RX1 32 (TX1 1).1 (TX1 1).2.1 (TX1 1).2.2.1 ∈ kT := kTm 189 (by decide +kernel) rfl
theorem wfX1_36 : Cond.fieldLink RX1 36 (TX1 2).1 (TX1 2).2.1 (TX1 2).2.2.1 ∈ kT := kTm 190 (by decide +kernel) rfl
theorem wfX1_39 : Cond.fieldLink RX1 39 (TX1 3).1 (TX1 3).2.1 (TX1 3).2.2.1 ∈ kT := kTm 191 (by decide +kernel) rfl
theorem wfX1_42 : Cond.fieldLink RX1 42 (TX1 4).1 (TX1 4).2.1 (TX1 4).2.2.1 ∈ kT := kTm 192 (by decide +kernel) rfl
def lX1_init_0 : List (Nat × Instr × Nat) := [(0, .aload_n 0, 1), (1, .invokespecial 3, 3), (4, .aload_n 0, 1), (5, .iconst 0, 1), (6, .putfield 9, 3), (9, .aload_n 0, 1), (10, .iconst 0, 1), (11, .putfield 15, 3), (14, .aload_n 0, 1), (15, .iconst 0, 1), (16, .putfield 19, 3), (19, .iload_n 1, 1), (20, .iconst 0, 1), (21, .invokestatic 22, 3), (24, .istore_n 2, 1), (25, .aload_n 0, 1), (26, .iload_n 2, 1), (27, .newarray .byte, 2), (29, .putfield 28, 3), (32, .aload_n 0, 1), (33, .iload_n 2, 1), (34, .newarray .int, 2), (36, .putfield 32, 3), (39, .aload_n 0, 1), (40, .iload_n 2, 1), (41, .newarray .int, 2), (43, .putfield 36, 3), (46, .aload_n 0, 1), (47, .iload_n 2, 1), (48, .newarray .int, 2), (50, .putfield 39, 3), (53, .aload_n 0, 1), (54, .iload_n 2, 1), (55, .newarray .int, 2), (57, .putfield 42, 3), (60, .return_, 1)]
theorem dtX1_init_0 : kDec cX1_init lX1_init_0 = true := by decide +kernel
noncomputable def fX1_init (x0 : Nat) (x1 : Int32) (w : kW) : Option kW :=
  (kpI w 1 (some x0) 5 (0 : Int32)).bind fun w1 =>
  (kpI w1 1 (some x0) 6 (0 : Int32)).bind fun w2 =>
  (kpI w2 1 (some x0) 7 (0 : Int32)).bind fun w3 =>
  (knC w3 13 (kMmax x1 (0 : Int32)) 200).bind fun w4 =>
  (kpP w4 1 (some x0) 0 (some (kSz w3))).bind fun w5 =>
  (knC w5 14 (kMmax x1 (0 : Int32)) 200).bind fun w6 =>
  (kpP w6 1 (some x0) 1 (some (kSz w5))).bind fun w7 =>
  (knC w7 14 (kMmax x1 (0 : Int32)) 200).bind fun w8 =>
  (kpP w8 1 (some x0) 2 (some (kSz w7))).bind fun w9 =>
  (knC w9 14 (kMmax x1 (0 : Int32)) 200).bind fun w10 =>
  (kpP w10 1 (some x0) 3 (some (kSz w9))).bind fun w11 =>
  (knC w11 14 (kMmax x1 (0 : Int32)) 200).bind fun w12 =>
  (kpP w12 1 (some x0) 4 (some (kSz w11))).bind fun w13 =>
  some w13

set_option maxHeartbeats 4000000 in
set_option maxRecDepth 100000 in
theorem rX1_init (l : Launch) (D : va_G) (aC : Nat → ClassId) {x0 : Nat} {x1 : Int32} {w : kW} {wR : kW} (h : fX1_init x0 x1 w = some wR) : kC l D aC yX1_init cX1_init 3 none 1 21 [.ref x0, .int x1] w none wR 5 1000 := by
  refine kOf (own := RX1) (by decide) rfl (Nat.le_of_ble_eq_true rfl) ?_
  intro p e s m below meth c ls F hml hr hlocks hnm hX hZ hl
  obtain ⟨hx, hb, hts, hown, hK⟩ := id F
  have hl : lv_has ls 3 [(0, .ref x0), (1, .int x1)] := hl
  have hf := h
  rw [fX1_init] at hf
  refine lv_aload_n hx hb (kd dtX1_init_0 0 rfl) rfl (lv_at hl 0 rfl) ?_
  refine kobj F (hml.trans hl.1.symm) wmX1_3 (Nat.le_of_ble_eq_true rfl) (Nat.le_of_ble_eq_true rfl) (kd dtX1_init_0 1 rfl) ?_
  refine lv_aload_n hx hb (kd dtX1_init_0 2 rfl) rfl (lv_at hl 0 rfl) ?_
  refine lv_iconst (v := (0 : Int32)) hx hb (kd dtX1_init_0 3 rfl) (by decide) ?_
  obtain ⟨w1, hw1, hf⟩ := kbind hf
  refine kputI hw1 F hX hinX1 tyX1_ok nmX1 rfl rfl rfl (by decide) (by decide) wfX1_9 rfl rfl (Or.inl rfl) (kd dtX1_init_0 4 rfl) (fun H locs hX => ?_)
  refine lv_aload_n hx hb (kd dtX1_init_0 5 rfl) rfl (lv_at hl 0 rfl) ?_
  refine lv_iconst (v := (0 : Int32)) hx hb (kd dtX1_init_0 6 rfl) (by decide) ?_
  obtain ⟨w2, hw2, hf⟩ := kbind hf
  refine kputI hw2 F hX hinX1 tyX1_ok nmX1 rfl rfl rfl (by decide) (by decide) wfX1_15 rfl rfl (Or.inl rfl) (kd dtX1_init_0 7 rfl) (fun H locs hX => ?_)
  refine lv_aload_n hx hb (kd dtX1_init_0 8 rfl) rfl (lv_at hl 0 rfl) ?_
  refine lv_iconst (v := (0 : Int32)) hx hb (kd dtX1_init_0 9 rfl) (by decide) ?_
  obtain ⟨w3, hw3, hf⟩ := kbind hf
  refine kputI hw3 F hX hinX1 tyX1_ok nmX1 rfl rfl rfl (by decide) (by decide) wfX1_19 rfl rfl (Or.inl rfl) (kd dtX1_init_0 10 rfl) (fun H locs hX => ?_)
  refine lv_iload_n hx hb (kd dtX1_init_0 11 rfl) rfl (lv_at hl 1 rfl) ?_
  refine lv_iconst (v := (0 : Int32)) hx hb (kd dtX1_init_0 12 rfl) (by decide) ?_
  refine kmmax F (hml.trans hl.1.symm) wmX1_22 (Nat.le_of_ble_eq_true rfl) (Nat.le_of_ble_eq_true rfl) (Nat.zero_le _) (Nat.zero_le _) (kd dtX1_init_0 13 rfl) ?_
  refine lv_istore_n (lv' := [(2, .int (kMmax x1 (0 : Int32))), (0, .ref x0), (1, .int x1)]) hx hb (kd dtX1_init_0 14 rfl) rfl hl (by decide) rfl (fun ls hl => ?_)
  refine lv_aload_n hx hb (kd dtX1_init_0 15 rfl) rfl (lv_at hl 1 rfl) ?_
  refine lv_iload_n hx hb (kd dtX1_init_0 16 rfl) rfl (lv_at hl 0 rfl) ?_
  obtain ⟨w4, hw4, hf⟩ := kbind hf
  obtain ⟨hcw4, hw4⟩ := knC_s hw4
  refine knewa (mx := 200) hw4 rfl (fun _ => rfl) (by decide) (by decide) F hX wA13 hcw4 (by decide) (Nat.le_of_ble_eq_true rfl) (Nat.le_of_ble_eq_true rfl) (kd dtX1_init_0 17 rfl) (fun H hX => ?_)
  obtain ⟨w5, hw5, hf⟩ := kbind hf
  refine kputP hw5 F hX hinX1 tyX1_ok nmX1 rfl rfl rfl (by decide) (by decide) wfX1_28 (Or.inr ⟨rfl, hnm, rfl⟩) (kd dtX1_init_0 18 rfl) (fun H locs hX => ?_)
  refine lv_aload_n hx hb (kd dtX1_init_0 19 rfl) rfl (lv_at hl 1 rfl) ?_
  refine lv_iload_n hx hb (kd dtX1_init_0 20 rfl) rfl (lv_at hl 0 rfl) ?_
  obtain ⟨w6, hw6, hf⟩ := kbind hf
  obtain ⟨hcw6, hw6⟩ := knC_s hw6
  refine knewa (mx := 200) hw6 rfl (fun _ => rfl) (by decide) (by decide) F hX wA14 hcw6 (by decide) (Nat.le_of_ble_eq_true rfl) (Nat.le_of_ble_eq_true rfl) (kd dtX1_init_0 21 rfl) (fun H hX => ?_)
  obtain ⟨w7, hw7, hf⟩ := kbind hf
  refine kputP hw7 F hX hinX1 tyX1_ok nmX1 rfl rfl rfl (by decide) (by decide) wfX1_32 (Or.inr ⟨rfl, hnm, rfl⟩) (kd dtX1_init_0 22 rfl) (fun H locs hX => ?_)
  refine lv_aload_n hx hb (kd dtX1_init_0 23 rfl) rfl (lv_at hl 1 rfl) ?_
  refine lv_iload_n hx hb (kd dtX1_init_0 24 rfl) rfl (lv_at hl 0 rfl) ?_
  obtain ⟨w8, hw8, hf⟩ := kbind hf
  obtain ⟨hcw8, hw8⟩ := knC_s hw8
  refine knewa (mx := 200) hw8 rfl (fun _ => rfl) (by decide) (by decide) F hX wA14 hcw8 (by decide) (Nat.le_of_ble_eq_true rfl) (Nat.le_of_ble_eq_true rfl) (kd dtX1_init_0 25 rfl) (fun H hX => ?_)
  obtain ⟨w9, hw9, hf⟩ := kbind hf
  refine kputP hw9 F hX hinX1 tyX1_ok nmX1 rfl rfl rfl (by decide) (by decide) wfX1_36 (Or.inr ⟨rfl, hnm, rfl⟩) (kd dtX1_init_0 26 rfl) (fun H locs hX => ?_)
  refine lv_aload_n hx hb (kd dtX1_init_0 27 rfl) rfl (lv_at hl 1 rfl) ?_
  refine lv_iload_n hx hb (kd dtX1_init_0 28 rfl) rfl (lv_at hl 0 rfl) ?_
  obtain ⟨w10, hw10, hf⟩ := kbind hf
  obtain ⟨hcw10, hw10⟩ := knC_s hw10
  refine knewa (mx := 200) hw10 rfl (fun _ => rfl) (by decide) (by decide) F hX wA14 hcw10 (by decide) (Nat.le_of_ble_eq_true rfl) (Nat.le_of_ble_eq_true rfl) (kd dtX1_init_0 29 rfl) (fun H hX => ?_)
  obtain ⟨w11, hw11, hf⟩ := kbind hf
  refine kputP hw11 F hX hinX1 tyX1_ok nmX1 rfl rfl rfl (by decide) (by decide) wfX1_39 (Or.inr ⟨rfl, hnm, rfl⟩) (kd dtX1_init_0 30 rfl) (fun H locs hX => ?_)
  refine lv_aload_n hx hb (kd dtX1_init_0 31 rfl) rfl (lv_at hl 1 rfl) ?_
  refine lv_iload_n hx hb (kd dtX1_init_0 32 rfl) rfl (lv_at hl 0 rfl) ?_
  obtain ⟨w12, hw12, hf⟩ := kbind hf
  obtain ⟨hcw12, hw12⟩ := knC_s hw12
  refine knewa (mx := 200) hw12 rfl (fun _ => rfl) (by decide) (by decide) F hX wA14 hcw12 (by decide) (Nat.le_of_ble_eq_true rfl) (Nat.le_of_ble_eq_true rfl) (kd dtX1_init_0 33 rfl) (fun H hX => ?_)
  obtain ⟨w13, hw13, hf⟩ := kbind hf
  refine kputP hw13 F hX hinX1 tyX1_ok nmX1 rfl rfl rfl (by decide) (by decide) wfX1_42 (Or.inr ⟨rfl, hnm, rfl⟩) (kd dtX1_init_0 34 rfl) (fun H locs hX => ?_)
  obtain rfl := Option.some.inj hf
  refine W.widen (k := 5) (n := 1000) (Nat.le_of_ble_eq_true rfl) (Nat.le_of_ble_eq_true rfl) ?_
  exact kvret F hX hr hlocks rfl (kd dtX1_init_0 35 rfl)
def lX1_clear_0 : List (Nat × Instr × Nat) := [(0, .aload_n 0, 1), (1, .iconst 0, 1), (2, .putfield 9, 3), (5, .aload_n 0, 1), (6, .iconst 0, 1), (7, .putfield 15, 3), (10, .return_, 1)]
theorem dtX1_clear_0 : kDec cX1_clear lX1_clear_0 = true := by decide +kernel
noncomputable def fX1_clear (x0 : Nat) (w : kW) : Option kW :=
  (kpI w 1 (some x0) 5 (0 : Int32)).bind fun w1 =>
  (kpI w1 1 (some x0) 6 (0 : Int32)).bind fun w2 =>
  some w2

set_option maxHeartbeats 4000000 in
set_option maxRecDepth 100000 in
theorem rX1_clear (l : Launch) (D : va_G) (aC : Nat → ClassId) {x0 : Nat} {w : kW} {wR : kW} (h : fX1_clear x0 w = some wR) : kC l D aC yX1_clear cX1_clear 1 none 1 12 [.ref x0] w none wR 0 0 := by
  refine kOf (own := RX1) (by decide) rfl (Nat.le_of_ble_eq_true rfl) ?_
  intro p e s m below meth c ls F hml hr hlocks hnm hX hZ hl
  obtain ⟨hx, hb, hts, hown, hK⟩ := id F
  have hl : lv_has ls 1 [(0, .ref x0)] := hl
  have hf := h
  rw [fX1_clear] at hf
  refine lv_aload_n hx hb (kd dtX1_clear_0 0 rfl) rfl (lv_at hl 0 rfl) ?_
  refine lv_iconst (v := (0 : Int32)) hx hb (kd dtX1_clear_0 1 rfl) (by decide) ?_
  obtain ⟨w1, hw1, hf⟩ := kbind hf
  refine kputI hw1 F hX hinX1 tyX1_ok nmX1 rfl rfl rfl (by decide) (by decide) wfX1_9 rfl rfl (Or.inl rfl) (kd dtX1_clear_0 2 rfl) (fun H locs hX => ?_)
  refine lv_aload_n hx hb (kd dtX1_clear_0 3 rfl) rfl (lv_at hl 0 rfl) ?_
  refine lv_iconst (v := (0 : Int32)) hx hb (kd dtX1_clear_0 4 rfl) (by decide) ?_
  obtain ⟨w2, hw2, hf⟩ := kbind hf
  refine kputI hw2 F hX hinX1 tyX1_ok nmX1 rfl rfl rfl (by decide) (by decide) wfX1_15 rfl rfl (Or.inl rfl) (kd dtX1_clear_0 5 rfl) (fun H locs hX => ?_)
  obtain rfl := Option.some.inj hf
  exact kvret F hX hr hlocks rfl (kd dtX1_clear_0 6 rfl)
def lX1_add_0 : List (Nat × Instr × Nat) := [(0, .aload_n 0, 1), (1, .getfield 9, 3), (4, .aload_n 0, 1), (5, .getfield 28, 3), (8, .arraylength, 1), (9, .if_icmp .lt 9, 3), (12, .aload_n 0, 1), (13, .iconst 1, 1), (14, .putfield 15, 3), (17, .return_, 1), (18, .aload_n 0, 1), (19, .getfield 28, 3), (22, .aload_n 0, 1), (23, .getfield 9, 3), (26, .iload_n 1, 1), (27, .i2b, 1), (28, .bastore, 1), (29, .aload_n 0, 1), (30, .dup, 1), (31, .getfield 9, 3), (34, .iconst 1, 1), (35, .iadd, 1), (36, .putfield 9, 3), (39, .return_, 1)]
theorem dtX1_add_0 : kDec cX1_add lX1_add_0 = true := by decide +kernel
noncomputable def fX1_add (x0 : Nat) (x1 : Int32) (w : kW) : Option kW :=
  (kgI w 1 (some x0) 5).bind fun v1 =>
  (kgP w 1 (some x0) 0).bind fun v2 =>
  (kal w 13 v2).bind fun v3 =>
  if v1 < v3 then
  (kgP w 1 (some x0) 0).bind fun v4 =>
  (kgI w 1 (some x0) 5).bind fun v5 =>
  (ksI w 13 v4 v5 x1.toInt8.toInt32).bind fun w6 =>
  (kgI w6 1 (some x0) 5).bind fun v7 =>
  (kpI w6 1 (some x0) 5 (v7 + (1 : Int32))).bind fun w8 =>
  some w8
  else
  (kpI w 1 (some x0) 6 (1 : Int32)).bind fun w9 =>
  some w9

set_option maxHeartbeats 4000000 in
set_option maxRecDepth 100000 in
theorem rX1_add (l : Launch) (D : va_G) (aC : Nat → ClassId) {x0 : Nat} {x1 : Int32} {w : kW} {wR : kW} (h : fX1_add x0 x1 w = some wR) : kC l D aC yX1_add cX1_add 2 none 1 12 [.ref x0, .int x1] w none wR 0 0 := by
  refine kOf (own := RX1) (by decide) rfl (Nat.le_of_ble_eq_true rfl) ?_
  intro p e s m below meth c ls F hml hr hlocks hnm hX hZ hl
  obtain ⟨hx, hb, hts, hown, hK⟩ := id F
  have hl : lv_has ls 2 [(0, .ref x0), (1, .int x1)] := hl
  have hf := h
  rw [fX1_add] at hf
  refine lv_aload_n hx hb (kd dtX1_add_0 0 rfl) rfl (lv_at hl 0 rfl) ?_
  obtain ⟨v1, hv1, hf⟩ := kbind hf
  refine kgetI hv1 F hX hinX1 rfl rfl rfl (by decide) (by decide) wfX1_9 (kd dtX1_add_0 1 rfl) ?_
  refine lv_aload_n hx hb (kd dtX1_add_0 2 rfl) rfl (lv_at hl 0 rfl) ?_
  obtain ⟨v2, hv2, hf⟩ := kbind hf
  refine kgetP hv2 F hX hinX1 rfl rfl rfl (by decide) (by decide) wfX1_28 (kd dtX1_add_0 3 rfl) ?_
  obtain ⟨v3, hv3, hf⟩ := kbind hf
  refine kalen hv3 (by decide) (by decide) F hX (kd dtX1_add_0 4 rfl) ?_
  refine lv_icmp_lt (tgt := 18) hx hb (kd dtX1_add_0 5 rfl) (by decide) (fun hc => ?_) (fun hc => ?_)
  · have hf := kif_pos hc hf
    refine lv_aload_n hx hb (kd dtX1_add_0 10 rfl) rfl (lv_at hl 0 rfl) ?_
    obtain ⟨v4, hv4, hf⟩ := kbind hf
    refine kgetP hv4 F hX hinX1 rfl rfl rfl (by decide) (by decide) wfX1_28 (kd dtX1_add_0 11 rfl) ?_
    refine lv_aload_n hx hb (kd dtX1_add_0 12 rfl) rfl (lv_at hl 0 rfl) ?_
    obtain ⟨v5, hv5, hf⟩ := kbind hf
    refine kgetI hv5 F hX hinX1 rfl rfl rfl (by decide) (by decide) wfX1_9 (kd dtX1_add_0 13 rfl) ?_
    refine lv_iload_n hx hb (kd dtX1_add_0 14 rfl) rfl (lv_at hl 1 rfl) ?_
    refine lv_i2b (v := x1.toInt8.toInt32) hx hb (kd dtX1_add_0 15 rfl) rfl ?_
    obtain ⟨w6, hw6, hf⟩ := kbind hf
    refine kbst hw6 F hX (kd dtX1_add_0 16 rfl) (fun H locs hX => ?_)
    refine lv_aload_n hx hb (kd dtX1_add_0 17 rfl) rfl (lv_at hl 0 rfl) ?_
    refine lv_dup hx hb (kd dtX1_add_0 18 rfl) rfl ?_
    obtain ⟨v7, hv7, hf⟩ := kbind hf
    refine kgetI hv7 F hX hinX1 rfl rfl rfl (by decide) (by decide) wfX1_9 (kd dtX1_add_0 19 rfl) ?_
    refine lv_iconst (v := (1 : Int32)) hx hb (kd dtX1_add_0 20 rfl) (by decide) ?_
    refine lv_iadd hx hb (kd dtX1_add_0 21 rfl) ?_
    obtain ⟨w8, hw8, hf⟩ := kbind hf
    refine kputI hw8 F hX hinX1 tyX1_ok nmX1 rfl rfl rfl (by decide) (by decide) wfX1_9 rfl rfl (Or.inl rfl) (kd dtX1_add_0 22 rfl) (fun H locs hX => ?_)
    obtain rfl := Option.some.inj hf
    exact kvret F hX hr hlocks rfl (kd dtX1_add_0 23 rfl)
  · have hf := kif_neg hc hf
    refine lv_aload_n hx hb (kd dtX1_add_0 6 rfl) rfl (lv_at hl 0 rfl) ?_
    refine lv_iconst (v := (1 : Int32)) hx hb (kd dtX1_add_0 7 rfl) (by decide) ?_
    obtain ⟨w9, hw9, hf⟩ := kbind hf
    refine kputI hw9 F hX hinX1 tyX1_ok nmX1 rfl rfl rfl (by decide) (by decide) wfX1_15 rfl rfl (Or.inl rfl) (kd dtX1_add_0 8 rfl) (fun H locs hX => ?_)
    obtain rfl := Option.some.inj hf
    exact kvret F hX hr hlocks rfl (kd dtX1_add_0 9 rfl)
def lX1_setSign_0 : List (Nat × Instr × Nat) := [(0, .iload_n 1, 1), (1, .ifCond .lt 28, 3), (4, .iload_n 1, 1), (5, .aload_n 0, 1), (6, .getfield 9, 3), (9, .if_icmp .ge 20, 3), (12, .iload_n 1, 1), (13, .aload_n 0, 1), (14, .getfield 28, 3), (17, .arraylength, 1), (18, .if_icmp .ge 11, 3), (21, .aload_n 0, 1), (22, .getfield 28, 3), (25, .iload_n 1, 1), (26, .iload_n 2, 1), (27, .i2b, 1), (28, .bastore, 1), (29, .return_, 1)]
theorem dtX1_setSign_0 : kDec cX1_setSign lX1_setSign_0 = true := by decide +kernel
noncomputable def fX1_setSign (x0 : Nat) (x1 : Int32) (x2 : Int32) (w : kW) : Option kW :=
  if x1 < 0 then
  some w
  else
  (kgI w 1 (some x0) 5).bind fun v1 =>
  if v1 ≤ x1 then
  some w
  else
  (kgP w 1 (some x0) 0).bind fun v2 =>
  (kal w 13 v2).bind fun v3 =>
  if v3 ≤ x1 then
  some w
  else
  (kgP w 1 (some x0) 0).bind fun v4 =>
  (ksI w 13 v4 x1 x2.toInt8.toInt32).bind fun w5 =>
  some w5

set_option maxHeartbeats 4000000 in
set_option maxRecDepth 100000 in
theorem rX1_setSign (l : Launch) (D : va_G) (aC : Nat → ClassId) {x0 : Nat} {x1 : Int32} {x2 : Int32} {w : kW} {wR : kW} (h : fX1_setSign x0 x1 x2 w = some wR) : kC l D aC yX1_setSign cX1_setSign 3 none 1 12 [.ref x0, .int x1, .int x2] w none wR 0 0 := by
  refine kOf (own := RX1) (by decide) rfl (Nat.le_of_ble_eq_true rfl) ?_
  intro p e s m below meth c ls F hml hr hlocks hnm hX hZ hl
  obtain ⟨hx, hb, hts, hown, hK⟩ := id F
  have hl : lv_has ls 3 [(0, .ref x0), (1, .int x1), (2, .int x2)] := hl
  have hf := h
  rw [fX1_setSign] at hf
  refine lv_iload_n hx hb (kd dtX1_setSign_0 0 rfl) rfl (lv_at hl 1 rfl) ?_
  refine lv_if_lt (tgt := 29) hx hb (kd dtX1_setSign_0 1 rfl) (by decide) (fun hc => ?_) (fun hc => ?_)
  · have hf := kif_pos hc hf
    obtain rfl := Option.some.inj hf
    exact kvret F hX hr hlocks rfl (kd dtX1_setSign_0 17 rfl)
  · have hf := kif_neg hc hf
    refine lv_iload_n hx hb (kd dtX1_setSign_0 2 rfl) rfl (lv_at hl 1 rfl) ?_
    refine lv_aload_n hx hb (kd dtX1_setSign_0 3 rfl) rfl (lv_at hl 0 rfl) ?_
    obtain ⟨v1, hv1, hf⟩ := kbind hf
    refine kgetI hv1 F hX hinX1 rfl rfl rfl (by decide) (by decide) wfX1_9 (kd dtX1_setSign_0 4 rfl) ?_
    refine lv_icmp_ge (tgt := 29) hx hb (kd dtX1_setSign_0 5 rfl) (by decide) (fun hc => ?_) (fun hc => ?_)
    · have hf := kif_pos hc hf
      obtain rfl := Option.some.inj hf
      exact kvret F hX hr hlocks rfl (kd dtX1_setSign_0 17 rfl)
    · have hf := kif_neg hc hf
      refine lv_iload_n hx hb (kd dtX1_setSign_0 6 rfl) rfl (lv_at hl 1 rfl) ?_
      refine lv_aload_n hx hb (kd dtX1_setSign_0 7 rfl) rfl (lv_at hl 0 rfl) ?_
      obtain ⟨v2, hv2, hf⟩ := kbind hf
      refine kgetP hv2 F hX hinX1 rfl rfl rfl (by decide) (by decide) wfX1_28 (kd dtX1_setSign_0 8 rfl) ?_
      obtain ⟨v3, hv3, hf⟩ := kbind hf
      refine kalen hv3 (by decide) (by decide) F hX (kd dtX1_setSign_0 9 rfl) ?_
      refine lv_icmp_ge (tgt := 29) hx hb (kd dtX1_setSign_0 10 rfl) (by decide) (fun hc => ?_) (fun hc => ?_)
      · have hf := kif_pos hc hf
        obtain rfl := Option.some.inj hf
        exact kvret F hX hr hlocks rfl (kd dtX1_setSign_0 17 rfl)
      · have hf := kif_neg hc hf
        refine lv_aload_n hx hb (kd dtX1_setSign_0 11 rfl) rfl (lv_at hl 0 rfl) ?_
        obtain ⟨v4, hv4, hf⟩ := kbind hf
        refine kgetP hv4 F hX hinX1 rfl rfl rfl (by decide) (by decide) wfX1_28 (kd dtX1_setSign_0 12 rfl) ?_
        refine lv_iload_n hx hb (kd dtX1_setSign_0 13 rfl) rfl (lv_at hl 1 rfl) ?_
        refine lv_iload_n hx hb (kd dtX1_setSign_0 14 rfl) rfl (lv_at hl 2 rfl) ?_
        refine lv_i2b (v := x2.toInt8.toInt32) hx hb (kd dtX1_setSign_0 15 rfl) rfl ?_
        obtain ⟨w5, hw5, hf⟩ := kbind hf
        refine kbst hw5 F hX (kd dtX1_setSign_0 16 rfl) (fun H locs hX => ?_)
        obtain rfl := Option.some.inj hf
        exact kvret F hX hr hlocks rfl (kd dtX1_setSign_0 17 rfl)
def lX1_settlePart_0 : List (Nat × Instr × Nat) := [(0, .aload_n 0, 1), (1, .getfield 32, 3), (4, .iload_n 1, 1), (5, .iload_n 2, 1), (6, .iastore, 1), (7, .aload_n 0, 1), (8, .getfield 36, 3), (11, .iload_n 1, 1), (12, .iload_n 3, 1), (13, .iastore, 1), (14, .aload_n 0, 1), (15, .getfield 39, 3), (18, .iload_n 1, 1), (19, .iload 4, 2), (21, .iastore, 1), (22, .aload_n 0, 1), (23, .getfield 42, 3), (26, .iload_n 1, 1), (27, .iload 5, 2), (29, .iastore, 1), (30, .return_, 1)]
theorem dtX1_settlePart_0 : kDec cX1_settlePart lX1_settlePart_0 = true := by decide +kernel
noncomputable def fX1_settlePart (x0 : Nat) (x1 : Int32) (x2 : Int32) (x3 : Int32) (x4 : Int32) (x5 : Int32) (w : kW) : Option kW :=
  (kgP w 1 (some x0) 1).bind fun v1 =>
  (ksI w 14 v1 x1 x2).bind fun w2 =>
  (kgP w2 1 (some x0) 2).bind fun v3 =>
  (ksI w2 14 v3 x1 x3).bind fun w4 =>
  (kgP w4 1 (some x0) 3).bind fun v5 =>
  (ksI w4 14 v5 x1 x4).bind fun w6 =>
  (kgP w6 1 (some x0) 4).bind fun v7 =>
  (ksI w6 14 v7 x1 x5).bind fun w8 =>
  some w8

set_option maxHeartbeats 4000000 in
set_option maxRecDepth 100000 in
theorem rX1_settlePart (l : Launch) (D : va_G) (aC : Nat → ClassId) {x0 : Nat} {x1 : Int32} {x2 : Int32} {x3 : Int32} {x4 : Int32} {x5 : Int32} {w : kW} {wR : kW} (h : fX1_settlePart x0 x1 x2 x3 x4 x5 w = some wR) : kC l D aC yX1_settlePart cX1_settlePart 6 none 1 12 [.ref x0, .int x1, .int x2, .int x3, .int x4, .int x5] w none wR 0 0 := by
  refine kOf (own := RX1) (by decide) rfl (Nat.le_of_ble_eq_true rfl) ?_
  intro p e s m below meth c ls F hml hr hlocks hnm hX hZ hl
  obtain ⟨hx, hb, hts, hown, hK⟩ := id F
  have hl : lv_has ls 6 [(0, .ref x0), (1, .int x1), (2, .int x2), (3, .int x3), (4, .int x4), (5, .int x5)] := hl
  have hf := h
  rw [fX1_settlePart] at hf
  refine lv_aload_n hx hb (kd dtX1_settlePart_0 0 rfl) rfl (lv_at hl 0 rfl) ?_
  obtain ⟨v1, hv1, hf⟩ := kbind hf
  refine kgetP hv1 F hX hinX1 rfl rfl rfl (by decide) (by decide) wfX1_32 (kd dtX1_settlePart_0 1 rfl) ?_
  refine lv_iload_n hx hb (kd dtX1_settlePart_0 2 rfl) rfl (lv_at hl 1 rfl) ?_
  refine lv_iload_n hx hb (kd dtX1_settlePart_0 3 rfl) rfl (lv_at hl 2 rfl) ?_
  obtain ⟨w2, hw2, hf⟩ := kbind hf
  refine kast hw2 F hX (kd dtX1_settlePart_0 4 rfl) (fun H locs hX => ?_)
  refine lv_aload_n hx hb (kd dtX1_settlePart_0 5 rfl) rfl (lv_at hl 0 rfl) ?_
  obtain ⟨v3, hv3, hf⟩ := kbind hf
  refine kgetP hv3 F hX hinX1 rfl rfl rfl (by decide) (by decide) wfX1_36 (kd dtX1_settlePart_0 6 rfl) ?_
  refine lv_iload_n hx hb (kd dtX1_settlePart_0 7 rfl) rfl (lv_at hl 1 rfl) ?_
  refine lv_iload_n hx hb (kd dtX1_settlePart_0 8 rfl) rfl (lv_at hl 3 rfl) ?_
  obtain ⟨w4, hw4, hf⟩ := kbind hf
  refine kast hw4 F hX (kd dtX1_settlePart_0 9 rfl) (fun H locs hX => ?_)
  refine lv_aload_n hx hb (kd dtX1_settlePart_0 10 rfl) rfl (lv_at hl 0 rfl) ?_
  obtain ⟨v5, hv5, hf⟩ := kbind hf
  refine kgetP hv5 F hX hinX1 rfl rfl rfl (by decide) (by decide) wfX1_39 (kd dtX1_settlePart_0 11 rfl) ?_
  refine lv_iload_n hx hb (kd dtX1_settlePart_0 12 rfl) rfl (lv_at hl 1 rfl) ?_
  refine lv_iload hx hb (kd dtX1_settlePart_0 13 rfl) (lv_at hl 4 rfl) ?_
  obtain ⟨w6, hw6, hf⟩ := kbind hf
  refine kast hw6 F hX (kd dtX1_settlePart_0 14 rfl) (fun H locs hX => ?_)
  refine lv_aload_n hx hb (kd dtX1_settlePart_0 15 rfl) rfl (lv_at hl 0 rfl) ?_
  obtain ⟨v7, hv7, hf⟩ := kbind hf
  refine kgetP hv7 F hX hinX1 rfl rfl rfl (by decide) (by decide) wfX1_42 (kd dtX1_settlePart_0 16 rfl) ?_
  refine lv_iload_n hx hb (kd dtX1_settlePart_0 17 rfl) rfl (lv_at hl 1 rfl) ?_
  refine lv_iload hx hb (kd dtX1_settlePart_0 18 rfl) (lv_at hl 5 rfl) ?_
  obtain ⟨w8, hw8, hf⟩ := kbind hf
  refine kast hw8 F hX (kd dtX1_settlePart_0 19 rfl) (fun H locs hX => ?_)
  obtain rfl := Option.some.inj hf
  exact kvret F hX hr hlocks rfl (kd dtX1_settlePart_0 20 rfl)
def lX1_endAt_0 : List (Nat × Instr × Nat) := [(0, .iload_n 1, 1), (1, .ifCond .lt 29, 3), (4, .iload_n 1, 1), (5, .aload_n 0, 1), (6, .getfield 9, 3), (9, .if_icmp .ge 21, 3), (12, .iload_n 1, 1), (13, .aload_n 0, 1), (14, .getfield 32, 3), (17, .arraylength, 1), (18, .if_icmp .ge 12, 3), (21, .aload_n 0, 1), (22, .getfield 32, 3), (25, .iload_n 1, 1), (26, .iaload, 1), (27, .goto 7, 3), (30, .aload_n 0, 1), (31, .getfield 9, 3), (34, .ireturn, 1)]
theorem dtX1_endAt_0 : kDec cX1_endAt lX1_endAt_0 = true := by decide +kernel
noncomputable def fX1_endAt (x0 : Nat) (x1 : Int32) (w : kW) : Option Int32 :=
  if x1 < 0 then
  (kgI w 1 (some x0) 5).bind fun v1 =>
  some v1
  else
  (kgI w 1 (some x0) 5).bind fun v2 =>
  if v2 ≤ x1 then
  (kgI w 1 (some x0) 5).bind fun v3 =>
  some v3
  else
  (kgP w 1 (some x0) 1).bind fun v4 =>
  (kal w 14 v4).bind fun v5 =>
  if v5 ≤ x1 then
  (kgI w 1 (some x0) 5).bind fun v6 =>
  some v6
  else
  (kgP w 1 (some x0) 1).bind fun v7 =>
  (kaI w 14 v7 x1).bind fun v8 =>
  some v8

set_option maxHeartbeats 4000000 in
set_option maxRecDepth 100000 in
theorem rX1_endAt (l : Launch) (D : va_G) (aC : Nat → ClassId) {x0 : Nat} {x1 : Int32} {w : kW} {oR : Int32} (h : fX1_endAt x0 x1 w = some oR) : kC l D aC yX1_endAt cX1_endAt 2 (some .int) 1 12 [.ref x0, .int x1] w (some (.int oR)) w 0 0 := by
  refine kOf (own := RX1) (by decide) rfl (Nat.le_of_ble_eq_true rfl) ?_
  intro p e s m below meth c ls F hml hr hlocks hnm hX hZ hl
  obtain ⟨hx, hb, hts, hown, hK⟩ := id F
  have hl : lv_has ls 2 [(0, .ref x0), (1, .int x1)] := hl
  have hf := h
  rw [fX1_endAt] at hf
  refine lv_iload_n hx hb (kd dtX1_endAt_0 0 rfl) rfl (lv_at hl 1 rfl) ?_
  refine lv_if_lt (tgt := 30) hx hb (kd dtX1_endAt_0 1 rfl) (by decide) (fun hc => ?_) (fun hc => ?_)
  · have hf := kif_pos hc hf
    refine lv_aload_n hx hb (kd dtX1_endAt_0 16 rfl) rfl (lv_at hl 0 rfl) ?_
    obtain ⟨v1, hv1, hf⟩ := kbind hf
    refine kgetI hv1 F hX hinX1 rfl rfl rfl (by decide) (by decide) wfX1_9 (kd dtX1_endAt_0 17 rfl) ?_
    obtain rfl := Option.some.inj hf
    exact kiret F hX hr hlocks rfl (kd dtX1_endAt_0 18 rfl)
  · have hf := kif_neg hc hf
    refine lv_iload_n hx hb (kd dtX1_endAt_0 2 rfl) rfl (lv_at hl 1 rfl) ?_
    refine lv_aload_n hx hb (kd dtX1_endAt_0 3 rfl) rfl (lv_at hl 0 rfl) ?_
    obtain ⟨v2, hv2, hf⟩ := kbind hf
    refine kgetI hv2 F hX hinX1 rfl rfl rfl (by decide) (by decide) wfX1_9 (kd dtX1_endAt_0 4 rfl) ?_
    refine lv_icmp_ge (tgt := 30) hx hb (kd dtX1_endAt_0 5 rfl) (by decide) (fun hc => ?_) (fun hc => ?_)
    · have hf := kif_pos hc hf
      refine lv_aload_n hx hb (kd dtX1_endAt_0 16 rfl) rfl (lv_at hl 0 rfl) ?_
      obtain ⟨v3, hv3, hf⟩ := kbind hf
      refine kgetI hv3 F hX hinX1 rfl rfl rfl (by decide) (by decide) wfX1_9 (kd dtX1_endAt_0 17 rfl) ?_
      obtain rfl := Option.some.inj hf
      exact kiret F hX hr hlocks rfl (kd dtX1_endAt_0 18 rfl)
    · have hf := kif_neg hc hf
      refine lv_iload_n hx hb (kd dtX1_endAt_0 6 rfl) rfl (lv_at hl 1 rfl) ?_
      refine lv_aload_n hx hb (kd dtX1_endAt_0 7 rfl) rfl (lv_at hl 0 rfl) ?_
      obtain ⟨v4, hv4, hf⟩ := kbind hf
      refine kgetP hv4 F hX hinX1 rfl rfl rfl (by decide) (by decide) wfX1_32 (kd dtX1_endAt_0 8 rfl) ?_
      obtain ⟨v5, hv5, hf⟩ := kbind hf
      refine kalen hv5 (by decide) (by decide) F hX (kd dtX1_endAt_0 9 rfl) ?_
      refine lv_icmp_ge (tgt := 30) hx hb (kd dtX1_endAt_0 10 rfl) (by decide) (fun hc => ?_) (fun hc => ?_)
      · have hf := kif_pos hc hf
        refine lv_aload_n hx hb (kd dtX1_endAt_0 16 rfl) rfl (lv_at hl 0 rfl) ?_
        obtain ⟨v6, hv6, hf⟩ := kbind hf
        refine kgetI hv6 F hX hinX1 rfl rfl rfl (by decide) (by decide) wfX1_9 (kd dtX1_endAt_0 17 rfl) ?_
        obtain rfl := Option.some.inj hf
        exact kiret F hX hr hlocks rfl (kd dtX1_endAt_0 18 rfl)
      · have hf := kif_neg hc hf
        refine lv_aload_n hx hb (kd dtX1_endAt_0 11 rfl) rfl (lv_at hl 0 rfl) ?_
        obtain ⟨v7, hv7, hf⟩ := kbind hf
        refine kgetP hv7 F hX hinX1 rfl rfl rfl (by decide) (by decide) wfX1_32 (kd dtX1_endAt_0 12 rfl) ?_
        refine lv_iload_n hx hb (kd dtX1_endAt_0 13 rfl) rfl (lv_at hl 1 rfl) ?_
        obtain ⟨v8, hv8, hf⟩ := kbind hf
        refine kald hv8 F hX (kd dtX1_endAt_0 14 rfl) ?_
        refine lv_goto (tgt := 34) hx hb (kd dtX1_endAt_0 15 rfl) (by decide) ?_
        obtain rfl := Option.some.inj hf
        exact kiret F hX hr hlocks rfl (kd dtX1_endAt_0 18 rfl)
def lX1_levelAt_0 : List (Nat × Instr × Nat) := [(0, .iload_n 1, 1), (1, .ifCond .lt 29, 3), (4, .iload_n 1, 1), (5, .aload_n 0, 1), (6, .getfield 9, 3), (9, .if_icmp .ge 21, 3), (12, .iload_n 1, 1), (13, .aload_n 0, 1), (14, .getfield 36, 3), (17, .arraylength, 1), (18, .if_icmp .ge 12, 3), (21, .aload_n 0, 1), (22, .getfield 36, 3), (25, .iload_n 1, 1), (26, .iaload, 1), (27, .goto 4, 3), (30, .iconst 0, 1), (31, .ireturn, 1)]
theorem dtX1_levelAt_0 : kDec cX1_levelAt lX1_levelAt_0 = true := by decide +kernel
noncomputable def fX1_levelAt (x0 : Nat) (x1 : Int32) (w : kW) : Option Int32 :=
  if x1 < 0 then
  some (0 : Int32)
  else
  (kgI w 1 (some x0) 5).bind fun v1 =>
  if v1 ≤ x1 then
  some (0 : Int32)
  else
  (kgP w 1 (some x0) 2).bind fun v2 =>
  (kal w 14 v2).bind fun v3 =>
  if v3 ≤ x1 then
  some (0 : Int32)
  else
  (kgP w 1 (some x0) 2).bind fun v4 =>
  (kaI w 14 v4 x1).bind fun v5 =>
  some v5

set_option maxHeartbeats 4000000 in
set_option maxRecDepth 100000 in
theorem rX1_levelAt (l : Launch) (D : va_G) (aC : Nat → ClassId) {x0 : Nat} {x1 : Int32} {w : kW} {oR : Int32} (h : fX1_levelAt x0 x1 w = some oR) : kC l D aC yX1_levelAt cX1_levelAt 2 (some .int) 1 12 [.ref x0, .int x1] w (some (.int oR)) w 0 0 := by
  refine kOf (own := RX1) (by decide) rfl (Nat.le_of_ble_eq_true rfl) ?_
  intro p e s m below meth c ls F hml hr hlocks hnm hX hZ hl
  obtain ⟨hx, hb, hts, hown, hK⟩ := id F
  have hl : lv_has ls 2 [(0, .ref x0), (1, .int x1)] := hl
  have hf := h
  rw [fX1_levelAt] at hf
  refine lv_iload_n hx hb (kd dtX1_levelAt_0 0 rfl) rfl (lv_at hl 1 rfl) ?_
  refine lv_if_lt (tgt := 30) hx hb (kd dtX1_levelAt_0 1 rfl) (by decide) (fun hc => ?_) (fun hc => ?_)
  · have hf := kif_pos hc hf
    refine lv_iconst (v := (0 : Int32)) hx hb (kd dtX1_levelAt_0 16 rfl) (by decide) ?_
    obtain rfl := Option.some.inj hf
    exact kiret F hX hr hlocks rfl (kd dtX1_levelAt_0 17 rfl)
  · have hf := kif_neg hc hf
    refine lv_iload_n hx hb (kd dtX1_levelAt_0 2 rfl) rfl (lv_at hl 1 rfl) ?_
    refine lv_aload_n hx hb (kd dtX1_levelAt_0 3 rfl) rfl (lv_at hl 0 rfl) ?_
    obtain ⟨v1, hv1, hf⟩ := kbind hf
    refine kgetI hv1 F hX hinX1 rfl rfl rfl (by decide) (by decide) wfX1_9 (kd dtX1_levelAt_0 4 rfl) ?_
    refine lv_icmp_ge (tgt := 30) hx hb (kd dtX1_levelAt_0 5 rfl) (by decide) (fun hc => ?_) (fun hc => ?_)
    · have hf := kif_pos hc hf
      refine lv_iconst (v := (0 : Int32)) hx hb (kd dtX1_levelAt_0 16 rfl) (by decide) ?_
      obtain rfl := Option.some.inj hf
      exact kiret F hX hr hlocks rfl (kd dtX1_levelAt_0 17 rfl)
    · have hf := kif_neg hc hf
      refine lv_iload_n hx hb (kd dtX1_levelAt_0 6 rfl) rfl (lv_at hl 1 rfl) ?_
      refine lv_aload_n hx hb (kd dtX1_levelAt_0 7 rfl) rfl (lv_at hl 0 rfl) ?_
      obtain ⟨v2, hv2, hf⟩ := kbind hf
      refine kgetP hv2 F hX hinX1 rfl rfl rfl (by decide) (by decide) wfX1_36 (kd dtX1_levelAt_0 8 rfl) ?_
      obtain ⟨v3, hv3, hf⟩ := kbind hf
      refine kalen hv3 (by decide) (by decide) F hX (kd dtX1_levelAt_0 9 rfl) ?_
      refine lv_icmp_ge (tgt := 30) hx hb (kd dtX1_levelAt_0 10 rfl) (by decide) (fun hc => ?_) (fun hc => ?_)
      · have hf := kif_pos hc hf
        refine lv_iconst (v := (0 : Int32)) hx hb (kd dtX1_levelAt_0 16 rfl) (by decide) ?_
        obtain rfl := Option.some.inj hf
        exact kiret F hX hr hlocks rfl (kd dtX1_levelAt_0 17 rfl)
      · have hf := kif_neg hc hf
        refine lv_aload_n hx hb (kd dtX1_levelAt_0 11 rfl) rfl (lv_at hl 0 rfl) ?_
        obtain ⟨v4, hv4, hf⟩ := kbind hf
        refine kgetP hv4 F hX hinX1 rfl rfl rfl (by decide) (by decide) wfX1_36 (kd dtX1_levelAt_0 12 rfl) ?_
        refine lv_iload_n hx hb (kd dtX1_levelAt_0 13 rfl) rfl (lv_at hl 1 rfl) ?_
        obtain ⟨v5, hv5, hf⟩ := kbind hf
        refine kald hv5 F hX (kd dtX1_levelAt_0 14 rfl) ?_
        refine lv_goto (tgt := 31) hx hb (kd dtX1_levelAt_0 15 rfl) (by decide) ?_
        obtain rfl := Option.some.inj hf
        exact kiret F hX hr hlocks rfl (kd dtX1_levelAt_0 17 rfl)
def lX1_placesAt_0 : List (Nat × Instr × Nat) := [(0, .iload_n 1, 1), (1, .ifCond .lt 29, 3), (4, .iload_n 1, 1), (5, .aload_n 0, 1), (6, .getfield 9, 3), (9, .if_icmp .ge 21, 3), (12, .iload_n 1, 1), (13, .aload_n 0, 1), (14, .getfield 39, 3), (17, .arraylength, 1), (18, .if_icmp .ge 12, 3), (21, .aload_n 0, 1), (22, .getfield 39, 3), (25, .iload_n 1, 1), (26, .iaload, 1), (27, .goto 4, 3), (30, .iconst 0, 1), (31, .ireturn, 1)]
theorem dtX1_placesAt_0 : kDec cX1_placesAt lX1_placesAt_0 = true := by decide +kernel
noncomputable def fX1_placesAt (x0 : Nat) (x1 : Int32) (w : kW) : Option Int32 :=
  if x1 < 0 then
  some (0 : Int32)
  else
  (kgI w 1 (some x0) 5).bind fun v1 =>
  if v1 ≤ x1 then
  some (0 : Int32)
  else
  (kgP w 1 (some x0) 3).bind fun v2 =>
  (kal w 14 v2).bind fun v3 =>
  if v3 ≤ x1 then
  some (0 : Int32)
  else
  (kgP w 1 (some x0) 3).bind fun v4 =>
  (kaI w 14 v4 x1).bind fun v5 =>
  some v5

set_option maxHeartbeats 4000000 in
set_option maxRecDepth 100000 in
theorem rX1_placesAt (l : Launch) (D : va_G) (aC : Nat → ClassId) {x0 : Nat} {x1 : Int32} {w : kW} {oR : Int32} (h : fX1_placesAt x0 x1 w = some oR) : kC l D aC yX1_placesAt cX1_placesAt 2 (some .int) 1 12 [.ref x0, .int x1] w (some (.int oR)) w 0 0 := by
  refine kOf (own := RX1) (by decide) rfl (Nat.le_of_ble_eq_true rfl) ?_
  intro p e s m below meth c ls F hml hr hlocks hnm hX hZ hl
  obtain ⟨hx, hb, hts, hown, hK⟩ := id F
  have hl : lv_has ls 2 [(0, .ref x0), (1, .int x1)] := hl
  have hf := h
  rw [fX1_placesAt] at hf
  refine lv_iload_n hx hb (kd dtX1_placesAt_0 0 rfl) rfl (lv_at hl 1 rfl) ?_
  refine lv_if_lt (tgt := 30) hx hb (kd dtX1_placesAt_0 1 rfl) (by decide) (fun hc => ?_) (fun hc => ?_)
  · have hf := kif_pos hc hf
    refine lv_iconst (v := (0 : Int32)) hx hb (kd dtX1_placesAt_0 16 rfl) (by decide) ?_
    obtain rfl := Option.some.inj hf
    exact kiret F hX hr hlocks rfl (kd dtX1_placesAt_0 17 rfl)
  · have hf := kif_neg hc hf
    refine lv_iload_n hx hb (kd dtX1_placesAt_0 2 rfl) rfl (lv_at hl 1 rfl) ?_
    refine lv_aload_n hx hb (kd dtX1_placesAt_0 3 rfl) rfl (lv_at hl 0 rfl) ?_
    obtain ⟨v1, hv1, hf⟩ := kbind hf
    refine kgetI hv1 F hX hinX1 rfl rfl rfl (by decide) (by decide) wfX1_9 (kd dtX1_placesAt_0 4 rfl) ?_
    refine lv_icmp_ge (tgt := 30) hx hb (kd dtX1_placesAt_0 5 rfl) (by decide) (fun hc => ?_) (fun hc => ?_)
    · have hf := kif_pos hc hf
      refine lv_iconst (v := (0 : Int32)) hx hb (kd dtX1_placesAt_0 16 rfl) (by decide) ?_
      obtain rfl := Option.some.inj hf
      exact kiret F hX hr hlocks rfl (kd dtX1_placesAt_0 17 rfl)
    · have hf := kif_neg hc hf
      refine lv_iload_n hx hb (kd dtX1_placesAt_0 6 rfl) rfl (lv_at hl 1 rfl) ?_
      refine lv_aload_n hx hb (kd dtX1_placesAt_0 7 rfl) rfl (lv_at hl 0 rfl) ?_
      obtain ⟨v2, hv2, hf⟩ := kbind hf
      refine kgetP hv2 F hX hinX1 rfl rfl rfl (by decide) (by decide) wfX1_39 (kd dtX1_placesAt_0 8 rfl) ?_
      obtain ⟨v3, hv3, hf⟩ := kbind hf
      refine kalen hv3 (by decide) (by decide) F hX (kd dtX1_placesAt_0 9 rfl) ?_
      refine lv_icmp_ge (tgt := 30) hx hb (kd dtX1_placesAt_0 10 rfl) (by decide) (fun hc => ?_) (fun hc => ?_)
      · have hf := kif_pos hc hf
        refine lv_iconst (v := (0 : Int32)) hx hb (kd dtX1_placesAt_0 16 rfl) (by decide) ?_
        obtain rfl := Option.some.inj hf
        exact kiret F hX hr hlocks rfl (kd dtX1_placesAt_0 17 rfl)
      · have hf := kif_neg hc hf
        refine lv_aload_n hx hb (kd dtX1_placesAt_0 11 rfl) rfl (lv_at hl 0 rfl) ?_
        obtain ⟨v4, hv4, hf⟩ := kbind hf
        refine kgetP hv4 F hX hinX1 rfl rfl rfl (by decide) (by decide) wfX1_39 (kd dtX1_placesAt_0 12 rfl) ?_
        refine lv_iload_n hx hb (kd dtX1_placesAt_0 13 rfl) rfl (lv_at hl 1 rfl) ?_
        obtain ⟨v5, hv5, hf⟩ := kbind hf
        refine kald hv5 F hX (kd dtX1_placesAt_0 14 rfl) ?_
        refine lv_goto (tgt := 31) hx hb (kd dtX1_placesAt_0 15 rfl) (by decide) ?_
        obtain rfl := Option.some.inj hf
        exact kiret F hX hr hlocks rfl (kd dtX1_placesAt_0 17 rfl)
def lX1_lettersAt_0 : List (Nat × Instr × Nat) := [(0, .iload_n 1, 1), (1, .ifCond .lt 29, 3), (4, .iload_n 1, 1), (5, .aload_n 0, 1), (6, .getfield 9, 3), (9, .if_icmp .ge 21, 3), (12, .iload_n 1, 1), (13, .aload_n 0, 1), (14, .getfield 42, 3), (17, .arraylength, 1), (18, .if_icmp .ge 12, 3), (21, .aload_n 0, 1), (22, .getfield 42, 3), (25, .iload_n 1, 1), (26, .iaload, 1), (27, .goto 4, 3), (30, .iconst 0, 1), (31, .ireturn, 1)]
theorem dtX1_lettersAt_0 : kDec cX1_lettersAt lX1_lettersAt_0 = true := by decide +kernel
noncomputable def fX1_lettersAt (x0 : Nat) (x1 : Int32) (w : kW) : Option Int32 :=
  if x1 < 0 then
  some (0 : Int32)
  else
  (kgI w 1 (some x0) 5).bind fun v1 =>
  if v1 ≤ x1 then
  some (0 : Int32)
  else
  (kgP w 1 (some x0) 4).bind fun v2 =>
  (kal w 14 v2).bind fun v3 =>
  if v3 ≤ x1 then
  some (0 : Int32)
  else
  (kgP w 1 (some x0) 4).bind fun v4 =>
  (kaI w 14 v4 x1).bind fun v5 =>
  some v5

set_option maxHeartbeats 4000000 in
set_option maxRecDepth 100000 in
theorem rX1_lettersAt (l : Launch) (D : va_G) (aC : Nat → ClassId) {x0 : Nat} {x1 : Int32} {w : kW} {oR : Int32} (h : fX1_lettersAt x0 x1 w = some oR) : kC l D aC yX1_lettersAt cX1_lettersAt 2 (some .int) 1 12 [.ref x0, .int x1] w (some (.int oR)) w 0 0 := by
  refine kOf (own := RX1) (by decide) rfl (Nat.le_of_ble_eq_true rfl) ?_
  intro p e s m below meth c ls F hml hr hlocks hnm hX hZ hl
  obtain ⟨hx, hb, hts, hown, hK⟩ := id F
  have hl : lv_has ls 2 [(0, .ref x0), (1, .int x1)] := hl
  have hf := h
  rw [fX1_lettersAt] at hf
  refine lv_iload_n hx hb (kd dtX1_lettersAt_0 0 rfl) rfl (lv_at hl 1 rfl) ?_
  refine lv_if_lt (tgt := 30) hx hb (kd dtX1_lettersAt_0 1 rfl) (by decide) (fun hc => ?_) (fun hc => ?_)
  · have hf := kif_pos hc hf
    refine lv_iconst (v := (0 : Int32)) hx hb (kd dtX1_lettersAt_0 16 rfl) (by decide) ?_
    obtain rfl := Option.some.inj hf
    exact kiret F hX hr hlocks rfl (kd dtX1_lettersAt_0 17 rfl)
  · have hf := kif_neg hc hf
    refine lv_iload_n hx hb (kd dtX1_lettersAt_0 2 rfl) rfl (lv_at hl 1 rfl) ?_
    refine lv_aload_n hx hb (kd dtX1_lettersAt_0 3 rfl) rfl (lv_at hl 0 rfl) ?_
    obtain ⟨v1, hv1, hf⟩ := kbind hf
    refine kgetI hv1 F hX hinX1 rfl rfl rfl (by decide) (by decide) wfX1_9 (kd dtX1_lettersAt_0 4 rfl) ?_
    refine lv_icmp_ge (tgt := 30) hx hb (kd dtX1_lettersAt_0 5 rfl) (by decide) (fun hc => ?_) (fun hc => ?_)
    · have hf := kif_pos hc hf
      refine lv_iconst (v := (0 : Int32)) hx hb (kd dtX1_lettersAt_0 16 rfl) (by decide) ?_
      obtain rfl := Option.some.inj hf
      exact kiret F hX hr hlocks rfl (kd dtX1_lettersAt_0 17 rfl)
    · have hf := kif_neg hc hf
      refine lv_iload_n hx hb (kd dtX1_lettersAt_0 6 rfl) rfl (lv_at hl 1 rfl) ?_
      refine lv_aload_n hx hb (kd dtX1_lettersAt_0 7 rfl) rfl (lv_at hl 0 rfl) ?_
      obtain ⟨v2, hv2, hf⟩ := kbind hf
      refine kgetP hv2 F hX hinX1 rfl rfl rfl (by decide) (by decide) wfX1_42 (kd dtX1_lettersAt_0 8 rfl) ?_
      obtain ⟨v3, hv3, hf⟩ := kbind hf
      refine kalen hv3 (by decide) (by decide) F hX (kd dtX1_lettersAt_0 9 rfl) ?_
      refine lv_icmp_ge (tgt := 30) hx hb (kd dtX1_lettersAt_0 10 rfl) (by decide) (fun hc => ?_) (fun hc => ?_)
      · have hf := kif_pos hc hf
        refine lv_iconst (v := (0 : Int32)) hx hb (kd dtX1_lettersAt_0 16 rfl) (by decide) ?_
        obtain rfl := Option.some.inj hf
        exact kiret F hX hr hlocks rfl (kd dtX1_lettersAt_0 17 rfl)
      · have hf := kif_neg hc hf
        refine lv_aload_n hx hb (kd dtX1_lettersAt_0 11 rfl) rfl (lv_at hl 0 rfl) ?_
        obtain ⟨v4, hv4, hf⟩ := kbind hf
        refine kgetP hv4 F hX hinX1 rfl rfl rfl (by decide) (by decide) wfX1_42 (kd dtX1_lettersAt_0 12 rfl) ?_
        refine lv_iload_n hx hb (kd dtX1_lettersAt_0 13 rfl) rfl (lv_at hl 1 rfl) ?_
        obtain ⟨v5, hv5, hf⟩ := kbind hf
        refine kald hv5 F hX (kd dtX1_lettersAt_0 14 rfl) ?_
        refine lv_goto (tgt := 31) hx hb (kd dtX1_lettersAt_0 15 rfl) (by decide) ?_
        obtain rfl := Option.some.inj hf
        exact kiret F hX hr hlocks rfl (kd dtX1_lettersAt_0 17 rfl)
theorem wmX1_71 : Cond.methodLink RX1 71 Lib.Math.min.name ∈ kT := kTm 558 (by decide +kernel) rfl
theorem wmX1_74 : Cond.methodLinkNest RX1 74 yX11_letterOf "KitchenCards" ∈ kNs := kNm 561 (by decide +kernel) rfl
theorem mwX11_letterOf : kMS yX11_letterOf cX11_letterOf 1 (some .int) := ⟨kTm 529 (by decide +kernel) rfl, kTm 94 (by decide +kernel) rfl, kTm 528 (by decide +kernel) rfl⟩
theorem wmX1_45 : Cond.methodLink RX1 45 yX1_endAt ∈ kT := kTm 566 (by decide +kernel) rfl
theorem mwX1_endAt : kMV RX1 yX1_endAt cX1_endAt 2 (some .int) := ⟨kTm 569 (by decide +kernel) rfl, kTm 97 (by decide +kernel) rfl, kTm 567 (by decide +kernel) rfl, kTm 568 (by decide +kernel) rfl⟩
theorem wmX1_81 : Cond.methodLink RX1 81 yX1_levelAt ∈ kT := kTm 570 (by decide +kernel) rfl
theorem mwX1_levelAt : kMV RX1 yX1_levelAt cX1_levelAt 2 (some .int) := ⟨kTm 573 (by decide +kernel) rfl, kTm 97 (by decide +kernel) rfl, kTm 571 (by decide +kernel) rfl, kTm 572 (by decide +kernel) rfl⟩
theorem wmX1_84 : Cond.methodLink RX1 84 yX1_placesAt ∈ kT := kTm 574 (by decide +kernel) rfl
theorem mwX1_placesAt : kMV RX1 yX1_placesAt cX1_placesAt 2 (some .int) := ⟨kTm 577 (by decide +kernel) rfl, kTm 97 (by decide +kernel) rfl, kTm 575 (by decide +kernel) rfl, kTm 576 (by decide +kernel) rfl⟩
theorem wmX1_87 : Cond.methodLink RX1 87 yX1_lettersAt ∈ kT := kTm 578 (by decide +kernel) rfl
theorem mwX1_lettersAt : kMV RX1 yX1_lettersAt cX1_lettersAt 2 (some .int) := ⟨kTm 581 (by decide +kernel) rfl, kTm 97 (by decide +kernel) rfl, kTm 580 (by decide +kernel) rfl, kTm 7 (by decide +kernel) rfl⟩
theorem wmX1_77 : Cond.methodLink RX1 77 yX1_settlePart ∈ kT := kTm 562 (by decide +kernel) rfl
theorem mwX1_settlePart : kMV RX1 yX1_settlePart cX1_settlePart 6 none := ⟨kTm 565 (by decide +kernel) rfl, kTm 97 (by decide +kernel) rfl, kTm 564 (by decide +kernel) rfl, kTm 6 (by decide +kernel) rfl⟩
def lX1_settle_0 : List (Nat × Instr × Nat) := [(0, .aload_n 0, 1), (1, .getfield 9, 3), (4, .aload_n 0, 1), (5, .getfield 28, 3), (8, .arraylength, 1), (9, .invokestatic 71, 3), (12, .iconst 1, 1), (13, .isub, 1), (14, .istore_n 1, 1), (15, .iload_n 1, 1), (16, .ifCond .lt 148, 3), (19, .iload_n 1, 1), (20, .iconst 1, 1), (21, .iadd, 1), (22, .istore_n 2, 1), (23, .aload_n 0, 1), (24, .getfield 28, 3), (27, .iload_n 1, 1), (28, .baload, 1), (29, .invokestatic 74, 3), (32, .istore_n 3, 1), (33, .iload_n 3, 1), (34, .ifCond .lt 17, 3), (37, .aload_n 0, 1), (38, .iload_n 1, 1), (39, .iload_n 2, 1), (40, .iconst 1, 1), (41, .iconst 1, 1), (42, .iconst 1, 1), (43, .iload_n 3, 1), (44, .ishl, 1), (45, .invokevirtual 77, 3), (48, .goto 110, 3), (51, .aload_n 0, 1), (52, .getfield 28, 3), (55, .iload_n 1, 1), (56, .baload, 1), (57, .bipush 126, 2), (59, .if_icmp .ne 33, 3), (62, .aload_n 0, 1), (63, .iload_n 1, 1), (64, .aload_n 0, 1), (65, .iload_n 2, 1), (66, .invokevirtual 45, 3), (69, .iconst 1, 1), (70, .aload_n 0, 1), (71, .iload_n 2, 1), (72, .invokevirtual 81, 3), (75, .iadd, 1), (76, .aload_n 0, 1), (77, .iload_n 2, 1), (78, .invokevirtual 84, 3), (81, .aload_n 0, 1), (82, .iload_n 2, 1), (83, .invokevirtual 87, 3), (86, .invokevirtual 77, 3), (89, .goto 69, 3), (92, .aload_n 0, 1), (93, .iload_n 2, 1), (94, .invokevirtual 45, 3), (97, .istore 4, 2), (99, .iconst 1, 1), (100, .aload_n 0, 1), (101, .iload_n 2, 1), (102, .invokevirtual 81, 3), (105, .aload_n 0, 1), (106, .iload 4, 2), (108, .invokevirtual 81, 3), (111, .invokestatic 22, 3), (114, .iadd, 1), (115, .istore 5, 2), (117, .aload_n 0, 1), (118, .iload_n 2, 1), (119, .invokevirtual 84, 3), (122, .aload_n 0, 1), (123, .iload 4, 2), (125, .invokevirtual 84, 3), (128, .iadd, 1), (129, .istore 6, 2), (131, .aload_n 0, 1)]
theorem dtX1_settle_0 : kDec cX1_settle lX1_settle_0 = true := by decide +kernel
def lX1_settle_1 : List (Nat × Instr × Nat) := [(132, .iload_n 1, 1), (133, .aload_n 0, 1), (134, .iload 4, 2), (136, .invokevirtual 45, 3), (139, .iload 5, 2), (141, .iload 6, 2), (143, .aload_n 0, 1), (144, .iload_n 2, 1), (145, .invokevirtual 87, 3), (148, .aload_n 0, 1), (149, .iload 4, 2), (151, .invokevirtual 87, 3), (154, .ior, 1), (155, .invokevirtual 77, 3), (158, .iinc 1 (-1), 3), (161, .goto (-146), 3), (164, .return_, 1)]
theorem dtX1_settle_1 : kDec cX1_settle lX1_settle_1 = true := by decide +kernel
noncomputable def fX1_settle_L15 (x0 : Nat) : Nat → (Int32 → kW → Option kW) → Int32 → kW → Option kW
  | 0, _, _, _ => none
  | n + 1, k, x1, w =>
  if x1 < 0 then
  k x1 w
  else
  (kgP w 1 (some x0) 0).bind fun v1 =>
  (kaI w 13 v1 x1).bind fun v2 =>
  (fX11_letterOf v2).bind fun v4 =>
  if v4 < 0 then
  (kgP w 1 (some x0) 0).bind fun v5 =>
  (kaI w 13 v5 x1).bind fun v6 =>
  if v6 = (126 : Int32) then
  (kRc w 1 (some x0)).bind fun b34 =>
  (fX1_endAt b34 (x1 + (1 : Int32)) w).bind fun v36 =>
  (kRc w 1 (some x0)).bind fun b37 =>
  (fX1_levelAt b37 (x1 + (1 : Int32)) w).bind fun v39 =>
  (kRc w 1 (some x0)).bind fun b40 =>
  (fX1_placesAt b40 (x1 + (1 : Int32)) w).bind fun v42 =>
  (kRc w 1 (some x0)).bind fun b43 =>
  (fX1_lettersAt b43 (x1 + (1 : Int32)) w).bind fun v45 =>
  (kRc w 1 (some x0)).bind fun b46 =>
  (fX1_settlePart b46 x1 v36 ((1 : Int32) + v39) v42 v45 w).bind fun w47 =>
  fX1_settle_L15 x0 n k (x1 + (-1 : Int32)) w47
  else
  (kRc w 1 (some x0)).bind fun b7 =>
  (fX1_endAt b7 (x1 + (1 : Int32)) w).bind fun v9 =>
  (kRc w 1 (some x0)).bind fun b10 =>
  (fX1_levelAt b10 (x1 + (1 : Int32)) w).bind fun v12 =>
  (kRc w 1 (some x0)).bind fun b13 =>
  (fX1_levelAt b13 v9 w).bind fun v15 =>
  (kRc w 1 (some x0)).bind fun b16 =>
  (fX1_placesAt b16 (x1 + (1 : Int32)) w).bind fun v18 =>
  (kRc w 1 (some x0)).bind fun b19 =>
  (fX1_placesAt b19 v9 w).bind fun v21 =>
  (kRc w 1 (some x0)).bind fun b22 =>
  (fX1_endAt b22 v9 w).bind fun v24 =>
  (kRc w 1 (some x0)).bind fun b25 =>
  (fX1_lettersAt b25 (x1 + (1 : Int32)) w).bind fun v27 =>
  (kRc w 1 (some x0)).bind fun b28 =>
  (fX1_lettersAt b28 v9 w).bind fun v30 =>
  (kRc w 1 (some x0)).bind fun b31 =>
  (fX1_settlePart b31 x1 v24 ((1 : Int32) + (kMmax v12 v15)) (v18 + v21) (v27 ||| v30) w).bind fun w32 =>
  fX1_settle_L15 x0 n k (x1 + (-1 : Int32)) w32
  else
  (kRc w 1 (some x0)).bind fun b49 =>
  (fX1_settlePart b49 x1 (x1 + (1 : Int32)) (1 : Int32) (1 : Int32) ((1 : Int32) <<< (v4 &&& 31)) w).bind fun w50 =>
  fX1_settle_L15 x0 n k (x1 + (-1 : Int32)) w50

noncomputable def fX1_settle (x0 : Nat) (w : kW) : Option kW :=
  (kgI w 1 (some x0) 5).bind fun v1 =>
  (kgP w 1 (some x0) 0).bind fun v2 =>
  (kal w 13 v2).bind fun v3 =>
  fX1_settle_L15 x0 kFU (fun y1_4 w5 => some w5) ((kMmin v1 v3) - (1 : Int32)) w

set_option maxHeartbeats 4000000 in
set_option maxRecDepth 100000 in
theorem rX1_settle (l : Launch) (D : va_G) (aC : Nat → ClassId) {x0 : Nat} {w : kW} {wR : kW} (h : fX1_settle x0 w = some wR) : kC l D aC yX1_settle cX1_settle 7 none 2 37 [.ref x0] w none wR 0 0 := by
  refine kOf (own := RX1) (by decide) rfl (Nat.le_of_ble_eq_true rfl) ?_
  intro p e s m below meth c ls F hml hr hlocks hnm hX hZ hl
  obtain ⟨hx, hb, hts, hown, hK⟩ := id F
  have hl : lv_has ls 7 [(0, .ref x0)] := hl
  have hf := h
  rw [fX1_settle] at hf
  refine lv_aload_n hx hb (kd dtX1_settle_0 0 rfl) rfl (lv_at hl 0 rfl) ?_
  obtain ⟨v1, hv1, hf⟩ := kbind hf
  refine kgetI hv1 F hX hinX1 rfl rfl rfl (by decide) (by decide) wfX1_9 (kd dtX1_settle_0 1 rfl) ?_
  refine lv_aload_n hx hb (kd dtX1_settle_0 2 rfl) rfl (lv_at hl 0 rfl) ?_
  obtain ⟨v2, hv2, hf⟩ := kbind hf
  refine kgetP hv2 F hX hinX1 rfl rfl rfl (by decide) (by decide) wfX1_28 (kd dtX1_settle_0 3 rfl) ?_
  obtain ⟨v3, hv3, hf⟩ := kbind hf
  refine kalen hv3 (by decide) (by decide) F hX (kd dtX1_settle_0 4 rfl) ?_
  refine kmmin F (hml.trans hl.1.symm) wmX1_71 (Nat.le_of_ble_eq_true rfl) (Nat.le_of_ble_eq_true rfl) (Nat.zero_le _) (Nat.zero_le _) (kd dtX1_settle_0 5 rfl) ?_
  refine lv_iconst (v := (1 : Int32)) hx hb (kd dtX1_settle_0 6 rfl) (by decide) ?_
  refine lv_isub hx hb (kd dtX1_settle_0 7 rfl) ?_
  refine lv_istore_n (lv' := [(1, .int ((kMmin v1 v3) - (1 : Int32))), (0, .ref x0)]) hx hb (kd dtX1_settle_0 8 rfl) rfl hl (by decide) rfl (fun ls hl => ?_)
  have hL15 : ∀ (n : Nat) (k : Int32 → kW → Option kW), ∀ (z1_15 : Int32) (w_15 : kW) (H : Heap) (locs : List Loc) (ls : Array Slot), kX D aC w s.heap w_15 H locs → lv_has ls 7 [(0, .ref x0), (1, .int z1_15)] → fX1_settle_L15 x0 n k z1_15 w_15 = some wR → (∀ (z1_15 : Int32) (w_15 : kW) (H : Heap) (locs : List Loc) (ls : Array Slot), kX D aC w s.heap w_15 H locs → lv_has ls 7 [(0, .ref x0), (1, .int z1_15)] → k z1_15 w_15 = some wR → W p l e { frames := 2, cells := 0, slots := 0, locals := 37 } s m ([.ref x0] : List Value).toArray below meth c H locs 0 0 (MQ below (kQc D aC w none wR) ([.ref x0] : List Value).toArray s 0 0 (kA w)) (F0 m 164 ls [])) → W p l e { frames := 2, cells := 0, slots := 0, locals := 37 } s m ([.ref x0] : List Value).toArray below meth c H locs 0 0 (MQ below (kQc D aC w none wR) ([.ref x0] : List Value).toArray s 0 0 (kA w)) (F0 m 15 ls []) := by
    intro n k
    induction n with
    | zero =>
      intro z1_15 w_15 H locs ls hX hl hf hk
      rw [fX1_settle_L15] at hf
      cases hf
    | succ n ih =>
      intro z1_15 w_15 H locs ls hX hl hf hk
      rw [fX1_settle_L15] at hf
      refine lv_iload_n hx hb (kd dtX1_settle_0 9 rfl) rfl (lv_at hl 1 rfl) ?_
      refine lv_if_lt (tgt := 164) hx hb (kd dtX1_settle_0 10 rfl) (by decide) (fun hc => ?_) (fun hc => ?_)
      · have hf := kif_pos hc hf
        exact hk z1_15 w_15 _ _ _ hX hl hf
      · have hf := kif_neg hc hf
        refine lv_iload_n hx hb (kd dtX1_settle_0 11 rfl) rfl (lv_at hl 1 rfl) ?_
        refine lv_iconst (v := (1 : Int32)) hx hb (kd dtX1_settle_0 12 rfl) (by decide) ?_
        refine lv_iadd hx hb (kd dtX1_settle_0 13 rfl) ?_
        refine lv_istore_n (lv' := [(2, .int (z1_15 + (1 : Int32))), (0, .ref x0), (1, .int z1_15)]) hx hb (kd dtX1_settle_0 14 rfl) rfl hl (by decide) rfl (fun ls hl => ?_)
        refine lv_aload_n hx hb (kd dtX1_settle_0 15 rfl) rfl (lv_at hl 1 rfl) ?_
        obtain ⟨v6, hv6, hf⟩ := kbind hf
        refine kgetP hv6 F hX hinX1 rfl rfl rfl (by decide) (by decide) wfX1_28 (kd dtX1_settle_0 16 rfl) ?_
        refine lv_iload_n hx hb (kd dtX1_settle_0 17 rfl) rfl (lv_at hl 2 rfl) ?_
        obtain ⟨v7, hv7, hf⟩ := kbind hf
        refine kbld hv7 F hX (kd dtX1_settle_0 18 rfl) ?_
        obtain ⟨v9, h8, hf⟩ := kbind hf
        refine kcallSN (n := 1) [.int v7] [] [.int v9] (rX11_letterOf l D aC w_15 h8) F hml hX hZ hl.1 mwX11_letterOf wmX1_74 (by decide +kernel) ⟨(by decide), (by decide)⟩ rfl rfl rfl (Nat.le_of_ble_eq_true rfl) (kd dtX1_settle_0 19 rfl) ⟨Nat.zero_le _, Nat.zero_le _⟩ (fun H locs hX => ?_)
        refine lv_istore_n (lv' := [(3, .int v9), (2, .int (z1_15 + (1 : Int32))), (0, .ref x0), (1, .int z1_15)]) hx hb (kd dtX1_settle_0 20 rfl) rfl hl (by decide) rfl (fun ls hl => ?_)
        refine lv_iload_n hx hb (kd dtX1_settle_0 21 rfl) rfl (lv_at hl 0 rfl) ?_
        refine lv_if_lt (tgt := 51) hx hb (kd dtX1_settle_0 22 rfl) (by decide) (fun hc => ?_) (fun hc => ?_)
        · have hf := kif_pos hc hf
          refine lv_aload_n hx hb (kd dtX1_settle_0 33 rfl) rfl (lv_at hl 2 rfl) ?_
          obtain ⟨v10, hv10, hf⟩ := kbind hf
          refine kgetP hv10 F hX hinX1 rfl rfl rfl (by decide) (by decide) wfX1_28 (kd dtX1_settle_0 34 rfl) ?_
          refine lv_iload_n hx hb (kd dtX1_settle_0 35 rfl) rfl (lv_at hl 3 rfl) ?_
          obtain ⟨v11, hv11, hf⟩ := kbind hf
          refine kbld hv11 F hX (kd dtX1_settle_0 36 rfl) ?_
          refine lv_bipush (v := (126 : Int32)) hx hb (kd dtX1_settle_0 37 rfl) (by decide) ?_
          refine lv_icmp_ne (tgt := 92) hx hb (kd dtX1_settle_0 38 rfl) (by decide) (fun hc => ?_) (fun hc => ?_)
          · have hf := kif_neg hc hf
            refine lv_aload_n hx hb (kd dtX1_settle_0 57 rfl) rfl (lv_at hl 2 rfl) ?_
            refine lv_iload_n hx hb (kd dtX1_settle_0 58 rfl) rfl (lv_at hl 1 rfl) ?_
            obtain ⟨b12, hb12, hf⟩ := kbind hf
            obtain ⟨hrb12, hkb12⟩ := kRc_s hb12
            obtain ⟨v14, h13, hf⟩ := kbind hf
            refine kcallV (n := 1) [.int (z1_15 + (1 : Int32))] [] [.int v14] (rX1_endAt l D aC h13) hrb12 hkb12 F hml hX hZ hl.1 mwX1_endAt wmX1_45 rfl (by decide) (by decide +kernel) ⟨(by decide), (by decide)⟩ rfl rfl rfl (Nat.le_of_ble_eq_true rfl) (kd dtX1_settle_0 59 rfl) ⟨Nat.zero_le _, Nat.zero_le _⟩ (fun H locs hX => ?_)
            refine lv_istore (lv' := [(4, .int v14), (3, .int v9), (2, .int (z1_15 + (1 : Int32))), (0, .ref x0), (1, .int z1_15)]) hx hb (kd dtX1_settle_0 60 rfl) hl (by decide) rfl (fun ls hl => ?_)
            refine lv_iconst (v := (1 : Int32)) hx hb (kd dtX1_settle_0 61 rfl) (by decide) ?_
            refine lv_aload_n hx hb (kd dtX1_settle_0 62 rfl) rfl (lv_at hl 3 rfl) ?_
            refine lv_iload_n hx hb (kd dtX1_settle_0 63 rfl) rfl (lv_at hl 2 rfl) ?_
            obtain ⟨b15, hb15, hf⟩ := kbind hf
            obtain ⟨hrb15, hkb15⟩ := kRc_s hb15
            obtain ⟨v17, h16, hf⟩ := kbind hf
            refine kcallV (n := 1) [.int (z1_15 + (1 : Int32))] [.int (1 : Int32)] [.int v17, .int (1 : Int32)] (rX1_levelAt l D aC h16) hrb15 hkb15 F hml hX hZ hl.1 mwX1_levelAt wmX1_81 rfl (by decide) (by decide +kernel) ⟨(by decide), (by decide)⟩ rfl rfl rfl (Nat.le_of_ble_eq_true rfl) (kd dtX1_settle_0 64 rfl) ⟨Nat.zero_le _, Nat.zero_le _⟩ (fun H locs hX => ?_)
            refine lv_aload_n hx hb (kd dtX1_settle_0 65 rfl) rfl (lv_at hl 3 rfl) ?_
            refine lv_iload hx hb (kd dtX1_settle_0 66 rfl) (lv_at hl 0 rfl) ?_
            obtain ⟨b18, hb18, hf⟩ := kbind hf
            obtain ⟨hrb18, hkb18⟩ := kRc_s hb18
            obtain ⟨v20, h19, hf⟩ := kbind hf
            refine kcallV (n := 1) [.int v14] [.int v17, .int (1 : Int32)] [.int v20, .int v17, .int (1 : Int32)] (rX1_levelAt l D aC h19) hrb18 hkb18 F hml hX hZ hl.1 mwX1_levelAt wmX1_81 rfl (by decide) (by decide +kernel) ⟨(by decide), (by decide)⟩ rfl rfl rfl (Nat.le_of_ble_eq_true rfl) (kd dtX1_settle_0 67 rfl) ⟨Nat.zero_le _, Nat.zero_le _⟩ (fun H locs hX => ?_)
            refine kmmax F (hml.trans hl.1.symm) wmX1_22 (Nat.le_of_ble_eq_true rfl) (by simp [kcat_rf, kcat_i, kcat_r, kcat_l]) (Nat.zero_le _) (Nat.zero_le _) (kd dtX1_settle_0 68 rfl) ?_
            refine lv_iadd hx hb (kd dtX1_settle_0 69 rfl) ?_
            refine lv_istore (lv' := [(5, .int ((1 : Int32) + (kMmax v17 v20))), (4, .int v14), (3, .int v9), (2, .int (z1_15 + (1 : Int32))), (0, .ref x0), (1, .int z1_15)]) hx hb (kd dtX1_settle_0 70 rfl) hl (by decide) rfl (fun ls hl => ?_)
            refine lv_aload_n hx hb (kd dtX1_settle_0 71 rfl) rfl (lv_at hl 4 rfl) ?_
            refine lv_iload_n hx hb (kd dtX1_settle_0 72 rfl) rfl (lv_at hl 3 rfl) ?_
            obtain ⟨b21, hb21, hf⟩ := kbind hf
            obtain ⟨hrb21, hkb21⟩ := kRc_s hb21
            obtain ⟨v23, h22, hf⟩ := kbind hf
            refine kcallV (n := 1) [.int (z1_15 + (1 : Int32))] [] [.int v23] (rX1_placesAt l D aC h22) hrb21 hkb21 F hml hX hZ hl.1 mwX1_placesAt wmX1_84 rfl (by decide) (by decide +kernel) ⟨(by decide), (by decide)⟩ rfl rfl rfl (Nat.le_of_ble_eq_true rfl) (kd dtX1_settle_0 73 rfl) ⟨Nat.zero_le _, Nat.zero_le _⟩ (fun H locs hX => ?_)
            refine lv_aload_n hx hb (kd dtX1_settle_0 74 rfl) rfl (lv_at hl 4 rfl) ?_
            refine lv_iload hx hb (kd dtX1_settle_0 75 rfl) (lv_at hl 1 rfl) ?_
            obtain ⟨b24, hb24, hf⟩ := kbind hf
            obtain ⟨hrb24, hkb24⟩ := kRc_s hb24
            obtain ⟨v26, h25, hf⟩ := kbind hf
            refine kcallV (n := 1) [.int v14] [.int v23] [.int v26, .int v23] (rX1_placesAt l D aC h25) hrb24 hkb24 F hml hX hZ hl.1 mwX1_placesAt wmX1_84 rfl (by decide) (by decide +kernel) ⟨(by decide), (by decide)⟩ rfl rfl rfl (Nat.le_of_ble_eq_true rfl) (kd dtX1_settle_0 76 rfl) ⟨Nat.zero_le _, Nat.zero_le _⟩ (fun H locs hX => ?_)
            refine lv_iadd hx hb (kd dtX1_settle_0 77 rfl) ?_
            refine lv_istore (lv' := [(6, .int (v23 + v26)), (5, .int ((1 : Int32) + (kMmax v17 v20))), (4, .int v14), (3, .int v9), (2, .int (z1_15 + (1 : Int32))), (0, .ref x0), (1, .int z1_15)]) hx hb (kd dtX1_settle_0 78 rfl) hl (by decide) rfl (fun ls hl => ?_)
            refine lv_aload_n hx hb (kd dtX1_settle_0 79 rfl) rfl (lv_at hl 5 rfl) ?_
            refine lv_iload_n hx hb (kd dtX1_settle_1 0 rfl) rfl (lv_at hl 6 rfl) ?_
            refine lv_aload_n hx hb (kd dtX1_settle_1 1 rfl) rfl (lv_at hl 5 rfl) ?_
            refine lv_iload hx hb (kd dtX1_settle_1 2 rfl) (lv_at hl 2 rfl) ?_
            obtain ⟨b27, hb27, hf⟩ := kbind hf
            obtain ⟨hrb27, hkb27⟩ := kRc_s hb27
            obtain ⟨v29, h28, hf⟩ := kbind hf
            refine kcallV (n := 1) [.int v14] [.int z1_15, .ref x0] [.int v29, .int z1_15, .ref x0] (rX1_endAt l D aC h28) hrb27 hkb27 F hml hX hZ hl.1 mwX1_endAt wmX1_45 rfl (by decide) (by decide +kernel) ⟨(by decide), (by decide)⟩ rfl rfl rfl (Nat.le_of_ble_eq_true rfl) (kd dtX1_settle_1 3 rfl) ⟨Nat.zero_le _, Nat.zero_le _⟩ (fun H locs hX => ?_)
            refine lv_iload hx hb (kd dtX1_settle_1 4 rfl) (lv_at hl 1 rfl) ?_
            refine lv_iload hx hb (kd dtX1_settle_1 5 rfl) (lv_at hl 0 rfl) ?_
            refine lv_aload_n hx hb (kd dtX1_settle_1 6 rfl) rfl (lv_at hl 5 rfl) ?_
            refine lv_iload_n hx hb (kd dtX1_settle_1 7 rfl) rfl (lv_at hl 4 rfl) ?_
            obtain ⟨b30, hb30, hf⟩ := kbind hf
            obtain ⟨hrb30, hkb30⟩ := kRc_s hb30
            obtain ⟨v32, h31, hf⟩ := kbind hf
            refine kcallV (n := 1) [.int (z1_15 + (1 : Int32))] [.int (v23 + v26), .int ((1 : Int32) + (kMmax v17 v20)), .int v29, .int z1_15, .ref x0] [.int v32, .int (v23 + v26), .int ((1 : Int32) + (kMmax v17 v20)), .int v29, .int z1_15, .ref x0] (rX1_lettersAt l D aC h31) hrb30 hkb30 F hml hX hZ hl.1 mwX1_lettersAt wmX1_87 rfl (by decide) (by decide +kernel) ⟨(by decide), (by decide)⟩ rfl rfl rfl (Nat.le_of_ble_eq_true rfl) (kd dtX1_settle_1 8 rfl) ⟨Nat.zero_le _, Nat.zero_le _⟩ (fun H locs hX => ?_)
            refine lv_aload_n hx hb (kd dtX1_settle_1 9 rfl) rfl (lv_at hl 5 rfl) ?_
            refine lv_iload hx hb (kd dtX1_settle_1 10 rfl) (lv_at hl 2 rfl) ?_
            obtain ⟨b33, hb33, hf⟩ := kbind hf
            obtain ⟨hrb33, hkb33⟩ := kRc_s hb33
            obtain ⟨v35, h34, hf⟩ := kbind hf
            refine kcallV (n := 1) [.int v14] [.int v32, .int (v23 + v26), .int ((1 : Int32) + (kMmax v17 v20)), .int v29, .int z1_15, .ref x0] [.int v35, .int v32, .int (v23 + v26), .int ((1 : Int32) + (kMmax v17 v20)), .int v29, .int z1_15, .ref x0] (rX1_lettersAt l D aC h34) hrb33 hkb33 F hml hX hZ hl.1 mwX1_lettersAt wmX1_87 rfl (by decide) (by decide +kernel) ⟨(by decide), (by decide)⟩ rfl rfl rfl (Nat.le_of_ble_eq_true rfl) (kd dtX1_settle_1 11 rfl) ⟨Nat.zero_le _, Nat.zero_le _⟩ (fun H locs hX => ?_)
            refine lv_ior hx hb (kd dtX1_settle_1 12 rfl) ?_
            obtain ⟨b36, hb36, hf⟩ := kbind hf
            obtain ⟨hrb36, hkb36⟩ := kRc_s hb36
            obtain ⟨w37, h38, hf⟩ := kbind hf
            refine kcallV (n := 5) [.int z1_15, .int v29, .int ((1 : Int32) + (kMmax v17 v20)), .int (v23 + v26), .int (v32 ||| v35)] [] [] (rX1_settlePart l D aC h38) hrb36 hkb36 F hml hX hZ hl.1 mwX1_settlePart wmX1_77 rfl (by decide) (by decide +kernel) ⟨(by decide), (by decide)⟩ rfl rfl rfl (Nat.le_of_ble_eq_true rfl) (kd dtX1_settle_1 13 rfl) ⟨Nat.zero_le _, Nat.zero_le _⟩ (fun H locs hX => ?_)
            refine lv_iinc (v := z1_15 + (-1 : Int32)) (lv' := [(1, .int (z1_15 + (-1 : Int32))), (6, .int (v23 + v26)), (5, .int ((1 : Int32) + (kMmax v17 v20))), (4, .int v14), (3, .int v9), (2, .int (z1_15 + (1 : Int32))), (0, .ref x0)]) hx hb (kd dtX1_settle_1 14 rfl) hl (k := 6) rfl (by rfl) (by decide) rfl (fun ls hl => ?_)
            refine lv_goto (tgt := 15) hx hb (kd dtX1_settle_1 15 rfl) (by decide) ?_
            exact ih (z1_15 + (-1 : Int32)) w37 _ _ _ hX (lv_sub hl [6, 0] rfl) hf hk
          · have hf := kif_pos hc hf
            refine lv_aload_n hx hb (kd dtX1_settle_0 39 rfl) rfl (lv_at hl 2 rfl) ?_
            refine lv_iload_n hx hb (kd dtX1_settle_0 40 rfl) rfl (lv_at hl 3 rfl) ?_
            refine lv_aload_n hx hb (kd dtX1_settle_0 41 rfl) rfl (lv_at hl 2 rfl) ?_
            refine lv_iload_n hx hb (kd dtX1_settle_0 42 rfl) rfl (lv_at hl 1 rfl) ?_
            obtain ⟨b39, hb39, hf⟩ := kbind hf
            obtain ⟨hrb39, hkb39⟩ := kRc_s hb39
            obtain ⟨v41, h40, hf⟩ := kbind hf
            refine kcallV (n := 1) [.int (z1_15 + (1 : Int32))] [.int z1_15, .ref x0] [.int v41, .int z1_15, .ref x0] (rX1_endAt l D aC h40) hrb39 hkb39 F hml hX hZ hl.1 mwX1_endAt wmX1_45 rfl (by decide) (by decide +kernel) ⟨(by decide), (by decide)⟩ rfl rfl rfl (Nat.le_of_ble_eq_true rfl) (kd dtX1_settle_0 43 rfl) ⟨Nat.zero_le _, Nat.zero_le _⟩ (fun H locs hX => ?_)
            refine lv_iconst (v := (1 : Int32)) hx hb (kd dtX1_settle_0 44 rfl) (by decide) ?_
            refine lv_aload_n hx hb (kd dtX1_settle_0 45 rfl) rfl (lv_at hl 2 rfl) ?_
            refine lv_iload_n hx hb (kd dtX1_settle_0 46 rfl) rfl (lv_at hl 1 rfl) ?_
            obtain ⟨b42, hb42, hf⟩ := kbind hf
            obtain ⟨hrb42, hkb42⟩ := kRc_s hb42
            obtain ⟨v44, h43, hf⟩ := kbind hf
            refine kcallV (n := 1) [.int (z1_15 + (1 : Int32))] [.int (1 : Int32), .int v41, .int z1_15, .ref x0] [.int v44, .int (1 : Int32), .int v41, .int z1_15, .ref x0] (rX1_levelAt l D aC h43) hrb42 hkb42 F hml hX hZ hl.1 mwX1_levelAt wmX1_81 rfl (by decide) (by decide +kernel) ⟨(by decide), (by decide)⟩ rfl rfl rfl (Nat.le_of_ble_eq_true rfl) (kd dtX1_settle_0 47 rfl) ⟨Nat.zero_le _, Nat.zero_le _⟩ (fun H locs hX => ?_)
            refine lv_iadd hx hb (kd dtX1_settle_0 48 rfl) ?_
            refine lv_aload_n hx hb (kd dtX1_settle_0 49 rfl) rfl (lv_at hl 2 rfl) ?_
            refine lv_iload_n hx hb (kd dtX1_settle_0 50 rfl) rfl (lv_at hl 1 rfl) ?_
            obtain ⟨b45, hb45, hf⟩ := kbind hf
            obtain ⟨hrb45, hkb45⟩ := kRc_s hb45
            obtain ⟨v47, h46, hf⟩ := kbind hf
            refine kcallV (n := 1) [.int (z1_15 + (1 : Int32))] [.int ((1 : Int32) + v44), .int v41, .int z1_15, .ref x0] [.int v47, .int ((1 : Int32) + v44), .int v41, .int z1_15, .ref x0] (rX1_placesAt l D aC h46) hrb45 hkb45 F hml hX hZ hl.1 mwX1_placesAt wmX1_84 rfl (by decide) (by decide +kernel) ⟨(by decide), (by decide)⟩ rfl rfl rfl (Nat.le_of_ble_eq_true rfl) (kd dtX1_settle_0 51 rfl) ⟨Nat.zero_le _, Nat.zero_le _⟩ (fun H locs hX => ?_)
            refine lv_aload_n hx hb (kd dtX1_settle_0 52 rfl) rfl (lv_at hl 2 rfl) ?_
            refine lv_iload_n hx hb (kd dtX1_settle_0 53 rfl) rfl (lv_at hl 1 rfl) ?_
            obtain ⟨b48, hb48, hf⟩ := kbind hf
            obtain ⟨hrb48, hkb48⟩ := kRc_s hb48
            obtain ⟨v50, h49, hf⟩ := kbind hf
            refine kcallV (n := 1) [.int (z1_15 + (1 : Int32))] [.int v47, .int ((1 : Int32) + v44), .int v41, .int z1_15, .ref x0] [.int v50, .int v47, .int ((1 : Int32) + v44), .int v41, .int z1_15, .ref x0] (rX1_lettersAt l D aC h49) hrb48 hkb48 F hml hX hZ hl.1 mwX1_lettersAt wmX1_87 rfl (by decide) (by decide +kernel) ⟨(by decide), (by decide)⟩ rfl rfl rfl (Nat.le_of_ble_eq_true rfl) (kd dtX1_settle_0 54 rfl) ⟨Nat.zero_le _, Nat.zero_le _⟩ (fun H locs hX => ?_)
            obtain ⟨b51, hb51, hf⟩ := kbind hf
            obtain ⟨hrb51, hkb51⟩ := kRc_s hb51
            obtain ⟨w52, h53, hf⟩ := kbind hf
            refine kcallV (n := 5) [.int z1_15, .int v41, .int ((1 : Int32) + v44), .int v47, .int v50] [] [] (rX1_settlePart l D aC h53) hrb51 hkb51 F hml hX hZ hl.1 mwX1_settlePart wmX1_77 rfl (by decide) (by decide +kernel) ⟨(by decide), (by decide)⟩ rfl rfl rfl (Nat.le_of_ble_eq_true rfl) (kd dtX1_settle_0 55 rfl) ⟨Nat.zero_le _, Nat.zero_le _⟩ (fun H locs hX => ?_)
            refine lv_goto (tgt := 158) hx hb (kd dtX1_settle_0 56 rfl) (by decide) ?_
            refine lv_iinc (v := z1_15 + (-1 : Int32)) (lv' := [(1, .int (z1_15 + (-1 : Int32))), (3, .int v9), (2, .int (z1_15 + (1 : Int32))), (0, .ref x0)]) hx hb (kd dtX1_settle_1 14 rfl) hl (k := 3) rfl (by rfl) (by decide) rfl (fun ls hl => ?_)
            refine lv_goto (tgt := 15) hx hb (kd dtX1_settle_1 15 rfl) (by decide) ?_
            exact ih (z1_15 + (-1 : Int32)) w52 _ _ _ hX (lv_sub hl [3, 0] rfl) hf hk
        · have hf := kif_neg hc hf
          refine lv_aload_n hx hb (kd dtX1_settle_0 23 rfl) rfl (lv_at hl 2 rfl) ?_
          refine lv_iload_n hx hb (kd dtX1_settle_0 24 rfl) rfl (lv_at hl 3 rfl) ?_
          refine lv_iload_n hx hb (kd dtX1_settle_0 25 rfl) rfl (lv_at hl 1 rfl) ?_
          refine lv_iconst (v := (1 : Int32)) hx hb (kd dtX1_settle_0 26 rfl) (by decide) ?_
          refine lv_iconst (v := (1 : Int32)) hx hb (kd dtX1_settle_0 27 rfl) (by decide) ?_
          refine lv_iconst (v := (1 : Int32)) hx hb (kd dtX1_settle_0 28 rfl) (by decide) ?_
          refine lv_iload_n hx hb (kd dtX1_settle_0 29 rfl) rfl (lv_at hl 0 rfl) ?_
          refine lv_ishl hx hb (kd dtX1_settle_0 30 rfl) ?_
          obtain ⟨b54, hb54, hf⟩ := kbind hf
          obtain ⟨hrb54, hkb54⟩ := kRc_s hb54
          obtain ⟨w55, h56, hf⟩ := kbind hf
          refine kcallV (n := 5) [.int z1_15, .int (z1_15 + (1 : Int32)), .int (1 : Int32), .int (1 : Int32), .int ((1 : Int32) <<< (v9 &&& 31))] [] [] (rX1_settlePart l D aC h56) hrb54 hkb54 F hml hX hZ hl.1 mwX1_settlePart wmX1_77 rfl (by decide) (by decide +kernel) ⟨(by decide), (by decide)⟩ rfl rfl rfl (Nat.le_of_ble_eq_true rfl) (kd dtX1_settle_0 31 rfl) ⟨Nat.zero_le _, Nat.zero_le _⟩ (fun H locs hX => ?_)
          refine lv_goto (tgt := 158) hx hb (kd dtX1_settle_0 32 rfl) (by decide) ?_
          refine lv_iinc (v := z1_15 + (-1 : Int32)) (lv' := [(1, .int (z1_15 + (-1 : Int32))), (3, .int v9), (2, .int (z1_15 + (1 : Int32))), (0, .ref x0)]) hx hb (kd dtX1_settle_1 14 rfl) hl (k := 3) rfl (by rfl) (by decide) rfl (fun ls hl => ?_)
          refine lv_goto (tgt := 15) hx hb (kd dtX1_settle_1 15 rfl) (by decide) ?_
          exact ih (z1_15 + (-1 : Int32)) w55 _ _ _ hX (lv_sub hl [3, 0] rfl) hf hk
  refine hL15 kFU _ ((kMmin v1 v3) - (1 : Int32)) w _ _ _ hX (lv_sub hl [1, 0] rfl) hf ?_
  intro y1_4 w5 H locs ls hX hl hf
  obtain rfl := Option.some.inj hf
  exact kvret F hX hr hlocks rfl (kd dtX1_settle_1 16 rfl)
def lX1_at_0 : List (Nat × Instr × Nat) := [(0, .iload_n 1, 1), (1, .ifCond .lt 29, 3), (4, .iload_n 1, 1), (5, .aload_n 0, 1), (6, .getfield 9, 3), (9, .if_icmp .ge 21, 3), (12, .iload_n 1, 1), (13, .aload_n 0, 1), (14, .getfield 28, 3), (17, .arraylength, 1), (18, .if_icmp .ge 12, 3), (21, .aload_n 0, 1), (22, .getfield 28, 3), (25, .iload_n 1, 1), (26, .baload, 1), (27, .goto 4, 3), (30, .iconst 0, 1), (31, .ireturn, 1)]
theorem dtX1_at_0 : kDec cX1_at lX1_at_0 = true := by decide +kernel
noncomputable def fX1_at (x0 : Nat) (x1 : Int32) (w : kW) : Option Int32 :=
  if x1 < 0 then
  some (0 : Int32)
  else
  (kgI w 1 (some x0) 5).bind fun v1 =>
  if v1 ≤ x1 then
  some (0 : Int32)
  else
  (kgP w 1 (some x0) 0).bind fun v2 =>
  (kal w 13 v2).bind fun v3 =>
  if v3 ≤ x1 then
  some (0 : Int32)
  else
  (kgP w 1 (some x0) 0).bind fun v4 =>
  (kaI w 13 v4 x1).bind fun v5 =>
  some v5

set_option maxHeartbeats 4000000 in
set_option maxRecDepth 100000 in
theorem rX1_at (l : Launch) (D : va_G) (aC : Nat → ClassId) {x0 : Nat} {x1 : Int32} {w : kW} {oR : Int32} (h : fX1_at x0 x1 w = some oR) : kC l D aC yX1_at cX1_at 2 (some .int) 1 12 [.ref x0, .int x1] w (some (.int oR)) w 0 0 := by
  refine kOf (own := RX1) (by decide) rfl (Nat.le_of_ble_eq_true rfl) ?_
  intro p e s m below meth c ls F hml hr hlocks hnm hX hZ hl
  obtain ⟨hx, hb, hts, hown, hK⟩ := id F
  have hl : lv_has ls 2 [(0, .ref x0), (1, .int x1)] := hl
  have hf := h
  rw [fX1_at] at hf
  refine lv_iload_n hx hb (kd dtX1_at_0 0 rfl) rfl (lv_at hl 1 rfl) ?_
  refine lv_if_lt (tgt := 30) hx hb (kd dtX1_at_0 1 rfl) (by decide) (fun hc => ?_) (fun hc => ?_)
  · have hf := kif_pos hc hf
    refine lv_iconst (v := (0 : Int32)) hx hb (kd dtX1_at_0 16 rfl) (by decide) ?_
    obtain rfl := Option.some.inj hf
    exact kiret F hX hr hlocks rfl (kd dtX1_at_0 17 rfl)
  · have hf := kif_neg hc hf
    refine lv_iload_n hx hb (kd dtX1_at_0 2 rfl) rfl (lv_at hl 1 rfl) ?_
    refine lv_aload_n hx hb (kd dtX1_at_0 3 rfl) rfl (lv_at hl 0 rfl) ?_
    obtain ⟨v1, hv1, hf⟩ := kbind hf
    refine kgetI hv1 F hX hinX1 rfl rfl rfl (by decide) (by decide) wfX1_9 (kd dtX1_at_0 4 rfl) ?_
    refine lv_icmp_ge (tgt := 30) hx hb (kd dtX1_at_0 5 rfl) (by decide) (fun hc => ?_) (fun hc => ?_)
    · have hf := kif_pos hc hf
      refine lv_iconst (v := (0 : Int32)) hx hb (kd dtX1_at_0 16 rfl) (by decide) ?_
      obtain rfl := Option.some.inj hf
      exact kiret F hX hr hlocks rfl (kd dtX1_at_0 17 rfl)
    · have hf := kif_neg hc hf
      refine lv_iload_n hx hb (kd dtX1_at_0 6 rfl) rfl (lv_at hl 1 rfl) ?_
      refine lv_aload_n hx hb (kd dtX1_at_0 7 rfl) rfl (lv_at hl 0 rfl) ?_
      obtain ⟨v2, hv2, hf⟩ := kbind hf
      refine kgetP hv2 F hX hinX1 rfl rfl rfl (by decide) (by decide) wfX1_28 (kd dtX1_at_0 8 rfl) ?_
      obtain ⟨v3, hv3, hf⟩ := kbind hf
      refine kalen hv3 (by decide) (by decide) F hX (kd dtX1_at_0 9 rfl) ?_
      refine lv_icmp_ge (tgt := 30) hx hb (kd dtX1_at_0 10 rfl) (by decide) (fun hc => ?_) (fun hc => ?_)
      · have hf := kif_pos hc hf
        refine lv_iconst (v := (0 : Int32)) hx hb (kd dtX1_at_0 16 rfl) (by decide) ?_
        obtain rfl := Option.some.inj hf
        exact kiret F hX hr hlocks rfl (kd dtX1_at_0 17 rfl)
      · have hf := kif_neg hc hf
        refine lv_aload_n hx hb (kd dtX1_at_0 11 rfl) rfl (lv_at hl 0 rfl) ?_
        obtain ⟨v4, hv4, hf⟩ := kbind hf
        refine kgetP hv4 F hX hinX1 rfl rfl rfl (by decide) (by decide) wfX1_28 (kd dtX1_at_0 12 rfl) ?_
        refine lv_iload_n hx hb (kd dtX1_at_0 13 rfl) rfl (lv_at hl 1 rfl) ?_
        obtain ⟨v5, hv5, hf⟩ := kbind hf
        refine kbld hv5 F hX (kd dtX1_at_0 14 rfl) ?_
        refine lv_goto (tgt := 31) hx hb (kd dtX1_at_0 15 rfl) (by decide) ?_
        obtain rfl := Option.some.inj hf
        exact kiret F hX hr hlocks rfl (kd dtX1_at_0 17 rfl)
theorem wmX1_49 : Cond.methodLink RX1 49 yX1_at ∈ kT := kTm 591 (by decide +kernel) rfl
theorem mwX1_at : kMV RX1 yX1_at cX1_at 2 (some .int) := ⟨kTm 594 (by decide +kernel) rfl, kTm 97 (by decide +kernel) rfl, kTm 592 (by decide +kernel) rfl, kTm 593 (by decide +kernel) rfl⟩
theorem wmX1_52 : Cond.methodLink RX1 52 yX1_add ∈ kT := kTm 595 (by decide +kernel) rfl
theorem mwX1_add : kMV RX1 yX1_add cX1_add 2 none := ⟨kTm 533 (by decide +kernel) rfl, kTm 97 (by decide +kernel) rfl, kTm 531 (by decide +kernel) rfl, kTm 532 (by decide +kernel) rfl⟩
def lX1_addPart_0 : List (Nat × Instr × Nat) := [(0, .aload_n 1, 1), (1, .iload_n 2, 1), (2, .invokevirtual 45, 3), (5, .istore_n 3, 1), (6, .iload_n 2, 1), (7, .istore 4, 2), (9, .iload 4, 2), (11, .iload_n 3, 1), (12, .if_icmp .ge 26, 3), (15, .aload_n 0, 1), (16, .getfield 15, 3), (19, .ifCond .ne 19, 3), (22, .aload_n 0, 1), (23, .aload_n 1, 1), (24, .iload 4, 2), (26, .invokevirtual 49, 3), (29, .invokevirtual 52, 3), (32, .iinc 4 1, 3), (35, .goto (-26), 3), (38, .return_, 1)]
theorem dtX1_addPart_0 : kDec cX1_addPart lX1_addPart_0 = true := by decide +kernel
noncomputable def fX1_addPart_L9 (x0 : Nat) (x1 : Option Nat) (x2 : Int32) (x3 : Int32) : Nat → (Int32 → kW → Option kW) → Int32 → kW → Option kW
  | 0, _, _, _ => none
  | n + 1, k, x4, w =>
  if x3 ≤ x4 then
  k x4 w
  else
  (kgI w 1 (some x0) 6).bind fun v1 =>
  if v1 = 0 then
  (kRc w 1 x1).bind fun b2 =>
  (fX1_at b2 x4 w).bind fun v4 =>
  (kRc w 1 (some x0)).bind fun b5 =>
  (fX1_add b5 v4 w).bind fun w6 =>
  fX1_addPart_L9 x0 x1 x2 x3 n k (x4 + (1 : Int32)) w6
  else
  k x4 w

noncomputable def fX1_addPart (x0 : Nat) (x1 : Option Nat) (x2 : Int32) (w : kW) : Option kW :=
  (kRc w 1 x1).bind fun b1 =>
  (fX1_endAt b1 x2 w).bind fun v3 =>
  fX1_addPart_L9 x0 x1 x2 v3 kFU (fun y4_4 w5 => some w5) x2 w

set_option maxHeartbeats 4000000 in
set_option maxRecDepth 100000 in
theorem rX1_addPart (l : Launch) (D : va_G) (aC : Nat → ClassId) {x0 : Nat} {x1 : Option Nat} {x2 : Int32} {w : kW} {wR : kW} (h : fX1_addPart x0 x1 x2 w = some wR) : kC l D aC yX1_addPart cX1_addPart 5 none 2 33 [.ref x0, va_rf x1, .int x2] w none wR 0 0 := by
  refine kOf (own := RX1) (by decide) rfl (by simp [lg_sl, kcat_rf, kcat_i, kcat_r, kcat_l]) ?_
  intro p e s m below meth c ls F hml hr hlocks hnm hX hZ hl
  obtain ⟨hx, hb, hts, hown, hK⟩ := id F
  have hl : lv_has ls 5 [(0, .ref x0), (1, va_rf x1), (2, .int x2)] := by simpa [lv_args, kcat_rf, kcat_i, kcat_r, kcat_l] using hl
  have hf := h
  rw [fX1_addPart] at hf
  refine kaload_n hx hb (kd dtX1_addPart_0 0 rfl) rfl (lv_at hl 1 rfl) ?_
  refine lv_iload_n hx hb (kd dtX1_addPart_0 1 rfl) rfl (lv_at hl 2 rfl) ?_
  obtain ⟨b1, hb1, hf⟩ := kbind hf
  obtain ⟨hrb1, hkb1⟩ := kRc_s hb1
  obtain ⟨v3, h2, hf⟩ := kbind hf
  refine kcallV (n := 1) [.int x2] [] [.int v3] (rX1_endAt l D aC h2) hrb1 hkb1 F hml hX hZ hl.1 mwX1_endAt wmX1_45 rfl (by decide) (by decide +kernel) ⟨(by decide), (by decide)⟩ rfl rfl rfl (Nat.le_of_ble_eq_true rfl) (kd dtX1_addPart_0 2 rfl) ⟨Nat.zero_le _, Nat.zero_le _⟩ (fun H locs hX => ?_)
  refine lv_istore_n (lv' := [(3, .int v3), (0, .ref x0), (1, va_rf x1), (2, .int x2)]) hx hb (kd dtX1_addPart_0 3 rfl) rfl hl (by decide) rfl (fun ls hl => ?_)
  refine lv_iload_n hx hb (kd dtX1_addPart_0 4 rfl) rfl (lv_at hl 3 rfl) ?_
  refine lv_istore (lv' := [(4, .int x2), (3, .int v3), (0, .ref x0), (1, va_rf x1), (2, .int x2)]) hx hb (kd dtX1_addPart_0 5 rfl) hl (by decide) rfl (fun ls hl => ?_)
  have hL9 : ∀ (n : Nat) (k : Int32 → kW → Option kW), ∀ (z4_9 : Int32) (w_9 : kW) (H : Heap) (locs : List Loc) (ls : Array Slot), kX D aC w s.heap w_9 H locs → lv_has ls 5 [(0, .ref x0), (1, va_rf x1), (2, .int x2), (3, .int v3), (4, .int z4_9)] → fX1_addPart_L9 x0 x1 x2 v3 n k z4_9 w_9 = some wR → (∀ (z4_9 : Int32) (w_9 : kW) (H : Heap) (locs : List Loc) (ls : Array Slot), kX D aC w s.heap w_9 H locs → lv_has ls 5 [(0, .ref x0), (1, va_rf x1), (2, .int x2), (3, .int v3), (4, .int z4_9)] → k z4_9 w_9 = some wR → W p l e { frames := 2, cells := 0, slots := 0, locals := 33 } s m ([.ref x0, va_rf x1, .int x2] : List Value).toArray below meth c H locs 0 0 (MQ below (kQc D aC w none wR) ([.ref x0, va_rf x1, .int x2] : List Value).toArray s 0 0 (kA w)) (F0 m 38 ls [])) → W p l e { frames := 2, cells := 0, slots := 0, locals := 33 } s m ([.ref x0, va_rf x1, .int x2] : List Value).toArray below meth c H locs 0 0 (MQ below (kQc D aC w none wR) ([.ref x0, va_rf x1, .int x2] : List Value).toArray s 0 0 (kA w)) (F0 m 9 ls []) := by
    intro n k
    induction n with
    | zero =>
      intro z4_9 w_9 H locs ls hX hl hf hk
      rw [fX1_addPart_L9] at hf
      cases hf
    | succ n ih =>
      intro z4_9 w_9 H locs ls hX hl hf hk
      rw [fX1_addPart_L9] at hf
      refine lv_iload hx hb (kd dtX1_addPart_0 6 rfl) (lv_at hl 4 rfl) ?_
      refine lv_iload_n hx hb (kd dtX1_addPart_0 7 rfl) rfl (lv_at hl 3 rfl) ?_
      refine lv_icmp_ge (tgt := 38) hx hb (kd dtX1_addPart_0 8 rfl) (by decide) (fun hc => ?_) (fun hc => ?_)
      · have hf := kif_pos hc hf
        exact hk z4_9 w_9 _ _ _ hX hl hf
      · have hf := kif_neg hc hf
        refine lv_aload_n hx hb (kd dtX1_addPart_0 9 rfl) rfl (lv_at hl 0 rfl) ?_
        obtain ⟨v6, hv6, hf⟩ := kbind hf
        refine kgetI hv6 F hX hinX1 rfl rfl rfl (by decide) (by decide) wfX1_15 (kd dtX1_addPart_0 10 rfl) ?_
        refine lv_if_ne (tgt := 38) hx hb (kd dtX1_addPart_0 11 rfl) (by decide) (fun hc => ?_) (fun hc => ?_)
        · have hf := kif_neg hc hf
          exact hk z4_9 w_9 _ _ _ hX hl hf
        · have hf := kif_pos hc hf
          refine lv_aload_n hx hb (kd dtX1_addPart_0 12 rfl) rfl (lv_at hl 0 rfl) ?_
          refine kaload_n hx hb (kd dtX1_addPart_0 13 rfl) rfl (lv_at hl 1 rfl) ?_
          refine lv_iload hx hb (kd dtX1_addPart_0 14 rfl) (lv_at hl 4 rfl) ?_
          obtain ⟨b7, hb7, hf⟩ := kbind hf
          obtain ⟨hrb7, hkb7⟩ := kRc_s hb7
          obtain ⟨v9, h8, hf⟩ := kbind hf
          refine kcallV (n := 1) [.int z4_9] [.ref x0] [.int v9, .ref x0] (rX1_at l D aC h8) hrb7 hkb7 F hml hX hZ hl.1 mwX1_at wmX1_49 rfl (by decide) (by decide +kernel) ⟨(by decide), (by decide)⟩ rfl rfl rfl (Nat.le_of_ble_eq_true rfl) (kd dtX1_addPart_0 15 rfl) ⟨Nat.zero_le _, Nat.zero_le _⟩ (fun H locs hX => ?_)
          obtain ⟨b10, hb10, hf⟩ := kbind hf
          obtain ⟨hrb10, hkb10⟩ := kRc_s hb10
          obtain ⟨w11, h12, hf⟩ := kbind hf
          refine kcallV (n := 1) [.int v9] [] [] (rX1_add l D aC h12) hrb10 hkb10 F hml hX hZ hl.1 mwX1_add wmX1_52 rfl (by decide) (by decide +kernel) ⟨(by decide), (by decide)⟩ rfl rfl rfl (Nat.le_of_ble_eq_true rfl) (kd dtX1_addPart_0 16 rfl) ⟨Nat.zero_le _, Nat.zero_le _⟩ (fun H locs hX => ?_)
          refine lv_iinc (v := z4_9 + (1 : Int32)) (lv' := [(4, .int (z4_9 + (1 : Int32))), (0, .ref x0), (1, va_rf x1), (2, .int x2), (3, .int v3)]) hx hb (kd dtX1_addPart_0 17 rfl) hl (k := 4) rfl (by rfl) (by decide) rfl (fun ls hl => ?_)
          refine lv_goto (tgt := 9) hx hb (kd dtX1_addPart_0 18 rfl) (by decide) ?_
          exact ih (z4_9 + (1 : Int32)) w11 _ _ _ hX (lv_sub hl [1, 2, 3, 4, 0] rfl) hf hk
  refine hL9 kFU _ x2 w _ _ _ hX (lv_sub hl [2, 3, 4, 1, 0] rfl) hf ?_
  intro y4_4 w5 H locs ls hX hl hf
  obtain rfl := Option.some.inj hf
  exact kvret F hX hr hlocks rfl (kd dtX1_addPart_0 19 rfl)
theorem wmX1_56 : Cond.methodLink RX1 56 yX1_clear ∈ kT := kTm 586 (by decide +kernel) rfl
theorem mwX1_clear : kMV RX1 yX1_clear cX1_clear 1 none := ⟨kTm 518 (by decide +kernel) rfl, kTm 97 (by decide +kernel) rfl, kTm 516 (by decide +kernel) rfl, kTm 517 (by decide +kernel) rfl⟩
theorem wmX1_59 : Cond.methodLink RX1 59 yX1_addPart ∈ kT := kTm 587 (by decide +kernel) rfl
theorem mwX1_addPart : kMV RX1 yX1_addPart cX1_addPart 5 none := ⟨kTm 590 (by decide +kernel) rfl, kTm 97 (by decide +kernel) rfl, kTm 588 (by decide +kernel) rfl, kTm 589 (by decide +kernel) rfl⟩
theorem wmX1_63 : Cond.methodLink RX1 63 yX1_settle ∈ kT := kTm 596 (by decide +kernel) rfl
theorem mwX1_settle : kMV RX1 yX1_settle cX1_settle 7 none := ⟨kTm 557 (by decide +kernel) rfl, kTm 97 (by decide +kernel) rfl, kTm 555 (by decide +kernel) rfl, kTm 556 (by decide +kernel) rfl⟩
def lX1_become_0 : List (Nat × Instr × Nat) := [(0, .aload_n 0, 1), (1, .invokevirtual 56, 3), (4, .aload_n 0, 1), (5, .aload_n 1, 1), (6, .iload_n 2, 1), (7, .invokevirtual 59, 3), (10, .aload_n 0, 1), (11, .invokevirtual 63, 3), (14, .return_, 1)]
theorem dtX1_become_0 : kDec cX1_become lX1_become_0 = true := by decide +kernel
noncomputable def fX1_become (x0 : Nat) (x1 : Option Nat) (x2 : Int32) (w : kW) : Option kW :=
  (kRc w 1 (some x0)).bind fun b1 =>
  (fX1_clear b1 w).bind fun w2 =>
  (kRc w2 1 (some x0)).bind fun b4 =>
  (fX1_addPart b4 x1 x2 w2).bind fun w5 =>
  (kRc w5 1 (some x0)).bind fun b7 =>
  (fX1_settle b7 w5).bind fun w8 =>
  some w8

set_option maxHeartbeats 4000000 in
set_option maxRecDepth 100000 in
theorem rX1_become (l : Launch) (D : va_G) (aC : Nat → ClassId) {x0 : Nat} {x1 : Option Nat} {x2 : Int32} {w : kW} {wR : kW} (h : fX1_become x0 x1 x2 w = some wR) : kC l D aC yX1_become cX1_become 3 none 3 63 [.ref x0, va_rf x1, .int x2] w none wR 0 0 := by
  refine kOf (own := RX1) (by decide) rfl (by simp [lg_sl, kcat_rf, kcat_i, kcat_r, kcat_l]) ?_
  intro p e s m below meth c ls F hml hr hlocks hnm hX hZ hl
  obtain ⟨hx, hb, hts, hown, hK⟩ := id F
  have hl : lv_has ls 3 [(0, .ref x0), (1, va_rf x1), (2, .int x2)] := by simpa [lv_args, kcat_rf, kcat_i, kcat_r, kcat_l] using hl
  have hf := h
  rw [fX1_become] at hf
  refine lv_aload_n hx hb (kd dtX1_become_0 0 rfl) rfl (lv_at hl 0 rfl) ?_
  obtain ⟨b1, hb1, hf⟩ := kbind hf
  obtain ⟨hrb1, hkb1⟩ := kRc_s hb1
  obtain ⟨w2, h3, hf⟩ := kbind hf
  refine kcallV (n := 0) [] [] [] (rX1_clear l D aC h3) hrb1 hkb1 F hml hX hZ hl.1 mwX1_clear wmX1_56 rfl (by decide) (by decide +kernel) ⟨(by decide), (by decide)⟩ rfl rfl rfl (Nat.le_of_ble_eq_true rfl) (kd dtX1_become_0 1 rfl) ⟨Nat.zero_le _, Nat.zero_le _⟩ (fun H locs hX => ?_)
  refine lv_aload_n hx hb (kd dtX1_become_0 2 rfl) rfl (lv_at hl 0 rfl) ?_
  refine kaload_n hx hb (kd dtX1_become_0 3 rfl) rfl (lv_at hl 1 rfl) ?_
  refine lv_iload_n hx hb (kd dtX1_become_0 4 rfl) rfl (lv_at hl 2 rfl) ?_
  obtain ⟨b4, hb4, hf⟩ := kbind hf
  obtain ⟨hrb4, hkb4⟩ := kRc_s hb4
  obtain ⟨w5, h6, hf⟩ := kbind hf
  refine kcallV (n := 2) [va_rf x1, .int x2] [] [] (rX1_addPart l D aC h6) hrb4 hkb4 F hml hX hZ hl.1 mwX1_addPart wmX1_59 rfl (by decide) (by decide +kernel) ⟨(by decide), (by decide)⟩ rfl rfl rfl (Nat.le_of_ble_eq_true rfl) (kd dtX1_become_0 5 rfl) ⟨Nat.zero_le _, Nat.zero_le _⟩ (fun H locs hX => ?_)
  refine lv_aload_n hx hb (kd dtX1_become_0 6 rfl) rfl (lv_at hl 0 rfl) ?_
  obtain ⟨b7, hb7, hf⟩ := kbind hf
  obtain ⟨hrb7, hkb7⟩ := kRc_s hb7
  obtain ⟨w8, h9, hf⟩ := kbind hf
  refine kcallV (n := 0) [] [] [] (rX1_settle l D aC h9) hrb7 hkb7 F hml hX hZ hl.1 mwX1_settle wmX1_63 rfl (by decide) (by decide +kernel) ⟨(by decide), (by decide)⟩ rfl rfl rfl (Nat.le_of_ble_eq_true rfl) (kd dtX1_become_0 7 rfl) ⟨Nat.zero_le _, Nat.zero_le _⟩ (fun H locs hX => ?_)
  obtain rfl := Option.some.inj hf
  exact kvret F hX hr hlocks rfl (kd dtX1_become_0 8 rfl)
theorem wmX1_66 : Cond.methodLink RX1 66 yJ6_bitCount_0f7a4 ∈ kT := kTm 608 (by decide +kernel) rfl
theorem mwJ6_bitCount_0f7a4 : kMS yJ6_bitCount_0f7a4 cJ6_bitCount_0f7a4 1 (some .int) := ⟨kTm 610 (by decide +kernel) rfl, kTm 107 (by decide +kernel) rfl, kTm 609 (by decide +kernel) rfl⟩
def lX1_unlikeAt_0 : List (Nat × Instr × Nat) := [(0, .iload_n 1, 1), (1, .ifCond .lt 32, 3), (4, .iload_n 1, 1), (5, .aload_n 0, 1), (6, .getfield 9, 3), (9, .if_icmp .ge 24, 3), (12, .iload_n 1, 1), (13, .aload_n 0, 1), (14, .getfield 42, 3), (17, .arraylength, 1), (18, .if_icmp .ge 15, 3), (21, .aload_n 0, 1), (22, .getfield 42, 3), (25, .iload_n 1, 1), (26, .iaload, 1), (27, .invokestatic 66, 3), (30, .goto 4, 3), (33, .iconst 0, 1), (34, .ireturn, 1)]
theorem dtX1_unlikeAt_0 : kDec cX1_unlikeAt lX1_unlikeAt_0 = true := by decide +kernel
noncomputable def fX1_unlikeAt (x0 : Nat) (x1 : Int32) (w : kW) : Option Int32 :=
  if x1 < 0 then
  some (0 : Int32)
  else
  (kgI w 1 (some x0) 5).bind fun v1 =>
  if v1 ≤ x1 then
  some (0 : Int32)
  else
  (kgP w 1 (some x0) 4).bind fun v2 =>
  (kal w 14 v2).bind fun v3 =>
  if v3 ≤ x1 then
  some (0 : Int32)
  else
  (kgP w 1 (some x0) 4).bind fun v4 =>
  (kaI w 14 v4 x1).bind fun v5 =>
  (fJ6_bitCount_0f7a4 v5).bind fun v7 =>
  some v7

set_option maxHeartbeats 4000000 in
set_option maxRecDepth 100000 in
theorem rX1_unlikeAt (l : Launch) (D : va_G) (aC : Nat → ClassId) {x0 : Nat} {x1 : Int32} {w : kW} {oR : Int32} (h : fX1_unlikeAt x0 x1 w = some oR) : kC l D aC yX1_unlikeAt cX1_unlikeAt 2 (some .int) 2 32 [.ref x0, .int x1] w (some (.int oR)) w 0 0 := by
  refine kOf (own := RX1) (by decide) rfl (Nat.le_of_ble_eq_true rfl) ?_
  intro p e s m below meth c ls F hml hr hlocks hnm hX hZ hl
  obtain ⟨hx, hb, hts, hown, hK⟩ := id F
  have hl : lv_has ls 2 [(0, .ref x0), (1, .int x1)] := hl
  have hf := h
  rw [fX1_unlikeAt] at hf
  refine lv_iload_n hx hb (kd dtX1_unlikeAt_0 0 rfl) rfl (lv_at hl 1 rfl) ?_
  refine lv_if_lt (tgt := 33) hx hb (kd dtX1_unlikeAt_0 1 rfl) (by decide) (fun hc => ?_) (fun hc => ?_)
  · have hf := kif_pos hc hf
    refine lv_iconst (v := (0 : Int32)) hx hb (kd dtX1_unlikeAt_0 17 rfl) (by decide) ?_
    obtain rfl := Option.some.inj hf
    exact kiret F hX hr hlocks rfl (kd dtX1_unlikeAt_0 18 rfl)
  · have hf := kif_neg hc hf
    refine lv_iload_n hx hb (kd dtX1_unlikeAt_0 2 rfl) rfl (lv_at hl 1 rfl) ?_
    refine lv_aload_n hx hb (kd dtX1_unlikeAt_0 3 rfl) rfl (lv_at hl 0 rfl) ?_
    obtain ⟨v1, hv1, hf⟩ := kbind hf
    refine kgetI hv1 F hX hinX1 rfl rfl rfl (by decide) (by decide) wfX1_9 (kd dtX1_unlikeAt_0 4 rfl) ?_
    refine lv_icmp_ge (tgt := 33) hx hb (kd dtX1_unlikeAt_0 5 rfl) (by decide) (fun hc => ?_) (fun hc => ?_)
    · have hf := kif_pos hc hf
      refine lv_iconst (v := (0 : Int32)) hx hb (kd dtX1_unlikeAt_0 17 rfl) (by decide) ?_
      obtain rfl := Option.some.inj hf
      exact kiret F hX hr hlocks rfl (kd dtX1_unlikeAt_0 18 rfl)
    · have hf := kif_neg hc hf
      refine lv_iload_n hx hb (kd dtX1_unlikeAt_0 6 rfl) rfl (lv_at hl 1 rfl) ?_
      refine lv_aload_n hx hb (kd dtX1_unlikeAt_0 7 rfl) rfl (lv_at hl 0 rfl) ?_
      obtain ⟨v2, hv2, hf⟩ := kbind hf
      refine kgetP hv2 F hX hinX1 rfl rfl rfl (by decide) (by decide) wfX1_42 (kd dtX1_unlikeAt_0 8 rfl) ?_
      obtain ⟨v3, hv3, hf⟩ := kbind hf
      refine kalen hv3 (by decide) (by decide) F hX (kd dtX1_unlikeAt_0 9 rfl) ?_
      refine lv_icmp_ge (tgt := 33) hx hb (kd dtX1_unlikeAt_0 10 rfl) (by decide) (fun hc => ?_) (fun hc => ?_)
      · have hf := kif_pos hc hf
        refine lv_iconst (v := (0 : Int32)) hx hb (kd dtX1_unlikeAt_0 17 rfl) (by decide) ?_
        obtain rfl := Option.some.inj hf
        exact kiret F hX hr hlocks rfl (kd dtX1_unlikeAt_0 18 rfl)
      · have hf := kif_neg hc hf
        refine lv_aload_n hx hb (kd dtX1_unlikeAt_0 11 rfl) rfl (lv_at hl 0 rfl) ?_
        obtain ⟨v4, hv4, hf⟩ := kbind hf
        refine kgetP hv4 F hX hinX1 rfl rfl rfl (by decide) (by decide) wfX1_42 (kd dtX1_unlikeAt_0 12 rfl) ?_
        refine lv_iload_n hx hb (kd dtX1_unlikeAt_0 13 rfl) rfl (lv_at hl 1 rfl) ?_
        obtain ⟨v5, hv5, hf⟩ := kbind hf
        refine kald hv5 F hX (kd dtX1_unlikeAt_0 14 rfl) ?_
        obtain ⟨v7, h6, hf⟩ := kbind hf
        refine kcallS (n := 1) [.int v5] [] [.int v7] (rJ6_bitCount_0f7a4 l D aC w h6) F hml hX hZ hl.1 mwJ6_bitCount_0f7a4 wmX1_66 (by decide +kernel) ⟨(by decide), (by decide)⟩ rfl rfl rfl (Nat.le_of_ble_eq_true rfl) (kd dtX1_unlikeAt_0 15 rfl) ⟨Nat.zero_le _, Nat.zero_le _⟩ (fun H locs hX => ?_)
        refine lv_goto (tgt := 34) hx hb (kd dtX1_unlikeAt_0 16 rfl) (by decide) ?_
        obtain rfl := Option.some.inj hf
        exact kiret F hX hr hlocks rfl (kd dtX1_unlikeAt_0 18 rfl)
theorem wcX1_97 : Cond.constantLong RX1 97 (-1 : Int64) ∈ kT := kTm 603 (by decide +kernel) rfl
theorem wfX1_93 : Cond.fieldLinkNest RX1 93 "KitchenCards" "LETTER_WAYS" "[J" "KitchenCards" ∈ kNs := kNm 601 (by decide +kernel) rfl
theorem wmX1_90 : Cond.methodLink RX1 90 yX1_unlikeAt ∈ kT := kTm 604 (by decide +kernel) rfl
theorem mwX1_unlikeAt : kMV RX1 yX1_unlikeAt cX1_unlikeAt 2 (some .int) := ⟨kTm 607 (by decide +kernel) rfl, kTm 97 (by decide +kernel) rfl, kTm 605 (by decide +kernel) rfl, kTm 606 (by decide +kernel) rfl⟩
theorem wmX1_99 : Cond.methodLink RX1 99 yJ13_bitCount_95d88 ∈ kT := kTm 614 (by decide +kernel) rfl
theorem mwJ13_bitCount_95d88 : kMS yJ13_bitCount_95d88 cJ13_bitCount_95d88 2 (some .int) := ⟨kTm 616 (by decide +kernel) rfl, kTm 108 (by decide +kernel) rfl, kTm 615 (by decide +kernel) rfl⟩
def lX1_weigh_0 : List (Nat × Instr × Nat) := [(0, .aload_n 0, 1), (1, .getfield 9, 3), (4, .aload_n 1, 1), (5, .arraylength, 1), (6, .invokestatic 71, 3), (9, .iconst 1, 1), (10, .isub, 1), (11, .istore_n 2, 1), (12, .iload_n 2, 1), (13, .ifCond .lt 140, 3), (16, .aload_n 0, 1), (17, .iload_n 2, 1), (18, .invokevirtual 49, 3), (21, .invokestatic 74, 3), (24, .istore_n 3, 1), (25, .iload_n 2, 1), (26, .iconst 1, 1), (27, .iadd, 1), (28, .aload_n 1, 1), (29, .arraylength, 1), (30, .if_icmp .ge 11, 3), (33, .aload_n 1, 1), (34, .iload_n 2, 1), (35, .iconst 1, 1), (36, .iadd, 1), (37, .laload, 1), (38, .goto 4, 3), (41, .lconst 0, 1), (42, .lstore 4, 2), (44, .aload_n 0, 1), (45, .iload_n 2, 1), (46, .iconst 1, 1), (47, .iadd, 1), (48, .invokevirtual 45, 3), (51, .istore 6, 2), (53, .iload 6, 2), (55, .ifCond .lt 17, 3), (58, .iload 6, 2), (60, .aload_n 1, 1), (61, .arraylength, 1), (62, .if_icmp .ge 10, 3), (65, .aload_n 1, 1), (66, .iload 6, 2), (68, .laload, 1), (69, .goto 4, 3), (72, .lconst 0, 1), (73, .lstore 7, 2), (75, .iload_n 3, 1), (76, .ifCond .lt 22, 3), (79, .iload_n 3, 1), (80, .getstatic 93, 3), (83, .arraylength, 1), (84, .if_icmp .ge 14, 3), (87, .aload_n 1, 1), (88, .iload_n 2, 1), (89, .getstatic 93, 3), (92, .iload_n 3, 1), (93, .laload, 1), (94, .lastore, 1), (95, .goto 52, 3), (98, .aload_n 0, 1), (99, .iload_n 2, 1), (100, .invokevirtual 49, 3), (103, .bipush 126, 2), (105, .if_icmp .ne 15, 3), (108, .aload_n 1, 1), (109, .iload_n 2, 1), (110, .lload 4, 2), (112, .ldc2_w 97, 3), (115, .lxor, 1), (116, .lastore, 1), (117, .goto 30, 3), (120, .aload_n 1, 1), (121, .iload_n 2, 1), (122, .aload_n 0, 1), (123, .iload_n 2, 1), (124, .invokevirtual 49, 3), (127, .bipush 62, 2), (129, .if_icmp .ne 12, 3), (132, .lload 4, 2)]
theorem dtX1_weigh_0 : kDec cX1_weigh lX1_weigh_0 = true := by decide +kernel
def lX1_weigh_1 : List (Nat × Instr × Nat) := [(134, .ldc2_w 97, 3), (137, .lxor, 1), (138, .goto 5, 3), (141, .lload 4, 2), (143, .lload 7, 2), (145, .lor, 1), (146, .lastore, 1), (147, .iinc 2 (-1), 3), (150, .goto (-138), 3), (153, .bipush 6, 2), (155, .aload_n 0, 1), (156, .iconst 0, 1), (157, .invokevirtual 90, 3), (160, .isub, 1), (161, .istore_n 2, 1), (162, .aload_n 0, 1), (163, .aload_n 1, 1), (164, .arraylength, 1), (165, .ifCond .le 14, 3), (168, .aload_n 1, 1), (169, .iconst 0, 1), (170, .laload, 1), (171, .invokestatic 99, 3), (174, .iload_n 2, 1), (175, .ishr, 1), (176, .goto 4, 3), (179, .iconst 0, 1), (180, .putfield 19, 3), (183, .return_, 1)]
theorem dtX1_weigh_1 : kDec cX1_weigh lX1_weigh_1 = true := by decide +kernel
noncomputable def fX1_weigh_J12_98 (b k : Int32 → kW → Option kW) (x0 : Nat) (x1 : Option Nat) (x2 : Int32) (x3 : Int32) (x4 : Int64) (x6 : Int32) (x7 : Int64) (w : kW) : Option kW :=
  (kRc w 1 (some x0)).bind fun b1 =>
  (fX1_at b1 x2 w).bind fun v3 =>
  if v3 = (126 : Int32) then
  (ksJ w x1 x2 (x4 ^^^ (-1 : Int64))).bind fun w9 =>
  b (x2 + (-1 : Int32)) w9
  else
  (kRc w 1 (some x0)).bind fun b4 =>
  (fX1_at b4 x2 w).bind fun v6 =>
  if v6 = (62 : Int32) then
  (ksJ w x1 x2 ((x4 ^^^ (-1 : Int64)) ||| x7)).bind fun w8 =>
  b (x2 + (-1 : Int32)) w8
  else
  (ksJ w x1 x2 (x4 ||| x7)).bind fun w7 =>
  b (x2 + (-1 : Int32)) w7

noncomputable def fX1_weigh_J12_73 (b k : Int32 → kW → Option kW) (x0 : Nat) (x1 : Option Nat) (x2 : Int32) (x3 : Int32) (x4 : Int64) (x6 : Int32) (s0 : Int64) (w : kW) : Option kW :=
  if x3 < 0 then
  fX1_weigh_J12_98 b k x0 x1 x2 x3 x4 x6 s0 w
  else
  if (6 : Int32) ≤ x3 then
  fX1_weigh_J12_98 b k x0 x1 x2 x3 x4 x6 s0 w
  else
  (kWy x3).bind fun v1 =>
  (ksJ w x1 x2 v1).bind fun w2 =>
  b (x2 + (-1 : Int32)) w2

noncomputable def fX1_weigh_J12_72 (b k : Int32 → kW → Option kW) (x0 : Nat) (x1 : Option Nat) (x2 : Int32) (x3 : Int32) (x4 : Int64) (x6 : Int32) (w : kW) : Option kW :=
  fX1_weigh_J12_73 b k x0 x1 x2 x3 x4 x6 (0 : Int64) w

noncomputable def fX1_weigh_J12_42 (b k : Int32 → kW → Option kW) (x0 : Nat) (x1 : Option Nat) (x2 : Int32) (x3 : Int32) (s0 : Int64) (w : kW) : Option kW :=
  (kRc w 1 (some x0)).bind fun b1 =>
  (fX1_endAt b1 (x2 + (1 : Int32)) w).bind fun v3 =>
  if v3 < 0 then
  fX1_weigh_J12_72 b k x0 x1 x2 x3 s0 v3 w
  else
  (kal w 15 x1).bind fun v4 =>
  if v4 ≤ v3 then
  fX1_weigh_J12_72 b k x0 x1 x2 x3 s0 v3 w
  else
  (kaJ w x1 v3).bind fun v5 =>
  fX1_weigh_J12_73 b k x0 x1 x2 x3 s0 v3 v5 w

noncomputable def fX1_weigh_L12 (x0 : Nat) (x1 : Option Nat) : Nat → (Int32 → kW → Option kW) → Int32 → kW → Option kW
  | 0, _, _, _ => none
  | n + 1, k, x2, w =>
  if x2 < 0 then
  k x2 w
  else
  (kRc w 1 (some x0)).bind fun b1 =>
  (fX1_at b1 x2 w).bind fun v3 =>
  (fX11_letterOf v3).bind fun v5 =>
  (kal w 15 x1).bind fun v6 =>
  if v6 ≤ (x2 + (1 : Int32)) then
  fX1_weigh_J12_42 (fun q2 qw => fX1_weigh_L12 x0 x1 n k q2 qw) k x0 x1 x2 v5 (0 : Int64) w
  else
  (kaJ w x1 (x2 + (1 : Int32))).bind fun v7 =>
  fX1_weigh_J12_42 (fun q2 qw => fX1_weigh_L12 x0 x1 n k q2 qw) k x0 x1 x2 v5 v7 w

noncomputable def fX1_weigh (x0 : Nat) (x1 : Option Nat) (w : kW) : Option kW :=
  (kgI w 1 (some x0) 5).bind fun v1 =>
  (kal w 15 x1).bind fun v2 =>
  fX1_weigh_L12 x0 x1 kFU (fun y2_3 w4 => (kRc w4 1 (some x0)).bind fun b5 =>
  (fX1_unlikeAt b5 (0 : Int32) w4).bind fun v7 =>
  (kal w4 15 x1).bind fun v8 =>
  if v8 ≤ 0 then
  (kpI w4 1 (some x0) 7 (0 : Int32)).bind fun w9 =>
  some w9
  else
  (kaJ w4 x1 (0 : Int32)).bind fun v10 =>
  (fJ13_bitCount_95d88 v10).bind fun v12 =>
  (kpI w4 1 (some x0) 7 (v12 >>> (((6 : Int32) - v7) &&& 31))).bind fun w13 =>
  some w13) ((kMmin v1 v2) - (1 : Int32)) w

set_option maxHeartbeats 4000000 in
set_option maxRecDepth 100000 in
theorem rX1_weigh (l : Launch) (D : va_G) (aC : Nat → ClassId) {x0 : Nat} {x1 : Option Nat} {w : kW} {wR : kW} (h : fX1_weigh x0 x1 w = some wR) : kC l D aC yX1_weigh cX1_weigh 9 none 3 53 [.ref x0, va_rf x1] w none wR 0 0 := by
  refine kOf (own := RX1) (by decide) rfl (by simp [lg_sl, kcat_rf, kcat_i, kcat_r, kcat_l]) ?_
  intro p e s m below meth c ls F hml hr hlocks hnm hX hZ hl
  obtain ⟨hx, hb, hts, hown, hK⟩ := id F
  obtain ⟨hZn, -, tW, hZs, hTs⟩ := id hZ
  have hl : lv_has ls 9 [(0, .ref x0), (1, va_rf x1)] := by simpa [lv_args, kcat_rf, kcat_i, kcat_r, kcat_l] using hl
  have hf := h
  rw [fX1_weigh] at hf
  refine lv_aload_n hx hb (kd dtX1_weigh_0 0 rfl) rfl (lv_at hl 0 rfl) ?_
  obtain ⟨v1, hv1, hf⟩ := kbind hf
  refine kgetI hv1 F hX hinX1 rfl rfl rfl (by decide) (by decide) wfX1_9 (kd dtX1_weigh_0 1 rfl) ?_
  refine kaload_n hx hb (kd dtX1_weigh_0 2 rfl) rfl (lv_at hl 1 rfl) ?_
  obtain ⟨v2, hv2, hf⟩ := kbind hf
  refine kalen hv2 (by decide) (by decide) F hX (kd dtX1_weigh_0 3 rfl) ?_
  refine kmmin F (hml.trans hl.1.symm) wmX1_71 (Nat.le_of_ble_eq_true rfl) (Nat.le_of_ble_eq_true rfl) (Nat.zero_le _) (Nat.zero_le _) (kd dtX1_weigh_0 4 rfl) ?_
  refine lv_iconst (v := (1 : Int32)) hx hb (kd dtX1_weigh_0 5 rfl) (by decide) ?_
  refine lv_isub hx hb (kd dtX1_weigh_0 6 rfl) ?_
  refine lv_istore_n (i := 2) (lv' := [(2, .int ((kMmin v1 v2) - (1 : Int32))), (0, .ref x0), (1, va_rf x1)]) hx hb (kd dtX1_weigh_0 7 rfl) rfl hl (by decide) (by simp [kcat_rf, kcat_i, kcat_r, kcat_l]) (fun ls hl => ?_)
  have hL12 : ∀ (n : Nat) (k : Int32 → kW → Option kW), ∀ (z2_12 : Int32) (w_12 : kW) (H : Heap) (locs : List Loc) (ls : Array Slot), kX D aC w s.heap w_12 H locs → lv_has ls 9 [(0, .ref x0), (1, va_rf x1), (2, .int z2_12)] → fX1_weigh_L12 x0 x1 n k z2_12 w_12 = some wR → (∀ (z2_12 : Int32) (w_12 : kW) (H : Heap) (locs : List Loc) (ls : Array Slot), kX D aC w s.heap w_12 H locs → lv_has ls 9 [(0, .ref x0), (1, va_rf x1), (2, .int z2_12)] → k z2_12 w_12 = some wR → W p l e { frames := 3, cells := 0, slots := 0, locals := 53 } s m ([.ref x0, va_rf x1] : List Value).toArray below meth c H locs 0 0 (MQ below (kQc D aC w none wR) ([.ref x0, va_rf x1] : List Value).toArray s 0 0 (kA w)) (F0 m 153 ls [])) → W p l e { frames := 3, cells := 0, slots := 0, locals := 53 } s m ([.ref x0, va_rf x1] : List Value).toArray below meth c H locs 0 0 (MQ below (kQc D aC w none wR) ([.ref x0, va_rf x1] : List Value).toArray s 0 0 (kA w)) (F0 m 12 ls []) := by
    intro n k
    induction n with
    | zero =>
      intro z2_12 w_12 H locs ls hX hl hf hk
      rw [fX1_weigh_L12] at hf
      cases hf
    | succ n ih =>
      intro z2_12 w_12 H locs ls hX hl hf hk
      have hJ12_98 : ∀ (j2_98 : Int32) (j3_98 : Int32) (j4_98 : Int64) (j6_98 : Int32) (j7_98 : Int64) (w_j98 : kW) (H : Heap) (locs : List Loc) (ls : Array Slot), kX D aC w s.heap w_j98 H locs → lv_has ls 9 [(0, .ref x0), (1, va_rf x1), (2, .int j2_98), (3, .int j3_98), (4, .long j4_98), (6, .int j6_98), (7, .long j7_98)] → fX1_weigh_J12_98 (fun q2 qw => fX1_weigh_L12 x0 x1 n k q2 qw) k x0 x1 j2_98 j3_98 j4_98 j6_98 j7_98 w_j98 = some wR → W p l e { frames := 3, cells := 0, slots := 0, locals := 53 } s m ([.ref x0, va_rf x1] : List Value).toArray below meth c H locs 0 0 (MQ below (kQc D aC w none wR) ([.ref x0, va_rf x1] : List Value).toArray s 0 0 (kA w)) (F0 m 98 ls []) := by
        intro j2_98 j3_98 j4_98 j6_98 j7_98 w_j98 H locs ls hX hl hf
        rw [fX1_weigh_J12_98] at hf
        refine lv_aload_n hx hb (kd dtX1_weigh_0 60 rfl) rfl (lv_at hl 0 rfl) ?_
        refine lv_iload_n hx hb (kd dtX1_weigh_0 61 rfl) rfl (lv_at hl 2 rfl) ?_
        obtain ⟨b28, hb28, hf⟩ := kbind hf
        obtain ⟨hrb28, hkb28⟩ := kRc_s hb28
        obtain ⟨v30, h29, hf⟩ := kbind hf
        refine kcallV (n := 1) [.int j2_98] [] [.int v30] (rX1_at l D aC h29) hrb28 hkb28 F hml hX hZ hl.1 mwX1_at wmX1_49 rfl (by decide) (by decide +kernel) ⟨(by decide), (by decide)⟩ rfl rfl rfl (Nat.le_of_ble_eq_true rfl) (kd dtX1_weigh_0 62 rfl) ⟨Nat.zero_le _, Nat.zero_le _⟩ (fun H locs hX => ?_)
        refine lv_bipush (v := (126 : Int32)) hx hb (kd dtX1_weigh_0 63 rfl) (by decide) ?_
        refine lv_icmp_ne (tgt := 120) hx hb (kd dtX1_weigh_0 64 rfl) (by decide) (fun hc => ?_) (fun hc => ?_)
        · have hf := kif_neg hc hf
          refine kaload_n hx hb (kd dtX1_weigh_0 72 rfl) rfl (lv_at hl 1 rfl) ?_
          refine lv_iload_n hx hb (kd dtX1_weigh_0 73 rfl) rfl (lv_at hl 2 rfl) ?_
          refine lv_aload_n hx hb (kd dtX1_weigh_0 74 rfl) rfl (lv_at hl 0 rfl) ?_
          refine lv_iload_n hx hb (kd dtX1_weigh_0 75 rfl) rfl (lv_at hl 2 rfl) ?_
          obtain ⟨b31, hb31, hf⟩ := kbind hf
          obtain ⟨hrb31, hkb31⟩ := kRc_s hb31
          obtain ⟨v33, h32, hf⟩ := kbind hf
          refine kcallV (n := 1) [.int j2_98] [.int j2_98, va_rf x1] [.int v33, .int j2_98, va_rf x1] (rX1_at l D aC h32) hrb31 hkb31 F hml hX hZ hl.1 mwX1_at wmX1_49 rfl (by decide) (by decide +kernel) ⟨(by decide), (by decide)⟩ rfl rfl rfl (by simp [kcat_rf, kcat_i, kcat_r, kcat_l]) (kd dtX1_weigh_0 76 rfl) ⟨Nat.zero_le _, Nat.zero_le _⟩ (fun H locs hX => ?_)
          refine lv_bipush (v := (62 : Int32)) hx hb (kd dtX1_weigh_0 77 rfl) (by decide) ?_
          refine lv_icmp_ne (tgt := 141) hx hb (kd dtX1_weigh_0 78 rfl) (by decide) (fun hc => ?_) (fun hc => ?_)
          · have hf := kif_neg hc hf
            refine lv_lload hx hb (kd dtX1_weigh_1 3 rfl) (lv_at hl 4 rfl) ?_
            refine lv_lload hx hb (kd dtX1_weigh_1 4 rfl) (lv_at hl 6 rfl) ?_
            refine lv_lor hx hb (kd dtX1_weigh_1 5 rfl) ?_
            obtain ⟨w34, hw34, hf⟩ := kbind hf
            refine klst hw34 F hX (kd dtX1_weigh_1 6 rfl) (fun H locs hX => ?_)
            refine lv_iinc (v := j2_98 + (-1 : Int32)) (lv' := [(2, .int (j2_98 + (-1 : Int32))), (0, .ref x0), (1, va_rf x1), (3, .int j3_98), (4, .long j4_98), (6, .int j6_98), (7, .long j7_98)]) hx hb (kd dtX1_weigh_1 7 rfl) hl (k := 2) rfl (by rfl) (by decide) (by simp [kcat_rf, kcat_i, kcat_r, kcat_l]) (fun ls hl => ?_)
            refine lv_goto (tgt := 12) hx hb (kd dtX1_weigh_1 8 rfl) (by decide) ?_
            exact ih (j2_98 + (-1 : Int32)) w34 _ _ _ hX (lv_sub hl [1, 2, 0] rfl) hf hk
          · have hf := kif_pos hc hf
            refine lv_lload hx hb (kd dtX1_weigh_0 79 rfl) (lv_at hl 4 rfl) ?_
            refine lv_ldc2 (v := (-1 : Int64)) hx hb hown (hts _ wcX1_97) (kd dtX1_weigh_1 0 rfl) ?_
            refine lv_lxor hx hb (kd dtX1_weigh_1 1 rfl) ?_
            refine lv_goto (tgt := 143) hx hb (kd dtX1_weigh_1 2 rfl) (by decide) ?_
            refine lv_lload hx hb (kd dtX1_weigh_1 4 rfl) (lv_at hl 6 rfl) ?_
            refine lv_lor hx hb (kd dtX1_weigh_1 5 rfl) ?_
            obtain ⟨w35, hw35, hf⟩ := kbind hf
            refine klst hw35 F hX (kd dtX1_weigh_1 6 rfl) (fun H locs hX => ?_)
            refine lv_iinc (v := j2_98 + (-1 : Int32)) (lv' := [(2, .int (j2_98 + (-1 : Int32))), (0, .ref x0), (1, va_rf x1), (3, .int j3_98), (4, .long j4_98), (6, .int j6_98), (7, .long j7_98)]) hx hb (kd dtX1_weigh_1 7 rfl) hl (k := 2) rfl (by rfl) (by decide) (by simp [kcat_rf, kcat_i, kcat_r, kcat_l]) (fun ls hl => ?_)
            refine lv_goto (tgt := 12) hx hb (kd dtX1_weigh_1 8 rfl) (by decide) ?_
            exact ih (j2_98 + (-1 : Int32)) w35 _ _ _ hX (lv_sub hl [1, 2, 0] rfl) hf hk
        · have hf := kif_pos hc hf
          refine kaload_n hx hb (kd dtX1_weigh_0 65 rfl) rfl (lv_at hl 1 rfl) ?_
          refine lv_iload_n hx hb (kd dtX1_weigh_0 66 rfl) rfl (lv_at hl 2 rfl) ?_
          refine lv_lload hx hb (kd dtX1_weigh_0 67 rfl) (lv_at hl 4 rfl) ?_
          refine lv_ldc2 (v := (-1 : Int64)) hx hb hown (hts _ wcX1_97) (kd dtX1_weigh_0 68 rfl) ?_
          refine lv_lxor hx hb (kd dtX1_weigh_0 69 rfl) ?_
          obtain ⟨w36, hw36, hf⟩ := kbind hf
          refine klst hw36 F hX (kd dtX1_weigh_0 70 rfl) (fun H locs hX => ?_)
          refine lv_goto (tgt := 147) hx hb (kd dtX1_weigh_0 71 rfl) (by decide) ?_
          refine lv_iinc (v := j2_98 + (-1 : Int32)) (lv' := [(2, .int (j2_98 + (-1 : Int32))), (0, .ref x0), (1, va_rf x1), (3, .int j3_98), (4, .long j4_98), (6, .int j6_98), (7, .long j7_98)]) hx hb (kd dtX1_weigh_1 7 rfl) hl (k := 2) rfl (by rfl) (by decide) (by simp [kcat_rf, kcat_i, kcat_r, kcat_l]) (fun ls hl => ?_)
          refine lv_goto (tgt := 12) hx hb (kd dtX1_weigh_1 8 rfl) (by decide) ?_
          exact ih (j2_98 + (-1 : Int32)) w36 _ _ _ hX (lv_sub hl [1, 2, 0] rfl) hf hk
      have hJ12_73 : ∀ (j2_73 : Int32) (j3_73 : Int32) (j4_73 : Int64) (j6_73 : Int32) (t0_73 : Int64) (w_j73 : kW) (H : Heap) (locs : List Loc) (ls : Array Slot), kX D aC w s.heap w_j73 H locs → lv_has ls 9 [(0, .ref x0), (1, va_rf x1), (2, .int j2_73), (3, .int j3_73), (4, .long j4_73), (6, .int j6_73)] → fX1_weigh_J12_73 (fun q2 qw => fX1_weigh_L12 x0 x1 n k q2 qw) k x0 x1 j2_73 j3_73 j4_73 j6_73 t0_73 w_j73 = some wR → W p l e { frames := 3, cells := 0, slots := 0, locals := 53 } s m ([.ref x0, va_rf x1] : List Value).toArray below meth c H locs 0 0 (MQ below (kQc D aC w none wR) ([.ref x0, va_rf x1] : List Value).toArray s 0 0 (kA w)) (F0 m 73 ls [.long t0_73]) := by
        intro j2_73 j3_73 j4_73 j6_73 t0_73 w_j73 H locs ls hX hl hf
        rw [fX1_weigh_J12_73] at hf
        refine lv_lstore (lv' := [(7, .long t0_73), (0, .ref x0), (1, va_rf x1), (2, .int j2_73), (3, .int j3_73), (4, .long j4_73), (6, .int j6_73)]) hx hb (kd dtX1_weigh_0 46 rfl) hl (by decide) rfl (fun ls hl => ?_)
        refine lv_iload_n hx hb (kd dtX1_weigh_0 47 rfl) rfl (lv_at hl 4 rfl) ?_
        refine lv_if_lt (tgt := 98) hx hb (kd dtX1_weigh_0 48 rfl) (by decide) (fun hc => ?_) (fun hc => ?_)
        · have hf := kif_pos hc hf
          exact hJ12_98 j2_73 j3_73 j4_73 j6_73 t0_73 w_j73 _ _ _ hX (lv_sub hl [1, 2, 3, 4, 5, 6, 0] rfl) hf
        · have hf := kif_neg hc hf
          refine lv_iload_n hx hb (kd dtX1_weigh_0 49 rfl) rfl (lv_at hl 4 rfl) ?_
          refine kgetsW hZs hZn F hX wfX1_93 (kd dtX1_weigh_0 50 rfl) ?_
          refine klenW hTs F hX (kd dtX1_weigh_0 51 rfl) ?_
          refine lv_icmp_ge (tgt := 98) hx hb (kd dtX1_weigh_0 52 rfl) (by decide) (fun hc => ?_) (fun hc => ?_)
          · have hf := kif_pos hc hf
            exact hJ12_98 j2_73 j3_73 j4_73 j6_73 t0_73 w_j73 _ _ _ hX (lv_sub hl [1, 2, 3, 4, 5, 6, 0] rfl) hf
          · have hf := kif_neg hc hf
            refine kaload_n hx hb (kd dtX1_weigh_0 53 rfl) rfl (lv_at hl 2 rfl) ?_
            refine lv_iload_n hx hb (kd dtX1_weigh_0 54 rfl) rfl (lv_at hl 3 rfl) ?_
            refine kgetsW hZs hZn F hX wfX1_93 (kd dtX1_weigh_0 55 rfl) ?_
            refine lv_iload_n hx hb (kd dtX1_weigh_0 56 rfl) rfl (lv_at hl 4 rfl) ?_
            obtain ⟨v26, hv26, hf⟩ := kbind hf
            refine kldW hv26 hTs F hX (kd dtX1_weigh_0 57 rfl) ?_
            obtain ⟨w27, hw27, hf⟩ := kbind hf
            refine klst hw27 F hX (kd dtX1_weigh_0 58 rfl) (fun H locs hX => ?_)
            refine lv_goto (tgt := 147) hx hb (kd dtX1_weigh_0 59 rfl) (by decide) ?_
            refine lv_iinc (v := j2_73 + (-1 : Int32)) (lv' := [(2, .int (j2_73 + (-1 : Int32))), (7, .long t0_73), (0, .ref x0), (1, va_rf x1), (3, .int j3_73), (4, .long j4_73), (6, .int j6_73)]) hx hb (kd dtX1_weigh_1 7 rfl) hl (k := 3) rfl (by rfl) (by decide) (by simp [kcat_rf, kcat_i, kcat_r, kcat_l]) (fun ls hl => ?_)
            refine lv_goto (tgt := 12) hx hb (kd dtX1_weigh_1 8 rfl) (by decide) ?_
            exact ih (j2_73 + (-1 : Int32)) w27 _ _ _ hX (lv_sub hl [2, 3, 0] rfl) hf hk
      have hJ12_72 : ∀ (j2_72 : Int32) (j3_72 : Int32) (j4_72 : Int64) (j6_72 : Int32) (w_j72 : kW) (H : Heap) (locs : List Loc) (ls : Array Slot), kX D aC w s.heap w_j72 H locs → lv_has ls 9 [(0, .ref x0), (1, va_rf x1), (2, .int j2_72), (3, .int j3_72), (4, .long j4_72), (6, .int j6_72)] → fX1_weigh_J12_72 (fun q2 qw => fX1_weigh_L12 x0 x1 n k q2 qw) k x0 x1 j2_72 j3_72 j4_72 j6_72 w_j72 = some wR → W p l e { frames := 3, cells := 0, slots := 0, locals := 53 } s m ([.ref x0, va_rf x1] : List Value).toArray below meth c H locs 0 0 (MQ below (kQc D aC w none wR) ([.ref x0, va_rf x1] : List Value).toArray s 0 0 (kA w)) (F0 m 72 ls []) := by
        intro j2_72 j3_72 j4_72 j6_72 w_j72 H locs ls hX hl hf
        rw [fX1_weigh_J12_72] at hf
        refine lv_lconst (v := (0 : Int64)) hx hb (kd dtX1_weigh_0 45 rfl) (by decide) ?_
        exact hJ12_73 j2_72 j3_72 j4_72 j6_72 (0 : Int64) w_j72 _ _ _ hX hl hf
      have hJ12_42 : ∀ (j2_42 : Int32) (j3_42 : Int32) (t0_42 : Int64) (w_j42 : kW) (H : Heap) (locs : List Loc) (ls : Array Slot), kX D aC w s.heap w_j42 H locs → lv_has ls 9 [(0, .ref x0), (1, va_rf x1), (2, .int j2_42), (3, .int j3_42)] → fX1_weigh_J12_42 (fun q2 qw => fX1_weigh_L12 x0 x1 n k q2 qw) k x0 x1 j2_42 j3_42 t0_42 w_j42 = some wR → W p l e { frames := 3, cells := 0, slots := 0, locals := 53 } s m ([.ref x0, va_rf x1] : List Value).toArray below meth c H locs 0 0 (MQ below (kQc D aC w none wR) ([.ref x0, va_rf x1] : List Value).toArray s 0 0 (kA w)) (F0 m 42 ls [.long t0_42]) := by
        intro j2_42 j3_42 t0_42 w_j42 H locs ls hX hl hf
        rw [fX1_weigh_J12_42] at hf
        refine lv_lstore (lv' := [(4, .long t0_42), (0, .ref x0), (1, va_rf x1), (2, .int j2_42), (3, .int j3_42)]) hx hb (kd dtX1_weigh_0 28 rfl) hl (by decide) rfl (fun ls hl => ?_)
        refine lv_aload_n hx hb (kd dtX1_weigh_0 29 rfl) rfl (lv_at hl 1 rfl) ?_
        refine lv_iload_n hx hb (kd dtX1_weigh_0 30 rfl) rfl (lv_at hl 3 rfl) ?_
        refine lv_iconst (v := (1 : Int32)) hx hb (kd dtX1_weigh_0 31 rfl) (by decide) ?_
        refine lv_iadd hx hb (kd dtX1_weigh_0 32 rfl) ?_
        obtain ⟨b21, hb21, hf⟩ := kbind hf
        obtain ⟨hrb21, hkb21⟩ := kRc_s hb21
        obtain ⟨v23, h22, hf⟩ := kbind hf
        refine kcallV (n := 1) [.int (j2_42 + (1 : Int32))] [] [.int v23] (rX1_endAt l D aC h22) hrb21 hkb21 F hml hX hZ hl.1 mwX1_endAt wmX1_45 rfl (by decide) (by decide +kernel) ⟨(by decide), (by decide)⟩ rfl rfl rfl (Nat.le_of_ble_eq_true rfl) (kd dtX1_weigh_0 33 rfl) ⟨Nat.zero_le _, Nat.zero_le _⟩ (fun H locs hX => ?_)
        refine lv_istore (lv' := [(6, .int v23), (4, .long t0_42), (0, .ref x0), (1, va_rf x1), (2, .int j2_42), (3, .int j3_42)]) hx hb (kd dtX1_weigh_0 34 rfl) hl (by decide) rfl (fun ls hl => ?_)
        refine lv_iload hx hb (kd dtX1_weigh_0 35 rfl) (lv_at hl 0 rfl) ?_
        refine lv_if_lt (tgt := 72) hx hb (kd dtX1_weigh_0 36 rfl) (by decide) (fun hc => ?_) (fun hc => ?_)
        · have hf := kif_pos hc hf
          exact hJ12_72 j2_42 j3_42 t0_42 v23 w_j42 _ _ _ hX (lv_sub hl [2, 3, 4, 5, 1, 0] rfl) hf
        · have hf := kif_neg hc hf
          refine lv_iload hx hb (kd dtX1_weigh_0 37 rfl) (lv_at hl 0 rfl) ?_
          refine kaload_n hx hb (kd dtX1_weigh_0 38 rfl) rfl (lv_at hl 3 rfl) ?_
          obtain ⟨v24, hv24, hf⟩ := kbind hf
          refine kalen hv24 (by decide) (by decide) F hX (kd dtX1_weigh_0 39 rfl) ?_
          refine lv_icmp_ge (tgt := 72) hx hb (kd dtX1_weigh_0 40 rfl) (by decide) (fun hc => ?_) (fun hc => ?_)
          · have hf := kif_pos hc hf
            exact hJ12_72 j2_42 j3_42 t0_42 v23 w_j42 _ _ _ hX (lv_sub hl [2, 3, 4, 5, 1, 0] rfl) hf
          · have hf := kif_neg hc hf
            refine kaload_n hx hb (kd dtX1_weigh_0 41 rfl) rfl (lv_at hl 3 rfl) ?_
            refine lv_iload hx hb (kd dtX1_weigh_0 42 rfl) (lv_at hl 0 rfl) ?_
            obtain ⟨v25, hv25, hf⟩ := kbind hf
            refine klld hv25 F hX (kd dtX1_weigh_0 43 rfl) ?_
            refine lv_goto (tgt := 73) hx hb (kd dtX1_weigh_0 44 rfl) (by decide) ?_
            exact hJ12_73 j2_42 j3_42 t0_42 v23 v25 w_j42 _ _ _ hX (lv_sub hl [2, 3, 4, 5, 1, 0] rfl) hf
      rw [fX1_weigh_L12] at hf
      refine lv_iload_n hx hb (kd dtX1_weigh_0 8 rfl) rfl (lv_at hl 2 rfl) ?_
      refine lv_if_lt (tgt := 153) hx hb (kd dtX1_weigh_0 9 rfl) (by decide) (fun hc => ?_) (fun hc => ?_)
      · have hf := kif_pos hc hf
        exact hk z2_12 w_12 _ _ _ hX hl hf
      · have hf := kif_neg hc hf
        refine lv_aload_n hx hb (kd dtX1_weigh_0 10 rfl) rfl (lv_at hl 0 rfl) ?_
        refine lv_iload_n hx hb (kd dtX1_weigh_0 11 rfl) rfl (lv_at hl 2 rfl) ?_
        obtain ⟨b14, hb14, hf⟩ := kbind hf
        obtain ⟨hrb14, hkb14⟩ := kRc_s hb14
        obtain ⟨v16, h15, hf⟩ := kbind hf
        refine kcallV (n := 1) [.int z2_12] [] [.int v16] (rX1_at l D aC h15) hrb14 hkb14 F hml hX hZ hl.1 mwX1_at wmX1_49 rfl (by decide) (by decide +kernel) ⟨(by decide), (by decide)⟩ rfl rfl rfl (Nat.le_of_ble_eq_true rfl) (kd dtX1_weigh_0 12 rfl) ⟨Nat.zero_le _, Nat.zero_le _⟩ (fun H locs hX => ?_)
        obtain ⟨v18, h17, hf⟩ := kbind hf
        refine kcallSN (n := 1) [.int v16] [] [.int v18] (rX11_letterOf l D aC w_12 h17) F hml hX hZ hl.1 mwX11_letterOf wmX1_74 (by decide +kernel) ⟨(by decide), (by decide)⟩ rfl rfl rfl (Nat.le_of_ble_eq_true rfl) (kd dtX1_weigh_0 13 rfl) ⟨Nat.zero_le _, Nat.zero_le _⟩ (fun H locs hX => ?_)
        refine lv_istore_n (lv' := [(3, .int v18), (0, .ref x0), (1, va_rf x1), (2, .int z2_12)]) hx hb (kd dtX1_weigh_0 14 rfl) rfl hl (by decide) rfl (fun ls hl => ?_)
        refine lv_iload_n hx hb (kd dtX1_weigh_0 15 rfl) rfl (lv_at hl 3 rfl) ?_
        refine lv_iconst (v := (1 : Int32)) hx hb (kd dtX1_weigh_0 16 rfl) (by decide) ?_
        refine lv_iadd hx hb (kd dtX1_weigh_0 17 rfl) ?_
        refine kaload_n hx hb (kd dtX1_weigh_0 18 rfl) rfl (lv_at hl 2 rfl) ?_
        obtain ⟨v19, hv19, hf⟩ := kbind hf
        refine kalen hv19 (by decide) (by decide) F hX (kd dtX1_weigh_0 19 rfl) ?_
        refine lv_icmp_ge (tgt := 41) hx hb (kd dtX1_weigh_0 20 rfl) (by decide) (fun hc => ?_) (fun hc => ?_)
        · have hf := kif_pos hc hf
          refine lv_lconst (v := (0 : Int64)) hx hb (kd dtX1_weigh_0 27 rfl) (by decide) ?_
          exact hJ12_42 z2_12 v18 (0 : Int64) w_12 _ _ _ hX (lv_sub hl [1, 2, 3, 0] rfl) hf
        · have hf := kif_neg hc hf
          refine kaload_n hx hb (kd dtX1_weigh_0 21 rfl) rfl (lv_at hl 2 rfl) ?_
          refine lv_iload_n hx hb (kd dtX1_weigh_0 22 rfl) rfl (lv_at hl 3 rfl) ?_
          refine lv_iconst (v := (1 : Int32)) hx hb (kd dtX1_weigh_0 23 rfl) (by decide) ?_
          refine lv_iadd hx hb (kd dtX1_weigh_0 24 rfl) ?_
          obtain ⟨v20, hv20, hf⟩ := kbind hf
          refine klld hv20 F hX (kd dtX1_weigh_0 25 rfl) ?_
          refine lv_goto (tgt := 42) hx hb (kd dtX1_weigh_0 26 rfl) (by decide) ?_
          exact hJ12_42 z2_12 v18 v20 w_12 _ _ _ hX (lv_sub hl [1, 2, 3, 0] rfl) hf
  refine hL12 kFU _ ((kMmin v1 v2) - (1 : Int32)) w _ _ _ hX (lv_sub hl [1, 2, 0] rfl) hf ?_
  intro y2_3 w4 H locs ls hX hl hf
  refine lv_bipush (v := (6 : Int32)) hx hb (kd dtX1_weigh_1 9 rfl) (by decide) ?_
  refine lv_aload_n hx hb (kd dtX1_weigh_1 10 rfl) rfl (lv_at hl 0 rfl) ?_
  refine lv_iconst (v := (0 : Int32)) hx hb (kd dtX1_weigh_1 11 rfl) (by decide) ?_
  obtain ⟨b5, hb5, hf⟩ := kbind hf
  obtain ⟨hrb5, hkb5⟩ := kRc_s hb5
  obtain ⟨v7, h6, hf⟩ := kbind hf
  refine kcallV (n := 1) [.int (0 : Int32)] [.int (6 : Int32)] [.int v7, .int (6 : Int32)] (rX1_unlikeAt l D aC h6) hrb5 hkb5 F hml hX hZ hl.1 mwX1_unlikeAt wmX1_90 rfl (by decide) (by decide +kernel) ⟨(by decide), (by decide)⟩ rfl rfl rfl (Nat.le_of_ble_eq_true rfl) (kd dtX1_weigh_1 12 rfl) ⟨Nat.zero_le _, Nat.zero_le _⟩ (fun H locs hX => ?_)
  refine lv_isub hx hb (kd dtX1_weigh_1 13 rfl) ?_
  refine lv_istore_n (i := 2) (lv' := [(2, .int ((6 : Int32) - v7)), (0, .ref x0), (1, va_rf x1)]) hx hb (kd dtX1_weigh_1 14 rfl) rfl hl (by decide) (by simp [kcat_rf, kcat_i, kcat_r, kcat_l]) (fun ls hl => ?_)
  refine lv_aload_n hx hb (kd dtX1_weigh_1 15 rfl) rfl (lv_at hl 1 rfl) ?_
  refine kaload_n hx hb (kd dtX1_weigh_1 16 rfl) rfl (lv_at hl 2 rfl) ?_
  obtain ⟨v8, hv8, hf⟩ := kbind hf
  refine kalen hv8 (by decide) (by decide) F hX (kd dtX1_weigh_1 17 rfl) ?_
  refine lv_if_le (tgt := 179) hx hb (kd dtX1_weigh_1 18 rfl) (by decide) (fun hc => ?_) (fun hc => ?_)
  · have hf := kif_pos hc hf
    refine lv_iconst (v := (0 : Int32)) hx hb (kd dtX1_weigh_1 26 rfl) (by decide) ?_
    obtain ⟨w9, hw9, hf⟩ := kbind hf
    refine kputI hw9 F hX hinX1 tyX1_ok nmX1 rfl rfl rfl (by decide) (by decide) wfX1_19 rfl rfl (Or.inl rfl) (kd dtX1_weigh_1 27 rfl) (fun H locs hX => ?_)
    obtain rfl := Option.some.inj hf
    exact kvret F hX hr hlocks rfl (kd dtX1_weigh_1 28 rfl)
  · have hf := kif_neg hc hf
    refine kaload_n hx hb (kd dtX1_weigh_1 19 rfl) rfl (lv_at hl 2 rfl) ?_
    refine lv_iconst (v := (0 : Int32)) hx hb (kd dtX1_weigh_1 20 rfl) (by decide) ?_
    obtain ⟨v10, hv10, hf⟩ := kbind hf
    refine klld hv10 F hX (kd dtX1_weigh_1 21 rfl) ?_
    obtain ⟨v12, h11, hf⟩ := kbind hf
    refine kcallS (n := 1) [.long v10] [.ref x0] [.int v12, .ref x0] (rJ13_bitCount_95d88 l D aC w4 h11) F hml hX hZ hl.1 mwJ13_bitCount_95d88 wmX1_99 (by decide +kernel) ⟨(by decide), (by decide)⟩ rfl rfl rfl (Nat.le_of_ble_eq_true rfl) (kd dtX1_weigh_1 22 rfl) ⟨Nat.zero_le _, Nat.zero_le _⟩ (fun H locs hX => ?_)
    refine lv_iload_n hx hb (kd dtX1_weigh_1 23 rfl) rfl (lv_at hl 0 rfl) ?_
    refine lv_ishr hx hb (kd dtX1_weigh_1 24 rfl) ?_
    refine lv_goto (tgt := 180) hx hb (kd dtX1_weigh_1 25 rfl) (by decide) ?_
    obtain ⟨w13, hw13, hf⟩ := kbind hf
    refine kputI hw13 F hX hinX1 tyX1_ok nmX1 rfl rfl rfl (by decide) (by decide) wfX1_19 rfl rfl (Or.inl rfl) (kd dtX1_weigh_1 27 rfl) (fun H locs hX => ?_)
    obtain rfl := Option.some.inj hf
    exact kvret F hX hr hlocks rfl (kd dtX1_weigh_1 28 rfl)
def lX1_isTrue_0 : List (Nat × Instr × Nat) := [(0, .aload_n 0, 1), (1, .getfield 19, 3), (4, .iconst 1, 1), (5, .aload_n 0, 1), (6, .iconst 0, 1), (7, .invokevirtual 90, 3), (10, .ishl, 1), (11, .if_icmp .ne 7, 3), (14, .iconst 1, 1), (15, .goto 4, 3), (18, .iconst 0, 1), (19, .ireturn, 1)]
theorem dtX1_isTrue_0 : kDec cX1_isTrue lX1_isTrue_0 = true := by decide +kernel
noncomputable def fX1_isTrue (x0 : Nat) (w : kW) : Option Int32 :=
  (kgI w 1 (some x0) 7).bind fun v1 =>
  (kRc w 1 (some x0)).bind fun b2 =>
  (fX1_unlikeAt b2 (0 : Int32) w).bind fun v4 =>
  if v1 = ((1 : Int32) <<< (v4 &&& 31)) then
  some (1 : Int32)
  else
  some (0 : Int32)

set_option maxHeartbeats 4000000 in
set_option maxRecDepth 100000 in
theorem rX1_isTrue (l : Launch) (D : va_G) (aC : Nat → ClassId) {x0 : Nat} {w : kW} {oR : Int32} (h : fX1_isTrue x0 w = some oR) : kC l D aC yX1_isTrue cX1_isTrue 1 (some .boolean) 3 53 [.ref x0] w (some (.int oR)) w 0 0 := by
  refine kOf (own := RX1) (by decide) rfl (Nat.le_of_ble_eq_true rfl) ?_
  intro p e s m below meth c ls F hml hr hlocks hnm hX hZ hl
  obtain ⟨hx, hb, hts, hown, hK⟩ := id F
  have hl : lv_has ls 1 [(0, .ref x0)] := hl
  have hf := h
  rw [fX1_isTrue] at hf
  refine lv_aload_n hx hb (kd dtX1_isTrue_0 0 rfl) rfl (lv_at hl 0 rfl) ?_
  obtain ⟨v1, hv1, hf⟩ := kbind hf
  refine kgetI hv1 F hX hinX1 rfl rfl rfl (by decide) (by decide) wfX1_19 (kd dtX1_isTrue_0 1 rfl) ?_
  refine lv_iconst (v := (1 : Int32)) hx hb (kd dtX1_isTrue_0 2 rfl) (by decide) ?_
  refine lv_aload_n hx hb (kd dtX1_isTrue_0 3 rfl) rfl (lv_at hl 0 rfl) ?_
  refine lv_iconst (v := (0 : Int32)) hx hb (kd dtX1_isTrue_0 4 rfl) (by decide) ?_
  obtain ⟨b2, hb2, hf⟩ := kbind hf
  obtain ⟨hrb2, hkb2⟩ := kRc_s hb2
  obtain ⟨v4, h3, hf⟩ := kbind hf
  refine kcallV (n := 1) [.int (0 : Int32)] [.int (1 : Int32), .int v1] [.int v4, .int (1 : Int32), .int v1] (rX1_unlikeAt l D aC h3) hrb2 hkb2 F hml hX hZ hl.1 mwX1_unlikeAt wmX1_90 rfl (by decide) (by decide +kernel) ⟨(by decide), (by decide)⟩ rfl rfl rfl (Nat.le_of_ble_eq_true rfl) (kd dtX1_isTrue_0 5 rfl) ⟨Nat.zero_le _, Nat.zero_le _⟩ (fun H locs hX => ?_)
  refine lv_ishl hx hb (kd dtX1_isTrue_0 6 rfl) ?_
  refine lv_icmp_ne (tgt := 18) hx hb (kd dtX1_isTrue_0 7 rfl) (by decide) (fun hc => ?_) (fun hc => ?_)
  · have hf := kif_neg hc hf
    refine lv_iconst (v := (0 : Int32)) hx hb (kd dtX1_isTrue_0 10 rfl) (by decide) ?_
    obtain rfl := Option.some.inj hf
    exact kzret F hX hr hlocks rfl rfl (kd dtX1_isTrue_0 11 rfl)
  · have hf := kif_pos hc hf
    refine lv_iconst (v := (1 : Int32)) hx hb (kd dtX1_isTrue_0 8 rfl) (by decide) ?_
    refine lv_goto (tgt := 19) hx hb (kd dtX1_isTrue_0 9 rfl) (by decide) ?_
    obtain rfl := Option.some.inj hf
    exact kzret F hX hr hlocks rfl rfl (kd dtX1_isTrue_0 11 rfl)
def lX1_samePart_0 : List (Nat × Instr × Nat) := [(0, .aload_n 0, 1), (1, .iload_n 1, 1), (2, .invokevirtual 45, 3), (5, .iload_n 1, 1), (6, .isub, 1), (7, .istore 4, 2), (9, .aload_n 2, 1), (10, .iload_n 3, 1), (11, .invokevirtual 45, 3), (14, .iload_n 3, 1), (15, .isub, 1), (16, .iload 4, 2), (18, .if_icmp .eq 5, 3), (21, .iconst 0, 1), (22, .ireturn, 1), (23, .iconst 0, 1), (24, .istore 5, 2), (26, .iload 5, 2), (28, .iload 4, 2), (30, .if_icmp .ge 30, 3), (33, .aload_n 0, 1), (34, .iload_n 1, 1), (35, .iload 5, 2), (37, .iadd, 1), (38, .invokevirtual 49, 3), (41, .aload_n 2, 1), (42, .iload_n 3, 1), (43, .iload 5, 2), (45, .iadd, 1), (46, .invokevirtual 49, 3), (49, .if_icmp .eq 5, 3), (52, .iconst 0, 1), (53, .ireturn, 1), (54, .iinc 5 1, 3), (57, .goto (-31), 3), (60, .iconst 1, 1), (61, .ireturn, 1)]
theorem dtX1_samePart_0 : kDec cX1_samePart lX1_samePart_0 = true := by decide +kernel
noncomputable def fX1_samePart_L26 (x0 : Nat) (x1 : Int32) (x2 : Option Nat) (x3 : Int32) (x4 : Int32) (w : kW) : Nat → (Int32 → Option Int32) → Int32 → Option Int32
  | 0, _, _ => none
  | n + 1, k, x5 =>
  if x4 ≤ x5 then
  k x5
  else
  (kRc w 1 (some x0)).bind fun b1 =>
  (fX1_at b1 (x1 + x5) w).bind fun v3 =>
  (kRc w 1 x2).bind fun b4 =>
  (fX1_at b4 (x3 + x5) w).bind fun v6 =>
  if v3 = v6 then
  fX1_samePart_L26 x0 x1 x2 x3 x4 w n k (x5 + (1 : Int32))
  else
  some (0 : Int32)

noncomputable def fX1_samePart (x0 : Nat) (x1 : Int32) (x2 : Option Nat) (x3 : Int32) (w : kW) : Option Int32 :=
  (kRc w 1 (some x0)).bind fun b1 =>
  (fX1_endAt b1 x1 w).bind fun v3 =>
  (kRc w 1 x2).bind fun b4 =>
  (fX1_endAt b4 x3 w).bind fun v6 =>
  if (v6 - x3) = (v3 - x1) then
  fX1_samePart_L26 x0 x1 x2 x3 (v3 - x1) w kFU (fun y5_7 => some (1 : Int32)) (0 : Int32)
  else
  some (0 : Int32)

set_option maxHeartbeats 4000000 in
set_option maxRecDepth 100000 in
theorem rX1_samePart (l : Launch) (D : va_G) (aC : Nat → ClassId) {x0 : Nat} {x1 : Int32} {x2 : Option Nat} {x3 : Int32} {w : kW} {oR : Int32} (h : fX1_samePart x0 x1 x2 x3 w = some oR) : kC l D aC yX1_samePart cX1_samePart 6 (some .boolean) 2 33 [.ref x0, .int x1, va_rf x2, .int x3] w (some (.int oR)) w 0 0 := by
  refine kOf (own := RX1) (by decide) rfl (by simp [lg_sl, kcat_rf, kcat_i, kcat_r, kcat_l]) ?_
  intro p e s m below meth c ls F hml hr hlocks hnm hX hZ hl
  obtain ⟨hx, hb, hts, hown, hK⟩ := id F
  have hl : lv_has ls 6 [(0, .ref x0), (1, .int x1), (2, va_rf x2), (3, .int x3)] := by simpa [lv_args, kcat_rf, kcat_i, kcat_r, kcat_l] using hl
  have hf := h
  rw [fX1_samePart] at hf
  refine lv_aload_n hx hb (kd dtX1_samePart_0 0 rfl) rfl (lv_at hl 0 rfl) ?_
  refine lv_iload_n hx hb (kd dtX1_samePart_0 1 rfl) rfl (lv_at hl 1 rfl) ?_
  obtain ⟨b1, hb1, hf⟩ := kbind hf
  obtain ⟨hrb1, hkb1⟩ := kRc_s hb1
  obtain ⟨v3, h2, hf⟩ := kbind hf
  refine kcallV (n := 1) [.int x1] [] [.int v3] (rX1_endAt l D aC h2) hrb1 hkb1 F hml hX hZ hl.1 mwX1_endAt wmX1_45 rfl (by decide) (by decide +kernel) ⟨(by decide), (by decide)⟩ rfl rfl rfl (Nat.le_of_ble_eq_true rfl) (kd dtX1_samePart_0 2 rfl) ⟨Nat.zero_le _, Nat.zero_le _⟩ (fun H locs hX => ?_)
  refine lv_iload_n hx hb (kd dtX1_samePart_0 3 rfl) rfl (lv_at hl 1 rfl) ?_
  refine lv_isub hx hb (kd dtX1_samePart_0 4 rfl) ?_
  refine lv_istore (lv' := [(4, .int (v3 - x1)), (0, .ref x0), (1, .int x1), (2, va_rf x2), (3, .int x3)]) hx hb (kd dtX1_samePart_0 5 rfl) hl (by decide) rfl (fun ls hl => ?_)
  refine kaload_n hx hb (kd dtX1_samePart_0 6 rfl) rfl (lv_at hl 3 rfl) ?_
  refine lv_iload_n hx hb (kd dtX1_samePart_0 7 rfl) rfl (lv_at hl 4 rfl) ?_
  obtain ⟨b4, hb4, hf⟩ := kbind hf
  obtain ⟨hrb4, hkb4⟩ := kRc_s hb4
  obtain ⟨v6, h5, hf⟩ := kbind hf
  refine kcallV (n := 1) [.int x3] [] [.int v6] (rX1_endAt l D aC h5) hrb4 hkb4 F hml hX hZ hl.1 mwX1_endAt wmX1_45 rfl (by decide) (by decide +kernel) ⟨(by decide), (by decide)⟩ rfl rfl rfl (Nat.le_of_ble_eq_true rfl) (kd dtX1_samePart_0 8 rfl) ⟨Nat.zero_le _, Nat.zero_le _⟩ (fun H locs hX => ?_)
  refine lv_iload_n hx hb (kd dtX1_samePart_0 9 rfl) rfl (lv_at hl 4 rfl) ?_
  refine lv_isub hx hb (kd dtX1_samePart_0 10 rfl) ?_
  refine lv_iload hx hb (kd dtX1_samePart_0 11 rfl) (lv_at hl 0 rfl) ?_
  refine lv_icmp_eq (tgt := 23) hx hb (kd dtX1_samePart_0 12 rfl) (by decide) (fun hc => ?_) (fun hc => ?_)
  · have hf := kif_pos hc hf
    refine lv_iconst (v := (0 : Int32)) hx hb (kd dtX1_samePart_0 15 rfl) (by decide) ?_
    refine lv_istore (lv' := [(5, .int (0 : Int32)), (4, .int (v3 - x1)), (0, .ref x0), (1, .int x1), (2, va_rf x2), (3, .int x3)]) hx hb (kd dtX1_samePart_0 16 rfl) hl (by decide) rfl (fun ls hl => ?_)
    have hL26 : ∀ (n : Nat) (k : Int32 → Option Int32), ∀ (z5_26 : Int32) (H : Heap) (locs : List Loc) (ls : Array Slot), kX D aC w s.heap w H locs → lv_has ls 6 [(0, .ref x0), (1, .int x1), (2, va_rf x2), (3, .int x3), (4, .int (v3 - x1)), (5, .int z5_26)] → fX1_samePart_L26 x0 x1 x2 x3 (v3 - x1) w n k z5_26 = some oR → (∀ (z5_26 : Int32) (H : Heap) (locs : List Loc) (ls : Array Slot), kX D aC w s.heap w H locs → lv_has ls 6 [(0, .ref x0), (1, .int x1), (2, va_rf x2), (3, .int x3), (4, .int (v3 - x1)), (5, .int z5_26)] → k z5_26 = some oR → W p l e { frames := 2, cells := 0, slots := 0, locals := 33 } s m ([.ref x0, .int x1, va_rf x2, .int x3] : List Value).toArray below meth c H locs 0 0 (MQ below (kQc D aC w (some (.int oR)) w) ([.ref x0, .int x1, va_rf x2, .int x3] : List Value).toArray s 0 0 (kA w)) (F0 m 60 ls [])) → W p l e { frames := 2, cells := 0, slots := 0, locals := 33 } s m ([.ref x0, .int x1, va_rf x2, .int x3] : List Value).toArray below meth c H locs 0 0 (MQ below (kQc D aC w (some (.int oR)) w) ([.ref x0, .int x1, va_rf x2, .int x3] : List Value).toArray s 0 0 (kA w)) (F0 m 26 ls []) := by
      intro n k
      induction n with
      | zero =>
        intro z5_26 H locs ls hX hl hf hk
        rw [fX1_samePart_L26] at hf
        cases hf
      | succ n ih =>
        intro z5_26 H locs ls hX hl hf hk
        rw [fX1_samePart_L26] at hf
        refine lv_iload hx hb (kd dtX1_samePart_0 17 rfl) (lv_at hl 5 rfl) ?_
        refine lv_iload hx hb (kd dtX1_samePart_0 18 rfl) (lv_at hl 4 rfl) ?_
        refine lv_icmp_ge (tgt := 60) hx hb (kd dtX1_samePart_0 19 rfl) (by decide) (fun hc => ?_) (fun hc => ?_)
        · have hf := kif_pos hc hf
          exact hk z5_26 _ _ _ hX hl hf
        · have hf := kif_neg hc hf
          refine lv_aload_n hx hb (kd dtX1_samePart_0 20 rfl) rfl (lv_at hl 0 rfl) ?_
          refine lv_iload_n hx hb (kd dtX1_samePart_0 21 rfl) rfl (lv_at hl 1 rfl) ?_
          refine lv_iload hx hb (kd dtX1_samePart_0 22 rfl) (lv_at hl 5 rfl) ?_
          refine lv_iadd hx hb (kd dtX1_samePart_0 23 rfl) ?_
          obtain ⟨b8, hb8, hf⟩ := kbind hf
          obtain ⟨hrb8, hkb8⟩ := kRc_s hb8
          obtain ⟨v10, h9, hf⟩ := kbind hf
          refine kcallV (n := 1) [.int (x1 + z5_26)] [] [.int v10] (rX1_at l D aC h9) hrb8 hkb8 F hml hX hZ hl.1 mwX1_at wmX1_49 rfl (by decide) (by decide +kernel) ⟨(by decide), (by decide)⟩ rfl rfl rfl (Nat.le_of_ble_eq_true rfl) (kd dtX1_samePart_0 24 rfl) ⟨Nat.zero_le _, Nat.zero_le _⟩ (fun H locs hX => ?_)
          refine kaload_n hx hb (kd dtX1_samePart_0 25 rfl) rfl (lv_at hl 2 rfl) ?_
          refine lv_iload_n hx hb (kd dtX1_samePart_0 26 rfl) rfl (lv_at hl 3 rfl) ?_
          refine lv_iload hx hb (kd dtX1_samePart_0 27 rfl) (lv_at hl 5 rfl) ?_
          refine lv_iadd hx hb (kd dtX1_samePart_0 28 rfl) ?_
          obtain ⟨b11, hb11, hf⟩ := kbind hf
          obtain ⟨hrb11, hkb11⟩ := kRc_s hb11
          obtain ⟨v13, h12, hf⟩ := kbind hf
          refine kcallV (n := 1) [.int (x3 + z5_26)] [.int v10] [.int v13, .int v10] (rX1_at l D aC h12) hrb11 hkb11 F hml hX hZ hl.1 mwX1_at wmX1_49 rfl (by decide) (by decide +kernel) ⟨(by decide), (by decide)⟩ rfl rfl rfl (Nat.le_of_ble_eq_true rfl) (kd dtX1_samePart_0 29 rfl) ⟨Nat.zero_le _, Nat.zero_le _⟩ (fun H locs hX => ?_)
          refine lv_icmp_eq (tgt := 54) hx hb (kd dtX1_samePart_0 30 rfl) (by decide) (fun hc => ?_) (fun hc => ?_)
          · have hf := kif_pos hc hf
            refine lv_iinc (v := z5_26 + (1 : Int32)) (lv' := [(5, .int (z5_26 + (1 : Int32))), (0, .ref x0), (1, .int x1), (2, va_rf x2), (3, .int x3), (4, .int (v3 - x1))]) hx hb (kd dtX1_samePart_0 33 rfl) hl (k := 5) rfl (by rfl) (by decide) rfl (fun ls hl => ?_)
            refine lv_goto (tgt := 26) hx hb (kd dtX1_samePart_0 34 rfl) (by decide) ?_
            exact ih (z5_26 + (1 : Int32)) _ _ _ hX (lv_sub hl [1, 2, 3, 4, 5, 0] rfl) hf hk
          · have hf := kif_neg hc hf
            refine lv_iconst (v := (0 : Int32)) hx hb (kd dtX1_samePart_0 31 rfl) (by decide) ?_
            obtain rfl := Option.some.inj hf
            exact kzret F hX hr hlocks rfl rfl (kd dtX1_samePart_0 32 rfl)
    refine hL26 kFU _ (0 : Int32) _ _ _ hX (lv_sub hl [2, 3, 4, 5, 1, 0] rfl) hf ?_
    intro y5_7 H locs ls hX hl hf
    refine lv_iconst (v := (1 : Int32)) hx hb (kd dtX1_samePart_0 35 rfl) (by decide) ?_
    obtain rfl := Option.some.inj hf
    exact kzret F hX hr hlocks rfl rfl (kd dtX1_samePart_0 36 rfl)
  · have hf := kif_neg hc hf
    refine lv_iconst (v := (0 : Int32)) hx hb (kd dtX1_samePart_0 13 rfl) (by decide) ?_
    obtain rfl := Option.some.inj hf
    exact kzret F hX hr hlocks rfl rfl (kd dtX1_samePart_0 14 rfl)
def lX1_isLike_0 : List (Nat × Instr × Nat) := [(0, .aload_n 0, 1), (1, .iload_n 1, 1), (2, .invokevirtual 81, 3), (5, .aload_n 2, 1), (6, .iload_n 3, 1), (7, .invokevirtual 81, 3), (10, .if_icmp .ne 33, 3), (13, .aload_n 0, 1), (14, .iload_n 1, 1), (15, .invokevirtual 84, 3), (18, .aload_n 2, 1), (19, .iload_n 3, 1), (20, .invokevirtual 84, 3), (23, .if_icmp .ne 20, 3), (26, .aload_n 0, 1), (27, .iload_n 1, 1), (28, .invokevirtual 90, 3), (31, .aload_n 2, 1), (32, .iload_n 3, 1), (33, .invokevirtual 90, 3), (36, .if_icmp .ne 7, 3), (39, .iconst 1, 1), (40, .goto 4, 3), (43, .iconst 0, 1), (44, .ireturn, 1)]
theorem dtX1_isLike_0 : kDec cX1_isLike lX1_isLike_0 = true := by decide +kernel
noncomputable def fX1_isLike (x0 : Nat) (x1 : Int32) (x2 : Option Nat) (x3 : Int32) (w : kW) : Option Int32 :=
  (kRc w 1 (some x0)).bind fun b1 =>
  (fX1_levelAt b1 x1 w).bind fun v3 =>
  (kRc w 1 x2).bind fun b4 =>
  (fX1_levelAt b4 x3 w).bind fun v6 =>
  if v3 = v6 then
  (kRc w 1 (some x0)).bind fun b7 =>
  (fX1_placesAt b7 x1 w).bind fun v9 =>
  (kRc w 1 x2).bind fun b10 =>
  (fX1_placesAt b10 x3 w).bind fun v12 =>
  if v9 = v12 then
  (kRc w 1 (some x0)).bind fun b13 =>
  (fX1_unlikeAt b13 x1 w).bind fun v15 =>
  (kRc w 1 x2).bind fun b16 =>
  (fX1_unlikeAt b16 x3 w).bind fun v18 =>
  if v15 = v18 then
  some (1 : Int32)
  else
  some (0 : Int32)
  else
  some (0 : Int32)
  else
  some (0 : Int32)

set_option maxHeartbeats 4000000 in
set_option maxRecDepth 100000 in
theorem rX1_isLike (l : Launch) (D : va_G) (aC : Nat → ClassId) {x0 : Nat} {x1 : Int32} {x2 : Option Nat} {x3 : Int32} {w : kW} {oR : Int32} (h : fX1_isLike x0 x1 x2 x3 w = some oR) : kC l D aC yX1_isLike cX1_isLike 4 (some .boolean) 3 53 [.ref x0, .int x1, va_rf x2, .int x3] w (some (.int oR)) w 0 0 := by
  refine kOf (own := RX1) (by decide) rfl (by simp [lg_sl, kcat_rf, kcat_i, kcat_r, kcat_l]) ?_
  intro p e s m below meth c ls F hml hr hlocks hnm hX hZ hl
  obtain ⟨hx, hb, hts, hown, hK⟩ := id F
  have hl : lv_has ls 4 [(0, .ref x0), (1, .int x1), (2, va_rf x2), (3, .int x3)] := by simpa [lv_args, kcat_rf, kcat_i, kcat_r, kcat_l] using hl
  have hf := h
  rw [fX1_isLike] at hf
  refine lv_aload_n hx hb (kd dtX1_isLike_0 0 rfl) rfl (lv_at hl 0 rfl) ?_
  refine lv_iload_n hx hb (kd dtX1_isLike_0 1 rfl) rfl (lv_at hl 1 rfl) ?_
  obtain ⟨b1, hb1, hf⟩ := kbind hf
  obtain ⟨hrb1, hkb1⟩ := kRc_s hb1
  obtain ⟨v3, h2, hf⟩ := kbind hf
  refine kcallV (n := 1) [.int x1] [] [.int v3] (rX1_levelAt l D aC h2) hrb1 hkb1 F hml hX hZ hl.1 mwX1_levelAt wmX1_81 rfl (by decide) (by decide +kernel) ⟨(by decide), (by decide)⟩ rfl rfl rfl (Nat.le_of_ble_eq_true rfl) (kd dtX1_isLike_0 2 rfl) ⟨Nat.zero_le _, Nat.zero_le _⟩ (fun H locs hX => ?_)
  refine kaload_n hx hb (kd dtX1_isLike_0 3 rfl) rfl (lv_at hl 2 rfl) ?_
  refine lv_iload_n hx hb (kd dtX1_isLike_0 4 rfl) rfl (lv_at hl 3 rfl) ?_
  obtain ⟨b4, hb4, hf⟩ := kbind hf
  obtain ⟨hrb4, hkb4⟩ := kRc_s hb4
  obtain ⟨v6, h5, hf⟩ := kbind hf
  refine kcallV (n := 1) [.int x3] [.int v3] [.int v6, .int v3] (rX1_levelAt l D aC h5) hrb4 hkb4 F hml hX hZ hl.1 mwX1_levelAt wmX1_81 rfl (by decide) (by decide +kernel) ⟨(by decide), (by decide)⟩ rfl rfl rfl (Nat.le_of_ble_eq_true rfl) (kd dtX1_isLike_0 5 rfl) ⟨Nat.zero_le _, Nat.zero_le _⟩ (fun H locs hX => ?_)
  refine lv_icmp_ne (tgt := 43) hx hb (kd dtX1_isLike_0 6 rfl) (by decide) (fun hc => ?_) (fun hc => ?_)
  · have hf := kif_neg hc hf
    refine lv_iconst (v := (0 : Int32)) hx hb (kd dtX1_isLike_0 23 rfl) (by decide) ?_
    obtain rfl := Option.some.inj hf
    exact kzret F hX hr hlocks rfl rfl (kd dtX1_isLike_0 24 rfl)
  · have hf := kif_pos hc hf
    refine lv_aload_n hx hb (kd dtX1_isLike_0 7 rfl) rfl (lv_at hl 0 rfl) ?_
    refine lv_iload_n hx hb (kd dtX1_isLike_0 8 rfl) rfl (lv_at hl 1 rfl) ?_
    obtain ⟨b7, hb7, hf⟩ := kbind hf
    obtain ⟨hrb7, hkb7⟩ := kRc_s hb7
    obtain ⟨v9, h8, hf⟩ := kbind hf
    refine kcallV (n := 1) [.int x1] [] [.int v9] (rX1_placesAt l D aC h8) hrb7 hkb7 F hml hX hZ hl.1 mwX1_placesAt wmX1_84 rfl (by decide) (by decide +kernel) ⟨(by decide), (by decide)⟩ rfl rfl rfl (Nat.le_of_ble_eq_true rfl) (kd dtX1_isLike_0 9 rfl) ⟨Nat.zero_le _, Nat.zero_le _⟩ (fun H locs hX => ?_)
    refine kaload_n hx hb (kd dtX1_isLike_0 10 rfl) rfl (lv_at hl 2 rfl) ?_
    refine lv_iload_n hx hb (kd dtX1_isLike_0 11 rfl) rfl (lv_at hl 3 rfl) ?_
    obtain ⟨b10, hb10, hf⟩ := kbind hf
    obtain ⟨hrb10, hkb10⟩ := kRc_s hb10
    obtain ⟨v12, h11, hf⟩ := kbind hf
    refine kcallV (n := 1) [.int x3] [.int v9] [.int v12, .int v9] (rX1_placesAt l D aC h11) hrb10 hkb10 F hml hX hZ hl.1 mwX1_placesAt wmX1_84 rfl (by decide) (by decide +kernel) ⟨(by decide), (by decide)⟩ rfl rfl rfl (Nat.le_of_ble_eq_true rfl) (kd dtX1_isLike_0 12 rfl) ⟨Nat.zero_le _, Nat.zero_le _⟩ (fun H locs hX => ?_)
    refine lv_icmp_ne (tgt := 43) hx hb (kd dtX1_isLike_0 13 rfl) (by decide) (fun hc => ?_) (fun hc => ?_)
    · have hf := kif_neg hc hf
      refine lv_iconst (v := (0 : Int32)) hx hb (kd dtX1_isLike_0 23 rfl) (by decide) ?_
      obtain rfl := Option.some.inj hf
      exact kzret F hX hr hlocks rfl rfl (kd dtX1_isLike_0 24 rfl)
    · have hf := kif_pos hc hf
      refine lv_aload_n hx hb (kd dtX1_isLike_0 14 rfl) rfl (lv_at hl 0 rfl) ?_
      refine lv_iload_n hx hb (kd dtX1_isLike_0 15 rfl) rfl (lv_at hl 1 rfl) ?_
      obtain ⟨b13, hb13, hf⟩ := kbind hf
      obtain ⟨hrb13, hkb13⟩ := kRc_s hb13
      obtain ⟨v15, h14, hf⟩ := kbind hf
      refine kcallV (n := 1) [.int x1] [] [.int v15] (rX1_unlikeAt l D aC h14) hrb13 hkb13 F hml hX hZ hl.1 mwX1_unlikeAt wmX1_90 rfl (by decide) (by decide +kernel) ⟨(by decide), (by decide)⟩ rfl rfl rfl (Nat.le_of_ble_eq_true rfl) (kd dtX1_isLike_0 16 rfl) ⟨Nat.zero_le _, Nat.zero_le _⟩ (fun H locs hX => ?_)
      refine kaload_n hx hb (kd dtX1_isLike_0 17 rfl) rfl (lv_at hl 2 rfl) ?_
      refine lv_iload_n hx hb (kd dtX1_isLike_0 18 rfl) rfl (lv_at hl 3 rfl) ?_
      obtain ⟨b16, hb16, hf⟩ := kbind hf
      obtain ⟨hrb16, hkb16⟩ := kRc_s hb16
      obtain ⟨v18, h17, hf⟩ := kbind hf
      refine kcallV (n := 1) [.int x3] [.int v15] [.int v18, .int v15] (rX1_unlikeAt l D aC h17) hrb16 hkb16 F hml hX hZ hl.1 mwX1_unlikeAt wmX1_90 rfl (by decide) (by decide +kernel) ⟨(by decide), (by decide)⟩ rfl rfl rfl (Nat.le_of_ble_eq_true rfl) (kd dtX1_isLike_0 19 rfl) ⟨Nat.zero_le _, Nat.zero_le _⟩ (fun H locs hX => ?_)
      refine lv_icmp_ne (tgt := 43) hx hb (kd dtX1_isLike_0 20 rfl) (by decide) (fun hc => ?_) (fun hc => ?_)
      · have hf := kif_neg hc hf
        refine lv_iconst (v := (0 : Int32)) hx hb (kd dtX1_isLike_0 23 rfl) (by decide) ?_
        obtain rfl := Option.some.inj hf
        exact kzret F hX hr hlocks rfl rfl (kd dtX1_isLike_0 24 rfl)
      · have hf := kif_pos hc hf
        refine lv_iconst (v := (1 : Int32)) hx hb (kd dtX1_isLike_0 21 rfl) (by decide) ?_
        refine lv_goto (tgt := 44) hx hb (kd dtX1_isLike_0 22 rfl) (by decide) ?_
        obtain rfl := Option.some.inj hf
        exact kzret F hX hr hlocks rfl rfl (kd dtX1_isLike_0 24 rfl)
def lX1_has_0 : List (Nat × Instr × Nat) := [(0, .iconst 0, 1), (1, .istore_n 2, 1), (2, .iload_n 2, 1), (3, .aload_n 0, 1), (4, .getfield 9, 3), (7, .if_icmp .ge 20, 3), (10, .aload_n 0, 1), (11, .iload_n 2, 1), (12, .invokevirtual 49, 3), (15, .iload_n 1, 1), (16, .if_icmp .ne 5, 3), (19, .iconst 1, 1), (20, .ireturn, 1), (21, .iinc 2 1, 3), (24, .goto (-22), 3), (27, .iconst 0, 1), (28, .ireturn, 1)]
theorem dtX1_has_0 : kDec cX1_has lX1_has_0 = true := by decide +kernel
noncomputable def fX1_has_L2 (x0 : Nat) (x1 : Int32) (w : kW) : Nat → (Int32 → Option Int32) → Int32 → Option Int32
  | 0, _, _ => none
  | n + 1, k, x2 =>
  (kgI w 1 (some x0) 5).bind fun v1 =>
  if v1 ≤ x2 then
  k x2
  else
  (kRc w 1 (some x0)).bind fun b2 =>
  (fX1_at b2 x2 w).bind fun v4 =>
  if v4 = x1 then
  some (1 : Int32)
  else
  fX1_has_L2 x0 x1 w n k (x2 + (1 : Int32))

noncomputable def fX1_has (x0 : Nat) (x1 : Int32) (w : kW) : Option Int32 :=
  fX1_has_L2 x0 x1 w kFU (fun y2_1 => some (0 : Int32)) (0 : Int32)

set_option maxHeartbeats 4000000 in
set_option maxRecDepth 100000 in
theorem rX1_has (l : Launch) (D : va_G) (aC : Nat → ClassId) {x0 : Nat} {x1 : Int32} {w : kW} {oR : Int32} (h : fX1_has x0 x1 w = some oR) : kC l D aC yX1_has cX1_has 3 (some .boolean) 2 33 [.ref x0, .int x1] w (some (.int oR)) w 0 0 := by
  refine kOf (own := RX1) (by decide) rfl (Nat.le_of_ble_eq_true rfl) ?_
  intro p e s m below meth c ls F hml hr hlocks hnm hX hZ hl
  obtain ⟨hx, hb, hts, hown, hK⟩ := id F
  have hl : lv_has ls 3 [(0, .ref x0), (1, .int x1)] := hl
  have hf := h
  rw [fX1_has] at hf
  refine lv_iconst (v := (0 : Int32)) hx hb (kd dtX1_has_0 0 rfl) (by decide) ?_
  refine lv_istore_n (lv' := [(2, .int (0 : Int32)), (0, .ref x0), (1, .int x1)]) hx hb (kd dtX1_has_0 1 rfl) rfl hl (by decide) rfl (fun ls hl => ?_)
  have hL2 : ∀ (n : Nat) (k : Int32 → Option Int32), ∀ (z2_2 : Int32) (H : Heap) (locs : List Loc) (ls : Array Slot), kX D aC w s.heap w H locs → lv_has ls 3 [(0, .ref x0), (1, .int x1), (2, .int z2_2)] → fX1_has_L2 x0 x1 w n k z2_2 = some oR → (∀ (z2_2 : Int32) (H : Heap) (locs : List Loc) (ls : Array Slot), kX D aC w s.heap w H locs → lv_has ls 3 [(0, .ref x0), (1, .int x1), (2, .int z2_2)] → k z2_2 = some oR → W p l e { frames := 2, cells := 0, slots := 0, locals := 33 } s m ([.ref x0, .int x1] : List Value).toArray below meth c H locs 0 0 (MQ below (kQc D aC w (some (.int oR)) w) ([.ref x0, .int x1] : List Value).toArray s 0 0 (kA w)) (F0 m 27 ls [])) → W p l e { frames := 2, cells := 0, slots := 0, locals := 33 } s m ([.ref x0, .int x1] : List Value).toArray below meth c H locs 0 0 (MQ below (kQc D aC w (some (.int oR)) w) ([.ref x0, .int x1] : List Value).toArray s 0 0 (kA w)) (F0 m 2 ls []) := by
    intro n k
    induction n with
    | zero =>
      intro z2_2 H locs ls hX hl hf hk
      rw [fX1_has_L2] at hf
      cases hf
    | succ n ih =>
      intro z2_2 H locs ls hX hl hf hk
      rw [fX1_has_L2] at hf
      refine lv_iload_n hx hb (kd dtX1_has_0 2 rfl) rfl (lv_at hl 2 rfl) ?_
      refine lv_aload_n hx hb (kd dtX1_has_0 3 rfl) rfl (lv_at hl 0 rfl) ?_
      obtain ⟨v2, hv2, hf⟩ := kbind hf
      refine kgetI hv2 F hX hinX1 rfl rfl rfl (by decide) (by decide) wfX1_9 (kd dtX1_has_0 4 rfl) ?_
      refine lv_icmp_ge (tgt := 27) hx hb (kd dtX1_has_0 5 rfl) (by decide) (fun hc => ?_) (fun hc => ?_)
      · have hf := kif_pos hc hf
        exact hk z2_2 _ _ _ hX hl hf
      · have hf := kif_neg hc hf
        refine lv_aload_n hx hb (kd dtX1_has_0 6 rfl) rfl (lv_at hl 0 rfl) ?_
        refine lv_iload_n hx hb (kd dtX1_has_0 7 rfl) rfl (lv_at hl 2 rfl) ?_
        obtain ⟨b3, hb3, hf⟩ := kbind hf
        obtain ⟨hrb3, hkb3⟩ := kRc_s hb3
        obtain ⟨v5, h4, hf⟩ := kbind hf
        refine kcallV (n := 1) [.int z2_2] [] [.int v5] (rX1_at l D aC h4) hrb3 hkb3 F hml hX hZ hl.1 mwX1_at wmX1_49 rfl (by decide) (by decide +kernel) ⟨(by decide), (by decide)⟩ rfl rfl rfl (Nat.le_of_ble_eq_true rfl) (kd dtX1_has_0 8 rfl) ⟨Nat.zero_le _, Nat.zero_le _⟩ (fun H locs hX => ?_)
        refine lv_iload_n hx hb (kd dtX1_has_0 9 rfl) rfl (lv_at hl 1 rfl) ?_
        refine lv_icmp_ne (tgt := 21) hx hb (kd dtX1_has_0 10 rfl) (by decide) (fun hc => ?_) (fun hc => ?_)
        · have hf := kif_neg hc hf
          refine lv_iinc (v := z2_2 + (1 : Int32)) (lv' := [(2, .int (z2_2 + (1 : Int32))), (0, .ref x0), (1, .int x1)]) hx hb (kd dtX1_has_0 13 rfl) hl (k := 2) rfl (by rfl) (by decide) rfl (fun ls hl => ?_)
          refine lv_goto (tgt := 2) hx hb (kd dtX1_has_0 14 rfl) (by decide) ?_
          exact ih (z2_2 + (1 : Int32)) _ _ _ hX (lv_sub hl [1, 2, 0] rfl) hf hk
        · have hf := kif_pos hc hf
          refine lv_iconst (v := (1 : Int32)) hx hb (kd dtX1_has_0 11 rfl) (by decide) ?_
          obtain rfl := Option.some.inj hf
          exact kzret F hX hr hlocks rfl rfl (kd dtX1_has_0 12 rfl)
  refine hL2 kFU _ (0 : Int32) _ _ _ hX (lv_sub hl [1, 2, 0] rfl) hf ?_
  intro y2_1 H locs ls hX hl hf
  refine lv_iconst (v := (0 : Int32)) hx hb (kd dtX1_has_0 15 rfl) (by decide) ?_
  obtain rfl := Option.some.inj hf
  exact kzret F hX hr hlocks rfl rfl (kd dtX1_has_0 16 rfl)
def lX1_isIf_0 : List (Nat × Instr × Nat) := [(0, .aload_n 0, 1), (1, .iconst 0, 1), (2, .invokevirtual 49, 3), (5, .bipush 62, 2), (7, .if_icmp .ne 7, 3), (10, .iconst 1, 1), (11, .goto 4, 3), (14, .iconst 0, 1), (15, .ireturn, 1)]
theorem dtX1_isIf_0 : kDec cX1_isIf lX1_isIf_0 = true := by decide +kernel
noncomputable def fX1_isIf (x0 : Nat) (w : kW) : Option Int32 :=
  (kRc w 1 (some x0)).bind fun b1 =>
  (fX1_at b1 (0 : Int32) w).bind fun v3 =>
  if v3 = (62 : Int32) then
  some (1 : Int32)
  else
  some (0 : Int32)

set_option maxHeartbeats 4000000 in
set_option maxRecDepth 100000 in
theorem rX1_isIf (l : Launch) (D : va_G) (aC : Nat → ClassId) {x0 : Nat} {w : kW} {oR : Int32} (h : fX1_isIf x0 w = some oR) : kC l D aC yX1_isIf cX1_isIf 1 (some .boolean) 2 33 [.ref x0] w (some (.int oR)) w 0 0 := by
  refine kOf (own := RX1) (by decide) rfl (Nat.le_of_ble_eq_true rfl) ?_
  intro p e s m below meth c ls F hml hr hlocks hnm hX hZ hl
  obtain ⟨hx, hb, hts, hown, hK⟩ := id F
  have hl : lv_has ls 1 [(0, .ref x0)] := hl
  have hf := h
  rw [fX1_isIf] at hf
  refine lv_aload_n hx hb (kd dtX1_isIf_0 0 rfl) rfl (lv_at hl 0 rfl) ?_
  refine lv_iconst (v := (0 : Int32)) hx hb (kd dtX1_isIf_0 1 rfl) (by decide) ?_
  obtain ⟨b1, hb1, hf⟩ := kbind hf
  obtain ⟨hrb1, hkb1⟩ := kRc_s hb1
  obtain ⟨v3, h2, hf⟩ := kbind hf
  refine kcallV (n := 1) [.int (0 : Int32)] [] [.int v3] (rX1_at l D aC h2) hrb1 hkb1 F hml hX hZ hl.1 mwX1_at wmX1_49 rfl (by decide) (by decide +kernel) ⟨(by decide), (by decide)⟩ rfl rfl rfl (Nat.le_of_ble_eq_true rfl) (kd dtX1_isIf_0 2 rfl) ⟨Nat.zero_le _, Nat.zero_le _⟩ (fun H locs hX => ?_)
  refine lv_bipush (v := (62 : Int32)) hx hb (kd dtX1_isIf_0 3 rfl) (by decide) ?_
  refine lv_icmp_ne (tgt := 14) hx hb (kd dtX1_isIf_0 4 rfl) (by decide) (fun hc => ?_) (fun hc => ?_)
  · have hf := kif_neg hc hf
    refine lv_iconst (v := (0 : Int32)) hx hb (kd dtX1_isIf_0 7 rfl) (by decide) ?_
    obtain rfl := Option.some.inj hf
    exact kzret F hX hr hlocks rfl rfl (kd dtX1_isIf_0 8 rfl)
  · have hf := kif_pos hc hf
    refine lv_iconst (v := (1 : Int32)) hx hb (kd dtX1_isIf_0 5 rfl) (by decide) ?_
    refine lv_goto (tgt := 15) hx hb (kd dtX1_isIf_0 6 rfl) (by decide) ?_
    obtain rfl := Option.some.inj hf
    exact kzret F hX hr hlocks rfl rfl (kd dtX1_isIf_0 8 rfl)
def lX1_second_0 : List (Nat × Instr × Nat) := [(0, .aload_n 0, 1), (1, .iconst 1, 1), (2, .invokevirtual 45, 3), (5, .ireturn, 1)]
theorem dtX1_second_0 : kDec cX1_second lX1_second_0 = true := by decide +kernel
noncomputable def fX1_second (x0 : Nat) (w : kW) : Option Int32 :=
  (kRc w 1 (some x0)).bind fun b1 =>
  (fX1_endAt b1 (1 : Int32) w).bind fun v3 =>
  some v3

set_option maxHeartbeats 4000000 in
set_option maxRecDepth 100000 in
theorem rX1_second (l : Launch) (D : va_G) (aC : Nat → ClassId) {x0 : Nat} {w : kW} {oR : Int32} (h : fX1_second x0 w = some oR) : kC l D aC yX1_second cX1_second 1 (some .int) 2 33 [.ref x0] w (some (.int oR)) w 0 0 := by
  refine kOf (own := RX1) (by decide) rfl (Nat.le_of_ble_eq_true rfl) ?_
  intro p e s m below meth c ls F hml hr hlocks hnm hX hZ hl
  obtain ⟨hx, hb, hts, hown, hK⟩ := id F
  have hl : lv_has ls 1 [(0, .ref x0)] := hl
  have hf := h
  rw [fX1_second] at hf
  refine lv_aload_n hx hb (kd dtX1_second_0 0 rfl) rfl (lv_at hl 0 rfl) ?_
  refine lv_iconst (v := (1 : Int32)) hx hb (kd dtX1_second_0 1 rfl) (by decide) ?_
  obtain ⟨b1, hb1, hf⟩ := kbind hf
  obtain ⟨hrb1, hkb1⟩ := kRc_s hb1
  obtain ⟨v3, h2, hf⟩ := kbind hf
  refine kcallV (n := 1) [.int (1 : Int32)] [] [.int v3] (rX1_endAt l D aC h2) hrb1 hkb1 F hml hX hZ hl.1 mwX1_endAt wmX1_45 rfl (by decide) (by decide +kernel) ⟨(by decide), (by decide)⟩ rfl rfl rfl (Nat.le_of_ble_eq_true rfl) (kd dtX1_second_0 2 rfl) ⟨Nat.zero_le _, Nat.zero_le _⟩ (fun H locs hX => ?_)
  obtain rfl := Option.some.inj hf
  exact kiret F hX hr hlocks rfl (kd dtX1_second_0 3 rfl)
