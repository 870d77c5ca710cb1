theorem wmX12_319 : Cond.methodLink RX12 319 yX12_findHeights ∈ kT := kTm 1644 (by decide +kernel) rfl
theorem mwX12_findHeights : kMV RX12 yX12_findHeights cX12_findHeights 4 none := ⟨kTm 1647 (by decide +kernel) rfl, kTm 106 (by decide +kernel) rfl, kTm 1646 (by decide +kernel) rfl, kTm 86 (by decide +kernel) rfl⟩
def lX12_height_0 : List (Nat × Instr × Nat) := [(0, .aload_n 0, 1), (1, .iload_n 1, 1), (2, .invokevirtual 127, 3), (5, .ifCond .ne 5, 3), (8, .iconst (-1), 1), (9, .ireturn, 1), (10, .aload_n 0, 1), (11, .invokevirtual 319, 3), (14, .aload_n 0, 1), (15, .getfield 58, 3), (18, .iload_n 1, 1), (19, .iaload, 1), (20, .ireturn, 1)]
theorem dtX12_height_0 : kDec cX12_height lX12_height_0 = true := by decide +kernel
noncomputable def fX12_height (x1 : Int32) (w : rW) : Option (Int32 × rW) :=
  (fX12_isLine x1 w).bind fun v2 =>
  if v2 = 0 then
  some ((-1 : Int32), w)
  else
  (fX12_findHeights w).bind fun w3 =>
  (raI w3 16 40 x1).bind fun v5 =>
  some (v5, w3)

set_option maxHeartbeats 4000000 in
set_option maxRecDepth 100000 in
theorem rX12_height (l : Launch) (D : va_G) (aC : Nat → ClassId) {h0 : Nat} {wB : kW} (hB : rOK h0 wB) {x1 : Int32} {w : rW} {wR : rW} {oR : Int32} (h : fX12_height x1 w = some (oR, wR)) : kC l D aC yX12_height cX12_height 2 (some .int) 808 18973 [.ref h0, .int x1] (rWo h0 wB w) (some (.int oR)) (rWo h0 wB wR) 0 0 := by
  refine kOf (own := RX12) (by decide) rfl (Nat.le_of_ble_eq_true rfl) ?_
  intro p e s m below meth c ls F hml hr hlocks hnm hX hZ hl
  obtain ⟨hx, hb, hts, hown, hK⟩ := id F
  have hl : lv_has ls 2 [(0, .ref h0), (1, .int x1)] := hl
  have hf := h
  rw [fX12_height] at hf
  refine lv_aload_n hx hb (kd dtX12_height_0 0 rfl) rfl (lv_at hl 0 rfl) ?_
  refine lv_iload_n hx hb (kd dtX12_height_0 1 rfl) rfl (lv_at hl 1 rfl) ?_
  obtain ⟨v2, h1, hf⟩ := kbind hf
  refine kcallV (n := 1) [.int x1] [] [.int v2] (rX12_isLine l D aC hB h1) rfl hB.1 F hml hX hZ hl.1 mwX12_isLine wmX12_127 rfl (by decide) (by decide +kernel) ⟨(by decide), (by decide)⟩ rfl rfl rfl (Nat.le_of_ble_eq_true rfl) (kd dtX12_height_0 2 rfl) ⟨Nat.zero_le _, Nat.zero_le _⟩ (fun H locs hX => ?_)
  refine lv_if_ne (tgt := 10) hx hb (kd dtX12_height_0 3 rfl) (by decide) (fun hc => ?_) (fun hc => ?_)
  · have hf := kif_neg hc hf
    refine lv_aload_n hx hb (kd dtX12_height_0 6 rfl) rfl (lv_at hl 0 rfl) ?_
    obtain ⟨w3, h4, hf⟩ := kbind hf
    refine kcallV (n := 0) [] [] [] (rX12_findHeights l D aC hB h4) rfl hB.1 F hml hX hZ hl.1 mwX12_findHeights wmX12_319 rfl (by decide) (by decide +kernel) ⟨(by decide), (by decide)⟩ rfl rfl rfl (Nat.le_of_ble_eq_true rfl) (kd dtX12_height_0 7 rfl) ⟨Nat.zero_le _, Nat.zero_le _⟩ (fun H locs hX => ?_)
    refine lv_aload_n hx hb (kd dtX12_height_0 8 rfl) rfl (lv_at hl 0 rfl) ?_
    refine rgetA (n := 16) (j := 38) hB (by decide) rfl F hX wfX12_58 (by decide) rfl (kd dtX12_height_0 9 rfl) ?_
    refine lv_iload_n hx hb (kd dtX12_height_0 10 rfl) rfl (lv_at hl 1 rfl) ?_
    obtain ⟨v5, hv5, hf⟩ := kbind hf
    refine rald hB (by decide) hv5 F hX (kd dtX12_height_0 11 rfl) ?_
    obtain ⟨rfl, rfl⟩ := Prod.mk.inj (Option.some.inj hf)
    exact kiret F hX hr hlocks rfl (kd dtX12_height_0 12 rfl)
  · have hf := kif_pos hc hf
    refine lv_iconst (v := (-1 : Int32)) hx hb (kd dtX12_height_0 4 rfl) (by decide) ?_
    obtain ⟨rfl, rfl⟩ := Prod.mk.inj (Option.some.inj hf)
    exact kiret F hX hr hlocks rfl (kd dtX12_height_0 5 rfl)
def lX12_never_0 : List (Nat × Instr × Nat) := [(0, .lconst 0, 1), (1, .lstore_n 1, 1), (2, .iconst 0, 1), (3, .istore_n 3, 1), (4, .iload_n 3, 1), (5, .aload_n 0, 1), (6, .getfield 16, 3), (9, .iconst 0, 1), (10, .iaload, 1), (11, .if_icmp .ge 39, 3), (14, .lload_n 1, 1), (15, .aload_n 0, 1), (16, .getfield 16, 3), (19, .bipush 43, 2), (21, .iload_n 3, 1), (22, .iadd, 1), (23, .iaload, 1), (24, .ifCond .ne 17, 3), (27, .aload_n 0, 1), (28, .iload_n 3, 1), (29, .invokevirtual 138, 3), (32, .ifCond .ne 9, 3), (35, .lconst 1, 1), (36, .iload_n 3, 1), (37, .lshl, 1), (38, .goto 4, 3), (41, .lconst 0, 1), (42, .lor, 1), (43, .lstore_n 1, 1), (44, .iinc 3 1, 3), (47, .goto (-43), 3), (50, .lload_n 1, 1), (51, .lreturn, 1)]
theorem dtX12_never_0 : kDec cX12_never lX12_never_0 = true := by decide +kernel
noncomputable def fX12_never_L4 (w : rW) : Nat → (Int64 → Int32 → Option Int64) → Int64 → Int32 → Option Int64
  | 0, _, _, _ => none
  | n + 1, k, x1, x3 =>
  (raI w 2 1000 (0 : Int32)).bind fun v1 =>
  if v1 ≤ x3 then
  k x1 x3
  else
  (raI w 2 1000 ((43 : Int32) + x3)).bind fun v2 =>
  if v2 = 0 then
  (fX12_isAlways x3 w).bind fun v4 =>
  if v4 = 0 then
  fX12_never_L4 w n k (x1 ||| ((1 : Int64) <<< (x3.toInt64 &&& 63))) (x3 + (1 : Int32))
  else
  fX12_never_L4 w n k (x1 ||| (0 : Int64)) (x3 + (1 : Int32))
  else
  fX12_never_L4 w n k (x1 ||| (0 : Int64)) (x3 + (1 : Int32))

noncomputable def fX12_never (w : rW) : Option Int64 :=
  fX12_never_L4 w kFU (fun y1_1 y3_2 => some y1_1) (0 : Int64) (0 : Int32)

set_option maxHeartbeats 4000000 in
set_option maxRecDepth 100000 in
theorem rX12_never (l : Launch) (D : va_G) (aC : Nat → ClassId) {h0 : Nat} {wB : kW} (hB : rOK h0 wB) {w : rW} {oR : Int64} (h : fX12_never w = some oR) : kC l D aC yX12_never cX12_never 4 (some .long) 806 19326 [.ref h0] (rWo h0 wB w) (some (.long oR)) (rWo h0 wB w) 0 0 := by
  refine kOf (own := RX12) (by decide) rfl (Nat.le_of_ble_eq_true rfl) ?_
  intro p e s m below meth c ls F hml hr hlocks hnm hX hZ hl
  obtain ⟨hx, hb, hts, hown, hK⟩ := id F
  have hl : lv_has ls 4 [(0, .ref h0)] := hl
  have hf := h
  rw [fX12_never] at hf
  refine lv_lconst (v := (0 : Int64)) hx hb (kd dtX12_never_0 0 rfl) (by decide) ?_
  refine lv_lstore_n (lv' := [(1, .long (0 : Int64)), (0, .ref h0)]) hx hb (kd dtX12_never_0 1 rfl) rfl hl (by decide) rfl (fun ls hl => ?_)
  refine lv_iconst (v := (0 : Int32)) hx hb (kd dtX12_never_0 2 rfl) (by decide) ?_
  refine lv_istore_n (lv' := [(3, .int (0 : Int32)), (1, .long (0 : Int64)), (0, .ref h0)]) hx hb (kd dtX12_never_0 3 rfl) rfl hl (by decide) rfl (fun ls hl => ?_)
  have hL4 : ∀ (n : Nat) (k : Int64 → Int32 → Option Int64), ∀ (z1_4 : Int64) (z3_4 : Int32) (H : Heap) (locs : List Loc) (ls : Array Slot), kX D aC (rWo h0 wB w) s.heap (rWo h0 wB w) H locs → lv_has ls 4 [(0, .ref h0), (1, .long z1_4), (3, .int z3_4)] → fX12_never_L4 w n k z1_4 z3_4 = some oR → (∀ (z1_4 : Int64) (z3_4 : Int32) (H : Heap) (locs : List Loc) (ls : Array Slot), kX D aC (rWo h0 wB w) s.heap (rWo h0 wB w) H locs → lv_has ls 4 [(0, .ref h0), (1, .long z1_4), (3, .int z3_4)] → k z1_4 z3_4 = some oR → W p l e { frames := 806, cells := 0, slots := 0, locals := 19326 } s m ([.ref h0] : List Value).toArray below meth c H locs 0 0 (MQ below (kQc D aC (rWo h0 wB w) (some (.long oR)) (rWo h0 wB w)) ([.ref h0] : List Value).toArray s 0 0 (kA (rWo h0 wB w))) (F0 m 50 ls [])) → W p l e { frames := 806, cells := 0, slots := 0, locals := 19326 } s m ([.ref h0] : List Value).toArray below meth c H locs 0 0 (MQ below (kQc D aC (rWo h0 wB w) (some (.long oR)) (rWo h0 wB w)) ([.ref h0] : List Value).toArray s 0 0 (kA (rWo h0 wB w))) (F0 m 4 ls []) := by
    intro n k
    induction n with
    | zero =>
      intro z1_4 z3_4 H locs ls hX hl hf hk
      rw [fX12_never_L4] at hf
      cases hf
    | succ n ih =>
      intro z1_4 z3_4 H locs ls hX hl hf hk
      rw [fX12_never_L4] at hf
      refine lv_iload_n hx hb (kd dtX12_never_0 4 rfl) rfl (lv_at hl 2 rfl) ?_
      refine lv_aload_n hx hb (kd dtX12_never_0 5 rfl) rfl (lv_at hl 0 rfl) ?_
      refine rgetA (n := 2) (j := 2) hB (by decide) rfl F hX wfX12_16 (by decide) rfl (kd dtX12_never_0 6 rfl) ?_
      refine lv_iconst (v := (0 : Int32)) hx hb (kd dtX12_never_0 7 rfl) (by decide) ?_
      obtain ⟨v3, hv3, hf⟩ := kbind hf
      refine rald hB (by decide) hv3 F hX (kd dtX12_never_0 8 rfl) ?_
      refine lv_icmp_ge (tgt := 50) hx hb (kd dtX12_never_0 9 rfl) (by decide) (fun hc => ?_) (fun hc => ?_)
      · have hf := kif_pos hc hf
        exact hk z1_4 z3_4 _ _ _ hX hl hf
      · have hf := kif_neg hc hf
        refine lv_lload_n hx hb (kd dtX12_never_0 10 rfl) rfl (lv_at hl 1 rfl) ?_
        refine lv_aload_n hx hb (kd dtX12_never_0 11 rfl) rfl (lv_at hl 0 rfl) ?_
        refine rgetA (n := 2) (j := 2) hB (by decide) rfl F hX wfX12_16 (by decide) rfl (kd dtX12_never_0 12 rfl) ?_
        refine lv_bipush (v := (43 : Int32)) hx hb (kd dtX12_never_0 13 rfl) (by decide) ?_
        refine lv_iload_n hx hb (kd dtX12_never_0 14 rfl) rfl (lv_at hl 2 rfl) ?_
        refine lv_iadd hx hb (kd dtX12_never_0 15 rfl) ?_
        obtain ⟨v4, hv4, hf⟩ := kbind hf
        refine rald hB (by decide) hv4 F hX (kd dtX12_never_0 16 rfl) ?_
        refine lv_if_ne (tgt := 41) hx hb (kd dtX12_never_0 17 rfl) (by decide) (fun hc => ?_) (fun hc => ?_)
        · have hf := kif_neg hc hf
          refine lv_lconst (v := (0 : Int64)) hx hb (kd dtX12_never_0 26 rfl) (by decide) ?_
          refine lv_lor hx hb (kd dtX12_never_0 27 rfl) ?_
          refine lv_lstore_n (lv' := [(1, .long (z1_4 ||| (0 : Int64))), (0, .ref h0), (3, .int z3_4)]) hx hb (kd dtX12_never_0 28 rfl) rfl hl (by decide) rfl (fun ls hl => ?_)
          refine lv_iinc (v := z3_4 + (1 : Int32)) (lv' := [(3, .int (z3_4 + (1 : Int32))), (1, .long (z1_4 ||| (0 : Int64))), (0, .ref h0)]) hx hb (kd dtX12_never_0 29 rfl) hl (k := 2) rfl (by rfl) (by decide) rfl (fun ls hl => ?_)
          refine lv_goto (tgt := 4) hx hb (kd dtX12_never_0 30 rfl) (by decide) ?_
          exact ih (z1_4 ||| (0 : Int64)) (z3_4 + (1 : Int32)) _ _ _ hX (lv_sub hl [2, 1, 0] rfl) hf hk
        · have hf := kif_pos hc hf
          refine lv_aload_n hx hb (kd dtX12_never_0 18 rfl) rfl (lv_at hl 0 rfl) ?_
          refine lv_iload_n hx hb (kd dtX12_never_0 19 rfl) rfl (lv_at hl 2 rfl) ?_
          obtain ⟨v6, h5, hf⟩ := kbind hf
          refine kcallV (n := 1) [.int z3_4] [.long z1_4] [.int v6, .long z1_4] (rX12_isAlways l D aC hB h5) rfl hB.1 F hml hX hZ hl.1 mwX12_isAlways wmX12_138 rfl (by decide) (by decide +kernel) ⟨(by decide), (by decide)⟩ rfl rfl rfl (Nat.le_of_ble_eq_true rfl) (kd dtX12_never_0 20 rfl) ⟨Nat.zero_le _, Nat.zero_le _⟩ (fun H locs hX => ?_)
          refine lv_if_ne (tgt := 41) hx hb (kd dtX12_never_0 21 rfl) (by decide) (fun hc => ?_) (fun hc => ?_)
          · have hf := kif_neg hc hf
            refine lv_lconst (v := (0 : Int64)) hx hb (kd dtX12_never_0 26 rfl) (by decide) ?_
            refine lv_lor hx hb (kd dtX12_never_0 27 rfl) ?_
            refine lv_lstore_n (lv' := [(1, .long (z1_4 ||| (0 : Int64))), (0, .ref h0), (3, .int z3_4)]) hx hb (kd dtX12_never_0 28 rfl) rfl hl (by decide) rfl (fun ls hl => ?_)
            refine lv_iinc (v := z3_4 + (1 : Int32)) (lv' := [(3, .int (z3_4 + (1 : Int32))), (1, .long (z1_4 ||| (0 : Int64))), (0, .ref h0)]) hx hb (kd dtX12_never_0 29 rfl) hl (k := 2) rfl (by rfl) (by decide) rfl (fun ls hl => ?_)
            refine lv_goto (tgt := 4) hx hb (kd dtX12_never_0 30 rfl) (by decide) ?_
            exact ih (z1_4 ||| (0 : Int64)) (z3_4 + (1 : Int32)) _ _ _ hX (lv_sub hl [2, 1, 0] rfl) hf hk
          · have hf := kif_pos hc hf
            refine lv_lconst (v := (1 : Int64)) hx hb (kd dtX12_never_0 22 rfl) (by decide) ?_
            refine lv_iload_n hx hb (kd dtX12_never_0 23 rfl) rfl (lv_at hl 2 rfl) ?_
            refine lv_lshl (v := (1 : Int64) <<< (z3_4.toInt64 &&& 63)) hx hb (kd dtX12_never_0 24 rfl) rfl ?_
            refine lv_goto (tgt := 42) hx hb (kd dtX12_never_0 25 rfl) (by decide) ?_
            refine lv_lor hx hb (kd dtX12_never_0 27 rfl) ?_
            refine lv_lstore_n (lv' := [(1, .long (z1_4 ||| ((1 : Int64) <<< (z3_4.toInt64 &&& 63)))), (0, .ref h0), (3, .int z3_4)]) hx hb (kd dtX12_never_0 28 rfl) rfl hl (by decide) rfl (fun ls hl => ?_)
            refine lv_iinc (v := z3_4 + (1 : Int32)) (lv' := [(3, .int (z3_4 + (1 : Int32))), (1, .long (z1_4 ||| ((1 : Int64) <<< (z3_4.toInt64 &&& 63)))), (0, .ref h0)]) hx hb (kd dtX12_never_0 29 rfl) hl (k := 2) rfl (by rfl) (by decide) rfl (fun ls hl => ?_)
            refine lv_goto (tgt := 4) hx hb (kd dtX12_never_0 30 rfl) (by decide) ?_
            exact ih (z1_4 ||| ((1 : Int64) <<< (z3_4.toInt64 &&& 63))) (z3_4 + (1 : Int32)) _ _ _ hX (lv_sub hl [2, 1, 0] rfl) hf hk
  refine hL4 kFU _ (0 : Int64) (0 : Int32) _ _ _ hX (lv_sub hl [2, 1, 0] rfl) hf ?_
  intro y1_1 y3_2 H locs ls hX hl hf
  refine lv_lload_n hx hb (kd dtX12_never_0 31 rfl) rfl (lv_at hl 1 rfl) ?_
  obtain rfl := Option.some.inj hf
  exact klret F hX hr hlocks rfl (kd dtX12_never_0 32 rfl)
def lX12_wrongOrder_0 : List (Nat × Instr × Nat) := [(0, .iload_n 1, 1), (1, .i2l, 1), (2, .lconst 0, 1), (3, .aload_n 0, 1), (4, .getfield 16, 3), (7, .iconst 2, 1), (8, .iaload, 1), (9, .iconst 1, 1), (10, .isub, 1), (11, .i2l, 1), (12, .invokestatic 65, 3), (15, .ifCond .ne 5, 3), (18, .iconst (-1), 1), (19, .ireturn, 1), (20, .aload_n 0, 1), (21, .iload_n 2, 1), (22, .iconst 0, 1), (23, .invokevirtual 121, 3), (26, .istore_n 3, 1), (27, .iload_n 3, 1), (28, .ifCond .eq 5, 3), (31, .iload_n 3, 1), (32, .ireturn, 1), (33, .aload_n 0, 1), (34, .getfield 28, 3), (37, .iload_n 2, 1), (38, .iaload, 1), (39, .i2l, 1), (40, .lconst 1, 1), (41, .ldc2_w 202, 3), (44, .invokestatic 65, 3), (47, .ifCond .ne 6, 3), (50, .bipush (-13), 2), (52, .ireturn, 1), (53, .iconst 0, 1), (54, .istore 4, 2), (56, .iload 4, 2), (58, .aload_n 0, 1), (59, .getfield 28, 3), (62, .iload_n 2, 1), (63, .iaload, 1), (64, .if_icmp .ge 84, 3), (67, .aload_n 0, 1), (68, .getfield 31, 3), (71, .bipush 120, 2), (73, .iload_n 2, 1), (74, .imul, 1), (75, .iload 4, 2), (77, .iadd, 1), (78, .iaload, 1), (79, .istore 5, 2), (81, .aload_n 0, 1), (82, .iload 5, 2), (84, .invokevirtual 127, 3), (87, .ifCond .eq 16, 3), (90, .aload_n 0, 1), (91, .getfield 16, 3), (94, .bipush 43, 2), (96, .iload 5, 2), (98, .iadd, 1), (99, .iaload, 1), (100, .ifCond .eq 6, 3), (103, .bipush (-13), 2), (105, .ireturn, 1), (106, .iconst 0, 1), (107, .istore 6, 2), (109, .iload 6, 2), (111, .iload 4, 2), (113, .if_icmp .ge 29, 3), (116, .aload_n 0, 1), (117, .getfield 31, 3), (120, .bipush 120, 2), (122, .iload_n 2, 1), (123, .imul, 1), (124, .iload 6, 2), (126, .iadd, 1), (127, .iaload, 1), (128, .iload 5, 2), (130, .if_icmp .ne 6, 3), (133, .bipush (-13), 2)]
theorem dtX12_wrongOrder_0 : kDec cX12_wrongOrder lX12_wrongOrder_0 = true := by decide +kernel
def lX12_wrongOrder_1 : List (Nat × Instr × Nat) := [(135, .ireturn, 1), (136, .iinc 6 1, 3), (139, .goto (-30), 3), (142, .iinc 4 1, 3), (145, .goto (-89), 3), (148, .iconst 0, 1), (149, .ireturn, 1)]
theorem dtX12_wrongOrder_1 : kDec cX12_wrongOrder lX12_wrongOrder_1 = true := by decide +kernel
noncomputable def fX12_wrongOrder_L109 (x1 : Int32) (x2 : Int32) (x3 : Int32) (x4 : Int32) (x5 : Int32) (w : rW) : Nat → (Int32 → Option Int32) → Int32 → Option Int32
  | 0, _, _ => none
  | n + 1, k, x6 =>
  if x4 ≤ x6 then
  k x6
  else
  (raI w 7 960 (((120 : Int32) * x2) + x6)).bind fun v1 =>
  if v1 = x5 then
  some (-13 : Int32)
  else
  fX12_wrongOrder_L109 x1 x2 x3 x4 x5 w n k (x6 + (1 : Int32))

noncomputable def fX12_wrongOrder_L56 (x1 : Int32) (x2 : Int32) (x3 : Int32) (w : rW) : Nat → (Int32 → Option Int32) → Int32 → Option Int32
  | 0, _, _ => none
  | n + 1, k, x4 =>
  (raI w 6 8 x2).bind fun v1 =>
  if v1 ≤ x4 then
  k x4
  else
  (raI w 7 960 (((120 : Int32) * x2) + x4)).bind fun v2 =>
  (fX12_isLine v2 w).bind fun v4 =>
  if v4 = 0 then
  some (-13 : Int32)
  else
  (raI w 2 1000 ((43 : Int32) + v2)).bind fun v5 =>
  if v5 = 0 then
  fX12_wrongOrder_L109 x1 x2 x3 x4 v2 w kFU (fun y6_6 => fX12_wrongOrder_L56 x1 x2 x3 w n k (x4 + (1 : Int32))) (0 : Int32)
  else
  some (-13 : Int32)

noncomputable def fX12_wrongOrder (x1 : Int32) (x2 : Int32) (w : rW) : Option Int32 :=
  (raI w 2 1000 (2 : Int32)).bind fun v1 =>
  (fX12_isIn x1.toInt64 (0 : Int64) ((v1 - (1 : Int32)).toInt64)).bind fun v3 =>
  if v3 = 0 then
  some (-1 : Int32)
  else
  (fX12_wrongRow x2 (0 : Int32) w).bind fun v5 =>
  if v5 = 0 then
  (raI w 6 8 x2).bind fun v6 =>
  (fX12_isIn v6.toInt64 (1 : Int64) (3 : Int64)).bind fun v8 =>
  if v8 = 0 then
  some (-13 : Int32)
  else
  fX12_wrongOrder_L56 x1 x2 v5 w kFU (fun y4_9 => some (0 : Int32)) (0 : Int32)
  else
  some v5

set_option maxHeartbeats 4000000 in
set_option maxRecDepth 100000 in
theorem rX12_wrongOrder (l : Launch) (D : va_G) (aC : Nat → ClassId) {h0 : Nat} {wB : kW} (hB : rOK h0 wB) {x1 : Int32} {x2 : Int32} {w : rW} {oR : Int32} (h : fX12_wrongOrder x1 x2 w = some oR) : kC l D aC yX12_wrongOrder cX12_wrongOrder 7 (some .int) 4 79 [.ref h0, .int x1, .int x2] (rWo h0 wB w) (some (.int oR)) (rWo h0 wB w) 0 0 := by
  refine kOf (own := RX12) (by decide) rfl (Nat.le_of_ble_eq_true rfl) ?_
  intro p e s m below meth c ls F hml hr hlocks hnm hX hZ hl
  obtain ⟨hx, hb, hts, hown, hK⟩ := id F
  have hl : lv_has ls 7 [(0, .ref h0), (1, .int x1), (2, .int x2)] := hl
  have hf := h
  rw [fX12_wrongOrder] at hf
  refine lv_iload_n hx hb (kd dtX12_wrongOrder_0 0 rfl) rfl (lv_at hl 1 rfl) ?_
  refine lv_i2l (v := x1.toInt64) hx hb (kd dtX12_wrongOrder_0 1 rfl) rfl ?_
  refine lv_lconst (v := (0 : Int64)) hx hb (kd dtX12_wrongOrder_0 2 rfl) (by decide) ?_
  refine lv_aload_n hx hb (kd dtX12_wrongOrder_0 3 rfl) rfl (lv_at hl 0 rfl) ?_
  refine rgetA (n := 2) (j := 2) hB (by decide) rfl F hX wfX12_16 (by decide) rfl (kd dtX12_wrongOrder_0 4 rfl) ?_
  refine lv_iconst (v := (2 : Int32)) hx hb (kd dtX12_wrongOrder_0 5 rfl) (by decide) ?_
  obtain ⟨v1, hv1, hf⟩ := kbind hf
  refine rald hB (by decide) hv1 F hX (kd dtX12_wrongOrder_0 6 rfl) ?_
  refine lv_iconst (v := (1 : Int32)) hx hb (kd dtX12_wrongOrder_0 7 rfl) (by decide) ?_
  refine lv_isub hx hb (kd dtX12_wrongOrder_0 8 rfl) ?_
  refine lv_i2l (v := (v1 - (1 : Int32)).toInt64) hx hb (kd dtX12_wrongOrder_0 9 rfl) rfl ?_
  obtain ⟨v3, h2, hf⟩ := kbind hf
  refine kcallS (n := 3) [.long x1.toInt64, .long (0 : Int64), .long ((v1 - (1 : Int32)).toInt64)] [] [.int v3] (rX12_isIn l D aC (rWo h0 wB w) h2) F hml hX hZ hl.1 mwX12_isIn wmX12_65 (by decide +kernel) ⟨(by decide), (by decide)⟩ rfl rfl rfl (Nat.le_of_ble_eq_true rfl) (kd dtX12_wrongOrder_0 10 rfl) ⟨Nat.zero_le _, Nat.zero_le _⟩ (fun H locs hX => ?_)
  refine lv_if_ne (tgt := 20) hx hb (kd dtX12_wrongOrder_0 11 rfl) (by decide) (fun hc => ?_) (fun hc => ?_)
  · have hf := kif_neg hc hf
    refine lv_aload_n hx hb (kd dtX12_wrongOrder_0 14 rfl) rfl (lv_at hl 0 rfl) ?_
    refine lv_iload_n hx hb (kd dtX12_wrongOrder_0 15 rfl) rfl (lv_at hl 2 rfl) ?_
    refine lv_iconst (v := (0 : Int32)) hx hb (kd dtX12_wrongOrder_0 16 rfl) (by decide) ?_
    obtain ⟨v5, h4, hf⟩ := kbind hf
    refine kcallV (n := 2) [.int x2, .int (0 : Int32)] [] [.int v5] (rX12_wrongRow l D aC hB h4) rfl hB.1 F hml hX hZ hl.1 mwX12_wrongRow wmX12_121 rfl (by decide) (by decide +kernel) ⟨(by decide), (by decide)⟩ rfl rfl rfl (Nat.le_of_ble_eq_true rfl) (kd dtX12_wrongOrder_0 17 rfl) ⟨Nat.zero_le _, Nat.zero_le _⟩ (fun H locs hX => ?_)
    refine lv_istore_n (lv' := [(3, .int v5), (0, .ref h0), (1, .int x1), (2, .int x2)]) hx hb (kd dtX12_wrongOrder_0 18 rfl) rfl hl (by decide) rfl (fun ls hl => ?_)
    refine lv_iload_n hx hb (kd dtX12_wrongOrder_0 19 rfl) rfl (lv_at hl 0 rfl) ?_
    refine lv_if_eq (tgt := 33) hx hb (kd dtX12_wrongOrder_0 20 rfl) (by decide) (fun hc => ?_) (fun hc => ?_)
    · have hf := kif_pos hc hf
      refine lv_aload_n hx hb (kd dtX12_wrongOrder_0 23 rfl) rfl (lv_at hl 1 rfl) ?_
      refine rgetA (n := 6) (j := 6) hB (by decide) rfl F hX wfX12_28 (by decide) rfl (kd dtX12_wrongOrder_0 24 rfl) ?_
      refine lv_iload_n hx hb (kd dtX12_wrongOrder_0 25 rfl) rfl (lv_at hl 3 rfl) ?_
      obtain ⟨v6, hv6, hf⟩ := kbind hf
      refine rald hB (by decide) hv6 F hX (kd dtX12_wrongOrder_0 26 rfl) ?_
      refine lv_i2l (v := v6.toInt64) hx hb (kd dtX12_wrongOrder_0 27 rfl) rfl ?_
      refine lv_lconst (v := (1 : Int64)) hx hb (kd dtX12_wrongOrder_0 28 rfl) (by decide) ?_
      refine lv_ldc2 (v := (3 : Int64)) hx hb hown (hts _ wcX12_202) (kd dtX12_wrongOrder_0 29 rfl) ?_
      obtain ⟨v8, h7, hf⟩ := kbind hf
      refine kcallS (n := 3) [.long v6.toInt64, .long (1 : Int64), .long (3 : Int64)] [] [.int v8] (rX12_isIn l D aC (rWo h0 wB w) h7) F hml hX hZ hl.1 mwX12_isIn wmX12_65 (by decide +kernel) ⟨(by decide), (by decide)⟩ rfl rfl rfl (Nat.le_of_ble_eq_true rfl) (kd dtX12_wrongOrder_0 30 rfl) ⟨Nat.zero_le _, Nat.zero_le _⟩ (fun H locs hX => ?_)
      refine lv_if_ne (tgt := 53) hx hb (kd dtX12_wrongOrder_0 31 rfl) (by decide) (fun hc => ?_) (fun hc => ?_)
      · have hf := kif_neg hc hf
        refine lv_iconst (v := (0 : Int32)) hx hb (kd dtX12_wrongOrder_0 34 rfl) (by decide) ?_
        refine lv_istore (lv' := [(4, .int (0 : Int32)), (3, .int v5), (0, .ref h0), (1, .int x1), (2, .int x2)]) hx hb (kd dtX12_wrongOrder_0 35 rfl) hl (by decide) rfl (fun ls hl => ?_)
        have hL56 : ∀ (n : Nat) (k : Int32 → Option Int32), ∀ (z4_56 : Int32) (H : Heap) (locs : List Loc) (ls : Array Slot), kX D aC (rWo h0 wB w) s.heap (rWo h0 wB w) H locs → lv_has ls 7 [(0, .ref h0), (1, .int x1), (2, .int x2), (3, .int v5), (4, .int z4_56)] → fX12_wrongOrder_L56 x1 x2 v5 w n k z4_56 = some oR → (∀ (z4_56 : Int32) (H : Heap) (locs : List Loc) (ls : Array Slot), kX D aC (rWo h0 wB w) s.heap (rWo h0 wB w) H locs → lv_has ls 7 [(0, .ref h0), (1, .int x1), (2, .int x2), (3, .int v5), (4, .int z4_56)] → k z4_56 = some oR → W p l e { frames := 4, cells := 0, slots := 0, locals := 79 } s m ([.ref h0, .int x1, .int x2] : List Value).toArray below meth c H locs 0 0 (MQ below (kQc D aC (rWo h0 wB w) (some (.int oR)) (rWo h0 wB w)) ([.ref h0, .int x1, .int x2] : List Value).toArray s 0 0 (kA (rWo h0 wB w))) (F0 m 148 ls [])) → W p l e { frames := 4, cells := 0, slots := 0, locals := 79 } s m ([.ref h0, .int x1, .int x2] : List Value).toArray below meth c H locs 0 0 (MQ below (kQc D aC (rWo h0 wB w) (some (.int oR)) (rWo h0 wB w)) ([.ref h0, .int x1, .int x2] : List Value).toArray s 0 0 (kA (rWo h0 wB w))) (F0 m 56 ls []) := by
          intro n k
          induction n with
          | zero =>
            intro z4_56 H locs ls hX hl hf hk
            rw [fX12_wrongOrder_L56] at hf
            cases hf
          | succ n ih =>
            intro z4_56 H locs ls hX hl hf hk
            rw [fX12_wrongOrder_L56] at hf
            refine lv_iload hx hb (kd dtX12_wrongOrder_0 36 rfl) (lv_at hl 4 rfl) ?_
            refine lv_aload_n hx hb (kd dtX12_wrongOrder_0 37 rfl) rfl (lv_at hl 0 rfl) ?_
            refine rgetA (n := 6) (j := 6) hB (by decide) rfl F hX wfX12_28 (by decide) rfl (kd dtX12_wrongOrder_0 38 rfl) ?_
            refine lv_iload_n hx hb (kd dtX12_wrongOrder_0 39 rfl) rfl (lv_at hl 2 rfl) ?_
            obtain ⟨v10, hv10, hf⟩ := kbind hf
            refine rald hB (by decide) hv10 F hX (kd dtX12_wrongOrder_0 40 rfl) ?_
            refine lv_icmp_ge (tgt := 148) hx hb (kd dtX12_wrongOrder_0 41 rfl) (by decide) (fun hc => ?_) (fun hc => ?_)
            · have hf := kif_pos hc hf
              exact hk z4_56 _ _ _ hX hl hf
            · have hf := kif_neg hc hf
              refine lv_aload_n hx hb (kd dtX12_wrongOrder_0 42 rfl) rfl (lv_at hl 0 rfl) ?_
              refine rgetA (n := 7) (j := 7) hB (by decide) rfl F hX wfX12_31 (by decide) rfl (kd dtX12_wrongOrder_0 43 rfl) ?_
              refine lv_bipush (v := (120 : Int32)) hx hb (kd dtX12_wrongOrder_0 44 rfl) (by decide) ?_
              refine lv_iload_n hx hb (kd dtX12_wrongOrder_0 45 rfl) rfl (lv_at hl 2 rfl) ?_
              refine lv_imul hx hb (kd dtX12_wrongOrder_0 46 rfl) ?_
              refine lv_iload hx hb (kd dtX12_wrongOrder_0 47 rfl) (lv_at hl 4 rfl) ?_
              refine lv_iadd hx hb (kd dtX12_wrongOrder_0 48 rfl) ?_
              obtain ⟨v11, hv11, hf⟩ := kbind hf
              refine rald hB (by decide) hv11 F hX (kd dtX12_wrongOrder_0 49 rfl) ?_
              refine lv_istore (lv' := [(5, .int v11), (0, .ref h0), (1, .int x1), (2, .int x2), (3, .int v5), (4, .int z4_56)]) hx hb (kd dtX12_wrongOrder_0 50 rfl) hl (by decide) rfl (fun ls hl => ?_)
              refine lv_aload_n hx hb (kd dtX12_wrongOrder_0 51 rfl) rfl (lv_at hl 1 rfl) ?_
              refine lv_iload hx hb (kd dtX12_wrongOrder_0 52 rfl) (lv_at hl 0 rfl) ?_
              obtain ⟨v13, h12, hf⟩ := kbind hf
              refine kcallV (n := 1) [.int v11] [] [.int v13] (rX12_isLine l D aC hB h12) rfl hB.1 F hml hX hZ hl.1 mwX12_isLine wmX12_127 rfl (by decide) (by decide +kernel) ⟨(by decide), (by decide)⟩ rfl rfl rfl (Nat.le_of_ble_eq_true rfl) (kd dtX12_wrongOrder_0 53 rfl) ⟨Nat.zero_le _, Nat.zero_le _⟩ (fun H locs hX => ?_)
              refine lv_if_eq (tgt := 103) hx hb (kd dtX12_wrongOrder_0 54 rfl) (by decide) (fun hc => ?_) (fun hc => ?_)
              · have hf := kif_pos hc hf
                refine lv_bipush (v := (-13 : Int32)) hx hb (kd dtX12_wrongOrder_0 62 rfl) (by decide) ?_
                obtain rfl := Option.some.inj hf
                exact kiret F hX hr hlocks rfl (kd dtX12_wrongOrder_0 63 rfl)
              · have hf := kif_neg hc hf
                refine lv_aload_n hx hb (kd dtX12_wrongOrder_0 55 rfl) rfl (lv_at hl 1 rfl) ?_
                refine rgetA (n := 2) (j := 2) hB (by decide) rfl F hX wfX12_16 (by decide) rfl (kd dtX12_wrongOrder_0 56 rfl) ?_
                refine lv_bipush (v := (43 : Int32)) hx hb (kd dtX12_wrongOrder_0 57 rfl) (by decide) ?_
                refine lv_iload hx hb (kd dtX12_wrongOrder_0 58 rfl) (lv_at hl 0 rfl) ?_
                refine lv_iadd hx hb (kd dtX12_wrongOrder_0 59 rfl) ?_
                obtain ⟨v14, hv14, hf⟩ := kbind hf
                refine rald hB (by decide) hv14 F hX (kd dtX12_wrongOrder_0 60 rfl) ?_
                refine lv_if_eq (tgt := 106) hx hb (kd dtX12_wrongOrder_0 61 rfl) (by decide) (fun hc => ?_) (fun hc => ?_)
                · have hf := kif_pos hc hf
                  refine lv_iconst (v := (0 : Int32)) hx hb (kd dtX12_wrongOrder_0 64 rfl) (by decide) ?_
                  refine lv_istore (lv' := [(6, .int (0 : Int32)), (5, .int v11), (0, .ref h0), (1, .int x1), (2, .int x2), (3, .int v5), (4, .int z4_56)]) hx hb (kd dtX12_wrongOrder_0 65 rfl) hl (by decide) rfl (fun ls hl => ?_)
                  have hL109 : ∀ (n : Nat) (k : Int32 → Option Int32), ∀ (z6_109 : Int32) (H : Heap) (locs : List Loc) (ls : Array Slot), kX D aC (rWo h0 wB w) s.heap (rWo h0 wB w) H locs → lv_has ls 7 [(0, .ref h0), (1, .int x1), (2, .int x2), (3, .int v5), (4, .int z4_56), (5, .int v11), (6, .int z6_109)] → fX12_wrongOrder_L109 x1 x2 v5 z4_56 v11 w n k z6_109 = some oR → (∀ (z6_109 : Int32) (H : Heap) (locs : List Loc) (ls : Array Slot), kX D aC (rWo h0 wB w) s.heap (rWo h0 wB w) H locs → lv_has ls 7 [(0, .ref h0), (1, .int x1), (2, .int x2), (3, .int v5), (4, .int z4_56), (5, .int v11), (6, .int z6_109)] → k z6_109 = some oR → W p l e { frames := 4, cells := 0, slots := 0, locals := 79 } s m ([.ref h0, .int x1, .int x2] : List Value).toArray below meth c H locs 0 0 (MQ below (kQc D aC (rWo h0 wB w) (some (.int oR)) (rWo h0 wB w)) ([.ref h0, .int x1, .int x2] : List Value).toArray s 0 0 (kA (rWo h0 wB w))) (F0 m 142 ls [])) → W p l e { frames := 4, cells := 0, slots := 0, locals := 79 } s m ([.ref h0, .int x1, .int x2] : List Value).toArray below meth c H locs 0 0 (MQ below (kQc D aC (rWo h0 wB w) (some (.int oR)) (rWo h0 wB w)) ([.ref h0, .int x1, .int x2] : List Value).toArray s 0 0 (kA (rWo h0 wB w))) (F0 m 109 ls []) := by
                    intro n k
                    induction n with
                    | zero =>
                      intro z6_109 H locs ls hX hl hf hk
                      rw [fX12_wrongOrder_L109] at hf
                      cases hf
                    | succ n ih =>
                      intro z6_109 H locs ls hX hl hf hk
                      rw [fX12_wrongOrder_L109] at hf
                      refine lv_iload hx hb (kd dtX12_wrongOrder_0 66 rfl) (lv_at hl 6 rfl) ?_
                      refine lv_iload hx hb (kd dtX12_wrongOrder_0 67 rfl) (lv_at hl 4 rfl) ?_
                      refine lv_icmp_ge (tgt := 142) hx hb (kd dtX12_wrongOrder_0 68 rfl) (by decide) (fun hc => ?_) (fun hc => ?_)
                      · have hf := kif_pos hc hf
                        exact hk z6_109 _ _ _ hX hl hf
                      · have hf := kif_neg hc hf
                        refine lv_aload_n hx hb (kd dtX12_wrongOrder_0 69 rfl) rfl (lv_at hl 0 rfl) ?_
                        refine rgetA (n := 7) (j := 7) hB (by decide) rfl F hX wfX12_31 (by decide) rfl (kd dtX12_wrongOrder_0 70 rfl) ?_
                        refine lv_bipush (v := (120 : Int32)) hx hb (kd dtX12_wrongOrder_0 71 rfl) (by decide) ?_
                        refine lv_iload_n hx hb (kd dtX12_wrongOrder_0 72 rfl) rfl (lv_at hl 2 rfl) ?_
                        refine lv_imul hx hb (kd dtX12_wrongOrder_0 73 rfl) ?_
                        refine lv_iload hx hb (kd dtX12_wrongOrder_0 74 rfl) (lv_at hl 6 rfl) ?_
                        refine lv_iadd hx hb (kd dtX12_wrongOrder_0 75 rfl) ?_
                        obtain ⟨v16, hv16, hf⟩ := kbind hf
                        refine rald hB (by decide) hv16 F hX (kd dtX12_wrongOrder_0 76 rfl) ?_
                        refine lv_iload hx hb (kd dtX12_wrongOrder_0 77 rfl) (lv_at hl 5 rfl) ?_
                        refine lv_icmp_ne (tgt := 136) hx hb (kd dtX12_wrongOrder_0 78 rfl) (by decide) (fun hc => ?_) (fun hc => ?_)
                        · have hf := kif_neg hc hf
                          refine lv_iinc (v := z6_109 + (1 : Int32)) (lv' := [(6, .int (z6_109 + (1 : Int32))), (0, .ref h0), (1, .int x1), (2, .int x2), (3, .int v5), (4, .int z4_56), (5, .int v11)]) hx hb (kd dtX12_wrongOrder_1 1 rfl) hl (k := 6) rfl (by rfl) (by decide) rfl (fun ls hl => ?_)
                          refine lv_goto (tgt := 109) hx hb (kd dtX12_wrongOrder_1 2 rfl) (by decide) ?_
                          exact ih (z6_109 + (1 : Int32)) _ _ _ hX (lv_sub hl [1, 2, 3, 4, 5, 6, 0] rfl) hf hk
                        · have hf := kif_pos hc hf
                          refine lv_bipush (v := (-13 : Int32)) hx hb (kd dtX12_wrongOrder_0 79 rfl) (by decide) ?_
                          obtain rfl := Option.some.inj hf
                          exact kiret F hX hr hlocks rfl (kd dtX12_wrongOrder_1 0 rfl)
                  refine hL109 kFU _ (0 : Int32) _ _ _ hX (lv_sub hl [2, 3, 4, 5, 6, 1, 0] rfl) hf ?_
                  intro y6_15 H locs ls hX hl hf
                  refine lv_iinc (v := z4_56 + (1 : Int32)) (lv' := [(4, .int (z4_56 + (1 : Int32))), (0, .ref h0), (1, .int x1), (2, .int x2), (3, .int v5), (5, .int v11), (6, .int y6_15)]) hx hb (kd dtX12_wrongOrder_1 3 rfl) hl (k := 4) rfl (by rfl) (by decide) rfl (fun ls hl => ?_)
                  refine lv_goto (tgt := 56) hx hb (kd dtX12_wrongOrder_1 4 rfl) (by decide) ?_
                  exact ih (z4_56 + (1 : Int32)) _ _ _ hX (lv_sub hl [1, 2, 3, 4, 0] rfl) hf hk
                · have hf := kif_neg hc hf
                  refine lv_bipush (v := (-13 : Int32)) hx hb (kd dtX12_wrongOrder_0 62 rfl) (by decide) ?_
                  obtain rfl := Option.some.inj hf
                  exact kiret F hX hr hlocks rfl (kd dtX12_wrongOrder_0 63 rfl)
        refine hL56 kFU _ (0 : Int32) _ _ _ hX (lv_sub hl [2, 3, 4, 1, 0] rfl) hf ?_
        intro y4_9 H locs ls hX hl hf
        refine lv_iconst (v := (0 : Int32)) hx hb (kd dtX12_wrongOrder_1 5 rfl) (by decide) ?_
        obtain rfl := Option.some.inj hf
        exact kiret F hX hr hlocks rfl (kd dtX12_wrongOrder_1 6 rfl)
      · have hf := kif_pos hc hf
        refine lv_bipush (v := (-13 : Int32)) hx hb (kd dtX12_wrongOrder_0 32 rfl) (by decide) ?_
        obtain rfl := Option.some.inj hf
        exact kiret F hX hr hlocks rfl (kd dtX12_wrongOrder_0 33 rfl)
    · have hf := kif_neg hc hf
      refine lv_iload_n hx hb (kd dtX12_wrongOrder_0 21 rfl) rfl (lv_at hl 0 rfl) ?_
      obtain rfl := Option.some.inj hf
      exact kiret F hX hr hlocks rfl (kd dtX12_wrongOrder_0 22 rfl)
  · have hf := kif_pos hc hf
    refine lv_iconst (v := (-1 : Int32)) hx hb (kd dtX12_wrongOrder_0 12 rfl) (by decide) ?_
    obtain rfl := Option.some.inj hf
    exact kiret F hX hr hlocks rfl (kd dtX12_wrongOrder_0 13 rfl)
theorem wfX12_322 : Cond.fieldLink RX12 322 (TX12 39).1 (TX12 39).2.1 (TX12 39).2.2.1 ∈ kT := kTm 1273 (by decide +kernel) rfl
theorem wfX12_325 : Cond.fieldLink RX12 325 (TX12 40).1 (TX12 40).2.1 (TX12 40).2.2.1 ∈ kT := kTm 1274 (by decide +kernel) rfl
def lX12_inOrder_0 : List (Nat × Instr × Nat) := [(0, .aload_n 0, 1), (1, .invokevirtual 307, 3), (4, .aload_n 0, 1), (5, .iconst 0, 1), (6, .putfield 322, 3), (9, .aload_n 0, 1), (10, .iconst 0, 1), (11, .putfield 325, 3), (14, .iload_n 3, 1), (15, .istore 4, 2), (17, .iconst 0, 1), (18, .istore 5, 2), (20, .iload 5, 2), (22, .aload_n 0, 1), (23, .getfield 28, 3), (26, .iload_n 2, 1), (27, .iaload, 1), (28, .if_icmp .ge 94, 3), (31, .aload_n 0, 1), (32, .getfield 31, 3), (35, .bipush 120, 2), (37, .iload_n 2, 1), (38, .imul, 1), (39, .iload 4, 2), (41, .bipush 8, 2), (43, .irem, 1), (44, .iadd, 1), (45, .iaload, 1), (46, .istore 6, 2), (48, .iload 4, 2), (50, .bipush 8, 2), (52, .idiv, 1), (53, .istore 4, 2), (55, .aload_n 0, 1), (56, .iload_n 1, 1), (57, .iload 6, 2), (59, .invokevirtual 310, 3), (62, .aload_n 0, 1), (63, .dup, 1), (64, .getfield 325, 3), (67, .aload_n 0, 1), (68, .getfield 251, 3), (71, .iadd, 1), (72, .putfield 325, 3), (75, .aload_n 0, 1), (76, .getfield 254, 3), (79, .ifCond .ge 6, 3), (82, .goto 34, 3), (85, .aload_n 0, 1), (86, .dup, 1), (87, .getfield 322, 3), (90, .iconst 1, 1), (91, .iadd, 1), (92, .putfield 322, 3), (95, .aload_n 0, 1), (96, .getfield 55, 3), (99, .aload_n 0, 1), (100, .getfield 242, 3), (103, .iload 6, 2), (105, .iastore, 1), (106, .aload_n 0, 1), (107, .dup, 1), (108, .getfield 242, 3), (111, .iconst 1, 1), (112, .iadd, 1), (113, .putfield 242, 3), (116, .iinc 5 1, 3), (119, .goto (-99), 3), (122, .return_, 1)]
theorem dtX12_inOrder_0 : kDec cX12_inOrder lX12_inOrder_0 = true := by decide +kernel
noncomputable def fX12_inOrder_L20 (x1 : Int32) (x2 : Int32) (x3 : Int32) : Nat → (Int32 → Int32 → rW → Option rW) → Int32 → Int32 → rW → Option rW
  | 0, _, _, _, _ => none
  | n + 1, k, x4, x5, w =>
  (raI w 6 8 x2).bind fun v1 =>
  if v1 ≤ x5 then
  k x4 x5 w
  else
  (raI w 7 960 (((120 : Int32) * x2) + (x4 - x4 / (8 : Int32) * (8 : Int32)))).bind fun v2 =>
  (fX12_runs x1 v2 w).bind fun w3 =>
  (rpF w3 40 ((rF w3 40) + (rF w3 29))).bind fun w5 =>
  if 0 ≤ (rF w5 31) then
  (rpF w5 39 ((rF w5 39) + (1 : Int32))).bind fun w6 =>
  (rsI w6 15 40 (rF w6 30) v2).bind fun w7 =>
  (rpF w7 30 ((rF w7 30) + (1 : Int32))).bind fun w8 =>
  fX12_inOrder_L20 x1 x2 x3 n k (x4 / (8 : Int32)) (x5 + (1 : Int32)) w8
  else
  fX12_inOrder_L20 x1 x2 x3 n k (x4 / (8 : Int32)) (x5 + (1 : Int32)) w5

noncomputable def fX12_inOrder (x1 : Int32) (x2 : Int32) (x3 : Int32) (w : rW) : Option rW :=
  (fX12_asNow w).bind fun w1 =>
  (rpF w1 39 (0 : Int32)).bind fun w3 =>
  (rpF w3 40 (0 : Int32)).bind fun w4 =>
  fX12_inOrder_L20 x1 x2 x3 kFU (fun y4_5 y5_6 w7 => some w7) x3 (0 : Int32) w4

set_option maxHeartbeats 4000000 in
set_option maxRecDepth 100000 in
theorem rX12_inOrder (l : Launch) (D : va_G) (aC : Nat → ClassId) {h0 : Nat} {wB : kW} (hB : rOK h0 wB) {x1 : Int32} {x2 : Int32} {x3 : Int32} {w : rW} {wR : rW} (h : fX12_inOrder x1 x2 x3 w = some wR) : kC l D aC yX12_inOrder cX12_inOrder 7 none 808 18980 [.ref h0, .int x1, .int x2, .int x3] (rWo h0 wB w) none (rWo h0 wB wR) 0 0 := by
  refine kOf (own := RX12) (by decide) rfl (Nat.le_of_ble_eq_true rfl) ?_
  intro p e s m below meth c ls F hml hr hlocks hnm hX hZ hl
  obtain ⟨hx, hb, hts, hown, hK⟩ := id F
  have hl : lv_has ls 7 [(0, .ref h0), (1, .int x1), (2, .int x2), (3, .int x3)] := hl
  have hf := h
  rw [fX12_inOrder] at hf
  refine lv_aload_n hx hb (kd dtX12_inOrder_0 0 rfl) rfl (lv_at hl 0 rfl) ?_
  obtain ⟨w1, h2, hf⟩ := kbind hf
  refine kcallV (n := 0) [] [] [] (rX12_asNow l D aC hB h2) rfl hB.1 F hml hX hZ hl.1 mwX12_asNow wmX12_307 rfl (by decide) (by decide +kernel) ⟨(by decide), (by decide)⟩ rfl rfl rfl (Nat.le_of_ble_eq_true rfl) (kd dtX12_inOrder_0 1 rfl) ⟨Nat.zero_le _, Nat.zero_le _⟩ (fun H locs hX => ?_)
  refine lv_aload_n hx hb (kd dtX12_inOrder_0 2 rfl) rfl (lv_at hl 0 rfl) ?_
  refine lv_iconst (v := (0 : Int32)) hx hb (kd dtX12_inOrder_0 3 rfl) (by decide) ?_
  obtain ⟨w3, hw3, hf⟩ := kbind hf
  refine rputF hw3 hB F hX wfX12_322 (by decide) rfl rfl rfl rfl (kd dtX12_inOrder_0 4 rfl) (fun H locs hX => ?_)
  refine lv_aload_n hx hb (kd dtX12_inOrder_0 5 rfl) rfl (lv_at hl 0 rfl) ?_
  refine lv_iconst (v := (0 : Int32)) hx hb (kd dtX12_inOrder_0 6 rfl) (by decide) ?_
  obtain ⟨w4, hw4, hf⟩ := kbind hf
  refine rputF hw4 hB F hX wfX12_325 (by decide) rfl rfl rfl rfl (kd dtX12_inOrder_0 7 rfl) (fun H locs hX => ?_)
  refine lv_iload_n hx hb (kd dtX12_inOrder_0 8 rfl) rfl (lv_at hl 3 rfl) ?_
  refine lv_istore (lv' := [(4, .int x3), (0, .ref h0), (1, .int x1), (2, .int x2), (3, .int x3)]) hx hb (kd dtX12_inOrder_0 9 rfl) hl (by decide) rfl (fun ls hl => ?_)
  refine lv_iconst (v := (0 : Int32)) hx hb (kd dtX12_inOrder_0 10 rfl) (by decide) ?_
  refine lv_istore (lv' := [(5, .int (0 : Int32)), (4, .int x3), (0, .ref h0), (1, .int x1), (2, .int x2), (3, .int x3)]) hx hb (kd dtX12_inOrder_0 11 rfl) hl (by decide) rfl (fun ls hl => ?_)
  have hL20 : ∀ (n : Nat) (k : Int32 → Int32 → rW → Option rW), ∀ (z4_20 : Int32) (z5_20 : Int32) (w_20 : rW) (H : Heap) (locs : List Loc) (ls : Array Slot), kX D aC (rWo h0 wB w) s.heap (rWo h0 wB w_20) H locs → lv_has ls 7 [(0, .ref h0), (1, .int x1), (2, .int x2), (3, .int x3), (4, .int z4_20), (5, .int z5_20)] → fX12_inOrder_L20 x1 x2 x3 n k z4_20 z5_20 w_20 = some wR → (∀ (z4_20 : Int32) (z5_20 : Int32) (w_20 : rW) (H : Heap) (locs : List Loc) (ls : Array Slot), kX D aC (rWo h0 wB w) s.heap (rWo h0 wB w_20) H locs → lv_has ls 7 [(0, .ref h0), (1, .int x1), (2, .int x2), (3, .int x3), (4, .int z4_20), (5, .int z5_20)] → k z4_20 z5_20 w_20 = some wR → W p l e { frames := 808, cells := 0, slots := 0, locals := 18980 } s m ([.ref h0, .int x1, .int x2, .int x3] : List Value).toArray below meth c H locs 0 0 (MQ below (kQc D aC (rWo h0 wB w) none (rWo h0 wB wR)) ([.ref h0, .int x1, .int x2, .int x3] : List Value).toArray s 0 0 (kA (rWo h0 wB w))) (F0 m 122 ls [])) → W p l e { frames := 808, cells := 0, slots := 0, locals := 18980 } s m ([.ref h0, .int x1, .int x2, .int x3] : List Value).toArray below meth c H locs 0 0 (MQ below (kQc D aC (rWo h0 wB w) none (rWo h0 wB wR)) ([.ref h0, .int x1, .int x2, .int x3] : List Value).toArray s 0 0 (kA (rWo h0 wB w))) (F0 m 20 ls []) := by
    intro n k
    induction n with
    | zero =>
      intro z4_20 z5_20 w_20 H locs ls hX hl hf hk
      rw [fX12_inOrder_L20] at hf
      cases hf
    | succ n ih =>
      intro z4_20 z5_20 w_20 H locs ls hX hl hf hk
      rw [fX12_inOrder_L20] at hf
      refine lv_iload hx hb (kd dtX12_inOrder_0 12 rfl) (lv_at hl 5 rfl) ?_
      refine lv_aload_n hx hb (kd dtX12_inOrder_0 13 rfl) rfl (lv_at hl 0 rfl) ?_
      refine rgetA (n := 6) (j := 6) hB (by decide) rfl F hX wfX12_28 (by decide) rfl (kd dtX12_inOrder_0 14 rfl) ?_
      refine lv_iload_n hx hb (kd dtX12_inOrder_0 15 rfl) rfl (lv_at hl 2 rfl) ?_
      obtain ⟨v8, hv8, hf⟩ := kbind hf
      refine rald hB (by decide) hv8 F hX (kd dtX12_inOrder_0 16 rfl) ?_
      refine lv_icmp_ge (tgt := 122) hx hb (kd dtX12_inOrder_0 17 rfl) (by decide) (fun hc => ?_) (fun hc => ?_)
      · have hf := kif_pos hc hf
        exact hk z4_20 z5_20 w_20 _ _ _ hX hl hf
      · have hf := kif_neg hc hf
        refine lv_aload_n hx hb (kd dtX12_inOrder_0 18 rfl) rfl (lv_at hl 0 rfl) ?_
        refine rgetA (n := 7) (j := 7) hB (by decide) rfl F hX wfX12_31 (by decide) rfl (kd dtX12_inOrder_0 19 rfl) ?_
        refine lv_bipush (v := (120 : Int32)) hx hb (kd dtX12_inOrder_0 20 rfl) (by decide) ?_
        refine lv_iload_n hx hb (kd dtX12_inOrder_0 21 rfl) rfl (lv_at hl 2 rfl) ?_
        refine lv_imul hx hb (kd dtX12_inOrder_0 22 rfl) ?_
        refine lv_iload hx hb (kd dtX12_inOrder_0 23 rfl) (lv_at hl 4 rfl) ?_
        refine lv_bipush (v := (8 : Int32)) hx hb (kd dtX12_inOrder_0 24 rfl) (by decide) ?_
        refine lv_irem hx hb (kd dtX12_inOrder_0 25 rfl) (by decide) ?_
        refine lv_iadd hx hb (kd dtX12_inOrder_0 26 rfl) ?_
        obtain ⟨v9, hv9, hf⟩ := kbind hf
        refine rald hB (by decide) hv9 F hX (kd dtX12_inOrder_0 27 rfl) ?_
        refine lv_istore (lv' := [(6, .int v9), (0, .ref h0), (1, .int x1), (2, .int x2), (3, .int x3), (4, .int z4_20), (5, .int z5_20)]) hx hb (kd dtX12_inOrder_0 28 rfl) hl (by decide) rfl (fun ls hl => ?_)
        refine lv_iload hx hb (kd dtX12_inOrder_0 29 rfl) (lv_at hl 5 rfl) ?_
        refine lv_bipush (v := (8 : Int32)) hx hb (kd dtX12_inOrder_0 30 rfl) (by decide) ?_
        refine lv_idiv hx hb (kd dtX12_inOrder_0 31 rfl) (by decide) ?_
        refine lv_istore (lv' := [(4, .int (z4_20 / (8 : Int32))), (6, .int v9), (0, .ref h0), (1, .int x1), (2, .int x2), (3, .int x3), (5, .int z5_20)]) hx hb (kd dtX12_inOrder_0 32 rfl) hl (by decide) rfl (fun ls hl => ?_)
        refine lv_aload_n hx hb (kd dtX12_inOrder_0 33 rfl) rfl (lv_at hl 2 rfl) ?_
        refine lv_iload_n hx hb (kd dtX12_inOrder_0 34 rfl) rfl (lv_at hl 3 rfl) ?_
        refine lv_iload hx hb (kd dtX12_inOrder_0 35 rfl) (lv_at hl 1 rfl) ?_
        obtain ⟨w10, h11, hf⟩ := kbind hf
        refine kcallV (n := 2) [.int x1, .int v9] [] [] (rX12_runs l D aC hB h11) rfl hB.1 F hml hX hZ hl.1 mwX12_runs wmX12_310 rfl (by decide) (by decide +kernel) ⟨(by decide), (by decide)⟩ rfl rfl rfl (Nat.le_of_ble_eq_true rfl) (kd dtX12_inOrder_0 36 rfl) ⟨Nat.zero_le _, Nat.zero_le _⟩ (fun H locs hX => ?_)
        refine lv_aload_n hx hb (kd dtX12_inOrder_0 37 rfl) rfl (lv_at hl 2 rfl) ?_
        refine lv_dup hx hb (kd dtX12_inOrder_0 38 rfl) rfl ?_
        refine rgetF (j := 40) hB F hX wfX12_325 (by decide) rfl (kd dtX12_inOrder_0 39 rfl) ?_
        refine lv_aload_n hx hb (kd dtX12_inOrder_0 40 rfl) rfl (lv_at hl 2 rfl) ?_
        refine rgetF (j := 29) hB F hX wfX12_251 (by decide) rfl (kd dtX12_inOrder_0 41 rfl) ?_
        refine lv_iadd hx hb (kd dtX12_inOrder_0 42 rfl) ?_
        obtain ⟨w12, hw12, hf⟩ := kbind hf
        refine rputF hw12 hB F hX wfX12_325 (by decide) rfl rfl rfl rfl (kd dtX12_inOrder_0 43 rfl) (fun H locs hX => ?_)
        refine lv_aload_n hx hb (kd dtX12_inOrder_0 44 rfl) rfl (lv_at hl 2 rfl) ?_
        refine rgetF (j := 31) hB F hX wfX12_254 (by decide) rfl (kd dtX12_inOrder_0 45 rfl) ?_
        refine lv_if_ge (tgt := 85) hx hb (kd dtX12_inOrder_0 46 rfl) (by decide) (fun hc => ?_) (fun hc => ?_)
        · have hf := kif_pos hc hf
          refine lv_aload_n hx hb (kd dtX12_inOrder_0 48 rfl) rfl (lv_at hl 2 rfl) ?_
          refine lv_dup hx hb (kd dtX12_inOrder_0 49 rfl) rfl ?_
          refine rgetF (j := 39) hB F hX wfX12_322 (by decide) rfl (kd dtX12_inOrder_0 50 rfl) ?_
          refine lv_iconst (v := (1 : Int32)) hx hb (kd dtX12_inOrder_0 51 rfl) (by decide) ?_
          refine lv_iadd hx hb (kd dtX12_inOrder_0 52 rfl) ?_
          obtain ⟨w13, hw13, hf⟩ := kbind hf
          refine rputF hw13 hB F hX wfX12_322 (by decide) rfl rfl rfl rfl (kd dtX12_inOrder_0 53 rfl) (fun H locs hX => ?_)
          refine lv_aload_n hx hb (kd dtX12_inOrder_0 54 rfl) rfl (lv_at hl 2 rfl) ?_
          refine rgetA (n := 15) (j := 27) hB (by decide) rfl F hX wfX12_55 (by decide) rfl (kd dtX12_inOrder_0 55 rfl) ?_
          refine lv_aload_n hx hb (kd dtX12_inOrder_0 56 rfl) rfl (lv_at hl 2 rfl) ?_
          refine rgetF (j := 30) hB F hX wfX12_242 (by decide) rfl (kd dtX12_inOrder_0 57 rfl) ?_
          refine lv_iload hx hb (kd dtX12_inOrder_0 58 rfl) (lv_at hl 1 rfl) ?_
          obtain ⟨w14, hw14, hf⟩ := kbind hf
          refine rast hB (by decide) hw14 F hX (kd dtX12_inOrder_0 59 rfl) (fun H locs hX => ?_)
          refine lv_aload_n hx hb (kd dtX12_inOrder_0 60 rfl) rfl (lv_at hl 2 rfl) ?_
          refine lv_dup hx hb (kd dtX12_inOrder_0 61 rfl) rfl ?_
          refine rgetF (j := 30) hB F hX wfX12_242 (by decide) rfl (kd dtX12_inOrder_0 62 rfl) ?_
          refine lv_iconst (v := (1 : Int32)) hx hb (kd dtX12_inOrder_0 63 rfl) (by decide) ?_
          refine lv_iadd hx hb (kd dtX12_inOrder_0 64 rfl) ?_
          obtain ⟨w15, hw15, hf⟩ := kbind hf
          refine rputF hw15 hB F hX wfX12_242 (by decide) rfl rfl rfl rfl (kd dtX12_inOrder_0 65 rfl) (fun H locs hX => ?_)
          refine lv_iinc (v := z5_20 + (1 : Int32)) (lv' := [(5, .int (z5_20 + (1 : Int32))), (4, .int (z4_20 / (8 : Int32))), (6, .int v9), (0, .ref h0), (1, .int x1), (2, .int x2), (3, .int x3)]) hx hb (kd dtX12_inOrder_0 66 rfl) hl (k := 6) rfl (by rfl) (by decide) rfl (fun ls hl => ?_)
          refine lv_goto (tgt := 20) hx hb (kd dtX12_inOrder_0 67 rfl) (by decide) ?_
          exact ih (z4_20 / (8 : Int32)) (z5_20 + (1 : Int32)) w15 _ _ _ hX (lv_sub hl [3, 4, 5, 6, 1, 0] rfl) hf hk
        · have hf := kif_neg hc hf
          refine lv_goto (tgt := 116) hx hb (kd dtX12_inOrder_0 47 rfl) (by decide) ?_
          refine lv_iinc (v := z5_20 + (1 : Int32)) (lv' := [(5, .int (z5_20 + (1 : Int32))), (4, .int (z4_20 / (8 : Int32))), (6, .int v9), (0, .ref h0), (1, .int x1), (2, .int x2), (3, .int x3)]) hx hb (kd dtX12_inOrder_0 66 rfl) hl (k := 6) rfl (by rfl) (by decide) rfl (fun ls hl => ?_)
          refine lv_goto (tgt := 20) hx hb (kd dtX12_inOrder_0 67 rfl) (by decide) ?_
          exact ih (z4_20 / (8 : Int32)) (z5_20 + (1 : Int32)) w12 _ _ _ hX (lv_sub hl [3, 4, 5, 6, 1, 0] rfl) hf hk
  refine hL20 kFU _ x3 (0 : Int32) w4 _ _ _ hX (lv_sub hl [2, 3, 4, 5, 1, 0] rfl) hf ?_
  intro y4_5 y5_6 w7 H locs ls hX hl hf
  obtain rfl := Option.some.inj hf
  exact kvret F hX hr hlocks rfl (kd dtX12_inOrder_0 68 rfl)
def lX12_asTold_0 : List (Nat × Instr × Nat) := [(0, .iload_n 0, 1), (1, .iconst 1, 1), (2, .if_icmp .ne 7, 3), (5, .iconst 0, 1), (6, .goto 16, 3), (9, .iload_n 0, 1), (10, .iconst 2, 1), (11, .if_icmp .ne 8, 3), (14, .bipush 8, 2), (16, .goto 6, 3), (19, .sipush 136, 3), (22, .ireturn, 1)]
theorem dtX12_asTold_0 : kDec cX12_asTold lX12_asTold_0 = true := by decide +kernel
noncomputable def fX12_asTold (x0 : Int32) : Option Int32 :=
  if x0 = (1 : Int32) then
  some (0 : Int32)
  else
  if x0 = (2 : Int32) then
  some (8 : Int32)
  else
  some (136 : Int32)

set_option maxHeartbeats 4000000 in
set_option maxRecDepth 100000 in
theorem rX12_asTold (l : Launch) (D : va_G) (aC : Nat → ClassId) (w : kW) {x0 : Int32} {oR : Int32} (h : fX12_asTold x0 = some oR) : kC l D aC yX12_asTold cX12_asTold 1 (some .int) 1 12 [.int x0] w (some (.int oR)) w 0 0 := by
  refine kOf (own := RX12) (by decide) rfl (Nat.le_of_ble_eq_true rfl) ?_
  intro p e s m below meth c ls F hml hr hlocks hnm hX hZ hl
  obtain ⟨hx, hb, hts, hown, hK⟩ := id F
  have hl : lv_has ls 1 [(0, .int x0)] := hl
  have hf := h
  rw [fX12_asTold] at hf
  refine lv_iload_n hx hb (kd dtX12_asTold_0 0 rfl) rfl (lv_at hl 0 rfl) ?_
  refine lv_iconst (v := (1 : Int32)) hx hb (kd dtX12_asTold_0 1 rfl) (by decide) ?_
  refine lv_icmp_ne (tgt := 9) hx hb (kd dtX12_asTold_0 2 rfl) (by decide) (fun hc => ?_) (fun hc => ?_)
  · have hf := kif_neg hc hf
    refine lv_iload_n hx hb (kd dtX12_asTold_0 5 rfl) rfl (lv_at hl 0 rfl) ?_
    refine lv_iconst (v := (2 : Int32)) hx hb (kd dtX12_asTold_0 6 rfl) (by decide) ?_
    refine lv_icmp_ne (tgt := 19) hx hb (kd dtX12_asTold_0 7 rfl) (by decide) (fun hc => ?_) (fun hc => ?_)
    · have hf := kif_neg hc hf
      refine lv_sipush (v := (136 : Int32)) hx hb (kd dtX12_asTold_0 10 rfl) (by decide) ?_
      obtain rfl := Option.some.inj hf
      exact kiret F hX hr hlocks rfl (kd dtX12_asTold_0 11 rfl)
    · have hf := kif_pos hc hf
      refine lv_bipush (v := (8 : Int32)) hx hb (kd dtX12_asTold_0 8 rfl) (by decide) ?_
      refine lv_goto (tgt := 22) hx hb (kd dtX12_asTold_0 9 rfl) (by decide) ?_
      obtain rfl := Option.some.inj hf
      exact kiret F hX hr hlocks rfl (kd dtX12_asTold_0 11 rfl)
  · have hf := kif_pos hc hf
    refine lv_iconst (v := (0 : Int32)) hx hb (kd dtX12_asTold_0 3 rfl) (by decide) ?_
    refine lv_goto (tgt := 22) hx hb (kd dtX12_asTold_0 4 rfl) (by decide) ?_
    obtain rfl := Option.some.inj hf
    exact kiret F hX hr hlocks rfl (kd dtX12_asTold_0 11 rfl)
theorem wmX12_328 : Cond.methodLink RX12 328 yX12_wrongOrder ∈ kT := kTm 1660 (by decide +kernel) rfl
theorem mwX12_wrongOrder : kMV RX12 yX12_wrongOrder cX12_wrongOrder 7 (some .int) := ⟨kTm 1663 (by decide +kernel) rfl, kTm 106 (by decide +kernel) rfl, kTm 1662 (by decide +kernel) rfl, kTm 88 (by decide +kernel) rfl⟩
theorem wmX12_331 : Cond.methodLink RX12 331 yX12_asTold ∈ kT := kTm 1664 (by decide +kernel) rfl
theorem mwX12_asTold : kMS yX12_asTold cX12_asTold 1 (some .int) := ⟨kTm 1666 (by decide +kernel) rfl, kTm 106 (by decide +kernel) rfl, kTm 1665 (by decide +kernel) rfl⟩
theorem wmX12_334 : Cond.methodLink RX12 334 yX12_inOrder ∈ kT := kTm 1667 (by decide +kernel) rfl
theorem mwX12_inOrder : kMV RX12 yX12_inOrder cX12_inOrder 7 none := ⟨kTm 1670 (by decide +kernel) rfl, kTm 106 (by decide +kernel) rfl, kTm 1669 (by decide +kernel) rfl, kTm 89 (by decide +kernel) rfl⟩
def lX12_order_0 : List (Nat × Instr × Nat) := [(0, .iload_n 3, 1), (1, .i2l, 1), (2, .lconst 0, 1), (3, .lconst 1, 1), (4, .invokestatic 65, 3), (7, .ifCond .ne 5, 3), (10, .iconst (-1), 1), (11, .ireturn, 1), (12, .aload_n 0, 1), (13, .iload_n 1, 1), (14, .iload_n 2, 1), (15, .invokevirtual 328, 3), (18, .istore 4, 2), (20, .iload 4, 2), (22, .ifCond .eq 6, 3), (25, .iload 4, 2), (27, .ireturn, 1), (28, .aload_n 0, 1), (29, .iload_n 1, 1), (30, .iload_n 2, 1), (31, .aload_n 0, 1), (32, .getfield 28, 3), (35, .iload_n 2, 1), (36, .iaload, 1), (37, .invokestatic 331, 3), (40, .invokevirtual 334, 3), (43, .iload_n 3, 1), (44, .ifCond .ne 10, 3), (47, .aload_n 0, 1), (48, .getfield 322, 3), (51, .goto 7, 3), (54, .aload_n 0, 1), (55, .getfield 325, 3), (58, .ireturn, 1)]
theorem dtX12_order_0 : kDec cX12_order lX12_order_0 = true := by decide +kernel
noncomputable def fX12_order (x1 : Int32) (x2 : Int32) (x3 : Int32) (w : rW) : Option (Int32 × rW) :=
  (fX12_isIn x3.toInt64 (0 : Int64) (1 : Int64)).bind fun v2 =>
  if v2 = 0 then
  some ((-1 : Int32), w)
  else
  (fX12_wrongOrder x1 x2 w).bind fun v4 =>
  if v4 = 0 then
  (raI w 6 8 x2).bind fun v5 =>
  (fX12_asTold v5).bind fun v7 =>
  (fX12_inOrder x1 x2 v7 w).bind fun w8 =>
  if x3 = 0 then
  some (rF w8 39, w8)
  else
  some (rF w8 40, w8)
  else
  some (v4, w)

set_option maxHeartbeats 4000000 in
set_option maxRecDepth 100000 in
theorem rX12_order (l : Launch) (D : va_G) (aC : Nat → ClassId) {h0 : Nat} {wB : kW} (hB : rOK h0 wB) {x1 : Int32} {x2 : Int32} {x3 : Int32} {w : rW} {wR : rW} {oR : Int32} (h : fX12_order x1 x2 x3 w = some (oR, wR)) : kC l D aC yX12_order cX12_order 5 (some .int) 809 19006 [.ref h0, .int x1, .int x2, .int x3] (rWo h0 wB w) (some (.int oR)) (rWo h0 wB wR) 0 0 := by
  refine kOf (own := RX12) (by decide) rfl (Nat.le_of_ble_eq_true rfl) ?_
  intro p e s m below meth c ls F hml hr hlocks hnm hX hZ hl
  obtain ⟨hx, hb, hts, hown, hK⟩ := id F
  have hl : lv_has ls 5 [(0, .ref h0), (1, .int x1), (2, .int x2), (3, .int x3)] := hl
  have hf := h
  rw [fX12_order] at hf
  refine lv_iload_n hx hb (kd dtX12_order_0 0 rfl) rfl (lv_at hl 3 rfl) ?_
  refine lv_i2l (v := x3.toInt64) hx hb (kd dtX12_order_0 1 rfl) rfl ?_
  refine lv_lconst (v := (0 : Int64)) hx hb (kd dtX12_order_0 2 rfl) (by decide) ?_
  refine lv_lconst (v := (1 : Int64)) hx hb (kd dtX12_order_0 3 rfl) (by decide) ?_
  obtain ⟨v2, h1, hf⟩ := kbind hf
  refine kcallS (n := 3) [.long x3.toInt64, .long (0 : Int64), .long (1 : Int64)] [] [.int v2] (rX12_isIn l D aC (rWo h0 wB w) h1) F hml hX hZ hl.1 mwX12_isIn wmX12_65 (by decide +kernel) ⟨(by decide), (by decide)⟩ rfl rfl rfl (Nat.le_of_ble_eq_true rfl) (kd dtX12_order_0 4 rfl) ⟨Nat.zero_le _, Nat.zero_le _⟩ (fun H locs hX => ?_)
  refine lv_if_ne (tgt := 12) hx hb (kd dtX12_order_0 5 rfl) (by decide) (fun hc => ?_) (fun hc => ?_)
  · have hf := kif_neg hc hf
    refine lv_aload_n hx hb (kd dtX12_order_0 8 rfl) rfl (lv_at hl 0 rfl) ?_
    refine lv_iload_n hx hb (kd dtX12_order_0 9 rfl) rfl (lv_at hl 1 rfl) ?_
    refine lv_iload_n hx hb (kd dtX12_order_0 10 rfl) rfl (lv_at hl 2 rfl) ?_
    obtain ⟨v4, h3, hf⟩ := kbind hf
    refine kcallV (n := 2) [.int x1, .int x2] [] [.int v4] (rX12_wrongOrder l D aC hB h3) rfl hB.1 F hml hX hZ hl.1 mwX12_wrongOrder wmX12_328 rfl (by decide) (by decide +kernel) ⟨(by decide), (by decide)⟩ rfl rfl rfl (Nat.le_of_ble_eq_true rfl) (kd dtX12_order_0 11 rfl) ⟨Nat.zero_le _, Nat.zero_le _⟩ (fun H locs hX => ?_)
    refine lv_istore (lv' := [(4, .int v4), (0, .ref h0), (1, .int x1), (2, .int x2), (3, .int x3)]) hx hb (kd dtX12_order_0 12 rfl) hl (by decide) rfl (fun ls hl => ?_)
    refine lv_iload hx hb (kd dtX12_order_0 13 rfl) (lv_at hl 0 rfl) ?_
    refine lv_if_eq (tgt := 28) hx hb (kd dtX12_order_0 14 rfl) (by decide) (fun hc => ?_) (fun hc => ?_)
    · have hf := kif_pos hc hf
      refine lv_aload_n hx hb (kd dtX12_order_0 17 rfl) rfl (lv_at hl 1 rfl) ?_
      refine lv_iload_n hx hb (kd dtX12_order_0 18 rfl) rfl (lv_at hl 2 rfl) ?_
      refine lv_iload_n hx hb (kd dtX12_order_0 19 rfl) rfl (lv_at hl 3 rfl) ?_
      refine lv_aload_n hx hb (kd dtX12_order_0 20 rfl) rfl (lv_at hl 1 rfl) ?_
      refine rgetA (n := 6) (j := 6) hB (by decide) rfl F hX wfX12_28 (by decide) rfl (kd dtX12_order_0 21 rfl) ?_
      refine lv_iload_n hx hb (kd dtX12_order_0 22 rfl) rfl (lv_at hl 3 rfl) ?_
      obtain ⟨v5, hv5, hf⟩ := kbind hf
      refine rald hB (by decide) hv5 F hX (kd dtX12_order_0 23 rfl) ?_
      obtain ⟨v7, h6, hf⟩ := kbind hf
      refine kcallS (n := 1) [.int v5] [.int x2, .int x1, .ref h0] [.int v7, .int x2, .int x1, .ref h0] (rX12_asTold l D aC (rWo h0 wB w) h6) F hml hX hZ hl.1 mwX12_asTold wmX12_331 (by decide +kernel) ⟨(by decide), (by decide)⟩ rfl rfl rfl (Nat.le_of_ble_eq_true rfl) (kd dtX12_order_0 24 rfl) ⟨Nat.zero_le _, Nat.zero_le _⟩ (fun H locs hX => ?_)
      obtain ⟨w8, h9, hf⟩ := kbind hf
      refine kcallV (n := 3) [.int x1, .int x2, .int v7] [] [] (rX12_inOrder l D aC hB h9) rfl hB.1 F hml hX hZ hl.1 mwX12_inOrder wmX12_334 rfl (by decide) (by decide +kernel) ⟨(by decide), (by decide)⟩ rfl rfl rfl (Nat.le_of_ble_eq_true rfl) (kd dtX12_order_0 25 rfl) ⟨Nat.zero_le _, Nat.zero_le _⟩ (fun H locs hX => ?_)
      refine lv_iload_n hx hb (kd dtX12_order_0 26 rfl) rfl (lv_at hl 4 rfl) ?_
      refine lv_if_ne (tgt := 54) hx hb (kd dtX12_order_0 27 rfl) (by decide) (fun hc => ?_) (fun hc => ?_)
      · have hf := kif_neg hc hf
        refine lv_aload_n hx hb (kd dtX12_order_0 31 rfl) rfl (lv_at hl 1 rfl) ?_
        refine rgetF (j := 40) hB F hX wfX12_325 (by decide) rfl (kd dtX12_order_0 32 rfl) ?_
        obtain ⟨rfl, rfl⟩ := Prod.mk.inj (Option.some.inj hf)
        exact kiret F hX hr hlocks rfl (kd dtX12_order_0 33 rfl)
      · have hf := kif_pos hc hf
        refine lv_aload_n hx hb (kd dtX12_order_0 28 rfl) rfl (lv_at hl 1 rfl) ?_
        refine rgetF (j := 39) hB F hX wfX12_322 (by decide) rfl (kd dtX12_order_0 29 rfl) ?_
        refine lv_goto (tgt := 58) hx hb (kd dtX12_order_0 30 rfl) (by decide) ?_
        obtain ⟨rfl, rfl⟩ := Prod.mk.inj (Option.some.inj hf)
        exact kiret F hX hr hlocks rfl (kd dtX12_order_0 33 rfl)
    · have hf := kif_neg hc hf
      refine lv_iload hx hb (kd dtX12_order_0 15 rfl) (lv_at hl 0 rfl) ?_
      obtain ⟨rfl, rfl⟩ := Prod.mk.inj (Option.some.inj hf)
      exact kiret F hX hr hlocks rfl (kd dtX12_order_0 16 rfl)
  · have hf := kif_pos hc hf
    refine lv_iconst (v := (-1 : Int32)) hx hb (kd dtX12_order_0 6 rfl) (by decide) ?_
    obtain ⟨rfl, rfl⟩ := Prod.mk.inj (Option.some.inj hf)
    exact kiret F hX hr hlocks rfl (kd dtX12_order_0 7 rfl)
def lX12_isOrder_0 : List (Nat × Instr × Nat) := [(0, .iconst 0, 1), (1, .istore_n 3, 1), (2, .iload_n 1, 1), (3, .istore 4, 2), (5, .iconst 0, 1), (6, .istore 5, 2), (8, .iload 5, 2), (10, .iload_n 2, 1), (11, .if_icmp .ge 26, 3), (14, .iload_n 3, 1), (15, .iconst 1, 1), (16, .iload 4, 2), (18, .bipush 8, 2), (20, .irem, 1), (21, .ishl, 1), (22, .ior, 1), (23, .istore_n 3, 1), (24, .iload 4, 2), (26, .bipush 8, 2), (28, .idiv, 1), (29, .istore 4, 2), (31, .iinc 5 1, 3), (34, .goto (-26), 3), (37, .iload 4, 2), (39, .ifCond .ne 16, 3), (42, .iload_n 3, 1), (43, .iconst 1, 1), (44, .iload_n 2, 1), (45, .ishl, 1), (46, .iconst 1, 1), (47, .isub, 1), (48, .if_icmp .ne 7, 3), (51, .iconst 1, 1), (52, .goto 4, 3), (55, .iconst 0, 1), (56, .ireturn, 1)]
theorem dtX12_isOrder_0 : kDec cX12_isOrder lX12_isOrder_0 = true := by decide +kernel
noncomputable def fX12_isOrder_L8 (x1 : Int32) (x2 : Int32) : Nat → (Int32 → Int32 → Int32 → Option Int32) → Int32 → Int32 → Int32 → Option Int32
  | 0, _, _, _, _ => none
  | n + 1, k, x3, x4, x5 =>
  if x2 ≤ x5 then
  k x3 x4 x5
  else
  (some (x3 ||| ((1 : Int32) <<< ((x4 - x4 / (8 : Int32) * (8 : Int32)) &&& 31)))).bind fun v1 =>
  fX12_isOrder_L8 x1 x2 n k v1 (x4 / (8 : Int32)) (x5 + (1 : Int32))

noncomputable def fX12_isOrder (x1 : Int32) (x2 : Int32) : Option Int32 :=
  fX12_isOrder_L8 x1 x2 kFU (fun y3_1 y4_2 y5_3 => if y4_2 = 0 then
  if y3_1 = (((1 : Int32) <<< (x2 &&& 31)) - (1 : Int32)) then
  some (1 : Int32)
  else
  some (0 : Int32)
  else
  some (0 : Int32)) (0 : Int32) x1 (0 : Int32)

set_option maxHeartbeats 4000000 in
set_option maxRecDepth 100000 in
theorem rX12_isOrder (l : Launch) (D : va_G) (aC : Nat → ClassId) (w : kW) {x0 : Nat} {x1 : Int32} {x2 : Int32} {oR : Int32} (h : fX12_isOrder x1 x2 = some oR) : kC l D aC yX12_isOrder cX12_isOrder 6 (some .boolean) 1 12 [.ref x0, .int x1, .int x2] w (some (.int oR)) w 0 0 := by
  refine kOf (own := RX12) (by decide) rfl (Nat.le_of_ble_eq_true rfl) ?_
  intro p e s m below meth c ls F hml hr hlocks hnm hX hZ hl
  obtain ⟨hx, hb, hts, hown, hK⟩ := id F
  have hl : lv_has ls 6 [(0, .ref x0), (1, .int x1), (2, .int x2)] := hl
  have hf := h
  rw [fX12_isOrder] at hf
  refine lv_iconst (v := (0 : Int32)) hx hb (kd dtX12_isOrder_0 0 rfl) (by decide) ?_
  refine lv_istore_n (lv' := [(3, .int (0 : Int32)), (0, .ref x0), (1, .int x1), (2, .int x2)]) hx hb (kd dtX12_isOrder_0 1 rfl) rfl hl (by decide) rfl (fun ls hl => ?_)
  refine lv_iload_n hx hb (kd dtX12_isOrder_0 2 rfl) rfl (lv_at hl 2 rfl) ?_
  refine lv_istore (lv' := [(4, .int x1), (3, .int (0 : Int32)), (0, .ref x0), (1, .int x1), (2, .int x2)]) hx hb (kd dtX12_isOrder_0 3 rfl) hl (by decide) rfl (fun ls hl => ?_)
  refine lv_iconst (v := (0 : Int32)) hx hb (kd dtX12_isOrder_0 4 rfl) (by decide) ?_
  refine lv_istore (lv' := [(5, .int (0 : Int32)), (4, .int x1), (3, .int (0 : Int32)), (0, .ref x0), (1, .int x1), (2, .int x2)]) hx hb (kd dtX12_isOrder_0 5 rfl) hl (by decide) rfl (fun ls hl => ?_)
  have hL8 : ∀ (n : Nat) (k : Int32 → Int32 → Int32 → Option Int32), ∀ (z3_8 : Int32) (z4_8 : Int32) (z5_8 : Int32) (H : Heap) (locs : List Loc) (ls : Array Slot), kX D aC w s.heap w H locs → lv_has ls 6 [(0, .ref x0), (1, .int x1), (2, .int x2), (3, .int z3_8), (4, .int z4_8), (5, .int z5_8)] → fX12_isOrder_L8 x1 x2 n k z3_8 z4_8 z5_8 = some oR → (∀ (z3_8 : Int32) (z4_8 : Int32) (z5_8 : Int32) (H : Heap) (locs : List Loc) (ls : Array Slot), kX D aC w s.heap w H locs → lv_has ls 6 [(0, .ref x0), (1, .int x1), (2, .int x2), (3, .int z3_8), (4, .int z4_8), (5, .int z5_8)] → k z3_8 z4_8 z5_8 = some oR → W p l e { frames := 1, cells := 0, slots := 0, locals := 12 } s m ([.ref x0, .int x1, .int x2] : List Value).toArray below meth c H locs 0 0 (MQ below (kQc D aC w (some (.int oR)) w) ([.ref x0, .int x1, .int x2] : List Value).toArray s 0 0 (kA w)) (F0 m 37 ls [])) → W p l e { frames := 1, cells := 0, slots := 0, locals := 12 } s m ([.ref x0, .int x1, .int x2] : List Value).toArray below meth c H locs 0 0 (MQ below (kQc D aC w (some (.int oR)) w) ([.ref x0, .int x1, .int x2] : List Value).toArray s 0 0 (kA w)) (F0 m 8 ls []) := by
    intro n k
    induction n with
    | zero =>
      intro z3_8 z4_8 z5_8 H locs ls hX hl hf hk
      rw [fX12_isOrder_L8] at hf
      cases hf
    | succ n ih =>
      intro z3_8 z4_8 z5_8 H locs ls hX hl hf hk
      rw [fX12_isOrder_L8] at hf
      refine lv_iload hx hb (kd dtX12_isOrder_0 6 rfl) (lv_at hl 5 rfl) ?_
      refine lv_iload_n hx hb (kd dtX12_isOrder_0 7 rfl) rfl (lv_at hl 2 rfl) ?_
      refine lv_icmp_ge (tgt := 37) hx hb (kd dtX12_isOrder_0 8 rfl) (by decide) (fun hc => ?_) (fun hc => ?_)
      · have hf := kif_pos hc hf
        exact hk z3_8 z4_8 z5_8 _ _ _ hX hl hf
      · have hf := kif_neg hc hf
        refine lv_iload_n hx hb (kd dtX12_isOrder_0 9 rfl) rfl (lv_at hl 3 rfl) ?_
        refine lv_iconst (v := (1 : Int32)) hx hb (kd dtX12_isOrder_0 10 rfl) (by decide) ?_
        refine lv_iload hx hb (kd dtX12_isOrder_0 11 rfl) (lv_at hl 4 rfl) ?_
        refine lv_bipush (v := (8 : Int32)) hx hb (kd dtX12_isOrder_0 12 rfl) (by decide) ?_
        refine lv_irem hx hb (kd dtX12_isOrder_0 13 rfl) (by decide) ?_
        refine lv_ishl hx hb (kd dtX12_isOrder_0 14 rfl) ?_
        refine lv_ior hx hb (kd dtX12_isOrder_0 15 rfl) ?_
        obtain ⟨v4, hv4, hf⟩ := kbind hf
        have hv4 := Option.some.inj hv4
        rw [hv4]
        refine lv_istore_n (lv' := [(3, .int v4), (0, .ref x0), (1, .int x1), (2, .int x2), (4, .int z4_8), (5, .int z5_8)]) hx hb (kd dtX12_isOrder_0 16 rfl) rfl hl (by decide) rfl (fun ls hl => ?_)
        refine lv_iload hx hb (kd dtX12_isOrder_0 17 rfl) (lv_at hl 4 rfl) ?_
        refine lv_bipush (v := (8 : Int32)) hx hb (kd dtX12_isOrder_0 18 rfl) (by decide) ?_
        refine lv_idiv hx hb (kd dtX12_isOrder_0 19 rfl) (by decide) ?_
        refine lv_istore (lv' := [(4, .int (z4_8 / (8 : Int32))), (3, .int v4), (0, .ref x0), (1, .int x1), (2, .int x2), (5, .int z5_8)]) hx hb (kd dtX12_isOrder_0 20 rfl) hl (by decide) rfl (fun ls hl => ?_)
        refine lv_iinc (v := z5_8 + (1 : Int32)) (lv' := [(5, .int (z5_8 + (1 : Int32))), (4, .int (z4_8 / (8 : Int32))), (3, .int v4), (0, .ref x0), (1, .int x1), (2, .int x2)]) hx hb (kd dtX12_isOrder_0 21 rfl) hl (k := 5) rfl (by rfl) (by decide) rfl (fun ls hl => ?_)
        refine lv_goto (tgt := 8) hx hb (kd dtX12_isOrder_0 22 rfl) (by decide) ?_
        exact ih v4 (z4_8 / (8 : Int32)) (z5_8 + (1 : Int32)) _ _ _ hX (lv_sub hl [3, 4, 5, 2, 1, 0] rfl) hf hk
  refine hL8 kFU _ (0 : Int32) x1 (0 : Int32) _ _ _ hX (lv_sub hl [3, 4, 5, 2, 1, 0] rfl) hf ?_
  intro y3_1 y4_2 y5_3 H locs ls hX hl hf
  refine lv_iload hx hb (kd dtX12_isOrder_0 23 rfl) (lv_at hl 4 rfl) ?_
  refine lv_if_ne (tgt := 55) hx hb (kd dtX12_isOrder_0 24 rfl) (by decide) (fun hc => ?_) (fun hc => ?_)
  · have hf := kif_neg hc hf
    refine lv_iconst (v := (0 : Int32)) hx hb (kd dtX12_isOrder_0 34 rfl) (by decide) ?_
    obtain rfl := Option.some.inj hf
    exact kzret F hX hr hlocks rfl rfl (kd dtX12_isOrder_0 35 rfl)
  · have hf := kif_pos hc hf
    refine lv_iload_n hx hb (kd dtX12_isOrder_0 25 rfl) rfl (lv_at hl 3 rfl) ?_
    refine lv_iconst (v := (1 : Int32)) hx hb (kd dtX12_isOrder_0 26 rfl) (by decide) ?_
    refine lv_iload_n hx hb (kd dtX12_isOrder_0 27 rfl) rfl (lv_at hl 2 rfl) ?_
    refine lv_ishl hx hb (kd dtX12_isOrder_0 28 rfl) ?_
    refine lv_iconst (v := (1 : Int32)) hx hb (kd dtX12_isOrder_0 29 rfl) (by decide) ?_
    refine lv_isub hx hb (kd dtX12_isOrder_0 30 rfl) ?_
    refine lv_icmp_ne (tgt := 55) hx hb (kd dtX12_isOrder_0 31 rfl) (by decide) (fun hc => ?_) (fun hc => ?_)
    · have hf := kif_neg hc hf
      refine lv_iconst (v := (0 : Int32)) hx hb (kd dtX12_isOrder_0 34 rfl) (by decide) ?_
      obtain rfl := Option.some.inj hf
      exact kzret F hX hr hlocks rfl rfl (kd dtX12_isOrder_0 35 rfl)
    · have hf := kif_pos hc hf
      refine lv_iconst (v := (1 : Int32)) hx hb (kd dtX12_isOrder_0 32 rfl) (by decide) ?_
      refine lv_goto (tgt := 56) hx hb (kd dtX12_isOrder_0 33 rfl) (by decide) ?_
      obtain rfl := Option.some.inj hf
      exact kzret F hX hr hlocks rfl rfl (kd dtX12_isOrder_0 35 rfl)
def lX12_turned_0 : List (Nat × Instr × Nat) := [(0, .iload_n 1, 1), (1, .iconst 1, 1), (2, .if_icmp .ne 7, 3), (5, .iload_n 0, 1), (6, .goto 46, 3), (9, .iload_n 1, 1), (10, .iconst 2, 1), (11, .if_icmp .ne 18, 3), (14, .iload_n 0, 1), (15, .bipush 8, 2), (17, .irem, 1), (18, .bipush 8, 2), (20, .imul, 1), (21, .iload_n 0, 1), (22, .bipush 8, 2), (24, .idiv, 1), (25, .iadd, 1), (26, .goto 26, 3), (29, .iload_n 0, 1), (30, .bipush 8, 2), (32, .irem, 1), (33, .bipush 64, 2), (35, .imul, 1), (36, .iload_n 0, 1), (37, .bipush 8, 2), (39, .idiv, 1), (40, .bipush 8, 2), (42, .irem, 1), (43, .bipush 8, 2), (45, .imul, 1), (46, .iadd, 1), (47, .iload_n 0, 1), (48, .bipush 64, 2), (50, .idiv, 1), (51, .iadd, 1), (52, .ireturn, 1)]
theorem dtX12_turned_0 : kDec cX12_turned lX12_turned_0 = true := by decide +kernel
noncomputable def fX12_turned (x0 : Int32) (x1 : Int32) : Option Int32 :=
  if x1 = (1 : Int32) then
  some x0
  else
  if x1 = (2 : Int32) then
  some (((x0 - x0 / (8 : Int32) * (8 : Int32)) * (8 : Int32)) + (x0 / (8 : Int32)))
  else
  some ((((x0 - x0 / (8 : Int32) * (8 : Int32)) * (64 : Int32)) + (((x0 / (8 : Int32)) - (x0 / (8 : Int32)) / (8 : Int32) * (8 : Int32)) * (8 : Int32))) + (x0 / (64 : Int32)))

set_option maxHeartbeats 4000000 in
set_option maxRecDepth 100000 in
theorem rX12_turned (l : Launch) (D : va_G) (aC : Nat → ClassId) (w : kW) {x0 : Int32} {x1 : Int32} {oR : Int32} (h : fX12_turned x0 x1 = some oR) : kC l D aC yX12_turned cX12_turned 2 (some .int) 1 12 [.int x0, .int x1] w (some (.int oR)) w 0 0 := by
  refine kOf (own := RX12) (by decide) rfl (Nat.le_of_ble_eq_true rfl) ?_
  intro p e s m below meth c ls F hml hr hlocks hnm hX hZ hl
  obtain ⟨hx, hb, hts, hown, hK⟩ := id F
  have hl : lv_has ls 2 [(0, .int x0), (1, .int x1)] := hl
  have hf := h
  rw [fX12_turned] at hf
  refine lv_iload_n hx hb (kd dtX12_turned_0 0 rfl) rfl (lv_at hl 1 rfl) ?_
  refine lv_iconst (v := (1 : Int32)) hx hb (kd dtX12_turned_0 1 rfl) (by decide) ?_
  refine lv_icmp_ne (tgt := 9) hx hb (kd dtX12_turned_0 2 rfl) (by decide) (fun hc => ?_) (fun hc => ?_)
  · have hf := kif_neg hc hf
    refine lv_iload_n hx hb (kd dtX12_turned_0 5 rfl) rfl (lv_at hl 1 rfl) ?_
    refine lv_iconst (v := (2 : Int32)) hx hb (kd dtX12_turned_0 6 rfl) (by decide) ?_
    refine lv_icmp_ne (tgt := 29) hx hb (kd dtX12_turned_0 7 rfl) (by decide) (fun hc => ?_) (fun hc => ?_)
    · have hf := kif_neg hc hf
      refine lv_iload_n hx hb (kd dtX12_turned_0 18 rfl) rfl (lv_at hl 0 rfl) ?_
      refine lv_bipush (v := (8 : Int32)) hx hb (kd dtX12_turned_0 19 rfl) (by decide) ?_
      refine lv_irem hx hb (kd dtX12_turned_0 20 rfl) (by decide) ?_
      refine lv_bipush (v := (64 : Int32)) hx hb (kd dtX12_turned_0 21 rfl) (by decide) ?_
      refine lv_imul hx hb (kd dtX12_turned_0 22 rfl) ?_
      refine lv_iload_n hx hb (kd dtX12_turned_0 23 rfl) rfl (lv_at hl 0 rfl) ?_
      refine lv_bipush (v := (8 : Int32)) hx hb (kd dtX12_turned_0 24 rfl) (by decide) ?_
      refine lv_idiv hx hb (kd dtX12_turned_0 25 rfl) (by decide) ?_
      refine lv_bipush (v := (8 : Int32)) hx hb (kd dtX12_turned_0 26 rfl) (by decide) ?_
      refine lv_irem hx hb (kd dtX12_turned_0 27 rfl) (by decide) ?_
      refine lv_bipush (v := (8 : Int32)) hx hb (kd dtX12_turned_0 28 rfl) (by decide) ?_
      refine lv_imul hx hb (kd dtX12_turned_0 29 rfl) ?_
      refine lv_iadd hx hb (kd dtX12_turned_0 30 rfl) ?_
      refine lv_iload_n hx hb (kd dtX12_turned_0 31 rfl) rfl (lv_at hl 0 rfl) ?_
      refine lv_bipush (v := (64 : Int32)) hx hb (kd dtX12_turned_0 32 rfl) (by decide) ?_
      refine lv_idiv hx hb (kd dtX12_turned_0 33 rfl) (by decide) ?_
      refine lv_iadd hx hb (kd dtX12_turned_0 34 rfl) ?_
      obtain rfl := Option.some.inj hf
      exact kiret F hX hr hlocks rfl (kd dtX12_turned_0 35 rfl)
    · have hf := kif_pos hc hf
      refine lv_iload_n hx hb (kd dtX12_turned_0 8 rfl) rfl (lv_at hl 0 rfl) ?_
      refine lv_bipush (v := (8 : Int32)) hx hb (kd dtX12_turned_0 9 rfl) (by decide) ?_
      refine lv_irem hx hb (kd dtX12_turned_0 10 rfl) (by decide) ?_
      refine lv_bipush (v := (8 : Int32)) hx hb (kd dtX12_turned_0 11 rfl) (by decide) ?_
      refine lv_imul hx hb (kd dtX12_turned_0 12 rfl) ?_
      refine lv_iload_n hx hb (kd dtX12_turned_0 13 rfl) rfl (lv_at hl 0 rfl) ?_
      refine lv_bipush (v := (8 : Int32)) hx hb (kd dtX12_turned_0 14 rfl) (by decide) ?_
      refine lv_idiv hx hb (kd dtX12_turned_0 15 rfl) (by decide) ?_
      refine lv_iadd hx hb (kd dtX12_turned_0 16 rfl) ?_
      refine lv_goto (tgt := 52) hx hb (kd dtX12_turned_0 17 rfl) (by decide) ?_
      obtain rfl := Option.some.inj hf
      exact kiret F hX hr hlocks rfl (kd dtX12_turned_0 35 rfl)
  · have hf := kif_pos hc hf
    refine lv_iload_n hx hb (kd dtX12_turned_0 3 rfl) rfl (lv_at hl 0 rfl) ?_
    refine lv_goto (tgt := 52) hx hb (kd dtX12_turned_0 4 rfl) (by decide) ?_
    obtain rfl := Option.some.inj hf
    exact kiret F hX hr hlocks rfl (kd dtX12_turned_0 35 rfl)
theorem wmX12_338 : Cond.methodLink RX12 338 yX12_turned ∈ kT := kTm 1675 (by decide +kernel) rfl
theorem mwX12_turned : kMS yX12_turned cX12_turned 2 (some .int) := ⟨kTm 1677 (by decide +kernel) rfl, kTm 106 (by decide +kernel) rfl, kTm 1676 (by decide +kernel) rfl⟩
theorem wmX12_341 : Cond.methodLink RX12 341 yX12_isOrder ∈ kT := kTm 1678 (by decide +kernel) rfl
theorem mwX12_isOrder : kMV RX12 yX12_isOrder cX12_isOrder 6 (some .boolean) := ⟨kTm 1681 (by decide +kernel) rfl, kTm 106 (by decide +kernel) rfl, kTm 1680 (by decide +kernel) rfl, kTm 90 (by decide +kernel) rfl⟩
def lX12_bestOrder_0 : List (Nat × Instr × Nat) := [(0, .iload_n 3, 1), (1, .i2l, 1), (2, .lconst 0, 1), (3, .ldc2_w 161, 3), (6, .invokestatic 65, 3), (9, .ifCond .ne 5, 3), (12, .iconst (-1), 1), (13, .ireturn, 1), (14, .aload_n 0, 1), (15, .iload_n 1, 1), (16, .iload_n 2, 1), (17, .invokevirtual 328, 3), (20, .istore 4, 2), (22, .iload 4, 2), (24, .ifCond .eq 6, 3), (27, .iload 4, 2), (29, .ireturn, 1), (30, .bipush (-4), 2), (32, .istore 5, 2), (34, .iconst 0, 1), (35, .istore 6, 2), (37, .iconst 0, 1), (38, .istore 7, 2), (40, .iconst 0, 1), (41, .istore 8, 2), (43, .iload 8, 2), (45, .sipush 512, 3), (48, .if_icmp .ge 99, 3), (51, .iload 8, 2), (53, .aload_n 0, 1), (54, .getfield 28, 3), (57, .iload_n 2, 1), (58, .iaload, 1), (59, .invokestatic 338, 3), (62, .istore 9, 2), (64, .aload_n 0, 1), (65, .iload 8, 2), (67, .aload_n 0, 1), (68, .getfield 28, 3), (71, .iload_n 2, 1), (72, .iaload, 1), (73, .invokevirtual 341, 3), (76, .ifCond .ne 6, 3), (79, .goto 62, 3), (82, .aload_n 0, 1), (83, .iload_n 1, 1), (84, .iload_n 2, 1), (85, .iload 9, 2), (87, .invokevirtual 334, 3), (90, .iload 5, 2), (92, .ifCond .lt 33, 3), (95, .aload_n 0, 1), (96, .getfield 322, 3), (99, .iload 6, 2), (101, .if_icmp .lt 40, 3), (104, .aload_n 0, 1), (105, .getfield 322, 3), (108, .iload 6, 2), (110, .if_icmp .ne 15, 3), (113, .aload_n 0, 1), (114, .getfield 325, 3), (117, .iload 7, 2), (119, .if_icmp .lt 6, 3), (122, .goto 19, 3), (125, .iload 9, 2), (127, .istore 5, 2), (129, .aload_n 0, 1), (130, .getfield 322, 3), (133, .istore 6, 2), (135, .aload_n 0, 1), (136, .getfield 325, 3), (139, .istore 7, 2), (141, .iinc 8 1, 3), (144, .goto (-101), 3), (147, .iload_n 3, 1), (148, .ifCond .ne 8, 3), (151, .iload 6, 2), (153, .goto 15, 3), (156, .iload_n 3, 1), (157, .iconst 1, 1)]
theorem dtX12_bestOrder_0 : kDec cX12_bestOrder lX12_bestOrder_0 = true := by decide +kernel
def lX12_bestOrder_1 : List (Nat × Instr × Nat) := [(158, .if_icmp .ne 8, 3), (161, .iload 7, 2), (163, .goto 5, 3), (166, .iload 5, 2), (168, .ireturn, 1)]
theorem dtX12_bestOrder_1 : kDec cX12_bestOrder lX12_bestOrder_1 = true := by decide +kernel
noncomputable def fX12_bestOrder_J43_125 (b k : Int32 → Int32 → Int32 → Int32 → rW → Option (Int32 × rW)) (x1 : Int32) (x2 : Int32) (x3 : Int32) (x4 : Int32) (x5 : Int32) (x6 : Int32) (x7 : Int32) (x8 : Int32) (x9 : Int32) (w : rW) : Option (Int32 × rW) :=
  b x9 (rF w 39) (rF w 40) (x8 + (1 : Int32)) w

noncomputable def fX12_bestOrder_L43 (x1 : Int32) (x2 : Int32) (x3 : Int32) (x4 : Int32) : Nat → (Int32 → Int32 → Int32 → Int32 → rW → Option (Int32 × rW)) → Int32 → Int32 → Int32 → Int32 → rW → Option (Int32 × rW)
  | 0, _, _, _, _, _, _ => none
  | n + 1, k, x5, x6, x7, x8, w =>
  if (512 : Int32) ≤ x8 then
  k x5 x6 x7 x8 w
  else
  (raI w 6 8 x2).bind fun v1 =>
  (fX12_turned x8 v1).bind fun v3 =>
  (raI w 6 8 x2).bind fun v4 =>
  (fX12_isOrder x8 v4).bind fun v6 =>
  if v6 = 0 then
  fX12_bestOrder_L43 x1 x2 x3 x4 n k x5 x6 x7 (x8 + (1 : Int32)) w
  else
  (fX12_inOrder x1 x2 v3 w).bind fun w7 =>
  if x5 < 0 then
  fX12_bestOrder_J43_125 (fun q5 q6 q7 q8 qw => fX12_bestOrder_L43 x1 x2 x3 x4 n k q5 q6 q7 q8 qw) k x1 x2 x3 x4 x5 x6 x7 x8 v3 w7
  else
  if (rF w7 39) < x6 then
  fX12_bestOrder_L43 x1 x2 x3 x4 n k x5 x6 x7 (x8 + (1 : Int32)) w7
  else
  if (rF w7 39) = x6 then
  if (rF w7 40) < x7 then
  fX12_bestOrder_J43_125 (fun q5 q6 q7 q8 qw => fX12_bestOrder_L43 x1 x2 x3 x4 n k q5 q6 q7 q8 qw) k x1 x2 x3 x4 x5 x6 x7 x8 v3 w7
  else
  fX12_bestOrder_L43 x1 x2 x3 x4 n k x5 x6 x7 (x8 + (1 : Int32)) w7
  else
  fX12_bestOrder_J43_125 (fun q5 q6 q7 q8 qw => fX12_bestOrder_L43 x1 x2 x3 x4 n k q5 q6 q7 q8 qw) k x1 x2 x3 x4 x5 x6 x7 x8 v3 w7

noncomputable def fX12_bestOrder (x1 : Int32) (x2 : Int32) (x3 : Int32) (w : rW) : Option (Int32 × rW) :=
  (fX12_isIn x3.toInt64 (0 : Int64) (2 : Int64)).bind fun v2 =>
  if v2 = 0 then
  some ((-1 : Int32), w)
  else
  (fX12_wrongOrder x1 x2 w).bind fun v4 =>
  if v4 = 0 then
  fX12_bestOrder_L43 x1 x2 x3 v4 kFU (fun y5_5 y6_6 y7_7 y8_8 w9 => if x3 = 0 then
  some (y6_6, w9)
  else
  if x3 = (1 : Int32) then
  some (y7_7, w9)
  else
  some (y5_5, w9)) (-4 : Int32) (0 : Int32) (0 : Int32) (0 : Int32) w
  else
  some (v4, w)

set_option maxHeartbeats 4000000 in
set_option maxRecDepth 100000 in
theorem rX12_bestOrder (l : Launch) (D : va_G) (aC : Nat → ClassId) {h0 : Nat} {wB : kW} (hB : rOK h0 wB) {x1 : Int32} {x2 : Int32} {x3 : Int32} {w : rW} {wR : rW} {oR : Int32} (h : fX12_bestOrder x1 x2 x3 w = some (oR, wR)) : kC l D aC yX12_bestOrder cX12_bestOrder 10 (some .int) 809 19006 [.ref h0, .int x1, .int x2, .int x3] (rWo h0 wB w) (some (.int oR)) (rWo h0 wB wR) 0 0 := by
  refine kOf (own := RX12) (by decide) rfl (Nat.le_of_ble_eq_true rfl) ?_
  intro p e s m below meth c ls F hml hr hlocks hnm hX hZ hl
  obtain ⟨hx, hb, hts, hown, hK⟩ := id F
  have hl : lv_has ls 10 [(0, .ref h0), (1, .int x1), (2, .int x2), (3, .int x3)] := hl
  have hf := h
  rw [fX12_bestOrder] at hf
  refine lv_iload_n hx hb (kd dtX12_bestOrder_0 0 rfl) rfl (lv_at hl 3 rfl) ?_
  refine lv_i2l (v := x3.toInt64) hx hb (kd dtX12_bestOrder_0 1 rfl) rfl ?_
  refine lv_lconst (v := (0 : Int64)) hx hb (kd dtX12_bestOrder_0 2 rfl) (by decide) ?_
  refine lv_ldc2 (v := (2 : Int64)) hx hb hown (hts _ wcX12_161) (kd dtX12_bestOrder_0 3 rfl) ?_
  obtain ⟨v2, h1, hf⟩ := kbind hf
  refine kcallS (n := 3) [.long x3.toInt64, .long (0 : Int64), .long (2 : Int64)] [] [.int v2] (rX12_isIn l D aC (rWo h0 wB w) h1) F hml hX hZ hl.1 mwX12_isIn wmX12_65 (by decide +kernel) ⟨(by decide), (by decide)⟩ rfl rfl rfl (Nat.le_of_ble_eq_true rfl) (kd dtX12_bestOrder_0 4 rfl) ⟨Nat.zero_le _, Nat.zero_le _⟩ (fun H locs hX => ?_)
  refine lv_if_ne (tgt := 14) hx hb (kd dtX12_bestOrder_0 5 rfl) (by decide) (fun hc => ?_) (fun hc => ?_)
  · have hf := kif_neg hc hf
    refine lv_aload_n hx hb (kd dtX12_bestOrder_0 8 rfl) rfl (lv_at hl 0 rfl) ?_
    refine lv_iload_n hx hb (kd dtX12_bestOrder_0 9 rfl) rfl (lv_at hl 1 rfl) ?_
    refine lv_iload_n hx hb (kd dtX12_bestOrder_0 10 rfl) rfl (lv_at hl 2 rfl) ?_
    obtain ⟨v4, h3, hf⟩ := kbind hf
    refine kcallV (n := 2) [.int x1, .int x2] [] [.int v4] (rX12_wrongOrder l D aC hB h3) rfl hB.1 F hml hX hZ hl.1 mwX12_wrongOrder wmX12_328 rfl (by decide) (by decide +kernel) ⟨(by decide), (by decide)⟩ rfl rfl rfl (Nat.le_of_ble_eq_true rfl) (kd dtX12_bestOrder_0 11 rfl) ⟨Nat.zero_le _, Nat.zero_le _⟩ (fun H locs hX => ?_)
    refine lv_istore (lv' := [(4, .int v4), (0, .ref h0), (1, .int x1), (2, .int x2), (3, .int x3)]) hx hb (kd dtX12_bestOrder_0 12 rfl) hl (by decide) rfl (fun ls hl => ?_)
    refine lv_iload hx hb (kd dtX12_bestOrder_0 13 rfl) (lv_at hl 0 rfl) ?_
    refine lv_if_eq (tgt := 30) hx hb (kd dtX12_bestOrder_0 14 rfl) (by decide) (fun hc => ?_) (fun hc => ?_)
    · have hf := kif_pos hc hf
      refine lv_bipush (v := (-4 : Int32)) hx hb (kd dtX12_bestOrder_0 17 rfl) (by decide) ?_
      refine lv_istore (lv' := [(5, .int (-4 : Int32)), (4, .int v4), (0, .ref h0), (1, .int x1), (2, .int x2), (3, .int x3)]) hx hb (kd dtX12_bestOrder_0 18 rfl) hl (by decide) rfl (fun ls hl => ?_)
      refine lv_iconst (v := (0 : Int32)) hx hb (kd dtX12_bestOrder_0 19 rfl) (by decide) ?_
      refine lv_istore (lv' := [(6, .int (0 : Int32)), (5, .int (-4 : Int32)), (4, .int v4), (0, .ref h0), (1, .int x1), (2, .int x2), (3, .int x3)]) hx hb (kd dtX12_bestOrder_0 20 rfl) hl (by decide) rfl (fun ls hl => ?_)
      refine lv_iconst (v := (0 : Int32)) hx hb (kd dtX12_bestOrder_0 21 rfl) (by decide) ?_
      refine lv_istore (lv' := [(7, .int (0 : Int32)), (6, .int (0 : Int32)), (5, .int (-4 : Int32)), (4, .int v4), (0, .ref h0), (1, .int x1), (2, .int x2), (3, .int x3)]) hx hb (kd dtX12_bestOrder_0 22 rfl) hl (by decide) rfl (fun ls hl => ?_)
      refine lv_iconst (v := (0 : Int32)) hx hb (kd dtX12_bestOrder_0 23 rfl) (by decide) ?_
      refine lv_istore (lv' := [(8, .int (0 : Int32)), (7, .int (0 : Int32)), (6, .int (0 : Int32)), (5, .int (-4 : Int32)), (4, .int v4), (0, .ref h0), (1, .int x1), (2, .int x2), (3, .int x3)]) hx hb (kd dtX12_bestOrder_0 24 rfl) hl (by decide) rfl (fun ls hl => ?_)
      have hL43 : ∀ (n : Nat) (k : Int32 → Int32 → Int32 → Int32 → rW → Option (Int32 × rW)), ∀ (z5_43 : Int32) (z6_43 : Int32) (z7_43 : Int32) (z8_43 : Int32) (w_43 : rW) (H : Heap) (locs : List Loc) (ls : Array Slot), kX D aC (rWo h0 wB w) s.heap (rWo h0 wB w_43) H locs → lv_has ls 10 [(0, .ref h0), (1, .int x1), (2, .int x2), (3, .int x3), (4, .int v4), (5, .int z5_43), (6, .int z6_43), (7, .int z7_43), (8, .int z8_43)] → fX12_bestOrder_L43 x1 x2 x3 v4 n k z5_43 z6_43 z7_43 z8_43 w_43 = some (oR, wR) → (∀ (z5_43 : Int32) (z6_43 : Int32) (z7_43 : Int32) (z8_43 : Int32) (w_43 : rW) (H : Heap) (locs : List Loc) (ls : Array Slot), kX D aC (rWo h0 wB w) s.heap (rWo h0 wB w_43) H locs → lv_has ls 10 [(0, .ref h0), (1, .int x1), (2, .int x2), (3, .int x3), (4, .int v4), (5, .int z5_43), (6, .int z6_43), (7, .int z7_43), (8, .int z8_43)] → k z5_43 z6_43 z7_43 z8_43 w_43 = some (oR, wR) → W p l e { frames := 809, cells := 0, slots := 0, locals := 19006 } s m ([.ref h0, .int x1, .int x2, .int x3] : List Value).toArray below meth c H locs 0 0 (MQ below (kQc D aC (rWo h0 wB w) (some (.int oR)) (rWo h0 wB wR)) ([.ref h0, .int x1, .int x2, .int x3] : List Value).toArray s 0 0 (kA (rWo h0 wB w))) (F0 m 147 ls [])) → W p l e { frames := 809, cells := 0, slots := 0, locals := 19006 } s m ([.ref h0, .int x1, .int x2, .int x3] : List Value).toArray below meth c H locs 0 0 (MQ below (kQc D aC (rWo h0 wB w) (some (.int oR)) (rWo h0 wB wR)) ([.ref h0, .int x1, .int x2, .int x3] : List Value).toArray s 0 0 (kA (rWo h0 wB w))) (F0 m 43 ls []) := by
        intro n k
        induction n with
        | zero =>
          intro z5_43 z6_43 z7_43 z8_43 w_43 H locs ls hX hl hf hk
          rw [fX12_bestOrder_L43] at hf
          cases hf
        | succ n ih =>
          intro z5_43 z6_43 z7_43 z8_43 w_43 H locs ls hX hl hf hk
          have hJ43_125 : ∀ (j5_125 : Int32) (j6_125 : Int32) (j7_125 : Int32) (j8_125 : Int32) (j9_125 : Int32) (w_j125 : rW) (H : Heap) (locs : List Loc) (ls : Array Slot), kX D aC (rWo h0 wB w) s.heap (rWo h0 wB w_j125) H locs → lv_has ls 10 [(0, .ref h0), (1, .int x1), (2, .int x2), (3, .int x3), (4, .int v4), (5, .int j5_125), (6, .int j6_125), (7, .int j7_125), (8, .int j8_125), (9, .int j9_125)] → fX12_bestOrder_J43_125 (fun q5 q6 q7 q8 qw => fX12_bestOrder_L43 x1 x2 x3 v4 n k q5 q6 q7 q8 qw) k x1 x2 x3 v4 j5_125 j6_125 j7_125 j8_125 j9_125 w_j125 = some (oR, wR) → W p l e { frames := 809, cells := 0, slots := 0, locals := 19006 } s m ([.ref h0, .int x1, .int x2, .int x3] : List Value).toArray below meth c H locs 0 0 (MQ below (kQc D aC (rWo h0 wB w) (some (.int oR)) (rWo h0 wB wR)) ([.ref h0, .int x1, .int x2, .int x3] : List Value).toArray s 0 0 (kA (rWo h0 wB w))) (F0 m 125 ls []) := by
            intro j5_125 j6_125 j7_125 j8_125 j9_125 w_j125 H locs ls hX hl hf
            rw [fX12_bestOrder_J43_125] at hf
            refine lv_iload hx hb (kd dtX12_bestOrder_0 64 rfl) (lv_at hl 9 rfl) ?_
            refine lv_istore (lv' := [(5, .int j9_125), (0, .ref h0), (1, .int x1), (2, .int x2), (3, .int x3), (4, .int v4), (6, .int j6_125), (7, .int j7_125), (8, .int j8_125), (9, .int j9_125)]) hx hb (kd dtX12_bestOrder_0 65 rfl) hl (by decide) rfl (fun ls hl => ?_)
            refine lv_aload_n hx hb (kd dtX12_bestOrder_0 66 rfl) rfl (lv_at hl 1 rfl) ?_
            refine rgetF (j := 39) hB F hX wfX12_322 (by decide) rfl (kd dtX12_bestOrder_0 67 rfl) ?_
            refine lv_istore (lv' := [(6, .int (rF w_j125 39)), (5, .int j9_125), (0, .ref h0), (1, .int x1), (2, .int x2), (3, .int x3), (4, .int v4), (7, .int j7_125), (8, .int j8_125), (9, .int j9_125)]) hx hb (kd dtX12_bestOrder_0 68 rfl) hl (by decide) rfl (fun ls hl => ?_)
            refine lv_aload_n hx hb (kd dtX12_bestOrder_0 69 rfl) rfl (lv_at hl 2 rfl) ?_
            refine rgetF (j := 40) hB F hX wfX12_325 (by decide) rfl (kd dtX12_bestOrder_0 70 rfl) ?_
            refine lv_istore (lv' := [(7, .int (rF w_j125 40)), (6, .int (rF w_j125 39)), (5, .int j9_125), (0, .ref h0), (1, .int x1), (2, .int x2), (3, .int x3), (4, .int v4), (8, .int j8_125), (9, .int j9_125)]) hx hb (kd dtX12_bestOrder_0 71 rfl) hl (by decide) rfl (fun ls hl => ?_)
            refine lv_iinc (v := j8_125 + (1 : Int32)) (lv' := [(8, .int (j8_125 + (1 : Int32))), (7, .int (rF w_j125 40)), (6, .int (rF w_j125 39)), (5, .int j9_125), (0, .ref h0), (1, .int x1), (2, .int x2), (3, .int x3), (4, .int v4), (9, .int j9_125)]) hx hb (kd dtX12_bestOrder_0 72 rfl) hl (k := 8) rfl (by rfl) (by decide) rfl (fun ls hl => ?_)
            refine lv_goto (tgt := 43) hx hb (kd dtX12_bestOrder_0 73 rfl) (by decide) ?_
            exact ih j9_125 (rF w_j125 39) (rF w_j125 40) (j8_125 + (1 : Int32)) w_j125 _ _ _ hX (lv_sub hl [4, 5, 6, 7, 8, 3, 2, 1, 0] rfl) hf hk
          rw [fX12_bestOrder_L43] at hf
          refine lv_iload hx hb (kd dtX12_bestOrder_0 25 rfl) (lv_at hl 8 rfl) ?_
          refine lv_sipush (v := (512 : Int32)) hx hb (kd dtX12_bestOrder_0 26 rfl) (by decide) ?_
          refine lv_icmp_ge (tgt := 147) hx hb (kd dtX12_bestOrder_0 27 rfl) (by decide) (fun hc => ?_) (fun hc => ?_)
          · have hf := kif_pos hc hf
            exact hk z5_43 z6_43 z7_43 z8_43 w_43 _ _ _ hX hl hf
          · have hf := kif_neg hc hf
            refine lv_iload hx hb (kd dtX12_bestOrder_0 28 rfl) (lv_at hl 8 rfl) ?_
            refine lv_aload_n hx hb (kd dtX12_bestOrder_0 29 rfl) rfl (lv_at hl 0 rfl) ?_
            refine rgetA (n := 6) (j := 6) hB (by decide) rfl F hX wfX12_28 (by decide) rfl (kd dtX12_bestOrder_0 30 rfl) ?_
            refine lv_iload_n hx hb (kd dtX12_bestOrder_0 31 rfl) rfl (lv_at hl 2 rfl) ?_
            obtain ⟨v10, hv10, hf⟩ := kbind hf
            refine rald hB (by decide) hv10 F hX (kd dtX12_bestOrder_0 32 rfl) ?_
            obtain ⟨v12, h11, hf⟩ := kbind hf
            refine kcallS (n := 2) [.int z8_43, .int v10] [] [.int v12] (rX12_turned l D aC (rWo h0 wB w_43) h11) F hml hX hZ hl.1 mwX12_turned wmX12_338 (by decide +kernel) ⟨(by decide), (by decide)⟩ rfl rfl rfl (Nat.le_of_ble_eq_true rfl) (kd dtX12_bestOrder_0 33 rfl) ⟨Nat.zero_le _, Nat.zero_le _⟩ (fun H locs hX => ?_)
            refine lv_istore (lv' := [(9, .int v12), (0, .ref h0), (1, .int x1), (2, .int x2), (3, .int x3), (4, .int v4), (5, .int z5_43), (6, .int z6_43), (7, .int z7_43), (8, .int z8_43)]) hx hb (kd dtX12_bestOrder_0 34 rfl) hl (by decide) rfl (fun ls hl => ?_)
            refine lv_aload_n hx hb (kd dtX12_bestOrder_0 35 rfl) rfl (lv_at hl 1 rfl) ?_
            refine lv_iload hx hb (kd dtX12_bestOrder_0 36 rfl) (lv_at hl 9 rfl) ?_
            refine lv_aload_n hx hb (kd dtX12_bestOrder_0 37 rfl) rfl (lv_at hl 1 rfl) ?_
            refine rgetA (n := 6) (j := 6) hB (by decide) rfl F hX wfX12_28 (by decide) rfl (kd dtX12_bestOrder_0 38 rfl) ?_
            refine lv_iload_n hx hb (kd dtX12_bestOrder_0 39 rfl) rfl (lv_at hl 3 rfl) ?_
            obtain ⟨v13, hv13, hf⟩ := kbind hf
            refine rald hB (by decide) hv13 F hX (kd dtX12_bestOrder_0 40 rfl) ?_
            obtain ⟨v15, h14, hf⟩ := kbind hf
            refine kcallV (n := 2) [.int z8_43, .int v13] [] [.int v15] (rX12_isOrder l D aC (rWo h0 wB w_43) h14) rfl hB.1 F hml hX hZ hl.1 mwX12_isOrder wmX12_341 rfl (by decide) (by decide +kernel) ⟨(by decide), (by decide)⟩ rfl rfl rfl (Nat.le_of_ble_eq_true rfl) (kd dtX12_bestOrder_0 41 rfl) ⟨Nat.zero_le _, Nat.zero_le _⟩ (fun H locs hX => ?_)
            refine lv_if_ne (tgt := 82) hx hb (kd dtX12_bestOrder_0 42 rfl) (by decide) (fun hc => ?_) (fun hc => ?_)
            · have hf := kif_neg hc hf
              refine lv_aload_n hx hb (kd dtX12_bestOrder_0 44 rfl) rfl (lv_at hl 1 rfl) ?_
              refine lv_iload_n hx hb (kd dtX12_bestOrder_0 45 rfl) rfl (lv_at hl 2 rfl) ?_
              refine lv_iload_n hx hb (kd dtX12_bestOrder_0 46 rfl) rfl (lv_at hl 3 rfl) ?_
              refine lv_iload hx hb (kd dtX12_bestOrder_0 47 rfl) (lv_at hl 0 rfl) ?_
              obtain ⟨w16, h17, hf⟩ := kbind hf
              refine kcallV (n := 3) [.int x1, .int x2, .int v12] [] [] (rX12_inOrder l D aC hB h17) rfl hB.1 F hml hX hZ hl.1 mwX12_inOrder wmX12_334 rfl (by decide) (by decide +kernel) ⟨(by decide), (by decide)⟩ rfl rfl rfl (Nat.le_of_ble_eq_true rfl) (kd dtX12_bestOrder_0 48 rfl) ⟨Nat.zero_le _, Nat.zero_le _⟩ (fun H locs hX => ?_)
              refine lv_iload hx hb (kd dtX12_bestOrder_0 49 rfl) (lv_at hl 6 rfl) ?_
              refine lv_if_lt (tgt := 125) hx hb (kd dtX12_bestOrder_0 50 rfl) (by decide) (fun hc => ?_) (fun hc => ?_)
              · have hf := kif_pos hc hf
                exact hJ43_125 z5_43 z6_43 z7_43 z8_43 v12 w16 _ _ _ hX (lv_sub hl [1, 2, 3, 4, 5, 6, 7, 8, 9, 0] rfl) hf
              · have hf := kif_neg hc hf
                refine lv_aload_n hx hb (kd dtX12_bestOrder_0 51 rfl) rfl (lv_at hl 1 rfl) ?_
                refine rgetF (j := 39) hB F hX wfX12_322 (by decide) rfl (kd dtX12_bestOrder_0 52 rfl) ?_
                refine lv_iload hx hb (kd dtX12_bestOrder_0 53 rfl) (lv_at hl 7 rfl) ?_
                refine lv_icmp_lt (tgt := 141) hx hb (kd dtX12_bestOrder_0 54 rfl) (by decide) (fun hc => ?_) (fun hc => ?_)
                · have hf := kif_pos hc hf
                  refine lv_iinc (v := z8_43 + (1 : Int32)) (lv' := [(8, .int (z8_43 + (1 : Int32))), (9, .int v12), (0, .ref h0), (1, .int x1), (2, .int x2), (3, .int x3), (4, .int v4), (5, .int z5_43), (6, .int z6_43), (7, .int z7_43)]) hx hb (kd dtX12_bestOrder_0 72 rfl) hl (k := 9) rfl (by rfl) (by decide) rfl (fun ls hl => ?_)
                  refine lv_goto (tgt := 43) hx hb (kd dtX12_bestOrder_0 73 rfl) (by decide) ?_
                  exact ih z5_43 z6_43 z7_43 (z8_43 + (1 : Int32)) w16 _ _ _ hX (lv_sub hl [2, 3, 4, 5, 6, 7, 8, 9, 0] rfl) hf hk
                · have hf := kif_neg hc hf
                  refine lv_aload_n hx hb (kd dtX12_bestOrder_0 55 rfl) rfl (lv_at hl 1 rfl) ?_
                  refine rgetF (j := 39) hB F hX wfX12_322 (by decide) rfl (kd dtX12_bestOrder_0 56 rfl) ?_
                  refine lv_iload hx hb (kd dtX12_bestOrder_0 57 rfl) (lv_at hl 7 rfl) ?_
                  refine lv_icmp_ne (tgt := 125) hx hb (kd dtX12_bestOrder_0 58 rfl) (by decide) (fun hc => ?_) (fun hc => ?_)
                  · have hf := kif_neg hc hf
                    exact hJ43_125 z5_43 z6_43 z7_43 z8_43 v12 w16 _ _ _ hX (lv_sub hl [1, 2, 3, 4, 5, 6, 7, 8, 9, 0] rfl) hf
                  · have hf := kif_pos hc hf
                    refine lv_aload_n hx hb (kd dtX12_bestOrder_0 59 rfl) rfl (lv_at hl 1 rfl) ?_
                    refine rgetF (j := 40) hB F hX wfX12_325 (by decide) rfl (kd dtX12_bestOrder_0 60 rfl) ?_
                    refine lv_iload hx hb (kd dtX12_bestOrder_0 61 rfl) (lv_at hl 8 rfl) ?_
                    refine lv_icmp_lt (tgt := 125) hx hb (kd dtX12_bestOrder_0 62 rfl) (by decide) (fun hc => ?_) (fun hc => ?_)
                    · have hf := kif_pos hc hf
                      exact hJ43_125 z5_43 z6_43 z7_43 z8_43 v12 w16 _ _ _ hX (lv_sub hl [1, 2, 3, 4, 5, 6, 7, 8, 9, 0] rfl) hf
                    · have hf := kif_neg hc hf
                      refine lv_goto (tgt := 141) hx hb (kd dtX12_bestOrder_0 63 rfl) (by decide) ?_
                      refine lv_iinc (v := z8_43 + (1 : Int32)) (lv' := [(8, .int (z8_43 + (1 : Int32))), (9, .int v12), (0, .ref h0), (1, .int x1), (2, .int x2), (3, .int x3), (4, .int v4), (5, .int z5_43), (6, .int z6_43), (7, .int z7_43)]) hx hb (kd dtX12_bestOrder_0 72 rfl) hl (k := 9) rfl (by rfl) (by decide) rfl (fun ls hl => ?_)
                      refine lv_goto (tgt := 43) hx hb (kd dtX12_bestOrder_0 73 rfl) (by decide) ?_
                      exact ih z5_43 z6_43 z7_43 (z8_43 + (1 : Int32)) w16 _ _ _ hX (lv_sub hl [2, 3, 4, 5, 6, 7, 8, 9, 0] rfl) hf hk
            · have hf := kif_pos hc hf
              refine lv_goto (tgt := 141) hx hb (kd dtX12_bestOrder_0 43 rfl) (by decide) ?_
              refine lv_iinc (v := z8_43 + (1 : Int32)) (lv' := [(8, .int (z8_43 + (1 : Int32))), (9, .int v12), (0, .ref h0), (1, .int x1), (2, .int x2), (3, .int x3), (4, .int v4), (5, .int z5_43), (6, .int z6_43), (7, .int z7_43)]) hx hb (kd dtX12_bestOrder_0 72 rfl) hl (k := 9) rfl (by rfl) (by decide) rfl (fun ls hl => ?_)
              refine lv_goto (tgt := 43) hx hb (kd dtX12_bestOrder_0 73 rfl) (by decide) ?_
              exact ih z5_43 z6_43 z7_43 (z8_43 + (1 : Int32)) w_43 _ _ _ hX (lv_sub hl [2, 3, 4, 5, 6, 7, 8, 9, 0] rfl) hf hk
      refine hL43 kFU _ (-4 : Int32) (0 : Int32) (0 : Int32) (0 : Int32) w _ _ _ hX (lv_sub hl [5, 6, 7, 8, 4, 3, 2, 1, 0] rfl) hf ?_
      intro y5_5 y6_6 y7_7 y8_8 w9 H locs ls hX hl hf
      refine lv_iload_n hx hb (kd dtX12_bestOrder_0 74 rfl) rfl (lv_at hl 3 rfl) ?_
      refine lv_if_ne (tgt := 156) hx hb (kd dtX12_bestOrder_0 75 rfl) (by decide) (fun hc => ?_) (fun hc => ?_)
      · have hf := kif_neg hc hf
        refine lv_iload_n hx hb (kd dtX12_bestOrder_0 78 rfl) rfl (lv_at hl 3 rfl) ?_
        refine lv_iconst (v := (1 : Int32)) hx hb (kd dtX12_bestOrder_0 79 rfl) (by decide) ?_
        refine lv_icmp_ne (tgt := 166) hx hb (kd dtX12_bestOrder_1 0 rfl) (by decide) (fun hc => ?_) (fun hc => ?_)
        · have hf := kif_neg hc hf
          refine lv_iload hx hb (kd dtX12_bestOrder_1 3 rfl) (lv_at hl 5 rfl) ?_
          obtain ⟨rfl, rfl⟩ := Prod.mk.inj (Option.some.inj hf)
          exact kiret F hX hr hlocks rfl (kd dtX12_bestOrder_1 4 rfl)
        · have hf := kif_pos hc hf
          refine lv_iload hx hb (kd dtX12_bestOrder_1 1 rfl) (lv_at hl 7 rfl) ?_
          refine lv_goto (tgt := 168) hx hb (kd dtX12_bestOrder_1 2 rfl) (by decide) ?_
          obtain ⟨rfl, rfl⟩ := Prod.mk.inj (Option.some.inj hf)
          exact kiret F hX hr hlocks rfl (kd dtX12_bestOrder_1 4 rfl)
      · have hf := kif_pos hc hf
        refine lv_iload hx hb (kd dtX12_bestOrder_0 76 rfl) (lv_at hl 6 rfl) ?_
        refine lv_goto (tgt := 168) hx hb (kd dtX12_bestOrder_0 77 rfl) (by decide) ?_
        obtain ⟨rfl, rfl⟩ := Prod.mk.inj (Option.some.inj hf)
        exact kiret F hX hr hlocks rfl (kd dtX12_bestOrder_1 4 rfl)
    · have hf := kif_neg hc hf
      refine lv_iload hx hb (kd dtX12_bestOrder_0 15 rfl) (lv_at hl 0 rfl) ?_
      obtain ⟨rfl, rfl⟩ := Prod.mk.inj (Option.some.inj hf)
      exact kiret F hX hr hlocks rfl (kd dtX12_bestOrder_0 16 rfl)
  · have hf := kif_pos hc hf
    refine lv_iconst (v := (-1 : Int32)) hx hb (kd dtX12_bestOrder_0 6 rfl) (by decide) ?_
    obtain ⟨rfl, rfl⟩ := Prod.mk.inj (Option.some.inj hf)
    exact kiret F hX hr hlocks rfl (kd dtX12_bestOrder_0 7 rfl)
theorem wcX12_344 : Cond.constantLong RX12 344 (100 : Int64) ∈ kT := kTm 1686 (by decide +kernel) rfl
def lX12_slips_0 : List (Nat × Instr × Nat) := [(0, .iload 4, 2), (2, .i2l, 1), (3, .lconst 0, 1), (4, .ldc2_w 344, 3), (7, .invokestatic 65, 3), (10, .ifCond .eq 16, 3), (13, .iload 5, 2), (15, .i2l, 1), (16, .lconst 0, 1), (17, .ldc2_w 202, 3), (20, .invokestatic 65, 3), (23, .ifCond .ne 5, 3), (26, .iconst (-1), 1), (27, .ireturn, 1), (28, .aload_n 0, 1), (29, .iload_n 1, 1), (30, .iload_n 2, 1), (31, .invokevirtual 304, 3), (34, .istore 6, 2), (36, .iload 6, 2), (38, .ifCond .eq 6, 3), (41, .iload 6, 2), (43, .ireturn, 1), (44, .aload_n 0, 1), (45, .invokevirtual 307, 3), (48, .aload_n 0, 1), (49, .iconst 1, 1), (50, .putfield 266, 3), (53, .aload_n 0, 1), (54, .iload_n 3, 1), (55, .putfield 269, 3), (58, .aload_n 0, 1), (59, .iload 4, 2), (61, .putfield 275, 3), (64, .aload_n 0, 1), (65, .iload_n 1, 1), (66, .iload_n 2, 1), (67, .invokevirtual 310, 3), (70, .aload_n 0, 1), (71, .iconst 0, 1), (72, .putfield 266, 3), (75, .iload 5, 2), (77, .ifCond .ne 18, 3), (80, .aload_n 0, 1), (81, .getfield 254, 3), (84, .ifCond .lt 7, 3), (87, .iconst 1, 1), (88, .goto 37, 3), (91, .iconst 0, 1), (92, .goto 33, 3), (95, .iload 5, 2), (97, .iconst 1, 1), (98, .if_icmp .ne 10, 3), (101, .aload_n 0, 1), (102, .getfield 251, 3), (105, .goto 20, 3), (108, .iload 5, 2), (110, .iconst 2, 1), (111, .if_icmp .ne 10, 3), (114, .aload_n 0, 1), (115, .getfield 260, 3), (118, .goto 7, 3), (121, .aload_n 0, 1), (122, .getfield 263, 3), (125, .ireturn, 1)]
theorem dtX12_slips_0 : kDec cX12_slips lX12_slips_0 = true := by decide +kernel
noncomputable def fX12_slips (x1 : Int32) (x2 : Int32) (x3 : Int32) (x4 : Int32) (x5 : Int32) (w : rW) : Option (Int32 × rW) :=
  (fX12_isIn x4.toInt64 (0 : Int64) (100 : Int64)).bind fun v2 =>
  if v2 = 0 then
  some ((-1 : Int32), w)
  else
  (fX12_isIn x5.toInt64 (0 : Int64) (3 : Int64)).bind fun v4 =>
  if v4 = 0 then
  some ((-1 : Int32), w)
  else
  (fX12_wrongRun x1 x2 w).bind fun v6 =>
  if v6 = 0 then
  (fX12_asNow w).bind fun w7 =>
  (rpF w7 37 (1 : Int32)).bind fun w9 =>
  (rpF w9 35 x3).bind fun w10 =>
  (rpF w10 36 x4).bind fun w11 =>
  (fX12_runs x1 x2 w11).bind fun w12 =>
  (rpF w12 37 (0 : Int32)).bind fun w14 =>
  if x5 = 0 then
  if (rF w14 31) < 0 then
  some ((0 : Int32), w14)
  else
  some ((1 : Int32), w14)
  else
  if x5 = (1 : Int32) then
  some (rF w14 29, w14)
  else
  if x5 = (2 : Int32) then
  some (rF w14 33, w14)
  else
  some (rF w14 34, w14)
  else
  some (v6, w)

set_option maxHeartbeats 4000000 in
set_option maxRecDepth 100000 in
theorem rX12_slips (l : Launch) (D : va_G) (aC : Nat → ClassId) {h0 : Nat} {wB : kW} (hB : rOK h0 wB) {x1 : Int32} {x2 : Int32} {x3 : Int32} {x4 : Int32} {x5 : Int32} {w : rW} {wR : rW} {oR : Int32} (h : fX12_slips x1 x2 x3 x4 x5 w = some (oR, wR)) : kC l D aC yX12_slips cX12_slips 7 (some .int) 808 18980 [.ref h0, .int x1, .int x2, .int x3, .int x4, .int x5] (rWo h0 wB w) (some (.int oR)) (rWo h0 wB wR) 0 0 := by
  refine kOf (own := RX12) (by decide) rfl (Nat.le_of_ble_eq_true rfl) ?_
  intro p e s m below meth c ls F hml hr hlocks hnm hX hZ hl
  obtain ⟨hx, hb, hts, hown, hK⟩ := id F
  have hl : lv_has ls 7 [(0, .ref h0), (1, .int x1), (2, .int x2), (3, .int x3), (4, .int x4), (5, .int x5)] := hl
  have hf := h
  rw [fX12_slips] at hf
  refine lv_iload hx hb (kd dtX12_slips_0 0 rfl) (lv_at hl 4 rfl) ?_
  refine lv_i2l (v := x4.toInt64) hx hb (kd dtX12_slips_0 1 rfl) rfl ?_
  refine lv_lconst (v := (0 : Int64)) hx hb (kd dtX12_slips_0 2 rfl) (by decide) ?_
  refine lv_ldc2 (v := (100 : Int64)) hx hb hown (hts _ wcX12_344) (kd dtX12_slips_0 3 rfl) ?_
  obtain ⟨v2, h1, hf⟩ := kbind hf
  refine kcallS (n := 3) [.long x4.toInt64, .long (0 : Int64), .long (100 : Int64)] [] [.int v2] (rX12_isIn l D aC (rWo h0 wB w) h1) F hml hX hZ hl.1 mwX12_isIn wmX12_65 (by decide +kernel) ⟨(by decide), (by decide)⟩ rfl rfl rfl (Nat.le_of_ble_eq_true rfl) (kd dtX12_slips_0 4 rfl) ⟨Nat.zero_le _, Nat.zero_le _⟩ (fun H locs hX => ?_)
  refine lv_if_eq (tgt := 26) hx hb (kd dtX12_slips_0 5 rfl) (by decide) (fun hc => ?_) (fun hc => ?_)
  · have hf := kif_pos hc hf
    refine lv_iconst (v := (-1 : Int32)) hx hb (kd dtX12_slips_0 12 rfl) (by decide) ?_
    obtain ⟨rfl, rfl⟩ := Prod.mk.inj (Option.some.inj hf)
    exact kiret F hX hr hlocks rfl (kd dtX12_slips_0 13 rfl)
  · have hf := kif_neg hc hf
    refine lv_iload hx hb (kd dtX12_slips_0 6 rfl) (lv_at hl 5 rfl) ?_
    refine lv_i2l (v := x5.toInt64) hx hb (kd dtX12_slips_0 7 rfl) rfl ?_
    refine lv_lconst (v := (0 : Int64)) hx hb (kd dtX12_slips_0 8 rfl) (by decide) ?_
    refine lv_ldc2 (v := (3 : Int64)) hx hb hown (hts _ wcX12_202) (kd dtX12_slips_0 9 rfl) ?_
    obtain ⟨v4, h3, hf⟩ := kbind hf
    refine kcallS (n := 3) [.long x5.toInt64, .long (0 : Int64), .long (3 : Int64)] [] [.int v4] (rX12_isIn l D aC (rWo h0 wB w) h3) F hml hX hZ hl.1 mwX12_isIn wmX12_65 (by decide +kernel) ⟨(by decide), (by decide)⟩ rfl rfl rfl (Nat.le_of_ble_eq_true rfl) (kd dtX12_slips_0 10 rfl) ⟨Nat.zero_le _, Nat.zero_le _⟩ (fun H locs hX => ?_)
    refine lv_if_ne (tgt := 28) hx hb (kd dtX12_slips_0 11 rfl) (by decide) (fun hc => ?_) (fun hc => ?_)
    · have hf := kif_neg hc hf
      refine lv_aload_n hx hb (kd dtX12_slips_0 14 rfl) rfl (lv_at hl 0 rfl) ?_
      refine lv_iload_n hx hb (kd dtX12_slips_0 15 rfl) rfl (lv_at hl 1 rfl) ?_
      refine lv_iload_n hx hb (kd dtX12_slips_0 16 rfl) rfl (lv_at hl 2 rfl) ?_
      obtain ⟨v6, h5, hf⟩ := kbind hf
      refine kcallV (n := 2) [.int x1, .int x2] [] [.int v6] (rX12_wrongRun l D aC hB h5) rfl hB.1 F hml hX hZ hl.1 mwX12_wrongRun wmX12_304 rfl (by decide) (by decide +kernel) ⟨(by decide), (by decide)⟩ rfl rfl rfl (Nat.le_of_ble_eq_true rfl) (kd dtX12_slips_0 17 rfl) ⟨Nat.zero_le _, Nat.zero_le _⟩ (fun H locs hX => ?_)
      refine lv_istore (lv' := [(6, .int v6), (0, .ref h0), (1, .int x1), (2, .int x2), (3, .int x3), (4, .int x4), (5, .int x5)]) hx hb (kd dtX12_slips_0 18 rfl) hl (by decide) rfl (fun ls hl => ?_)
      refine lv_iload hx hb (kd dtX12_slips_0 19 rfl) (lv_at hl 0 rfl) ?_
      refine lv_if_eq (tgt := 44) hx hb (kd dtX12_slips_0 20 rfl) (by decide) (fun hc => ?_) (fun hc => ?_)
      · have hf := kif_pos hc hf
        refine lv_aload_n hx hb (kd dtX12_slips_0 23 rfl) rfl (lv_at hl 1 rfl) ?_
        obtain ⟨w7, h8, hf⟩ := kbind hf
        refine kcallV (n := 0) [] [] [] (rX12_asNow l D aC hB h8) rfl hB.1 F hml hX hZ hl.1 mwX12_asNow wmX12_307 rfl (by decide) (by decide +kernel) ⟨(by decide), (by decide)⟩ rfl rfl rfl (Nat.le_of_ble_eq_true rfl) (kd dtX12_slips_0 24 rfl) ⟨Nat.zero_le _, Nat.zero_le _⟩ (fun H locs hX => ?_)
        refine lv_aload_n hx hb (kd dtX12_slips_0 25 rfl) rfl (lv_at hl 1 rfl) ?_
        refine lv_iconst (v := (1 : Int32)) hx hb (kd dtX12_slips_0 26 rfl) (by decide) ?_
        obtain ⟨w9, hw9, hf⟩ := kbind hf
        refine rputF hw9 hB F hX wfX12_266 (by decide) rfl rfl rfl rfl (kd dtX12_slips_0 27 rfl) (fun H locs hX => ?_)
        refine lv_aload_n hx hb (kd dtX12_slips_0 28 rfl) rfl (lv_at hl 1 rfl) ?_
        refine lv_iload_n hx hb (kd dtX12_slips_0 29 rfl) rfl (lv_at hl 4 rfl) ?_
        obtain ⟨w10, hw10, hf⟩ := kbind hf
        refine rputF hw10 hB F hX wfX12_269 (by decide) rfl rfl rfl rfl (kd dtX12_slips_0 30 rfl) (fun H locs hX => ?_)
        refine lv_aload_n hx hb (kd dtX12_slips_0 31 rfl) rfl (lv_at hl 1 rfl) ?_
        refine lv_iload hx hb (kd dtX12_slips_0 32 rfl) (lv_at hl 5 rfl) ?_
        obtain ⟨w11, hw11, hf⟩ := kbind hf
        refine rputF hw11 hB F hX wfX12_275 (by decide) rfl rfl rfl rfl (kd dtX12_slips_0 33 rfl) (fun H locs hX => ?_)
        refine lv_aload_n hx hb (kd dtX12_slips_0 34 rfl) rfl (lv_at hl 1 rfl) ?_
        refine lv_iload_n hx hb (kd dtX12_slips_0 35 rfl) rfl (lv_at hl 2 rfl) ?_
        refine lv_iload_n hx hb (kd dtX12_slips_0 36 rfl) rfl (lv_at hl 3 rfl) ?_
        obtain ⟨w12, h13, hf⟩ := kbind hf
        refine kcallV (n := 2) [.int x1, .int x2] [] [] (rX12_runs l D aC hB h13) rfl hB.1 F hml hX hZ hl.1 mwX12_runs wmX12_310 rfl (by decide) (by decide +kernel) ⟨(by decide), (by decide)⟩ rfl rfl rfl (Nat.le_of_ble_eq_true rfl) (kd dtX12_slips_0 37 rfl) ⟨Nat.zero_le _, Nat.zero_le _⟩ (fun H locs hX => ?_)
        refine lv_aload_n hx hb (kd dtX12_slips_0 38 rfl) rfl (lv_at hl 1 rfl) ?_
        refine lv_iconst (v := (0 : Int32)) hx hb (kd dtX12_slips_0 39 rfl) (by decide) ?_
        obtain ⟨w14, hw14, hf⟩ := kbind hf
        refine rputF hw14 hB F hX wfX12_266 (by decide) rfl rfl rfl rfl (kd dtX12_slips_0 40 rfl) (fun H locs hX => ?_)
        refine lv_iload hx hb (kd dtX12_slips_0 41 rfl) (lv_at hl 6 rfl) ?_
        refine lv_if_ne (tgt := 95) hx hb (kd dtX12_slips_0 42 rfl) (by decide) (fun hc => ?_) (fun hc => ?_)
        · have hf := kif_neg hc hf
          refine lv_iload hx hb (kd dtX12_slips_0 50 rfl) (lv_at hl 6 rfl) ?_
          refine lv_iconst (v := (1 : Int32)) hx hb (kd dtX12_slips_0 51 rfl) (by decide) ?_
          refine lv_icmp_ne (tgt := 108) hx hb (kd dtX12_slips_0 52 rfl) (by decide) (fun hc => ?_) (fun hc => ?_)
          · have hf := kif_neg hc hf
            refine lv_iload hx hb (kd dtX12_slips_0 56 rfl) (lv_at hl 6 rfl) ?_
            refine lv_iconst (v := (2 : Int32)) hx hb (kd dtX12_slips_0 57 rfl) (by decide) ?_
            refine lv_icmp_ne (tgt := 121) hx hb (kd dtX12_slips_0 58 rfl) (by decide) (fun hc => ?_) (fun hc => ?_)
            · have hf := kif_neg hc hf
              refine lv_aload_n hx hb (kd dtX12_slips_0 62 rfl) rfl (lv_at hl 1 rfl) ?_
              refine rgetF (j := 34) hB F hX wfX12_263 (by decide) rfl (kd dtX12_slips_0 63 rfl) ?_
              obtain ⟨rfl, rfl⟩ := Prod.mk.inj (Option.some.inj hf)
              exact kiret F hX hr hlocks rfl (kd dtX12_slips_0 64 rfl)
            · have hf := kif_pos hc hf
              refine lv_aload_n hx hb (kd dtX12_slips_0 59 rfl) rfl (lv_at hl 1 rfl) ?_
              refine rgetF (j := 33) hB F hX wfX12_260 (by decide) rfl (kd dtX12_slips_0 60 rfl) ?_
              refine lv_goto (tgt := 125) hx hb (kd dtX12_slips_0 61 rfl) (by decide) ?_
              obtain ⟨rfl, rfl⟩ := Prod.mk.inj (Option.some.inj hf)
              exact kiret F hX hr hlocks rfl (kd dtX12_slips_0 64 rfl)
          · have hf := kif_pos hc hf
            refine lv_aload_n hx hb (kd dtX12_slips_0 53 rfl) rfl (lv_at hl 1 rfl) ?_
            refine rgetF (j := 29) hB F hX wfX12_251 (by decide) rfl (kd dtX12_slips_0 54 rfl) ?_
            refine lv_goto (tgt := 125) hx hb (kd dtX12_slips_0 55 rfl) (by decide) ?_
            obtain ⟨rfl, rfl⟩ := Prod.mk.inj (Option.some.inj hf)
            exact kiret F hX hr hlocks rfl (kd dtX12_slips_0 64 rfl)
        · have hf := kif_pos hc hf
          refine lv_aload_n hx hb (kd dtX12_slips_0 43 rfl) rfl (lv_at hl 1 rfl) ?_
          refine rgetF (j := 31) hB F hX wfX12_254 (by decide) rfl (kd dtX12_slips_0 44 rfl) ?_
          refine lv_if_lt (tgt := 91) hx hb (kd dtX12_slips_0 45 rfl) (by decide) (fun hc => ?_) (fun hc => ?_)
          · have hf := kif_pos hc hf
            refine lv_iconst (v := (0 : Int32)) hx hb (kd dtX12_slips_0 48 rfl) (by decide) ?_
            refine lv_goto (tgt := 125) hx hb (kd dtX12_slips_0 49 rfl) (by decide) ?_
            obtain ⟨rfl, rfl⟩ := Prod.mk.inj (Option.some.inj hf)
            exact kiret F hX hr hlocks rfl (kd dtX12_slips_0 64 rfl)
          · have hf := kif_neg hc hf
            refine lv_iconst (v := (1 : Int32)) hx hb (kd dtX12_slips_0 46 rfl) (by decide) ?_
            refine lv_goto (tgt := 125) hx hb (kd dtX12_slips_0 47 rfl) (by decide) ?_
            obtain ⟨rfl, rfl⟩ := Prod.mk.inj (Option.some.inj hf)
            exact kiret F hX hr hlocks rfl (kd dtX12_slips_0 64 rfl)
      · have hf := kif_neg hc hf
        refine lv_iload hx hb (kd dtX12_slips_0 21 rfl) (lv_at hl 0 rfl) ?_
        obtain ⟨rfl, rfl⟩ := Prod.mk.inj (Option.some.inj hf)
        exact kiret F hX hr hlocks rfl (kd dtX12_slips_0 22 rfl)
    · have hf := kif_pos hc hf
      refine lv_iconst (v := (-1 : Int32)) hx hb (kd dtX12_slips_0 12 rfl) (by decide) ?_
      obtain ⟨rfl, rfl⟩ := Prod.mk.inj (Option.some.inj hf)
      exact kiret F hX hr hlocks rfl (kd dtX12_slips_0 13 rfl)
theorem wfX12_346 : Cond.fieldLink RX12 346 (TX12 10).1 (TX12 10).2.1 (TX12 10).2.2.1 ∈ kT := kTm 1244 (by decide +kernel) rfl
def lX12_image_0 : List (Nat × Instr × Nat) := [(0, .iconst 0, 1), (1, .istore_n 1, 1), (2, .iload_n 1, 1), (3, .sipush 2400, 3), (6, .if_icmp .ge 21, 3), (9, .aload_n 0, 1), (10, .getfield 13, 3), (13, .iload_n 1, 1), (14, .aload_n 0, 1), (15, .getfield 9, 3), (18, .iload_n 1, 1), (19, .iaload, 1), (20, .iastore, 1), (21, .iinc 1 1, 3), (24, .goto (-22), 3), (27, .iconst 0, 1), (28, .istore_n 1, 1), (29, .iload_n 1, 1), (30, .sipush 1000, 3), (33, .if_icmp .ge 21, 3), (36, .aload_n 0, 1), (37, .getfield 19, 3), (40, .iload_n 1, 1), (41, .aload_n 0, 1), (42, .getfield 16, 3), (45, .iload_n 1, 1), (46, .iaload, 1), (47, .iastore, 1), (48, .iinc 1 1, 3), (51, .goto (-22), 3), (54, .aload_n 0, 1), (55, .iconst 1, 1), (56, .putfield 346, 3), (59, .aload_n 0, 1), (60, .getfield 16, 3), (63, .iconst 0, 1), (64, .iaload, 1), (65, .ireturn, 1)]
theorem dtX12_image_0 : kDec cX12_image lX12_image_0 = true := by decide +kernel
noncomputable def fX12_image_L2  : Nat → (Int32 → rW → Option (Int32 × rW)) → Int32 → rW → Option (Int32 × rW)
  | 0, _, _, _ => none
  | n + 1, k, x1, w =>
  if (2400 : Int32) ≤ x1 then
  k x1 w
  else
  (raI w 0 10000 x1).bind fun v1 =>
  (rsI w 1 2400 x1 v1).bind fun w2 =>
  fX12_image_L2 n k (x1 + (1 : Int32)) w2

noncomputable def fX12_image_L29  : Nat → (Int32 → rW → Option (Int32 × rW)) → Int32 → rW → Option (Int32 × rW)
  | 0, _, _, _ => none
  | n + 1, k, x1, w =>
  if (1000 : Int32) ≤ x1 then
  k x1 w
  else
  (raI w 2 1000 x1).bind fun v1 =>
  (rsI w 3 1000 x1 v1).bind fun w2 =>
  fX12_image_L29 n k (x1 + (1 : Int32)) w2

noncomputable def fX12_image (w : rW) : Option (Int32 × rW) :=
  fX12_image_L2 kFU (fun y1_1 w2 => fX12_image_L29 kFU (fun y1_3 w4 => (rpF w4 10 (1 : Int32)).bind fun w5 =>
  (raI w5 2 1000 (0 : Int32)).bind fun v6 =>
  some (v6, w5)) (0 : Int32) w2) (0 : Int32) w

set_option maxHeartbeats 4000000 in
set_option maxRecDepth 100000 in
theorem rX12_image (l : Launch) (D : va_G) (aC : Nat → ClassId) {h0 : Nat} {wB : kW} (hB : rOK h0 wB) {w : rW} {wR : rW} {oR : Int32} (h : fX12_image w = some (oR, wR)) : kC l D aC yX12_image cX12_image 2 (some .int) 1 12 [.ref h0] (rWo h0 wB w) (some (.int oR)) (rWo h0 wB wR) 0 0 := by
  refine kOf (own := RX12) (by decide) rfl (Nat.le_of_ble_eq_true rfl) ?_
  intro p e s m below meth c ls F hml hr hlocks hnm hX hZ hl
  obtain ⟨hx, hb, hts, hown, hK⟩ := id F
  have hl : lv_has ls 2 [(0, .ref h0)] := hl
  have hf := h
  rw [fX12_image] at hf
  refine lv_iconst (v := (0 : Int32)) hx hb (kd dtX12_image_0 0 rfl) (by decide) ?_
  refine lv_istore_n (lv' := [(1, .int (0 : Int32)), (0, .ref h0)]) hx hb (kd dtX12_image_0 1 rfl) rfl hl (by decide) rfl (fun ls hl => ?_)
  have hL2 : ∀ (n : Nat) (k : Int32 → rW → Option (Int32 × rW)), ∀ (z1_2 : Int32) (w_2 : rW) (H : Heap) (locs : List Loc) (ls : Array Slot), kX D aC (rWo h0 wB w) s.heap (rWo h0 wB w_2) H locs → lv_has ls 2 [(0, .ref h0), (1, .int z1_2)] → fX12_image_L2 n k z1_2 w_2 = some (oR, wR) → (∀ (z1_2 : Int32) (w_2 : rW) (H : Heap) (locs : List Loc) (ls : Array Slot), kX D aC (rWo h0 wB w) s.heap (rWo h0 wB w_2) H locs → lv_has ls 2 [(0, .ref h0), (1, .int z1_2)] → k z1_2 w_2 = some (oR, wR) → W p l e { frames := 1, cells := 0, slots := 0, locals := 12 } s m ([.ref h0] : List Value).toArray below meth c H locs 0 0 (MQ below (kQc D aC (rWo h0 wB w) (some (.int oR)) (rWo h0 wB wR)) ([.ref h0] : List Value).toArray s 0 0 (kA (rWo h0 wB w))) (F0 m 27 ls [])) → W p l e { frames := 1, cells := 0, slots := 0, locals := 12 } s m ([.ref h0] : List Value).toArray below meth c H locs 0 0 (MQ below (kQc D aC (rWo h0 wB w) (some (.int oR)) (rWo h0 wB wR)) ([.ref h0] : List Value).toArray s 0 0 (kA (rWo h0 wB w))) (F0 m 2 ls []) := by
    intro n k
    induction n with
    | zero =>
      intro z1_2 w_2 H locs ls hX hl hf hk
      rw [fX12_image_L2] at hf
      cases hf
    | succ n ih =>
      intro z1_2 w_2 H locs ls hX hl hf hk
      rw [fX12_image_L2] at hf
      refine lv_iload_n hx hb (kd dtX12_image_0 2 rfl) rfl (lv_at hl 1 rfl) ?_
      refine lv_sipush (v := (2400 : Int32)) hx hb (kd dtX12_image_0 3 rfl) (by decide) ?_
      refine lv_icmp_ge (tgt := 27) hx hb (kd dtX12_image_0 4 rfl) (by decide) (fun hc => ?_) (fun hc => ?_)
      · have hf := kif_pos hc hf
        exact hk z1_2 w_2 _ _ _ hX hl hf
      · have hf := kif_neg hc hf
        refine lv_aload_n hx hb (kd dtX12_image_0 5 rfl) rfl (lv_at hl 0 rfl) ?_
        refine rgetA (n := 1) (j := 1) hB (by decide) rfl F hX wfX12_13 (by decide) rfl (kd dtX12_image_0 6 rfl) ?_
        refine lv_iload_n hx hb (kd dtX12_image_0 7 rfl) rfl (lv_at hl 1 rfl) ?_
        refine lv_aload_n hx hb (kd dtX12_image_0 8 rfl) rfl (lv_at hl 0 rfl) ?_
        refine rgetA (n := 0) (j := 0) hB (by decide) rfl F hX wfX12_9 (by decide) rfl (kd dtX12_image_0 9 rfl) ?_
        refine lv_iload_n hx hb (kd dtX12_image_0 10 rfl) rfl (lv_at hl 1 rfl) ?_
        obtain ⟨v9, hv9, hf⟩ := kbind hf
        refine rald hB (by decide) hv9 F hX (kd dtX12_image_0 11 rfl) ?_
        obtain ⟨w10, hw10, hf⟩ := kbind hf
        refine rast hB (by decide) hw10 F hX (kd dtX12_image_0 12 rfl) (fun H locs hX => ?_)
        refine lv_iinc (v := z1_2 + (1 : Int32)) (lv' := [(1, .int (z1_2 + (1 : Int32))), (0, .ref h0)]) hx hb (kd dtX12_image_0 13 rfl) hl (k := 1) rfl (by rfl) (by decide) rfl (fun ls hl => ?_)
        refine lv_goto (tgt := 2) hx hb (kd dtX12_image_0 14 rfl) (by decide) ?_
        exact ih (z1_2 + (1 : Int32)) w10 _ _ _ hX (lv_sub hl [1, 0] rfl) hf hk
  refine hL2 kFU _ (0 : Int32) w _ _ _ hX (lv_sub hl [1, 0] rfl) hf ?_
  intro y1_1 w2 H locs ls hX hl hf
  refine lv_iconst (v := (0 : Int32)) hx hb (kd dtX12_image_0 15 rfl) (by decide) ?_
  refine lv_istore_n (lv' := [(1, .int (0 : Int32)), (0, .ref h0)]) hx hb (kd dtX12_image_0 16 rfl) rfl hl (by decide) rfl (fun ls hl => ?_)
  have hL29 : ∀ (n : Nat) (k : Int32 → rW → Option (Int32 × rW)), ∀ (z1_29 : Int32) (w_29 : rW) (H : Heap) (locs : List Loc) (ls : Array Slot), kX D aC (rWo h0 wB w) s.heap (rWo h0 wB w_29) H locs → lv_has ls 2 [(0, .ref h0), (1, .int z1_29)] → fX12_image_L29 n k z1_29 w_29 = some (oR, wR) → (∀ (z1_29 : Int32) (w_29 : rW) (H : Heap) (locs : List Loc) (ls : Array Slot), kX D aC (rWo h0 wB w) s.heap (rWo h0 wB w_29) H locs → lv_has ls 2 [(0, .ref h0), (1, .int z1_29)] → k z1_29 w_29 = some (oR, wR) → W p l e { frames := 1, cells := 0, slots := 0, locals := 12 } s m ([.ref h0] : List Value).toArray below meth c H locs 0 0 (MQ below (kQc D aC (rWo h0 wB w) (some (.int oR)) (rWo h0 wB wR)) ([.ref h0] : List Value).toArray s 0 0 (kA (rWo h0 wB w))) (F0 m 54 ls [])) → W p l e { frames := 1, cells := 0, slots := 0, locals := 12 } s m ([.ref h0] : List Value).toArray below meth c H locs 0 0 (MQ below (kQc D aC (rWo h0 wB w) (some (.int oR)) (rWo h0 wB wR)) ([.ref h0] : List Value).toArray s 0 0 (kA (rWo h0 wB w))) (F0 m 29 ls []) := by
    intro n k
    induction n with
    | zero =>
      intro z1_29 w_29 H locs ls hX hl hf hk
      rw [fX12_image_L29] at hf
      cases hf
    | succ n ih =>
      intro z1_29 w_29 H locs ls hX hl hf hk
      rw [fX12_image_L29] at hf
      refine lv_iload_n hx hb (kd dtX12_image_0 17 rfl) rfl (lv_at hl 1 rfl) ?_
      refine lv_sipush (v := (1000 : Int32)) hx hb (kd dtX12_image_0 18 rfl) (by decide) ?_
      refine lv_icmp_ge (tgt := 54) hx hb (kd dtX12_image_0 19 rfl) (by decide) (fun hc => ?_) (fun hc => ?_)
      · have hf := kif_pos hc hf
        exact hk z1_29 w_29 _ _ _ hX hl hf
      · have hf := kif_neg hc hf
        refine lv_aload_n hx hb (kd dtX12_image_0 20 rfl) rfl (lv_at hl 0 rfl) ?_
        refine rgetA (n := 3) (j := 3) hB (by decide) rfl F hX wfX12_19 (by decide) rfl (kd dtX12_image_0 21 rfl) ?_
        refine lv_iload_n hx hb (kd dtX12_image_0 22 rfl) rfl (lv_at hl 1 rfl) ?_
        refine lv_aload_n hx hb (kd dtX12_image_0 23 rfl) rfl (lv_at hl 0 rfl) ?_
        refine rgetA (n := 2) (j := 2) hB (by decide) rfl F hX wfX12_16 (by decide) rfl (kd dtX12_image_0 24 rfl) ?_
        refine lv_iload_n hx hb (kd dtX12_image_0 25 rfl) rfl (lv_at hl 1 rfl) ?_
        obtain ⟨v7, hv7, hf⟩ := kbind hf
        refine rald hB (by decide) hv7 F hX (kd dtX12_image_0 26 rfl) ?_
        obtain ⟨w8, hw8, hf⟩ := kbind hf
        refine rast hB (by decide) hw8 F hX (kd dtX12_image_0 27 rfl) (fun H locs hX => ?_)
        refine lv_iinc (v := z1_29 + (1 : Int32)) (lv' := [(1, .int (z1_29 + (1 : Int32))), (0, .ref h0)]) hx hb (kd dtX12_image_0 28 rfl) hl (k := 1) rfl (by rfl) (by decide) rfl (fun ls hl => ?_)
        refine lv_goto (tgt := 29) hx hb (kd dtX12_image_0 29 rfl) (by decide) ?_
        exact ih (z1_29 + (1 : Int32)) w8 _ _ _ hX (lv_sub hl [1, 0] rfl) hf hk
  refine hL29 kFU _ (0 : Int32) w2 _ _ _ hX (lv_sub hl [1, 0] rfl) hf ?_
  intro y1_3 w4 H locs ls hX hl hf
  refine lv_aload_n hx hb (kd dtX12_image_0 30 rfl) rfl (lv_at hl 0 rfl) ?_
  refine lv_iconst (v := (1 : Int32)) hx hb (kd dtX12_image_0 31 rfl) (by decide) ?_
  obtain ⟨w5, hw5, hf⟩ := kbind hf
  refine rputF hw5 hB F hX wfX12_346 (by decide) rfl rfl rfl rfl (kd dtX12_image_0 32 rfl) (fun H locs hX => ?_)
  refine lv_aload_n hx hb (kd dtX12_image_0 33 rfl) rfl (lv_at hl 0 rfl) ?_
  refine rgetA (n := 2) (j := 2) hB (by decide) rfl F hX wfX12_16 (by decide) rfl (kd dtX12_image_0 34 rfl) ?_
  refine lv_iconst (v := (0 : Int32)) hx hb (kd dtX12_image_0 35 rfl) (by decide) ?_
  obtain ⟨v6, hv6, hf⟩ := kbind hf
  refine rald hB (by decide) hv6 F hX (kd dtX12_image_0 36 rfl) ?_
  obtain ⟨rfl, rfl⟩ := Prod.mk.inj (Option.some.inj hf)
  exact kiret F hX hr hlocks rfl (kd dtX12_image_0 37 rfl)
def lX12_restore_0 : List (Nat × Instr × Nat) := [(0, .aload_n 0, 1), (1, .getfield 346, 3), (4, .ifCond .ne 6, 3), (7, .bipush (-3), 2), (9, .ireturn, 1), (10, .iconst 0, 1), (11, .istore_n 1, 1), (12, .iload_n 1, 1), (13, .sipush 2400, 3), (16, .if_icmp .ge 21, 3), (19, .aload_n 0, 1), (20, .getfield 9, 3), (23, .iload_n 1, 1), (24, .aload_n 0, 1), (25, .getfield 13, 3), (28, .iload_n 1, 1), (29, .iaload, 1), (30, .iastore, 1), (31, .iinc 1 1, 3), (34, .goto (-22), 3), (37, .iconst 0, 1), (38, .istore_n 1, 1), (39, .iload_n 1, 1), (40, .sipush 1000, 3), (43, .if_icmp .ge 21, 3), (46, .aload_n 0, 1), (47, .getfield 16, 3), (50, .iload_n 1, 1), (51, .aload_n 0, 1), (52, .getfield 19, 3), (55, .iload_n 1, 1), (56, .iaload, 1), (57, .iastore, 1), (58, .iinc 1 1, 3), (61, .goto (-22), 3), (64, .aload_n 0, 1), (65, .getfield 16, 3), (68, .iconst 0, 1), (69, .iaload, 1), (70, .ireturn, 1)]
theorem dtX12_restore_0 : kDec cX12_restore lX12_restore_0 = true := by decide +kernel
noncomputable def fX12_restore_L12  : Nat → (Int32 → rW → Option (Int32 × rW)) → Int32 → rW → Option (Int32 × rW)
  | 0, _, _, _ => none
  | n + 1, k, x1, w =>
  if (2400 : Int32) ≤ x1 then
  k x1 w
  else
  (raI w 1 2400 x1).bind fun v1 =>
  (rsI w 0 10000 x1 v1).bind fun w2 =>
  fX12_restore_L12 n k (x1 + (1 : Int32)) w2

noncomputable def fX12_restore_L39  : Nat → (Int32 → rW → Option (Int32 × rW)) → Int32 → rW → Option (Int32 × rW)
  | 0, _, _, _ => none
  | n + 1, k, x1, w =>
  if (1000 : Int32) ≤ x1 then
  k x1 w
  else
  (raI w 3 1000 x1).bind fun v1 =>
  (rsI w 2 1000 x1 v1).bind fun w2 =>
  fX12_restore_L39 n k (x1 + (1 : Int32)) w2

noncomputable def fX12_restore (w : rW) : Option (Int32 × rW) :=
  if (rF w 10) = 0 then
  some ((-3 : Int32), w)
  else
  fX12_restore_L12 kFU (fun y1_1 w2 => fX12_restore_L39 kFU (fun y1_3 w4 => (raI w4 2 1000 (0 : Int32)).bind fun v5 =>
  some (v5, w4)) (0 : Int32) w2) (0 : Int32) w

set_option maxHeartbeats 4000000 in
set_option maxRecDepth 100000 in
theorem rX12_restore (l : Launch) (D : va_G) (aC : Nat → ClassId) {h0 : Nat} {wB : kW} (hB : rOK h0 wB) {w : rW} {wR : rW} {oR : Int32} (h : fX12_restore w = some (oR, wR)) : kC l D aC yX12_restore cX12_restore 2 (some .int) 1 12 [.ref h0] (rWo h0 wB w) (some (.int oR)) (rWo h0 wB wR) 0 0 := by
  refine kOf (own := RX12) (by decide) rfl (Nat.le_of_ble_eq_true rfl) ?_
  intro p e s m below meth c ls F hml hr hlocks hnm hX hZ hl
  obtain ⟨hx, hb, hts, hown, hK⟩ := id F
  have hl : lv_has ls 2 [(0, .ref h0)] := hl
  have hf := h
  rw [fX12_restore] at hf
  refine lv_aload_n hx hb (kd dtX12_restore_0 0 rfl) rfl (lv_at hl 0 rfl) ?_
  refine rgetF (j := 10) hB F hX wfX12_346 (by decide) rfl (kd dtX12_restore_0 1 rfl) ?_
  refine lv_if_ne (tgt := 10) hx hb (kd dtX12_restore_0 2 rfl) (by decide) (fun hc => ?_) (fun hc => ?_)
  · have hf := kif_neg hc hf
    refine lv_iconst (v := (0 : Int32)) hx hb (kd dtX12_restore_0 5 rfl) (by decide) ?_
    refine lv_istore_n (lv' := [(1, .int (0 : Int32)), (0, .ref h0)]) hx hb (kd dtX12_restore_0 6 rfl) rfl hl (by decide) rfl (fun ls hl => ?_)
    have hL12 : ∀ (n : Nat) (k : Int32 → rW → Option (Int32 × rW)), ∀ (z1_12 : Int32) (w_12 : rW) (H : Heap) (locs : List Loc) (ls : Array Slot), kX D aC (rWo h0 wB w) s.heap (rWo h0 wB w_12) H locs → lv_has ls 2 [(0, .ref h0), (1, .int z1_12)] → fX12_restore_L12 n k z1_12 w_12 = some (oR, wR) → (∀ (z1_12 : Int32) (w_12 : rW) (H : Heap) (locs : List Loc) (ls : Array Slot), kX D aC (rWo h0 wB w) s.heap (rWo h0 wB w_12) H locs → lv_has ls 2 [(0, .ref h0), (1, .int z1_12)] → k z1_12 w_12 = some (oR, wR) → W p l e { frames := 1, cells := 0, slots := 0, locals := 12 } s m ([.ref h0] : List Value).toArray below meth c H locs 0 0 (MQ below (kQc D aC (rWo h0 wB w) (some (.int oR)) (rWo h0 wB wR)) ([.ref h0] : List Value).toArray s 0 0 (kA (rWo h0 wB w))) (F0 m 37 ls [])) → W p l e { frames := 1, cells := 0, slots := 0, locals := 12 } s m ([.ref h0] : List Value).toArray below meth c H locs 0 0 (MQ below (kQc D aC (rWo h0 wB w) (some (.int oR)) (rWo h0 wB wR)) ([.ref h0] : List Value).toArray s 0 0 (kA (rWo h0 wB w))) (F0 m 12 ls []) := by
      intro n k
      induction n with
      | zero =>
        intro z1_12 w_12 H locs ls hX hl hf hk
        rw [fX12_restore_L12] at hf
        cases hf
      | succ n ih =>
        intro z1_12 w_12 H locs ls hX hl hf hk
        rw [fX12_restore_L12] at hf
        refine lv_iload_n hx hb (kd dtX12_restore_0 7 rfl) rfl (lv_at hl 1 rfl) ?_
        refine lv_sipush (v := (2400 : Int32)) hx hb (kd dtX12_restore_0 8 rfl) (by decide) ?_
        refine lv_icmp_ge (tgt := 37) hx hb (kd dtX12_restore_0 9 rfl) (by decide) (fun hc => ?_) (fun hc => ?_)
        · have hf := kif_pos hc hf
          exact hk z1_12 w_12 _ _ _ hX hl hf
        · have hf := kif_neg hc hf
          refine lv_aload_n hx hb (kd dtX12_restore_0 10 rfl) rfl (lv_at hl 0 rfl) ?_
          refine rgetA (n := 0) (j := 0) hB (by decide) rfl F hX wfX12_9 (by decide) rfl (kd dtX12_restore_0 11 rfl) ?_
          refine lv_iload_n hx hb (kd dtX12_restore_0 12 rfl) rfl (lv_at hl 1 rfl) ?_
          refine lv_aload_n hx hb (kd dtX12_restore_0 13 rfl) rfl (lv_at hl 0 rfl) ?_
          refine rgetA (n := 1) (j := 1) hB (by decide) rfl F hX wfX12_13 (by decide) rfl (kd dtX12_restore_0 14 rfl) ?_
          refine lv_iload_n hx hb (kd dtX12_restore_0 15 rfl) rfl (lv_at hl 1 rfl) ?_
          obtain ⟨v8, hv8, hf⟩ := kbind hf
          refine rald hB (by decide) hv8 F hX (kd dtX12_restore_0 16 rfl) ?_
          obtain ⟨w9, hw9, hf⟩ := kbind hf
          refine rast hB (by decide) hw9 F hX (kd dtX12_restore_0 17 rfl) (fun H locs hX => ?_)
          refine lv_iinc (v := z1_12 + (1 : Int32)) (lv' := [(1, .int (z1_12 + (1 : Int32))), (0, .ref h0)]) hx hb (kd dtX12_restore_0 18 rfl) hl (k := 1) rfl (by rfl) (by decide) rfl (fun ls hl => ?_)
          refine lv_goto (tgt := 12) hx hb (kd dtX12_restore_0 19 rfl) (by decide) ?_
          exact ih (z1_12 + (1 : Int32)) w9 _ _ _ hX (lv_sub hl [1, 0] rfl) hf hk
    refine hL12 kFU _ (0 : Int32) w _ _ _ hX (lv_sub hl [1, 0] rfl) hf ?_
    intro y1_1 w2 H locs ls hX hl hf
    refine lv_iconst (v := (0 : Int32)) hx hb (kd dtX12_restore_0 20 rfl) (by decide) ?_
    refine lv_istore_n (lv' := [(1, .int (0 : Int32)), (0, .ref h0)]) hx hb (kd dtX12_restore_0 21 rfl) rfl hl (by decide) rfl (fun ls hl => ?_)
    have hL39 : ∀ (n : Nat) (k : Int32 → rW → Option (Int32 × rW)), ∀ (z1_39 : Int32) (w_39 : rW) (H : Heap) (locs : List Loc) (ls : Array Slot), kX D aC (rWo h0 wB w) s.heap (rWo h0 wB w_39) H locs → lv_has ls 2 [(0, .ref h0), (1, .int z1_39)] → fX12_restore_L39 n k z1_39 w_39 = some (oR, wR) → (∀ (z1_39 : Int32) (w_39 : rW) (H : Heap) (locs : List Loc) (ls : Array Slot), kX D aC (rWo h0 wB w) s.heap (rWo h0 wB w_39) H locs → lv_has ls 2 [(0, .ref h0), (1, .int z1_39)] → k z1_39 w_39 = some (oR, wR) → W p l e { frames := 1, cells := 0, slots := 0, locals := 12 } s m ([.ref h0] : List Value).toArray below meth c H locs 0 0 (MQ below (kQc D aC (rWo h0 wB w) (some (.int oR)) (rWo h0 wB wR)) ([.ref h0] : List Value).toArray s 0 0 (kA (rWo h0 wB w))) (F0 m 64 ls [])) → W p l e { frames := 1, cells := 0, slots := 0, locals := 12 } s m ([.ref h0] : List Value).toArray below meth c H locs 0 0 (MQ below (kQc D aC (rWo h0 wB w) (some (.int oR)) (rWo h0 wB wR)) ([.ref h0] : List Value).toArray s 0 0 (kA (rWo h0 wB w))) (F0 m 39 ls []) := by
      intro n k
      induction n with
      | zero =>
        intro z1_39 w_39 H locs ls hX hl hf hk
        rw [fX12_restore_L39] at hf
        cases hf
      | succ n ih =>
        intro z1_39 w_39 H locs ls hX hl hf hk
        rw [fX12_restore_L39] at hf
        refine lv_iload_n hx hb (kd dtX12_restore_0 22 rfl) rfl (lv_at hl 1 rfl) ?_
        refine lv_sipush (v := (1000 : Int32)) hx hb (kd dtX12_restore_0 23 rfl) (by decide) ?_
        refine lv_icmp_ge (tgt := 64) hx hb (kd dtX12_restore_0 24 rfl) (by decide) (fun hc => ?_) (fun hc => ?_)
        · have hf := kif_pos hc hf
          exact hk z1_39 w_39 _ _ _ hX hl hf
        · have hf := kif_neg hc hf
          refine lv_aload_n hx hb (kd dtX12_restore_0 25 rfl) rfl (lv_at hl 0 rfl) ?_
          refine rgetA (n := 2) (j := 2) hB (by decide) rfl F hX wfX12_16 (by decide) rfl (kd dtX12_restore_0 26 rfl) ?_
          refine lv_iload_n hx hb (kd dtX12_restore_0 27 rfl) rfl (lv_at hl 1 rfl) ?_
          refine lv_aload_n hx hb (kd dtX12_restore_0 28 rfl) rfl (lv_at hl 0 rfl) ?_
          refine rgetA (n := 3) (j := 3) hB (by decide) rfl F hX wfX12_19 (by decide) rfl (kd dtX12_restore_0 29 rfl) ?_
          refine lv_iload_n hx hb (kd dtX12_restore_0 30 rfl) rfl (lv_at hl 1 rfl) ?_
          obtain ⟨v6, hv6, hf⟩ := kbind hf
          refine rald hB (by decide) hv6 F hX (kd dtX12_restore_0 31 rfl) ?_
          obtain ⟨w7, hw7, hf⟩ := kbind hf
          refine rast hB (by decide) hw7 F hX (kd dtX12_restore_0 32 rfl) (fun H locs hX => ?_)
          refine lv_iinc (v := z1_39 + (1 : Int32)) (lv' := [(1, .int (z1_39 + (1 : Int32))), (0, .ref h0)]) hx hb (kd dtX12_restore_0 33 rfl) hl (k := 1) rfl (by rfl) (by decide) rfl (fun ls hl => ?_)
          refine lv_goto (tgt := 39) hx hb (kd dtX12_restore_0 34 rfl) (by decide) ?_
          exact ih (z1_39 + (1 : Int32)) w7 _ _ _ hX (lv_sub hl [1, 0] rfl) hf hk
    refine hL39 kFU _ (0 : Int32) w2 _ _ _ hX (lv_sub hl [1, 0] rfl) hf ?_
    intro y1_3 w4 H locs ls hX hl hf
    refine lv_aload_n hx hb (kd dtX12_restore_0 35 rfl) rfl (lv_at hl 0 rfl) ?_
    refine rgetA (n := 2) (j := 2) hB (by decide) rfl F hX wfX12_16 (by decide) rfl (kd dtX12_restore_0 36 rfl) ?_
    refine lv_iconst (v := (0 : Int32)) hx hb (kd dtX12_restore_0 37 rfl) (by decide) ?_
    obtain ⟨v5, hv5, hf⟩ := kbind hf
    refine rald hB (by decide) hv5 F hX (kd dtX12_restore_0 38 rfl) ?_
    obtain ⟨rfl, rfl⟩ := Prod.mk.inj (Option.some.inj hf)
    exact kiret F hX hr hlocks rfl (kd dtX12_restore_0 39 rfl)
  · have hf := kif_pos hc hf
    refine lv_bipush (v := (-3 : Int32)) hx hb (kd dtX12_restore_0 3 rfl) (by decide) ?_
    obtain ⟨rfl, rfl⟩ := Prod.mk.inj (Option.some.inj hf)
    exact kiret F hX hr hlocks rfl (kd dtX12_restore_0 4 rfl)
def lX12_count_0 : List (Nat × Instr × Nat) := [(0, .iconst 0, 1), (1, .istore_n 2, 1), (2, .iload_n 1, 1), (3, .tableswitch 172 0 5 #[37, 44, 44, 85, 92, 136], 37), (40, .aload_n 0, 1), (41, .getfield 16, 3), (44, .iconst 0, 1), (45, .iaload, 1), (46, .ireturn, 1), (47, .iconst 0, 1), (48, .istore_n 3, 1), (49, .iload_n 3, 1), (50, .aload_n 0, 1), (51, .getfield 16, 3), (54, .iconst 0, 1), (55, .iaload, 1), (56, .if_icmp .ge 30, 3), (59, .iload_n 2, 1), (60, .aload_n 0, 1), (61, .getfield 16, 3), (64, .bipush 43, 2), (66, .iload_n 3, 1), (67, .iadd, 1), (68, .iaload, 1), (69, .iload_n 1, 1), (70, .if_icmp .ne 7, 3), (73, .iconst 1, 1), (74, .goto 4, 3), (77, .iconst 0, 1), (78, .iadd, 1), (79, .istore_n 2, 1), (80, .iinc 3 1, 3), (83, .goto (-34), 3), (86, .iload_n 2, 1), (87, .ireturn, 1), (88, .aload_n 0, 1), (89, .getfield 16, 3), (92, .iconst 2, 1), (93, .iaload, 1), (94, .ireturn, 1), (95, .iconst 0, 1), (96, .istore_n 3, 1), (97, .iload_n 3, 1), (98, .aload_n 0, 1), (99, .getfield 16, 3), (102, .iconst 0, 1), (103, .iaload, 1), (104, .if_icmp .ge 33, 3), (107, .iload_n 2, 1), (108, .aload_n 0, 1), (109, .iload_n 3, 1), (110, .invokestatic 86, 3), (113, .iload_n 3, 1), (114, .invokestatic 86, 3), (117, .aload_n 0, 1), (118, .getfield 16, 3), (121, .iconst 3, 1), (122, .iload_n 3, 1), (123, .iadd, 1), (124, .iaload, 1), (125, .iadd, 1), (126, .invokevirtual 132, 3), (129, .iadd, 1), (130, .istore_n 2, 1), (131, .iinc 3 1, 3), (134, .goto (-37), 3), (137, .iload_n 2, 1), (138, .ireturn, 1), (139, .iconst 0, 1), (140, .istore_n 3, 1), (141, .iload_n 3, 1), (142, .aload_n 0, 1), (143, .getfield 16, 3), (146, .iconst 0, 1), (147, .iaload, 1), (148, .if_icmp .ge 25, 3), (151, .iload_n 2, 1), (152, .aload_n 0, 1), (153, .iload_n 3, 1), (154, .invokevirtual 138, 3)]
theorem dtX12_count_0 : kDec cX12_count lX12_count_0 = true := by decide +kernel
def lX12_count_1 : List (Nat × Instr × Nat) := [(157, .ifCond .eq 7, 3), (160, .iconst 1, 1), (161, .goto 4, 3), (164, .iconst 0, 1), (165, .iadd, 1), (166, .istore_n 2, 1), (167, .iinc 3 1, 3), (170, .goto (-29), 3), (173, .iload_n 2, 1), (174, .ireturn, 1), (175, .iconst (-1), 1), (176, .ireturn, 1)]
theorem dtX12_count_1 : kDec cX12_count lX12_count_1 = true := by decide +kernel
noncomputable def fX12_count_L49 (x1 : Int32) (w : rW) : Nat → (Int32 → Int32 → Option Int32) → Int32 → Int32 → Option Int32
  | 0, _, _, _ => none
  | n + 1, k, x2, x3 =>
  (raI w 2 1000 (0 : Int32)).bind fun v1 =>
  if v1 ≤ x3 then
  k x2 x3
  else
  (raI w 2 1000 ((43 : Int32) + x3)).bind fun v2 =>
  if v2 = x1 then
  fX12_count_L49 x1 w n k (x2 + (1 : Int32)) (x3 + (1 : Int32))
  else
  fX12_count_L49 x1 w n k (x2 + (0 : Int32)) (x3 + (1 : Int32))

noncomputable def fX12_count_L97 (x1 : Int32) (w : rW) : Nat → (Int32 → Int32 → Option Int32) → Int32 → Int32 → Option Int32
  | 0, _, _, _ => none
  | n + 1, k, x2, x3 =>
  (raI w 2 1000 (0 : Int32)).bind fun v1 =>
  if v1 ≤ x3 then
  k x2 x3
  else
  (fX12_textOf x3).bind fun v3 =>
  (fX12_textOf x3).bind fun v5 =>
  (raI w 2 1000 ((3 : Int32) + x3)).bind fun v6 =>
  (fX12_sizeOf v3 (v5 + v6) w).bind fun v8 =>
  fX12_count_L97 x1 w n k (x2 + v8) (x3 + (1 : Int32))

noncomputable def fX12_count_L141 (x1 : Int32) (w : rW) : Nat → (Int32 → Int32 → Option Int32) → Int32 → Int32 → Option Int32
  | 0, _, _, _ => none
  | n + 1, k, x2, x3 =>
  (raI w 2 1000 (0 : Int32)).bind fun v1 =>
  if v1 ≤ x3 then
  k x2 x3
  else
  (fX12_isAlways x3 w).bind fun v3 =>
  if v3 = 0 then
  fX12_count_L141 x1 w n k (x2 + (0 : Int32)) (x3 + (1 : Int32))
  else
  fX12_count_L141 x1 w n k (x2 + (1 : Int32)) (x3 + (1 : Int32))

noncomputable def fX12_count (x1 : Int32) (w : rW) : Option Int32 :=
  if x1 = (0 : Int32) then
  (raI w 2 1000 (0 : Int32)).bind fun v1 =>
  some v1
  else if x1 = (1 : Int32) then
  fX12_count_L49 x1 w kFU (fun y2_2 y3_3 => some y2_2) (0 : Int32) (0 : Int32)
  else if x1 = (2 : Int32) then
  fX12_count_L49 x1 w kFU (fun y2_4 y3_5 => some y2_4) (0 : Int32) (0 : Int32)
  else if x1 = (3 : Int32) then
  (raI w 2 1000 (2 : Int32)).bind fun v6 =>
  some v6
  else if x1 = (4 : Int32) then
  fX12_count_L97 x1 w kFU (fun y2_7 y3_8 => some y2_7) (0 : Int32) (0 : Int32)
  else if x1 = (5 : Int32) then
  fX12_count_L141 x1 w kFU (fun y2_9 y3_10 => some y2_9) (0 : Int32) (0 : Int32)
  else 
  some (-1 : Int32)

set_option maxHeartbeats 4000000 in
set_option maxRecDepth 100000 in
theorem rX12_count (l : Launch) (D : va_G) (aC : Nat → ClassId) {h0 : Nat} {wB : kW} (hB : rOK h0 wB) {x1 : Int32} {w : rW} {oR : Int32} (h : fX12_count x1 w = some oR) : kC l D aC yX12_count cX12_count 4 (some .int) 806 19326 [.ref h0, .int x1] (rWo h0 wB w) (some (.int oR)) (rWo h0 wB w) 0 0 := by
  refine kOf (own := RX12) (by decide) rfl (Nat.le_of_ble_eq_true rfl) ?_
  intro p e s m below meth c ls F hml hr hlocks hnm hX hZ hl
  obtain ⟨hx, hb, hts, hown, hK⟩ := id F
  have hl : lv_has ls 4 [(0, .ref h0), (1, .int x1)] := hl
  have hf := h
  rw [fX12_count] at hf
  refine lv_iconst (v := (0 : Int32)) hx hb (kd dtX12_count_0 0 rfl) (by decide) ?_
  refine lv_istore_n (lv' := [(2, .int (0 : Int32)), (0, .ref h0), (1, .int x1)]) hx hb (kd dtX12_count_0 1 rfl) rfl hl (by decide) rfl (fun ls hl => ?_)
  refine lv_iload_n hx hb (kd dtX12_count_0 2 rfl) rfl (lv_at hl 2 rfl) ?_
  by_cases hc0 : x1 = (0 : Int32)
  · have hf := kif_pos hc0 hf
    have hq : (x1).toInt = 0 := by rw [hc0]; rfl
    refine lv_tableIn (off := 37) (tgt := 40) hx hb (kd dtX12_count_0 3 rfl) (by rw [hq]; decide) (by rw [hq]; decide) (by rw [hq]; rfl) (by decide) ?_
    refine lv_aload_n hx hb (kd dtX12_count_0 4 rfl) rfl (lv_at hl 1 rfl) ?_
    refine rgetA (n := 2) (j := 2) hB (by decide) rfl F hX wfX12_16 (by decide) rfl (kd dtX12_count_0 5 rfl) ?_
    refine lv_iconst (v := (0 : Int32)) hx hb (kd dtX12_count_0 6 rfl) (by decide) ?_
    obtain ⟨v1, hv1, hf⟩ := kbind hf
    refine rald hB (by decide) hv1 F hX (kd dtX12_count_0 7 rfl) ?_
    obtain rfl := Option.some.inj hf
    exact kiret F hX hr hlocks rfl (kd dtX12_count_0 8 rfl)
  have hf := kif_neg hc0 hf
  by_cases hc1 : x1 = (1 : Int32)
  · have hf := kif_pos hc1 hf
    have hq : (x1).toInt = 1 := by rw [hc1]; rfl
    refine lv_tableIn (off := 44) (tgt := 47) hx hb (kd dtX12_count_0 3 rfl) (by rw [hq]; decide) (by rw [hq]; decide) (by rw [hq]; rfl) (by decide) ?_
    refine lv_iconst (v := (0 : Int32)) hx hb (kd dtX12_count_0 9 rfl) (by decide) ?_
    refine lv_istore_n (lv' := [(3, .int (0 : Int32)), (2, .int (0 : Int32)), (0, .ref h0), (1, .int x1)]) hx hb (kd dtX12_count_0 10 rfl) rfl hl (by decide) rfl (fun ls hl => ?_)
    have hL49 : ∀ (n : Nat) (k : Int32 → Int32 → Option Int32), ∀ (z2_49 : Int32) (z3_49 : Int32) (H : Heap) (locs : List Loc) (ls : Array Slot), kX D aC (rWo h0 wB w) s.heap (rWo h0 wB w) H locs → lv_has ls 4 [(0, .ref h0), (1, .int x1), (2, .int z2_49), (3, .int z3_49)] → fX12_count_L49 x1 w n k z2_49 z3_49 = some oR → (∀ (z2_49 : Int32) (z3_49 : Int32) (H : Heap) (locs : List Loc) (ls : Array Slot), kX D aC (rWo h0 wB w) s.heap (rWo h0 wB w) H locs → lv_has ls 4 [(0, .ref h0), (1, .int x1), (2, .int z2_49), (3, .int z3_49)] → k z2_49 z3_49 = some oR → W p l e { frames := 806, cells := 0, slots := 0, locals := 19326 } s m ([.ref h0, .int x1] : List Value).toArray below meth c H locs 0 0 (MQ below (kQc D aC (rWo h0 wB w) (some (.int oR)) (rWo h0 wB w)) ([.ref h0, .int x1] : List Value).toArray s 0 0 (kA (rWo h0 wB w))) (F0 m 86 ls [])) → W p l e { frames := 806, cells := 0, slots := 0, locals := 19326 } s m ([.ref h0, .int x1] : List Value).toArray below meth c H locs 0 0 (MQ below (kQc D aC (rWo h0 wB w) (some (.int oR)) (rWo h0 wB w)) ([.ref h0, .int x1] : List Value).toArray s 0 0 (kA (rWo h0 wB w))) (F0 m 49 ls []) := by
      intro n k
      induction n with
      | zero =>
        intro z2_49 z3_49 H locs ls hX hl hf hk
        rw [fX12_count_L49] at hf
        cases hf
      | succ n ih =>
        intro z2_49 z3_49 H locs ls hX hl hf hk
        rw [fX12_count_L49] at hf
        refine lv_iload_n hx hb (kd dtX12_count_0 11 rfl) rfl (lv_at hl 3 rfl) ?_
        refine lv_aload_n hx hb (kd dtX12_count_0 12 rfl) rfl (lv_at hl 0 rfl) ?_
        refine rgetA (n := 2) (j := 2) hB (by decide) rfl F hX wfX12_16 (by decide) rfl (kd dtX12_count_0 13 rfl) ?_
        refine lv_iconst (v := (0 : Int32)) hx hb (kd dtX12_count_0 14 rfl) (by decide) ?_
        obtain ⟨v4, hv4, hf⟩ := kbind hf
        refine rald hB (by decide) hv4 F hX (kd dtX12_count_0 15 rfl) ?_
        refine lv_icmp_ge (tgt := 86) hx hb (kd dtX12_count_0 16 rfl) (by decide) (fun hc => ?_) (fun hc => ?_)
        · have hf := kif_pos hc hf
          exact hk z2_49 z3_49 _ _ _ hX hl hf
        · have hf := kif_neg hc hf
          refine lv_iload_n hx hb (kd dtX12_count_0 17 rfl) rfl (lv_at hl 2 rfl) ?_
          refine lv_aload_n hx hb (kd dtX12_count_0 18 rfl) rfl (lv_at hl 0 rfl) ?_
          refine rgetA (n := 2) (j := 2) hB (by decide) rfl F hX wfX12_16 (by decide) rfl (kd dtX12_count_0 19 rfl) ?_
          refine lv_bipush (v := (43 : Int32)) hx hb (kd dtX12_count_0 20 rfl) (by decide) ?_
          refine lv_iload_n hx hb (kd dtX12_count_0 21 rfl) rfl (lv_at hl 3 rfl) ?_
          refine lv_iadd hx hb (kd dtX12_count_0 22 rfl) ?_
          obtain ⟨v5, hv5, hf⟩ := kbind hf
          refine rald hB (by decide) hv5 F hX (kd dtX12_count_0 23 rfl) ?_
          refine lv_iload_n hx hb (kd dtX12_count_0 24 rfl) rfl (lv_at hl 1 rfl) ?_
          refine lv_icmp_ne (tgt := 77) hx hb (kd dtX12_count_0 25 rfl) (by decide) (fun hc => ?_) (fun hc => ?_)
          · have hf := kif_neg hc hf
            refine lv_iconst (v := (0 : Int32)) hx hb (kd dtX12_count_0 28 rfl) (by decide) ?_
            refine lv_iadd hx hb (kd dtX12_count_0 29 rfl) ?_
            refine lv_istore_n (lv' := [(2, .int (z2_49 + (0 : Int32))), (0, .ref h0), (1, .int x1), (3, .int z3_49)]) hx hb (kd dtX12_count_0 30 rfl) rfl hl (by decide) rfl (fun ls hl => ?_)
            refine lv_iinc (v := z3_49 + (1 : Int32)) (lv' := [(3, .int (z3_49 + (1 : Int32))), (2, .int (z2_49 + (0 : Int32))), (0, .ref h0), (1, .int x1)]) hx hb (kd dtX12_count_0 31 rfl) hl (k := 3) rfl (by rfl) (by decide) rfl (fun ls hl => ?_)
            refine lv_goto (tgt := 49) hx hb (kd dtX12_count_0 32 rfl) (by decide) ?_
            exact ih (z2_49 + (0 : Int32)) (z3_49 + (1 : Int32)) _ _ _ hX (lv_sub hl [2, 3, 1, 0] rfl) hf hk
          · have hf := kif_pos hc hf
            refine lv_iconst (v := (1 : Int32)) hx hb (kd dtX12_count_0 26 rfl) (by decide) ?_
            refine lv_goto (tgt := 78) hx hb (kd dtX12_count_0 27 rfl) (by decide) ?_
            refine lv_iadd hx hb (kd dtX12_count_0 29 rfl) ?_
            refine lv_istore_n (lv' := [(2, .int (z2_49 + (1 : Int32))), (0, .ref h0), (1, .int x1), (3, .int z3_49)]) hx hb (kd dtX12_count_0 30 rfl) rfl hl (by decide) rfl (fun ls hl => ?_)
            refine lv_iinc (v := z3_49 + (1 : Int32)) (lv' := [(3, .int (z3_49 + (1 : Int32))), (2, .int (z2_49 + (1 : Int32))), (0, .ref h0), (1, .int x1)]) hx hb (kd dtX12_count_0 31 rfl) hl (k := 3) rfl (by rfl) (by decide) rfl (fun ls hl => ?_)
            refine lv_goto (tgt := 49) hx hb (kd dtX12_count_0 32 rfl) (by decide) ?_
            exact ih (z2_49 + (1 : Int32)) (z3_49 + (1 : Int32)) _ _ _ hX (lv_sub hl [2, 3, 1, 0] rfl) hf hk
    refine hL49 kFU _ (0 : Int32) (0 : Int32) _ _ _ hX (lv_sub hl [2, 3, 1, 0] rfl) hf ?_
    intro y2_2 y3_3 H locs ls hX hl hf
    refine lv_iload_n hx hb (kd dtX12_count_0 33 rfl) rfl (lv_at hl 2 rfl) ?_
    obtain rfl := Option.some.inj hf
    exact kiret F hX hr hlocks rfl (kd dtX12_count_0 34 rfl)
  have hf := kif_neg hc1 hf
  by_cases hc2 : x1 = (2 : Int32)
  · have hf := kif_pos hc2 hf
    have hq : (x1).toInt = 2 := by rw [hc2]; rfl
    refine lv_tableIn (off := 44) (tgt := 47) hx hb (kd dtX12_count_0 3 rfl) (by rw [hq]; decide) (by rw [hq]; decide) (by rw [hq]; rfl) (by decide) ?_
    refine lv_iconst (v := (0 : Int32)) hx hb (kd dtX12_count_0 9 rfl) (by decide) ?_
    refine lv_istore_n (lv' := [(3, .int (0 : Int32)), (2, .int (0 : Int32)), (0, .ref h0), (1, .int x1)]) hx hb (kd dtX12_count_0 10 rfl) rfl hl (by decide) rfl (fun ls hl => ?_)
    have hL49 : ∀ (n : Nat) (k : Int32 → Int32 → Option Int32), ∀ (z2_49 : Int32) (z3_49 : Int32) (H : Heap) (locs : List Loc) (ls : Array Slot), kX D aC (rWo h0 wB w) s.heap (rWo h0 wB w) H locs → lv_has ls 4 [(0, .ref h0), (1, .int x1), (2, .int z2_49), (3, .int z3_49)] → fX12_count_L49 x1 w n k z2_49 z3_49 = some oR → (∀ (z2_49 : Int32) (z3_49 : Int32) (H : Heap) (locs : List Loc) (ls : Array Slot), kX D aC (rWo h0 wB w) s.heap (rWo h0 wB w) H locs → lv_has ls 4 [(0, .ref h0), (1, .int x1), (2, .int z2_49), (3, .int z3_49)] → k z2_49 z3_49 = some oR → W p l e { frames := 806, cells := 0, slots := 0, locals := 19326 } s m ([.ref h0, .int x1] : List Value).toArray below meth c H locs 0 0 (MQ below (kQc D aC (rWo h0 wB w) (some (.int oR)) (rWo h0 wB w)) ([.ref h0, .int x1] : List Value).toArray s 0 0 (kA (rWo h0 wB w))) (F0 m 86 ls [])) → W p l e { frames := 806, cells := 0, slots := 0, locals := 19326 } s m ([.ref h0, .int x1] : List Value).toArray below meth c H locs 0 0 (MQ below (kQc D aC (rWo h0 wB w) (some (.int oR)) (rWo h0 wB w)) ([.ref h0, .int x1] : List Value).toArray s 0 0 (kA (rWo h0 wB w))) (F0 m 49 ls []) := by
      intro n k
      induction n with
      | zero =>
        intro z2_49 z3_49 H locs ls hX hl hf hk
        rw [fX12_count_L49] at hf
        cases hf
      | succ n ih =>
        intro z2_49 z3_49 H locs ls hX hl hf hk
        rw [fX12_count_L49] at hf
        refine lv_iload_n hx hb (kd dtX12_count_0 11 rfl) rfl (lv_at hl 3 rfl) ?_
        refine lv_aload_n hx hb (kd dtX12_count_0 12 rfl) rfl (lv_at hl 0 rfl) ?_
        refine rgetA (n := 2) (j := 2) hB (by decide) rfl F hX wfX12_16 (by decide) rfl (kd dtX12_count_0 13 rfl) ?_
        refine lv_iconst (v := (0 : Int32)) hx hb (kd dtX12_count_0 14 rfl) (by decide) ?_
        obtain ⟨v8, hv8, hf⟩ := kbind hf
        refine rald hB (by decide) hv8 F hX (kd dtX12_count_0 15 rfl) ?_
        refine lv_icmp_ge (tgt := 86) hx hb (kd dtX12_count_0 16 rfl) (by decide) (fun hc => ?_) (fun hc => ?_)
        · have hf := kif_pos hc hf
          exact hk z2_49 z3_49 _ _ _ hX hl hf
        · have hf := kif_neg hc hf
          refine lv_iload_n hx hb (kd dtX12_count_0 17 rfl) rfl (lv_at hl 2 rfl) ?_
          refine lv_aload_n hx hb (kd dtX12_count_0 18 rfl) rfl (lv_at hl 0 rfl) ?_
          refine rgetA (n := 2) (j := 2) hB (by decide) rfl F hX wfX12_16 (by decide) rfl (kd dtX12_count_0 19 rfl) ?_
          refine lv_bipush (v := (43 : Int32)) hx hb (kd dtX12_count_0 20 rfl) (by decide) ?_
          refine lv_iload_n hx hb (kd dtX12_count_0 21 rfl) rfl (lv_at hl 3 rfl) ?_
          refine lv_iadd hx hb (kd dtX12_count_0 22 rfl) ?_
          obtain ⟨v9, hv9, hf⟩ := kbind hf
          refine rald hB (by decide) hv9 F hX (kd dtX12_count_0 23 rfl) ?_
          refine lv_iload_n hx hb (kd dtX12_count_0 24 rfl) rfl (lv_at hl 1 rfl) ?_
          refine lv_icmp_ne (tgt := 77) hx hb (kd dtX12_count_0 25 rfl) (by decide) (fun hc => ?_) (fun hc => ?_)
          · have hf := kif_neg hc hf
            refine lv_iconst (v := (0 : Int32)) hx hb (kd dtX12_count_0 28 rfl) (by decide) ?_
            refine lv_iadd hx hb (kd dtX12_count_0 29 rfl) ?_
            refine lv_istore_n (lv' := [(2, .int (z2_49 + (0 : Int32))), (0, .ref h0), (1, .int x1), (3, .int z3_49)]) hx hb (kd dtX12_count_0 30 rfl) rfl hl (by decide) rfl (fun ls hl => ?_)
            refine lv_iinc (v := z3_49 + (1 : Int32)) (lv' := [(3, .int (z3_49 + (1 : Int32))), (2, .int (z2_49 + (0 : Int32))), (0, .ref h0), (1, .int x1)]) hx hb (kd dtX12_count_0 31 rfl) hl (k := 3) rfl (by rfl) (by decide) rfl (fun ls hl => ?_)
            refine lv_goto (tgt := 49) hx hb (kd dtX12_count_0 32 rfl) (by decide) ?_
            exact ih (z2_49 + (0 : Int32)) (z3_49 + (1 : Int32)) _ _ _ hX (lv_sub hl [2, 3, 1, 0] rfl) hf hk
          · have hf := kif_pos hc hf
            refine lv_iconst (v := (1 : Int32)) hx hb (kd dtX12_count_0 26 rfl) (by decide) ?_
            refine lv_goto (tgt := 78) hx hb (kd dtX12_count_0 27 rfl) (by decide) ?_
            refine lv_iadd hx hb (kd dtX12_count_0 29 rfl) ?_
            refine lv_istore_n (lv' := [(2, .int (z2_49 + (1 : Int32))), (0, .ref h0), (1, .int x1), (3, .int z3_49)]) hx hb (kd dtX12_count_0 30 rfl) rfl hl (by decide) rfl (fun ls hl => ?_)
            refine lv_iinc (v := z3_49 + (1 : Int32)) (lv' := [(3, .int (z3_49 + (1 : Int32))), (2, .int (z2_49 + (1 : Int32))), (0, .ref h0), (1, .int x1)]) hx hb (kd dtX12_count_0 31 rfl) hl (k := 3) rfl (by rfl) (by decide) rfl (fun ls hl => ?_)
            refine lv_goto (tgt := 49) hx hb (kd dtX12_count_0 32 rfl) (by decide) ?_
            exact ih (z2_49 + (1 : Int32)) (z3_49 + (1 : Int32)) _ _ _ hX (lv_sub hl [2, 3, 1, 0] rfl) hf hk
    refine hL49 kFU _ (0 : Int32) (0 : Int32) _ _ _ hX (lv_sub hl [2, 3, 1, 0] rfl) hf ?_
    intro y2_6 y3_7 H locs ls hX hl hf
    refine lv_iload_n hx hb (kd dtX12_count_0 33 rfl) rfl (lv_at hl 2 rfl) ?_
    obtain rfl := Option.some.inj hf
    exact kiret F hX hr hlocks rfl (kd dtX12_count_0 34 rfl)
  have hf := kif_neg hc2 hf
  by_cases hc3 : x1 = (3 : Int32)
  · have hf := kif_pos hc3 hf
    have hq : (x1).toInt = 3 := by rw [hc3]; rfl
    refine lv_tableIn (off := 85) (tgt := 88) hx hb (kd dtX12_count_0 3 rfl) (by rw [hq]; decide) (by rw [hq]; decide) (by rw [hq]; rfl) (by decide) ?_
    refine lv_aload_n hx hb (kd dtX12_count_0 35 rfl) rfl (lv_at hl 1 rfl) ?_
    refine rgetA (n := 2) (j := 2) hB (by decide) rfl F hX wfX12_16 (by decide) rfl (kd dtX12_count_0 36 rfl) ?_
    refine lv_iconst (v := (2 : Int32)) hx hb (kd dtX12_count_0 37 rfl) (by decide) ?_
    obtain ⟨v10, hv10, hf⟩ := kbind hf
    refine rald hB (by decide) hv10 F hX (kd dtX12_count_0 38 rfl) ?_
    obtain rfl := Option.some.inj hf
    exact kiret F hX hr hlocks rfl (kd dtX12_count_0 39 rfl)
  have hf := kif_neg hc3 hf
  by_cases hc4 : x1 = (4 : Int32)
  · have hf := kif_pos hc4 hf
    have hq : (x1).toInt = 4 := by rw [hc4]; rfl
    refine lv_tableIn (off := 92) (tgt := 95) hx hb (kd dtX12_count_0 3 rfl) (by rw [hq]; decide) (by rw [hq]; decide) (by rw [hq]; rfl) (by decide) ?_
    refine lv_iconst (v := (0 : Int32)) hx hb (kd dtX12_count_0 40 rfl) (by decide) ?_
    refine lv_istore_n (lv' := [(3, .int (0 : Int32)), (2, .int (0 : Int32)), (0, .ref h0), (1, .int x1)]) hx hb (kd dtX12_count_0 41 rfl) rfl hl (by decide) rfl (fun ls hl => ?_)
    have hL97 : ∀ (n : Nat) (k : Int32 → Int32 → Option Int32), ∀ (z2_97 : Int32) (z3_97 : Int32) (H : Heap) (locs : List Loc) (ls : Array Slot), kX D aC (rWo h0 wB w) s.heap (rWo h0 wB w) H locs → lv_has ls 4 [(0, .ref h0), (1, .int x1), (2, .int z2_97), (3, .int z3_97)] → fX12_count_L97 x1 w n k z2_97 z3_97 = some oR → (∀ (z2_97 : Int32) (z3_97 : Int32) (H : Heap) (locs : List Loc) (ls : Array Slot), kX D aC (rWo h0 wB w) s.heap (rWo h0 wB w) H locs → lv_has ls 4 [(0, .ref h0), (1, .int x1), (2, .int z2_97), (3, .int z3_97)] → k z2_97 z3_97 = some oR → W p l e { frames := 806, cells := 0, slots := 0, locals := 19326 } s m ([.ref h0, .int x1] : List Value).toArray below meth c H locs 0 0 (MQ below (kQc D aC (rWo h0 wB w) (some (.int oR)) (rWo h0 wB w)) ([.ref h0, .int x1] : List Value).toArray s 0 0 (kA (rWo h0 wB w))) (F0 m 137 ls [])) → W p l e { frames := 806, cells := 0, slots := 0, locals := 19326 } s m ([.ref h0, .int x1] : List Value).toArray below meth c H locs 0 0 (MQ below (kQc D aC (rWo h0 wB w) (some (.int oR)) (rWo h0 wB w)) ([.ref h0, .int x1] : List Value).toArray s 0 0 (kA (rWo h0 wB w))) (F0 m 97 ls []) := by
      intro n k
      induction n with
      | zero =>
        intro z2_97 z3_97 H locs ls hX hl hf hk
        rw [fX12_count_L97] at hf
        cases hf
      | succ n ih =>
        intro z2_97 z3_97 H locs ls hX hl hf hk
        rw [fX12_count_L97] at hf
        refine lv_iload_n hx hb (kd dtX12_count_0 42 rfl) rfl (lv_at hl 3 rfl) ?_
        refine lv_aload_n hx hb (kd dtX12_count_0 43 rfl) rfl (lv_at hl 0 rfl) ?_
        refine rgetA (n := 2) (j := 2) hB (by decide) rfl F hX wfX12_16 (by decide) rfl (kd dtX12_count_0 44 rfl) ?_
        refine lv_iconst (v := (0 : Int32)) hx hb (kd dtX12_count_0 45 rfl) (by decide) ?_
        obtain ⟨v13, hv13, hf⟩ := kbind hf
        refine rald hB (by decide) hv13 F hX (kd dtX12_count_0 46 rfl) ?_
        refine lv_icmp_ge (tgt := 137) hx hb (kd dtX12_count_0 47 rfl) (by decide) (fun hc => ?_) (fun hc => ?_)
        · have hf := kif_pos hc hf
          exact hk z2_97 z3_97 _ _ _ hX hl hf
        · have hf := kif_neg hc hf
          refine lv_iload_n hx hb (kd dtX12_count_0 48 rfl) rfl (lv_at hl 2 rfl) ?_
          refine lv_aload_n hx hb (kd dtX12_count_0 49 rfl) rfl (lv_at hl 0 rfl) ?_
          refine lv_iload_n hx hb (kd dtX12_count_0 50 rfl) rfl (lv_at hl 3 rfl) ?_
          obtain ⟨v15, h14, hf⟩ := kbind hf
          refine kcallS (n := 1) [.int z3_97] [.ref h0, .int z2_97] [.int v15, .ref h0, .int z2_97] (rX12_textOf l D aC (rWo h0 wB w) h14) F hml hX hZ hl.1 mwX12_textOf wmX12_86 (by decide +kernel) ⟨(by decide), (by decide)⟩ rfl rfl rfl (Nat.le_of_ble_eq_true rfl) (kd dtX12_count_0 51 rfl) ⟨Nat.zero_le _, Nat.zero_le _⟩ (fun H locs hX => ?_)
          refine lv_iload_n hx hb (kd dtX12_count_0 52 rfl) rfl (lv_at hl 3 rfl) ?_
          obtain ⟨v17, h16, hf⟩ := kbind hf
          refine kcallS (n := 1) [.int z3_97] [.int v15, .ref h0, .int z2_97] [.int v17, .int v15, .ref h0, .int z2_97] (rX12_textOf l D aC (rWo h0 wB w) h16) F hml hX hZ hl.1 mwX12_textOf wmX12_86 (by decide +kernel) ⟨(by decide), (by decide)⟩ rfl rfl rfl (Nat.le_of_ble_eq_true rfl) (kd dtX12_count_0 53 rfl) ⟨Nat.zero_le _, Nat.zero_le _⟩ (fun H locs hX => ?_)
          refine lv_aload_n hx hb (kd dtX12_count_0 54 rfl) rfl (lv_at hl 0 rfl) ?_
          refine rgetA (n := 2) (j := 2) hB (by decide) rfl F hX wfX12_16 (by decide) rfl (kd dtX12_count_0 55 rfl) ?_
          refine lv_iconst (v := (3 : Int32)) hx hb (kd dtX12_count_0 56 rfl) (by decide) ?_
          refine lv_iload_n hx hb (kd dtX12_count_0 57 rfl) rfl (lv_at hl 3 rfl) ?_
          refine lv_iadd hx hb (kd dtX12_count_0 58 rfl) ?_
          obtain ⟨v18, hv18, hf⟩ := kbind hf
          refine rald hB (by decide) hv18 F hX (kd dtX12_count_0 59 rfl) ?_
          refine lv_iadd hx hb (kd dtX12_count_0 60 rfl) ?_
          obtain ⟨v20, h19, hf⟩ := kbind hf
          refine kcallV (n := 2) [.int v15, .int (v17 + v18)] [.int z2_97] [.int v20, .int z2_97] (rX12_sizeOf l D aC hB h19) rfl hB.1 F hml hX hZ hl.1 mwX12_sizeOf wmX12_132 rfl (by decide) (by decide +kernel) ⟨(by decide), (by decide)⟩ rfl rfl rfl (Nat.le_of_ble_eq_true rfl) (kd dtX12_count_0 61 rfl) ⟨Nat.zero_le _, Nat.zero_le _⟩ (fun H locs hX => ?_)
          refine lv_iadd hx hb (kd dtX12_count_0 62 rfl) ?_
          refine lv_istore_n (lv' := [(2, .int (z2_97 + v20)), (0, .ref h0), (1, .int x1), (3, .int z3_97)]) hx hb (kd dtX12_count_0 63 rfl) rfl hl (by decide) rfl (fun ls hl => ?_)
          refine lv_iinc (v := z3_97 + (1 : Int32)) (lv' := [(3, .int (z3_97 + (1 : Int32))), (2, .int (z2_97 + v20)), (0, .ref h0), (1, .int x1)]) hx hb (kd dtX12_count_0 64 rfl) hl (k := 3) rfl (by rfl) (by decide) rfl (fun ls hl => ?_)
          refine lv_goto (tgt := 97) hx hb (kd dtX12_count_0 65 rfl) (by decide) ?_
          exact ih (z2_97 + v20) (z3_97 + (1 : Int32)) _ _ _ hX (lv_sub hl [2, 3, 1, 0] rfl) hf hk
    refine hL97 kFU _ (0 : Int32) (0 : Int32) _ _ _ hX (lv_sub hl [2, 3, 1, 0] rfl) hf ?_
    intro y2_11 y3_12 H locs ls hX hl hf
    refine lv_iload_n hx hb (kd dtX12_count_0 66 rfl) rfl (lv_at hl 2 rfl) ?_
    obtain rfl := Option.some.inj hf
    exact kiret F hX hr hlocks rfl (kd dtX12_count_0 67 rfl)
  have hf := kif_neg hc4 hf
  by_cases hc5 : x1 = (5 : Int32)
  · have hf := kif_pos hc5 hf
    have hq : (x1).toInt = 5 := by rw [hc5]; rfl
    refine lv_tableIn (off := 136) (tgt := 139) hx hb (kd dtX12_count_0 3 rfl) (by rw [hq]; decide) (by rw [hq]; decide) (by rw [hq]; rfl) (by decide) ?_
    refine lv_iconst (v := (0 : Int32)) hx hb (kd dtX12_count_0 68 rfl) (by decide) ?_
    refine lv_istore_n (lv' := [(3, .int (0 : Int32)), (2, .int (0 : Int32)), (0, .ref h0), (1, .int x1)]) hx hb (kd dtX12_count_0 69 rfl) rfl hl (by decide) rfl (fun ls hl => ?_)
    have hL141 : ∀ (n : Nat) (k : Int32 → Int32 → Option Int32), ∀ (z2_141 : Int32) (z3_141 : Int32) (H : Heap) (locs : List Loc) (ls : Array Slot), kX D aC (rWo h0 wB w) s.heap (rWo h0 wB w) H locs → lv_has ls 4 [(0, .ref h0), (1, .int x1), (2, .int z2_141), (3, .int z3_141)] → fX12_count_L141 x1 w n k z2_141 z3_141 = some oR → (∀ (z2_141 : Int32) (z3_141 : Int32) (H : Heap) (locs : List Loc) (ls : Array Slot), kX D aC (rWo h0 wB w) s.heap (rWo h0 wB w) H locs → lv_has ls 4 [(0, .ref h0), (1, .int x1), (2, .int z2_141), (3, .int z3_141)] → k z2_141 z3_141 = some oR → W p l e { frames := 806, cells := 0, slots := 0, locals := 19326 } s m ([.ref h0, .int x1] : List Value).toArray below meth c H locs 0 0 (MQ below (kQc D aC (rWo h0 wB w) (some (.int oR)) (rWo h0 wB w)) ([.ref h0, .int x1] : List Value).toArray s 0 0 (kA (rWo h0 wB w))) (F0 m 173 ls [])) → W p l e { frames := 806, cells := 0, slots := 0, locals := 19326 } s m ([.ref h0, .int x1] : List Value).toArray below meth c H locs 0 0 (MQ below (kQc D aC (rWo h0 wB w) (some (.int oR)) (rWo h0 wB w)) ([.ref h0, .int x1] : List Value).toArray s 0 0 (kA (rWo h0 wB w))) (F0 m 141 ls []) := by
      intro n k
      induction n with
      | zero =>
        intro z2_141 z3_141 H locs ls hX hl hf hk
        rw [fX12_count_L141] at hf
        cases hf
      | succ n ih =>
        intro z2_141 z3_141 H locs ls hX hl hf hk
        rw [fX12_count_L141] at hf
        refine lv_iload_n hx hb (kd dtX12_count_0 70 rfl) rfl (lv_at hl 3 rfl) ?_
        refine lv_aload_n hx hb (kd dtX12_count_0 71 rfl) rfl (lv_at hl 0 rfl) ?_
        refine rgetA (n := 2) (j := 2) hB (by decide) rfl F hX wfX12_16 (by decide) rfl (kd dtX12_count_0 72 rfl) ?_
        refine lv_iconst (v := (0 : Int32)) hx hb (kd dtX12_count_0 73 rfl) (by decide) ?_
        obtain ⟨v23, hv23, hf⟩ := kbind hf
        refine rald hB (by decide) hv23 F hX (kd dtX12_count_0 74 rfl) ?_
        refine lv_icmp_ge (tgt := 173) hx hb (kd dtX12_count_0 75 rfl) (by decide) (fun hc => ?_) (fun hc => ?_)
        · have hf := kif_pos hc hf
          exact hk z2_141 z3_141 _ _ _ hX hl hf
        · have hf := kif_neg hc hf
          refine lv_iload_n hx hb (kd dtX12_count_0 76 rfl) rfl (lv_at hl 2 rfl) ?_
          refine lv_aload_n hx hb (kd dtX12_count_0 77 rfl) rfl (lv_at hl 0 rfl) ?_
          refine lv_iload_n hx hb (kd dtX12_count_0 78 rfl) rfl (lv_at hl 3 rfl) ?_
          obtain ⟨v25, h24, hf⟩ := kbind hf
          refine kcallV (n := 1) [.int z3_141] [.int z2_141] [.int v25, .int z2_141] (rX12_isAlways l D aC hB h24) rfl hB.1 F hml hX hZ hl.1 mwX12_isAlways wmX12_138 rfl (by decide) (by decide +kernel) ⟨(by decide), (by decide)⟩ rfl rfl rfl (Nat.le_of_ble_eq_true rfl) (kd dtX12_count_0 79 rfl) ⟨Nat.zero_le _, Nat.zero_le _⟩ (fun H locs hX => ?_)
          refine lv_if_eq (tgt := 164) hx hb (kd dtX12_count_1 0 rfl) (by decide) (fun hc => ?_) (fun hc => ?_)
          · have hf := kif_pos hc hf
            refine lv_iconst (v := (0 : Int32)) hx hb (kd dtX12_count_1 3 rfl) (by decide) ?_
            refine lv_iadd hx hb (kd dtX12_count_1 4 rfl) ?_
            refine lv_istore_n (lv' := [(2, .int (z2_141 + (0 : Int32))), (0, .ref h0), (1, .int x1), (3, .int z3_141)]) hx hb (kd dtX12_count_1 5 rfl) rfl hl (by decide) rfl (fun ls hl => ?_)
            refine lv_iinc (v := z3_141 + (1 : Int32)) (lv' := [(3, .int (z3_141 + (1 : Int32))), (2, .int (z2_141 + (0 : Int32))), (0, .ref h0), (1, .int x1)]) hx hb (kd dtX12_count_1 6 rfl) hl (k := 3) rfl (by rfl) (by decide) rfl (fun ls hl => ?_)
            refine lv_goto (tgt := 141) hx hb (kd dtX12_count_1 7 rfl) (by decide) ?_
            exact ih (z2_141 + (0 : Int32)) (z3_141 + (1 : Int32)) _ _ _ hX (lv_sub hl [2, 3, 1, 0] rfl) hf hk
          · have hf := kif_neg hc hf
            refine lv_iconst (v := (1 : Int32)) hx hb (kd dtX12_count_1 1 rfl) (by decide) ?_
            refine lv_goto (tgt := 165) hx hb (kd dtX12_count_1 2 rfl) (by decide) ?_
            refine lv_iadd hx hb (kd dtX12_count_1 4 rfl) ?_
            refine lv_istore_n (lv' := [(2, .int (z2_141 + (1 : Int32))), (0, .ref h0), (1, .int x1), (3, .int z3_141)]) hx hb (kd dtX12_count_1 5 rfl) rfl hl (by decide) rfl (fun ls hl => ?_)
            refine lv_iinc (v := z3_141 + (1 : Int32)) (lv' := [(3, .int (z3_141 + (1 : Int32))), (2, .int (z2_141 + (1 : Int32))), (0, .ref h0), (1, .int x1)]) hx hb (kd dtX12_count_1 6 rfl) hl (k := 3) rfl (by rfl) (by decide) rfl (fun ls hl => ?_)
            refine lv_goto (tgt := 141) hx hb (kd dtX12_count_1 7 rfl) (by decide) ?_
            exact ih (z2_141 + (1 : Int32)) (z3_141 + (1 : Int32)) _ _ _ hX (lv_sub hl [2, 3, 1, 0] rfl) hf hk
    refine hL141 kFU _ (0 : Int32) (0 : Int32) _ _ _ hX (lv_sub hl [2, 3, 1, 0] rfl) hf ?_
    intro y2_21 y3_22 H locs ls hX hl hf
    refine lv_iload_n hx hb (kd dtX12_count_1 8 rfl) rfl (lv_at hl 2 rfl) ?_
    obtain rfl := Option.some.inj hf
    exact kiret F hX hr hlocks rfl (kd dtX12_count_1 9 rfl)
  have hf := kif_neg hc5 hf
  have hq0 := lv_neT (k := (0 : Int32)) hc0 (a := 0) rfl
  have hq1 := lv_neT (k := (1 : Int32)) hc1 (a := 1) rfl
  have hq2 := lv_neT (k := (2 : Int32)) hc2 (a := 2) rfl
  have hq3 := lv_neT (k := (3 : Int32)) hc3 (a := 3) rfl
  have hq4 := lv_neT (k := (4 : Int32)) hc4 (a := 4) rfl
  have hq5 := lv_neT (k := (5 : Int32)) hc5 (a := 5) rfl
  refine lv_tableOut (tgt := 175) hx hb (kd dtX12_count_0 3 rfl) (by omega) (by decide) ?_
  refine lv_iconst (v := (-1 : Int32)) hx hb (kd dtX12_count_1 10 rfl) (by decide) ?_
  obtain rfl := Option.some.inj hf
  exact kiret F hX hr hlocks rfl (kd dtX12_count_1 11 rfl)
theorem wmX12_349 : Cond.methodLink RX12 349 yX12_of ∈ kT := kTm 1707 (by decide +kernel) rfl
theorem mwX12_of : kMV RX12 yX12_of cX12_of 5 (some .int) := ⟨kTm 1406 (by decide +kernel) rfl, kTm 106 (by decide +kernel) rfl, kTm 1404 (by decide +kernel) rfl, kTm 1405 (by decide +kernel) rfl⟩
def lX12_effortOf_0 : List (Nat × Instr × Nat) := [(0, .aload_n 0, 1), (1, .iload_n 2, 1), (2, .iconst 0, 1), (3, .invokevirtual 349, 3), (6, .istore_n 3, 1), (7, .iload_n 1, 1), (8, .tableswitch 88 1 6 #[40, 49, 53, 64, 73, 77], 40), (48, .iload_n 3, 1), (49, .aload_n 0, 1), (50, .iload_n 2, 1), (51, .iconst 2, 1), (52, .invokevirtual 349, 3), (55, .iadd, 1), (56, .ireturn, 1), (57, .iconst 2, 1), (58, .iload_n 3, 1), (59, .imul, 1), (60, .ireturn, 1), (61, .iconst 2, 1), (62, .iload_n 3, 1), (63, .imul, 1), (64, .aload_n 0, 1), (65, .iload_n 2, 1), (66, .iconst 1, 1), (67, .invokevirtual 349, 3), (70, .iadd, 1), (71, .ireturn, 1), (72, .iload_n 3, 1), (73, .aload_n 0, 1), (74, .iload_n 2, 1), (75, .iconst 3, 1), (76, .invokevirtual 349, 3), (79, .iadd, 1), (80, .ireturn, 1), (81, .iload_n 3, 1), (82, .iconst 1, 1), (83, .isub, 1), (84, .ireturn, 1), (85, .iconst 2, 1), (86, .iload_n 3, 1), (87, .aload_n 0, 1), (88, .iload_n 2, 1), (89, .iconst 2, 1), (90, .invokevirtual 349, 3), (93, .iadd, 1), (94, .imul, 1), (95, .ireturn, 1), (96, .iload_n 3, 1), (97, .ireturn, 1)]
theorem dtX12_effortOf_0 : kDec cX12_effortOf lX12_effortOf_0 = true := by decide +kernel
noncomputable def fX12_effortOf (x1 : Int32) (x2 : Int32) (w : rW) : Option Int32 :=
  (fX12_of x2 (0 : Int32) w).bind fun v2 =>
  if x1 = (1 : Int32) then
  (fX12_of x2 (2 : Int32) w).bind fun v4 =>
  some (v2 + v4)
  else if x1 = (2 : Int32) then
  some ((2 : Int32) * v2)
  else if x1 = (3 : Int32) then
  (fX12_of x2 (1 : Int32) w).bind fun v6 =>
  some (((2 : Int32) * v2) + v6)
  else if x1 = (4 : Int32) then
  (fX12_of x2 (3 : Int32) w).bind fun v8 =>
  some (v2 + v8)
  else if x1 = (5 : Int32) then
  some (v2 - (1 : Int32))
  else if x1 = (6 : Int32) then
  (fX12_of x2 (2 : Int32) w).bind fun v10 =>
  some ((2 : Int32) * (v2 + v10))
  else 
  some v2

set_option maxHeartbeats 4000000 in
set_option maxRecDepth 100000 in
theorem rX12_effortOf (l : Launch) (D : va_G) (aC : Nat → ClassId) {h0 : Nat} {wB : kW} (hB : rOK h0 wB) {x1 : Int32} {x2 : Int32} {w : rW} {oR : Int32} (h : fX12_effortOf x1 x2 w = some oR) : kC l D aC yX12_effortOf cX12_effortOf 4 (some .int) 807 19350 [.ref h0, .int x1, .int x2] (rWo h0 wB w) (some (.int oR)) (rWo h0 wB w) 0 0 := by
  refine kOf (own := RX12) (by decide) rfl (Nat.le_of_ble_eq_true rfl) ?_
  intro p e s m below meth c ls F hml hr hlocks hnm hX hZ hl
  obtain ⟨hx, hb, hts, hown, hK⟩ := id F
  have hl : lv_has ls 4 [(0, .ref h0), (1, .int x1), (2, .int x2)] := hl
  have hf := h
  rw [fX12_effortOf] at hf
  refine lv_aload_n hx hb (kd dtX12_effortOf_0 0 rfl) rfl (lv_at hl 0 rfl) ?_
  refine lv_iload_n hx hb (kd dtX12_effortOf_0 1 rfl) rfl (lv_at hl 2 rfl) ?_
  refine lv_iconst (v := (0 : Int32)) hx hb (kd dtX12_effortOf_0 2 rfl) (by decide) ?_
  obtain ⟨v2, h1, hf⟩ := kbind hf
  refine kcallV (n := 2) [.int x2, .int (0 : Int32)] [] [.int v2] (rX12_of l D aC hB h1) rfl hB.1 F hml hX hZ hl.1 mwX12_of wmX12_349 rfl (by decide) (by decide +kernel) ⟨(by decide), (by decide)⟩ rfl rfl rfl (Nat.le_of_ble_eq_true rfl) (kd dtX12_effortOf_0 3 rfl) ⟨Nat.zero_le _, Nat.zero_le _⟩ (fun H locs hX => ?_)
  refine lv_istore_n (lv' := [(3, .int v2), (0, .ref h0), (1, .int x1), (2, .int x2)]) hx hb (kd dtX12_effortOf_0 4 rfl) rfl hl (by decide) rfl (fun ls hl => ?_)
  refine lv_iload_n hx hb (kd dtX12_effortOf_0 5 rfl) rfl (lv_at hl 2 rfl) ?_
  by_cases hc1 : x1 = (1 : Int32)
  · have hf := kif_pos hc1 hf
    have hq : (x1).toInt = 1 := by rw [hc1]; rfl
    refine lv_tableIn (off := 40) (tgt := 48) hx hb (kd dtX12_effortOf_0 6 rfl) (by rw [hq]; decide) (by rw [hq]; decide) (by rw [hq]; rfl) (by decide) ?_
    refine lv_iload_n hx hb (kd dtX12_effortOf_0 7 rfl) rfl (lv_at hl 0 rfl) ?_
    refine lv_aload_n hx hb (kd dtX12_effortOf_0 8 rfl) rfl (lv_at hl 1 rfl) ?_
    refine lv_iload_n hx hb (kd dtX12_effortOf_0 9 rfl) rfl (lv_at hl 3 rfl) ?_
    refine lv_iconst (v := (2 : Int32)) hx hb (kd dtX12_effortOf_0 10 rfl) (by decide) ?_
    obtain ⟨v4, h3, hf⟩ := kbind hf
    refine kcallV (n := 2) [.int x2, .int (2 : Int32)] [.int v2] [.int v4, .int v2] (rX12_of l D aC hB h3) rfl hB.1 F hml hX hZ hl.1 mwX12_of wmX12_349 rfl (by decide) (by decide +kernel) ⟨(by decide), (by decide)⟩ rfl rfl rfl (Nat.le_of_ble_eq_true rfl) (kd dtX12_effortOf_0 11 rfl) ⟨Nat.zero_le _, Nat.zero_le _⟩ (fun H locs hX => ?_)
    refine lv_iadd hx hb (kd dtX12_effortOf_0 12 rfl) ?_
    obtain rfl := Option.some.inj hf
    exact kiret F hX hr hlocks rfl (kd dtX12_effortOf_0 13 rfl)
  have hf := kif_neg hc1 hf
  by_cases hc2 : x1 = (2 : Int32)
  · have hf := kif_pos hc2 hf
    have hq : (x1).toInt = 2 := by rw [hc2]; rfl
    refine lv_tableIn (off := 49) (tgt := 57) hx hb (kd dtX12_effortOf_0 6 rfl) (by rw [hq]; decide) (by rw [hq]; decide) (by rw [hq]; rfl) (by decide) ?_
    refine lv_iconst (v := (2 : Int32)) hx hb (kd dtX12_effortOf_0 14 rfl) (by decide) ?_
    refine lv_iload_n hx hb (kd dtX12_effortOf_0 15 rfl) rfl (lv_at hl 0 rfl) ?_
    refine lv_imul hx hb (kd dtX12_effortOf_0 16 rfl) ?_
    obtain rfl := Option.some.inj hf
    exact kiret F hX hr hlocks rfl (kd dtX12_effortOf_0 17 rfl)
  have hf := kif_neg hc2 hf
  by_cases hc3 : x1 = (3 : Int32)
  · have hf := kif_pos hc3 hf
    have hq : (x1).toInt = 3 := by rw [hc3]; rfl
    refine lv_tableIn (off := 53) (tgt := 61) hx hb (kd dtX12_effortOf_0 6 rfl) (by rw [hq]; decide) (by rw [hq]; decide) (by rw [hq]; rfl) (by decide) ?_
    refine lv_iconst (v := (2 : Int32)) hx hb (kd dtX12_effortOf_0 18 rfl) (by decide) ?_
    refine lv_iload_n hx hb (kd dtX12_effortOf_0 19 rfl) rfl (lv_at hl 0 rfl) ?_
    refine lv_imul hx hb (kd dtX12_effortOf_0 20 rfl) ?_
    refine lv_aload_n hx hb (kd dtX12_effortOf_0 21 rfl) rfl (lv_at hl 1 rfl) ?_
    refine lv_iload_n hx hb (kd dtX12_effortOf_0 22 rfl) rfl (lv_at hl 3 rfl) ?_
    refine lv_iconst (v := (1 : Int32)) hx hb (kd dtX12_effortOf_0 23 rfl) (by decide) ?_
    obtain ⟨v6, h5, hf⟩ := kbind hf
    refine kcallV (n := 2) [.int x2, .int (1 : Int32)] [.int ((2 : Int32) * v2)] [.int v6, .int ((2 : Int32) * v2)] (rX12_of l D aC hB h5) rfl hB.1 F hml hX hZ hl.1 mwX12_of wmX12_349 rfl (by decide) (by decide +kernel) ⟨(by decide), (by decide)⟩ rfl rfl rfl (Nat.le_of_ble_eq_true rfl) (kd dtX12_effortOf_0 24 rfl) ⟨Nat.zero_le _, Nat.zero_le _⟩ (fun H locs hX => ?_)
    refine lv_iadd hx hb (kd dtX12_effortOf_0 25 rfl) ?_
    obtain rfl := Option.some.inj hf
    exact kiret F hX hr hlocks rfl (kd dtX12_effortOf_0 26 rfl)
  have hf := kif_neg hc3 hf
  by_cases hc4 : x1 = (4 : Int32)
  · have hf := kif_pos hc4 hf
    have hq : (x1).toInt = 4 := by rw [hc4]; rfl
    refine lv_tableIn (off := 64) (tgt := 72) hx hb (kd dtX12_effortOf_0 6 rfl) (by rw [hq]; decide) (by rw [hq]; decide) (by rw [hq]; rfl) (by decide) ?_
    refine lv_iload_n hx hb (kd dtX12_effortOf_0 27 rfl) rfl (lv_at hl 0 rfl) ?_
    refine lv_aload_n hx hb (kd dtX12_effortOf_0 28 rfl) rfl (lv_at hl 1 rfl) ?_
    refine lv_iload_n hx hb (kd dtX12_effortOf_0 29 rfl) rfl (lv_at hl 3 rfl) ?_
    refine lv_iconst (v := (3 : Int32)) hx hb (kd dtX12_effortOf_0 30 rfl) (by decide) ?_
    obtain ⟨v8, h7, hf⟩ := kbind hf
    refine kcallV (n := 2) [.int x2, .int (3 : Int32)] [.int v2] [.int v8, .int v2] (rX12_of l D aC hB h7) rfl hB.1 F hml hX hZ hl.1 mwX12_of wmX12_349 rfl (by decide) (by decide +kernel) ⟨(by decide), (by decide)⟩ rfl rfl rfl (Nat.le_of_ble_eq_true rfl) (kd dtX12_effortOf_0 31 rfl) ⟨Nat.zero_le _, Nat.zero_le _⟩ (fun H locs hX => ?_)
    refine lv_iadd hx hb (kd dtX12_effortOf_0 32 rfl) ?_
    obtain rfl := Option.some.inj hf
    exact kiret F hX hr hlocks rfl (kd dtX12_effortOf_0 33 rfl)
  have hf := kif_neg hc4 hf
  by_cases hc5 : x1 = (5 : Int32)
  · have hf := kif_pos hc5 hf
    have hq : (x1).toInt = 5 := by rw [hc5]; rfl
    refine lv_tableIn (off := 73) (tgt := 81) hx hb (kd dtX12_effortOf_0 6 rfl) (by rw [hq]; decide) (by rw [hq]; decide) (by rw [hq]; rfl) (by decide) ?_
    refine lv_iload_n hx hb (kd dtX12_effortOf_0 34 rfl) rfl (lv_at hl 0 rfl) ?_
    refine lv_iconst (v := (1 : Int32)) hx hb (kd dtX12_effortOf_0 35 rfl) (by decide) ?_
    refine lv_isub hx hb (kd dtX12_effortOf_0 36 rfl) ?_
    obtain rfl := Option.some.inj hf
    exact kiret F hX hr hlocks rfl (kd dtX12_effortOf_0 37 rfl)
  have hf := kif_neg hc5 hf
  by_cases hc6 : x1 = (6 : Int32)
  · have hf := kif_pos hc6 hf
    have hq : (x1).toInt = 6 := by rw [hc6]; rfl
    refine lv_tableIn (off := 77) (tgt := 85) hx hb (kd dtX12_effortOf_0 6 rfl) (by rw [hq]; decide) (by rw [hq]; decide) (by rw [hq]; rfl) (by decide) ?_
    refine lv_iconst (v := (2 : Int32)) hx hb (kd dtX12_effortOf_0 38 rfl) (by decide) ?_
    refine lv_iload_n hx hb (kd dtX12_effortOf_0 39 rfl) rfl (lv_at hl 0 rfl) ?_
    refine lv_aload_n hx hb (kd dtX12_effortOf_0 40 rfl) rfl (lv_at hl 1 rfl) ?_
    refine lv_iload_n hx hb (kd dtX12_effortOf_0 41 rfl) rfl (lv_at hl 3 rfl) ?_
    refine lv_iconst (v := (2 : Int32)) hx hb (kd dtX12_effortOf_0 42 rfl) (by decide) ?_
    obtain ⟨v10, h9, hf⟩ := kbind hf
    refine kcallV (n := 2) [.int x2, .int (2 : Int32)] [.int v2, .int (2 : Int32)] [.int v10, .int v2, .int (2 : Int32)] (rX12_of l D aC hB h9) rfl hB.1 F hml hX hZ hl.1 mwX12_of wmX12_349 rfl (by decide) (by decide +kernel) ⟨(by decide), (by decide)⟩ rfl rfl rfl (Nat.le_of_ble_eq_true rfl) (kd dtX12_effortOf_0 43 rfl) ⟨Nat.zero_le _, Nat.zero_le _⟩ (fun H locs hX => ?_)
    refine lv_iadd hx hb (kd dtX12_effortOf_0 44 rfl) ?_
    refine lv_imul hx hb (kd dtX12_effortOf_0 45 rfl) ?_
    obtain rfl := Option.some.inj hf
    exact kiret F hX hr hlocks rfl (kd dtX12_effortOf_0 46 rfl)
  have hf := kif_neg hc6 hf
  have hq1 := lv_neT (k := (1 : Int32)) hc1 (a := 1) rfl
  have hq2 := lv_neT (k := (2 : Int32)) hc2 (a := 2) rfl
  have hq3 := lv_neT (k := (3 : Int32)) hc3 (a := 3) rfl
  have hq4 := lv_neT (k := (4 : Int32)) hc4 (a := 4) rfl
  have hq5 := lv_neT (k := (5 : Int32)) hc5 (a := 5) rfl
  have hq6 := lv_neT (k := (6 : Int32)) hc6 (a := 6) rfl
  refine lv_tableOut (tgt := 96) hx hb (kd dtX12_effortOf_0 6 rfl) (by omega) (by decide) ?_
  refine lv_iload_n hx hb (kd dtX12_effortOf_0 47 rfl) rfl (lv_at hl 0 rfl) ?_
  obtain rfl := Option.some.inj hf
  exact kiret F hX hr hlocks rfl (kd dtX12_effortOf_0 48 rfl)
theorem wmX12_352 : Cond.methodLink RX12 352 yX12_effortOf ∈ kT := kTm 1703 (by decide +kernel) rfl
theorem mwX12_effortOf : kMV RX12 yX12_effortOf cX12_effortOf 4 (some .int) := ⟨kTm 1706 (by decide +kernel) rfl, kTm 106 (by decide +kernel) rfl, kTm 1705 (by decide +kernel) rfl, kTm 91 (by decide +kernel) rfl⟩
def lX12_keep_0 : List (Nat × Instr × Nat) := [(0, .iload_n 1, 1), (1, .invokestatic 118, 3), (4, .ifCond .eq 39, 3), (7, .iload_n 2, 1), (8, .i2l, 1), (9, .lconst 0, 1), (10, .lconst 1, 1), (11, .invokestatic 65, 3), (14, .ifCond .eq 29, 3), (17, .iload_n 2, 1), (18, .iconst 1, 1), (19, .if_icmp .ne 26, 3), (22, .iload_n 3, 1), (23, .i2l, 1), (24, .lconst 0, 1), (25, .ldc2_w 130, 3), (28, .invokestatic 65, 3), (31, .ifCond .eq 12, 3), (34, .aload_n 0, 1), (35, .iload 4, 2), (37, .invokevirtual 127, 3), (40, .ifCond .ne 5, 3), (43, .iconst (-1), 1), (44, .ireturn, 1), (45, .aload_n 0, 1), (46, .getfield 22, 3), (49, .iload_n 1, 1), (50, .iload_n 2, 1), (51, .iastore, 1), (52, .iload_n 2, 1), (53, .ifCond .ne 5, 3), (56, .iconst 0, 1), (57, .ireturn, 1), (58, .aload_n 0, 1), (59, .getfield 34, 3), (62, .iload_n 1, 1), (63, .aload_n 0, 1), (64, .iload_n 3, 1), (65, .iload 4, 2), (67, .invokevirtual 352, 3), (70, .iastore, 1), (71, .aload_n 0, 1), (72, .getfield 37, 3), (75, .iload_n 1, 1), (76, .iload_n 3, 1), (77, .iconst 5, 1), (78, .if_icmp .eq 14, 3), (81, .aload_n 0, 1), (82, .iload 4, 2), (84, .iconst 0, 1), (85, .invokevirtual 349, 3), (88, .iconst 1, 1), (89, .if_icmp .ne 8, 3), (92, .bipush (-15), 2), (94, .goto 38, 3), (97, .iload_n 3, 1), (98, .iconst 3, 1), (99, .if_icmp .ne 11, 3), (102, .bipush 100, 2), (104, .iload 4, 2), (106, .iadd, 1), (107, .goto 25, 3), (110, .iload_n 3, 1), (111, .bipush 6, 2), (113, .if_icmp .ne 17, 3), (116, .sipush 200, 3), (119, .aload_n 0, 1), (120, .iload 4, 2), (122, .iconst 1, 1), (123, .invokevirtual 349, 3), (126, .iadd, 1), (127, .goto 5, 3), (130, .iload 4, 2), (132, .iastore, 1), (133, .iconst 0, 1), (134, .ireturn, 1)]
theorem dtX12_keep_0 : kDec cX12_keep lX12_keep_0 = true := by decide +kernel
noncomputable def fX12_keep_J45 (x1 : Int32) (x2 : Int32) (x3 : Int32) (x4 : Int32) (w : rW) : Option (Int32 × rW) :=
  (rsI w 4 8 x1 x2).bind fun w1 =>
  if x2 = 0 then
  some ((0 : Int32), w1)
  else
  (fX12_effortOf x3 x4 w1).bind fun v3 =>
  (rsI w1 8 8 x1 v3).bind fun w4 =>
  if x3 = (5 : Int32) then
  (rsI w4 9 8 x1 (-15 : Int32)).bind fun w5 =>
  some ((0 : Int32), w5)
  else
  (fX12_of x4 (0 : Int32) w4).bind fun v7 =>
  if v7 = (1 : Int32) then
  (rsI w4 9 8 x1 (-15 : Int32)).bind fun w13 =>
  some ((0 : Int32), w13)
  else
  if x3 = (3 : Int32) then
  (rsI w4 9 8 x1 ((100 : Int32) + x4)).bind fun w12 =>
  some ((0 : Int32), w12)
  else
  if x3 = (6 : Int32) then
  (fX12_of x4 (1 : Int32) w4).bind fun v10 =>
  (rsI w4 9 8 x1 ((200 : Int32) + v10)).bind fun w11 =>
  some ((0 : Int32), w11)
  else
  (rsI w4 9 8 x1 x4).bind fun w8 =>
  some ((0 : Int32), w8)

noncomputable def fX12_keep (x1 : Int32) (x2 : Int32) (x3 : Int32) (x4 : Int32) (w : rW) : Option (Int32 × rW) :=
  (fX12_isShelf x1).bind fun v2 =>
  if v2 = 0 then
  some ((-1 : Int32), w)
  else
  (fX12_isIn x2.toInt64 (0 : Int64) (1 : Int64)).bind fun v4 =>
  if v4 = 0 then
  some ((-1 : Int32), w)
  else
  if x2 = (1 : Int32) then
  (fX12_isIn x3.toInt64 (0 : Int64) (6 : Int64)).bind fun v6 =>
  if v6 = 0 then
  some ((-1 : Int32), w)
  else
  (fX12_isLine x4 w).bind fun v8 =>
  if v8 = 0 then
  some ((-1 : Int32), w)
  else
  fX12_keep_J45 x1 x2 x3 x4 w
  else
  fX12_keep_J45 x1 x2 x3 x4 w

set_option maxHeartbeats 4000000 in
set_option maxRecDepth 100000 in
theorem rX12_keep (l : Launch) (D : va_G) (aC : Nat → ClassId) {h0 : Nat} {wB : kW} (hB : rOK h0 wB) {x1 : Int32} {x2 : Int32} {x3 : Int32} {x4 : Int32} {w : rW} {wR : rW} {oR : Int32} (h : fX12_keep x1 x2 x3 x4 w = some (oR, wR)) : kC l D aC yX12_keep cX12_keep 5 (some .int) 808 19373 [.ref h0, .int x1, .int x2, .int x3, .int x4] (rWo h0 wB w) (some (.int oR)) (rWo h0 wB wR) 0 0 := by
  refine kOf (own := RX12) (by decide) rfl (Nat.le_of_ble_eq_true rfl) ?_
  intro p e s m below meth c ls F hml hr hlocks hnm hX hZ hl
  obtain ⟨hx, hb, hts, hown, hK⟩ := id F
  have hl : lv_has ls 5 [(0, .ref h0), (1, .int x1), (2, .int x2), (3, .int x3), (4, .int x4)] := hl
  have hJ0_45 : ∀ (j1_45 : Int32) (j2_45 : Int32) (j3_45 : Int32) (j4_45 : Int32) (w_j45 : rW) (H : Heap) (locs : List Loc) (ls : Array Slot), kX D aC (rWo h0 wB w) s.heap (rWo h0 wB w_j45) H locs → lv_has ls 5 [(0, .ref h0), (1, .int j1_45), (2, .int j2_45), (3, .int j3_45), (4, .int j4_45)] → fX12_keep_J45 j1_45 j2_45 j3_45 j4_45 w_j45 = some (oR, wR) → W p l e { frames := 808, cells := 0, slots := 0, locals := 19373 } s m ([.ref h0, .int x1, .int x2, .int x3, .int x4] : List Value).toArray below meth c H locs 0 0 (MQ below (kQc D aC (rWo h0 wB w) (some (.int oR)) (rWo h0 wB wR)) ([.ref h0, .int x1, .int x2, .int x3, .int x4] : List Value).toArray s 0 0 (kA (rWo h0 wB w))) (F0 m 45 ls []) := by
    intro j1_45 j2_45 j3_45 j4_45 w_j45 H locs ls hX hl hf
    rw [fX12_keep_J45] at hf
    refine lv_aload_n hx hb (kd dtX12_keep_0 24 rfl) rfl (lv_at hl 0 rfl) ?_
    refine rgetA (n := 4) (j := 4) hB (by decide) rfl F hX wfX12_22 (by decide) rfl (kd dtX12_keep_0 25 rfl) ?_
    refine lv_iload_n hx hb (kd dtX12_keep_0 26 rfl) rfl (lv_at hl 1 rfl) ?_
    refine lv_iload_n hx hb (kd dtX12_keep_0 27 rfl) rfl (lv_at hl 2 rfl) ?_
    obtain ⟨w9, hw9, hf⟩ := kbind hf
    refine rast hB (by decide) hw9 F hX (kd dtX12_keep_0 28 rfl) (fun H locs hX => ?_)
    refine lv_iload_n hx hb (kd dtX12_keep_0 29 rfl) rfl (lv_at hl 2 rfl) ?_
    refine lv_if_ne (tgt := 58) hx hb (kd dtX12_keep_0 30 rfl) (by decide) (fun hc => ?_) (fun hc => ?_)
    · have hf := kif_neg hc hf
      refine lv_aload_n hx hb (kd dtX12_keep_0 33 rfl) rfl (lv_at hl 0 rfl) ?_
      refine rgetA (n := 8) (j := 8) hB (by decide) rfl F hX wfX12_34 (by decide) rfl (kd dtX12_keep_0 34 rfl) ?_
      refine lv_iload_n hx hb (kd dtX12_keep_0 35 rfl) rfl (lv_at hl 1 rfl) ?_
      refine lv_aload_n hx hb (kd dtX12_keep_0 36 rfl) rfl (lv_at hl 0 rfl) ?_
      refine lv_iload_n hx hb (kd dtX12_keep_0 37 rfl) rfl (lv_at hl 3 rfl) ?_
      refine lv_iload hx hb (kd dtX12_keep_0 38 rfl) (lv_at hl 4 rfl) ?_
      obtain ⟨v11, h10, hf⟩ := kbind hf
      refine kcallV (n := 2) [.int j3_45, .int j4_45] [.int j1_45, .ref (h0 + 8 + 1)] [.int v11, .int j1_45, .ref (h0 + 8 + 1)] (rX12_effortOf l D aC hB h10) rfl hB.1 F hml hX hZ hl.1 mwX12_effortOf wmX12_352 rfl (by decide) (by decide +kernel) ⟨(by decide), (by decide)⟩ rfl rfl rfl (Nat.le_of_ble_eq_true rfl) (kd dtX12_keep_0 39 rfl) ⟨Nat.zero_le _, Nat.zero_le _⟩ (fun H locs hX => ?_)
      obtain ⟨w12, hw12, hf⟩ := kbind hf
      refine rast hB (by decide) hw12 F hX (kd dtX12_keep_0 40 rfl) (fun H locs hX => ?_)
      refine lv_aload_n hx hb (kd dtX12_keep_0 41 rfl) rfl (lv_at hl 0 rfl) ?_
      refine rgetA (n := 9) (j := 9) hB (by decide) rfl F hX wfX12_37 (by decide) rfl (kd dtX12_keep_0 42 rfl) ?_
      refine lv_iload_n hx hb (kd dtX12_keep_0 43 rfl) rfl (lv_at hl 1 rfl) ?_
      refine lv_iload_n hx hb (kd dtX12_keep_0 44 rfl) rfl (lv_at hl 3 rfl) ?_
      refine lv_iconst (v := (5 : Int32)) hx hb (kd dtX12_keep_0 45 rfl) (by decide) ?_
      refine lv_icmp_eq (tgt := 92) hx hb (kd dtX12_keep_0 46 rfl) (by decide) (fun hc => ?_) (fun hc => ?_)
      · have hf := kif_pos hc hf
        refine lv_bipush (v := (-15 : Int32)) hx hb (kd dtX12_keep_0 53 rfl) (by decide) ?_
        refine lv_goto (tgt := 132) hx hb (kd dtX12_keep_0 54 rfl) (by decide) ?_
        obtain ⟨w13, hw13, hf⟩ := kbind hf
        refine rast hB (by decide) hw13 F hX (kd dtX12_keep_0 73 rfl) (fun H locs hX => ?_)
        refine lv_iconst (v := (0 : Int32)) hx hb (kd dtX12_keep_0 74 rfl) (by decide) ?_
        obtain ⟨rfl, rfl⟩ := Prod.mk.inj (Option.some.inj hf)
        exact kiret F hX hr hlocks rfl (kd dtX12_keep_0 75 rfl)
      · have hf := kif_neg hc hf
        refine lv_aload_n hx hb (kd dtX12_keep_0 47 rfl) rfl (lv_at hl 0 rfl) ?_
        refine lv_iload hx hb (kd dtX12_keep_0 48 rfl) (lv_at hl 4 rfl) ?_
        refine lv_iconst (v := (0 : Int32)) hx hb (kd dtX12_keep_0 49 rfl) (by decide) ?_
        obtain ⟨v15, h14, hf⟩ := kbind hf
        refine kcallV (n := 2) [.int j4_45, .int (0 : Int32)] [.int j1_45, .ref (h0 + 9 + 1)] [.int v15, .int j1_45, .ref (h0 + 9 + 1)] (rX12_of l D aC hB h14) rfl hB.1 F hml hX hZ hl.1 mwX12_of wmX12_349 rfl (by decide) (by decide +kernel) ⟨(by decide), (by decide)⟩ rfl rfl rfl (Nat.le_of_ble_eq_true rfl) (kd dtX12_keep_0 50 rfl) ⟨Nat.zero_le _, Nat.zero_le _⟩ (fun H locs hX => ?_)
        refine lv_iconst (v := (1 : Int32)) hx hb (kd dtX12_keep_0 51 rfl) (by decide) ?_
        refine lv_icmp_ne (tgt := 97) hx hb (kd dtX12_keep_0 52 rfl) (by decide) (fun hc => ?_) (fun hc => ?_)
        · have hf := kif_neg hc hf
          refine lv_iload_n hx hb (kd dtX12_keep_0 55 rfl) rfl (lv_at hl 3 rfl) ?_
          refine lv_iconst (v := (3 : Int32)) hx hb (kd dtX12_keep_0 56 rfl) (by decide) ?_
          refine lv_icmp_ne (tgt := 110) hx hb (kd dtX12_keep_0 57 rfl) (by decide) (fun hc => ?_) (fun hc => ?_)
          · have hf := kif_neg hc hf
            refine lv_iload_n hx hb (kd dtX12_keep_0 62 rfl) rfl (lv_at hl 3 rfl) ?_
            refine lv_bipush (v := (6 : Int32)) hx hb (kd dtX12_keep_0 63 rfl) (by decide) ?_
            refine lv_icmp_ne (tgt := 130) hx hb (kd dtX12_keep_0 64 rfl) (by decide) (fun hc => ?_) (fun hc => ?_)
            · have hf := kif_neg hc hf
              refine lv_iload hx hb (kd dtX12_keep_0 72 rfl) (lv_at hl 4 rfl) ?_
              obtain ⟨w16, hw16, hf⟩ := kbind hf
              refine rast hB (by decide) hw16 F hX (kd dtX12_keep_0 73 rfl) (fun H locs hX => ?_)
              refine lv_iconst (v := (0 : Int32)) hx hb (kd dtX12_keep_0 74 rfl) (by decide) ?_
              obtain ⟨rfl, rfl⟩ := Prod.mk.inj (Option.some.inj hf)
              exact kiret F hX hr hlocks rfl (kd dtX12_keep_0 75 rfl)
            · have hf := kif_pos hc hf
              refine lv_sipush (v := (200 : Int32)) hx hb (kd dtX12_keep_0 65 rfl) (by decide) ?_
              refine lv_aload_n hx hb (kd dtX12_keep_0 66 rfl) rfl (lv_at hl 0 rfl) ?_
              refine lv_iload hx hb (kd dtX12_keep_0 67 rfl) (lv_at hl 4 rfl) ?_
              refine lv_iconst (v := (1 : Int32)) hx hb (kd dtX12_keep_0 68 rfl) (by decide) ?_
              obtain ⟨v18, h17, hf⟩ := kbind hf
              refine kcallV (n := 2) [.int j4_45, .int (1 : Int32)] [.int (200 : Int32), .int j1_45, .ref (h0 + 9 + 1)] [.int v18, .int (200 : Int32), .int j1_45, .ref (h0 + 9 + 1)] (rX12_of l D aC hB h17) rfl hB.1 F hml hX hZ hl.1 mwX12_of wmX12_349 rfl (by decide) (by decide +kernel) ⟨(by decide), (by decide)⟩ rfl rfl rfl (Nat.le_of_ble_eq_true rfl) (kd dtX12_keep_0 69 rfl) ⟨Nat.zero_le _, Nat.zero_le _⟩ (fun H locs hX => ?_)
              refine lv_iadd hx hb (kd dtX12_keep_0 70 rfl) ?_
              refine lv_goto (tgt := 132) hx hb (kd dtX12_keep_0 71 rfl) (by decide) ?_
              obtain ⟨w19, hw19, hf⟩ := kbind hf
              refine rast hB (by decide) hw19 F hX (kd dtX12_keep_0 73 rfl) (fun H locs hX => ?_)
              refine lv_iconst (v := (0 : Int32)) hx hb (kd dtX12_keep_0 74 rfl) (by decide) ?_
              obtain ⟨rfl, rfl⟩ := Prod.mk.inj (Option.some.inj hf)
              exact kiret F hX hr hlocks rfl (kd dtX12_keep_0 75 rfl)
          · have hf := kif_pos hc hf
            refine lv_bipush (v := (100 : Int32)) hx hb (kd dtX12_keep_0 58 rfl) (by decide) ?_
            refine lv_iload hx hb (kd dtX12_keep_0 59 rfl) (lv_at hl 4 rfl) ?_
            refine lv_iadd hx hb (kd dtX12_keep_0 60 rfl) ?_
            refine lv_goto (tgt := 132) hx hb (kd dtX12_keep_0 61 rfl) (by decide) ?_
            obtain ⟨w20, hw20, hf⟩ := kbind hf
            refine rast hB (by decide) hw20 F hX (kd dtX12_keep_0 73 rfl) (fun H locs hX => ?_)
            refine lv_iconst (v := (0 : Int32)) hx hb (kd dtX12_keep_0 74 rfl) (by decide) ?_
            obtain ⟨rfl, rfl⟩ := Prod.mk.inj (Option.some.inj hf)
            exact kiret F hX hr hlocks rfl (kd dtX12_keep_0 75 rfl)
        · have hf := kif_pos hc hf
          refine lv_bipush (v := (-15 : Int32)) hx hb (kd dtX12_keep_0 53 rfl) (by decide) ?_
          refine lv_goto (tgt := 132) hx hb (kd dtX12_keep_0 54 rfl) (by decide) ?_
          obtain ⟨w21, hw21, hf⟩ := kbind hf
          refine rast hB (by decide) hw21 F hX (kd dtX12_keep_0 73 rfl) (fun H locs hX => ?_)
          refine lv_iconst (v := (0 : Int32)) hx hb (kd dtX12_keep_0 74 rfl) (by decide) ?_
          obtain ⟨rfl, rfl⟩ := Prod.mk.inj (Option.some.inj hf)
          exact kiret F hX hr hlocks rfl (kd dtX12_keep_0 75 rfl)
    · have hf := kif_pos hc hf
      refine lv_iconst (v := (0 : Int32)) hx hb (kd dtX12_keep_0 31 rfl) (by decide) ?_
      obtain ⟨rfl, rfl⟩ := Prod.mk.inj (Option.some.inj hf)
      exact kiret F hX hr hlocks rfl (kd dtX12_keep_0 32 rfl)
  have hf := h
  rw [fX12_keep] at hf
  refine lv_iload_n hx hb (kd dtX12_keep_0 0 rfl) rfl (lv_at hl 1 rfl) ?_
  obtain ⟨v2, h1, hf⟩ := kbind hf
  refine kcallS (n := 1) [.int x1] [] [.int v2] (rX12_isShelf l D aC (rWo h0 wB w) h1) F hml hX hZ hl.1 mwX12_isShelf wmX12_118 (by decide +kernel) ⟨(by decide), (by decide)⟩ rfl rfl rfl (Nat.le_of_ble_eq_true rfl) (kd dtX12_keep_0 1 rfl) ⟨Nat.zero_le _, Nat.zero_le _⟩ (fun H locs hX => ?_)
  refine lv_if_eq (tgt := 43) hx hb (kd dtX12_keep_0 2 rfl) (by decide) (fun hc => ?_) (fun hc => ?_)
  · have hf := kif_pos hc hf
    refine lv_iconst (v := (-1 : Int32)) hx hb (kd dtX12_keep_0 22 rfl) (by decide) ?_
    obtain ⟨rfl, rfl⟩ := Prod.mk.inj (Option.some.inj hf)
    exact kiret F hX hr hlocks rfl (kd dtX12_keep_0 23 rfl)
  · have hf := kif_neg hc hf
    refine lv_iload_n hx hb (kd dtX12_keep_0 3 rfl) rfl (lv_at hl 2 rfl) ?_
    refine lv_i2l (v := x2.toInt64) hx hb (kd dtX12_keep_0 4 rfl) rfl ?_
    refine lv_lconst (v := (0 : Int64)) hx hb (kd dtX12_keep_0 5 rfl) (by decide) ?_
    refine lv_lconst (v := (1 : Int64)) hx hb (kd dtX12_keep_0 6 rfl) (by decide) ?_
    obtain ⟨v4, h3, hf⟩ := kbind hf
    refine kcallS (n := 3) [.long x2.toInt64, .long (0 : Int64), .long (1 : Int64)] [] [.int v4] (rX12_isIn l D aC (rWo h0 wB w) h3) F hml hX hZ hl.1 mwX12_isIn wmX12_65 (by decide +kernel) ⟨(by decide), (by decide)⟩ rfl rfl rfl (Nat.le_of_ble_eq_true rfl) (kd dtX12_keep_0 7 rfl) ⟨Nat.zero_le _, Nat.zero_le _⟩ (fun H locs hX => ?_)
    refine lv_if_eq (tgt := 43) hx hb (kd dtX12_keep_0 8 rfl) (by decide) (fun hc => ?_) (fun hc => ?_)
    · have hf := kif_pos hc hf
      refine lv_iconst (v := (-1 : Int32)) hx hb (kd dtX12_keep_0 22 rfl) (by decide) ?_
      obtain ⟨rfl, rfl⟩ := Prod.mk.inj (Option.some.inj hf)
      exact kiret F hX hr hlocks rfl (kd dtX12_keep_0 23 rfl)
    · have hf := kif_neg hc hf
      refine lv_iload_n hx hb (kd dtX12_keep_0 9 rfl) rfl (lv_at hl 2 rfl) ?_
      refine lv_iconst (v := (1 : Int32)) hx hb (kd dtX12_keep_0 10 rfl) (by decide) ?_
      refine lv_icmp_ne (tgt := 45) hx hb (kd dtX12_keep_0 11 rfl) (by decide) (fun hc => ?_) (fun hc => ?_)
      · have hf := kif_neg hc hf
        exact hJ0_45 x1 x2 x3 x4 w _ _ _ hX hl hf
      · have hf := kif_pos hc hf
        refine lv_iload_n hx hb (kd dtX12_keep_0 12 rfl) rfl (lv_at hl 3 rfl) ?_
        refine lv_i2l (v := x3.toInt64) hx hb (kd dtX12_keep_0 13 rfl) rfl ?_
        refine lv_lconst (v := (0 : Int64)) hx hb (kd dtX12_keep_0 14 rfl) (by decide) ?_
        refine lv_ldc2 (v := (6 : Int64)) hx hb hown (hts _ wcX12_130) (kd dtX12_keep_0 15 rfl) ?_
        obtain ⟨v6, h5, hf⟩ := kbind hf
        refine kcallS (n := 3) [.long x3.toInt64, .long (0 : Int64), .long (6 : Int64)] [] [.int v6] (rX12_isIn l D aC (rWo h0 wB w) h5) F hml hX hZ hl.1 mwX12_isIn wmX12_65 (by decide +kernel) ⟨(by decide), (by decide)⟩ rfl rfl rfl (Nat.le_of_ble_eq_true rfl) (kd dtX12_keep_0 16 rfl) ⟨Nat.zero_le _, Nat.zero_le _⟩ (fun H locs hX => ?_)
        refine lv_if_eq (tgt := 43) hx hb (kd dtX12_keep_0 17 rfl) (by decide) (fun hc => ?_) (fun hc => ?_)
        · have hf := kif_pos hc hf
          refine lv_iconst (v := (-1 : Int32)) hx hb (kd dtX12_keep_0 22 rfl) (by decide) ?_
          obtain ⟨rfl, rfl⟩ := Prod.mk.inj (Option.some.inj hf)
          exact kiret F hX hr hlocks rfl (kd dtX12_keep_0 23 rfl)
        · have hf := kif_neg hc hf
          refine lv_aload_n hx hb (kd dtX12_keep_0 18 rfl) rfl (lv_at hl 0 rfl) ?_
          refine lv_iload hx hb (kd dtX12_keep_0 19 rfl) (lv_at hl 4 rfl) ?_
          obtain ⟨v8, h7, hf⟩ := kbind hf
          refine kcallV (n := 1) [.int x4] [] [.int v8] (rX12_isLine l D aC hB h7) rfl hB.1 F hml hX hZ hl.1 mwX12_isLine wmX12_127 rfl (by decide) (by decide +kernel) ⟨(by decide), (by decide)⟩ rfl rfl rfl (Nat.le_of_ble_eq_true rfl) (kd dtX12_keep_0 20 rfl) ⟨Nat.zero_le _, Nat.zero_le _⟩ (fun H locs hX => ?_)
          refine lv_if_ne (tgt := 45) hx hb (kd dtX12_keep_0 21 rfl) (by decide) (fun hc => ?_) (fun hc => ?_)
          · have hf := kif_neg hc hf
            exact hJ0_45 x1 x2 x3 x4 w _ _ _ hX hl hf
          · have hf := kif_pos hc hf
            refine lv_iconst (v := (-1 : Int32)) hx hb (kd dtX12_keep_0 22 rfl) (by decide) ?_
            obtain ⟨rfl, rfl⟩ := Prod.mk.inj (Option.some.inj hf)
            exact kiret F hX hr hlocks rfl (kd dtX12_keep_0 23 rfl)
def lX12_row_0 : List (Nat × Instr × Nat) := [(0, .iload_n 1, 1), (1, .invokestatic 118, 3), (4, .ifCond .eq 21, 3), (7, .iload_n 2, 1), (8, .i2l, 1), (9, .lconst 0, 1), (10, .ldc2_w 161, 3), (13, .invokestatic 65, 3), (16, .ifCond .eq 9, 3), (19, .iload_n 3, 1), (20, .bipush 120, 2), (22, .if_icmp .le 5, 3), (25, .iconst (-1), 1), (26, .ireturn, 1), (27, .iload_n 3, 1), (28, .ifCond .ge 6, 3), (31, .bipush (-14), 2), (33, .ireturn, 1), (34, .aload_n 0, 1), (35, .getfield 22, 3), (38, .iload_n 1, 1), (39, .iconst 2, 1), (40, .iastore, 1), (41, .aload_n 0, 1), (42, .getfield 25, 3), (45, .iload_n 1, 1), (46, .iload_n 2, 1), (47, .iastore, 1), (48, .aload_n 0, 1), (49, .getfield 28, 3), (52, .iload_n 1, 1), (53, .iload_n 3, 1), (54, .iastore, 1), (55, .iconst 0, 1), (56, .istore 4, 2), (58, .iload 4, 2), (60, .bipush 120, 2), (62, .if_icmp .ge 22, 3), (65, .aload_n 0, 1), (66, .getfield 31, 3), (69, .bipush 120, 2), (71, .iload_n 1, 1), (72, .imul, 1), (73, .iload 4, 2), (75, .iadd, 1), (76, .iconst 0, 1), (77, .iastore, 1), (78, .iinc 4 1, 3), (81, .goto (-23), 3), (84, .iconst 0, 1), (85, .ireturn, 1)]
theorem dtX12_row_0 : kDec cX12_row lX12_row_0 = true := by decide +kernel
noncomputable def fX12_row_L58 (x1 : Int32) (x2 : Int32) (x3 : Int32) : Nat → (Int32 → rW → Option (Int32 × rW)) → Int32 → rW → Option (Int32 × rW)
  | 0, _, _, _ => none
  | n + 1, k, x4, w =>
  if (120 : Int32) ≤ x4 then
  k x4 w
  else
  (rsI w 7 960 (((120 : Int32) * x1) + x4) (0 : Int32)).bind fun w1 =>
  fX12_row_L58 x1 x2 x3 n k (x4 + (1 : Int32)) w1

noncomputable def fX12_row (x1 : Int32) (x2 : Int32) (x3 : Int32) (w : rW) : Option (Int32 × rW) :=
  (fX12_isShelf x1).bind fun v2 =>
  if v2 = 0 then
  some ((-1 : Int32), w)
  else
  (fX12_isIn x2.toInt64 (0 : Int64) (2 : Int64)).bind fun v4 =>
  if v4 = 0 then
  some ((-1 : Int32), w)
  else
  if x3 ≤ (120 : Int32) then
  if 0 ≤ x3 then
  (rsI w 4 8 x1 (2 : Int32)).bind fun w5 =>
  (rsI w5 5 8 x1 x2).bind fun w6 =>
  (rsI w6 6 8 x1 x3).bind fun w7 =>
  fX12_row_L58 x1 x2 x3 kFU (fun y4_8 w9 => some ((0 : Int32), w9)) (0 : Int32) w7
  else
  some ((-14 : Int32), w)
  else
  some ((-1 : Int32), w)

set_option maxHeartbeats 4000000 in
set_option maxRecDepth 100000 in
theorem rX12_row (l : Launch) (D : va_G) (aC : Nat → ClassId) {h0 : Nat} {wB : kW} (hB : rOK h0 wB) {x1 : Int32} {x2 : Int32} {x3 : Int32} {w : rW} {wR : rW} {oR : Int32} (h : fX12_row x1 x2 x3 w = some (oR, wR)) : kC l D aC yX12_row cX12_row 5 (some .int) 3 57 [.ref h0, .int x1, .int x2, .int x3] (rWo h0 wB w) (some (.int oR)) (rWo h0 wB wR) 0 0 := by
  refine kOf (own := RX12) (by decide) rfl (Nat.le_of_ble_eq_true rfl) ?_
  intro p e s m below meth c ls F hml hr hlocks hnm hX hZ hl
  obtain ⟨hx, hb, hts, hown, hK⟩ := id F
  have hl : lv_has ls 5 [(0, .ref h0), (1, .int x1), (2, .int x2), (3, .int x3)] := hl
  have hf := h
  rw [fX12_row] at hf
  refine lv_iload_n hx hb (kd dtX12_row_0 0 rfl) rfl (lv_at hl 1 rfl) ?_
  obtain ⟨v2, h1, hf⟩ := kbind hf
  refine kcallS (n := 1) [.int x1] [] [.int v2] (rX12_isShelf l D aC (rWo h0 wB w) h1) F hml hX hZ hl.1 mwX12_isShelf wmX12_118 (by decide +kernel) ⟨(by decide), (by decide)⟩ rfl rfl rfl (Nat.le_of_ble_eq_true rfl) (kd dtX12_row_0 1 rfl) ⟨Nat.zero_le _, Nat.zero_le _⟩ (fun H locs hX => ?_)
  refine lv_if_eq (tgt := 25) hx hb (kd dtX12_row_0 2 rfl) (by decide) (fun hc => ?_) (fun hc => ?_)
  · have hf := kif_pos hc hf
    refine lv_iconst (v := (-1 : Int32)) hx hb (kd dtX12_row_0 12 rfl) (by decide) ?_
    obtain ⟨rfl, rfl⟩ := Prod.mk.inj (Option.some.inj hf)
    exact kiret F hX hr hlocks rfl (kd dtX12_row_0 13 rfl)
  · have hf := kif_neg hc hf
    refine lv_iload_n hx hb (kd dtX12_row_0 3 rfl) rfl (lv_at hl 2 rfl) ?_
    refine lv_i2l (v := x2.toInt64) hx hb (kd dtX12_row_0 4 rfl) rfl ?_
    refine lv_lconst (v := (0 : Int64)) hx hb (kd dtX12_row_0 5 rfl) (by decide) ?_
    refine lv_ldc2 (v := (2 : Int64)) hx hb hown (hts _ wcX12_161) (kd dtX12_row_0 6 rfl) ?_
    obtain ⟨v4, h3, hf⟩ := kbind hf
    refine kcallS (n := 3) [.long x2.toInt64, .long (0 : Int64), .long (2 : Int64)] [] [.int v4] (rX12_isIn l D aC (rWo h0 wB w) h3) F hml hX hZ hl.1 mwX12_isIn wmX12_65 (by decide +kernel) ⟨(by decide), (by decide)⟩ rfl rfl rfl (Nat.le_of_ble_eq_true rfl) (kd dtX12_row_0 7 rfl) ⟨Nat.zero_le _, Nat.zero_le _⟩ (fun H locs hX => ?_)
    refine lv_if_eq (tgt := 25) hx hb (kd dtX12_row_0 8 rfl) (by decide) (fun hc => ?_) (fun hc => ?_)
    · have hf := kif_pos hc hf
      refine lv_iconst (v := (-1 : Int32)) hx hb (kd dtX12_row_0 12 rfl) (by decide) ?_
      obtain ⟨rfl, rfl⟩ := Prod.mk.inj (Option.some.inj hf)
      exact kiret F hX hr hlocks rfl (kd dtX12_row_0 13 rfl)
    · have hf := kif_neg hc hf
      refine lv_iload_n hx hb (kd dtX12_row_0 9 rfl) rfl (lv_at hl 3 rfl) ?_
      refine lv_bipush (v := (120 : Int32)) hx hb (kd dtX12_row_0 10 rfl) (by decide) ?_
      refine lv_icmp_le (tgt := 27) hx hb (kd dtX12_row_0 11 rfl) (by decide) (fun hc => ?_) (fun hc => ?_)
      · have hf := kif_pos hc hf
        refine lv_iload_n hx hb (kd dtX12_row_0 14 rfl) rfl (lv_at hl 3 rfl) ?_
        refine lv_if_ge (tgt := 34) hx hb (kd dtX12_row_0 15 rfl) (by decide) (fun hc => ?_) (fun hc => ?_)
        · have hf := kif_pos hc hf
          refine lv_aload_n hx hb (kd dtX12_row_0 18 rfl) rfl (lv_at hl 0 rfl) ?_
          refine rgetA (n := 4) (j := 4) hB (by decide) rfl F hX wfX12_22 (by decide) rfl (kd dtX12_row_0 19 rfl) ?_
          refine lv_iload_n hx hb (kd dtX12_row_0 20 rfl) rfl (lv_at hl 1 rfl) ?_
          refine lv_iconst (v := (2 : Int32)) hx hb (kd dtX12_row_0 21 rfl) (by decide) ?_
          obtain ⟨w5, hw5, hf⟩ := kbind hf
          refine rast hB (by decide) hw5 F hX (kd dtX12_row_0 22 rfl) (fun H locs hX => ?_)
          refine lv_aload_n hx hb (kd dtX12_row_0 23 rfl) rfl (lv_at hl 0 rfl) ?_
          refine rgetA (n := 5) (j := 5) hB (by decide) rfl F hX wfX12_25 (by decide) rfl (kd dtX12_row_0 24 rfl) ?_
          refine lv_iload_n hx hb (kd dtX12_row_0 25 rfl) rfl (lv_at hl 1 rfl) ?_
          refine lv_iload_n hx hb (kd dtX12_row_0 26 rfl) rfl (lv_at hl 2 rfl) ?_
          obtain ⟨w6, hw6, hf⟩ := kbind hf
          refine rast hB (by decide) hw6 F hX (kd dtX12_row_0 27 rfl) (fun H locs hX => ?_)
          refine lv_aload_n hx hb (kd dtX12_row_0 28 rfl) rfl (lv_at hl 0 rfl) ?_
          refine rgetA (n := 6) (j := 6) hB (by decide) rfl F hX wfX12_28 (by decide) rfl (kd dtX12_row_0 29 rfl) ?_
          refine lv_iload_n hx hb (kd dtX12_row_0 30 rfl) rfl (lv_at hl 1 rfl) ?_
          refine lv_iload_n hx hb (kd dtX12_row_0 31 rfl) rfl (lv_at hl 3 rfl) ?_
          obtain ⟨w7, hw7, hf⟩ := kbind hf
          refine rast hB (by decide) hw7 F hX (kd dtX12_row_0 32 rfl) (fun H locs hX => ?_)
          refine lv_iconst (v := (0 : Int32)) hx hb (kd dtX12_row_0 33 rfl) (by decide) ?_
          refine lv_istore (lv' := [(4, .int (0 : Int32)), (0, .ref h0), (1, .int x1), (2, .int x2), (3, .int x3)]) hx hb (kd dtX12_row_0 34 rfl) hl (by decide) rfl (fun ls hl => ?_)
          have hL58 : ∀ (n : Nat) (k : Int32 → rW → Option (Int32 × rW)), ∀ (z4_58 : Int32) (w_58 : rW) (H : Heap) (locs : List Loc) (ls : Array Slot), kX D aC (rWo h0 wB w) s.heap (rWo h0 wB w_58) H locs → lv_has ls 5 [(0, .ref h0), (1, .int x1), (2, .int x2), (3, .int x3), (4, .int z4_58)] → fX12_row_L58 x1 x2 x3 n k z4_58 w_58 = some (oR, wR) → (∀ (z4_58 : Int32) (w_58 : rW) (H : Heap) (locs : List Loc) (ls : Array Slot), kX D aC (rWo h0 wB w) s.heap (rWo h0 wB w_58) H locs → lv_has ls 5 [(0, .ref h0), (1, .int x1), (2, .int x2), (3, .int x3), (4, .int z4_58)] → k z4_58 w_58 = some (oR, wR) → W p l e { frames := 3, cells := 0, slots := 0, locals := 57 } s m ([.ref h0, .int x1, .int x2, .int x3] : List Value).toArray below meth c H locs 0 0 (MQ below (kQc D aC (rWo h0 wB w) (some (.int oR)) (rWo h0 wB wR)) ([.ref h0, .int x1, .int x2, .int x3] : List Value).toArray s 0 0 (kA (rWo h0 wB w))) (F0 m 84 ls [])) → W p l e { frames := 3, cells := 0, slots := 0, locals := 57 } s m ([.ref h0, .int x1, .int x2, .int x3] : List Value).toArray below meth c H locs 0 0 (MQ below (kQc D aC (rWo h0 wB w) (some (.int oR)) (rWo h0 wB wR)) ([.ref h0, .int x1, .int x2, .int x3] : List Value).toArray s 0 0 (kA (rWo h0 wB w))) (F0 m 58 ls []) := by
            intro n k
            induction n with
            | zero =>
              intro z4_58 w_58 H locs ls hX hl hf hk
              rw [fX12_row_L58] at hf
              cases hf
            | succ n ih =>
              intro z4_58 w_58 H locs ls hX hl hf hk
              rw [fX12_row_L58] at hf
              refine lv_iload hx hb (kd dtX12_row_0 35 rfl) (lv_at hl 4 rfl) ?_
              refine lv_bipush (v := (120 : Int32)) hx hb (kd dtX12_row_0 36 rfl) (by decide) ?_
              refine lv_icmp_ge (tgt := 84) hx hb (kd dtX12_row_0 37 rfl) (by decide) (fun hc => ?_) (fun hc => ?_)
              · have hf := kif_pos hc hf
                exact hk z4_58 w_58 _ _ _ hX hl hf
              · have hf := kif_neg hc hf
                refine lv_aload_n hx hb (kd dtX12_row_0 38 rfl) rfl (lv_at hl 0 rfl) ?_
                refine rgetA (n := 7) (j := 7) hB (by decide) rfl F hX wfX12_31 (by decide) rfl (kd dtX12_row_0 39 rfl) ?_
                refine lv_bipush (v := (120 : Int32)) hx hb (kd dtX12_row_0 40 rfl) (by decide) ?_
                refine lv_iload_n hx hb (kd dtX12_row_0 41 rfl) rfl (lv_at hl 1 rfl) ?_
                refine lv_imul hx hb (kd dtX12_row_0 42 rfl) ?_
                refine lv_iload hx hb (kd dtX12_row_0 43 rfl) (lv_at hl 4 rfl) ?_
                refine lv_iadd hx hb (kd dtX12_row_0 44 rfl) ?_
                refine lv_iconst (v := (0 : Int32)) hx hb (kd dtX12_row_0 45 rfl) (by decide) ?_
                obtain ⟨w10, hw10, hf⟩ := kbind hf
                refine rast hB (by decide) hw10 F hX (kd dtX12_row_0 46 rfl) (fun H locs hX => ?_)
                refine lv_iinc (v := z4_58 + (1 : Int32)) (lv' := [(4, .int (z4_58 + (1 : Int32))), (0, .ref h0), (1, .int x1), (2, .int x2), (3, .int x3)]) hx hb (kd dtX12_row_0 47 rfl) hl (k := 4) rfl (by rfl) (by decide) rfl (fun ls hl => ?_)
                refine lv_goto (tgt := 58) hx hb (kd dtX12_row_0 48 rfl) (by decide) ?_
                exact ih (z4_58 + (1 : Int32)) w10 _ _ _ hX (lv_sub hl [1, 2, 3, 4, 0] rfl) hf hk
          refine hL58 kFU _ (0 : Int32) w7 _ _ _ hX (lv_sub hl [1, 2, 3, 4, 0] rfl) hf ?_
          intro y4_8 w9 H locs ls hX hl hf
          refine lv_iconst (v := (0 : Int32)) hx hb (kd dtX12_row_0 49 rfl) (by decide) ?_
          obtain ⟨rfl, rfl⟩ := Prod.mk.inj (Option.some.inj hf)
          exact kiret F hX hr hlocks rfl (kd dtX12_row_0 50 rfl)
        · have hf := kif_neg hc hf
          refine lv_bipush (v := (-14 : Int32)) hx hb (kd dtX12_row_0 16 rfl) (by decide) ?_
          obtain ⟨rfl, rfl⟩ := Prod.mk.inj (Option.some.inj hf)
          exact kiret F hX hr hlocks rfl (kd dtX12_row_0 17 rfl)
      · have hf := kif_neg hc hf
        refine lv_iconst (v := (-1 : Int32)) hx hb (kd dtX12_row_0 12 rfl) (by decide) ?_
        obtain ⟨rfl, rfl⟩ := Prod.mk.inj (Option.some.inj hf)
        exact kiret F hX hr hlocks rfl (kd dtX12_row_0 13 rfl)
def lX12_put_0 : List (Nat × Instr × Nat) := [(0, .aload_n 0, 1), (1, .iload_n 1, 1), (2, .iconst (-1), 1), (3, .invokevirtual 121, 3), (6, .istore 4, 2), (8, .iload 4, 2), (10, .ifCond .eq 6, 3), (13, .iload 4, 2), (15, .ireturn, 1), (16, .iload_n 2, 1), (17, .i2l, 1), (18, .lconst 0, 1), (19, .aload_n 0, 1), (20, .getfield 28, 3), (23, .iload_n 1, 1), (24, .iaload, 1), (25, .iconst 1, 1), (26, .isub, 1), (27, .i2l, 1), (28, .invokestatic 65, 3), (31, .ifCond .ne 6, 3), (34, .bipush (-13), 2), (36, .ireturn, 1), (37, .aload_n 0, 1), (38, .getfield 31, 3), (41, .bipush 120, 2), (43, .iload_n 1, 1), (44, .imul, 1), (45, .iload_n 2, 1), (46, .iadd, 1), (47, .aload_n 0, 1), (48, .getfield 25, 3), (51, .iload_n 1, 1), (52, .iaload, 1), (53, .ifCond .ne 8, 3), (56, .iload_n 3, 1), (57, .i2b, 1), (58, .goto 19, 3), (61, .aload_n 0, 1), (62, .getfield 25, 3), (65, .iload_n 1, 1), (66, .iaload, 1), (67, .iconst 1, 1), (68, .if_icmp .ne 8, 3), (71, .iload_n 3, 1), (72, .i2s, 1), (73, .goto 4, 3), (76, .iload_n 3, 1), (77, .iastore, 1), (78, .iconst 0, 1), (79, .ireturn, 1)]
theorem dtX12_put_0 : kDec cX12_put lX12_put_0 = true := by decide +kernel
noncomputable def fX12_put (x1 : Int32) (x2 : Int32) (x3 : Int32) (w : rW) : Option (Int32 × rW) :=
  (fX12_wrongRow x1 (-1 : Int32) w).bind fun v2 =>
  if v2 = 0 then
  (raI w 6 8 x1).bind fun v3 =>
  (fX12_isIn x2.toInt64 (0 : Int64) ((v3 - (1 : Int32)).toInt64)).bind fun v5 =>
  if v5 = 0 then
  some ((-13 : Int32), w)
  else
  (raI w 5 8 x1).bind fun v6 =>
  if v6 = 0 then
  (rsI w 7 960 (((120 : Int32) * x1) + x2) x3.toInt8.toInt32).bind fun w10 =>
  some ((0 : Int32), w10)
  else
  (raI w 5 8 x1).bind fun v7 =>
  if v7 = (1 : Int32) then
  (rsI w 7 960 (((120 : Int32) * x1) + x2) x3.toInt16.toInt32).bind fun w9 =>
  some ((0 : Int32), w9)
  else
  (rsI w 7 960 (((120 : Int32) * x1) + x2) x3).bind fun w8 =>
  some ((0 : Int32), w8)
  else
  some (v2, w)

set_option maxHeartbeats 4000000 in
set_option maxRecDepth 100000 in
theorem rX12_put (l : Launch) (D : va_G) (aC : Nat → ClassId) {h0 : Nat} {wB : kW} (hB : rOK h0 wB) {x1 : Int32} {x2 : Int32} {x3 : Int32} {w : rW} {wR : rW} {oR : Int32} (h : fX12_put x1 x2 x3 w = some (oR, wR)) : kC l D aC yX12_put cX12_put 5 (some .int) 4 79 [.ref h0, .int x1, .int x2, .int x3] (rWo h0 wB w) (some (.int oR)) (rWo h0 wB wR) 0 0 := by
  refine kOf (own := RX12) (by decide) rfl (Nat.le_of_ble_eq_true rfl) ?_
  intro p e s m below meth c ls F hml hr hlocks hnm hX hZ hl
  obtain ⟨hx, hb, hts, hown, hK⟩ := id F
  have hl : lv_has ls 5 [(0, .ref h0), (1, .int x1), (2, .int x2), (3, .int x3)] := hl
  have hf := h
  rw [fX12_put] at hf
  refine lv_aload_n hx hb (kd dtX12_put_0 0 rfl) rfl (lv_at hl 0 rfl) ?_
  refine lv_iload_n hx hb (kd dtX12_put_0 1 rfl) rfl (lv_at hl 1 rfl) ?_
  refine lv_iconst (v := (-1 : Int32)) hx hb (kd dtX12_put_0 2 rfl) (by decide) ?_
  obtain ⟨v2, h1, hf⟩ := kbind hf
  refine kcallV (n := 2) [.int x1, .int (-1 : Int32)] [] [.int v2] (rX12_wrongRow l D aC hB h1) rfl hB.1 F hml hX hZ hl.1 mwX12_wrongRow wmX12_121 rfl (by decide) (by decide +kernel) ⟨(by decide), (by decide)⟩ rfl rfl rfl (Nat.le_of_ble_eq_true rfl) (kd dtX12_put_0 3 rfl) ⟨Nat.zero_le _, Nat.zero_le _⟩ (fun H locs hX => ?_)
  refine lv_istore (lv' := [(4, .int v2), (0, .ref h0), (1, .int x1), (2, .int x2), (3, .int x3)]) hx hb (kd dtX12_put_0 4 rfl) hl (by decide) rfl (fun ls hl => ?_)
  refine lv_iload hx hb (kd dtX12_put_0 5 rfl) (lv_at hl 0 rfl) ?_
  refine lv_if_eq (tgt := 16) hx hb (kd dtX12_put_0 6 rfl) (by decide) (fun hc => ?_) (fun hc => ?_)
  · have hf := kif_pos hc hf
    refine lv_iload_n hx hb (kd dtX12_put_0 9 rfl) rfl (lv_at hl 3 rfl) ?_
    refine lv_i2l (v := x2.toInt64) hx hb (kd dtX12_put_0 10 rfl) rfl ?_
    refine lv_lconst (v := (0 : Int64)) hx hb (kd dtX12_put_0 11 rfl) (by decide) ?_
    refine lv_aload_n hx hb (kd dtX12_put_0 12 rfl) rfl (lv_at hl 1 rfl) ?_
    refine rgetA (n := 6) (j := 6) hB (by decide) rfl F hX wfX12_28 (by decide) rfl (kd dtX12_put_0 13 rfl) ?_
    refine lv_iload_n hx hb (kd dtX12_put_0 14 rfl) rfl (lv_at hl 2 rfl) ?_
    obtain ⟨v3, hv3, hf⟩ := kbind hf
    refine rald hB (by decide) hv3 F hX (kd dtX12_put_0 15 rfl) ?_
    refine lv_iconst (v := (1 : Int32)) hx hb (kd dtX12_put_0 16 rfl) (by decide) ?_
    refine lv_isub hx hb (kd dtX12_put_0 17 rfl) ?_
    refine lv_i2l (v := (v3 - (1 : Int32)).toInt64) hx hb (kd dtX12_put_0 18 rfl) rfl ?_
    obtain ⟨v5, h4, hf⟩ := kbind hf
    refine kcallS (n := 3) [.long x2.toInt64, .long (0 : Int64), .long ((v3 - (1 : Int32)).toInt64)] [] [.int v5] (rX12_isIn l D aC (rWo h0 wB w) h4) F hml hX hZ hl.1 mwX12_isIn wmX12_65 (by decide +kernel) ⟨(by decide), (by decide)⟩ rfl rfl rfl (Nat.le_of_ble_eq_true rfl) (kd dtX12_put_0 19 rfl) ⟨Nat.zero_le _, Nat.zero_le _⟩ (fun H locs hX => ?_)
    refine lv_if_ne (tgt := 37) hx hb (kd dtX12_put_0 20 rfl) (by decide) (fun hc => ?_) (fun hc => ?_)
    · have hf := kif_neg hc hf
      refine lv_aload_n hx hb (kd dtX12_put_0 23 rfl) rfl (lv_at hl 1 rfl) ?_
      refine rgetA (n := 7) (j := 7) hB (by decide) rfl F hX wfX12_31 (by decide) rfl (kd dtX12_put_0 24 rfl) ?_
      refine lv_bipush (v := (120 : Int32)) hx hb (kd dtX12_put_0 25 rfl) (by decide) ?_
      refine lv_iload_n hx hb (kd dtX12_put_0 26 rfl) rfl (lv_at hl 2 rfl) ?_
      refine lv_imul hx hb (kd dtX12_put_0 27 rfl) ?_
      refine lv_iload_n hx hb (kd dtX12_put_0 28 rfl) rfl (lv_at hl 3 rfl) ?_
      refine lv_iadd hx hb (kd dtX12_put_0 29 rfl) ?_
      refine lv_aload_n hx hb (kd dtX12_put_0 30 rfl) rfl (lv_at hl 1 rfl) ?_
      refine rgetA (n := 5) (j := 5) hB (by decide) rfl F hX wfX12_25 (by decide) rfl (kd dtX12_put_0 31 rfl) ?_
      refine lv_iload_n hx hb (kd dtX12_put_0 32 rfl) rfl (lv_at hl 2 rfl) ?_
      obtain ⟨v6, hv6, hf⟩ := kbind hf
      refine rald hB (by decide) hv6 F hX (kd dtX12_put_0 33 rfl) ?_
      refine lv_if_ne (tgt := 61) hx hb (kd dtX12_put_0 34 rfl) (by decide) (fun hc => ?_) (fun hc => ?_)
      · have hf := kif_neg hc hf
        refine lv_aload_n hx hb (kd dtX12_put_0 38 rfl) rfl (lv_at hl 1 rfl) ?_
        refine rgetA (n := 5) (j := 5) hB (by decide) rfl F hX wfX12_25 (by decide) rfl (kd dtX12_put_0 39 rfl) ?_
        refine lv_iload_n hx hb (kd dtX12_put_0 40 rfl) rfl (lv_at hl 2 rfl) ?_
        obtain ⟨v7, hv7, hf⟩ := kbind hf
        refine rald hB (by decide) hv7 F hX (kd dtX12_put_0 41 rfl) ?_
        refine lv_iconst (v := (1 : Int32)) hx hb (kd dtX12_put_0 42 rfl) (by decide) ?_
        refine lv_icmp_ne (tgt := 76) hx hb (kd dtX12_put_0 43 rfl) (by decide) (fun hc => ?_) (fun hc => ?_)
        · have hf := kif_neg hc hf
          refine lv_iload_n hx hb (kd dtX12_put_0 47 rfl) rfl (lv_at hl 4 rfl) ?_
          obtain ⟨w8, hw8, hf⟩ := kbind hf
          refine rast hB (by decide) hw8 F hX (kd dtX12_put_0 48 rfl) (fun H locs hX => ?_)
          refine lv_iconst (v := (0 : Int32)) hx hb (kd dtX12_put_0 49 rfl) (by decide) ?_
          obtain ⟨rfl, rfl⟩ := Prod.mk.inj (Option.some.inj hf)
          exact kiret F hX hr hlocks rfl (kd dtX12_put_0 50 rfl)
        · have hf := kif_pos hc hf
          refine lv_iload_n hx hb (kd dtX12_put_0 44 rfl) rfl (lv_at hl 4 rfl) ?_
          refine lv_i2s (v := x3.toInt16.toInt32) hx hb (kd dtX12_put_0 45 rfl) rfl ?_
          refine lv_goto (tgt := 77) hx hb (kd dtX12_put_0 46 rfl) (by decide) ?_
          obtain ⟨w9, hw9, hf⟩ := kbind hf
          refine rast hB (by decide) hw9 F hX (kd dtX12_put_0 48 rfl) (fun H locs hX => ?_)
          refine lv_iconst (v := (0 : Int32)) hx hb (kd dtX12_put_0 49 rfl) (by decide) ?_
          obtain ⟨rfl, rfl⟩ := Prod.mk.inj (Option.some.inj hf)
          exact kiret F hX hr hlocks rfl (kd dtX12_put_0 50 rfl)
      · have hf := kif_pos hc hf
        refine lv_iload_n hx hb (kd dtX12_put_0 35 rfl) rfl (lv_at hl 4 rfl) ?_
        refine lv_i2b (v := x3.toInt8.toInt32) hx hb (kd dtX12_put_0 36 rfl) rfl ?_
        refine lv_goto (tgt := 77) hx hb (kd dtX12_put_0 37 rfl) (by decide) ?_
        obtain ⟨w10, hw10, hf⟩ := kbind hf
        refine rast hB (by decide) hw10 F hX (kd dtX12_put_0 48 rfl) (fun H locs hX => ?_)
        refine lv_iconst (v := (0 : Int32)) hx hb (kd dtX12_put_0 49 rfl) (by decide) ?_
        obtain ⟨rfl, rfl⟩ := Prod.mk.inj (Option.some.inj hf)
        exact kiret F hX hr hlocks rfl (kd dtX12_put_0 50 rfl)
    · have hf := kif_pos hc hf
      refine lv_bipush (v := (-13 : Int32)) hx hb (kd dtX12_put_0 21 rfl) (by decide) ?_
      obtain ⟨rfl, rfl⟩ := Prod.mk.inj (Option.some.inj hf)
      exact kiret F hX hr hlocks rfl (kd dtX12_put_0 22 rfl)
  · have hf := kif_neg hc hf
    refine lv_iload hx hb (kd dtX12_put_0 7 rfl) (lv_at hl 0 rfl) ?_
    obtain ⟨rfl, rfl⟩ := Prod.mk.inj (Option.some.inj hf)
    exact kiret F hX hr hlocks rfl (kd dtX12_put_0 8 rfl)
def lX12_element_0 : List (Nat × Instr × Nat) := [(0, .aload_n 0, 1), (1, .iload_n 1, 1), (2, .invokestatic 118, 3), (5, .ifCond .ne 7, 3), (8, .iconst 1, 1), (9, .goto 36, 3), (12, .aload_n 0, 1), (13, .getfield 22, 3), (16, .iload_n 1, 1), (17, .iaload, 1), (18, .iconst 2, 1), (19, .if_icmp .ne 21, 3), (22, .iload_n 2, 1), (23, .i2l, 1), (24, .lconst 0, 1), (25, .aload_n 0, 1), (26, .getfield 28, 3), (29, .iload_n 1, 1), (30, .iaload, 1), (31, .iconst 1, 1), (32, .isub, 1), (33, .i2l, 1), (34, .invokestatic 65, 3), (37, .ifCond .ne 7, 3), (40, .iconst 2, 1), (41, .goto 4, 3), (44, .iconst 0, 1), (45, .putfield 61, 3), (48, .aload_n 0, 1), (49, .getfield 61, 3), (52, .ifCond .ne 18, 3), (55, .aload_n 0, 1), (56, .getfield 31, 3), (59, .bipush 120, 2), (61, .iload_n 1, 1), (62, .imul, 1), (63, .iload_n 2, 1), (64, .iadd, 1), (65, .iaload, 1), (66, .i2l, 1), (67, .goto 4, 3), (70, .lconst 0, 1), (71, .lreturn, 1)]
theorem dtX12_element_0 : kDec cX12_element lX12_element_0 = true := by decide +kernel
noncomputable def fX12_element (x1 : Int32) (x2 : Int32) (w : rW) : Option (Int64 × rW) :=
  (fX12_isShelf x1).bind fun v2 =>
  if v2 = 0 then
  (rpF w 11 (1 : Int32)).bind fun w13 =>
  if (rF w13 11) = 0 then
  (raI w13 7 960 (((120 : Int32) * x1) + x2)).bind fun v14 =>
  some (v14.toInt64, w13)
  else
  some ((0 : Int64), w13)
  else
  (raI w 4 8 x1).bind fun v3 =>
  if v3 = (2 : Int32) then
  (raI w 6 8 x1).bind fun v6 =>
  (fX12_isIn x2.toInt64 (0 : Int64) ((v6 - (1 : Int32)).toInt64)).bind fun v8 =>
  if v8 = 0 then
  (rpF w 11 (2 : Int32)).bind fun w11 =>
  if (rF w11 11) = 0 then
  (raI w11 7 960 (((120 : Int32) * x1) + x2)).bind fun v12 =>
  some (v12.toInt64, w11)
  else
  some ((0 : Int64), w11)
  else
  (rpF w 11 (0 : Int32)).bind fun w9 =>
  if (rF w9 11) = 0 then
  (raI w9 7 960 (((120 : Int32) * x1) + x2)).bind fun v10 =>
  some (v10.toInt64, w9)
  else
  some ((0 : Int64), w9)
  else
  (rpF w 11 (2 : Int32)).bind fun w4 =>
  if (rF w4 11) = 0 then
  (raI w4 7 960 (((120 : Int32) * x1) + x2)).bind fun v5 =>
  some (v5.toInt64, w4)
  else
  some ((0 : Int64), w4)

set_option maxHeartbeats 4000000 in
set_option maxRecDepth 100000 in
theorem rX12_element (l : Launch) (D : va_G) (aC : Nat → ClassId) {h0 : Nat} {wB : kW} (hB : rOK h0 wB) {x1 : Int32} {x2 : Int32} {w : rW} {wR : rW} {oR : Int64} (h : fX12_element x1 x2 w = some (oR, wR)) : kC l D aC yX12_element cX12_element 3 (some .long) 3 57 [.ref h0, .int x1, .int x2] (rWo h0 wB w) (some (.long oR)) (rWo h0 wB wR) 0 0 := by
  refine kOf (own := RX12) (by decide) rfl (Nat.le_of_ble_eq_true rfl) ?_
  intro p e s m below meth c ls F hml hr hlocks hnm hX hZ hl
  obtain ⟨hx, hb, hts, hown, hK⟩ := id F
  have hl : lv_has ls 3 [(0, .ref h0), (1, .int x1), (2, .int x2)] := hl
  have hf := h
  rw [fX12_element] at hf
  refine lv_aload_n hx hb (kd dtX12_element_0 0 rfl) rfl (lv_at hl 0 rfl) ?_
  refine lv_iload_n hx hb (kd dtX12_element_0 1 rfl) rfl (lv_at hl 1 rfl) ?_
  obtain ⟨v2, h1, hf⟩ := kbind hf
  refine kcallS (n := 1) [.int x1] [.ref h0] [.int v2, .ref h0] (rX12_isShelf l D aC (rWo h0 wB w) h1) F hml hX hZ hl.1 mwX12_isShelf wmX12_118 (by decide +kernel) ⟨(by decide), (by decide)⟩ rfl rfl rfl (Nat.le_of_ble_eq_true rfl) (kd dtX12_element_0 2 rfl) ⟨Nat.zero_le _, Nat.zero_le _⟩ (fun H locs hX => ?_)
  refine lv_if_ne (tgt := 12) hx hb (kd dtX12_element_0 3 rfl) (by decide) (fun hc => ?_) (fun hc => ?_)
  · have hf := kif_neg hc hf
    refine lv_aload_n hx hb (kd dtX12_element_0 6 rfl) rfl (lv_at hl 0 rfl) ?_
    refine rgetA (n := 4) (j := 4) hB (by decide) rfl F hX wfX12_22 (by decide) rfl (kd dtX12_element_0 7 rfl) ?_
    refine lv_iload_n hx hb (kd dtX12_element_0 8 rfl) rfl (lv_at hl 1 rfl) ?_
    obtain ⟨v3, hv3, hf⟩ := kbind hf
    refine rald hB (by decide) hv3 F hX (kd dtX12_element_0 9 rfl) ?_
    refine lv_iconst (v := (2 : Int32)) hx hb (kd dtX12_element_0 10 rfl) (by decide) ?_
    refine lv_icmp_ne (tgt := 40) hx hb (kd dtX12_element_0 11 rfl) (by decide) (fun hc => ?_) (fun hc => ?_)
    · have hf := kif_neg hc hf
      refine lv_iconst (v := (2 : Int32)) hx hb (kd dtX12_element_0 24 rfl) (by decide) ?_
      refine lv_goto (tgt := 45) hx hb (kd dtX12_element_0 25 rfl) (by decide) ?_
      obtain ⟨w4, hw4, hf⟩ := kbind hf
      refine rputF hw4 hB F hX wfX12_61 (by decide) rfl rfl rfl rfl (kd dtX12_element_0 27 rfl) (fun H locs hX => ?_)
      refine lv_aload_n hx hb (kd dtX12_element_0 28 rfl) rfl (lv_at hl 0 rfl) ?_
      refine rgetF (j := 11) hB F hX wfX12_61 (by decide) rfl (kd dtX12_element_0 29 rfl) ?_
      refine lv_if_ne (tgt := 70) hx hb (kd dtX12_element_0 30 rfl) (by decide) (fun hc => ?_) (fun hc => ?_)
      · have hf := kif_neg hc hf
        refine lv_lconst (v := (0 : Int64)) hx hb (kd dtX12_element_0 41 rfl) (by decide) ?_
        obtain ⟨rfl, rfl⟩ := Prod.mk.inj (Option.some.inj hf)
        exact klret F hX hr hlocks rfl (kd dtX12_element_0 42 rfl)
      · have hf := kif_pos hc hf
        refine lv_aload_n hx hb (kd dtX12_element_0 31 rfl) rfl (lv_at hl 0 rfl) ?_
        refine rgetA (n := 7) (j := 7) hB (by decide) rfl F hX wfX12_31 (by decide) rfl (kd dtX12_element_0 32 rfl) ?_
        refine lv_bipush (v := (120 : Int32)) hx hb (kd dtX12_element_0 33 rfl) (by decide) ?_
        refine lv_iload_n hx hb (kd dtX12_element_0 34 rfl) rfl (lv_at hl 1 rfl) ?_
        refine lv_imul hx hb (kd dtX12_element_0 35 rfl) ?_
        refine lv_iload_n hx hb (kd dtX12_element_0 36 rfl) rfl (lv_at hl 2 rfl) ?_
        refine lv_iadd hx hb (kd dtX12_element_0 37 rfl) ?_
        obtain ⟨v5, hv5, hf⟩ := kbind hf
        refine rald hB (by decide) hv5 F hX (kd dtX12_element_0 38 rfl) ?_
        refine lv_i2l (v := v5.toInt64) hx hb (kd dtX12_element_0 39 rfl) rfl ?_
        refine lv_goto (tgt := 71) hx hb (kd dtX12_element_0 40 rfl) (by decide) ?_
        obtain ⟨rfl, rfl⟩ := Prod.mk.inj (Option.some.inj hf)
        exact klret F hX hr hlocks rfl (kd dtX12_element_0 42 rfl)
    · have hf := kif_pos hc hf
      refine lv_iload_n hx hb (kd dtX12_element_0 12 rfl) rfl (lv_at hl 2 rfl) ?_
      refine lv_i2l (v := x2.toInt64) hx hb (kd dtX12_element_0 13 rfl) rfl ?_
      refine lv_lconst (v := (0 : Int64)) hx hb (kd dtX12_element_0 14 rfl) (by decide) ?_
      refine lv_aload_n hx hb (kd dtX12_element_0 15 rfl) rfl (lv_at hl 0 rfl) ?_
      refine rgetA (n := 6) (j := 6) hB (by decide) rfl F hX wfX12_28 (by decide) rfl (kd dtX12_element_0 16 rfl) ?_
      refine lv_iload_n hx hb (kd dtX12_element_0 17 rfl) rfl (lv_at hl 1 rfl) ?_
      obtain ⟨v6, hv6, hf⟩ := kbind hf
      refine rald hB (by decide) hv6 F hX (kd dtX12_element_0 18 rfl) ?_
      refine lv_iconst (v := (1 : Int32)) hx hb (kd dtX12_element_0 19 rfl) (by decide) ?_
      refine lv_isub hx hb (kd dtX12_element_0 20 rfl) ?_
      refine lv_i2l (v := (v6 - (1 : Int32)).toInt64) hx hb (kd dtX12_element_0 21 rfl) rfl ?_
      obtain ⟨v8, h7, hf⟩ := kbind hf
      refine kcallS (n := 3) [.long x2.toInt64, .long (0 : Int64), .long ((v6 - (1 : Int32)).toInt64)] [.ref h0] [.int v8, .ref h0] (rX12_isIn l D aC (rWo h0 wB w) h7) F hml hX hZ hl.1 mwX12_isIn wmX12_65 (by decide +kernel) ⟨(by decide), (by decide)⟩ rfl rfl rfl (Nat.le_of_ble_eq_true rfl) (kd dtX12_element_0 22 rfl) ⟨Nat.zero_le _, Nat.zero_le _⟩ (fun H locs hX => ?_)
      refine lv_if_ne (tgt := 44) hx hb (kd dtX12_element_0 23 rfl) (by decide) (fun hc => ?_) (fun hc => ?_)
      · have hf := kif_neg hc hf
        refine lv_iconst (v := (0 : Int32)) hx hb (kd dtX12_element_0 26 rfl) (by decide) ?_
        obtain ⟨w9, hw9, hf⟩ := kbind hf
        refine rputF hw9 hB F hX wfX12_61 (by decide) rfl rfl rfl rfl (kd dtX12_element_0 27 rfl) (fun H locs hX => ?_)
        refine lv_aload_n hx hb (kd dtX12_element_0 28 rfl) rfl (lv_at hl 0 rfl) ?_
        refine rgetF (j := 11) hB F hX wfX12_61 (by decide) rfl (kd dtX12_element_0 29 rfl) ?_
        refine lv_if_ne (tgt := 70) hx hb (kd dtX12_element_0 30 rfl) (by decide) (fun hc => ?_) (fun hc => ?_)
        · have hf := kif_neg hc hf
          refine lv_lconst (v := (0 : Int64)) hx hb (kd dtX12_element_0 41 rfl) (by decide) ?_
          obtain ⟨rfl, rfl⟩ := Prod.mk.inj (Option.some.inj hf)
          exact klret F hX hr hlocks rfl (kd dtX12_element_0 42 rfl)
        · have hf := kif_pos hc hf
          refine lv_aload_n hx hb (kd dtX12_element_0 31 rfl) rfl (lv_at hl 0 rfl) ?_
          refine rgetA (n := 7) (j := 7) hB (by decide) rfl F hX wfX12_31 (by decide) rfl (kd dtX12_element_0 32 rfl) ?_
          refine lv_bipush (v := (120 : Int32)) hx hb (kd dtX12_element_0 33 rfl) (by decide) ?_
          refine lv_iload_n hx hb (kd dtX12_element_0 34 rfl) rfl (lv_at hl 1 rfl) ?_
          refine lv_imul hx hb (kd dtX12_element_0 35 rfl) ?_
          refine lv_iload_n hx hb (kd dtX12_element_0 36 rfl) rfl (lv_at hl 2 rfl) ?_
          refine lv_iadd hx hb (kd dtX12_element_0 37 rfl) ?_
          obtain ⟨v10, hv10, hf⟩ := kbind hf
          refine rald hB (by decide) hv10 F hX (kd dtX12_element_0 38 rfl) ?_
          refine lv_i2l (v := v10.toInt64) hx hb (kd dtX12_element_0 39 rfl) rfl ?_
          refine lv_goto (tgt := 71) hx hb (kd dtX12_element_0 40 rfl) (by decide) ?_
          obtain ⟨rfl, rfl⟩ := Prod.mk.inj (Option.some.inj hf)
          exact klret F hX hr hlocks rfl (kd dtX12_element_0 42 rfl)
      · have hf := kif_pos hc hf
        refine lv_iconst (v := (2 : Int32)) hx hb (kd dtX12_element_0 24 rfl) (by decide) ?_
        refine lv_goto (tgt := 45) hx hb (kd dtX12_element_0 25 rfl) (by decide) ?_
        obtain ⟨w11, hw11, hf⟩ := kbind hf
        refine rputF hw11 hB F hX wfX12_61 (by decide) rfl rfl rfl rfl (kd dtX12_element_0 27 rfl) (fun H locs hX => ?_)
        refine lv_aload_n hx hb (kd dtX12_element_0 28 rfl) rfl (lv_at hl 0 rfl) ?_
        refine rgetF (j := 11) hB F hX wfX12_61 (by decide) rfl (kd dtX12_element_0 29 rfl) ?_
        refine lv_if_ne (tgt := 70) hx hb (kd dtX12_element_0 30 rfl) (by decide) (fun hc => ?_) (fun hc => ?_)
        · have hf := kif_neg hc hf
          refine lv_lconst (v := (0 : Int64)) hx hb (kd dtX12_element_0 41 rfl) (by decide) ?_
          obtain ⟨rfl, rfl⟩ := Prod.mk.inj (Option.some.inj hf)
          exact klret F hX hr hlocks rfl (kd dtX12_element_0 42 rfl)
        · have hf := kif_pos hc hf
          refine lv_aload_n hx hb (kd dtX12_element_0 31 rfl) rfl (lv_at hl 0 rfl) ?_
          refine rgetA (n := 7) (j := 7) hB (by decide) rfl F hX wfX12_31 (by decide) rfl (kd dtX12_element_0 32 rfl) ?_
          refine lv_bipush (v := (120 : Int32)) hx hb (kd dtX12_element_0 33 rfl) (by decide) ?_
          refine lv_iload_n hx hb (kd dtX12_element_0 34 rfl) rfl (lv_at hl 1 rfl) ?_
          refine lv_imul hx hb (kd dtX12_element_0 35 rfl) ?_
          refine lv_iload_n hx hb (kd dtX12_element_0 36 rfl) rfl (lv_at hl 2 rfl) ?_
          refine lv_iadd hx hb (kd dtX12_element_0 37 rfl) ?_
          obtain ⟨v12, hv12, hf⟩ := kbind hf
          refine rald hB (by decide) hv12 F hX (kd dtX12_element_0 38 rfl) ?_
          refine lv_i2l (v := v12.toInt64) hx hb (kd dtX12_element_0 39 rfl) rfl ?_
          refine lv_goto (tgt := 71) hx hb (kd dtX12_element_0 40 rfl) (by decide) ?_
          obtain ⟨rfl, rfl⟩ := Prod.mk.inj (Option.some.inj hf)
          exact klret F hX hr hlocks rfl (kd dtX12_element_0 42 rfl)
  · have hf := kif_pos hc hf
    refine lv_iconst (v := (1 : Int32)) hx hb (kd dtX12_element_0 4 rfl) (by decide) ?_
    refine lv_goto (tgt := 45) hx hb (kd dtX12_element_0 5 rfl) (by decide) ?_
    obtain ⟨w13, hw13, hf⟩ := kbind hf
    refine rputF hw13 hB F hX wfX12_61 (by decide) rfl rfl rfl rfl (kd dtX12_element_0 27 rfl) (fun H locs hX => ?_)
    refine lv_aload_n hx hb (kd dtX12_element_0 28 rfl) rfl (lv_at hl 0 rfl) ?_
    refine rgetF (j := 11) hB F hX wfX12_61 (by decide) rfl (kd dtX12_element_0 29 rfl) ?_
    refine lv_if_ne (tgt := 70) hx hb (kd dtX12_element_0 30 rfl) (by decide) (fun hc => ?_) (fun hc => ?_)
    · have hf := kif_neg hc hf
      refine lv_lconst (v := (0 : Int64)) hx hb (kd dtX12_element_0 41 rfl) (by decide) ?_
      obtain ⟨rfl, rfl⟩ := Prod.mk.inj (Option.some.inj hf)
      exact klret F hX hr hlocks rfl (kd dtX12_element_0 42 rfl)
    · have hf := kif_pos hc hf
      refine lv_aload_n hx hb (kd dtX12_element_0 31 rfl) rfl (lv_at hl 0 rfl) ?_
      refine rgetA (n := 7) (j := 7) hB (by decide) rfl F hX wfX12_31 (by decide) rfl (kd dtX12_element_0 32 rfl) ?_
      refine lv_bipush (v := (120 : Int32)) hx hb (kd dtX12_element_0 33 rfl) (by decide) ?_
      refine lv_iload_n hx hb (kd dtX12_element_0 34 rfl) rfl (lv_at hl 1 rfl) ?_
      refine lv_imul hx hb (kd dtX12_element_0 35 rfl) ?_
      refine lv_iload_n hx hb (kd dtX12_element_0 36 rfl) rfl (lv_at hl 2 rfl) ?_
      refine lv_iadd hx hb (kd dtX12_element_0 37 rfl) ?_
      obtain ⟨v14, hv14, hf⟩ := kbind hf
      refine rald hB (by decide) hv14 F hX (kd dtX12_element_0 38 rfl) ?_
      refine lv_i2l (v := v14.toInt64) hx hb (kd dtX12_element_0 39 rfl) rfl ?_
      refine lv_goto (tgt := 71) hx hb (kd dtX12_element_0 40 rfl) (by decide) ?_
      obtain ⟨rfl, rfl⟩ := Prod.mk.inj (Option.some.inj hf)
      exact klret F hX hr hlocks rfl (kd dtX12_element_0 42 rfl)
def lX12_copy_0 : List (Nat × Instr × Nat) := [(0, .iload_n 1, 1), (1, .invokestatic 118, 3), (4, .ifCond .eq 10, 3), (7, .iload_n 3, 1), (8, .invokestatic 118, 3), (11, .ifCond .ne 5, 3), (14, .iconst (-1), 1), (15, .ireturn, 1), (16, .aload_n 0, 1), (17, .getfield 22, 3), (20, .iload_n 1, 1), (21, .iaload, 1), (22, .ifCond .eq 12, 3), (25, .aload_n 0, 1), (26, .getfield 22, 3), (29, .iload_n 3, 1), (30, .iaload, 1), (31, .ifCond .ne 6, 3), (34, .bipush (-11), 2), (36, .ireturn, 1), (37, .aload_n 0, 1), (38, .getfield 22, 3), (41, .iload_n 1, 1), (42, .iaload, 1), (43, .iconst 2, 1), (44, .if_icmp .ne 28, 3), (47, .aload_n 0, 1), (48, .getfield 22, 3), (51, .iload_n 3, 1), (52, .iaload, 1), (53, .iconst 2, 1), (54, .if_icmp .ne 18, 3), (57, .aload_n 0, 1), (58, .getfield 25, 3), (61, .iload_n 1, 1), (62, .iaload, 1), (63, .aload_n 0, 1), (64, .getfield 25, 3), (67, .iload_n 3, 1), (68, .iaload, 1), (69, .if_icmp .eq 6, 3), (72, .bipush (-12), 2), (74, .ireturn, 1), (75, .iload 5, 2), (77, .ifCond .lt 39, 3), (80, .iload_n 2, 1), (81, .ifCond .lt 35, 3), (84, .iload 4, 2), (86, .ifCond .lt 30, 3), (89, .iload 5, 2), (91, .aload_n 0, 1), (92, .getfield 28, 3), (95, .iload_n 1, 1), (96, .iaload, 1), (97, .iload_n 2, 1), (98, .isub, 1), (99, .if_icmp .gt 17, 3), (102, .iload 5, 2), (104, .aload_n 0, 1), (105, .getfield 28, 3), (108, .iload_n 3, 1), (109, .iaload, 1), (110, .iload 4, 2), (112, .isub, 1), (113, .if_icmp .le 6, 3), (116, .bipush (-13), 2), (118, .ireturn, 1), (119, .iconst 0, 1), (120, .istore 6, 2), (122, .iload 6, 2), (124, .iload 5, 2), (126, .if_icmp .ge 58, 3), (129, .iload_n 2, 1), (130, .iload 4, 2), (132, .if_icmp .le 8, 3), (135, .iload 6, 2), (137, .goto 10, 3), (140, .iload 5, 2), (142, .iconst 1, 1), (143, .isub, 1)]
theorem dtX12_copy_0 : kDec cX12_copy lX12_copy_0 = true := by decide +kernel
def lX12_copy_1 : List (Nat × Instr × Nat) := [(144, .iload 6, 2), (146, .isub, 1), (147, .istore 7, 2), (149, .aload_n 0, 1), (150, .getfield 31, 3), (153, .bipush 120, 2), (155, .iload_n 3, 1), (156, .imul, 1), (157, .iload 4, 2), (159, .iadd, 1), (160, .iload 7, 2), (162, .iadd, 1), (163, .aload_n 0, 1), (164, .getfield 31, 3), (167, .bipush 120, 2), (169, .iload_n 1, 1), (170, .imul, 1), (171, .iload_n 2, 1), (172, .iadd, 1), (173, .iload 7, 2), (175, .iadd, 1), (176, .iaload, 1), (177, .iastore, 1), (178, .iinc 6 1, 3), (181, .goto (-59), 3), (184, .iload 5, 2), (186, .ireturn, 1)]
theorem dtX12_copy_1 : kDec cX12_copy lX12_copy_1 = true := by decide +kernel
noncomputable def fX12_copy_J122_147 (b k : Int32 → rW → Option (Int32 × rW)) (x1 : Int32) (x2 : Int32) (x3 : Int32) (x4 : Int32) (x5 : Int32) (x6 : Int32) (s0 : Int32) (w : rW) : Option (Int32 × rW) :=
  (raI w 7 960 ((((120 : Int32) * x1) + x2) + s0)).bind fun v1 =>
  (rsI w 7 960 ((((120 : Int32) * x3) + x4) + s0) v1).bind fun w2 =>
  b (x6 + (1 : Int32)) w2

noncomputable def fX12_copy_L122 (x1 : Int32) (x2 : Int32) (x3 : Int32) (x4 : Int32) (x5 : Int32) : Nat → (Int32 → rW → Option (Int32 × rW)) → Int32 → rW → Option (Int32 × rW)
  | 0, _, _, _ => none
  | n + 1, k, x6, w =>
  if x5 ≤ x6 then
  k x6 w
  else
  if x2 ≤ x4 then
  fX12_copy_J122_147 (fun q6 qw => fX12_copy_L122 x1 x2 x3 x4 x5 n k q6 qw) k x1 x2 x3 x4 x5 x6 ((x5 - (1 : Int32)) - x6) w
  else
  fX12_copy_J122_147 (fun q6 qw => fX12_copy_L122 x1 x2 x3 x4 x5 n k q6 qw) k x1 x2 x3 x4 x5 x6 x6 w

noncomputable def fX12_copy (x1 : Int32) (x2 : Int32) (x3 : Int32) (x4 : Int32) (x5 : Int32) (w : rW) : Option (Int32 × rW) :=
  (fX12_isShelf x1).bind fun v2 =>
  if v2 = 0 then
  some ((-1 : Int32), w)
  else
  (fX12_isShelf x3).bind fun v4 =>
  if v4 = 0 then
  some ((-1 : Int32), w)
  else
  (raI w 4 8 x1).bind fun v5 =>
  if v5 = 0 then
  some ((-11 : Int32), w)
  else
  (raI w 4 8 x3).bind fun v6 =>
  if v6 = 0 then
  some ((-11 : Int32), w)
  else
  (raI w 4 8 x1).bind fun v7 =>
  if v7 = (2 : Int32) then
  (raI w 4 8 x3).bind fun v8 =>
  if v8 = (2 : Int32) then
  (raI w 5 8 x1).bind fun v9 =>
  (raI w 5 8 x3).bind fun v10 =>
  if v9 = v10 then
  if x5 < 0 then
  some ((-13 : Int32), w)
  else
  if x2 < 0 then
  some ((-13 : Int32), w)
  else
  if x4 < 0 then
  some ((-13 : Int32), w)
  else
  (raI w 6 8 x1).bind fun v11 =>
  if (v11 - x2) < x5 then
  some ((-13 : Int32), w)
  else
  (raI w 6 8 x3).bind fun v12 =>
  if x5 ≤ (v12 - x4) then
  fX12_copy_L122 x1 x2 x3 x4 x5 kFU (fun y6_13 w14 => some (x5, w14)) (0 : Int32) w
  else
  some ((-13 : Int32), w)
  else
  some ((-12 : Int32), w)
  else
  some ((-12 : Int32), w)
  else
  some ((-12 : Int32), w)

set_option maxHeartbeats 4000000 in
set_option maxRecDepth 100000 in
theorem rX12_copy (l : Launch) (D : va_G) (aC : Nat → ClassId) {h0 : Nat} {wB : kW} (hB : rOK h0 wB) {x1 : Int32} {x2 : Int32} {x3 : Int32} {x4 : Int32} {x5 : Int32} {w : rW} {wR : rW} {oR : Int32} (h : fX12_copy x1 x2 x3 x4 x5 w = some (oR, wR)) : kC l D aC yX12_copy cX12_copy 8 (some .int) 3 57 [.ref h0, .int x1, .int x2, .int x3, .int x4, .int x5] (rWo h0 wB w) (some (.int oR)) (rWo h0 wB wR) 0 0 := by
  refine kOf (own := RX12) (by decide) rfl (Nat.le_of_ble_eq_true rfl) ?_
  intro p e s m below meth c ls F hml hr hlocks hnm hX hZ hl
  obtain ⟨hx, hb, hts, hown, hK⟩ := id F
  have hl : lv_has ls 8 [(0, .ref h0), (1, .int x1), (2, .int x2), (3, .int x3), (4, .int x4), (5, .int x5)] := hl
  have hf := h
  rw [fX12_copy] at hf
  refine lv_iload_n hx hb (kd dtX12_copy_0 0 rfl) rfl (lv_at hl 1 rfl) ?_
  obtain ⟨v2, h1, hf⟩ := kbind hf
  refine kcallS (n := 1) [.int x1] [] [.int v2] (rX12_isShelf l D aC (rWo h0 wB w) h1) F hml hX hZ hl.1 mwX12_isShelf wmX12_118 (by decide +kernel) ⟨(by decide), (by decide)⟩ rfl rfl rfl (Nat.le_of_ble_eq_true rfl) (kd dtX12_copy_0 1 rfl) ⟨Nat.zero_le _, Nat.zero_le _⟩ (fun H locs hX => ?_)
  refine lv_if_eq (tgt := 14) hx hb (kd dtX12_copy_0 2 rfl) (by decide) (fun hc => ?_) (fun hc => ?_)
  · have hf := kif_pos hc hf
    refine lv_iconst (v := (-1 : Int32)) hx hb (kd dtX12_copy_0 6 rfl) (by decide) ?_
    obtain ⟨rfl, rfl⟩ := Prod.mk.inj (Option.some.inj hf)
    exact kiret F hX hr hlocks rfl (kd dtX12_copy_0 7 rfl)
  · have hf := kif_neg hc hf
    refine lv_iload_n hx hb (kd dtX12_copy_0 3 rfl) rfl (lv_at hl 3 rfl) ?_
    obtain ⟨v4, h3, hf⟩ := kbind hf
    refine kcallS (n := 1) [.int x3] [] [.int v4] (rX12_isShelf l D aC (rWo h0 wB w) h3) F hml hX hZ hl.1 mwX12_isShelf wmX12_118 (by decide +kernel) ⟨(by decide), (by decide)⟩ rfl rfl rfl (Nat.le_of_ble_eq_true rfl) (kd dtX12_copy_0 4 rfl) ⟨Nat.zero_le _, Nat.zero_le _⟩ (fun H locs hX => ?_)
    refine lv_if_ne (tgt := 16) hx hb (kd dtX12_copy_0 5 rfl) (by decide) (fun hc => ?_) (fun hc => ?_)
    · have hf := kif_neg hc hf
      refine lv_aload_n hx hb (kd dtX12_copy_0 8 rfl) rfl (lv_at hl 0 rfl) ?_
      refine rgetA (n := 4) (j := 4) hB (by decide) rfl F hX wfX12_22 (by decide) rfl (kd dtX12_copy_0 9 rfl) ?_
      refine lv_iload_n hx hb (kd dtX12_copy_0 10 rfl) rfl (lv_at hl 1 rfl) ?_
      obtain ⟨v5, hv5, hf⟩ := kbind hf
      refine rald hB (by decide) hv5 F hX (kd dtX12_copy_0 11 rfl) ?_
      refine lv_if_eq (tgt := 34) hx hb (kd dtX12_copy_0 12 rfl) (by decide) (fun hc => ?_) (fun hc => ?_)
      · have hf := kif_pos hc hf
        refine lv_bipush (v := (-11 : Int32)) hx hb (kd dtX12_copy_0 18 rfl) (by decide) ?_
        obtain ⟨rfl, rfl⟩ := Prod.mk.inj (Option.some.inj hf)
        exact kiret F hX hr hlocks rfl (kd dtX12_copy_0 19 rfl)
      · have hf := kif_neg hc hf
        refine lv_aload_n hx hb (kd dtX12_copy_0 13 rfl) rfl (lv_at hl 0 rfl) ?_
        refine rgetA (n := 4) (j := 4) hB (by decide) rfl F hX wfX12_22 (by decide) rfl (kd dtX12_copy_0 14 rfl) ?_
        refine lv_iload_n hx hb (kd dtX12_copy_0 15 rfl) rfl (lv_at hl 3 rfl) ?_
        obtain ⟨v6, hv6, hf⟩ := kbind hf
        refine rald hB (by decide) hv6 F hX (kd dtX12_copy_0 16 rfl) ?_
        refine lv_if_ne (tgt := 37) hx hb (kd dtX12_copy_0 17 rfl) (by decide) (fun hc => ?_) (fun hc => ?_)
        · have hf := kif_neg hc hf
          refine lv_aload_n hx hb (kd dtX12_copy_0 20 rfl) rfl (lv_at hl 0 rfl) ?_
          refine rgetA (n := 4) (j := 4) hB (by decide) rfl F hX wfX12_22 (by decide) rfl (kd dtX12_copy_0 21 rfl) ?_
          refine lv_iload_n hx hb (kd dtX12_copy_0 22 rfl) rfl (lv_at hl 1 rfl) ?_
          obtain ⟨v7, hv7, hf⟩ := kbind hf
          refine rald hB (by decide) hv7 F hX (kd dtX12_copy_0 23 rfl) ?_
          refine lv_iconst (v := (2 : Int32)) hx hb (kd dtX12_copy_0 24 rfl) (by decide) ?_
          refine lv_icmp_ne (tgt := 72) hx hb (kd dtX12_copy_0 25 rfl) (by decide) (fun hc => ?_) (fun hc => ?_)
          · have hf := kif_neg hc hf
            refine lv_bipush (v := (-12 : Int32)) hx hb (kd dtX12_copy_0 41 rfl) (by decide) ?_
            obtain ⟨rfl, rfl⟩ := Prod.mk.inj (Option.some.inj hf)
            exact kiret F hX hr hlocks rfl (kd dtX12_copy_0 42 rfl)
          · have hf := kif_pos hc hf
            refine lv_aload_n hx hb (kd dtX12_copy_0 26 rfl) rfl (lv_at hl 0 rfl) ?_
            refine rgetA (n := 4) (j := 4) hB (by decide) rfl F hX wfX12_22 (by decide) rfl (kd dtX12_copy_0 27 rfl) ?_
            refine lv_iload_n hx hb (kd dtX12_copy_0 28 rfl) rfl (lv_at hl 3 rfl) ?_
            obtain ⟨v8, hv8, hf⟩ := kbind hf
            refine rald hB (by decide) hv8 F hX (kd dtX12_copy_0 29 rfl) ?_
            refine lv_iconst (v := (2 : Int32)) hx hb (kd dtX12_copy_0 30 rfl) (by decide) ?_
            refine lv_icmp_ne (tgt := 72) hx hb (kd dtX12_copy_0 31 rfl) (by decide) (fun hc => ?_) (fun hc => ?_)
            · have hf := kif_neg hc hf
              refine lv_bipush (v := (-12 : Int32)) hx hb (kd dtX12_copy_0 41 rfl) (by decide) ?_
              obtain ⟨rfl, rfl⟩ := Prod.mk.inj (Option.some.inj hf)
              exact kiret F hX hr hlocks rfl (kd dtX12_copy_0 42 rfl)
            · have hf := kif_pos hc hf
              refine lv_aload_n hx hb (kd dtX12_copy_0 32 rfl) rfl (lv_at hl 0 rfl) ?_
              refine rgetA (n := 5) (j := 5) hB (by decide) rfl F hX wfX12_25 (by decide) rfl (kd dtX12_copy_0 33 rfl) ?_
              refine lv_iload_n hx hb (kd dtX12_copy_0 34 rfl) rfl (lv_at hl 1 rfl) ?_
              obtain ⟨v9, hv9, hf⟩ := kbind hf
              refine rald hB (by decide) hv9 F hX (kd dtX12_copy_0 35 rfl) ?_
              refine lv_aload_n hx hb (kd dtX12_copy_0 36 rfl) rfl (lv_at hl 0 rfl) ?_
              refine rgetA (n := 5) (j := 5) hB (by decide) rfl F hX wfX12_25 (by decide) rfl (kd dtX12_copy_0 37 rfl) ?_
              refine lv_iload_n hx hb (kd dtX12_copy_0 38 rfl) rfl (lv_at hl 3 rfl) ?_
              obtain ⟨v10, hv10, hf⟩ := kbind hf
              refine rald hB (by decide) hv10 F hX (kd dtX12_copy_0 39 rfl) ?_
              refine lv_icmp_eq (tgt := 75) hx hb (kd dtX12_copy_0 40 rfl) (by decide) (fun hc => ?_) (fun hc => ?_)
              · have hf := kif_pos hc hf
                refine lv_iload hx hb (kd dtX12_copy_0 43 rfl) (lv_at hl 5 rfl) ?_
                refine lv_if_lt (tgt := 116) hx hb (kd dtX12_copy_0 44 rfl) (by decide) (fun hc => ?_) (fun hc => ?_)
                · have hf := kif_pos hc hf
                  refine lv_bipush (v := (-13 : Int32)) hx hb (kd dtX12_copy_0 65 rfl) (by decide) ?_
                  obtain ⟨rfl, rfl⟩ := Prod.mk.inj (Option.some.inj hf)
                  exact kiret F hX hr hlocks rfl (kd dtX12_copy_0 66 rfl)
                · have hf := kif_neg hc hf
                  refine lv_iload_n hx hb (kd dtX12_copy_0 45 rfl) rfl (lv_at hl 2 rfl) ?_
                  refine lv_if_lt (tgt := 116) hx hb (kd dtX12_copy_0 46 rfl) (by decide) (fun hc => ?_) (fun hc => ?_)
                  · have hf := kif_pos hc hf
                    refine lv_bipush (v := (-13 : Int32)) hx hb (kd dtX12_copy_0 65 rfl) (by decide) ?_
                    obtain ⟨rfl, rfl⟩ := Prod.mk.inj (Option.some.inj hf)
                    exact kiret F hX hr hlocks rfl (kd dtX12_copy_0 66 rfl)
                  · have hf := kif_neg hc hf
                    refine lv_iload hx hb (kd dtX12_copy_0 47 rfl) (lv_at hl 4 rfl) ?_
                    refine lv_if_lt (tgt := 116) hx hb (kd dtX12_copy_0 48 rfl) (by decide) (fun hc => ?_) (fun hc => ?_)
                    · have hf := kif_pos hc hf
                      refine lv_bipush (v := (-13 : Int32)) hx hb (kd dtX12_copy_0 65 rfl) (by decide) ?_
                      obtain ⟨rfl, rfl⟩ := Prod.mk.inj (Option.some.inj hf)
                      exact kiret F hX hr hlocks rfl (kd dtX12_copy_0 66 rfl)
                    · have hf := kif_neg hc hf
                      refine lv_iload hx hb (kd dtX12_copy_0 49 rfl) (lv_at hl 5 rfl) ?_
                      refine lv_aload_n hx hb (kd dtX12_copy_0 50 rfl) rfl (lv_at hl 0 rfl) ?_
                      refine rgetA (n := 6) (j := 6) hB (by decide) rfl F hX wfX12_28 (by decide) rfl (kd dtX12_copy_0 51 rfl) ?_
                      refine lv_iload_n hx hb (kd dtX12_copy_0 52 rfl) rfl (lv_at hl 1 rfl) ?_
                      obtain ⟨v11, hv11, hf⟩ := kbind hf
                      refine rald hB (by decide) hv11 F hX (kd dtX12_copy_0 53 rfl) ?_
                      refine lv_iload_n hx hb (kd dtX12_copy_0 54 rfl) rfl (lv_at hl 2 rfl) ?_
                      refine lv_isub hx hb (kd dtX12_copy_0 55 rfl) ?_
                      refine lv_icmp_gt (tgt := 116) hx hb (kd dtX12_copy_0 56 rfl) (by decide) (fun hc => ?_) (fun hc => ?_)
                      · have hf := kif_pos hc hf
                        refine lv_bipush (v := (-13 : Int32)) hx hb (kd dtX12_copy_0 65 rfl) (by decide) ?_
                        obtain ⟨rfl, rfl⟩ := Prod.mk.inj (Option.some.inj hf)
                        exact kiret F hX hr hlocks rfl (kd dtX12_copy_0 66 rfl)
                      · have hf := kif_neg hc hf
                        refine lv_iload hx hb (kd dtX12_copy_0 57 rfl) (lv_at hl 5 rfl) ?_
                        refine lv_aload_n hx hb (kd dtX12_copy_0 58 rfl) rfl (lv_at hl 0 rfl) ?_
                        refine rgetA (n := 6) (j := 6) hB (by decide) rfl F hX wfX12_28 (by decide) rfl (kd dtX12_copy_0 59 rfl) ?_
                        refine lv_iload_n hx hb (kd dtX12_copy_0 60 rfl) rfl (lv_at hl 3 rfl) ?_
                        obtain ⟨v12, hv12, hf⟩ := kbind hf
                        refine rald hB (by decide) hv12 F hX (kd dtX12_copy_0 61 rfl) ?_
                        refine lv_iload hx hb (kd dtX12_copy_0 62 rfl) (lv_at hl 4 rfl) ?_
                        refine lv_isub hx hb (kd dtX12_copy_0 63 rfl) ?_
                        refine lv_icmp_le (tgt := 119) hx hb (kd dtX12_copy_0 64 rfl) (by decide) (fun hc => ?_) (fun hc => ?_)
                        · have hf := kif_pos hc hf
                          refine lv_iconst (v := (0 : Int32)) hx hb (kd dtX12_copy_0 67 rfl) (by decide) ?_
                          refine lv_istore (lv' := [(6, .int (0 : Int32)), (0, .ref h0), (1, .int x1), (2, .int x2), (3, .int x3), (4, .int x4), (5, .int x5)]) hx hb (kd dtX12_copy_0 68 rfl) hl (by decide) rfl (fun ls hl => ?_)
                          have hL122 : ∀ (n : Nat) (k : Int32 → rW → Option (Int32 × rW)), ∀ (z6_122 : Int32) (w_122 : rW) (H : Heap) (locs : List Loc) (ls : Array Slot), kX D aC (rWo h0 wB w) s.heap (rWo h0 wB w_122) H locs → lv_has ls 8 [(0, .ref h0), (1, .int x1), (2, .int x2), (3, .int x3), (4, .int x4), (5, .int x5), (6, .int z6_122)] → fX12_copy_L122 x1 x2 x3 x4 x5 n k z6_122 w_122 = some (oR, wR) → (∀ (z6_122 : Int32) (w_122 : rW) (H : Heap) (locs : List Loc) (ls : Array Slot), kX D aC (rWo h0 wB w) s.heap (rWo h0 wB w_122) H locs → lv_has ls 8 [(0, .ref h0), (1, .int x1), (2, .int x2), (3, .int x3), (4, .int x4), (5, .int x5), (6, .int z6_122)] → k z6_122 w_122 = some (oR, wR) → W p l e { frames := 3, cells := 0, slots := 0, locals := 57 } s m ([.ref h0, .int x1, .int x2, .int x3, .int x4, .int x5] : List Value).toArray below meth c H locs 0 0 (MQ below (kQc D aC (rWo h0 wB w) (some (.int oR)) (rWo h0 wB wR)) ([.ref h0, .int x1, .int x2, .int x3, .int x4, .int x5] : List Value).toArray s 0 0 (kA (rWo h0 wB w))) (F0 m 184 ls [])) → W p l e { frames := 3, cells := 0, slots := 0, locals := 57 } s m ([.ref h0, .int x1, .int x2, .int x3, .int x4, .int x5] : List Value).toArray below meth c H locs 0 0 (MQ below (kQc D aC (rWo h0 wB w) (some (.int oR)) (rWo h0 wB wR)) ([.ref h0, .int x1, .int x2, .int x3, .int x4, .int x5] : List Value).toArray s 0 0 (kA (rWo h0 wB w))) (F0 m 122 ls []) := by
                            intro n k
                            induction n with
                            | zero =>
                              intro z6_122 w_122 H locs ls hX hl hf hk
                              rw [fX12_copy_L122] at hf
                              cases hf
                            | succ n ih =>
                              intro z6_122 w_122 H locs ls hX hl hf hk
                              have hJ122_147 : ∀ (j6_147 : Int32) (t0_147 : Int32) (w_j147 : rW) (H : Heap) (locs : List Loc) (ls : Array Slot), kX D aC (rWo h0 wB w) s.heap (rWo h0 wB w_j147) H locs → lv_has ls 8 [(0, .ref h0), (1, .int x1), (2, .int x2), (3, .int x3), (4, .int x4), (5, .int x5), (6, .int j6_147)] → fX12_copy_J122_147 (fun q6 qw => fX12_copy_L122 x1 x2 x3 x4 x5 n k q6 qw) k x1 x2 x3 x4 x5 j6_147 t0_147 w_j147 = some (oR, wR) → W p l e { frames := 3, cells := 0, slots := 0, locals := 57 } s m ([.ref h0, .int x1, .int x2, .int x3, .int x4, .int x5] : List Value).toArray below meth c H locs 0 0 (MQ below (kQc D aC (rWo h0 wB w) (some (.int oR)) (rWo h0 wB wR)) ([.ref h0, .int x1, .int x2, .int x3, .int x4, .int x5] : List Value).toArray s 0 0 (kA (rWo h0 wB w))) (F0 m 147 ls [.int t0_147]) := by
                                intro j6_147 t0_147 w_j147 H locs ls hX hl hf
                                rw [fX12_copy_J122_147] at hf
                                refine lv_istore (lv' := [(7, .int t0_147), (0, .ref h0), (1, .int x1), (2, .int x2), (3, .int x3), (4, .int x4), (5, .int x5), (6, .int j6_147)]) hx hb (kd dtX12_copy_1 2 rfl) hl (by decide) rfl (fun ls hl => ?_)
                                refine lv_aload_n hx hb (kd dtX12_copy_1 3 rfl) rfl (lv_at hl 1 rfl) ?_
                                refine rgetA (n := 7) (j := 7) hB (by decide) rfl F hX wfX12_31 (by decide) rfl (kd dtX12_copy_1 4 rfl) ?_
                                refine lv_bipush (v := (120 : Int32)) hx hb (kd dtX12_copy_1 5 rfl) (by decide) ?_
                                refine lv_iload_n hx hb (kd dtX12_copy_1 6 rfl) rfl (lv_at hl 4 rfl) ?_
                                refine lv_imul hx hb (kd dtX12_copy_1 7 rfl) ?_
                                refine lv_iload hx hb (kd dtX12_copy_1 8 rfl) (lv_at hl 5 rfl) ?_
                                refine lv_iadd hx hb (kd dtX12_copy_1 9 rfl) ?_
                                refine lv_iload hx hb (kd dtX12_copy_1 10 rfl) (lv_at hl 0 rfl) ?_
                                refine lv_iadd hx hb (kd dtX12_copy_1 11 rfl) ?_
                                refine lv_aload_n hx hb (kd dtX12_copy_1 12 rfl) rfl (lv_at hl 1 rfl) ?_
                                refine rgetA (n := 7) (j := 7) hB (by decide) rfl F hX wfX12_31 (by decide) rfl (kd dtX12_copy_1 13 rfl) ?_
                                refine lv_bipush (v := (120 : Int32)) hx hb (kd dtX12_copy_1 14 rfl) (by decide) ?_
                                refine lv_iload_n hx hb (kd dtX12_copy_1 15 rfl) rfl (lv_at hl 2 rfl) ?_
                                refine lv_imul hx hb (kd dtX12_copy_1 16 rfl) ?_
                                refine lv_iload_n hx hb (kd dtX12_copy_1 17 rfl) rfl (lv_at hl 3 rfl) ?_
                                refine lv_iadd hx hb (kd dtX12_copy_1 18 rfl) ?_
                                refine lv_iload hx hb (kd dtX12_copy_1 19 rfl) (lv_at hl 0 rfl) ?_
                                refine lv_iadd hx hb (kd dtX12_copy_1 20 rfl) ?_
                                obtain ⟨v15, hv15, hf⟩ := kbind hf
                                refine rald hB (by decide) hv15 F hX (kd dtX12_copy_1 21 rfl) ?_
                                obtain ⟨w16, hw16, hf⟩ := kbind hf
                                refine rast hB (by decide) hw16 F hX (kd dtX12_copy_1 22 rfl) (fun H locs hX => ?_)
                                refine lv_iinc (v := j6_147 + (1 : Int32)) (lv' := [(6, .int (j6_147 + (1 : Int32))), (7, .int t0_147), (0, .ref h0), (1, .int x1), (2, .int x2), (3, .int x3), (4, .int x4), (5, .int x5)]) hx hb (kd dtX12_copy_1 23 rfl) hl (k := 7) rfl (by rfl) (by decide) rfl (fun ls hl => ?_)
                                refine lv_goto (tgt := 122) hx hb (kd dtX12_copy_1 24 rfl) (by decide) ?_
                                exact ih (j6_147 + (1 : Int32)) w16 _ _ _ hX (lv_sub hl [2, 3, 4, 5, 6, 7, 0] rfl) hf hk
                              rw [fX12_copy_L122] at hf
                              refine lv_iload hx hb (kd dtX12_copy_0 69 rfl) (lv_at hl 6 rfl) ?_
                              refine lv_iload hx hb (kd dtX12_copy_0 70 rfl) (lv_at hl 5 rfl) ?_
                              refine lv_icmp_ge (tgt := 184) hx hb (kd dtX12_copy_0 71 rfl) (by decide) (fun hc => ?_) (fun hc => ?_)
                              · have hf := kif_pos hc hf
                                exact hk z6_122 w_122 _ _ _ hX hl hf
                              · have hf := kif_neg hc hf
                                refine lv_iload_n hx hb (kd dtX12_copy_0 72 rfl) rfl (lv_at hl 2 rfl) ?_
                                refine lv_iload hx hb (kd dtX12_copy_0 73 rfl) (lv_at hl 4 rfl) ?_
                                refine lv_icmp_le (tgt := 140) hx hb (kd dtX12_copy_0 74 rfl) (by decide) (fun hc => ?_) (fun hc => ?_)
                                · have hf := kif_pos hc hf
                                  refine lv_iload hx hb (kd dtX12_copy_0 77 rfl) (lv_at hl 5 rfl) ?_
                                  refine lv_iconst (v := (1 : Int32)) hx hb (kd dtX12_copy_0 78 rfl) (by decide) ?_
                                  refine lv_isub hx hb (kd dtX12_copy_0 79 rfl) ?_
                                  refine lv_iload hx hb (kd dtX12_copy_1 0 rfl) (lv_at hl 6 rfl) ?_
                                  refine lv_isub hx hb (kd dtX12_copy_1 1 rfl) ?_
                                  exact hJ122_147 z6_122 ((x5 - (1 : Int32)) - z6_122) w_122 _ _ _ hX hl hf
                                · have hf := kif_neg hc hf
                                  refine lv_iload hx hb (kd dtX12_copy_0 75 rfl) (lv_at hl 6 rfl) ?_
                                  refine lv_goto (tgt := 147) hx hb (kd dtX12_copy_0 76 rfl) (by decide) ?_
                                  exact hJ122_147 z6_122 z6_122 w_122 _ _ _ hX hl hf
                          refine hL122 kFU _ (0 : Int32) w _ _ _ hX (lv_sub hl [1, 2, 3, 4, 5, 6, 0] rfl) hf ?_
                          intro y6_13 w14 H locs ls hX hl hf
                          refine lv_iload hx hb (kd dtX12_copy_1 25 rfl) (lv_at hl 5 rfl) ?_
                          obtain ⟨rfl, rfl⟩ := Prod.mk.inj (Option.some.inj hf)
                          exact kiret F hX hr hlocks rfl (kd dtX12_copy_1 26 rfl)
                        · have hf := kif_neg hc hf
                          refine lv_bipush (v := (-13 : Int32)) hx hb (kd dtX12_copy_0 65 rfl) (by decide) ?_
                          obtain ⟨rfl, rfl⟩ := Prod.mk.inj (Option.some.inj hf)
                          exact kiret F hX hr hlocks rfl (kd dtX12_copy_0 66 rfl)
              · have hf := kif_neg hc hf
                refine lv_bipush (v := (-12 : Int32)) hx hb (kd dtX12_copy_0 41 rfl) (by decide) ?_
                obtain ⟨rfl, rfl⟩ := Prod.mk.inj (Option.some.inj hf)
                exact kiret F hX hr hlocks rfl (kd dtX12_copy_0 42 rfl)
        · have hf := kif_pos hc hf
          refine lv_bipush (v := (-11 : Int32)) hx hb (kd dtX12_copy_0 18 rfl) (by decide) ?_
          obtain ⟨rfl, rfl⟩ := Prod.mk.inj (Option.some.inj hf)
          exact kiret F hX hr hlocks rfl (kd dtX12_copy_0 19 rfl)
    · have hf := kif_pos hc hf
      refine lv_iconst (v := (-1 : Int32)) hx hb (kd dtX12_copy_0 6 rfl) (by decide) ?_
      obtain ⟨rfl, rfl⟩ := Prod.mk.inj (Option.some.inj hf)
      exact kiret F hX hr hlocks rfl (kd dtX12_copy_0 7 rfl)
def lX12_wrongKept_0 : List (Nat × Instr × Nat) := [(0, .iload_n 1, 1), (1, .invokestatic 118, 3), (4, .ifCond .ne 7, 3), (7, .iconst (-1), 1), (8, .goto 33, 3), (11, .aload_n 0, 1), (12, .getfield 22, 3), (15, .iload_n 1, 1), (16, .iaload, 1), (17, .ifCond .ne 8, 3), (20, .bipush (-11), 2), (22, .goto 19, 3), (25, .aload_n 0, 1), (26, .getfield 22, 3), (29, .iload_n 1, 1), (30, .iaload, 1), (31, .iconst 1, 1), (32, .if_icmp .ne 7, 3), (35, .iconst 0, 1), (36, .goto 5, 3), (39, .bipush (-12), 2), (41, .ireturn, 1)]
theorem dtX12_wrongKept_0 : kDec cX12_wrongKept lX12_wrongKept_0 = true := by decide +kernel
noncomputable def fX12_wrongKept (x1 : Int32) (w : rW) : Option Int32 :=
  (fX12_isShelf x1).bind fun v2 =>
  if v2 = 0 then
  some (-1 : Int32)
  else
  (raI w 4 8 x1).bind fun v3 =>
  if v3 = 0 then
  some (-11 : Int32)
  else
  (raI w 4 8 x1).bind fun v4 =>
  if v4 = (1 : Int32) then
  some (0 : Int32)
  else
  some (-12 : Int32)

set_option maxHeartbeats 4000000 in
set_option maxRecDepth 100000 in
theorem rX12_wrongKept (l : Launch) (D : va_G) (aC : Nat → ClassId) {h0 : Nat} {wB : kW} (hB : rOK h0 wB) {x1 : Int32} {w : rW} {oR : Int32} (h : fX12_wrongKept x1 w = some oR) : kC l D aC yX12_wrongKept cX12_wrongKept 2 (some .int) 3 57 [.ref h0, .int x1] (rWo h0 wB w) (some (.int oR)) (rWo h0 wB w) 0 0 := by
  refine kOf (own := RX12) (by decide) rfl (Nat.le_of_ble_eq_true rfl) ?_
  intro p e s m below meth c ls F hml hr hlocks hnm hX hZ hl
  obtain ⟨hx, hb, hts, hown, hK⟩ := id F
  have hl : lv_has ls 2 [(0, .ref h0), (1, .int x1)] := hl
  have hf := h
  rw [fX12_wrongKept] at hf
  refine lv_iload_n hx hb (kd dtX12_wrongKept_0 0 rfl) rfl (lv_at hl 1 rfl) ?_
  obtain ⟨v2, h1, hf⟩ := kbind hf
  refine kcallS (n := 1) [.int x1] [] [.int v2] (rX12_isShelf l D aC (rWo h0 wB w) h1) F hml hX hZ hl.1 mwX12_isShelf wmX12_118 (by decide +kernel) ⟨(by decide), (by decide)⟩ rfl rfl rfl (Nat.le_of_ble_eq_true rfl) (kd dtX12_wrongKept_0 1 rfl) ⟨Nat.zero_le _, Nat.zero_le _⟩ (fun H locs hX => ?_)
  refine lv_if_ne (tgt := 11) hx hb (kd dtX12_wrongKept_0 2 rfl) (by decide) (fun hc => ?_) (fun hc => ?_)
  · have hf := kif_neg hc hf
    refine lv_aload_n hx hb (kd dtX12_wrongKept_0 5 rfl) rfl (lv_at hl 0 rfl) ?_
    refine rgetA (n := 4) (j := 4) hB (by decide) rfl F hX wfX12_22 (by decide) rfl (kd dtX12_wrongKept_0 6 rfl) ?_
    refine lv_iload_n hx hb (kd dtX12_wrongKept_0 7 rfl) rfl (lv_at hl 1 rfl) ?_
    obtain ⟨v3, hv3, hf⟩ := kbind hf
    refine rald hB (by decide) hv3 F hX (kd dtX12_wrongKept_0 8 rfl) ?_
    refine lv_if_ne (tgt := 25) hx hb (kd dtX12_wrongKept_0 9 rfl) (by decide) (fun hc => ?_) (fun hc => ?_)
    · have hf := kif_neg hc hf
      refine lv_aload_n hx hb (kd dtX12_wrongKept_0 12 rfl) rfl (lv_at hl 0 rfl) ?_
      refine rgetA (n := 4) (j := 4) hB (by decide) rfl F hX wfX12_22 (by decide) rfl (kd dtX12_wrongKept_0 13 rfl) ?_
      refine lv_iload_n hx hb (kd dtX12_wrongKept_0 14 rfl) rfl (lv_at hl 1 rfl) ?_
      obtain ⟨v4, hv4, hf⟩ := kbind hf
      refine rald hB (by decide) hv4 F hX (kd dtX12_wrongKept_0 15 rfl) ?_
      refine lv_iconst (v := (1 : Int32)) hx hb (kd dtX12_wrongKept_0 16 rfl) (by decide) ?_
      refine lv_icmp_ne (tgt := 39) hx hb (kd dtX12_wrongKept_0 17 rfl) (by decide) (fun hc => ?_) (fun hc => ?_)
      · have hf := kif_neg hc hf
        refine lv_bipush (v := (-12 : Int32)) hx hb (kd dtX12_wrongKept_0 20 rfl) (by decide) ?_
        obtain rfl := Option.some.inj hf
        exact kiret F hX hr hlocks rfl (kd dtX12_wrongKept_0 21 rfl)
      · have hf := kif_pos hc hf
        refine lv_iconst (v := (0 : Int32)) hx hb (kd dtX12_wrongKept_0 18 rfl) (by decide) ?_
        refine lv_goto (tgt := 41) hx hb (kd dtX12_wrongKept_0 19 rfl) (by decide) ?_
        obtain rfl := Option.some.inj hf
        exact kiret F hX hr hlocks rfl (kd dtX12_wrongKept_0 21 rfl)
    · have hf := kif_pos hc hf
      refine lv_bipush (v := (-11 : Int32)) hx hb (kd dtX12_wrongKept_0 10 rfl) (by decide) ?_
      refine lv_goto (tgt := 41) hx hb (kd dtX12_wrongKept_0 11 rfl) (by decide) ?_
      obtain rfl := Option.some.inj hf
      exact kiret F hX hr hlocks rfl (kd dtX12_wrongKept_0 21 rfl)
  · have hf := kif_pos hc hf
    refine lv_iconst (v := (-1 : Int32)) hx hb (kd dtX12_wrongKept_0 3 rfl) (by decide) ?_
    refine lv_goto (tgt := 41) hx hb (kd dtX12_wrongKept_0 4 rfl) (by decide) ?_
    obtain rfl := Option.some.inj hf
    exact kiret F hX hr hlocks rfl (kd dtX12_wrongKept_0 21 rfl)
theorem wmX12_355 : Cond.methodLink RX12 355 yX12_wrongKept ∈ kT := kTm 1728 (by decide +kernel) rfl
theorem mwX12_wrongKept : kMV RX12 yX12_wrongKept cX12_wrongKept 2 (some .int) := ⟨kTm 1731 (by decide +kernel) rfl, kTm 106 (by decide +kernel) rfl, kTm 1730 (by decide +kernel) rfl, kTm 92 (by decide +kernel) rfl⟩
def lX12_effort_0 : List (Nat × Instr × Nat) := [(0, .aload_n 0, 1), (1, .iload_n 1, 1), (2, .invokevirtual 355, 3), (5, .istore_n 2, 1), (6, .iload_n 2, 1), (7, .ifCond .eq 7, 3), (10, .iload_n 2, 1), (11, .goto 9, 3), (14, .aload_n 0, 1), (15, .getfield 34, 3), (18, .iload_n 1, 1), (19, .iaload, 1), (20, .ireturn, 1)]
theorem dtX12_effort_0 : kDec cX12_effort lX12_effort_0 = true := by decide +kernel
noncomputable def fX12_effort (x1 : Int32) (w : rW) : Option Int32 :=
  (fX12_wrongKept x1 w).bind fun v2 =>
  if v2 = 0 then
  (raI w 8 8 x1).bind fun v3 =>
  some v3
  else
  some v2

set_option maxHeartbeats 4000000 in
set_option maxRecDepth 100000 in
theorem rX12_effort (l : Launch) (D : va_G) (aC : Nat → ClassId) {h0 : Nat} {wB : kW} (hB : rOK h0 wB) {x1 : Int32} {w : rW} {oR : Int32} (h : fX12_effort x1 w = some oR) : kC l D aC yX12_effort cX12_effort 3 (some .int) 4 78 [.ref h0, .int x1] (rWo h0 wB w) (some (.int oR)) (rWo h0 wB w) 0 0 := by
  refine kOf (own := RX12) (by decide) rfl (Nat.le_of_ble_eq_true rfl) ?_
  intro p e s m below meth c ls F hml hr hlocks hnm hX hZ hl
  obtain ⟨hx, hb, hts, hown, hK⟩ := id F
  have hl : lv_has ls 3 [(0, .ref h0), (1, .int x1)] := hl
  have hf := h
  rw [fX12_effort] at hf
  refine lv_aload_n hx hb (kd dtX12_effort_0 0 rfl) rfl (lv_at hl 0 rfl) ?_
  refine lv_iload_n hx hb (kd dtX12_effort_0 1 rfl) rfl (lv_at hl 1 rfl) ?_
  obtain ⟨v2, h1, hf⟩ := kbind hf
  refine kcallV (n := 1) [.int x1] [] [.int v2] (rX12_wrongKept l D aC hB h1) rfl hB.1 F hml hX hZ hl.1 mwX12_wrongKept wmX12_355 rfl (by decide) (by decide +kernel) ⟨(by decide), (by decide)⟩ rfl rfl rfl (Nat.le_of_ble_eq_true rfl) (kd dtX12_effort_0 2 rfl) ⟨Nat.zero_le _, Nat.zero_le _⟩ (fun H locs hX => ?_)
  refine lv_istore_n (lv' := [(2, .int v2), (0, .ref h0), (1, .int x1)]) hx hb (kd dtX12_effort_0 3 rfl) rfl hl (by decide) rfl (fun ls hl => ?_)
  refine lv_iload_n hx hb (kd dtX12_effort_0 4 rfl) rfl (lv_at hl 0 rfl) ?_
  refine lv_if_eq (tgt := 14) hx hb (kd dtX12_effort_0 5 rfl) (by decide) (fun hc => ?_) (fun hc => ?_)
  · have hf := kif_pos hc hf
    refine lv_aload_n hx hb (kd dtX12_effort_0 8 rfl) rfl (lv_at hl 1 rfl) ?_
    refine rgetA (n := 8) (j := 8) hB (by decide) rfl F hX wfX12_34 (by decide) rfl (kd dtX12_effort_0 9 rfl) ?_
    refine lv_iload_n hx hb (kd dtX12_effort_0 10 rfl) rfl (lv_at hl 2 rfl) ?_
    obtain ⟨v3, hv3, hf⟩ := kbind hf
    refine rald hB (by decide) hv3 F hX (kd dtX12_effort_0 11 rfl) ?_
    obtain rfl := Option.some.inj hf
    exact kiret F hX hr hlocks rfl (kd dtX12_effort_0 12 rfl)
  · have hf := kif_neg hc hf
    refine lv_iload_n hx hb (kd dtX12_effort_0 6 rfl) rfl (lv_at hl 0 rfl) ?_
    refine lv_goto (tgt := 20) hx hb (kd dtX12_effort_0 7 rfl) (by decide) ?_
    obtain rfl := Option.some.inj hf
    exact kiret F hX hr hlocks rfl (kd dtX12_effort_0 12 rfl)
def lX12_toss_0 : List (Nat × Instr × Nat) := [(0, .aload_n 0, 1), (1, .iload_n 1, 1), (2, .invokevirtual 355, 3), (5, .istore_n 2, 1), (6, .iload_n 2, 1), (7, .ifCond .eq 7, 3), (10, .iload_n 2, 1), (11, .goto 9, 3), (14, .aload_n 0, 1), (15, .getfield 37, 3), (18, .iload_n 1, 1), (19, .iaload, 1), (20, .ireturn, 1)]
theorem dtX12_toss_0 : kDec cX12_toss lX12_toss_0 = true := by decide +kernel
noncomputable def fX12_toss (x1 : Int32) (w : rW) : Option Int32 :=
  (fX12_wrongKept x1 w).bind fun v2 =>
  if v2 = 0 then
  (raI w 9 8 x1).bind fun v3 =>
  some v3
  else
  some v2

set_option maxHeartbeats 4000000 in
set_option maxRecDepth 100000 in
theorem rX12_toss (l : Launch) (D : va_G) (aC : Nat → ClassId) {h0 : Nat} {wB : kW} (hB : rOK h0 wB) {x1 : Int32} {w : rW} {oR : Int32} (h : fX12_toss x1 w = some oR) : kC l D aC yX12_toss cX12_toss 3 (some .int) 4 78 [.ref h0, .int x1] (rWo h0 wB w) (some (.int oR)) (rWo h0 wB w) 0 0 := by
  refine kOf (own := RX12) (by decide) rfl (Nat.le_of_ble_eq_true rfl) ?_
  intro p e s m below meth c ls F hml hr hlocks hnm hX hZ hl
  obtain ⟨hx, hb, hts, hown, hK⟩ := id F
  have hl : lv_has ls 3 [(0, .ref h0), (1, .int x1)] := hl
  have hf := h
  rw [fX12_toss] at hf
  refine lv_aload_n hx hb (kd dtX12_toss_0 0 rfl) rfl (lv_at hl 0 rfl) ?_
  refine lv_iload_n hx hb (kd dtX12_toss_0 1 rfl) rfl (lv_at hl 1 rfl) ?_
  obtain ⟨v2, h1, hf⟩ := kbind hf
  refine kcallV (n := 1) [.int x1] [] [.int v2] (rX12_wrongKept l D aC hB h1) rfl hB.1 F hml hX hZ hl.1 mwX12_wrongKept wmX12_355 rfl (by decide) (by decide +kernel) ⟨(by decide), (by decide)⟩ rfl rfl rfl (Nat.le_of_ble_eq_true rfl) (kd dtX12_toss_0 2 rfl) ⟨Nat.zero_le _, Nat.zero_le _⟩ (fun H locs hX => ?_)
  refine lv_istore_n (lv' := [(2, .int v2), (0, .ref h0), (1, .int x1)]) hx hb (kd dtX12_toss_0 3 rfl) rfl hl (by decide) rfl (fun ls hl => ?_)
  refine lv_iload_n hx hb (kd dtX12_toss_0 4 rfl) rfl (lv_at hl 0 rfl) ?_
  refine lv_if_eq (tgt := 14) hx hb (kd dtX12_toss_0 5 rfl) (by decide) (fun hc => ?_) (fun hc => ?_)
  · have hf := kif_pos hc hf
    refine lv_aload_n hx hb (kd dtX12_toss_0 8 rfl) rfl (lv_at hl 1 rfl) ?_
    refine rgetA (n := 9) (j := 9) hB (by decide) rfl F hX wfX12_37 (by decide) rfl (kd dtX12_toss_0 9 rfl) ?_
    refine lv_iload_n hx hb (kd dtX12_toss_0 10 rfl) rfl (lv_at hl 2 rfl) ?_
    obtain ⟨v3, hv3, hf⟩ := kbind hf
    refine rald hB (by decide) hv3 F hX (kd dtX12_toss_0 11 rfl) ?_
    obtain rfl := Option.some.inj hf
    exact kiret F hX hr hlocks rfl (kd dtX12_toss_0 12 rfl)
  · have hf := kif_neg hc hf
    refine lv_iload_n hx hb (kd dtX12_toss_0 6 rfl) rfl (lv_at hl 0 rfl) ?_
    refine lv_goto (tgt := 20) hx hb (kd dtX12_toss_0 7 rfl) (by decide) ?_
    obtain rfl := Option.some.inj hf
    exact kiret F hX hr hlocks rfl (kd dtX12_toss_0 12 rfl)
