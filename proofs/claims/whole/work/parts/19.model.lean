def lX12_line_0 : List (Nat × Instr × Nat) := [(0, .iload_n 1, 1), (1, .invokestatic 118, 3), (4, .ifCond .ne 5, 3), (7, .iconst (-1), 1), (8, .ireturn, 1), (9, .aload_n 0, 1), (10, .getfield 16, 3), (13, .iconst 0, 1), (14, .iaload, 1), (15, .bipush 40, 2), (17, .if_icmp .ne 6, 3), (20, .bipush (-2), 2), (22, .ireturn, 1), (23, .aload_n 0, 1), (24, .iload_n 1, 1), (25, .iconst 0, 1), (26, .invokevirtual 121, 3), (29, .istore_n 2, 1), (30, .iload_n 2, 1), (31, .ifCond .eq 5, 3), (34, .iload_n 2, 1), (35, .ireturn, 1), (36, .aload_n 0, 1), (37, .iload_n 1, 1), (38, .invokevirtual 124, 3), (41, .istore_n 3, 1), (42, .iload_n 3, 1), (43, .bipush (-4), 2), (45, .if_icmp .eq 8, 3), (48, .bipush (-100), 2), (50, .iload_n 3, 1), (51, .isub, 1), (52, .ireturn, 1), (53, .aload_n 0, 1), (54, .getfield 16, 3), (57, .iconst 0, 1), (58, .iaload, 1), (59, .istore 4, 2), (61, .iconst 0, 1), (62, .istore 5, 2), (64, .iload 5, 2), (66, .aload_n 0, 1), (67, .getfield 102, 3), (70, .if_icmp .ge 34, 3), (73, .aload_n 0, 1), (74, .getfield 9, 3), (77, .iload 4, 2), (79, .invokestatic 86, 3), (82, .iload 5, 2), (84, .iadd, 1), (85, .aload_n 0, 1), (86, .getfield 31, 3), (89, .aload_n 0, 1), (90, .getfield 105, 3), (93, .iload 5, 2), (95, .iadd, 1), (96, .iaload, 1), (97, .iastore, 1), (98, .iinc 5 1, 3), (101, .goto (-37), 3), (104, .aload_n 0, 1), (105, .getfield 16, 3), (108, .iconst 3, 1), (109, .iload 4, 2), (111, .iadd, 1), (112, .aload_n 0, 1), (113, .getfield 102, 3), (116, .iastore, 1), (117, .aload_n 0, 1), (118, .getfield 16, 3), (121, .bipush 43, 2), (123, .iload 4, 2), (125, .iadd, 1), (126, .iconst 0, 1), (127, .iastore, 1), (128, .aload_n 0, 1), (129, .getfield 16, 3), (132, .iconst 0, 1), (133, .dup2, 1), (134, .iaload, 1)]
theorem dtX12_line_0 : kDec cX12_line lX12_line_0 = true := by decide +kernel
def lX12_line_1 : List (Nat × Instr × Nat) := [(135, .iconst 1, 1), (136, .iadd, 1), (137, .iastore, 1), (138, .iload 4, 2), (140, .ireturn, 1)]
theorem dtX12_line_1 : kDec cX12_line lX12_line_1 = true := by decide +kernel
noncomputable def fX12_line_L64 (x1 : Int32) (x2 : Int32) (x3 : Int32) (x4 : Int32) : Nat → (Int32 → rW → Option (Int32 × rW)) → Int32 → rW → Option (Int32 × rW)
  | 0, _, _, _ => none
  | n + 1, k, x5, w =>
  if (rF w 14) ≤ x5 then
  k x5 w
  else
  (fX12_textOf x4).bind fun v2 =>
  (raI w 7 960 ((rF w 13) + x5)).bind fun v3 =>
  (rsI w 0 10000 (v2 + x5) v3).bind fun w4 =>
  fX12_line_L64 x1 x2 x3 x4 n k (x5 + (1 : Int32)) w4

noncomputable def fX12_line (x1 : Int32) (w : rW) : Option (Int32 × rW) :=
  (fX12_isShelf x1).bind fun v2 =>
  if v2 = 0 then
  some ((-1 : Int32), w)
  else
  (raI w 2 1000 (0 : Int32)).bind fun v3 =>
  if v3 = (40 : Int32) then
  some ((-2 : Int32), w)
  else
  (fX12_wrongRow x1 (0 : Int32) w).bind fun v5 =>
  if v5 = 0 then
  kb2 (fX12_faultIn x1 w) fun v8 w6 =>
  if v8 = (-4 : Int32) then
  (raI w6 2 1000 (0 : Int32)).bind fun v9 =>
  fX12_line_L64 x1 v5 v8 v9 kFU (fun y5_10 w11 => (rsI w11 2 1000 ((3 : Int32) + v9) (rF w11 14)).bind fun w12 =>
  (rsI w12 2 1000 ((43 : Int32) + v9) (0 : Int32)).bind fun w13 =>
  (raI w13 2 1000 (0 : Int32)).bind fun v14 =>
  (rsI w13 2 1000 (0 : Int32) (v14 + (1 : Int32))).bind fun w15 =>
  some (v9, w15)) (0 : Int32) w6
  else
  some ((-100 : Int32) - v8, w6)
  else
  some (v5, w)

set_option maxHeartbeats 4000000 in
set_option maxRecDepth 100000 in
theorem rX12_line (l : Launch) (D : va_G) (aC : Nat → ClassId) {h0 : Nat} {wB : kW} (hB : rOK h0 wB) {x1 : Int32} {w : rW} {wR : rW} {oR : Int32} (h : fX12_line x1 w = some (oR, wR)) : kC l D aC yX12_line cX12_line 6 (some .int) 405 8896 [.ref h0, .int x1] (rWo h0 wB w) (some (.int oR)) (rWo h0 wB wR) 0 0 := by
  refine kOf (own := RX12) (by decide) rfl (Nat.le_of_ble_eq_true rfl) ?_
  intro p e s m below meth c ls F hml hr hlocks hnm hX hZ hl
  obtain ⟨hx, hb, hts, hown, hK⟩ := id F
  have hl : lv_has ls 6 [(0, .ref h0), (1, .int x1)] := hl
  have hf := h
  rw [fX12_line] at hf
  refine lv_iload_n hx hb (kd dtX12_line_0 0 rfl) rfl (lv_at hl 1 rfl) ?_
  obtain ⟨v2, h1, hf⟩ := kbind hf
  refine kcallS (n := 1) [.int x1] [] [.int v2] (rX12_isShelf l D aC (rWo h0 wB w) h1) F hml hX hZ hl.1 mwX12_isShelf wmX12_118 (by decide +kernel) ⟨(by decide), (by decide)⟩ rfl rfl rfl (Nat.le_of_ble_eq_true rfl) (kd dtX12_line_0 1 rfl) ⟨Nat.zero_le _, Nat.zero_le _⟩ (fun H locs hX => ?_)
  refine lv_if_ne (tgt := 9) hx hb (kd dtX12_line_0 2 rfl) (by decide) (fun hc => ?_) (fun hc => ?_)
  · have hf := kif_neg hc hf
    refine lv_aload_n hx hb (kd dtX12_line_0 5 rfl) rfl (lv_at hl 0 rfl) ?_
    refine rgetA (n := 2) (j := 2) hB (by decide) rfl F hX wfX12_16 (by decide) rfl (kd dtX12_line_0 6 rfl) ?_
    refine lv_iconst (v := (0 : Int32)) hx hb (kd dtX12_line_0 7 rfl) (by decide) ?_
    obtain ⟨v3, hv3, hf⟩ := kbind hf
    refine rald hB (by decide) hv3 F hX (kd dtX12_line_0 8 rfl) ?_
    refine lv_bipush (v := (40 : Int32)) hx hb (kd dtX12_line_0 9 rfl) (by decide) ?_
    refine lv_icmp_ne (tgt := 23) hx hb (kd dtX12_line_0 10 rfl) (by decide) (fun hc => ?_) (fun hc => ?_)
    · have hf := kif_neg hc hf
      refine lv_aload_n hx hb (kd dtX12_line_0 13 rfl) rfl (lv_at hl 0 rfl) ?_
      refine lv_iload_n hx hb (kd dtX12_line_0 14 rfl) rfl (lv_at hl 1 rfl) ?_
      refine lv_iconst (v := (0 : Int32)) hx hb (kd dtX12_line_0 15 rfl) (by decide) ?_
      obtain ⟨v5, h4, hf⟩ := kbind hf
      refine kcallV (n := 2) [.int x1, .int (0 : Int32)] [] [.int v5] (rX12_wrongRow l D aC hB h4) rfl hB.1 F hml hX hZ hl.1 mwX12_wrongRow wmX12_121 rfl (by decide) (by decide +kernel) ⟨(by decide), (by decide)⟩ rfl rfl rfl (Nat.le_of_ble_eq_true rfl) (kd dtX12_line_0 16 rfl) ⟨Nat.zero_le _, Nat.zero_le _⟩ (fun H locs hX => ?_)
      refine lv_istore_n (lv' := [(2, .int v5), (0, .ref h0), (1, .int x1)]) hx hb (kd dtX12_line_0 17 rfl) rfl hl (by decide) rfl (fun ls hl => ?_)
      refine lv_iload_n hx hb (kd dtX12_line_0 18 rfl) rfl (lv_at hl 0 rfl) ?_
      refine lv_if_eq (tgt := 36) hx hb (kd dtX12_line_0 19 rfl) (by decide) (fun hc => ?_) (fun hc => ?_)
      · have hf := kif_pos hc hf
        refine lv_aload_n hx hb (kd dtX12_line_0 22 rfl) rfl (lv_at hl 1 rfl) ?_
        refine lv_iload_n hx hb (kd dtX12_line_0 23 rfl) rfl (lv_at hl 2 rfl) ?_
        obtain ⟨v8, w6, h7, hf⟩ := kbind2 hf
        refine kcallV (n := 1) [.int x1] [] [.int v8] (rX12_faultIn l D aC hB h7) rfl hB.1 F hml hX hZ hl.1 mwX12_faultIn wmX12_124 rfl (by decide) (by decide +kernel) ⟨(by decide), (by decide)⟩ rfl rfl rfl (Nat.le_of_ble_eq_true rfl) (kd dtX12_line_0 24 rfl) ⟨Nat.zero_le _, Nat.zero_le _⟩ (fun H locs hX => ?_)
        refine lv_istore_n (lv' := [(3, .int v8), (2, .int v5), (0, .ref h0), (1, .int x1)]) hx hb (kd dtX12_line_0 25 rfl) rfl hl (by decide) rfl (fun ls hl => ?_)
        refine lv_iload_n hx hb (kd dtX12_line_0 26 rfl) rfl (lv_at hl 0 rfl) ?_
        refine lv_bipush (v := (-4 : Int32)) hx hb (kd dtX12_line_0 27 rfl) (by decide) ?_
        refine lv_icmp_eq (tgt := 53) hx hb (kd dtX12_line_0 28 rfl) (by decide) (fun hc => ?_) (fun hc => ?_)
        · have hf := kif_pos hc hf
          refine lv_aload_n hx hb (kd dtX12_line_0 33 rfl) rfl (lv_at hl 2 rfl) ?_
          refine rgetA (n := 2) (j := 2) hB (by decide) rfl F hX wfX12_16 (by decide) rfl (kd dtX12_line_0 34 rfl) ?_
          refine lv_iconst (v := (0 : Int32)) hx hb (kd dtX12_line_0 35 rfl) (by decide) ?_
          obtain ⟨v9, hv9, hf⟩ := kbind hf
          refine rald hB (by decide) hv9 F hX (kd dtX12_line_0 36 rfl) ?_
          refine lv_istore (lv' := [(4, .int v9), (3, .int v8), (2, .int v5), (0, .ref h0), (1, .int x1)]) hx hb (kd dtX12_line_0 37 rfl) hl (by decide) rfl (fun ls hl => ?_)
          refine lv_iconst (v := (0 : Int32)) hx hb (kd dtX12_line_0 38 rfl) (by decide) ?_
          refine lv_istore (lv' := [(5, .int (0 : Int32)), (4, .int v9), (3, .int v8), (2, .int v5), (0, .ref h0), (1, .int x1)]) hx hb (kd dtX12_line_0 39 rfl) hl (by decide) rfl (fun ls hl => ?_)
          have hL64 : ∀ (n : Nat) (k : Int32 → rW → Option (Int32 × rW)), ∀ (z5_64 : Int32) (w_64 : rW) (H : Heap) (locs : List Loc) (ls : Array Slot), kX D aC (rWo h0 wB w) s.heap (rWo h0 wB w_64) H locs → lv_has ls 6 [(0, .ref h0), (1, .int x1), (2, .int v5), (3, .int v8), (4, .int v9), (5, .int z5_64)] → fX12_line_L64 x1 v5 v8 v9 n k z5_64 w_64 = some (oR, wR) → (∀ (z5_64 : Int32) (w_64 : rW) (H : Heap) (locs : List Loc) (ls : Array Slot), kX D aC (rWo h0 wB w) s.heap (rWo h0 wB w_64) H locs → lv_has ls 6 [(0, .ref h0), (1, .int x1), (2, .int v5), (3, .int v8), (4, .int v9), (5, .int z5_64)] → k z5_64 w_64 = some (oR, wR) → W p l e { frames := 405, cells := 0, slots := 0, locals := 8896 } s m ([.ref h0, .int x1] : List Value).toArray below meth c H locs 0 0 (MQ below (kQc D aC (rWo h0 wB w) (some (.int oR)) (rWo h0 wB wR)) ([.ref h0, .int x1] : List Value).toArray s 0 0 (kA (rWo h0 wB w))) (F0 m 104 ls [])) → W p l e { frames := 405, cells := 0, slots := 0, locals := 8896 } s m ([.ref h0, .int x1] : List Value).toArray below meth c H locs 0 0 (MQ below (kQc D aC (rWo h0 wB w) (some (.int oR)) (rWo h0 wB wR)) ([.ref h0, .int x1] : List Value).toArray s 0 0 (kA (rWo h0 wB w))) (F0 m 64 ls []) := by
            intro n k
            induction n with
            | zero =>
              intro z5_64 w_64 H locs ls hX hl hf hk
              rw [fX12_line_L64] at hf
              cases hf
            | succ n ih =>
              intro z5_64 w_64 H locs ls hX hl hf hk
              rw [fX12_line_L64] at hf
              refine lv_iload hx hb (kd dtX12_line_0 40 rfl) (lv_at hl 5 rfl) ?_
              refine lv_aload_n hx hb (kd dtX12_line_0 41 rfl) rfl (lv_at hl 0 rfl) ?_
              refine rgetF (j := 14) hB F hX wfX12_102 (by decide) rfl (kd dtX12_line_0 42 rfl) ?_
              refine lv_icmp_ge (tgt := 104) hx hb (kd dtX12_line_0 43 rfl) (by decide) (fun hc => ?_) (fun hc => ?_)
              · have hf := kif_pos hc hf
                exact hk z5_64 w_64 _ _ _ hX hl hf
              · have hf := kif_neg hc hf
                refine lv_aload_n hx hb (kd dtX12_line_0 44 rfl) rfl (lv_at hl 0 rfl) ?_
                refine rgetA (n := 0) (j := 0) hB (by decide) rfl F hX wfX12_9 (by decide) rfl (kd dtX12_line_0 45 rfl) ?_
                refine lv_iload hx hb (kd dtX12_line_0 46 rfl) (lv_at hl 4 rfl) ?_
                obtain ⟨v17, h16, hf⟩ := kbind hf
                refine kcallS (n := 1) [.int v9] [.ref (h0 + 0 + 1)] [.int v17, .ref (h0 + 0 + 1)] (rX12_textOf l D aC (rWo h0 wB w_64) h16) F hml hX hZ hl.1 mwX12_textOf wmX12_86 (by decide +kernel) ⟨(by decide), (by decide)⟩ rfl rfl rfl (Nat.le_of_ble_eq_true rfl) (kd dtX12_line_0 47 rfl) ⟨Nat.zero_le _, Nat.zero_le _⟩ (fun H locs hX => ?_)
                refine lv_iload hx hb (kd dtX12_line_0 48 rfl) (lv_at hl 5 rfl) ?_
                refine lv_iadd hx hb (kd dtX12_line_0 49 rfl) ?_
                refine lv_aload_n hx hb (kd dtX12_line_0 50 rfl) rfl (lv_at hl 0 rfl) ?_
                refine rgetA (n := 7) (j := 7) hB (by decide) rfl F hX wfX12_31 (by decide) rfl (kd dtX12_line_0 51 rfl) ?_
                refine lv_aload_n hx hb (kd dtX12_line_0 52 rfl) rfl (lv_at hl 0 rfl) ?_
                refine rgetF (j := 13) hB F hX wfX12_105 (by decide) rfl (kd dtX12_line_0 53 rfl) ?_
                refine lv_iload hx hb (kd dtX12_line_0 54 rfl) (lv_at hl 5 rfl) ?_
                refine lv_iadd hx hb (kd dtX12_line_0 55 rfl) ?_
                obtain ⟨v18, hv18, hf⟩ := kbind hf
                refine rald hB (by decide) hv18 F hX (kd dtX12_line_0 56 rfl) ?_
                obtain ⟨w19, hw19, hf⟩ := kbind hf
                refine rast hB (by decide) hw19 F hX (kd dtX12_line_0 57 rfl) (fun H locs hX => ?_)
                refine lv_iinc (v := z5_64 + (1 : Int32)) (lv' := [(5, .int (z5_64 + (1 : Int32))), (0, .ref h0), (1, .int x1), (2, .int v5), (3, .int v8), (4, .int v9)]) hx hb (kd dtX12_line_0 58 rfl) hl (k := 5) rfl (by rfl) (by decide) rfl (fun ls hl => ?_)
                refine lv_goto (tgt := 64) hx hb (kd dtX12_line_0 59 rfl) (by decide) ?_
                exact ih (z5_64 + (1 : Int32)) w19 _ _ _ hX (lv_sub hl [1, 2, 3, 4, 5, 0] rfl) hf hk
          refine hL64 kFU _ (0 : Int32) w6 _ _ _ hX (lv_sub hl [4, 5, 3, 2, 1, 0] rfl) hf ?_
          intro y5_10 w11 H locs ls hX hl hf
          refine lv_aload_n hx hb (kd dtX12_line_0 60 rfl) rfl (lv_at hl 0 rfl) ?_
          refine rgetA (n := 2) (j := 2) hB (by decide) rfl F hX wfX12_16 (by decide) rfl (kd dtX12_line_0 61 rfl) ?_
          refine lv_iconst (v := (3 : Int32)) hx hb (kd dtX12_line_0 62 rfl) (by decide) ?_
          refine lv_iload hx hb (kd dtX12_line_0 63 rfl) (lv_at hl 4 rfl) ?_
          refine lv_iadd hx hb (kd dtX12_line_0 64 rfl) ?_
          refine lv_aload_n hx hb (kd dtX12_line_0 65 rfl) rfl (lv_at hl 0 rfl) ?_
          refine rgetF (j := 14) hB F hX wfX12_102 (by decide) rfl (kd dtX12_line_0 66 rfl) ?_
          obtain ⟨w12, hw12, hf⟩ := kbind hf
          refine rast hB (by decide) hw12 F hX (kd dtX12_line_0 67 rfl) (fun H locs hX => ?_)
          refine lv_aload_n hx hb (kd dtX12_line_0 68 rfl) rfl (lv_at hl 0 rfl) ?_
          refine rgetA (n := 2) (j := 2) hB (by decide) rfl F hX wfX12_16 (by decide) rfl (kd dtX12_line_0 69 rfl) ?_
          refine lv_bipush (v := (43 : Int32)) hx hb (kd dtX12_line_0 70 rfl) (by decide) ?_
          refine lv_iload hx hb (kd dtX12_line_0 71 rfl) (lv_at hl 4 rfl) ?_
          refine lv_iadd hx hb (kd dtX12_line_0 72 rfl) ?_
          refine lv_iconst (v := (0 : Int32)) hx hb (kd dtX12_line_0 73 rfl) (by decide) ?_
          obtain ⟨w13, hw13, hf⟩ := kbind hf
          refine rast hB (by decide) hw13 F hX (kd dtX12_line_0 74 rfl) (fun H locs hX => ?_)
          refine lv_aload_n hx hb (kd dtX12_line_0 75 rfl) rfl (lv_at hl 0 rfl) ?_
          refine rgetA (n := 2) (j := 2) hB (by decide) rfl F hX wfX12_16 (by decide) rfl (kd dtX12_line_0 76 rfl) ?_
          refine lv_iconst (v := (0 : Int32)) hx hb (kd dtX12_line_0 77 rfl) (by decide) ?_
          refine lv_dup2_11 hx hb (kd dtX12_line_0 78 rfl) rfl rfl ?_
          obtain ⟨v14, hv14, hf⟩ := kbind hf
          refine rald hB (by decide) hv14 F hX (kd dtX12_line_0 79 rfl) ?_
          refine lv_iconst (v := (1 : Int32)) hx hb (kd dtX12_line_1 0 rfl) (by decide) ?_
          refine lv_iadd hx hb (kd dtX12_line_1 1 rfl) ?_
          obtain ⟨w15, hw15, hf⟩ := kbind hf
          refine rast hB (by decide) hw15 F hX (kd dtX12_line_1 2 rfl) (fun H locs hX => ?_)
          refine lv_iload hx hb (kd dtX12_line_1 3 rfl) (lv_at hl 4 rfl) ?_
          obtain ⟨rfl, rfl⟩ := Prod.mk.inj (Option.some.inj hf)
          exact kiret F hX hr hlocks rfl (kd dtX12_line_1 4 rfl)
        · have hf := kif_neg hc hf
          refine lv_bipush (v := (-100 : Int32)) hx hb (kd dtX12_line_0 29 rfl) (by decide) ?_
          refine lv_iload_n hx hb (kd dtX12_line_0 30 rfl) rfl (lv_at hl 0 rfl) ?_
          refine lv_isub hx hb (kd dtX12_line_0 31 rfl) ?_
          obtain ⟨rfl, rfl⟩ := Prod.mk.inj (Option.some.inj hf)
          exact kiret F hX hr hlocks rfl (kd dtX12_line_0 32 rfl)
      · have hf := kif_neg hc hf
        refine lv_iload_n hx hb (kd dtX12_line_0 20 rfl) rfl (lv_at hl 0 rfl) ?_
        obtain ⟨rfl, rfl⟩ := Prod.mk.inj (Option.some.inj hf)
        exact kiret F hX hr hlocks rfl (kd dtX12_line_0 21 rfl)
    · have hf := kif_pos hc hf
      refine lv_bipush (v := (-2 : Int32)) hx hb (kd dtX12_line_0 11 rfl) (by decide) ?_
      obtain ⟨rfl, rfl⟩ := Prod.mk.inj (Option.some.inj hf)
      exact kiret F hX hr hlocks rfl (kd dtX12_line_0 12 rfl)
  · have hf := kif_pos hc hf
    refine lv_iconst (v := (-1 : Int32)) hx hb (kd dtX12_line_0 3 rfl) (by decide) ?_
    obtain ⟨rfl, rfl⟩ := Prod.mk.inj (Option.some.inj hf)
    exact kiret F hX hr hlocks rfl (kd dtX12_line_0 4 rfl)
def lX12_knownAt_0 : List (Nat × Instr × Nat) := [(0, .iconst 0, 1), (1, .istore_n 2, 1), (2, .iload_n 2, 1), (3, .aload_n 0, 1), (4, .getfield 16, 3), (7, .iconst 1, 1), (8, .iaload, 1), (9, .if_icmp .ge 25, 3), (12, .aload_n 0, 1), (13, .getfield 16, 3), (16, .sipush 203, 3), (19, .iload_n 2, 1), (20, .iadd, 1), (21, .iaload, 1), (22, .iload_n 1, 1), (23, .if_icmp .ne 5, 3), (26, .iload_n 2, 1), (27, .ireturn, 1), (28, .iinc 2 1, 3), (31, .goto (-29), 3), (34, .bipush (-4), 2), (36, .ireturn, 1)]
theorem dtX12_knownAt_0 : kDec cX12_knownAt lX12_knownAt_0 = true := by decide +kernel
noncomputable def fX12_knownAt_L2 (x1 : Int32) (w : rW) : Nat → (Int32 → Option Int32) → Int32 → Option Int32
  | 0, _, _ => none
  | n + 1, k, x2 =>
  (raI w 2 1000 (1 : Int32)).bind fun v1 =>
  if v1 ≤ x2 then
  k x2
  else
  (raI w 2 1000 ((203 : Int32) + x2)).bind fun v2 =>
  if v2 = x1 then
  some x2
  else
  fX12_knownAt_L2 x1 w n k (x2 + (1 : Int32))

noncomputable def fX12_knownAt (x1 : Int32) (w : rW) : Option Int32 :=
  fX12_knownAt_L2 x1 w kFU (fun y2_1 => some (-4 : Int32)) (0 : Int32)

set_option maxHeartbeats 4000000 in
set_option maxRecDepth 100000 in
theorem rX12_knownAt (l : Launch) (D : va_G) (aC : Nat → ClassId) {h0 : Nat} {wB : kW} (hB : rOK h0 wB) {x1 : Int32} {w : rW} {oR : Int32} (h : fX12_knownAt x1 w = some oR) : kC l D aC yX12_knownAt cX12_knownAt 3 (some .int) 1 12 [.ref h0, .int x1] (rWo h0 wB w) (some (.int oR)) (rWo h0 wB w) 0 0 := by
  refine kOf (own := RX12) (by decide) rfl (Nat.le_of_ble_eq_true rfl) ?_
  intro p e s m below meth c ls F hml hr hlocks hnm hX hZ hl
  obtain ⟨hx, hb, hts, hown, hK⟩ := id F
  have hl : lv_has ls 3 [(0, .ref h0), (1, .int x1)] := hl
  have hf := h
  rw [fX12_knownAt] at hf
  refine lv_iconst (v := (0 : Int32)) hx hb (kd dtX12_knownAt_0 0 rfl) (by decide) ?_
  refine lv_istore_n (lv' := [(2, .int (0 : Int32)), (0, .ref h0), (1, .int x1)]) hx hb (kd dtX12_knownAt_0 1 rfl) rfl hl (by decide) rfl (fun ls hl => ?_)
  have hL2 : ∀ (n : Nat) (k : Int32 → Option Int32), ∀ (z2_2 : Int32) (H : Heap) (locs : List Loc) (ls : Array Slot), kX D aC (rWo h0 wB w) s.heap (rWo h0 wB w) H locs → lv_has ls 3 [(0, .ref h0), (1, .int x1), (2, .int z2_2)] → fX12_knownAt_L2 x1 w n k z2_2 = some oR → (∀ (z2_2 : Int32) (H : Heap) (locs : List Loc) (ls : Array Slot), kX D aC (rWo h0 wB w) s.heap (rWo h0 wB w) H locs → lv_has ls 3 [(0, .ref h0), (1, .int x1), (2, .int z2_2)] → k z2_2 = some oR → W p l e { frames := 1, cells := 0, slots := 0, locals := 12 } s m ([.ref h0, .int x1] : List Value).toArray below meth c H locs 0 0 (MQ below (kQc D aC (rWo h0 wB w) (some (.int oR)) (rWo h0 wB w)) ([.ref h0, .int x1] : List Value).toArray s 0 0 (kA (rWo h0 wB w))) (F0 m 34 ls [])) → W p l e { frames := 1, cells := 0, slots := 0, locals := 12 } s m ([.ref h0, .int x1] : List Value).toArray below meth c H locs 0 0 (MQ below (kQc D aC (rWo h0 wB w) (some (.int oR)) (rWo h0 wB w)) ([.ref h0, .int x1] : List Value).toArray s 0 0 (kA (rWo h0 wB w))) (F0 m 2 ls []) := by
    intro n k
    induction n with
    | zero =>
      intro z2_2 H locs ls hX hl hf hk
      rw [fX12_knownAt_L2] at hf
      cases hf
    | succ n ih =>
      intro z2_2 H locs ls hX hl hf hk
      rw [fX12_knownAt_L2] at hf
      refine lv_iload_n hx hb (kd dtX12_knownAt_0 2 rfl) rfl (lv_at hl 2 rfl) ?_
      refine lv_aload_n hx hb (kd dtX12_knownAt_0 3 rfl) rfl (lv_at hl 0 rfl) ?_
      refine rgetA (n := 2) (j := 2) hB (by decide) rfl F hX wfX12_16 (by decide) rfl (kd dtX12_knownAt_0 4 rfl) ?_
      refine lv_iconst (v := (1 : Int32)) hx hb (kd dtX12_knownAt_0 5 rfl) (by decide) ?_
      obtain ⟨v2, hv2, hf⟩ := kbind hf
      refine rald hB (by decide) hv2 F hX (kd dtX12_knownAt_0 6 rfl) ?_
      refine lv_icmp_ge (tgt := 34) hx hb (kd dtX12_knownAt_0 7 rfl) (by decide) (fun hc => ?_) (fun hc => ?_)
      · have hf := kif_pos hc hf
        exact hk z2_2 _ _ _ hX hl hf
      · have hf := kif_neg hc hf
        refine lv_aload_n hx hb (kd dtX12_knownAt_0 8 rfl) rfl (lv_at hl 0 rfl) ?_
        refine rgetA (n := 2) (j := 2) hB (by decide) rfl F hX wfX12_16 (by decide) rfl (kd dtX12_knownAt_0 9 rfl) ?_
        refine lv_sipush (v := (203 : Int32)) hx hb (kd dtX12_knownAt_0 10 rfl) (by decide) ?_
        refine lv_iload_n hx hb (kd dtX12_knownAt_0 11 rfl) rfl (lv_at hl 2 rfl) ?_
        refine lv_iadd hx hb (kd dtX12_knownAt_0 12 rfl) ?_
        obtain ⟨v3, hv3, hf⟩ := kbind hf
        refine rald hB (by decide) hv3 F hX (kd dtX12_knownAt_0 13 rfl) ?_
        refine lv_iload_n hx hb (kd dtX12_knownAt_0 14 rfl) rfl (lv_at hl 1 rfl) ?_
        refine lv_icmp_ne (tgt := 28) hx hb (kd dtX12_knownAt_0 15 rfl) (by decide) (fun hc => ?_) (fun hc => ?_)
        · have hf := kif_neg hc hf
          refine lv_iinc (v := z2_2 + (1 : Int32)) (lv' := [(2, .int (z2_2 + (1 : Int32))), (0, .ref h0), (1, .int x1)]) hx hb (kd dtX12_knownAt_0 18 rfl) hl (k := 2) rfl (by rfl) (by decide) rfl (fun ls hl => ?_)
          refine lv_goto (tgt := 2) hx hb (kd dtX12_knownAt_0 19 rfl) (by decide) ?_
          exact ih (z2_2 + (1 : Int32)) _ _ _ hX (lv_sub hl [1, 2, 0] rfl) hf hk
        · have hf := kif_pos hc hf
          refine lv_iload_n hx hb (kd dtX12_knownAt_0 16 rfl) rfl (lv_at hl 2 rfl) ?_
          obtain rfl := Option.some.inj hf
          exact kiret F hX hr hlocks rfl (kd dtX12_knownAt_0 17 rfl)
  refine hL2 kFU _ (0 : Int32) _ _ _ hX (lv_sub hl [1, 2, 0] rfl) hf ?_
  intro y2_1 H locs ls hX hl hf
  refine lv_bipush (v := (-4 : Int32)) hx hb (kd dtX12_knownAt_0 20 rfl) (by decide) ?_
  obtain rfl := Option.some.inj hf
  exact kiret F hX hr hlocks rfl (kd dtX12_knownAt_0 21 rfl)
theorem wmX12_127 : Cond.methodLink RX12 127 yX12_isLine ∈ kT := kTm 1407 (by decide +kernel) rfl
theorem mwX12_isLine : kMV RX12 yX12_isLine cX12_isLine 2 (some .boolean) := ⟨kTm 1410 (by decide +kernel) rfl, kTm 106 (by decide +kernel) rfl, kTm 1409 (by decide +kernel) rfl, kTm 47 (by decide +kernel) rfl⟩
theorem wcX12_130 : Cond.constantLong RX12 130 (6 : Int64) ∈ kT := kTm 1411 (by decide +kernel) rfl
theorem wmX12_132 : Cond.methodLink RX12 132 yX12_sizeOf ∈ kT := kTm 1412 (by decide +kernel) rfl
theorem mwX12_sizeOf : kMV RX12 yX12_sizeOf cX12_sizeOf 5 (some .int) := ⟨kTm 1415 (by decide +kernel) rfl, kTm 106 (by decide +kernel) rfl, kTm 1414 (by decide +kernel) rfl, kTm 48 (by decide +kernel) rfl⟩
theorem wmX12_135 : Cond.methodLink RX12 135 yX12_places ∈ kT := kTm 1424 (by decide +kernel) rfl
theorem mwX12_places : kMV RX12 yX12_places cX12_places 5 (some .int) := ⟨kTm 1427 (by decide +kernel) rfl, kTm 106 (by decide +kernel) rfl, kTm 1426 (by decide +kernel) rfl, kTm 51 (by decide +kernel) rfl⟩
theorem wmX12_138 : Cond.methodLink RX12 138 yX12_isAlways ∈ kT := kTm 1435 (by decide +kernel) rfl
theorem mwX12_isAlways : kMV RX12 yX12_isAlways cX12_isAlways 2 (some .boolean) := ⟨kTm 1438 (by decide +kernel) rfl, kTm 106 (by decide +kernel) rfl, kTm 1437 (by decide +kernel) rfl, kTm 53 (by decide +kernel) rfl⟩
theorem wmX12_141 : Cond.methodLink RX12 141 yX12_knownAt ∈ kT := kTm 1447 (by decide +kernel) rfl
theorem mwX12_knownAt : kMV RX12 yX12_knownAt cX12_knownAt 3 (some .int) := ⟨kTm 1450 (by decide +kernel) rfl, kTm 106 (by decide +kernel) rfl, kTm 1449 (by decide +kernel) rfl, kTm 56 (by decide +kernel) rfl⟩
def lX12_of_0 : List (Nat × Instr × Nat) := [(0, .aload_n 0, 1), (1, .iload_n 1, 1), (2, .invokevirtual 127, 3), (5, .ifCond .eq 15, 3), (8, .iload_n 2, 1), (9, .i2l, 1), (10, .lconst 0, 1), (11, .ldc2_w 130, 3), (14, .invokestatic 65, 3), (17, .ifCond .ne 5, 3), (20, .iconst (-1), 1), (21, .ireturn, 1), (22, .iload_n 1, 1), (23, .invokestatic 86, 3), (26, .istore_n 3, 1), (27, .iload_n 3, 1), (28, .aload_n 0, 1), (29, .getfield 16, 3), (32, .iconst 3, 1), (33, .iload_n 1, 1), (34, .iadd, 1), (35, .iaload, 1), (36, .iadd, 1), (37, .istore 4, 2), (39, .iload_n 2, 1), (40, .tableswitch 97 0 5 #[40, 48, 54, 62, 73, 87], 40), (80, .aload_n 0, 1), (81, .iload_n 3, 1), (82, .iload 4, 2), (84, .invokevirtual 132, 3), (87, .ireturn, 1), (88, .aload_n 0, 1), (89, .iload_n 3, 1), (90, .invokevirtual 79, 3), (93, .ireturn, 1), (94, .aload_n 0, 1), (95, .iload_n 3, 1), (96, .iload 4, 2), (98, .invokevirtual 135, 3), (101, .ireturn, 1), (102, .aload_n 0, 1), (103, .iload_n 3, 1), (104, .iload 4, 2), (106, .invokevirtual 89, 3), (109, .invokestatic 96, 3), (112, .ireturn, 1), (113, .aload_n 0, 1), (114, .iload_n 1, 1), (115, .invokevirtual 138, 3), (118, .ifCond .eq 7, 3), (121, .iconst 1, 1), (122, .goto 4, 3), (125, .iconst 0, 1), (126, .ireturn, 1), (127, .aload_n 0, 1), (128, .getfield 16, 3), (131, .bipush 43, 2), (133, .iload_n 1, 1), (134, .iadd, 1), (135, .iaload, 1), (136, .ireturn, 1), (137, .aload_n 0, 1), (138, .iload_n 1, 1), (139, .invokevirtual 141, 3), (142, .ireturn, 1)]
theorem dtX12_of_0 : kDec cX12_of lX12_of_0 = true := by decide +kernel
noncomputable def fX12_of (x1 : Int32) (x2 : Int32) (w : rW) : Option Int32 :=
  (fX12_isLine x1 w).bind fun v2 =>
  if v2 = 0 then
  some (-1 : Int32)
  else
  (fX12_isIn x2.toInt64 (0 : Int64) (6 : Int64)).bind fun v4 =>
  if v4 = 0 then
  some (-1 : Int32)
  else
  (fX12_textOf x1).bind fun v6 =>
  (raI w 2 1000 ((3 : Int32) + x1)).bind fun v7 =>
  if x2 = (0 : Int32) then
  (fX12_sizeOf v6 (v6 + v7) w).bind fun v9 =>
  some v9
  else if x2 = (1 : Int32) then
  (fX12_levels kDP v6 w).bind fun v11 =>
  some v11
  else if x2 = (2 : Int32) then
  (fX12_places v6 (v6 + v7) w).bind fun v13 =>
  some v13
  else if x2 = (3 : Int32) then
  (fX12_letters v6 (v6 + v7) w).bind fun v15 =>
  (fX12_bits v15).bind fun v17 =>
  some v17
  else if x2 = (4 : Int32) then
  (fX12_isAlways x1 w).bind fun v19 =>
  if v19 = 0 then
  some (0 : Int32)
  else
  some (1 : Int32)
  else if x2 = (5 : Int32) then
  (raI w 2 1000 ((43 : Int32) + x1)).bind fun v20 =>
  some v20
  else 
  (fX12_knownAt x1 w).bind fun v22 =>
  some v22

set_option maxHeartbeats 4000000 in
set_option maxRecDepth 100000 in
theorem rX12_of (l : Launch) (D : va_G) (aC : Nat → ClassId) {h0 : Nat} {wB : kW} (hB : rOK h0 wB) {x1 : Int32} {x2 : Int32} {w : rW} {oR : Int32} (h : fX12_of x1 x2 w = some oR) : kC l D aC yX12_of cX12_of 5 (some .int) 806 19326 [.ref h0, .int x1, .int x2] (rWo h0 wB w) (some (.int oR)) (rWo h0 wB w) 0 0 := by
  refine kOf (own := RX12) (by decide) rfl (Nat.le_of_ble_eq_true rfl) ?_
  intro p e s m below meth c ls F hml hr hlocks hnm hX hZ hl
  obtain ⟨hx, hb, hts, hown, hK⟩ := id F
  have hl : lv_has ls 5 [(0, .ref h0), (1, .int x1), (2, .int x2)] := hl
  have hf := h
  rw [fX12_of] at hf
  refine lv_aload_n hx hb (kd dtX12_of_0 0 rfl) rfl (lv_at hl 0 rfl) ?_
  refine lv_iload_n hx hb (kd dtX12_of_0 1 rfl) rfl (lv_at hl 1 rfl) ?_
  obtain ⟨v2, h1, hf⟩ := kbind hf
  refine kcallV (n := 1) [.int x1] [] [.int v2] (rX12_isLine l D aC hB h1) rfl hB.1 F hml hX hZ hl.1 mwX12_isLine wmX12_127 rfl (by decide) (by decide +kernel) ⟨(by decide), (by decide)⟩ rfl rfl rfl (Nat.le_of_ble_eq_true rfl) (kd dtX12_of_0 2 rfl) ⟨Nat.zero_le _, Nat.zero_le _⟩ (fun H locs hX => ?_)
  refine lv_if_eq (tgt := 20) hx hb (kd dtX12_of_0 3 rfl) (by decide) (fun hc => ?_) (fun hc => ?_)
  · have hf := kif_pos hc hf
    refine lv_iconst (v := (-1 : Int32)) hx hb (kd dtX12_of_0 10 rfl) (by decide) ?_
    obtain rfl := Option.some.inj hf
    exact kiret F hX hr hlocks rfl (kd dtX12_of_0 11 rfl)
  · have hf := kif_neg hc hf
    refine lv_iload_n hx hb (kd dtX12_of_0 4 rfl) rfl (lv_at hl 2 rfl) ?_
    refine lv_i2l (v := x2.toInt64) hx hb (kd dtX12_of_0 5 rfl) rfl ?_
    refine lv_lconst (v := (0 : Int64)) hx hb (kd dtX12_of_0 6 rfl) (by decide) ?_
    refine lv_ldc2 (v := (6 : Int64)) hx hb hown (hts _ wcX12_130) (kd dtX12_of_0 7 rfl) ?_
    obtain ⟨v4, h3, hf⟩ := kbind hf
    refine kcallS (n := 3) [.long x2.toInt64, .long (0 : Int64), .long (6 : Int64)] [] [.int v4] (rX12_isIn l D aC (rWo h0 wB w) h3) F hml hX hZ hl.1 mwX12_isIn wmX12_65 (by decide +kernel) ⟨(by decide), (by decide)⟩ rfl rfl rfl (Nat.le_of_ble_eq_true rfl) (kd dtX12_of_0 8 rfl) ⟨Nat.zero_le _, Nat.zero_le _⟩ (fun H locs hX => ?_)
    refine lv_if_ne (tgt := 22) hx hb (kd dtX12_of_0 9 rfl) (by decide) (fun hc => ?_) (fun hc => ?_)
    · have hf := kif_neg hc hf
      refine lv_iload_n hx hb (kd dtX12_of_0 12 rfl) rfl (lv_at hl 1 rfl) ?_
      obtain ⟨v6, h5, hf⟩ := kbind hf
      refine kcallS (n := 1) [.int x1] [] [.int v6] (rX12_textOf l D aC (rWo h0 wB w) h5) F hml hX hZ hl.1 mwX12_textOf wmX12_86 (by decide +kernel) ⟨(by decide), (by decide)⟩ rfl rfl rfl (Nat.le_of_ble_eq_true rfl) (kd dtX12_of_0 13 rfl) ⟨Nat.zero_le _, Nat.zero_le _⟩ (fun H locs hX => ?_)
      refine lv_istore_n (lv' := [(3, .int v6), (0, .ref h0), (1, .int x1), (2, .int x2)]) hx hb (kd dtX12_of_0 14 rfl) rfl hl (by decide) rfl (fun ls hl => ?_)
      refine lv_iload_n hx hb (kd dtX12_of_0 15 rfl) rfl (lv_at hl 0 rfl) ?_
      refine lv_aload_n hx hb (kd dtX12_of_0 16 rfl) rfl (lv_at hl 1 rfl) ?_
      refine rgetA (n := 2) (j := 2) hB (by decide) rfl F hX wfX12_16 (by decide) rfl (kd dtX12_of_0 17 rfl) ?_
      refine lv_iconst (v := (3 : Int32)) hx hb (kd dtX12_of_0 18 rfl) (by decide) ?_
      refine lv_iload_n hx hb (kd dtX12_of_0 19 rfl) rfl (lv_at hl 2 rfl) ?_
      refine lv_iadd hx hb (kd dtX12_of_0 20 rfl) ?_
      obtain ⟨v7, hv7, hf⟩ := kbind hf
      refine rald hB (by decide) hv7 F hX (kd dtX12_of_0 21 rfl) ?_
      refine lv_iadd hx hb (kd dtX12_of_0 22 rfl) ?_
      refine lv_istore (lv' := [(4, .int (v6 + v7)), (3, .int v6), (0, .ref h0), (1, .int x1), (2, .int x2)]) hx hb (kd dtX12_of_0 23 rfl) hl (by decide) rfl (fun ls hl => ?_)
      refine lv_iload_n hx hb (kd dtX12_of_0 24 rfl) rfl (lv_at hl 4 rfl) ?_
      by_cases hc0 : x2 = (0 : Int32)
      · have hf := kif_pos hc0 hf
        have hq : (x2).toInt = 0 := by rw [hc0]; rfl
        refine lv_tableIn (off := 40) (tgt := 80) hx hb (kd dtX12_of_0 25 rfl) (by rw [hq]; decide) (by rw [hq]; decide) (by rw [hq]; rfl) (by decide) ?_
        refine lv_aload_n hx hb (kd dtX12_of_0 26 rfl) rfl (lv_at hl 2 rfl) ?_
        refine lv_iload_n hx hb (kd dtX12_of_0 27 rfl) rfl (lv_at hl 1 rfl) ?_
        refine lv_iload hx hb (kd dtX12_of_0 28 rfl) (lv_at hl 0 rfl) ?_
        obtain ⟨v9, h8, hf⟩ := kbind hf
        refine kcallV (n := 2) [.int v6, .int (v6 + v7)] [] [.int v9] (rX12_sizeOf l D aC hB h8) rfl hB.1 F hml hX hZ hl.1 mwX12_sizeOf wmX12_132 rfl (by decide) (by decide +kernel) ⟨(by decide), (by decide)⟩ rfl rfl rfl (Nat.le_of_ble_eq_true rfl) (kd dtX12_of_0 29 rfl) ⟨Nat.zero_le _, Nat.zero_le _⟩ (fun H locs hX => ?_)
        obtain rfl := Option.some.inj hf
        exact kiret F hX hr hlocks rfl (kd dtX12_of_0 30 rfl)
      have hf := kif_neg hc0 hf
      by_cases hc1 : x2 = (1 : Int32)
      · have hf := kif_pos hc1 hf
        have hq : (x2).toInt = 1 := by rw [hc1]; rfl
        refine lv_tableIn (off := 48) (tgt := 88) hx hb (kd dtX12_of_0 25 rfl) (by rw [hq]; decide) (by rw [hq]; decide) (by rw [hq]; rfl) (by decide) ?_
        refine lv_aload_n hx hb (kd dtX12_of_0 31 rfl) rfl (lv_at hl 2 rfl) ?_
        refine lv_iload_n hx hb (kd dtX12_of_0 32 rfl) rfl (lv_at hl 1 rfl) ?_
        obtain ⟨v11, h10, hf⟩ := kbind hf
        refine kcallV (n := 1) [.int v6] [] [.int v11] (rX12_levels l D aC hB h10) rfl hB.1 F hml hX hZ hl.1 mwX12_levels wmX12_79 rfl (by decide) (by decide +kernel) ⟨(by decide), (by decide)⟩ rfl rfl rfl (Nat.le_of_ble_eq_true rfl) (kd dtX12_of_0 33 rfl) ⟨Nat.zero_le _, Nat.zero_le _⟩ (fun H locs hX => ?_)
        obtain rfl := Option.some.inj hf
        exact kiret F hX hr hlocks rfl (kd dtX12_of_0 34 rfl)
      have hf := kif_neg hc1 hf
      by_cases hc2 : x2 = (2 : Int32)
      · have hf := kif_pos hc2 hf
        have hq : (x2).toInt = 2 := by rw [hc2]; rfl
        refine lv_tableIn (off := 54) (tgt := 94) hx hb (kd dtX12_of_0 25 rfl) (by rw [hq]; decide) (by rw [hq]; decide) (by rw [hq]; rfl) (by decide) ?_
        refine lv_aload_n hx hb (kd dtX12_of_0 35 rfl) rfl (lv_at hl 2 rfl) ?_
        refine lv_iload_n hx hb (kd dtX12_of_0 36 rfl) rfl (lv_at hl 1 rfl) ?_
        refine lv_iload hx hb (kd dtX12_of_0 37 rfl) (lv_at hl 0 rfl) ?_
        obtain ⟨v13, h12, hf⟩ := kbind hf
        refine kcallV (n := 2) [.int v6, .int (v6 + v7)] [] [.int v13] (rX12_places l D aC hB h12) rfl hB.1 F hml hX hZ hl.1 mwX12_places wmX12_135 rfl (by decide) (by decide +kernel) ⟨(by decide), (by decide)⟩ rfl rfl rfl (Nat.le_of_ble_eq_true rfl) (kd dtX12_of_0 38 rfl) ⟨Nat.zero_le _, Nat.zero_le _⟩ (fun H locs hX => ?_)
        obtain rfl := Option.some.inj hf
        exact kiret F hX hr hlocks rfl (kd dtX12_of_0 39 rfl)
      have hf := kif_neg hc2 hf
      by_cases hc3 : x2 = (3 : Int32)
      · have hf := kif_pos hc3 hf
        have hq : (x2).toInt = 3 := by rw [hc3]; rfl
        refine lv_tableIn (off := 62) (tgt := 102) hx hb (kd dtX12_of_0 25 rfl) (by rw [hq]; decide) (by rw [hq]; decide) (by rw [hq]; rfl) (by decide) ?_
        refine lv_aload_n hx hb (kd dtX12_of_0 40 rfl) rfl (lv_at hl 2 rfl) ?_
        refine lv_iload_n hx hb (kd dtX12_of_0 41 rfl) rfl (lv_at hl 1 rfl) ?_
        refine lv_iload hx hb (kd dtX12_of_0 42 rfl) (lv_at hl 0 rfl) ?_
        obtain ⟨v15, h14, hf⟩ := kbind hf
        refine kcallV (n := 2) [.int v6, .int (v6 + v7)] [] [.int v15] (rX12_letters l D aC hB h14) rfl hB.1 F hml hX hZ hl.1 mwX12_letters wmX12_89 rfl (by decide) (by decide +kernel) ⟨(by decide), (by decide)⟩ rfl rfl rfl (Nat.le_of_ble_eq_true rfl) (kd dtX12_of_0 43 rfl) ⟨Nat.zero_le _, Nat.zero_le _⟩ (fun H locs hX => ?_)
        obtain ⟨v17, h16, hf⟩ := kbind hf
        refine kcallS (n := 1) [.int v15] [] [.int v17] (rX12_bits l D aC (rWo h0 wB w) h16) F hml hX hZ hl.1 mwX12_bits wmX12_96 (by decide +kernel) ⟨(by decide), (by decide)⟩ rfl rfl rfl (Nat.le_of_ble_eq_true rfl) (kd dtX12_of_0 44 rfl) ⟨Nat.zero_le _, Nat.zero_le _⟩ (fun H locs hX => ?_)
        obtain rfl := Option.some.inj hf
        exact kiret F hX hr hlocks rfl (kd dtX12_of_0 45 rfl)
      have hf := kif_neg hc3 hf
      by_cases hc4 : x2 = (4 : Int32)
      · have hf := kif_pos hc4 hf
        have hq : (x2).toInt = 4 := by rw [hc4]; rfl
        refine lv_tableIn (off := 73) (tgt := 113) hx hb (kd dtX12_of_0 25 rfl) (by rw [hq]; decide) (by rw [hq]; decide) (by rw [hq]; rfl) (by decide) ?_
        refine lv_aload_n hx hb (kd dtX12_of_0 46 rfl) rfl (lv_at hl 2 rfl) ?_
        refine lv_iload_n hx hb (kd dtX12_of_0 47 rfl) rfl (lv_at hl 3 rfl) ?_
        obtain ⟨v19, h18, hf⟩ := kbind hf
        refine kcallV (n := 1) [.int x1] [] [.int v19] (rX12_isAlways l D aC hB h18) rfl hB.1 F hml hX hZ hl.1 mwX12_isAlways wmX12_138 rfl (by decide) (by decide +kernel) ⟨(by decide), (by decide)⟩ rfl rfl rfl (Nat.le_of_ble_eq_true rfl) (kd dtX12_of_0 48 rfl) ⟨Nat.zero_le _, Nat.zero_le _⟩ (fun H locs hX => ?_)
        refine lv_if_eq (tgt := 125) hx hb (kd dtX12_of_0 49 rfl) (by decide) (fun hc => ?_) (fun hc => ?_)
        · have hf := kif_pos hc hf
          refine lv_iconst (v := (0 : Int32)) hx hb (kd dtX12_of_0 52 rfl) (by decide) ?_
          obtain rfl := Option.some.inj hf
          exact kiret F hX hr hlocks rfl (kd dtX12_of_0 53 rfl)
        · have hf := kif_neg hc hf
          refine lv_iconst (v := (1 : Int32)) hx hb (kd dtX12_of_0 50 rfl) (by decide) ?_
          refine lv_goto (tgt := 126) hx hb (kd dtX12_of_0 51 rfl) (by decide) ?_
          obtain rfl := Option.some.inj hf
          exact kiret F hX hr hlocks rfl (kd dtX12_of_0 53 rfl)
      have hf := kif_neg hc4 hf
      by_cases hc5 : x2 = (5 : Int32)
      · have hf := kif_pos hc5 hf
        have hq : (x2).toInt = 5 := by rw [hc5]; rfl
        refine lv_tableIn (off := 87) (tgt := 127) hx hb (kd dtX12_of_0 25 rfl) (by rw [hq]; decide) (by rw [hq]; decide) (by rw [hq]; rfl) (by decide) ?_
        refine lv_aload_n hx hb (kd dtX12_of_0 54 rfl) rfl (lv_at hl 2 rfl) ?_
        refine rgetA (n := 2) (j := 2) hB (by decide) rfl F hX wfX12_16 (by decide) rfl (kd dtX12_of_0 55 rfl) ?_
        refine lv_bipush (v := (43 : Int32)) hx hb (kd dtX12_of_0 56 rfl) (by decide) ?_
        refine lv_iload_n hx hb (kd dtX12_of_0 57 rfl) rfl (lv_at hl 3 rfl) ?_
        refine lv_iadd hx hb (kd dtX12_of_0 58 rfl) ?_
        obtain ⟨v20, hv20, hf⟩ := kbind hf
        refine rald hB (by decide) hv20 F hX (kd dtX12_of_0 59 rfl) ?_
        obtain rfl := Option.some.inj hf
        exact kiret F hX hr hlocks rfl (kd dtX12_of_0 60 rfl)
      have hf := kif_neg hc5 hf
      have hq0 := lv_neT (k := (0 : Int32)) hc0 (a := 0) rfl
      have hq1 := lv_neT (k := (1 : Int32)) hc1 (a := 1) rfl
      have hq2 := lv_neT (k := (2 : Int32)) hc2 (a := 2) rfl
      have hq3 := lv_neT (k := (3 : Int32)) hc3 (a := 3) rfl
      have hq4 := lv_neT (k := (4 : Int32)) hc4 (a := 4) rfl
      have hq5 := lv_neT (k := (5 : Int32)) hc5 (a := 5) rfl
      refine lv_tableOut (tgt := 137) hx hb (kd dtX12_of_0 25 rfl) (by omega) (by decide) ?_
      refine lv_aload_n hx hb (kd dtX12_of_0 61 rfl) rfl (lv_at hl 2 rfl) ?_
      refine lv_iload_n hx hb (kd dtX12_of_0 62 rfl) rfl (lv_at hl 3 rfl) ?_
      obtain ⟨v22, h21, hf⟩ := kbind hf
      refine kcallV (n := 1) [.int x1] [] [.int v22] (rX12_knownAt l D aC hB h21) rfl hB.1 F hml hX hZ hl.1 mwX12_knownAt wmX12_141 rfl (by decide) (by decide +kernel) ⟨(by decide), (by decide)⟩ rfl rfl rfl (Nat.le_of_ble_eq_true rfl) (kd dtX12_of_0 63 rfl) ⟨Nat.zero_le _, Nat.zero_le _⟩ (fun H locs hX => ?_)
      obtain rfl := Option.some.inj hf
      exact kiret F hX hr hlocks rfl (kd dtX12_of_0 64 rfl)
    · have hf := kif_pos hc hf
      refine lv_iconst (v := (-1 : Int32)) hx hb (kd dtX12_of_0 10 rfl) (by decide) ?_
      obtain rfl := Option.some.inj hf
      exact kiret F hX hr hlocks rfl (kd dtX12_of_0 11 rfl)
def lX12_letter_0 : List (Nat × Instr × Nat) := [(0, .aload_n 0, 1), (1, .iload_n 1, 1), (2, .invokevirtual 127, 3), (5, .ifCond .eq 7, 3), (8, .iload_n 2, 1), (9, .ifCond .ge 7, 3), (12, .iconst (-1), 1), (13, .goto 31, 3), (16, .iload_n 2, 1), (17, .aload_n 0, 1), (18, .getfield 16, 3), (21, .iconst 3, 1), (22, .iload_n 1, 1), (23, .iadd, 1), (24, .iaload, 1), (25, .if_icmp .ge 17, 3), (28, .aload_n 0, 1), (29, .getfield 9, 3), (32, .iload_n 1, 1), (33, .invokestatic 86, 3), (36, .iload_n 2, 1), (37, .iadd, 1), (38, .iaload, 1), (39, .goto 5, 3), (42, .bipush (-4), 2), (44, .ireturn, 1)]
theorem dtX12_letter_0 : kDec cX12_letter lX12_letter_0 = true := by decide +kernel
noncomputable def fX12_letter (x1 : Int32) (x2 : Int32) (w : rW) : Option Int32 :=
  (fX12_isLine x1 w).bind fun v2 =>
  if v2 = 0 then
  some (-1 : Int32)
  else
  if 0 ≤ x2 then
  (raI w 2 1000 ((3 : Int32) + x1)).bind fun v3 =>
  if v3 ≤ x2 then
  some (-4 : Int32)
  else
  (fX12_textOf x1).bind fun v5 =>
  (raI w 0 10000 (v5 + x2)).bind fun v6 =>
  some v6
  else
  some (-1 : Int32)

set_option maxHeartbeats 4000000 in
set_option maxRecDepth 100000 in
theorem rX12_letter (l : Launch) (D : va_G) (aC : Nat → ClassId) {h0 : Nat} {wB : kW} (hB : rOK h0 wB) {x1 : Int32} {x2 : Int32} {w : rW} {oR : Int32} (h : fX12_letter x1 x2 w = some oR) : kC l D aC yX12_letter cX12_letter 3 (some .int) 3 58 [.ref h0, .int x1, .int x2] (rWo h0 wB w) (some (.int oR)) (rWo h0 wB w) 0 0 := by
  refine kOf (own := RX12) (by decide) rfl (Nat.le_of_ble_eq_true rfl) ?_
  intro p e s m below meth c ls F hml hr hlocks hnm hX hZ hl
  obtain ⟨hx, hb, hts, hown, hK⟩ := id F
  have hl : lv_has ls 3 [(0, .ref h0), (1, .int x1), (2, .int x2)] := hl
  have hf := h
  rw [fX12_letter] at hf
  refine lv_aload_n hx hb (kd dtX12_letter_0 0 rfl) rfl (lv_at hl 0 rfl) ?_
  refine lv_iload_n hx hb (kd dtX12_letter_0 1 rfl) rfl (lv_at hl 1 rfl) ?_
  obtain ⟨v2, h1, hf⟩ := kbind hf
  refine kcallV (n := 1) [.int x1] [] [.int v2] (rX12_isLine l D aC hB h1) rfl hB.1 F hml hX hZ hl.1 mwX12_isLine wmX12_127 rfl (by decide) (by decide +kernel) ⟨(by decide), (by decide)⟩ rfl rfl rfl (Nat.le_of_ble_eq_true rfl) (kd dtX12_letter_0 2 rfl) ⟨Nat.zero_le _, Nat.zero_le _⟩ (fun H locs hX => ?_)
  refine lv_if_eq (tgt := 12) hx hb (kd dtX12_letter_0 3 rfl) (by decide) (fun hc => ?_) (fun hc => ?_)
  · have hf := kif_pos hc hf
    refine lv_iconst (v := (-1 : Int32)) hx hb (kd dtX12_letter_0 6 rfl) (by decide) ?_
    refine lv_goto (tgt := 44) hx hb (kd dtX12_letter_0 7 rfl) (by decide) ?_
    obtain rfl := Option.some.inj hf
    exact kiret F hX hr hlocks rfl (kd dtX12_letter_0 25 rfl)
  · have hf := kif_neg hc hf
    refine lv_iload_n hx hb (kd dtX12_letter_0 4 rfl) rfl (lv_at hl 2 rfl) ?_
    refine lv_if_ge (tgt := 16) hx hb (kd dtX12_letter_0 5 rfl) (by decide) (fun hc => ?_) (fun hc => ?_)
    · have hf := kif_pos hc hf
      refine lv_iload_n hx hb (kd dtX12_letter_0 8 rfl) rfl (lv_at hl 2 rfl) ?_
      refine lv_aload_n hx hb (kd dtX12_letter_0 9 rfl) rfl (lv_at hl 0 rfl) ?_
      refine rgetA (n := 2) (j := 2) hB (by decide) rfl F hX wfX12_16 (by decide) rfl (kd dtX12_letter_0 10 rfl) ?_
      refine lv_iconst (v := (3 : Int32)) hx hb (kd dtX12_letter_0 11 rfl) (by decide) ?_
      refine lv_iload_n hx hb (kd dtX12_letter_0 12 rfl) rfl (lv_at hl 1 rfl) ?_
      refine lv_iadd hx hb (kd dtX12_letter_0 13 rfl) ?_
      obtain ⟨v3, hv3, hf⟩ := kbind hf
      refine rald hB (by decide) hv3 F hX (kd dtX12_letter_0 14 rfl) ?_
      refine lv_icmp_ge (tgt := 42) hx hb (kd dtX12_letter_0 15 rfl) (by decide) (fun hc => ?_) (fun hc => ?_)
      · have hf := kif_pos hc hf
        refine lv_bipush (v := (-4 : Int32)) hx hb (kd dtX12_letter_0 24 rfl) (by decide) ?_
        obtain rfl := Option.some.inj hf
        exact kiret F hX hr hlocks rfl (kd dtX12_letter_0 25 rfl)
      · have hf := kif_neg hc hf
        refine lv_aload_n hx hb (kd dtX12_letter_0 16 rfl) rfl (lv_at hl 0 rfl) ?_
        refine rgetA (n := 0) (j := 0) hB (by decide) rfl F hX wfX12_9 (by decide) rfl (kd dtX12_letter_0 17 rfl) ?_
        refine lv_iload_n hx hb (kd dtX12_letter_0 18 rfl) rfl (lv_at hl 1 rfl) ?_
        obtain ⟨v5, h4, hf⟩ := kbind hf
        refine kcallS (n := 1) [.int x1] [.ref (h0 + 0 + 1)] [.int v5, .ref (h0 + 0 + 1)] (rX12_textOf l D aC (rWo h0 wB w) h4) F hml hX hZ hl.1 mwX12_textOf wmX12_86 (by decide +kernel) ⟨(by decide), (by decide)⟩ rfl rfl rfl (Nat.le_of_ble_eq_true rfl) (kd dtX12_letter_0 19 rfl) ⟨Nat.zero_le _, Nat.zero_le _⟩ (fun H locs hX => ?_)
        refine lv_iload_n hx hb (kd dtX12_letter_0 20 rfl) rfl (lv_at hl 2 rfl) ?_
        refine lv_iadd hx hb (kd dtX12_letter_0 21 rfl) ?_
        obtain ⟨v6, hv6, hf⟩ := kbind hf
        refine rald hB (by decide) hv6 F hX (kd dtX12_letter_0 22 rfl) ?_
        refine lv_goto (tgt := 44) hx hb (kd dtX12_letter_0 23 rfl) (by decide) ?_
        obtain rfl := Option.some.inj hf
        exact kiret F hX hr hlocks rfl (kd dtX12_letter_0 25 rfl)
    · have hf := kif_neg hc hf
      refine lv_iconst (v := (-1 : Int32)) hx hb (kd dtX12_letter_0 6 rfl) (by decide) ?_
      refine lv_goto (tgt := 44) hx hb (kd dtX12_letter_0 7 rfl) (by decide) ?_
      obtain rfl := Option.some.inj hf
      exact kiret F hX hr hlocks rfl (kd dtX12_letter_0 25 rfl)
def lX12_becomes_0 : List (Nat × Instr × Nat) := [(0, .aload_n 0, 1), (1, .getfield 16, 3), (4, .bipush 43, 2), (6, .iload_n 1, 1), (7, .iadd, 1), (8, .iload_n 2, 1), (9, .iastore, 1), (10, .aload_n 0, 1), (11, .getfield 16, 3), (14, .bipush 83, 2), (16, .iload_n 1, 1), (17, .iadd, 1), (18, .iload_n 3, 1), (19, .iastore, 1), (20, .aload_n 0, 1), (21, .getfield 16, 3), (24, .bipush 123, 2), (26, .iload_n 1, 1), (27, .iadd, 1), (28, .iload 4, 2), (30, .iastore, 1), (31, .aload_n 0, 1), (32, .getfield 16, 3), (35, .sipush 163, 3), (38, .iload_n 1, 1), (39, .iadd, 1), (40, .iload 5, 2), (42, .iastore, 1), (43, .aload_n 0, 1), (44, .getfield 16, 3), (47, .sipush 203, 3), (50, .aload_n 0, 1), (51, .getfield 16, 3), (54, .iconst 1, 1), (55, .iaload, 1), (56, .iadd, 1), (57, .iload_n 1, 1), (58, .iastore, 1), (59, .aload_n 0, 1), (60, .getfield 16, 3), (63, .iconst 1, 1), (64, .dup2, 1), (65, .iaload, 1), (66, .iconst 1, 1), (67, .iadd, 1), (68, .iastore, 1), (69, .return_, 1)]
theorem dtX12_becomes_0 : kDec cX12_becomes lX12_becomes_0 = true := by decide +kernel
noncomputable def fX12_becomes (x1 : Int32) (x2 : Int32) (x3 : Int32) (x4 : Int32) (x5 : Int32) (w : rW) : Option rW :=
  (rsI w 2 1000 ((43 : Int32) + x1) x2).bind fun w1 =>
  (rsI w1 2 1000 ((83 : Int32) + x1) x3).bind fun w2 =>
  (rsI w2 2 1000 ((123 : Int32) + x1) x4).bind fun w3 =>
  (rsI w3 2 1000 ((163 : Int32) + x1) x5).bind fun w4 =>
  (raI w4 2 1000 (1 : Int32)).bind fun v5 =>
  (rsI w4 2 1000 ((203 : Int32) + v5) x1).bind fun w6 =>
  (raI w6 2 1000 (1 : Int32)).bind fun v7 =>
  (rsI w6 2 1000 (1 : Int32) (v7 + (1 : Int32))).bind fun w8 =>
  some w8

set_option maxHeartbeats 4000000 in
set_option maxRecDepth 100000 in
theorem rX12_becomes (l : Launch) (D : va_G) (aC : Nat → ClassId) {h0 : Nat} {wB : kW} (hB : rOK h0 wB) {x1 : Int32} {x2 : Int32} {x3 : Int32} {x4 : Int32} {x5 : Int32} {w : rW} {wR : rW} (h : fX12_becomes x1 x2 x3 x4 x5 w = some wR) : kC l D aC yX12_becomes cX12_becomes 6 none 1 12 [.ref h0, .int x1, .int x2, .int x3, .int x4, .int x5] (rWo h0 wB w) none (rWo h0 wB wR) 0 0 := by
  refine kOf (own := RX12) (by decide) rfl (Nat.le_of_ble_eq_true rfl) ?_
  intro p e s m below meth c ls F hml hr hlocks hnm hX hZ hl
  obtain ⟨hx, hb, hts, hown, hK⟩ := id F
  have hl : lv_has ls 6 [(0, .ref h0), (1, .int x1), (2, .int x2), (3, .int x3), (4, .int x4), (5, .int x5)] := hl
  have hf := h
  rw [fX12_becomes] at hf
  refine lv_aload_n hx hb (kd dtX12_becomes_0 0 rfl) rfl (lv_at hl 0 rfl) ?_
  refine rgetA (n := 2) (j := 2) hB (by decide) rfl F hX wfX12_16 (by decide) rfl (kd dtX12_becomes_0 1 rfl) ?_
  refine lv_bipush (v := (43 : Int32)) hx hb (kd dtX12_becomes_0 2 rfl) (by decide) ?_
  refine lv_iload_n hx hb (kd dtX12_becomes_0 3 rfl) rfl (lv_at hl 1 rfl) ?_
  refine lv_iadd hx hb (kd dtX12_becomes_0 4 rfl) ?_
  refine lv_iload_n hx hb (kd dtX12_becomes_0 5 rfl) rfl (lv_at hl 2 rfl) ?_
  obtain ⟨w1, hw1, hf⟩ := kbind hf
  refine rast hB (by decide) hw1 F hX (kd dtX12_becomes_0 6 rfl) (fun H locs hX => ?_)
  refine lv_aload_n hx hb (kd dtX12_becomes_0 7 rfl) rfl (lv_at hl 0 rfl) ?_
  refine rgetA (n := 2) (j := 2) hB (by decide) rfl F hX wfX12_16 (by decide) rfl (kd dtX12_becomes_0 8 rfl) ?_
  refine lv_bipush (v := (83 : Int32)) hx hb (kd dtX12_becomes_0 9 rfl) (by decide) ?_
  refine lv_iload_n hx hb (kd dtX12_becomes_0 10 rfl) rfl (lv_at hl 1 rfl) ?_
  refine lv_iadd hx hb (kd dtX12_becomes_0 11 rfl) ?_
  refine lv_iload_n hx hb (kd dtX12_becomes_0 12 rfl) rfl (lv_at hl 3 rfl) ?_
  obtain ⟨w2, hw2, hf⟩ := kbind hf
  refine rast hB (by decide) hw2 F hX (kd dtX12_becomes_0 13 rfl) (fun H locs hX => ?_)
  refine lv_aload_n hx hb (kd dtX12_becomes_0 14 rfl) rfl (lv_at hl 0 rfl) ?_
  refine rgetA (n := 2) (j := 2) hB (by decide) rfl F hX wfX12_16 (by decide) rfl (kd dtX12_becomes_0 15 rfl) ?_
  refine lv_bipush (v := (123 : Int32)) hx hb (kd dtX12_becomes_0 16 rfl) (by decide) ?_
  refine lv_iload_n hx hb (kd dtX12_becomes_0 17 rfl) rfl (lv_at hl 1 rfl) ?_
  refine lv_iadd hx hb (kd dtX12_becomes_0 18 rfl) ?_
  refine lv_iload hx hb (kd dtX12_becomes_0 19 rfl) (lv_at hl 4 rfl) ?_
  obtain ⟨w3, hw3, hf⟩ := kbind hf
  refine rast hB (by decide) hw3 F hX (kd dtX12_becomes_0 20 rfl) (fun H locs hX => ?_)
  refine lv_aload_n hx hb (kd dtX12_becomes_0 21 rfl) rfl (lv_at hl 0 rfl) ?_
  refine rgetA (n := 2) (j := 2) hB (by decide) rfl F hX wfX12_16 (by decide) rfl (kd dtX12_becomes_0 22 rfl) ?_
  refine lv_sipush (v := (163 : Int32)) hx hb (kd dtX12_becomes_0 23 rfl) (by decide) ?_
  refine lv_iload_n hx hb (kd dtX12_becomes_0 24 rfl) rfl (lv_at hl 1 rfl) ?_
  refine lv_iadd hx hb (kd dtX12_becomes_0 25 rfl) ?_
  refine lv_iload hx hb (kd dtX12_becomes_0 26 rfl) (lv_at hl 5 rfl) ?_
  obtain ⟨w4, hw4, hf⟩ := kbind hf
  refine rast hB (by decide) hw4 F hX (kd dtX12_becomes_0 27 rfl) (fun H locs hX => ?_)
  refine lv_aload_n hx hb (kd dtX12_becomes_0 28 rfl) rfl (lv_at hl 0 rfl) ?_
  refine rgetA (n := 2) (j := 2) hB (by decide) rfl F hX wfX12_16 (by decide) rfl (kd dtX12_becomes_0 29 rfl) ?_
  refine lv_sipush (v := (203 : Int32)) hx hb (kd dtX12_becomes_0 30 rfl) (by decide) ?_
  refine lv_aload_n hx hb (kd dtX12_becomes_0 31 rfl) rfl (lv_at hl 0 rfl) ?_
  refine rgetA (n := 2) (j := 2) hB (by decide) rfl F hX wfX12_16 (by decide) rfl (kd dtX12_becomes_0 32 rfl) ?_
  refine lv_iconst (v := (1 : Int32)) hx hb (kd dtX12_becomes_0 33 rfl) (by decide) ?_
  obtain ⟨v5, hv5, hf⟩ := kbind hf
  refine rald hB (by decide) hv5 F hX (kd dtX12_becomes_0 34 rfl) ?_
  refine lv_iadd hx hb (kd dtX12_becomes_0 35 rfl) ?_
  refine lv_iload_n hx hb (kd dtX12_becomes_0 36 rfl) rfl (lv_at hl 1 rfl) ?_
  obtain ⟨w6, hw6, hf⟩ := kbind hf
  refine rast hB (by decide) hw6 F hX (kd dtX12_becomes_0 37 rfl) (fun H locs hX => ?_)
  refine lv_aload_n hx hb (kd dtX12_becomes_0 38 rfl) rfl (lv_at hl 0 rfl) ?_
  refine rgetA (n := 2) (j := 2) hB (by decide) rfl F hX wfX12_16 (by decide) rfl (kd dtX12_becomes_0 39 rfl) ?_
  refine lv_iconst (v := (1 : Int32)) hx hb (kd dtX12_becomes_0 40 rfl) (by decide) ?_
  refine lv_dup2_11 hx hb (kd dtX12_becomes_0 41 rfl) rfl rfl ?_
  obtain ⟨v7, hv7, hf⟩ := kbind hf
  refine rald hB (by decide) hv7 F hX (kd dtX12_becomes_0 42 rfl) ?_
  refine lv_iconst (v := (1 : Int32)) hx hb (kd dtX12_becomes_0 43 rfl) (by decide) ?_
  refine lv_iadd hx hb (kd dtX12_becomes_0 44 rfl) ?_
  obtain ⟨w8, hw8, hf⟩ := kbind hf
  refine rast hB (by decide) hw8 F hX (kd dtX12_becomes_0 45 rfl) (fun H locs hX => ?_)
  obtain rfl := Option.some.inj hf
  exact kvret F hX hr hlocks rfl (kd dtX12_becomes_0 46 rfl)
theorem wmX12_144 : Cond.methodLink RX12 144 yX12_isKnown ∈ kT := kTm 1459 (by decide +kernel) rfl
theorem mwX12_isKnown : kMV RX12 yX12_isKnown cX12_isKnown 2 (some .boolean) := ⟨kTm 1462 (by decide +kernel) rfl, kTm 106 (by decide +kernel) rfl, kTm 1461 (by decide +kernel) rfl, kTm 57 (by decide +kernel) rfl⟩
theorem wmX12_147 : Cond.methodLink RX12 147 yX12_becomes ∈ kT := kTm 1463 (by decide +kernel) rfl
theorem mwX12_becomes : kMV RX12 yX12_becomes cX12_becomes 6 none := ⟨kTm 1466 (by decide +kernel) rfl, kTm 106 (by decide +kernel) rfl, kTm 1465 (by decide +kernel) rfl, kTm 58 (by decide +kernel) rfl⟩
def lX12_give_0 : List (Nat × Instr × Nat) := [(0, .aload_n 0, 1), (1, .iload_n 1, 1), (2, .invokevirtual 127, 3), (5, .ifCond .ne 5, 3), (8, .iconst (-1), 1), (9, .ireturn, 1), (10, .aload_n 0, 1), (11, .iload_n 1, 1), (12, .invokevirtual 144, 3), (15, .ifCond .eq 5, 3), (18, .iconst 0, 1), (19, .ireturn, 1), (20, .aload_n 0, 1), (21, .iload_n 1, 1), (22, .iconst 1, 1), (23, .bipush (-4), 2), (25, .bipush (-4), 2), (27, .bipush (-4), 2), (29, .invokevirtual 147, 3), (32, .iconst 1, 1), (33, .ireturn, 1)]
theorem dtX12_give_0 : kDec cX12_give lX12_give_0 = true := by decide +kernel
noncomputable def fX12_give (x1 : Int32) (w : rW) : Option (Int32 × rW) :=
  (fX12_isLine x1 w).bind fun v2 =>
  if v2 = 0 then
  some ((-1 : Int32), w)
  else
  (fX12_isKnown x1 w).bind fun v4 =>
  if v4 = 0 then
  (fX12_becomes x1 (1 : Int32) (-4 : Int32) (-4 : Int32) (-4 : Int32) w).bind fun w5 =>
  some ((1 : Int32), w5)
  else
  some ((0 : Int32), w)

set_option maxHeartbeats 4000000 in
set_option maxRecDepth 100000 in
theorem rX12_give (l : Launch) (D : va_G) (aC : Nat → ClassId) {h0 : Nat} {wB : kW} (hB : rOK h0 wB) {x1 : Int32} {w : rW} {wR : rW} {oR : Int32} (h : fX12_give x1 w = some (oR, wR)) : kC l D aC yX12_give cX12_give 2 (some .int) 3 58 [.ref h0, .int x1] (rWo h0 wB w) (some (.int oR)) (rWo h0 wB wR) 0 0 := by
  refine kOf (own := RX12) (by decide) rfl (Nat.le_of_ble_eq_true rfl) ?_
  intro p e s m below meth c ls F hml hr hlocks hnm hX hZ hl
  obtain ⟨hx, hb, hts, hown, hK⟩ := id F
  have hl : lv_has ls 2 [(0, .ref h0), (1, .int x1)] := hl
  have hf := h
  rw [fX12_give] at hf
  refine lv_aload_n hx hb (kd dtX12_give_0 0 rfl) rfl (lv_at hl 0 rfl) ?_
  refine lv_iload_n hx hb (kd dtX12_give_0 1 rfl) rfl (lv_at hl 1 rfl) ?_
  obtain ⟨v2, h1, hf⟩ := kbind hf
  refine kcallV (n := 1) [.int x1] [] [.int v2] (rX12_isLine l D aC hB h1) rfl hB.1 F hml hX hZ hl.1 mwX12_isLine wmX12_127 rfl (by decide) (by decide +kernel) ⟨(by decide), (by decide)⟩ rfl rfl rfl (Nat.le_of_ble_eq_true rfl) (kd dtX12_give_0 2 rfl) ⟨Nat.zero_le _, Nat.zero_le _⟩ (fun H locs hX => ?_)
  refine lv_if_ne (tgt := 10) hx hb (kd dtX12_give_0 3 rfl) (by decide) (fun hc => ?_) (fun hc => ?_)
  · have hf := kif_neg hc hf
    refine lv_aload_n hx hb (kd dtX12_give_0 6 rfl) rfl (lv_at hl 0 rfl) ?_
    refine lv_iload_n hx hb (kd dtX12_give_0 7 rfl) rfl (lv_at hl 1 rfl) ?_
    obtain ⟨v4, h3, hf⟩ := kbind hf
    refine kcallV (n := 1) [.int x1] [] [.int v4] (rX12_isKnown l D aC hB h3) rfl hB.1 F hml hX hZ hl.1 mwX12_isKnown wmX12_144 rfl (by decide) (by decide +kernel) ⟨(by decide), (by decide)⟩ rfl rfl rfl (Nat.le_of_ble_eq_true rfl) (kd dtX12_give_0 8 rfl) ⟨Nat.zero_le _, Nat.zero_le _⟩ (fun H locs hX => ?_)
    refine lv_if_eq (tgt := 20) hx hb (kd dtX12_give_0 9 rfl) (by decide) (fun hc => ?_) (fun hc => ?_)
    · have hf := kif_pos hc hf
      refine lv_aload_n hx hb (kd dtX12_give_0 12 rfl) rfl (lv_at hl 0 rfl) ?_
      refine lv_iload_n hx hb (kd dtX12_give_0 13 rfl) rfl (lv_at hl 1 rfl) ?_
      refine lv_iconst (v := (1 : Int32)) hx hb (kd dtX12_give_0 14 rfl) (by decide) ?_
      refine lv_bipush (v := (-4 : Int32)) hx hb (kd dtX12_give_0 15 rfl) (by decide) ?_
      refine lv_bipush (v := (-4 : Int32)) hx hb (kd dtX12_give_0 16 rfl) (by decide) ?_
      refine lv_bipush (v := (-4 : Int32)) hx hb (kd dtX12_give_0 17 rfl) (by decide) ?_
      obtain ⟨w5, h6, hf⟩ := kbind hf
      refine kcallV (n := 5) [.int x1, .int (1 : Int32), .int (-4 : Int32), .int (-4 : Int32), .int (-4 : Int32)] [] [] (rX12_becomes l D aC hB h6) rfl hB.1 F hml hX hZ hl.1 mwX12_becomes wmX12_147 rfl (by decide) (by decide +kernel) ⟨(by decide), (by decide)⟩ rfl rfl rfl (Nat.le_of_ble_eq_true rfl) (kd dtX12_give_0 18 rfl) ⟨Nat.zero_le _, Nat.zero_le _⟩ (fun H locs hX => ?_)
      refine lv_iconst (v := (1 : Int32)) hx hb (kd dtX12_give_0 19 rfl) (by decide) ?_
      obtain ⟨rfl, rfl⟩ := Prod.mk.inj (Option.some.inj hf)
      exact kiret F hX hr hlocks rfl (kd dtX12_give_0 20 rfl)
    · have hf := kif_neg hc hf
      refine lv_iconst (v := (0 : Int32)) hx hb (kd dtX12_give_0 10 rfl) (by decide) ?_
      obtain ⟨rfl, rfl⟩ := Prod.mk.inj (Option.some.inj hf)
      exact kiret F hX hr hlocks rfl (kd dtX12_give_0 11 rfl)
  · have hf := kif_pos hc hf
    refine lv_iconst (v := (-1 : Int32)) hx hb (kd dtX12_give_0 4 rfl) (by decide) ?_
    obtain ⟨rfl, rfl⟩ := Prod.mk.inj (Option.some.inj hf)
    exact kiret F hX hr hlocks rfl (kd dtX12_give_0 5 rfl)
def lX12_table_0 : List (Nat × Instr × Nat) := [(0, .aload_n 0, 1), (1, .iload_n 1, 1), (2, .invokevirtual 127, 3), (5, .ifCond .eq 11, 3), (8, .aload_n 0, 1), (9, .iload_n 1, 1), (10, .invokevirtual 93, 3), (13, .goto 4, 3), (16, .iconst (-1), 1), (17, .ireturn, 1)]
theorem dtX12_table_0 : kDec cX12_table lX12_table_0 = true := by decide +kernel
noncomputable def fX12_table (x1 : Int32) (w : rW) : Option Int32 :=
  (fX12_isLine x1 w).bind fun v2 =>
  if v2 = 0 then
  some (-1 : Int32)
  else
  (fX12_tableOf x1 w).bind fun v4 =>
  some v4

set_option maxHeartbeats 4000000 in
set_option maxRecDepth 100000 in
theorem rX12_table (l : Launch) (D : va_G) (aC : Nat → ClassId) {h0 : Nat} {wB : kW} (hB : rOK h0 wB) {x1 : Int32} {w : rW} {oR : Int32} (h : fX12_table x1 w = some oR) : kC l D aC yX12_table cX12_table 2 (some .int) 805 19305 [.ref h0, .int x1] (rWo h0 wB w) (some (.int oR)) (rWo h0 wB w) 0 0 := by
  refine kOf (own := RX12) (by decide) rfl (Nat.le_of_ble_eq_true rfl) ?_
  intro p e s m below meth c ls F hml hr hlocks hnm hX hZ hl
  obtain ⟨hx, hb, hts, hown, hK⟩ := id F
  have hl : lv_has ls 2 [(0, .ref h0), (1, .int x1)] := hl
  have hf := h
  rw [fX12_table] at hf
  refine lv_aload_n hx hb (kd dtX12_table_0 0 rfl) rfl (lv_at hl 0 rfl) ?_
  refine lv_iload_n hx hb (kd dtX12_table_0 1 rfl) rfl (lv_at hl 1 rfl) ?_
  obtain ⟨v2, h1, hf⟩ := kbind hf
  refine kcallV (n := 1) [.int x1] [] [.int v2] (rX12_isLine l D aC hB h1) rfl hB.1 F hml hX hZ hl.1 mwX12_isLine wmX12_127 rfl (by decide) (by decide +kernel) ⟨(by decide), (by decide)⟩ rfl rfl rfl (Nat.le_of_ble_eq_true rfl) (kd dtX12_table_0 2 rfl) ⟨Nat.zero_le _, Nat.zero_le _⟩ (fun H locs hX => ?_)
  refine lv_if_eq (tgt := 16) hx hb (kd dtX12_table_0 3 rfl) (by decide) (fun hc => ?_) (fun hc => ?_)
  · have hf := kif_pos hc hf
    refine lv_iconst (v := (-1 : Int32)) hx hb (kd dtX12_table_0 8 rfl) (by decide) ?_
    obtain rfl := Option.some.inj hf
    exact kiret F hX hr hlocks rfl (kd dtX12_table_0 9 rfl)
  · have hf := kif_neg hc hf
    refine lv_aload_n hx hb (kd dtX12_table_0 4 rfl) rfl (lv_at hl 0 rfl) ?_
    refine lv_iload_n hx hb (kd dtX12_table_0 5 rfl) rfl (lv_at hl 1 rfl) ?_
    obtain ⟨v4, h3, hf⟩ := kbind hf
    refine kcallV (n := 1) [.int x1] [] [.int v4] (rX12_tableOf l D aC hB h3) rfl hB.1 F hml hX hZ hl.1 mwX12_tableOf wmX12_93 rfl (by decide) (by decide +kernel) ⟨(by decide), (by decide)⟩ rfl rfl rfl (Nat.le_of_ble_eq_true rfl) (kd dtX12_table_0 6 rfl) ⟨Nat.zero_le _, Nat.zero_le _⟩ (fun H locs hX => ?_)
    refine lv_goto (tgt := 17) hx hb (kd dtX12_table_0 7 rfl) (by decide) ?_
    obtain rfl := Option.some.inj hf
    exact kiret F hX hr hlocks rfl (kd dtX12_table_0 9 rfl)
def lX12_forgets_0 : List (Nat × Instr × Nat) := [(0, .iconst 0, 1), (1, .istore_n 1, 1), (2, .iload_n 1, 1), (3, .bipush 6, 2), (5, .if_icmp .ge 17, 3), (8, .aload_n 0, 1), (9, .getfield 40, 3), (12, .iload_n 1, 1), (13, .bipush (-4), 2), (15, .iastore, 1), (16, .iinc 1 1, 3), (19, .goto (-17), 3), (22, .return_, 1)]
theorem dtX12_forgets_0 : kDec cX12_forgets lX12_forgets_0 = true := by decide +kernel
noncomputable def fX12_forgets_L2  : Nat → (Int32 → rW → Option rW) → Int32 → rW → Option rW
  | 0, _, _, _ => none
  | n + 1, k, x1, w =>
  if (6 : Int32) ≤ x1 then
  k x1 w
  else
  (rsI w 10 6 x1 (-4 : Int32)).bind fun w1 =>
  fX12_forgets_L2 n k (x1 + (1 : Int32)) w1

noncomputable def fX12_forgets (w : rW) : Option rW :=
  fX12_forgets_L2 kFU (fun y1_1 w2 => some w2) (0 : Int32) w

set_option maxHeartbeats 4000000 in
set_option maxRecDepth 100000 in
theorem rX12_forgets (l : Launch) (D : va_G) (aC : Nat → ClassId) {h0 : Nat} {wB : kW} (hB : rOK h0 wB) {w : rW} {wR : rW} (h : fX12_forgets w = some wR) : kC l D aC yX12_forgets cX12_forgets 2 none 1 12 [.ref h0] (rWo h0 wB w) none (rWo h0 wB wR) 0 0 := by
  refine kOf (own := RX12) (by decide) rfl (Nat.le_of_ble_eq_true rfl) ?_
  intro p e s m below meth c ls F hml hr hlocks hnm hX hZ hl
  obtain ⟨hx, hb, hts, hown, hK⟩ := id F
  have hl : lv_has ls 2 [(0, .ref h0)] := hl
  have hf := h
  rw [fX12_forgets] at hf
  refine lv_iconst (v := (0 : Int32)) hx hb (kd dtX12_forgets_0 0 rfl) (by decide) ?_
  refine lv_istore_n (lv' := [(1, .int (0 : Int32)), (0, .ref h0)]) hx hb (kd dtX12_forgets_0 1 rfl) rfl hl (by decide) rfl (fun ls hl => ?_)
  have hL2 : ∀ (n : Nat) (k : Int32 → rW → Option rW), ∀ (z1_2 : Int32) (w_2 : rW) (H : Heap) (locs : List Loc) (ls : Array Slot), kX D aC (rWo h0 wB w) s.heap (rWo h0 wB w_2) H locs → lv_has ls 2 [(0, .ref h0), (1, .int z1_2)] → fX12_forgets_L2 n k z1_2 w_2 = some wR → (∀ (z1_2 : Int32) (w_2 : rW) (H : Heap) (locs : List Loc) (ls : Array Slot), kX D aC (rWo h0 wB w) s.heap (rWo h0 wB w_2) H locs → lv_has ls 2 [(0, .ref h0), (1, .int z1_2)] → k z1_2 w_2 = some wR → W p l e { frames := 1, cells := 0, slots := 0, locals := 12 } s m ([.ref h0] : List Value).toArray below meth c H locs 0 0 (MQ below (kQc D aC (rWo h0 wB w) none (rWo h0 wB wR)) ([.ref h0] : List Value).toArray s 0 0 (kA (rWo h0 wB w))) (F0 m 22 ls [])) → W p l e { frames := 1, cells := 0, slots := 0, locals := 12 } s m ([.ref h0] : List Value).toArray below meth c H locs 0 0 (MQ below (kQc D aC (rWo h0 wB w) none (rWo h0 wB wR)) ([.ref h0] : List Value).toArray s 0 0 (kA (rWo h0 wB w))) (F0 m 2 ls []) := by
    intro n k
    induction n with
    | zero =>
      intro z1_2 w_2 H locs ls hX hl hf hk
      rw [fX12_forgets_L2] at hf
      cases hf
    | succ n ih =>
      intro z1_2 w_2 H locs ls hX hl hf hk
      rw [fX12_forgets_L2] at hf
      refine lv_iload_n hx hb (kd dtX12_forgets_0 2 rfl) rfl (lv_at hl 1 rfl) ?_
      refine lv_bipush (v := (6 : Int32)) hx hb (kd dtX12_forgets_0 3 rfl) (by decide) ?_
      refine lv_icmp_ge (tgt := 22) hx hb (kd dtX12_forgets_0 4 rfl) (by decide) (fun hc => ?_) (fun hc => ?_)
      · have hf := kif_pos hc hf
        exact hk z1_2 w_2 _ _ _ hX hl hf
      · have hf := kif_neg hc hf
        refine lv_aload_n hx hb (kd dtX12_forgets_0 5 rfl) rfl (lv_at hl 0 rfl) ?_
        refine rgetA (n := 10) (j := 15) hB (by decide) rfl F hX wfX12_40 (by decide) rfl (kd dtX12_forgets_0 6 rfl) ?_
        refine lv_iload_n hx hb (kd dtX12_forgets_0 7 rfl) rfl (lv_at hl 1 rfl) ?_
        refine lv_bipush (v := (-4 : Int32)) hx hb (kd dtX12_forgets_0 8 rfl) (by decide) ?_
        obtain ⟨w3, hw3, hf⟩ := kbind hf
        refine rast hB (by decide) hw3 F hX (kd dtX12_forgets_0 9 rfl) (fun H locs hX => ?_)
        refine lv_iinc (v := z1_2 + (1 : Int32)) (lv' := [(1, .int (z1_2 + (1 : Int32))), (0, .ref h0)]) hx hb (kd dtX12_forgets_0 10 rfl) hl (k := 1) rfl (by rfl) (by decide) rfl (fun ls hl => ?_)
        refine lv_goto (tgt := 2) hx hb (kd dtX12_forgets_0 11 rfl) (by decide) ?_
        exact ih (z1_2 + (1 : Int32)) w3 _ _ _ hX (lv_sub hl [1, 0] rfl) hf hk
  refine hL2 kFU _ (0 : Int32) w _ _ _ hX (lv_sub hl [1, 0] rfl) hf ?_
  intro y1_1 w2 H locs ls hX hl hf
  obtain rfl := Option.some.inj hf
  exact kvret F hX hr hlocks rfl (kd dtX12_forgets_0 12 rfl)
theorem wmX12_155 : Cond.methodLink RX12 155 yX12_goes ∈ kT := kTm 1492 (by decide +kernel) rfl
theorem mwX12_goes : kMV RX12 yX12_goes cX12_goes 6 (some .boolean) := ⟨kTm 1495 (by decide +kernel) rfl, kTm 106 (by decide +kernel) rfl, kTm 1494 (by decide +kernel) rfl, kTm 63 (by decide +kernel) rfl⟩
theorem wmX12_151 : Cond.methodLink RX12 151 yX12_same ∈ kT := kTm 1476 (by decide +kernel) rfl
theorem mwX12_same : kMV RX12 yX12_same cX12_same 6 (some .boolean) := ⟨kTm 1479 (by decide +kernel) rfl, kTm 106 (by decide +kernel) rfl, kTm 1478 (by decide +kernel) rfl, kTm 59 (by decide +kernel) rfl⟩
def lX12_goes_0 : List (Nat × Instr × Nat) := [(0, .aload_n 0, 1), (1, .getfield 9, 3), (4, .iload_n 1, 1), (5, .iaload, 1), (6, .istore_n 3, 1), (7, .iload_n 3, 1), (8, .invokestatic 71, 3), (11, .ifCond .eq 67, 3), (14, .iload_n 3, 1), (15, .bipush 112, 2), (17, .isub, 1), (18, .istore 4, 2), (20, .aload_n 0, 1), (21, .iload_n 2, 1), (22, .invokevirtual 75, 3), (25, .istore 5, 2), (27, .aload_n 0, 1), (28, .getfield 40, 3), (31, .iload 4, 2), (33, .iaload, 1), (34, .ifCond .lt 25, 3), (37, .aload_n 0, 1), (38, .aload_n 0, 1), (39, .getfield 40, 3), (42, .iload 4, 2), (44, .iaload, 1), (45, .aload_n 0, 1), (46, .getfield 43, 3), (49, .iload 4, 2), (51, .iaload, 1), (52, .iload_n 2, 1), (53, .iload 5, 2), (55, .invokevirtual 151, 3), (58, .ireturn, 1), (59, .aload_n 0, 1), (60, .getfield 40, 3), (63, .iload 4, 2), (65, .iload_n 2, 1), (66, .iastore, 1), (67, .aload_n 0, 1), (68, .getfield 43, 3), (71, .iload 4, 2), (73, .iload 5, 2), (75, .iastore, 1), (76, .iconst 1, 1), (77, .ireturn, 1), (78, .aload_n 0, 1), (79, .getfield 9, 3), (82, .iload_n 2, 1), (83, .iaload, 1), (84, .iload_n 3, 1), (85, .if_icmp .eq 5, 3), (88, .iconst 0, 1), (89, .ireturn, 1), (90, .iload_n 3, 1), (91, .bipush 126, 2), (93, .if_icmp .ne 14, 3), (96, .aload_n 0, 1), (97, .iload_n 1, 1), (98, .iconst 1, 1), (99, .iadd, 1), (100, .iload_n 2, 1), (101, .iconst 1, 1), (102, .iadd, 1), (103, .invokevirtual 155, 3), (106, .ireturn, 1), (107, .aload_n 0, 1), (108, .iload_n 1, 1), (109, .iconst 1, 1), (110, .iadd, 1), (111, .invokevirtual 75, 3), (114, .istore 4, 2), (116, .aload_n 0, 1), (117, .iload_n 2, 1), (118, .iconst 1, 1), (119, .iadd, 1), (120, .invokevirtual 75, 3), (123, .istore 5, 2), (125, .aload_n 0, 1), (126, .getfield 9, 3)]
theorem dtX12_goes_0 : kDec cX12_goes lX12_goes_0 = true := by decide +kernel
def lX12_goes_1 : List (Nat × Instr × Nat) := [(129, .iload 4, 2), (131, .iaload, 1), (132, .aload_n 0, 1), (133, .getfield 9, 3), (136, .iload 5, 2), (138, .iaload, 1), (139, .if_icmp .ne 35, 3), (142, .aload_n 0, 1), (143, .iload_n 1, 1), (144, .iconst 1, 1), (145, .iadd, 1), (146, .iload_n 2, 1), (147, .iconst 1, 1), (148, .iadd, 1), (149, .invokevirtual 155, 3), (152, .ifCond .eq 22, 3), (155, .aload_n 0, 1), (156, .iload 4, 2), (158, .iconst 1, 1), (159, .iadd, 1), (160, .iload 5, 2), (162, .iconst 1, 1), (163, .iadd, 1), (164, .invokevirtual 155, 3), (167, .ifCond .eq 7, 3), (170, .iconst 1, 1), (171, .goto 4, 3), (174, .iconst 0, 1), (175, .ireturn, 1)]
theorem dtX12_goes_1 : kDec cX12_goes lX12_goes_1 = true := by decide +kernel
noncomputable def fX12_goes : Nat → Int32 → Int32 → rW → Option (Int32 × rW)
  | 0, _, _, _ => none
  | dp + 1, x1, x2, w =>
  (raI w 0 10000 x1).bind fun v1 =>
  (fX12_isLetter v1).bind fun v3 =>
  if v3 = 0 then
  (raI w 0 10000 x2).bind fun v4 =>
  if v4 = v1 then
  if v1 = (126 : Int32) then
  kb2 (fX12_goes dp (x1 + (1 : Int32)) (x2 + (1 : Int32)) w) fun v19 w17 =>
  (kBl v19).bind fun v20 =>
  some (v20, w17)
  else
  (fX12_end kDP (x1 + (1 : Int32)) w).bind fun v6 =>
  (fX12_end kDP (x2 + (1 : Int32)) w).bind fun v8 =>
  (raI w 0 10000 v6).bind fun v9 =>
  (raI w 0 10000 v8).bind fun v10 =>
  if v9 = v10 then
  kb2 (fX12_goes dp (x1 + (1 : Int32)) (x2 + (1 : Int32)) w) fun v13 w11 =>
  if v13 = 0 then
  some ((0 : Int32), w11)
  else
  kb2 (fX12_goes dp (v6 + (1 : Int32)) (v8 + (1 : Int32)) w11) fun v16 w14 =>
  if v16 = 0 then
  some ((0 : Int32), w14)
  else
  some ((1 : Int32), w14)
  else
  some ((0 : Int32), w)
  else
  some ((0 : Int32), w)
  else
  (fX12_end kDP x2 w).bind fun v22 =>
  (raI w 10 6 (v1 - (112 : Int32))).bind fun v23 =>
  if v23 < 0 then
  (rsI w 10 6 (v1 - (112 : Int32)) x2).bind fun w24 =>
  (rsI w24 11 6 (v1 - (112 : Int32)) v22).bind fun w25 =>
  some ((1 : Int32), w25)
  else
  (raI w 10 6 (v1 - (112 : Int32))).bind fun v26 =>
  (raI w 11 6 (v1 - (112 : Int32))).bind fun v27 =>
  (fX12_same v26 v27 x2 v22 w).bind fun v29 =>
  (kBl v29).bind fun v30 =>
  some (v30, w)

set_option maxHeartbeats 4000000 in
set_option maxRecDepth 100000 in
theorem rX12_goes_dp (l : Launch) (D : va_G) (aC : Nat → ClassId) {h0 : Nat} {wB : kW} (hB : rOK h0 wB) : ∀ (dp : Nat) {x1 : Int32} {x2 : Int32} {w : rW} {wR : rW} {oR : Int32}, fX12_goes dp x1 x2 w = some (oR, wR) → kC l D aC yX12_goes cX12_goes 6 (some .boolean) (dp + 403) (dp * 25 + 8854) [.ref h0, .int x1, .int x2] (rWo h0 wB w) (some (.int oR)) (rWo h0 wB wR) 0 0 := by
  intro dp
  induction dp with
  | zero =>
    intro x1 x2 w wR oR h
    rw [fX12_goes] at h
    cases h
  | succ dp IH =>
    intro x1 x2 w wR oR h
    refine kOf (own := RX12) (by decide) rfl (Nat.le_of_ble_eq_true rfl) ?_
    intro p e s m below meth c ls F hml hr hlocks hnm hX hZ hl
    obtain ⟨hx, hb, hts, hown, hK⟩ := id F
    have hl : lv_has ls 6 [(0, .ref h0), (1, .int x1), (2, .int x2)] := hl
    have hf := h
    rw [fX12_goes] at hf
    refine lv_aload_n hx hb (kd dtX12_goes_0 0 rfl) rfl (lv_at hl 0 rfl) ?_
    refine rgetA (n := 0) (j := 0) hB (by decide) rfl F hX wfX12_9 (by decide) rfl (kd dtX12_goes_0 1 rfl) ?_
    refine lv_iload_n hx hb (kd dtX12_goes_0 2 rfl) rfl (lv_at hl 1 rfl) ?_
    obtain ⟨v1, hv1, hf⟩ := kbind hf
    refine rald hB (by decide) hv1 F hX (kd dtX12_goes_0 3 rfl) ?_
    refine lv_istore_n (lv' := [(3, .int v1), (0, .ref h0), (1, .int x1), (2, .int x2)]) hx hb (kd dtX12_goes_0 4 rfl) rfl hl (by decide) rfl (fun ls hl => ?_)
    refine lv_iload_n hx hb (kd dtX12_goes_0 5 rfl) rfl (lv_at hl 0 rfl) ?_
    obtain ⟨v3, h2, hf⟩ := kbind hf
    refine kcallS (n := 1) [.int v1] [] [.int v3] (rX12_isLetter l D aC (rWo h0 wB w) h2) F hml hX hZ hl.1 mwX12_isLetter wmX12_71 (by decide +kernel) ⟨(by dsimp only; omega), (by dsimp only; omega)⟩ rfl rfl rfl (Nat.le_of_ble_eq_true rfl) (kd dtX12_goes_0 6 rfl) ⟨Nat.zero_le _, Nat.zero_le _⟩ (fun H locs hX => ?_)
    refine lv_if_eq (tgt := 78) hx hb (kd dtX12_goes_0 7 rfl) (by decide) (fun hc => ?_) (fun hc => ?_)
    · have hf := kif_pos hc hf
      refine lv_aload_n hx hb (kd dtX12_goes_0 46 rfl) rfl (lv_at hl 1 rfl) ?_
      refine rgetA (n := 0) (j := 0) hB (by decide) rfl F hX wfX12_9 (by decide) rfl (kd dtX12_goes_0 47 rfl) ?_
      refine lv_iload_n hx hb (kd dtX12_goes_0 48 rfl) rfl (lv_at hl 3 rfl) ?_
      obtain ⟨v4, hv4, hf⟩ := kbind hf
      refine rald hB (by decide) hv4 F hX (kd dtX12_goes_0 49 rfl) ?_
      refine lv_iload_n hx hb (kd dtX12_goes_0 50 rfl) rfl (lv_at hl 0 rfl) ?_
      refine lv_icmp_eq (tgt := 90) hx hb (kd dtX12_goes_0 51 rfl) (by decide) (fun hc => ?_) (fun hc => ?_)
      · have hf := kif_pos hc hf
        refine lv_iload_n hx hb (kd dtX12_goes_0 54 rfl) rfl (lv_at hl 0 rfl) ?_
        refine lv_bipush (v := (126 : Int32)) hx hb (kd dtX12_goes_0 55 rfl) (by decide) ?_
        refine lv_icmp_ne (tgt := 107) hx hb (kd dtX12_goes_0 56 rfl) (by decide) (fun hc => ?_) (fun hc => ?_)
        · have hf := kif_neg hc hf
          refine lv_aload_n hx hb (kd dtX12_goes_0 66 rfl) rfl (lv_at hl 1 rfl) ?_
          refine lv_iload_n hx hb (kd dtX12_goes_0 67 rfl) rfl (lv_at hl 2 rfl) ?_
          refine lv_iconst (v := (1 : Int32)) hx hb (kd dtX12_goes_0 68 rfl) (by decide) ?_
          refine lv_iadd hx hb (kd dtX12_goes_0 69 rfl) ?_
          obtain ⟨v6, h5, hf⟩ := kbind hf
          refine kcallV (n := 1) [.int (x1 + (1 : Int32))] [] [.int v6] (rX12_end l D aC hB h5) rfl hB.1 F hml hX hZ hl.1 mwX12_end wmX12_75 rfl (by decide) (by decide +kernel) ⟨(by dsimp only; omega), (by dsimp only; omega)⟩ rfl rfl rfl (Nat.le_of_ble_eq_true rfl) (kd dtX12_goes_0 70 rfl) ⟨Nat.zero_le _, Nat.zero_le _⟩ (fun H locs hX => ?_)
          refine lv_istore (lv' := [(4, .int v6), (3, .int v1), (0, .ref h0), (1, .int x1), (2, .int x2)]) hx hb (kd dtX12_goes_0 71 rfl) hl (by decide) rfl (fun ls hl => ?_)
          refine lv_aload_n hx hb (kd dtX12_goes_0 72 rfl) rfl (lv_at hl 2 rfl) ?_
          refine lv_iload_n hx hb (kd dtX12_goes_0 73 rfl) rfl (lv_at hl 4 rfl) ?_
          refine lv_iconst (v := (1 : Int32)) hx hb (kd dtX12_goes_0 74 rfl) (by decide) ?_
          refine lv_iadd hx hb (kd dtX12_goes_0 75 rfl) ?_
          obtain ⟨v8, h7, hf⟩ := kbind hf
          refine kcallV (n := 1) [.int (x2 + (1 : Int32))] [] [.int v8] (rX12_end l D aC hB h7) rfl hB.1 F hml hX hZ hl.1 mwX12_end wmX12_75 rfl (by decide) (by decide +kernel) ⟨(by dsimp only; omega), (by dsimp only; omega)⟩ rfl rfl rfl (Nat.le_of_ble_eq_true rfl) (kd dtX12_goes_0 76 rfl) ⟨Nat.zero_le _, Nat.zero_le _⟩ (fun H locs hX => ?_)
          refine lv_istore (lv' := [(5, .int v8), (4, .int v6), (3, .int v1), (0, .ref h0), (1, .int x1), (2, .int x2)]) hx hb (kd dtX12_goes_0 77 rfl) hl (by decide) rfl (fun ls hl => ?_)
          refine lv_aload_n hx hb (kd dtX12_goes_0 78 rfl) rfl (lv_at hl 3 rfl) ?_
          refine rgetA (n := 0) (j := 0) hB (by decide) rfl F hX wfX12_9 (by decide) rfl (kd dtX12_goes_0 79 rfl) ?_
          refine lv_iload hx hb (kd dtX12_goes_1 0 rfl) (lv_at hl 1 rfl) ?_
          obtain ⟨v9, hv9, hf⟩ := kbind hf
          refine rald hB (by decide) hv9 F hX (kd dtX12_goes_1 1 rfl) ?_
          refine lv_aload_n hx hb (kd dtX12_goes_1 2 rfl) rfl (lv_at hl 3 rfl) ?_
          refine rgetA (n := 0) (j := 0) hB (by decide) rfl F hX wfX12_9 (by decide) rfl (kd dtX12_goes_1 3 rfl) ?_
          refine lv_iload hx hb (kd dtX12_goes_1 4 rfl) (lv_at hl 0 rfl) ?_
          obtain ⟨v10, hv10, hf⟩ := kbind hf
          refine rald hB (by decide) hv10 F hX (kd dtX12_goes_1 5 rfl) ?_
          refine lv_icmp_ne (tgt := 174) hx hb (kd dtX12_goes_1 6 rfl) (by decide) (fun hc => ?_) (fun hc => ?_)
          · have hf := kif_neg hc hf
            refine lv_iconst (v := (0 : Int32)) hx hb (kd dtX12_goes_1 27 rfl) (by decide) ?_
            obtain ⟨rfl, rfl⟩ := Prod.mk.inj (Option.some.inj hf)
            exact kzret F hX hr hlocks rfl rfl (kd dtX12_goes_1 28 rfl)
          · have hf := kif_pos hc hf
            refine lv_aload_n hx hb (kd dtX12_goes_1 7 rfl) rfl (lv_at hl 3 rfl) ?_
            refine lv_iload_n hx hb (kd dtX12_goes_1 8 rfl) rfl (lv_at hl 4 rfl) ?_
            refine lv_iconst (v := (1 : Int32)) hx hb (kd dtX12_goes_1 9 rfl) (by decide) ?_
            refine lv_iadd hx hb (kd dtX12_goes_1 10 rfl) ?_
            refine lv_iload_n hx hb (kd dtX12_goes_1 11 rfl) rfl (lv_at hl 5 rfl) ?_
            refine lv_iconst (v := (1 : Int32)) hx hb (kd dtX12_goes_1 12 rfl) (by decide) ?_
            refine lv_iadd hx hb (kd dtX12_goes_1 13 rfl) ?_
            obtain ⟨v13, w11, h12, hf⟩ := kbind2 hf
            refine kcallV (n := 2) [.int (x1 + (1 : Int32)), .int (x2 + (1 : Int32))] [] [.int v13] (IH h12) rfl hB.1 F hml hX hZ hl.1 mwX12_goes wmX12_155 rfl (by decide) (by decide +kernel) ⟨(by dsimp only; omega), (by dsimp only; omega)⟩ rfl rfl rfl (Nat.le_of_ble_eq_true rfl) (kd dtX12_goes_1 14 rfl) ⟨Nat.zero_le _, Nat.zero_le _⟩ (fun H locs hX => ?_)
            refine lv_if_eq (tgt := 174) hx hb (kd dtX12_goes_1 15 rfl) (by decide) (fun hc => ?_) (fun hc => ?_)
            · have hf := kif_pos hc hf
              refine lv_iconst (v := (0 : Int32)) hx hb (kd dtX12_goes_1 27 rfl) (by decide) ?_
              obtain ⟨rfl, rfl⟩ := Prod.mk.inj (Option.some.inj hf)
              exact kzret F hX hr hlocks rfl rfl (kd dtX12_goes_1 28 rfl)
            · have hf := kif_neg hc hf
              refine lv_aload_n hx hb (kd dtX12_goes_1 16 rfl) rfl (lv_at hl 3 rfl) ?_
              refine lv_iload hx hb (kd dtX12_goes_1 17 rfl) (lv_at hl 1 rfl) ?_
              refine lv_iconst (v := (1 : Int32)) hx hb (kd dtX12_goes_1 18 rfl) (by decide) ?_
              refine lv_iadd hx hb (kd dtX12_goes_1 19 rfl) ?_
              refine lv_iload hx hb (kd dtX12_goes_1 20 rfl) (lv_at hl 0 rfl) ?_
              refine lv_iconst (v := (1 : Int32)) hx hb (kd dtX12_goes_1 21 rfl) (by decide) ?_
              refine lv_iadd hx hb (kd dtX12_goes_1 22 rfl) ?_
              obtain ⟨v16, w14, h15, hf⟩ := kbind2 hf
              refine kcallV (n := 2) [.int (v6 + (1 : Int32)), .int (v8 + (1 : Int32))] [] [.int v16] (IH h15) rfl hB.1 F hml hX hZ hl.1 mwX12_goes wmX12_155 rfl (by decide) (by decide +kernel) ⟨(by dsimp only; omega), (by dsimp only; omega)⟩ rfl rfl rfl (Nat.le_of_ble_eq_true rfl) (kd dtX12_goes_1 23 rfl) ⟨Nat.zero_le _, Nat.zero_le _⟩ (fun H locs hX => ?_)
              refine lv_if_eq (tgt := 174) hx hb (kd dtX12_goes_1 24 rfl) (by decide) (fun hc => ?_) (fun hc => ?_)
              · have hf := kif_pos hc hf
                refine lv_iconst (v := (0 : Int32)) hx hb (kd dtX12_goes_1 27 rfl) (by decide) ?_
                obtain ⟨rfl, rfl⟩ := Prod.mk.inj (Option.some.inj hf)
                exact kzret F hX hr hlocks rfl rfl (kd dtX12_goes_1 28 rfl)
              · have hf := kif_neg hc hf
                refine lv_iconst (v := (1 : Int32)) hx hb (kd dtX12_goes_1 25 rfl) (by decide) ?_
                refine lv_goto (tgt := 175) hx hb (kd dtX12_goes_1 26 rfl) (by decide) ?_
                obtain ⟨rfl, rfl⟩ := Prod.mk.inj (Option.some.inj hf)
                exact kzret F hX hr hlocks rfl rfl (kd dtX12_goes_1 28 rfl)
        · have hf := kif_pos hc hf
          refine lv_aload_n hx hb (kd dtX12_goes_0 57 rfl) rfl (lv_at hl 1 rfl) ?_
          refine lv_iload_n hx hb (kd dtX12_goes_0 58 rfl) rfl (lv_at hl 2 rfl) ?_
          refine lv_iconst (v := (1 : Int32)) hx hb (kd dtX12_goes_0 59 rfl) (by decide) ?_
          refine lv_iadd hx hb (kd dtX12_goes_0 60 rfl) ?_
          refine lv_iload_n hx hb (kd dtX12_goes_0 61 rfl) rfl (lv_at hl 3 rfl) ?_
          refine lv_iconst (v := (1 : Int32)) hx hb (kd dtX12_goes_0 62 rfl) (by decide) ?_
          refine lv_iadd hx hb (kd dtX12_goes_0 63 rfl) ?_
          obtain ⟨v19, w17, h18, hf⟩ := kbind2 hf
          refine kcallV (n := 2) [.int (x1 + (1 : Int32)), .int (x2 + (1 : Int32))] [] [.int v19] (IH h18) rfl hB.1 F hml hX hZ hl.1 mwX12_goes wmX12_155 rfl (by decide) (by decide +kernel) ⟨(by dsimp only; omega), (by dsimp only; omega)⟩ rfl rfl rfl (Nat.le_of_ble_eq_true rfl) (kd dtX12_goes_0 64 rfl) ⟨Nat.zero_le _, Nat.zero_le _⟩ (fun H locs hX => ?_)
          obtain ⟨v20, hv20, hf⟩ := kbind hf
          obtain rfl := kBl_e hv20
          obtain ⟨rfl, rfl⟩ := Prod.mk.inj (Option.some.inj hf)
          exact kzret F hX hr hlocks hv20 rfl (kd dtX12_goes_0 65 rfl)
      · have hf := kif_neg hc hf
        refine lv_iconst (v := (0 : Int32)) hx hb (kd dtX12_goes_0 52 rfl) (by decide) ?_
        obtain ⟨rfl, rfl⟩ := Prod.mk.inj (Option.some.inj hf)
        exact kzret F hX hr hlocks rfl rfl (kd dtX12_goes_0 53 rfl)
    · have hf := kif_neg hc hf
      refine lv_iload_n hx hb (kd dtX12_goes_0 8 rfl) rfl (lv_at hl 0 rfl) ?_
      refine lv_bipush (v := (112 : Int32)) hx hb (kd dtX12_goes_0 9 rfl) (by decide) ?_
      refine lv_isub hx hb (kd dtX12_goes_0 10 rfl) ?_
      refine lv_istore (lv' := [(4, .int (v1 - (112 : Int32))), (3, .int v1), (0, .ref h0), (1, .int x1), (2, .int x2)]) hx hb (kd dtX12_goes_0 11 rfl) hl (by decide) rfl (fun ls hl => ?_)
      refine lv_aload_n hx hb (kd dtX12_goes_0 12 rfl) rfl (lv_at hl 2 rfl) ?_
      refine lv_iload_n hx hb (kd dtX12_goes_0 13 rfl) rfl (lv_at hl 4 rfl) ?_
      obtain ⟨v22, h21, hf⟩ := kbind hf
      refine kcallV (n := 1) [.int x2] [] [.int v22] (rX12_end l D aC hB h21) rfl hB.1 F hml hX hZ hl.1 mwX12_end wmX12_75 rfl (by decide) (by decide +kernel) ⟨(by dsimp only; omega), (by dsimp only; omega)⟩ rfl rfl rfl (Nat.le_of_ble_eq_true rfl) (kd dtX12_goes_0 14 rfl) ⟨Nat.zero_le _, Nat.zero_le _⟩ (fun H locs hX => ?_)
      refine lv_istore (lv' := [(5, .int v22), (4, .int (v1 - (112 : Int32))), (3, .int v1), (0, .ref h0), (1, .int x1), (2, .int x2)]) hx hb (kd dtX12_goes_0 15 rfl) hl (by decide) rfl (fun ls hl => ?_)
      refine lv_aload_n hx hb (kd dtX12_goes_0 16 rfl) rfl (lv_at hl 3 rfl) ?_
      refine rgetA (n := 10) (j := 15) hB (by decide) rfl F hX wfX12_40 (by decide) rfl (kd dtX12_goes_0 17 rfl) ?_
      refine lv_iload hx hb (kd dtX12_goes_0 18 rfl) (lv_at hl 1 rfl) ?_
      obtain ⟨v23, hv23, hf⟩ := kbind hf
      refine rald hB (by decide) hv23 F hX (kd dtX12_goes_0 19 rfl) ?_
      refine lv_if_lt (tgt := 59) hx hb (kd dtX12_goes_0 20 rfl) (by decide) (fun hc => ?_) (fun hc => ?_)
      · have hf := kif_pos hc hf
        refine lv_aload_n hx hb (kd dtX12_goes_0 34 rfl) rfl (lv_at hl 3 rfl) ?_
        refine rgetA (n := 10) (j := 15) hB (by decide) rfl F hX wfX12_40 (by decide) rfl (kd dtX12_goes_0 35 rfl) ?_
        refine lv_iload hx hb (kd dtX12_goes_0 36 rfl) (lv_at hl 1 rfl) ?_
        refine lv_iload_n hx hb (kd dtX12_goes_0 37 rfl) rfl (lv_at hl 5 rfl) ?_
        obtain ⟨w24, hw24, hf⟩ := kbind hf
        refine rast hB (by decide) hw24 F hX (kd dtX12_goes_0 38 rfl) (fun H locs hX => ?_)
        refine lv_aload_n hx hb (kd dtX12_goes_0 39 rfl) rfl (lv_at hl 3 rfl) ?_
        refine rgetA (n := 11) (j := 16) hB (by decide) rfl F hX wfX12_43 (by decide) rfl (kd dtX12_goes_0 40 rfl) ?_
        refine lv_iload hx hb (kd dtX12_goes_0 41 rfl) (lv_at hl 1 rfl) ?_
        refine lv_iload hx hb (kd dtX12_goes_0 42 rfl) (lv_at hl 0 rfl) ?_
        obtain ⟨w25, hw25, hf⟩ := kbind hf
        refine rast hB (by decide) hw25 F hX (kd dtX12_goes_0 43 rfl) (fun H locs hX => ?_)
        refine lv_iconst (v := (1 : Int32)) hx hb (kd dtX12_goes_0 44 rfl) (by decide) ?_
        obtain ⟨rfl, rfl⟩ := Prod.mk.inj (Option.some.inj hf)
        exact kzret F hX hr hlocks rfl rfl (kd dtX12_goes_0 45 rfl)
      · have hf := kif_neg hc hf
        refine lv_aload_n hx hb (kd dtX12_goes_0 21 rfl) rfl (lv_at hl 3 rfl) ?_
        refine lv_aload_n hx hb (kd dtX12_goes_0 22 rfl) rfl (lv_at hl 3 rfl) ?_
        refine rgetA (n := 10) (j := 15) hB (by decide) rfl F hX wfX12_40 (by decide) rfl (kd dtX12_goes_0 23 rfl) ?_
        refine lv_iload hx hb (kd dtX12_goes_0 24 rfl) (lv_at hl 1 rfl) ?_
        obtain ⟨v26, hv26, hf⟩ := kbind hf
        refine rald hB (by decide) hv26 F hX (kd dtX12_goes_0 25 rfl) ?_
        refine lv_aload_n hx hb (kd dtX12_goes_0 26 rfl) rfl (lv_at hl 3 rfl) ?_
        refine rgetA (n := 11) (j := 16) hB (by decide) rfl F hX wfX12_43 (by decide) rfl (kd dtX12_goes_0 27 rfl) ?_
        refine lv_iload hx hb (kd dtX12_goes_0 28 rfl) (lv_at hl 1 rfl) ?_
        obtain ⟨v27, hv27, hf⟩ := kbind hf
        refine rald hB (by decide) hv27 F hX (kd dtX12_goes_0 29 rfl) ?_
        refine lv_iload_n hx hb (kd dtX12_goes_0 30 rfl) rfl (lv_at hl 5 rfl) ?_
        refine lv_iload hx hb (kd dtX12_goes_0 31 rfl) (lv_at hl 0 rfl) ?_
        obtain ⟨v29, h28, hf⟩ := kbind hf
        refine kcallV (n := 4) [.int v26, .int v27, .int x2, .int v22] [] [.int v29] (rX12_same l D aC hB h28) rfl hB.1 F hml hX hZ hl.1 mwX12_same wmX12_151 rfl (by decide) (by decide +kernel) ⟨(by dsimp only; omega), (by dsimp only; omega)⟩ rfl rfl rfl (Nat.le_of_ble_eq_true rfl) (kd dtX12_goes_0 32 rfl) ⟨Nat.zero_le _, Nat.zero_le _⟩ (fun H locs hX => ?_)
        obtain ⟨v30, hv30, hf⟩ := kbind hf
        obtain rfl := kBl_e hv30
        obtain ⟨rfl, rfl⟩ := Prod.mk.inj (Option.some.inj hf)
        exact kzret F hX hr hlocks hv30 rfl (kd dtX12_goes_0 33 rfl)
theorem rX12_goes (l : Launch) (D : va_G) (aC : Nat → ClassId) {h0 : Nat} {wB : kW} (hB : rOK h0 wB) {x1 : Int32} {x2 : Int32} {w : rW} {wR : rW} {oR : Int32} (h : fX12_goes kDP x1 x2 w = some (oR, wR)) : kC l D aC yX12_goes cX12_goes 6 (some .boolean) 803 18854 [.ref h0, .int x1, .int x2] (rWo h0 wB w) (some (.int oR)) (rWo h0 wB wR) 0 0 := rX12_goes_dp l D aC hB kDP h
theorem wmX12_158 : Cond.methodLink RX12 158 yX12_forgets ∈ kT := kTm 1488 (by decide +kernel) rfl
theorem mwX12_forgets : kMV RX12 yX12_forgets cX12_forgets 2 none := ⟨kTm 1491 (by decide +kernel) rfl, kTm 106 (by decide +kernel) rfl, kTm 1490 (by decide +kernel) rfl, kTm 62 (by decide +kernel) rfl⟩
def lX12_comes_0 : List (Nat × Instr × Nat) := [(0, .aload_n 0, 1), (1, .invokevirtual 158, 3), (4, .aload_n 0, 1), (5, .iload_n 1, 1), (6, .iload_n 2, 1), (7, .invokevirtual 155, 3), (10, .ireturn, 1)]
theorem dtX12_comes_0 : kDec cX12_comes lX12_comes_0 = true := by decide +kernel
noncomputable def fX12_comes (x1 : Int32) (x2 : Int32) (w : rW) : Option (Int32 × rW) :=
  (fX12_forgets w).bind fun w1 =>
  kb2 (fX12_goes kDP x1 x2 w1) fun v5 w3 =>
  (kBl v5).bind fun v6 =>
  some (v6, w3)

set_option maxHeartbeats 4000000 in
set_option maxRecDepth 100000 in
theorem rX12_comes (l : Launch) (D : va_G) (aC : Nat → ClassId) {h0 : Nat} {wB : kW} (hB : rOK h0 wB) {x1 : Int32} {x2 : Int32} {w : rW} {wR : rW} {oR : Int32} (h : fX12_comes x1 x2 w = some (oR, wR)) : kC l D aC yX12_comes cX12_comes 3 (some .boolean) 804 18879 [.ref h0, .int x1, .int x2] (rWo h0 wB w) (some (.int oR)) (rWo h0 wB wR) 0 0 := by
  refine kOf (own := RX12) (by decide) rfl (Nat.le_of_ble_eq_true rfl) ?_
  intro p e s m below meth c ls F hml hr hlocks hnm hX hZ hl
  obtain ⟨hx, hb, hts, hown, hK⟩ := id F
  have hl : lv_has ls 3 [(0, .ref h0), (1, .int x1), (2, .int x2)] := hl
  have hf := h
  rw [fX12_comes] at hf
  refine lv_aload_n hx hb (kd dtX12_comes_0 0 rfl) rfl (lv_at hl 0 rfl) ?_
  obtain ⟨w1, h2, hf⟩ := kbind hf
  refine kcallV (n := 0) [] [] [] (rX12_forgets l D aC hB h2) rfl hB.1 F hml hX hZ hl.1 mwX12_forgets wmX12_158 rfl (by decide) (by decide +kernel) ⟨(by decide), (by decide)⟩ rfl rfl rfl (Nat.le_of_ble_eq_true rfl) (kd dtX12_comes_0 1 rfl) ⟨Nat.zero_le _, Nat.zero_le _⟩ (fun H locs hX => ?_)
  refine lv_aload_n hx hb (kd dtX12_comes_0 2 rfl) rfl (lv_at hl 0 rfl) ?_
  refine lv_iload_n hx hb (kd dtX12_comes_0 3 rfl) rfl (lv_at hl 1 rfl) ?_
  refine lv_iload_n hx hb (kd dtX12_comes_0 4 rfl) rfl (lv_at hl 2 rfl) ?_
  obtain ⟨v5, w3, h4, hf⟩ := kbind2 hf
  refine kcallV (n := 2) [.int x1, .int x2] [] [.int v5] (rX12_goes l D aC hB h4) rfl hB.1 F hml hX hZ hl.1 mwX12_goes wmX12_155 rfl (by decide) (by decide +kernel) ⟨(by decide), (by decide)⟩ rfl rfl rfl (Nat.le_of_ble_eq_true rfl) (kd dtX12_comes_0 5 rfl) ⟨Nat.zero_le _, Nat.zero_le _⟩ (fun H locs hX => ?_)
  obtain ⟨v6, hv6, hf⟩ := kbind hf
  obtain rfl := kBl_e hv6
  obtain ⟨rfl, rfl⟩ := Prod.mk.inj (Option.some.inj hf)
  exact kzret F hX hr hlocks hv6 rfl (kd dtX12_comes_0 6 rfl)
def lX12_isLike_0 : List (Nat × Instr × Nat) := [(0, .aload_n 0, 1), (1, .iload_n 1, 1), (2, .invokevirtual 75, 3), (5, .istore_n 3, 1), (6, .aload_n 0, 1), (7, .iload_n 2, 1), (8, .invokevirtual 75, 3), (11, .istore 4, 2), (13, .aload_n 0, 1), (14, .iload_n 1, 1), (15, .invokevirtual 79, 3), (18, .aload_n 0, 1), (19, .iload_n 2, 1), (20, .invokevirtual 79, 3), (23, .if_icmp .ne 45, 3), (26, .aload_n 0, 1), (27, .iload_n 1, 1), (28, .iload_n 3, 1), (29, .invokevirtual 135, 3), (32, .aload_n 0, 1), (33, .iload_n 2, 1), (34, .iload 4, 2), (36, .invokevirtual 135, 3), (39, .if_icmp .ne 29, 3), (42, .aload_n 0, 1), (43, .iload_n 1, 1), (44, .iload_n 3, 1), (45, .invokevirtual 89, 3), (48, .invokestatic 96, 3), (51, .aload_n 0, 1), (52, .iload_n 2, 1), (53, .iload 4, 2), (55, .invokevirtual 89, 3), (58, .invokestatic 96, 3), (61, .if_icmp .ne 7, 3), (64, .iconst 1, 1), (65, .goto 4, 3), (68, .iconst 0, 1), (69, .ireturn, 1)]
theorem dtX12_isLike_0 : kDec cX12_isLike lX12_isLike_0 = true := by decide +kernel
noncomputable def fX12_isLike (x1 : Int32) (x2 : Int32) (w : rW) : Option Int32 :=
  (fX12_end kDP x1 w).bind fun v2 =>
  (fX12_end kDP x2 w).bind fun v4 =>
  (fX12_levels kDP x1 w).bind fun v6 =>
  (fX12_levels kDP x2 w).bind fun v8 =>
  if v6 = v8 then
  (fX12_places x1 v2 w).bind fun v10 =>
  (fX12_places x2 v4 w).bind fun v12 =>
  if v10 = v12 then
  (fX12_letters x1 v2 w).bind fun v14 =>
  (fX12_bits v14).bind fun v16 =>
  (fX12_letters x2 v4 w).bind fun v18 =>
  (fX12_bits v18).bind fun v20 =>
  if v16 = v20 then
  some (1 : Int32)
  else
  some (0 : Int32)
  else
  some (0 : Int32)
  else
  some (0 : Int32)

set_option maxHeartbeats 4000000 in
set_option maxRecDepth 100000 in
theorem rX12_isLike (l : Launch) (D : va_G) (aC : Nat → ClassId) {h0 : Nat} {wB : kW} (hB : rOK h0 wB) {x1 : Int32} {x2 : Int32} {w : rW} {oR : Int32} (h : fX12_isLike x1 x2 w = some oR) : kC l D aC yX12_isLike cX12_isLike 5 (some .boolean) 804 18077 [.ref h0, .int x1, .int x2] (rWo h0 wB w) (some (.int oR)) (rWo h0 wB w) 0 0 := by
  refine kOf (own := RX12) (by decide) rfl (Nat.le_of_ble_eq_true rfl) ?_
  intro p e s m below meth c ls F hml hr hlocks hnm hX hZ hl
  obtain ⟨hx, hb, hts, hown, hK⟩ := id F
  have hl : lv_has ls 5 [(0, .ref h0), (1, .int x1), (2, .int x2)] := hl
  have hf := h
  rw [fX12_isLike] at hf
  refine lv_aload_n hx hb (kd dtX12_isLike_0 0 rfl) rfl (lv_at hl 0 rfl) ?_
  refine lv_iload_n hx hb (kd dtX12_isLike_0 1 rfl) rfl (lv_at hl 1 rfl) ?_
  obtain ⟨v2, h1, hf⟩ := kbind hf
  refine kcallV (n := 1) [.int x1] [] [.int v2] (rX12_end l D aC hB h1) rfl hB.1 F hml hX hZ hl.1 mwX12_end wmX12_75 rfl (by decide) (by decide +kernel) ⟨(by decide), (by decide)⟩ rfl rfl rfl (Nat.le_of_ble_eq_true rfl) (kd dtX12_isLike_0 2 rfl) ⟨Nat.zero_le _, Nat.zero_le _⟩ (fun H locs hX => ?_)
  refine lv_istore_n (lv' := [(3, .int v2), (0, .ref h0), (1, .int x1), (2, .int x2)]) hx hb (kd dtX12_isLike_0 3 rfl) rfl hl (by decide) rfl (fun ls hl => ?_)
  refine lv_aload_n hx hb (kd dtX12_isLike_0 4 rfl) rfl (lv_at hl 1 rfl) ?_
  refine lv_iload_n hx hb (kd dtX12_isLike_0 5 rfl) rfl (lv_at hl 3 rfl) ?_
  obtain ⟨v4, h3, hf⟩ := kbind hf
  refine kcallV (n := 1) [.int x2] [] [.int v4] (rX12_end l D aC hB h3) rfl hB.1 F hml hX hZ hl.1 mwX12_end wmX12_75 rfl (by decide) (by decide +kernel) ⟨(by decide), (by decide)⟩ rfl rfl rfl (Nat.le_of_ble_eq_true rfl) (kd dtX12_isLike_0 6 rfl) ⟨Nat.zero_le _, Nat.zero_le _⟩ (fun H locs hX => ?_)
  refine lv_istore (lv' := [(4, .int v4), (3, .int v2), (0, .ref h0), (1, .int x1), (2, .int x2)]) hx hb (kd dtX12_isLike_0 7 rfl) hl (by decide) rfl (fun ls hl => ?_)
  refine lv_aload_n hx hb (kd dtX12_isLike_0 8 rfl) rfl (lv_at hl 2 rfl) ?_
  refine lv_iload_n hx hb (kd dtX12_isLike_0 9 rfl) rfl (lv_at hl 3 rfl) ?_
  obtain ⟨v6, h5, hf⟩ := kbind hf
  refine kcallV (n := 1) [.int x1] [] [.int v6] (rX12_levels l D aC hB h5) rfl hB.1 F hml hX hZ hl.1 mwX12_levels wmX12_79 rfl (by decide) (by decide +kernel) ⟨(by decide), (by decide)⟩ rfl rfl rfl (Nat.le_of_ble_eq_true rfl) (kd dtX12_isLike_0 10 rfl) ⟨Nat.zero_le _, Nat.zero_le _⟩ (fun H locs hX => ?_)
  refine lv_aload_n hx hb (kd dtX12_isLike_0 11 rfl) rfl (lv_at hl 2 rfl) ?_
  refine lv_iload_n hx hb (kd dtX12_isLike_0 12 rfl) rfl (lv_at hl 4 rfl) ?_
  obtain ⟨v8, h7, hf⟩ := kbind hf
  refine kcallV (n := 1) [.int x2] [.int v6] [.int v8, .int v6] (rX12_levels l D aC hB h7) rfl hB.1 F hml hX hZ hl.1 mwX12_levels wmX12_79 rfl (by decide) (by decide +kernel) ⟨(by decide), (by decide)⟩ rfl rfl rfl (Nat.le_of_ble_eq_true rfl) (kd dtX12_isLike_0 13 rfl) ⟨Nat.zero_le _, Nat.zero_le _⟩ (fun H locs hX => ?_)
  refine lv_icmp_ne (tgt := 68) hx hb (kd dtX12_isLike_0 14 rfl) (by decide) (fun hc => ?_) (fun hc => ?_)
  · have hf := kif_neg hc hf
    refine lv_iconst (v := (0 : Int32)) hx hb (kd dtX12_isLike_0 37 rfl) (by decide) ?_
    obtain rfl := Option.some.inj hf
    exact kzret F hX hr hlocks rfl rfl (kd dtX12_isLike_0 38 rfl)
  · have hf := kif_pos hc hf
    refine lv_aload_n hx hb (kd dtX12_isLike_0 15 rfl) rfl (lv_at hl 2 rfl) ?_
    refine lv_iload_n hx hb (kd dtX12_isLike_0 16 rfl) rfl (lv_at hl 3 rfl) ?_
    refine lv_iload_n hx hb (kd dtX12_isLike_0 17 rfl) rfl (lv_at hl 1 rfl) ?_
    obtain ⟨v10, h9, hf⟩ := kbind hf
    refine kcallV (n := 2) [.int x1, .int v2] [] [.int v10] (rX12_places l D aC hB h9) rfl hB.1 F hml hX hZ hl.1 mwX12_places wmX12_135 rfl (by decide) (by decide +kernel) ⟨(by decide), (by decide)⟩ rfl rfl rfl (Nat.le_of_ble_eq_true rfl) (kd dtX12_isLike_0 18 rfl) ⟨Nat.zero_le _, Nat.zero_le _⟩ (fun H locs hX => ?_)
    refine lv_aload_n hx hb (kd dtX12_isLike_0 19 rfl) rfl (lv_at hl 2 rfl) ?_
    refine lv_iload_n hx hb (kd dtX12_isLike_0 20 rfl) rfl (lv_at hl 4 rfl) ?_
    refine lv_iload hx hb (kd dtX12_isLike_0 21 rfl) (lv_at hl 0 rfl) ?_
    obtain ⟨v12, h11, hf⟩ := kbind hf
    refine kcallV (n := 2) [.int x2, .int v4] [.int v10] [.int v12, .int v10] (rX12_places l D aC hB h11) rfl hB.1 F hml hX hZ hl.1 mwX12_places wmX12_135 rfl (by decide) (by decide +kernel) ⟨(by decide), (by decide)⟩ rfl rfl rfl (Nat.le_of_ble_eq_true rfl) (kd dtX12_isLike_0 22 rfl) ⟨Nat.zero_le _, Nat.zero_le _⟩ (fun H locs hX => ?_)
    refine lv_icmp_ne (tgt := 68) hx hb (kd dtX12_isLike_0 23 rfl) (by decide) (fun hc => ?_) (fun hc => ?_)
    · have hf := kif_neg hc hf
      refine lv_iconst (v := (0 : Int32)) hx hb (kd dtX12_isLike_0 37 rfl) (by decide) ?_
      obtain rfl := Option.some.inj hf
      exact kzret F hX hr hlocks rfl rfl (kd dtX12_isLike_0 38 rfl)
    · have hf := kif_pos hc hf
      refine lv_aload_n hx hb (kd dtX12_isLike_0 24 rfl) rfl (lv_at hl 2 rfl) ?_
      refine lv_iload_n hx hb (kd dtX12_isLike_0 25 rfl) rfl (lv_at hl 3 rfl) ?_
      refine lv_iload_n hx hb (kd dtX12_isLike_0 26 rfl) rfl (lv_at hl 1 rfl) ?_
      obtain ⟨v14, h13, hf⟩ := kbind hf
      refine kcallV (n := 2) [.int x1, .int v2] [] [.int v14] (rX12_letters l D aC hB h13) rfl hB.1 F hml hX hZ hl.1 mwX12_letters wmX12_89 rfl (by decide) (by decide +kernel) ⟨(by decide), (by decide)⟩ rfl rfl rfl (Nat.le_of_ble_eq_true rfl) (kd dtX12_isLike_0 27 rfl) ⟨Nat.zero_le _, Nat.zero_le _⟩ (fun H locs hX => ?_)
      obtain ⟨v16, h15, hf⟩ := kbind hf
      refine kcallS (n := 1) [.int v14] [] [.int v16] (rX12_bits l D aC (rWo h0 wB w) h15) F hml hX hZ hl.1 mwX12_bits wmX12_96 (by decide +kernel) ⟨(by decide), (by decide)⟩ rfl rfl rfl (Nat.le_of_ble_eq_true rfl) (kd dtX12_isLike_0 28 rfl) ⟨Nat.zero_le _, Nat.zero_le _⟩ (fun H locs hX => ?_)
      refine lv_aload_n hx hb (kd dtX12_isLike_0 29 rfl) rfl (lv_at hl 2 rfl) ?_
      refine lv_iload_n hx hb (kd dtX12_isLike_0 30 rfl) rfl (lv_at hl 4 rfl) ?_
      refine lv_iload hx hb (kd dtX12_isLike_0 31 rfl) (lv_at hl 0 rfl) ?_
      obtain ⟨v18, h17, hf⟩ := kbind hf
      refine kcallV (n := 2) [.int x2, .int v4] [.int v16] [.int v18, .int v16] (rX12_letters l D aC hB h17) rfl hB.1 F hml hX hZ hl.1 mwX12_letters wmX12_89 rfl (by decide) (by decide +kernel) ⟨(by decide), (by decide)⟩ rfl rfl rfl (Nat.le_of_ble_eq_true rfl) (kd dtX12_isLike_0 32 rfl) ⟨Nat.zero_le _, Nat.zero_le _⟩ (fun H locs hX => ?_)
      obtain ⟨v20, h19, hf⟩ := kbind hf
      refine kcallS (n := 1) [.int v18] [.int v16] [.int v20, .int v16] (rX12_bits l D aC (rWo h0 wB w) h19) F hml hX hZ hl.1 mwX12_bits wmX12_96 (by decide +kernel) ⟨(by decide), (by decide)⟩ rfl rfl rfl (Nat.le_of_ble_eq_true rfl) (kd dtX12_isLike_0 33 rfl) ⟨Nat.zero_le _, Nat.zero_le _⟩ (fun H locs hX => ?_)
      refine lv_icmp_ne (tgt := 68) hx hb (kd dtX12_isLike_0 34 rfl) (by decide) (fun hc => ?_) (fun hc => ?_)
      · have hf := kif_neg hc hf
        refine lv_iconst (v := (0 : Int32)) hx hb (kd dtX12_isLike_0 37 rfl) (by decide) ?_
        obtain rfl := Option.some.inj hf
        exact kzret F hX hr hlocks rfl rfl (kd dtX12_isLike_0 38 rfl)
      · have hf := kif_pos hc hf
        refine lv_iconst (v := (1 : Int32)) hx hb (kd dtX12_isLike_0 35 rfl) (by decide) ?_
        refine lv_goto (tgt := 69) hx hb (kd dtX12_isLike_0 36 rfl) (by decide) ?_
        obtain rfl := Option.some.inj hf
        exact kzret F hX hr hlocks rfl rfl (kd dtX12_isLike_0 38 rfl)
theorem wcX12_161 : Cond.constantLong RX12 161 (2 : Int64) ∈ kT := kTm 1475 (by decide +kernel) rfl
theorem wmX12_166 : Cond.methodLink RX12 166 yX12_comes ∈ kT := kTm 1484 (by decide +kernel) rfl
theorem mwX12_comes : kMV RX12 yX12_comes cX12_comes 3 (some .boolean) := ⟨kTm 1487 (by decide +kernel) rfl, kTm 106 (by decide +kernel) rfl, kTm 1486 (by decide +kernel) rfl, kTm 61 (by decide +kernel) rfl⟩
theorem wmX12_163 : Cond.methodLink RX12 163 yX12_isLike ∈ kT := kTm 1480 (by decide +kernel) rfl
theorem mwX12_isLike : kMV RX12 yX12_isLike cX12_isLike 5 (some .boolean) := ⟨kTm 1483 (by decide +kernel) rfl, kTm 106 (by decide +kernel) rfl, kTm 1482 (by decide +kernel) rfl, kTm 60 (by decide +kernel) rfl⟩
def lX12_pair_0 : List (Nat × Instr × Nat) := [(0, .aload_n 0, 1), (1, .iload_n 1, 1), (2, .invokevirtual 127, 3), (5, .ifCond .eq 23, 3), (8, .aload_n 0, 1), (9, .iload_n 2, 1), (10, .invokevirtual 127, 3), (13, .ifCond .eq 15, 3), (16, .iload_n 3, 1), (17, .i2l, 1), (18, .lconst 0, 1), (19, .ldc2_w 161, 3), (22, .invokestatic 65, 3), (25, .ifCond .ne 5, 3), (28, .iconst (-1), 1), (29, .ireturn, 1), (30, .iload_n 1, 1), (31, .invokestatic 86, 3), (34, .istore 4, 2), (36, .iload_n 2, 1), (37, .invokestatic 86, 3), (40, .istore 5, 2), (42, .iload_n 3, 1), (43, .ifCond .ne 36, 3), (46, .aload_n 0, 1), (47, .iload 4, 2), (49, .iload 4, 2), (51, .aload_n 0, 1), (52, .getfield 16, 3), (55, .iconst 3, 1), (56, .iload_n 1, 1), (57, .iadd, 1), (58, .iaload, 1), (59, .iadd, 1), (60, .iload 5, 2), (62, .iload 5, 2), (64, .aload_n 0, 1), (65, .getfield 16, 3), (68, .iconst 3, 1), (69, .iload_n 2, 1), (70, .iadd, 1), (71, .iaload, 1), (72, .iadd, 1), (73, .invokevirtual 151, 3), (76, .goto 27, 3), (79, .iload_n 3, 1), (80, .iconst 1, 1), (81, .if_icmp .ne 14, 3), (84, .aload_n 0, 1), (85, .iload 4, 2), (87, .iload 5, 2), (89, .invokevirtual 163, 3), (92, .goto 11, 3), (95, .aload_n 0, 1), (96, .iload 4, 2), (98, .iload 5, 2), (100, .invokevirtual 166, 3), (103, .istore 6, 2), (105, .iload 6, 2), (107, .ifCond .eq 7, 3), (110, .iconst 1, 1), (111, .goto 4, 3), (114, .iconst 0, 1), (115, .ireturn, 1)]
theorem dtX12_pair_0 : kDec cX12_pair lX12_pair_0 = true := by decide +kernel
noncomputable def fX12_pair (x1 : Int32) (x2 : Int32) (x3 : Int32) (w : rW) : Option (Int32 × rW) :=
  (fX12_isLine x1 w).bind fun v2 =>
  if v2 = 0 then
  some ((-1 : Int32), w)
  else
  (fX12_isLine x2 w).bind fun v4 =>
  if v4 = 0 then
  some ((-1 : Int32), w)
  else
  (fX12_isIn x3.toInt64 (0 : Int64) (2 : Int64)).bind fun v6 =>
  if v6 = 0 then
  some ((-1 : Int32), w)
  else
  (fX12_textOf x1).bind fun v8 =>
  (fX12_textOf x2).bind fun v10 =>
  if x3 = 0 then
  (raI w 2 1000 ((3 : Int32) + x1)).bind fun v16 =>
  (raI w 2 1000 ((3 : Int32) + x2)).bind fun v17 =>
  (fX12_same v8 (v8 + v16) v10 (v10 + v17) w).bind fun v19 =>
  if v19 = 0 then
  some ((0 : Int32), w)
  else
  some ((1 : Int32), w)
  else
  if x3 = (1 : Int32) then
  (fX12_isLike v8 v10 w).bind fun v15 =>
  if v15 = 0 then
  some ((0 : Int32), w)
  else
  some ((1 : Int32), w)
  else
  kb2 (fX12_comes v8 v10 w) fun v13 w11 =>
  if v13 = 0 then
  some ((0 : Int32), w11)
  else
  some ((1 : Int32), w11)

set_option maxHeartbeats 4000000 in
set_option maxRecDepth 100000 in
theorem rX12_pair (l : Launch) (D : va_G) (aC : Nat → ClassId) {h0 : Nat} {wB : kW} (hB : rOK h0 wB) {x1 : Int32} {x2 : Int32} {x3 : Int32} {w : rW} {wR : rW} {oR : Int32} (h : fX12_pair x1 x2 x3 w = some (oR, wR)) : kC l D aC yX12_pair cX12_pair 7 (some .int) 805 18901 [.ref h0, .int x1, .int x2, .int x3] (rWo h0 wB w) (some (.int oR)) (rWo h0 wB wR) 0 0 := by
  refine kOf (own := RX12) (by decide) rfl (Nat.le_of_ble_eq_true rfl) ?_
  intro p e s m below meth c ls F hml hr hlocks hnm hX hZ hl
  obtain ⟨hx, hb, hts, hown, hK⟩ := id F
  have hl : lv_has ls 7 [(0, .ref h0), (1, .int x1), (2, .int x2), (3, .int x3)] := hl
  have hf := h
  rw [fX12_pair] at hf
  refine lv_aload_n hx hb (kd dtX12_pair_0 0 rfl) rfl (lv_at hl 0 rfl) ?_
  refine lv_iload_n hx hb (kd dtX12_pair_0 1 rfl) rfl (lv_at hl 1 rfl) ?_
  obtain ⟨v2, h1, hf⟩ := kbind hf
  refine kcallV (n := 1) [.int x1] [] [.int v2] (rX12_isLine l D aC hB h1) rfl hB.1 F hml hX hZ hl.1 mwX12_isLine wmX12_127 rfl (by decide) (by decide +kernel) ⟨(by decide), (by decide)⟩ rfl rfl rfl (Nat.le_of_ble_eq_true rfl) (kd dtX12_pair_0 2 rfl) ⟨Nat.zero_le _, Nat.zero_le _⟩ (fun H locs hX => ?_)
  refine lv_if_eq (tgt := 28) hx hb (kd dtX12_pair_0 3 rfl) (by decide) (fun hc => ?_) (fun hc => ?_)
  · have hf := kif_pos hc hf
    refine lv_iconst (v := (-1 : Int32)) hx hb (kd dtX12_pair_0 14 rfl) (by decide) ?_
    obtain ⟨rfl, rfl⟩ := Prod.mk.inj (Option.some.inj hf)
    exact kiret F hX hr hlocks rfl (kd dtX12_pair_0 15 rfl)
  · have hf := kif_neg hc hf
    refine lv_aload_n hx hb (kd dtX12_pair_0 4 rfl) rfl (lv_at hl 0 rfl) ?_
    refine lv_iload_n hx hb (kd dtX12_pair_0 5 rfl) rfl (lv_at hl 2 rfl) ?_
    obtain ⟨v4, h3, hf⟩ := kbind hf
    refine kcallV (n := 1) [.int x2] [] [.int v4] (rX12_isLine l D aC hB h3) rfl hB.1 F hml hX hZ hl.1 mwX12_isLine wmX12_127 rfl (by decide) (by decide +kernel) ⟨(by decide), (by decide)⟩ rfl rfl rfl (Nat.le_of_ble_eq_true rfl) (kd dtX12_pair_0 6 rfl) ⟨Nat.zero_le _, Nat.zero_le _⟩ (fun H locs hX => ?_)
    refine lv_if_eq (tgt := 28) hx hb (kd dtX12_pair_0 7 rfl) (by decide) (fun hc => ?_) (fun hc => ?_)
    · have hf := kif_pos hc hf
      refine lv_iconst (v := (-1 : Int32)) hx hb (kd dtX12_pair_0 14 rfl) (by decide) ?_
      obtain ⟨rfl, rfl⟩ := Prod.mk.inj (Option.some.inj hf)
      exact kiret F hX hr hlocks rfl (kd dtX12_pair_0 15 rfl)
    · have hf := kif_neg hc hf
      refine lv_iload_n hx hb (kd dtX12_pair_0 8 rfl) rfl (lv_at hl 3 rfl) ?_
      refine lv_i2l (v := x3.toInt64) hx hb (kd dtX12_pair_0 9 rfl) rfl ?_
      refine lv_lconst (v := (0 : Int64)) hx hb (kd dtX12_pair_0 10 rfl) (by decide) ?_
      refine lv_ldc2 (v := (2 : Int64)) hx hb hown (hts _ wcX12_161) (kd dtX12_pair_0 11 rfl) ?_
      obtain ⟨v6, h5, hf⟩ := kbind hf
      refine kcallS (n := 3) [.long x3.toInt64, .long (0 : Int64), .long (2 : Int64)] [] [.int v6] (rX12_isIn l D aC (rWo h0 wB w) h5) F hml hX hZ hl.1 mwX12_isIn wmX12_65 (by decide +kernel) ⟨(by decide), (by decide)⟩ rfl rfl rfl (Nat.le_of_ble_eq_true rfl) (kd dtX12_pair_0 12 rfl) ⟨Nat.zero_le _, Nat.zero_le _⟩ (fun H locs hX => ?_)
      refine lv_if_ne (tgt := 30) hx hb (kd dtX12_pair_0 13 rfl) (by decide) (fun hc => ?_) (fun hc => ?_)
      · have hf := kif_neg hc hf
        refine lv_iload_n hx hb (kd dtX12_pair_0 16 rfl) rfl (lv_at hl 1 rfl) ?_
        obtain ⟨v8, h7, hf⟩ := kbind hf
        refine kcallS (n := 1) [.int x1] [] [.int v8] (rX12_textOf l D aC (rWo h0 wB w) h7) F hml hX hZ hl.1 mwX12_textOf wmX12_86 (by decide +kernel) ⟨(by decide), (by decide)⟩ rfl rfl rfl (Nat.le_of_ble_eq_true rfl) (kd dtX12_pair_0 17 rfl) ⟨Nat.zero_le _, Nat.zero_le _⟩ (fun H locs hX => ?_)
        refine lv_istore (lv' := [(4, .int v8), (0, .ref h0), (1, .int x1), (2, .int x2), (3, .int x3)]) hx hb (kd dtX12_pair_0 18 rfl) hl (by decide) rfl (fun ls hl => ?_)
        refine lv_iload_n hx hb (kd dtX12_pair_0 19 rfl) rfl (lv_at hl 3 rfl) ?_
        obtain ⟨v10, h9, hf⟩ := kbind hf
        refine kcallS (n := 1) [.int x2] [] [.int v10] (rX12_textOf l D aC (rWo h0 wB w) h9) F hml hX hZ hl.1 mwX12_textOf wmX12_86 (by decide +kernel) ⟨(by decide), (by decide)⟩ rfl rfl rfl (Nat.le_of_ble_eq_true rfl) (kd dtX12_pair_0 20 rfl) ⟨Nat.zero_le _, Nat.zero_le _⟩ (fun H locs hX => ?_)
        refine lv_istore (lv' := [(5, .int v10), (4, .int v8), (0, .ref h0), (1, .int x1), (2, .int x2), (3, .int x3)]) hx hb (kd dtX12_pair_0 21 rfl) hl (by decide) rfl (fun ls hl => ?_)
        refine lv_iload_n hx hb (kd dtX12_pair_0 22 rfl) rfl (lv_at hl 5 rfl) ?_
        refine lv_if_ne (tgt := 79) hx hb (kd dtX12_pair_0 23 rfl) (by decide) (fun hc => ?_) (fun hc => ?_)
        · have hf := kif_neg hc hf
          refine lv_iload_n hx hb (kd dtX12_pair_0 45 rfl) rfl (lv_at hl 5 rfl) ?_
          refine lv_iconst (v := (1 : Int32)) hx hb (kd dtX12_pair_0 46 rfl) (by decide) ?_
          refine lv_icmp_ne (tgt := 95) hx hb (kd dtX12_pair_0 47 rfl) (by decide) (fun hc => ?_) (fun hc => ?_)
          · have hf := kif_neg hc hf
            refine lv_aload_n hx hb (kd dtX12_pair_0 53 rfl) rfl (lv_at hl 2 rfl) ?_
            refine lv_iload hx hb (kd dtX12_pair_0 54 rfl) (lv_at hl 1 rfl) ?_
            refine lv_iload hx hb (kd dtX12_pair_0 55 rfl) (lv_at hl 0 rfl) ?_
            obtain ⟨v13, w11, h12, hf⟩ := kbind2 hf
            refine kcallV (n := 2) [.int v8, .int v10] [] [.int v13] (rX12_comes l D aC hB h12) rfl hB.1 F hml hX hZ hl.1 mwX12_comes wmX12_166 rfl (by decide) (by decide +kernel) ⟨(by decide), (by decide)⟩ rfl rfl rfl (Nat.le_of_ble_eq_true rfl) (kd dtX12_pair_0 56 rfl) ⟨Nat.zero_le _, Nat.zero_le _⟩ (fun H locs hX => ?_)
            refine lv_istore (lv' := [(6, .int v13), (5, .int v10), (4, .int v8), (0, .ref h0), (1, .int x1), (2, .int x2), (3, .int x3)]) hx hb (kd dtX12_pair_0 57 rfl) hl (by decide) rfl (fun ls hl => ?_)
            refine lv_iload hx hb (kd dtX12_pair_0 58 rfl) (lv_at hl 0 rfl) ?_
            refine lv_if_eq (tgt := 114) hx hb (kd dtX12_pair_0 59 rfl) (by decide) (fun hc => ?_) (fun hc => ?_)
            · have hf := kif_pos hc hf
              refine lv_iconst (v := (0 : Int32)) hx hb (kd dtX12_pair_0 62 rfl) (by decide) ?_
              obtain ⟨rfl, rfl⟩ := Prod.mk.inj (Option.some.inj hf)
              exact kiret F hX hr hlocks rfl (kd dtX12_pair_0 63 rfl)
            · have hf := kif_neg hc hf
              refine lv_iconst (v := (1 : Int32)) hx hb (kd dtX12_pair_0 60 rfl) (by decide) ?_
              refine lv_goto (tgt := 115) hx hb (kd dtX12_pair_0 61 rfl) (by decide) ?_
              obtain ⟨rfl, rfl⟩ := Prod.mk.inj (Option.some.inj hf)
              exact kiret F hX hr hlocks rfl (kd dtX12_pair_0 63 rfl)
          · have hf := kif_pos hc hf
            refine lv_aload_n hx hb (kd dtX12_pair_0 48 rfl) rfl (lv_at hl 2 rfl) ?_
            refine lv_iload hx hb (kd dtX12_pair_0 49 rfl) (lv_at hl 1 rfl) ?_
            refine lv_iload hx hb (kd dtX12_pair_0 50 rfl) (lv_at hl 0 rfl) ?_
            obtain ⟨v15, h14, hf⟩ := kbind hf
            refine kcallV (n := 2) [.int v8, .int v10] [] [.int v15] (rX12_isLike l D aC hB h14) rfl hB.1 F hml hX hZ hl.1 mwX12_isLike wmX12_163 rfl (by decide) (by decide +kernel) ⟨(by decide), (by decide)⟩ rfl rfl rfl (Nat.le_of_ble_eq_true rfl) (kd dtX12_pair_0 51 rfl) ⟨Nat.zero_le _, Nat.zero_le _⟩ (fun H locs hX => ?_)
            refine lv_goto (tgt := 103) hx hb (kd dtX12_pair_0 52 rfl) (by decide) ?_
            refine lv_istore (lv' := [(6, .int v15), (5, .int v10), (4, .int v8), (0, .ref h0), (1, .int x1), (2, .int x2), (3, .int x3)]) hx hb (kd dtX12_pair_0 57 rfl) hl (by decide) rfl (fun ls hl => ?_)
            refine lv_iload hx hb (kd dtX12_pair_0 58 rfl) (lv_at hl 0 rfl) ?_
            refine lv_if_eq (tgt := 114) hx hb (kd dtX12_pair_0 59 rfl) (by decide) (fun hc => ?_) (fun hc => ?_)
            · have hf := kif_pos hc hf
              refine lv_iconst (v := (0 : Int32)) hx hb (kd dtX12_pair_0 62 rfl) (by decide) ?_
              obtain ⟨rfl, rfl⟩ := Prod.mk.inj (Option.some.inj hf)
              exact kiret F hX hr hlocks rfl (kd dtX12_pair_0 63 rfl)
            · have hf := kif_neg hc hf
              refine lv_iconst (v := (1 : Int32)) hx hb (kd dtX12_pair_0 60 rfl) (by decide) ?_
              refine lv_goto (tgt := 115) hx hb (kd dtX12_pair_0 61 rfl) (by decide) ?_
              obtain ⟨rfl, rfl⟩ := Prod.mk.inj (Option.some.inj hf)
              exact kiret F hX hr hlocks rfl (kd dtX12_pair_0 63 rfl)
        · have hf := kif_pos hc hf
          refine lv_aload_n hx hb (kd dtX12_pair_0 24 rfl) rfl (lv_at hl 2 rfl) ?_
          refine lv_iload hx hb (kd dtX12_pair_0 25 rfl) (lv_at hl 1 rfl) ?_
          refine lv_iload hx hb (kd dtX12_pair_0 26 rfl) (lv_at hl 1 rfl) ?_
          refine lv_aload_n hx hb (kd dtX12_pair_0 27 rfl) rfl (lv_at hl 2 rfl) ?_
          refine rgetA (n := 2) (j := 2) hB (by decide) rfl F hX wfX12_16 (by decide) rfl (kd dtX12_pair_0 28 rfl) ?_
          refine lv_iconst (v := (3 : Int32)) hx hb (kd dtX12_pair_0 29 rfl) (by decide) ?_
          refine lv_iload_n hx hb (kd dtX12_pair_0 30 rfl) rfl (lv_at hl 3 rfl) ?_
          refine lv_iadd hx hb (kd dtX12_pair_0 31 rfl) ?_
          obtain ⟨v16, hv16, hf⟩ := kbind hf
          refine rald hB (by decide) hv16 F hX (kd dtX12_pair_0 32 rfl) ?_
          refine lv_iadd hx hb (kd dtX12_pair_0 33 rfl) ?_
          refine lv_iload hx hb (kd dtX12_pair_0 34 rfl) (lv_at hl 0 rfl) ?_
          refine lv_iload hx hb (kd dtX12_pair_0 35 rfl) (lv_at hl 0 rfl) ?_
          refine lv_aload_n hx hb (kd dtX12_pair_0 36 rfl) rfl (lv_at hl 2 rfl) ?_
          refine rgetA (n := 2) (j := 2) hB (by decide) rfl F hX wfX12_16 (by decide) rfl (kd dtX12_pair_0 37 rfl) ?_
          refine lv_iconst (v := (3 : Int32)) hx hb (kd dtX12_pair_0 38 rfl) (by decide) ?_
          refine lv_iload_n hx hb (kd dtX12_pair_0 39 rfl) rfl (lv_at hl 4 rfl) ?_
          refine lv_iadd hx hb (kd dtX12_pair_0 40 rfl) ?_
          obtain ⟨v17, hv17, hf⟩ := kbind hf
          refine rald hB (by decide) hv17 F hX (kd dtX12_pair_0 41 rfl) ?_
          refine lv_iadd hx hb (kd dtX12_pair_0 42 rfl) ?_
          obtain ⟨v19, h18, hf⟩ := kbind hf
          refine kcallV (n := 4) [.int v8, .int (v8 + v16), .int v10, .int (v10 + v17)] [] [.int v19] (rX12_same l D aC hB h18) rfl hB.1 F hml hX hZ hl.1 mwX12_same wmX12_151 rfl (by decide) (by decide +kernel) ⟨(by decide), (by decide)⟩ rfl rfl rfl (Nat.le_of_ble_eq_true rfl) (kd dtX12_pair_0 43 rfl) ⟨Nat.zero_le _, Nat.zero_le _⟩ (fun H locs hX => ?_)
          refine lv_goto (tgt := 103) hx hb (kd dtX12_pair_0 44 rfl) (by decide) ?_
          refine lv_istore (lv' := [(6, .int v19), (5, .int v10), (4, .int v8), (0, .ref h0), (1, .int x1), (2, .int x2), (3, .int x3)]) hx hb (kd dtX12_pair_0 57 rfl) hl (by decide) rfl (fun ls hl => ?_)
          refine lv_iload hx hb (kd dtX12_pair_0 58 rfl) (lv_at hl 0 rfl) ?_
          refine lv_if_eq (tgt := 114) hx hb (kd dtX12_pair_0 59 rfl) (by decide) (fun hc => ?_) (fun hc => ?_)
          · have hf := kif_pos hc hf
            refine lv_iconst (v := (0 : Int32)) hx hb (kd dtX12_pair_0 62 rfl) (by decide) ?_
            obtain ⟨rfl, rfl⟩ := Prod.mk.inj (Option.some.inj hf)
            exact kiret F hX hr hlocks rfl (kd dtX12_pair_0 63 rfl)
          · have hf := kif_neg hc hf
            refine lv_iconst (v := (1 : Int32)) hx hb (kd dtX12_pair_0 60 rfl) (by decide) ?_
            refine lv_goto (tgt := 115) hx hb (kd dtX12_pair_0 61 rfl) (by decide) ?_
            obtain ⟨rfl, rfl⟩ := Prod.mk.inj (Option.some.inj hf)
            exact kiret F hX hr hlocks rfl (kd dtX12_pair_0 63 rfl)
      · have hf := kif_pos hc hf
        refine lv_iconst (v := (-1 : Int32)) hx hb (kd dtX12_pair_0 14 rfl) (by decide) ?_
        obtain ⟨rfl, rfl⟩ := Prod.mk.inj (Option.some.inj hf)
        exact kiret F hX hr hlocks rfl (kd dtX12_pair_0 15 rfl)
def lX12_copies_0 : List (Nat × Instr × Nat) := [(0, .iload_n 1, 1), (1, .istore 4, 2), (3, .iload 4, 2), (5, .iload_n 2, 1), (6, .if_icmp .ge 27, 3), (9, .aload_n 0, 1), (10, .getfield 9, 3), (13, .iload_n 3, 1), (14, .iload 4, 2), (16, .iadd, 1), (17, .iload_n 1, 1), (18, .isub, 1), (19, .aload_n 0, 1), (20, .getfield 9, 3), (23, .iload 4, 2), (25, .iaload, 1), (26, .iastore, 1), (27, .iinc 4 1, 3), (30, .goto (-27), 3), (33, .iload_n 3, 1), (34, .iload_n 2, 1), (35, .iadd, 1), (36, .iload_n 1, 1), (37, .isub, 1), (38, .ireturn, 1)]
theorem dtX12_copies_0 : kDec cX12_copies lX12_copies_0 = true := by decide +kernel
noncomputable def fX12_copies_L3 (x1 : Int32) (x2 : Int32) (x3 : Int32) : Nat → (Int32 → rW → Option (Int32 × rW)) → Int32 → rW → Option (Int32 × rW)
  | 0, _, _, _ => none
  | n + 1, k, x4, w =>
  if x2 ≤ x4 then
  k x4 w
  else
  (raI w 0 10000 x4).bind fun v1 =>
  (rsI w 0 10000 ((x3 + x4) - x1) v1).bind fun w2 =>
  fX12_copies_L3 x1 x2 x3 n k (x4 + (1 : Int32)) w2

noncomputable def fX12_copies (x1 : Int32) (x2 : Int32) (x3 : Int32) (w : rW) : Option (Int32 × rW) :=
  fX12_copies_L3 x1 x2 x3 kFU (fun y4_1 w2 => some ((x3 + x2) - x1, w2)) x1 w

set_option maxHeartbeats 4000000 in
set_option maxRecDepth 100000 in
theorem rX12_copies (l : Launch) (D : va_G) (aC : Nat → ClassId) {h0 : Nat} {wB : kW} (hB : rOK h0 wB) {x1 : Int32} {x2 : Int32} {x3 : Int32} {w : rW} {wR : rW} {oR : Int32} (h : fX12_copies x1 x2 x3 w = some (oR, wR)) : kC l D aC yX12_copies cX12_copies 5 (some .int) 1 12 [.ref h0, .int x1, .int x2, .int x3] (rWo h0 wB w) (some (.int oR)) (rWo h0 wB wR) 0 0 := by
  refine kOf (own := RX12) (by decide) rfl (Nat.le_of_ble_eq_true rfl) ?_
  intro p e s m below meth c ls F hml hr hlocks hnm hX hZ hl
  obtain ⟨hx, hb, hts, hown, hK⟩ := id F
  have hl : lv_has ls 5 [(0, .ref h0), (1, .int x1), (2, .int x2), (3, .int x3)] := hl
  have hf := h
  rw [fX12_copies] at hf
  refine lv_iload_n hx hb (kd dtX12_copies_0 0 rfl) rfl (lv_at hl 1 rfl) ?_
  refine lv_istore (lv' := [(4, .int x1), (0, .ref h0), (1, .int x1), (2, .int x2), (3, .int x3)]) hx hb (kd dtX12_copies_0 1 rfl) hl (by decide) rfl (fun ls hl => ?_)
  have hL3 : ∀ (n : Nat) (k : Int32 → rW → Option (Int32 × rW)), ∀ (z4_3 : Int32) (w_3 : rW) (H : Heap) (locs : List Loc) (ls : Array Slot), kX D aC (rWo h0 wB w) s.heap (rWo h0 wB w_3) H locs → lv_has ls 5 [(0, .ref h0), (1, .int x1), (2, .int x2), (3, .int x3), (4, .int z4_3)] → fX12_copies_L3 x1 x2 x3 n k z4_3 w_3 = some (oR, wR) → (∀ (z4_3 : Int32) (w_3 : rW) (H : Heap) (locs : List Loc) (ls : Array Slot), kX D aC (rWo h0 wB w) s.heap (rWo h0 wB w_3) H locs → lv_has ls 5 [(0, .ref h0), (1, .int x1), (2, .int x2), (3, .int x3), (4, .int z4_3)] → k z4_3 w_3 = some (oR, wR) → W p l e { frames := 1, cells := 0, slots := 0, locals := 12 } s m ([.ref h0, .int x1, .int x2, .int x3] : List Value).toArray below meth c H locs 0 0 (MQ below (kQc D aC (rWo h0 wB w) (some (.int oR)) (rWo h0 wB wR)) ([.ref h0, .int x1, .int x2, .int x3] : List Value).toArray s 0 0 (kA (rWo h0 wB w))) (F0 m 33 ls [])) → W p l e { frames := 1, cells := 0, slots := 0, locals := 12 } s m ([.ref h0, .int x1, .int x2, .int x3] : List Value).toArray below meth c H locs 0 0 (MQ below (kQc D aC (rWo h0 wB w) (some (.int oR)) (rWo h0 wB wR)) ([.ref h0, .int x1, .int x2, .int x3] : List Value).toArray s 0 0 (kA (rWo h0 wB w))) (F0 m 3 ls []) := by
    intro n k
    induction n with
    | zero =>
      intro z4_3 w_3 H locs ls hX hl hf hk
      rw [fX12_copies_L3] at hf
      cases hf
    | succ n ih =>
      intro z4_3 w_3 H locs ls hX hl hf hk
      rw [fX12_copies_L3] at hf
      refine lv_iload hx hb (kd dtX12_copies_0 2 rfl) (lv_at hl 4 rfl) ?_
      refine lv_iload_n hx hb (kd dtX12_copies_0 3 rfl) rfl (lv_at hl 2 rfl) ?_
      refine lv_icmp_ge (tgt := 33) hx hb (kd dtX12_copies_0 4 rfl) (by decide) (fun hc => ?_) (fun hc => ?_)
      · have hf := kif_pos hc hf
        exact hk z4_3 w_3 _ _ _ hX hl hf
      · have hf := kif_neg hc hf
        refine lv_aload_n hx hb (kd dtX12_copies_0 5 rfl) rfl (lv_at hl 0 rfl) ?_
        refine rgetA (n := 0) (j := 0) hB (by decide) rfl F hX wfX12_9 (by decide) rfl (kd dtX12_copies_0 6 rfl) ?_
        refine lv_iload_n hx hb (kd dtX12_copies_0 7 rfl) rfl (lv_at hl 3 rfl) ?_
        refine lv_iload hx hb (kd dtX12_copies_0 8 rfl) (lv_at hl 4 rfl) ?_
        refine lv_iadd hx hb (kd dtX12_copies_0 9 rfl) ?_
        refine lv_iload_n hx hb (kd dtX12_copies_0 10 rfl) rfl (lv_at hl 1 rfl) ?_
        refine lv_isub hx hb (kd dtX12_copies_0 11 rfl) ?_
        refine lv_aload_n hx hb (kd dtX12_copies_0 12 rfl) rfl (lv_at hl 0 rfl) ?_
        refine rgetA (n := 0) (j := 0) hB (by decide) rfl F hX wfX12_9 (by decide) rfl (kd dtX12_copies_0 13 rfl) ?_
        refine lv_iload hx hb (kd dtX12_copies_0 14 rfl) (lv_at hl 4 rfl) ?_
        obtain ⟨v3, hv3, hf⟩ := kbind hf
        refine rald hB (by decide) hv3 F hX (kd dtX12_copies_0 15 rfl) ?_
        obtain ⟨w4, hw4, hf⟩ := kbind hf
        refine rast hB (by decide) hw4 F hX (kd dtX12_copies_0 16 rfl) (fun H locs hX => ?_)
        refine lv_iinc (v := z4_3 + (1 : Int32)) (lv' := [(4, .int (z4_3 + (1 : Int32))), (0, .ref h0), (1, .int x1), (2, .int x2), (3, .int x3)]) hx hb (kd dtX12_copies_0 17 rfl) hl (k := 4) rfl (by rfl) (by decide) rfl (fun ls hl => ?_)
        refine lv_goto (tgt := 3) hx hb (kd dtX12_copies_0 18 rfl) (by decide) ?_
        exact ih (z4_3 + (1 : Int32)) w4 _ _ _ hX (lv_sub hl [1, 2, 3, 4, 0] rfl) hf hk
  refine hL3 kFU _ x1 w _ _ _ hX (lv_sub hl [1, 2, 3, 4, 0] rfl) hf ?_
  intro y4_1 w2 H locs ls hX hl hf
  refine lv_iload_n hx hb (kd dtX12_copies_0 19 rfl) rfl (lv_at hl 3 rfl) ?_
  refine lv_iload_n hx hb (kd dtX12_copies_0 20 rfl) rfl (lv_at hl 2 rfl) ?_
  refine lv_iadd hx hb (kd dtX12_copies_0 21 rfl) ?_
  refine lv_iload_n hx hb (kd dtX12_copies_0 22 rfl) rfl (lv_at hl 1 rfl) ?_
  refine lv_isub hx hb (kd dtX12_copies_0 23 rfl) ?_
  obtain ⟨rfl, rfl⟩ := Prod.mk.inj (Option.some.inj hf)
  exact kiret F hX hr hlocks rfl (kd dtX12_copies_0 24 rfl)
def lX12_many_0 : List (Nat × Instr × Nat) := [(0, .iconst 0, 1), (1, .istore 4, 2), (3, .iload_n 1, 1), (4, .istore 5, 2), (6, .iload 5, 2), (8, .iload_n 2, 1), (9, .if_icmp .ge 30, 3), (12, .iload 4, 2), (14, .aload_n 0, 1), (15, .getfield 9, 3), (18, .iload 5, 2), (20, .iaload, 1), (21, .iload_n 3, 1), (22, .if_icmp .ne 7, 3), (25, .iconst 1, 1), (26, .goto 4, 3), (29, .iconst 0, 1), (30, .iadd, 1), (31, .istore 4, 2), (33, .iinc 5 1, 3), (36, .goto (-30), 3), (39, .iload 4, 2), (41, .ireturn, 1)]
theorem dtX12_many_0 : kDec cX12_many lX12_many_0 = true := by decide +kernel
noncomputable def fX12_many_L6 (x1 : Int32) (x2 : Int32) (x3 : Int32) (w : rW) : Nat → (Int32 → Int32 → Option Int32) → Int32 → Int32 → Option Int32
  | 0, _, _, _ => none
  | n + 1, k, x4, x5 =>
  if x2 ≤ x5 then
  k x4 x5
  else
  (raI w 0 10000 x5).bind fun v1 =>
  if v1 = x3 then
  fX12_many_L6 x1 x2 x3 w n k (x4 + (1 : Int32)) (x5 + (1 : Int32))
  else
  fX12_many_L6 x1 x2 x3 w n k (x4 + (0 : Int32)) (x5 + (1 : Int32))

noncomputable def fX12_many (x1 : Int32) (x2 : Int32) (x3 : Int32) (w : rW) : Option Int32 :=
  fX12_many_L6 x1 x2 x3 w kFU (fun y4_1 y5_2 => some y4_1) (0 : Int32) x1

set_option maxHeartbeats 4000000 in
set_option maxRecDepth 100000 in
theorem rX12_many (l : Launch) (D : va_G) (aC : Nat → ClassId) {h0 : Nat} {wB : kW} (hB : rOK h0 wB) {x1 : Int32} {x2 : Int32} {x3 : Int32} {w : rW} {oR : Int32} (h : fX12_many x1 x2 x3 w = some oR) : kC l D aC yX12_many cX12_many 6 (some .int) 1 12 [.ref h0, .int x1, .int x2, .int x3] (rWo h0 wB w) (some (.int oR)) (rWo h0 wB w) 0 0 := by
  refine kOf (own := RX12) (by decide) rfl (Nat.le_of_ble_eq_true rfl) ?_
  intro p e s m below meth c ls F hml hr hlocks hnm hX hZ hl
  obtain ⟨hx, hb, hts, hown, hK⟩ := id F
  have hl : lv_has ls 6 [(0, .ref h0), (1, .int x1), (2, .int x2), (3, .int x3)] := hl
  have hf := h
  rw [fX12_many] at hf
  refine lv_iconst (v := (0 : Int32)) hx hb (kd dtX12_many_0 0 rfl) (by decide) ?_
  refine lv_istore (lv' := [(4, .int (0 : Int32)), (0, .ref h0), (1, .int x1), (2, .int x2), (3, .int x3)]) hx hb (kd dtX12_many_0 1 rfl) hl (by decide) rfl (fun ls hl => ?_)
  refine lv_iload_n hx hb (kd dtX12_many_0 2 rfl) rfl (lv_at hl 2 rfl) ?_
  refine lv_istore (lv' := [(5, .int x1), (4, .int (0 : Int32)), (0, .ref h0), (1, .int x1), (2, .int x2), (3, .int x3)]) hx hb (kd dtX12_many_0 3 rfl) hl (by decide) rfl (fun ls hl => ?_)
  have hL6 : ∀ (n : Nat) (k : Int32 → Int32 → Option Int32), ∀ (z4_6 : Int32) (z5_6 : Int32) (H : Heap) (locs : List Loc) (ls : Array Slot), kX D aC (rWo h0 wB w) s.heap (rWo h0 wB w) H locs → lv_has ls 6 [(0, .ref h0), (1, .int x1), (2, .int x2), (3, .int x3), (4, .int z4_6), (5, .int z5_6)] → fX12_many_L6 x1 x2 x3 w n k z4_6 z5_6 = some oR → (∀ (z4_6 : Int32) (z5_6 : Int32) (H : Heap) (locs : List Loc) (ls : Array Slot), kX D aC (rWo h0 wB w) s.heap (rWo h0 wB w) H locs → lv_has ls 6 [(0, .ref h0), (1, .int x1), (2, .int x2), (3, .int x3), (4, .int z4_6), (5, .int z5_6)] → k z4_6 z5_6 = some oR → W p l e { frames := 1, cells := 0, slots := 0, locals := 12 } s m ([.ref h0, .int x1, .int x2, .int x3] : List Value).toArray below meth c H locs 0 0 (MQ below (kQc D aC (rWo h0 wB w) (some (.int oR)) (rWo h0 wB w)) ([.ref h0, .int x1, .int x2, .int x3] : List Value).toArray s 0 0 (kA (rWo h0 wB w))) (F0 m 39 ls [])) → W p l e { frames := 1, cells := 0, slots := 0, locals := 12 } s m ([.ref h0, .int x1, .int x2, .int x3] : List Value).toArray below meth c H locs 0 0 (MQ below (kQc D aC (rWo h0 wB w) (some (.int oR)) (rWo h0 wB w)) ([.ref h0, .int x1, .int x2, .int x3] : List Value).toArray s 0 0 (kA (rWo h0 wB w))) (F0 m 6 ls []) := by
    intro n k
    induction n with
    | zero =>
      intro z4_6 z5_6 H locs ls hX hl hf hk
      rw [fX12_many_L6] at hf
      cases hf
    | succ n ih =>
      intro z4_6 z5_6 H locs ls hX hl hf hk
      rw [fX12_many_L6] at hf
      refine lv_iload hx hb (kd dtX12_many_0 4 rfl) (lv_at hl 5 rfl) ?_
      refine lv_iload_n hx hb (kd dtX12_many_0 5 rfl) rfl (lv_at hl 2 rfl) ?_
      refine lv_icmp_ge (tgt := 39) hx hb (kd dtX12_many_0 6 rfl) (by decide) (fun hc => ?_) (fun hc => ?_)
      · have hf := kif_pos hc hf
        exact hk z4_6 z5_6 _ _ _ hX hl hf
      · have hf := kif_neg hc hf
        refine lv_iload hx hb (kd dtX12_many_0 7 rfl) (lv_at hl 4 rfl) ?_
        refine lv_aload_n hx hb (kd dtX12_many_0 8 rfl) rfl (lv_at hl 0 rfl) ?_
        refine rgetA (n := 0) (j := 0) hB (by decide) rfl F hX wfX12_9 (by decide) rfl (kd dtX12_many_0 9 rfl) ?_
        refine lv_iload hx hb (kd dtX12_many_0 10 rfl) (lv_at hl 5 rfl) ?_
        obtain ⟨v3, hv3, hf⟩ := kbind hf
        refine rald hB (by decide) hv3 F hX (kd dtX12_many_0 11 rfl) ?_
        refine lv_iload_n hx hb (kd dtX12_many_0 12 rfl) rfl (lv_at hl 3 rfl) ?_
        refine lv_icmp_ne (tgt := 29) hx hb (kd dtX12_many_0 13 rfl) (by decide) (fun hc => ?_) (fun hc => ?_)
        · have hf := kif_neg hc hf
          refine lv_iconst (v := (0 : Int32)) hx hb (kd dtX12_many_0 16 rfl) (by decide) ?_
          refine lv_iadd hx hb (kd dtX12_many_0 17 rfl) ?_
          refine lv_istore (lv' := [(4, .int (z4_6 + (0 : Int32))), (0, .ref h0), (1, .int x1), (2, .int x2), (3, .int x3), (5, .int z5_6)]) hx hb (kd dtX12_many_0 18 rfl) hl (by decide) rfl (fun ls hl => ?_)
          refine lv_iinc (v := z5_6 + (1 : Int32)) (lv' := [(5, .int (z5_6 + (1 : Int32))), (4, .int (z4_6 + (0 : Int32))), (0, .ref h0), (1, .int x1), (2, .int x2), (3, .int x3)]) hx hb (kd dtX12_many_0 19 rfl) hl (k := 5) rfl (by rfl) (by decide) rfl (fun ls hl => ?_)
          refine lv_goto (tgt := 6) hx hb (kd dtX12_many_0 20 rfl) (by decide) ?_
          exact ih (z4_6 + (0 : Int32)) (z5_6 + (1 : Int32)) _ _ _ hX (lv_sub hl [2, 3, 4, 5, 1, 0] rfl) hf hk
        · have hf := kif_pos hc hf
          refine lv_iconst (v := (1 : Int32)) hx hb (kd dtX12_many_0 14 rfl) (by decide) ?_
          refine lv_goto (tgt := 30) hx hb (kd dtX12_many_0 15 rfl) (by decide) ?_
          refine lv_iadd hx hb (kd dtX12_many_0 17 rfl) ?_
          refine lv_istore (lv' := [(4, .int (z4_6 + (1 : Int32))), (0, .ref h0), (1, .int x1), (2, .int x2), (3, .int x3), (5, .int z5_6)]) hx hb (kd dtX12_many_0 18 rfl) hl (by decide) rfl (fun ls hl => ?_)
          refine lv_iinc (v := z5_6 + (1 : Int32)) (lv' := [(5, .int (z5_6 + (1 : Int32))), (4, .int (z4_6 + (1 : Int32))), (0, .ref h0), (1, .int x1), (2, .int x2), (3, .int x3)]) hx hb (kd dtX12_many_0 19 rfl) hl (k := 5) rfl (by rfl) (by decide) rfl (fun ls hl => ?_)
          refine lv_goto (tgt := 6) hx hb (kd dtX12_many_0 20 rfl) (by decide) ?_
          exact ih (z4_6 + (1 : Int32)) (z5_6 + (1 : Int32)) _ _ _ hX (lv_sub hl [2, 3, 4, 5, 1, 0] rfl) hf hk
  refine hL6 kFU _ (0 : Int32) x1 _ _ _ hX (lv_sub hl [2, 3, 4, 5, 1, 0] rfl) hf ?_
  intro y4_1 y5_2 H locs ls hX hl hf
  refine lv_iload hx hb (kd dtX12_many_0 21 rfl) (lv_at hl 4 rfl) ?_
  obtain rfl := Option.some.inj hf
  exact kiret F hX hr hlocks rfl (kd dtX12_many_0 22 rfl)
theorem wmX12_169 : Cond.methodLink RX12 169 yX12_many ∈ kT := kTm 1508 (by decide +kernel) rfl
theorem mwX12_many : kMV RX12 yX12_many cX12_many 6 (some .int) := ⟨kTm 1511 (by decide +kernel) rfl, kTm 106 (by decide +kernel) rfl, kTm 1510 (by decide +kernel) rfl, kTm 66 (by decide +kernel) rfl⟩
def lX12_puts_0 : List (Nat × Instr × Nat) := [(0, .iload 4, 2), (2, .sipush 8000, 3), (5, .isub, 1), (6, .iconst 1, 1), (7, .isub, 1), (8, .istore 5, 2), (10, .aload_n 0, 1), (11, .iload_n 1, 1), (12, .iload_n 2, 1), (13, .iload_n 3, 1), (14, .invokevirtual 169, 3), (17, .iload 5, 2), (19, .imul, 1), (20, .istore 6, 2), (22, .iload_n 2, 1), (23, .iload 6, 2), (25, .iadd, 1), (26, .istore 7, 2), (28, .iload_n 2, 1), (29, .iconst 1, 1), (30, .isub, 1), (31, .istore 8, 2), (33, .iload 8, 2), (35, .iload_n 1, 1), (36, .if_icmp .lt 77, 3), (39, .aload_n 0, 1), (40, .getfield 9, 3), (43, .iload 8, 2), (45, .iaload, 1), (46, .iload_n 3, 1), (47, .if_icmp .eq 23, 3), (50, .iinc 7 (-1), 3), (53, .aload_n 0, 1), (54, .getfield 9, 3), (57, .iload 7, 2), (59, .aload_n 0, 1), (60, .getfield 9, 3), (63, .iload 8, 2), (65, .iaload, 1), (66, .iastore, 1), (67, .goto 40, 3), (70, .iload 4, 2), (72, .iconst 1, 1), (73, .isub, 1), (74, .istore 9, 2), (76, .iload 9, 2), (78, .sipush 8000, 3), (81, .if_icmp .lt 26, 3), (84, .iinc 7 (-1), 3), (87, .aload_n 0, 1), (88, .getfield 9, 3), (91, .iload 7, 2), (93, .aload_n 0, 1), (94, .getfield 9, 3), (97, .iload 9, 2), (99, .iaload, 1), (100, .iastore, 1), (101, .iinc 9 (-1), 3), (104, .goto (-28), 3), (107, .iinc 8 (-1), 3), (110, .goto (-77), 3), (113, .iload_n 2, 1), (114, .iload 6, 2), (116, .iadd, 1), (117, .ireturn, 1)]
theorem dtX12_puts_0 : kDec cX12_puts lX12_puts_0 = true := by decide +kernel
noncomputable def fX12_puts_L76 (x1 : Int32) (x2 : Int32) (x3 : Int32) (x4 : Int32) (x5 : Int32) (x6 : Int32) (x8 : Int32) : Nat → (Int32 → Int32 → rW → Option (Int32 × rW)) → Int32 → Int32 → rW → Option (Int32 × rW)
  | 0, _, _, _, _ => none
  | n + 1, k, x7, x9, w =>
  if x9 < (8000 : Int32) then
  k x7 x9 w
  else
  (raI w 0 10000 x9).bind fun v1 =>
  (rsI w 0 10000 (x7 + (-1 : Int32)) v1).bind fun w2 =>
  fX12_puts_L76 x1 x2 x3 x4 x5 x6 x8 n k (x7 + (-1 : Int32)) (x9 + (-1 : Int32)) w2

noncomputable def fX12_puts_L33 (x1 : Int32) (x2 : Int32) (x3 : Int32) (x4 : Int32) (x5 : Int32) (x6 : Int32) : Nat → (Int32 → Int32 → rW → Option (Int32 × rW)) → Int32 → Int32 → rW → Option (Int32 × rW)
  | 0, _, _, _, _ => none
  | n + 1, k, x7, x8, w =>
  if x8 < x1 then
  k x7 x8 w
  else
  (raI w 0 10000 x8).bind fun v1 =>
  if v1 = x3 then
  fX12_puts_L76 x1 x2 x3 x4 x5 x6 x8 kFU (fun y7_2 y9_3 w4 => fX12_puts_L33 x1 x2 x3 x4 x5 x6 n k y7_2 (x8 + (-1 : Int32)) w4) x7 (x4 - (1 : Int32)) w
  else
  (raI w 0 10000 x8).bind fun v5 =>
  (rsI w 0 10000 (x7 + (-1 : Int32)) v5).bind fun w6 =>
  fX12_puts_L33 x1 x2 x3 x4 x5 x6 n k (x7 + (-1 : Int32)) (x8 + (-1 : Int32)) w6

noncomputable def fX12_puts (x1 : Int32) (x2 : Int32) (x3 : Int32) (x4 : Int32) (w : rW) : Option (Int32 × rW) :=
  (fX12_many x1 x2 x3 w).bind fun v2 =>
  (some (x2 + (v2 * ((x4 - (8000 : Int32)) - (1 : Int32))))).bind fun v3 =>
  fX12_puts_L33 x1 x2 x3 x4 ((x4 - (8000 : Int32)) - (1 : Int32)) (v2 * ((x4 - (8000 : Int32)) - (1 : Int32))) kFU (fun y7_4 y8_5 w6 => some (x2 + (v2 * ((x4 - (8000 : Int32)) - (1 : Int32))), w6)) v3 (x2 - (1 : Int32)) w

set_option maxHeartbeats 4000000 in
set_option maxRecDepth 100000 in
theorem rX12_puts (l : Launch) (D : va_G) (aC : Nat → ClassId) {h0 : Nat} {wB : kW} (hB : rOK h0 wB) {x1 : Int32} {x2 : Int32} {x3 : Int32} {x4 : Int32} {w : rW} {wR : rW} {oR : Int32} (h : fX12_puts x1 x2 x3 x4 w = some (oR, wR)) : kC l D aC yX12_puts cX12_puts 10 (some .int) 2 37 [.ref h0, .int x1, .int x2, .int x3, .int x4] (rWo h0 wB w) (some (.int oR)) (rWo h0 wB wR) 0 0 := by
  refine kOf (own := RX12) (by decide) rfl (Nat.le_of_ble_eq_true rfl) ?_
  intro p e s m below meth c ls F hml hr hlocks hnm hX hZ hl
  obtain ⟨hx, hb, hts, hown, hK⟩ := id F
  have hl : lv_has ls 10 [(0, .ref h0), (1, .int x1), (2, .int x2), (3, .int x3), (4, .int x4)] := hl
  have hf := h
  rw [fX12_puts] at hf
  refine lv_iload hx hb (kd dtX12_puts_0 0 rfl) (lv_at hl 4 rfl) ?_
  refine lv_sipush (v := (8000 : Int32)) hx hb (kd dtX12_puts_0 1 rfl) (by decide) ?_
  refine lv_isub hx hb (kd dtX12_puts_0 2 rfl) ?_
  refine lv_iconst (v := (1 : Int32)) hx hb (kd dtX12_puts_0 3 rfl) (by decide) ?_
  refine lv_isub hx hb (kd dtX12_puts_0 4 rfl) ?_
  refine lv_istore (lv' := [(5, .int ((x4 - (8000 : Int32)) - (1 : Int32))), (0, .ref h0), (1, .int x1), (2, .int x2), (3, .int x3), (4, .int x4)]) hx hb (kd dtX12_puts_0 5 rfl) hl (by decide) rfl (fun ls hl => ?_)
  refine lv_aload_n hx hb (kd dtX12_puts_0 6 rfl) rfl (lv_at hl 1 rfl) ?_
  refine lv_iload_n hx hb (kd dtX12_puts_0 7 rfl) rfl (lv_at hl 2 rfl) ?_
  refine lv_iload_n hx hb (kd dtX12_puts_0 8 rfl) rfl (lv_at hl 3 rfl) ?_
  refine lv_iload_n hx hb (kd dtX12_puts_0 9 rfl) rfl (lv_at hl 4 rfl) ?_
  obtain ⟨v2, h1, hf⟩ := kbind hf
  refine kcallV (n := 3) [.int x1, .int x2, .int x3] [] [.int v2] (rX12_many l D aC hB h1) rfl hB.1 F hml hX hZ hl.1 mwX12_many wmX12_169 rfl (by decide) (by decide +kernel) ⟨(by decide), (by decide)⟩ rfl rfl rfl (Nat.le_of_ble_eq_true rfl) (kd dtX12_puts_0 10 rfl) ⟨Nat.zero_le _, Nat.zero_le _⟩ (fun H locs hX => ?_)
  refine lv_iload hx hb (kd dtX12_puts_0 11 rfl) (lv_at hl 0 rfl) ?_
  refine lv_imul hx hb (kd dtX12_puts_0 12 rfl) ?_
  refine lv_istore (lv' := [(6, .int (v2 * ((x4 - (8000 : Int32)) - (1 : Int32)))), (5, .int ((x4 - (8000 : Int32)) - (1 : Int32))), (0, .ref h0), (1, .int x1), (2, .int x2), (3, .int x3), (4, .int x4)]) hx hb (kd dtX12_puts_0 13 rfl) hl (by decide) rfl (fun ls hl => ?_)
  refine lv_iload_n hx hb (kd dtX12_puts_0 14 rfl) rfl (lv_at hl 4 rfl) ?_
  refine lv_iload hx hb (kd dtX12_puts_0 15 rfl) (lv_at hl 0 rfl) ?_
  refine lv_iadd hx hb (kd dtX12_puts_0 16 rfl) ?_
  obtain ⟨v3, hv3, hf⟩ := kbind hf
  have hv3 := Option.some.inj hv3
  rw [hv3]
  refine lv_istore (lv' := [(7, .int v3), (6, .int (v2 * ((x4 - (8000 : Int32)) - (1 : Int32)))), (5, .int ((x4 - (8000 : Int32)) - (1 : Int32))), (0, .ref h0), (1, .int x1), (2, .int x2), (3, .int x3), (4, .int x4)]) hx hb (kd dtX12_puts_0 17 rfl) hl (by decide) rfl (fun ls hl => ?_)
  refine lv_iload_n hx hb (kd dtX12_puts_0 18 rfl) rfl (lv_at hl 5 rfl) ?_
  refine lv_iconst (v := (1 : Int32)) hx hb (kd dtX12_puts_0 19 rfl) (by decide) ?_
  refine lv_isub hx hb (kd dtX12_puts_0 20 rfl) ?_
  refine lv_istore (lv' := [(8, .int (x2 - (1 : Int32))), (7, .int v3), (6, .int (v2 * ((x4 - (8000 : Int32)) - (1 : Int32)))), (5, .int ((x4 - (8000 : Int32)) - (1 : Int32))), (0, .ref h0), (1, .int x1), (2, .int x2), (3, .int x3), (4, .int x4)]) hx hb (kd dtX12_puts_0 21 rfl) hl (by decide) rfl (fun ls hl => ?_)
  have hL33 : ∀ (n : Nat) (k : Int32 → Int32 → rW → Option (Int32 × rW)), ∀ (z7_33 : Int32) (z8_33 : Int32) (w_33 : rW) (H : Heap) (locs : List Loc) (ls : Array Slot), kX D aC (rWo h0 wB w) s.heap (rWo h0 wB w_33) H locs → lv_has ls 10 [(0, .ref h0), (1, .int x1), (2, .int x2), (3, .int x3), (4, .int x4), (5, .int ((x4 - (8000 : Int32)) - (1 : Int32))), (6, .int (v2 * ((x4 - (8000 : Int32)) - (1 : Int32)))), (7, .int z7_33), (8, .int z8_33)] → fX12_puts_L33 x1 x2 x3 x4 ((x4 - (8000 : Int32)) - (1 : Int32)) (v2 * ((x4 - (8000 : Int32)) - (1 : Int32))) n k z7_33 z8_33 w_33 = some (oR, wR) → (∀ (z7_33 : Int32) (z8_33 : Int32) (w_33 : rW) (H : Heap) (locs : List Loc) (ls : Array Slot), kX D aC (rWo h0 wB w) s.heap (rWo h0 wB w_33) H locs → lv_has ls 10 [(0, .ref h0), (1, .int x1), (2, .int x2), (3, .int x3), (4, .int x4), (5, .int ((x4 - (8000 : Int32)) - (1 : Int32))), (6, .int (v2 * ((x4 - (8000 : Int32)) - (1 : Int32)))), (7, .int z7_33), (8, .int z8_33)] → k z7_33 z8_33 w_33 = some (oR, wR) → W p l e { frames := 2, cells := 0, slots := 0, locals := 37 } s m ([.ref h0, .int x1, .int x2, .int x3, .int x4] : List Value).toArray below meth c H locs 0 0 (MQ below (kQc D aC (rWo h0 wB w) (some (.int oR)) (rWo h0 wB wR)) ([.ref h0, .int x1, .int x2, .int x3, .int x4] : List Value).toArray s 0 0 (kA (rWo h0 wB w))) (F0 m 113 ls [])) → W p l e { frames := 2, cells := 0, slots := 0, locals := 37 } s m ([.ref h0, .int x1, .int x2, .int x3, .int x4] : List Value).toArray below meth c H locs 0 0 (MQ below (kQc D aC (rWo h0 wB w) (some (.int oR)) (rWo h0 wB wR)) ([.ref h0, .int x1, .int x2, .int x3, .int x4] : List Value).toArray s 0 0 (kA (rWo h0 wB w))) (F0 m 33 ls []) := by
    intro n k
    induction n with
    | zero =>
      intro z7_33 z8_33 w_33 H locs ls hX hl hf hk
      rw [fX12_puts_L33] at hf
      cases hf
    | succ n ih =>
      intro z7_33 z8_33 w_33 H locs ls hX hl hf hk
      rw [fX12_puts_L33] at hf
      refine lv_iload hx hb (kd dtX12_puts_0 22 rfl) (lv_at hl 8 rfl) ?_
      refine lv_iload_n hx hb (kd dtX12_puts_0 23 rfl) rfl (lv_at hl 1 rfl) ?_
      refine lv_icmp_lt (tgt := 113) hx hb (kd dtX12_puts_0 24 rfl) (by decide) (fun hc => ?_) (fun hc => ?_)
      · have hf := kif_pos hc hf
        exact hk z7_33 z8_33 w_33 _ _ _ hX hl hf
      · have hf := kif_neg hc hf
        refine lv_aload_n hx hb (kd dtX12_puts_0 25 rfl) rfl (lv_at hl 0 rfl) ?_
        refine rgetA (n := 0) (j := 0) hB (by decide) rfl F hX wfX12_9 (by decide) rfl (kd dtX12_puts_0 26 rfl) ?_
        refine lv_iload hx hb (kd dtX12_puts_0 27 rfl) (lv_at hl 8 rfl) ?_
        obtain ⟨v7, hv7, hf⟩ := kbind hf
        refine rald hB (by decide) hv7 F hX (kd dtX12_puts_0 28 rfl) ?_
        refine lv_iload_n hx hb (kd dtX12_puts_0 29 rfl) rfl (lv_at hl 3 rfl) ?_
        refine lv_icmp_eq (tgt := 70) hx hb (kd dtX12_puts_0 30 rfl) (by decide) (fun hc => ?_) (fun hc => ?_)
        · have hf := kif_pos hc hf
          refine lv_iload hx hb (kd dtX12_puts_0 41 rfl) (lv_at hl 4 rfl) ?_
          refine lv_iconst (v := (1 : Int32)) hx hb (kd dtX12_puts_0 42 rfl) (by decide) ?_
          refine lv_isub hx hb (kd dtX12_puts_0 43 rfl) ?_
          refine lv_istore (lv' := [(9, .int (x4 - (1 : Int32))), (0, .ref h0), (1, .int x1), (2, .int x2), (3, .int x3), (4, .int x4), (5, .int ((x4 - (8000 : Int32)) - (1 : Int32))), (6, .int (v2 * ((x4 - (8000 : Int32)) - (1 : Int32)))), (7, .int z7_33), (8, .int z8_33)]) hx hb (kd dtX12_puts_0 44 rfl) hl (by decide) rfl (fun ls hl => ?_)
          have hL76 : ∀ (n : Nat) (k : Int32 → Int32 → rW → Option (Int32 × rW)), ∀ (z7_76 : Int32) (z9_76 : Int32) (w_76 : rW) (H : Heap) (locs : List Loc) (ls : Array Slot), kX D aC (rWo h0 wB w) s.heap (rWo h0 wB w_76) H locs → lv_has ls 10 [(0, .ref h0), (1, .int x1), (2, .int x2), (3, .int x3), (4, .int x4), (5, .int ((x4 - (8000 : Int32)) - (1 : Int32))), (6, .int (v2 * ((x4 - (8000 : Int32)) - (1 : Int32)))), (7, .int z7_76), (8, .int z8_33), (9, .int z9_76)] → fX12_puts_L76 x1 x2 x3 x4 ((x4 - (8000 : Int32)) - (1 : Int32)) (v2 * ((x4 - (8000 : Int32)) - (1 : Int32))) z8_33 n k z7_76 z9_76 w_76 = some (oR, wR) → (∀ (z7_76 : Int32) (z9_76 : Int32) (w_76 : rW) (H : Heap) (locs : List Loc) (ls : Array Slot), kX D aC (rWo h0 wB w) s.heap (rWo h0 wB w_76) H locs → lv_has ls 10 [(0, .ref h0), (1, .int x1), (2, .int x2), (3, .int x3), (4, .int x4), (5, .int ((x4 - (8000 : Int32)) - (1 : Int32))), (6, .int (v2 * ((x4 - (8000 : Int32)) - (1 : Int32)))), (7, .int z7_76), (8, .int z8_33), (9, .int z9_76)] → k z7_76 z9_76 w_76 = some (oR, wR) → W p l e { frames := 2, cells := 0, slots := 0, locals := 37 } s m ([.ref h0, .int x1, .int x2, .int x3, .int x4] : List Value).toArray below meth c H locs 0 0 (MQ below (kQc D aC (rWo h0 wB w) (some (.int oR)) (rWo h0 wB wR)) ([.ref h0, .int x1, .int x2, .int x3, .int x4] : List Value).toArray s 0 0 (kA (rWo h0 wB w))) (F0 m 107 ls [])) → W p l e { frames := 2, cells := 0, slots := 0, locals := 37 } s m ([.ref h0, .int x1, .int x2, .int x3, .int x4] : List Value).toArray below meth c H locs 0 0 (MQ below (kQc D aC (rWo h0 wB w) (some (.int oR)) (rWo h0 wB wR)) ([.ref h0, .int x1, .int x2, .int x3, .int x4] : List Value).toArray s 0 0 (kA (rWo h0 wB w))) (F0 m 76 ls []) := by
            intro n k
            induction n with
            | zero =>
              intro z7_76 z9_76 w_76 H locs ls hX hl hf hk
              rw [fX12_puts_L76] at hf
              cases hf
            | succ n ih =>
              intro z7_76 z9_76 w_76 H locs ls hX hl hf hk
              rw [fX12_puts_L76] at hf
              refine lv_iload hx hb (kd dtX12_puts_0 45 rfl) (lv_at hl 9 rfl) ?_
              refine lv_sipush (v := (8000 : Int32)) hx hb (kd dtX12_puts_0 46 rfl) (by decide) ?_
              refine lv_icmp_lt (tgt := 107) hx hb (kd dtX12_puts_0 47 rfl) (by decide) (fun hc => ?_) (fun hc => ?_)
              · have hf := kif_pos hc hf
                exact hk z7_76 z9_76 w_76 _ _ _ hX hl hf
              · have hf := kif_neg hc hf
                refine lv_iinc (v := z7_76 + (-1 : Int32)) (lv' := [(7, .int (z7_76 + (-1 : Int32))), (0, .ref h0), (1, .int x1), (2, .int x2), (3, .int x3), (4, .int x4), (5, .int ((x4 - (8000 : Int32)) - (1 : Int32))), (6, .int (v2 * ((x4 - (8000 : Int32)) - (1 : Int32)))), (8, .int z8_33), (9, .int z9_76)]) hx hb (kd dtX12_puts_0 48 rfl) hl (k := 7) rfl (by rfl) (by decide) rfl (fun ls hl => ?_)
                refine lv_aload_n hx hb (kd dtX12_puts_0 49 rfl) rfl (lv_at hl 1 rfl) ?_
                refine rgetA (n := 0) (j := 0) hB (by decide) rfl F hX wfX12_9 (by decide) rfl (kd dtX12_puts_0 50 rfl) ?_
                refine lv_iload hx hb (kd dtX12_puts_0 51 rfl) (lv_at hl 0 rfl) ?_
                refine lv_aload_n hx hb (kd dtX12_puts_0 52 rfl) rfl (lv_at hl 1 rfl) ?_
                refine rgetA (n := 0) (j := 0) hB (by decide) rfl F hX wfX12_9 (by decide) rfl (kd dtX12_puts_0 53 rfl) ?_
                refine lv_iload hx hb (kd dtX12_puts_0 54 rfl) (lv_at hl 9 rfl) ?_
                obtain ⟨v11, hv11, hf⟩ := kbind hf
                refine rald hB (by decide) hv11 F hX (kd dtX12_puts_0 55 rfl) ?_
                obtain ⟨w12, hw12, hf⟩ := kbind hf
                refine rast hB (by decide) hw12 F hX (kd dtX12_puts_0 56 rfl) (fun H locs hX => ?_)
                refine lv_iinc (v := z9_76 + (-1 : Int32)) (lv' := [(9, .int (z9_76 + (-1 : Int32))), (7, .int (z7_76 + (-1 : Int32))), (0, .ref h0), (1, .int x1), (2, .int x2), (3, .int x3), (4, .int x4), (5, .int ((x4 - (8000 : Int32)) - (1 : Int32))), (6, .int (v2 * ((x4 - (8000 : Int32)) - (1 : Int32)))), (8, .int z8_33)]) hx hb (kd dtX12_puts_0 57 rfl) hl (k := 9) rfl (by rfl) (by decide) rfl (fun ls hl => ?_)
                refine lv_goto (tgt := 76) hx hb (kd dtX12_puts_0 58 rfl) (by decide) ?_
                exact ih (z7_76 + (-1 : Int32)) (z9_76 + (-1 : Int32)) w12 _ _ _ hX (lv_sub hl [2, 3, 4, 5, 6, 7, 8, 1, 9, 0] rfl) hf hk
          refine hL76 kFU _ z7_33 (x4 - (1 : Int32)) w_33 _ _ _ hX (lv_sub hl [1, 2, 3, 4, 5, 6, 7, 8, 9, 0] rfl) hf ?_
          intro y7_8 y9_9 w10 H locs ls hX hl hf
          refine lv_iinc (v := z8_33 + (-1 : Int32)) (lv' := [(8, .int (z8_33 + (-1 : Int32))), (0, .ref h0), (1, .int x1), (2, .int x2), (3, .int x3), (4, .int x4), (5, .int ((x4 - (8000 : Int32)) - (1 : Int32))), (6, .int (v2 * ((x4 - (8000 : Int32)) - (1 : Int32)))), (7, .int y7_8), (9, .int y9_9)]) hx hb (kd dtX12_puts_0 59 rfl) hl (k := 8) rfl (by rfl) (by decide) rfl (fun ls hl => ?_)
          refine lv_goto (tgt := 33) hx hb (kd dtX12_puts_0 60 rfl) (by decide) ?_
          exact ih y7_8 (z8_33 + (-1 : Int32)) w10 _ _ _ hX (lv_sub hl [1, 2, 3, 4, 5, 6, 7, 8, 0] rfl) hf hk
        · have hf := kif_neg hc hf
          refine lv_iinc (v := z7_33 + (-1 : Int32)) (lv' := [(7, .int (z7_33 + (-1 : Int32))), (0, .ref h0), (1, .int x1), (2, .int x2), (3, .int x3), (4, .int x4), (5, .int ((x4 - (8000 : Int32)) - (1 : Int32))), (6, .int (v2 * ((x4 - (8000 : Int32)) - (1 : Int32)))), (8, .int z8_33)]) hx hb (kd dtX12_puts_0 31 rfl) hl (k := 7) rfl (by rfl) (by decide) rfl (fun ls hl => ?_)
          refine lv_aload_n hx hb (kd dtX12_puts_0 32 rfl) rfl (lv_at hl 1 rfl) ?_
          refine rgetA (n := 0) (j := 0) hB (by decide) rfl F hX wfX12_9 (by decide) rfl (kd dtX12_puts_0 33 rfl) ?_
          refine lv_iload hx hb (kd dtX12_puts_0 34 rfl) (lv_at hl 0 rfl) ?_
          refine lv_aload_n hx hb (kd dtX12_puts_0 35 rfl) rfl (lv_at hl 1 rfl) ?_
          refine rgetA (n := 0) (j := 0) hB (by decide) rfl F hX wfX12_9 (by decide) rfl (kd dtX12_puts_0 36 rfl) ?_
          refine lv_iload hx hb (kd dtX12_puts_0 37 rfl) (lv_at hl 8 rfl) ?_
          obtain ⟨v13, hv13, hf⟩ := kbind hf
          refine rald hB (by decide) hv13 F hX (kd dtX12_puts_0 38 rfl) ?_
          obtain ⟨w14, hw14, hf⟩ := kbind hf
          refine rast hB (by decide) hw14 F hX (kd dtX12_puts_0 39 rfl) (fun H locs hX => ?_)
          refine lv_goto (tgt := 107) hx hb (kd dtX12_puts_0 40 rfl) (by decide) ?_
          refine lv_iinc (v := z8_33 + (-1 : Int32)) (lv' := [(8, .int (z8_33 + (-1 : Int32))), (7, .int (z7_33 + (-1 : Int32))), (0, .ref h0), (1, .int x1), (2, .int x2), (3, .int x3), (4, .int x4), (5, .int ((x4 - (8000 : Int32)) - (1 : Int32))), (6, .int (v2 * ((x4 - (8000 : Int32)) - (1 : Int32))))]) hx hb (kd dtX12_puts_0 59 rfl) hl (k := 8) rfl (by rfl) (by decide) rfl (fun ls hl => ?_)
          refine lv_goto (tgt := 33) hx hb (kd dtX12_puts_0 60 rfl) (by decide) ?_
          exact ih (z7_33 + (-1 : Int32)) (z8_33 + (-1 : Int32)) w14 _ _ _ hX (lv_sub hl [2, 3, 4, 5, 6, 7, 8, 1, 0] rfl) hf hk
  refine hL33 kFU _ v3 (x2 - (1 : Int32)) w _ _ _ hX (lv_sub hl [4, 5, 6, 7, 8, 3, 2, 1, 0] rfl) hf ?_
  intro y7_4 y8_5 w6 H locs ls hX hl hf
  refine lv_iload_n hx hb (kd dtX12_puts_0 61 rfl) rfl (lv_at hl 2 rfl) ?_
  refine lv_iload hx hb (kd dtX12_puts_0 62 rfl) (lv_at hl 6 rfl) ?_
  refine lv_iadd hx hb (kd dtX12_puts_0 63 rfl) ?_
  obtain ⟨rfl, rfl⟩ := Prod.mk.inj (Option.some.inj hf)
  exact kiret F hX hr hlocks rfl (kd dtX12_puts_0 64 rfl)
theorem wmX12_173 : Cond.methodLink RX12 173 yX12_copies ∈ kT := kTm 1504 (by decide +kernel) rfl
theorem mwX12_copies : kMV RX12 yX12_copies cX12_copies 5 (some .int) := ⟨kTm 1507 (by decide +kernel) rfl, kTm 106 (by decide +kernel) rfl, kTm 1506 (by decide +kernel) rfl, kTm 65 (by decide +kernel) rfl⟩
theorem wfX12_176 : Cond.fieldLink RX12 176 (TX12 17).1 (TX12 17).2.1 (TX12 17).2.2.1 ∈ kT := kTm 1251 (by decide +kernel) rfl
theorem wfX12_179 : Cond.fieldLink RX12 179 (TX12 18).1 (TX12 18).2.1 (TX12 18).2.2.1 ∈ kT := kTm 1252 (by decide +kernel) rfl
theorem wmX12_182 : Cond.methodLink RX12 182 yX12_puts ∈ kT := kTm 1512 (by decide +kernel) rfl
theorem mwX12_puts : kMV RX12 yX12_puts cX12_puts 10 (some .int) := ⟨kTm 1515 (by decide +kernel) rfl, kTm 106 (by decide +kernel) rfl, kTm 1514 (by decide +kernel) rfl, kTm 67 (by decide +kernel) rfl⟩
def lX12_isWidest_0 : List (Nat × Instr × Nat) := [(0, .aload_n 0, 1), (1, .aload_n 0, 1), (2, .iload_n 1, 1), (3, .invokestatic 86, 3), (6, .iload_n 1, 1), (7, .invokestatic 86, 3), (10, .aload_n 0, 1), (11, .getfield 16, 3), (14, .iconst 3, 1), (15, .iload_n 1, 1), (16, .iadd, 1), (17, .iaload, 1), (18, .iadd, 1), (19, .sipush 4000, 3), (22, .invokevirtual 173, 3), (25, .putfield 176, 3), (28, .aload_n 0, 1), (29, .aload_n 0, 1), (30, .iload_n 2, 1), (31, .invokestatic 86, 3), (34, .iload_n 2, 1), (35, .invokestatic 86, 3), (38, .aload_n 0, 1), (39, .getfield 16, 3), (42, .iconst 3, 1), (43, .iload_n 2, 1), (44, .iadd, 1), (45, .iaload, 1), (46, .iadd, 1), (47, .sipush 6000, 3), (50, .invokevirtual 173, 3), (53, .putfield 179, 3), (56, .iconst 0, 1), (57, .istore_n 3, 1), (58, .sipush 4000, 3), (61, .iload_n 3, 1), (62, .iadd, 1), (63, .aload_n 0, 1), (64, .getfield 176, 3), (67, .if_icmp .ge 44, 3), (70, .sipush 6000, 3), (73, .iload_n 3, 1), (74, .iadd, 1), (75, .aload_n 0, 1), (76, .getfield 179, 3), (79, .if_icmp .ge 32, 3), (82, .aload_n 0, 1), (83, .getfield 9, 3), (86, .sipush 4000, 3), (89, .iload_n 3, 1), (90, .iadd, 1), (91, .iaload, 1), (92, .aload_n 0, 1), (93, .getfield 9, 3), (96, .sipush 6000, 3), (99, .iload_n 3, 1), (100, .iadd, 1), (101, .iaload, 1), (102, .if_icmp .ne 9, 3), (105, .iinc 3 1, 3), (108, .goto (-50), 3), (111, .sipush 4000, 3), (114, .iload_n 3, 1), (115, .iadd, 1), (116, .aload_n 0, 1), (117, .getfield 176, 3), (120, .if_icmp .ne 17, 3), (123, .sipush 6000, 3), (126, .iload_n 3, 1), (127, .iadd, 1), (128, .aload_n 0, 1), (129, .getfield 179, 3), (132, .if_icmp .ne 5, 3), (135, .iconst 1, 1), (136, .ireturn, 1), (137, .aload_n 0, 1), (138, .getfield 9, 3), (141, .sipush 4000, 3), (144, .iload_n 3, 1), (145, .iadd, 1)]
theorem dtX12_isWidest_0 : kDec cX12_isWidest lX12_isWidest_0 = true := by decide +kernel
def lX12_isWidest_1 : List (Nat × Instr × Nat) := [(146, .iaload, 1), (147, .istore 4, 2), (149, .aload_n 0, 1), (150, .getfield 9, 3), (153, .sipush 6000, 3), (156, .iload_n 3, 1), (157, .iadd, 1), (158, .iaload, 1), (159, .istore 5, 2), (161, .iload 4, 2), (163, .invokestatic 71, 3), (166, .ifCond .ne 13, 3), (169, .iload 5, 2), (171, .invokestatic 71, 3), (174, .ifCond .ne 5, 3), (177, .iconst 0, 1), (178, .ireturn, 1), (179, .iload 4, 2), (181, .invokestatic 71, 3), (184, .ifCond .eq 8, 3), (187, .iload 4, 2), (189, .goto 5, 3), (192, .iload 5, 2), (194, .istore 6, 2), (196, .iload 4, 2), (198, .invokestatic 71, 3), (201, .ifCond .eq 11, 3), (204, .sipush 6000, 3), (207, .iload_n 3, 1), (208, .iadd, 1), (209, .goto 8, 3), (212, .sipush 4000, 3), (215, .iload_n 3, 1), (216, .iadd, 1), (217, .istore 7, 2), (219, .aload_n 0, 1), (220, .iload 7, 2), (222, .aload_n 0, 1), (223, .iload 7, 2), (225, .invokevirtual 75, 3), (228, .sipush 8000, 3), (231, .invokevirtual 173, 3), (234, .istore 8, 2), (236, .aload_n 0, 1), (237, .sipush 8000, 3), (240, .iload 8, 2), (242, .iload 6, 2), (244, .invokevirtual 169, 3), (247, .ifCond .le 5, 3), (250, .iconst 0, 1), (251, .ireturn, 1), (252, .aload_n 0, 1), (253, .sipush 8000, 3), (256, .iload 8, 2), (258, .invokevirtual 132, 3), (261, .iconst 1, 1), (262, .isub, 1), (263, .istore 9, 2), (265, .aload_n 0, 1), (266, .sipush 4000, 3), (269, .aload_n 0, 1), (270, .getfield 176, 3), (273, .invokevirtual 132, 3), (276, .iload 9, 2), (278, .aload_n 0, 1), (279, .sipush 4000, 3), (282, .aload_n 0, 1), (283, .getfield 176, 3), (286, .iload 6, 2), (288, .invokevirtual 169, 3), (291, .imul, 1), (292, .iadd, 1), (293, .sipush 200, 3), (296, .if_icmp .gt 37, 3), (299, .aload_n 0, 1), (300, .sipush 6000, 3), (303, .aload_n 0, 1), (304, .getfield 179, 3), (307, .invokevirtual 132, 3), (310, .iload 9, 2)]
theorem dtX12_isWidest_1 : kDec cX12_isWidest lX12_isWidest_1 = true := by decide +kernel
def lX12_isWidest_2 : List (Nat × Instr × Nat) := [(312, .aload_n 0, 1), (313, .sipush 6000, 3), (316, .aload_n 0, 1), (317, .getfield 179, 3), (320, .iload 6, 2), (322, .invokevirtual 169, 3), (325, .imul, 1), (326, .iadd, 1), (327, .sipush 200, 3), (330, .if_icmp .le 5, 3), (333, .iconst 0, 1), (334, .ireturn, 1), (335, .aload_n 0, 1), (336, .aload_n 0, 1), (337, .sipush 4000, 3), (340, .aload_n 0, 1), (341, .getfield 176, 3), (344, .iload 6, 2), (346, .iload 8, 2), (348, .invokevirtual 182, 3), (351, .putfield 176, 3), (354, .aload_n 0, 1), (355, .aload_n 0, 1), (356, .sipush 6000, 3), (359, .aload_n 0, 1), (360, .getfield 179, 3), (363, .iload 6, 2), (365, .iload 8, 2), (367, .invokevirtual 182, 3), (370, .putfield 179, 3), (373, .goto (-317), 3)]
theorem dtX12_isWidest_2 : kDec cX12_isWidest lX12_isWidest_2 = true := by decide +kernel
noncomputable def fX12_isWidest_L58 (x1 : Int32) (x2 : Int32) (w : rW) : Nat → (Int32 → Option (Int32 × rW)) → Int32 → Option (Int32 × rW)
  | 0, _, _ => none
  | n + 1, k, x3 =>
  if (rF w 17) ≤ ((4000 : Int32) + x3) then
  k x3
  else
  if (rF w 18) ≤ ((6000 : Int32) + x3) then
  k x3
  else
  (raI w 0 10000 ((4000 : Int32) + x3)).bind fun v1 =>
  (raI w 0 10000 ((6000 : Int32) + x3)).bind fun v2 =>
  if v1 = v2 then
  fX12_isWidest_L58 x1 x2 w n k (x3 + (1 : Int32))
  else
  k x3

noncomputable def fX12_isWidest_J56_217 (b k : rW → Option (Int32 × rW)) (x1 : Int32) (x2 : Int32) (x3 : Int32) (x4 : Int32) (x5 : Int32) (x6 : Int32) (s0 : Int32) (w : rW) : Option (Int32 × rW) :=
  (fX12_end kDP s0 w).bind fun v2 =>
  kb2 (fX12_copies s0 v2 (8000 : Int32) w) fun v5 w3 =>
  (fX12_many (8000 : Int32) v5 x6 w3).bind fun v7 =>
  if v7 ≤ 0 then
  (fX12_sizeOf (8000 : Int32) v5 w3).bind fun v9 =>
  (fX12_sizeOf (4000 : Int32) (rF w3 17) w3).bind fun v11 =>
  (fX12_many (4000 : Int32) (rF w3 17) x6 w3).bind fun v13 =>
  if (200 : Int32) < (v11 + ((v9 - (1 : Int32)) * v13)) then
  some ((0 : Int32), w3)
  else
  (fX12_sizeOf (6000 : Int32) (rF w3 18) w3).bind fun v15 =>
  (fX12_many (6000 : Int32) (rF w3 18) x6 w3).bind fun v17 =>
  if (v15 + ((v9 - (1 : Int32)) * v17)) ≤ (200 : Int32) then
  kb2 (fX12_puts (4000 : Int32) (rF w3 17) x6 v5 w3) fun v20 w18 =>
  (rpF w18 17 v20).bind fun w21 =>
  kb2 (fX12_puts (6000 : Int32) (rF w21 18) x6 v5 w21) fun v24 w22 =>
  (rpF w22 18 v24).bind fun w25 =>
  b w25
  else
  some ((0 : Int32), w3)
  else
  some ((0 : Int32), w3)

noncomputable def fX12_isWidest_J56_194 (b k : rW → Option (Int32 × rW)) (x1 : Int32) (x2 : Int32) (x3 : Int32) (x4 : Int32) (x5 : Int32) (s0 : Int32) (w : rW) : Option (Int32 × rW) :=
  (fX12_isLetter x4).bind fun v2 =>
  if v2 = 0 then
  fX12_isWidest_J56_217 b k x1 x2 x3 x4 x5 s0 ((4000 : Int32) + x3) w
  else
  fX12_isWidest_J56_217 b k x1 x2 x3 x4 x5 s0 ((6000 : Int32) + x3) w

noncomputable def fX12_isWidest_J56_179 (b k : rW → Option (Int32 × rW)) (x1 : Int32) (x2 : Int32) (x3 : Int32) (x4 : Int32) (x5 : Int32) (w : rW) : Option (Int32 × rW) :=
  (fX12_isLetter x4).bind fun v2 =>
  if v2 = 0 then
  fX12_isWidest_J56_194 b k x1 x2 x3 x4 x5 x5 w
  else
  fX12_isWidest_J56_194 b k x1 x2 x3 x4 x5 x4 w

noncomputable def fX12_isWidest_J56_137 (b k : rW → Option (Int32 × rW)) (x1 : Int32) (x2 : Int32) (x3 : Int32) (w : rW) : Option (Int32 × rW) :=
  (raI w 0 10000 ((4000 : Int32) + x3)).bind fun v1 =>
  (raI w 0 10000 ((6000 : Int32) + x3)).bind fun v2 =>
  (fX12_isLetter v1).bind fun v4 =>
  if v4 = 0 then
  (fX12_isLetter v2).bind fun v6 =>
  if v6 = 0 then
  some ((0 : Int32), w)
  else
  fX12_isWidest_J56_179 b k x1 x2 x3 v1 v2 w
  else
  fX12_isWidest_J56_179 b k x1 x2 x3 v1 v2 w

noncomputable def fX12_isWidest_L56 (x1 : Int32) (x2 : Int32) : Nat → (rW → Option (Int32 × rW)) → rW → Option (Int32 × rW)
  | 0, _, _ => none
  | n + 1, k, w =>
  fX12_isWidest_L58 x1 x2 w kFU (fun y3_1 => if ((4000 : Int32) + y3_1) = (rF w 17) then
  if ((6000 : Int32) + y3_1) = (rF w 18) then
  some ((1 : Int32), w)
  else
  fX12_isWidest_J56_137 (fun qw => fX12_isWidest_L56 x1 x2 n k qw) k x1 x2 y3_1 w
  else
  fX12_isWidest_J56_137 (fun qw => fX12_isWidest_L56 x1 x2 n k qw) k x1 x2 y3_1 w) (0 : Int32)

noncomputable def fX12_isWidest (x1 : Int32) (x2 : Int32) (w : rW) : Option (Int32 × rW) :=
  (fX12_textOf x1).bind fun v2 =>
  (fX12_textOf x1).bind fun v4 =>
  (raI w 2 1000 ((3 : Int32) + x1)).bind fun v5 =>
  kb2 (fX12_copies v2 (v4 + v5) (4000 : Int32) w) fun v8 w6 =>
  (rpF w6 17 v8).bind fun w9 =>
  (fX12_textOf x2).bind fun v11 =>
  (fX12_textOf x2).bind fun v13 =>
  (raI w9 2 1000 ((3 : Int32) + x2)).bind fun v14 =>
  kb2 (fX12_copies v11 (v13 + v14) (6000 : Int32) w9) fun v17 w15 =>
  (rpF w15 18 v17).bind fun w18 =>
  fX12_isWidest_L56 x1 x2 kFU (fun w19 => none) w18

set_option maxHeartbeats 4000000 in
set_option maxRecDepth 100000 in
theorem rX12_isWidest (l : Launch) (D : va_G) (aC : Nat → ClassId) {h0 : Nat} {wB : kW} (hB : rOK h0 wB) {x1 : Int32} {x2 : Int32} {w : rW} {wR : rW} {oR : Int32} (h : fX12_isWidest x1 x2 w = some (oR, wR)) : kC l D aC yX12_isWidest cX12_isWidest 10 (some .boolean) 403 8854 [.ref h0, .int x1, .int x2] (rWo h0 wB w) (some (.int oR)) (rWo h0 wB wR) 0 0 := by
  refine kOf (own := RX12) (by decide) rfl (Nat.le_of_ble_eq_true rfl) ?_
  intro p e s m below meth c ls F hml hr hlocks hnm hX hZ hl
  obtain ⟨hx, hb, hts, hown, hK⟩ := id F
  have hl : lv_has ls 10 [(0, .ref h0), (1, .int x1), (2, .int x2)] := hl
  have hf := h
  rw [fX12_isWidest] at hf
  refine lv_aload_n hx hb (kd dtX12_isWidest_0 0 rfl) rfl (lv_at hl 0 rfl) ?_
  refine lv_aload_n hx hb (kd dtX12_isWidest_0 1 rfl) rfl (lv_at hl 0 rfl) ?_
  refine lv_iload_n hx hb (kd dtX12_isWidest_0 2 rfl) rfl (lv_at hl 1 rfl) ?_
  obtain ⟨v2, h1, hf⟩ := kbind hf
  refine kcallS (n := 1) [.int x1] [.ref h0, .ref h0] [.int v2, .ref h0, .ref h0] (rX12_textOf l D aC (rWo h0 wB w) h1) F hml hX hZ hl.1 mwX12_textOf wmX12_86 (by decide +kernel) ⟨(by decide), (by decide)⟩ rfl rfl rfl (Nat.le_of_ble_eq_true rfl) (kd dtX12_isWidest_0 3 rfl) ⟨Nat.zero_le _, Nat.zero_le _⟩ (fun H locs hX => ?_)
  refine lv_iload_n hx hb (kd dtX12_isWidest_0 4 rfl) rfl (lv_at hl 1 rfl) ?_
  obtain ⟨v4, h3, hf⟩ := kbind hf
  refine kcallS (n := 1) [.int x1] [.int v2, .ref h0, .ref h0] [.int v4, .int v2, .ref h0, .ref h0] (rX12_textOf l D aC (rWo h0 wB w) h3) F hml hX hZ hl.1 mwX12_textOf wmX12_86 (by decide +kernel) ⟨(by decide), (by decide)⟩ rfl rfl rfl (Nat.le_of_ble_eq_true rfl) (kd dtX12_isWidest_0 5 rfl) ⟨Nat.zero_le _, Nat.zero_le _⟩ (fun H locs hX => ?_)
  refine lv_aload_n hx hb (kd dtX12_isWidest_0 6 rfl) rfl (lv_at hl 0 rfl) ?_
  refine rgetA (n := 2) (j := 2) hB (by decide) rfl F hX wfX12_16 (by decide) rfl (kd dtX12_isWidest_0 7 rfl) ?_
  refine lv_iconst (v := (3 : Int32)) hx hb (kd dtX12_isWidest_0 8 rfl) (by decide) ?_
  refine lv_iload_n hx hb (kd dtX12_isWidest_0 9 rfl) rfl (lv_at hl 1 rfl) ?_
  refine lv_iadd hx hb (kd dtX12_isWidest_0 10 rfl) ?_
  obtain ⟨v5, hv5, hf⟩ := kbind hf
  refine rald hB (by decide) hv5 F hX (kd dtX12_isWidest_0 11 rfl) ?_
  refine lv_iadd hx hb (kd dtX12_isWidest_0 12 rfl) ?_
  refine lv_sipush (v := (4000 : Int32)) hx hb (kd dtX12_isWidest_0 13 rfl) (by decide) ?_
  obtain ⟨v8, w6, h7, hf⟩ := kbind2 hf
  refine kcallV (n := 3) [.int v2, .int (v4 + v5), .int (4000 : Int32)] [.ref h0] [.int v8, .ref h0] (rX12_copies l D aC hB h7) rfl hB.1 F hml hX hZ hl.1 mwX12_copies wmX12_173 rfl (by decide) (by decide +kernel) ⟨(by decide), (by decide)⟩ rfl rfl rfl (Nat.le_of_ble_eq_true rfl) (kd dtX12_isWidest_0 14 rfl) ⟨Nat.zero_le _, Nat.zero_le _⟩ (fun H locs hX => ?_)
  obtain ⟨w9, hw9, hf⟩ := kbind hf
  refine rputF hw9 hB F hX wfX12_176 (by decide) rfl rfl rfl rfl (kd dtX12_isWidest_0 15 rfl) (fun H locs hX => ?_)
  refine lv_aload_n hx hb (kd dtX12_isWidest_0 16 rfl) rfl (lv_at hl 0 rfl) ?_
  refine lv_aload_n hx hb (kd dtX12_isWidest_0 17 rfl) rfl (lv_at hl 0 rfl) ?_
  refine lv_iload_n hx hb (kd dtX12_isWidest_0 18 rfl) rfl (lv_at hl 2 rfl) ?_
  obtain ⟨v11, h10, hf⟩ := kbind hf
  refine kcallS (n := 1) [.int x2] [.ref h0, .ref h0] [.int v11, .ref h0, .ref h0] (rX12_textOf l D aC (rWo h0 wB w9) h10) F hml hX hZ hl.1 mwX12_textOf wmX12_86 (by decide +kernel) ⟨(by decide), (by decide)⟩ rfl rfl rfl (Nat.le_of_ble_eq_true rfl) (kd dtX12_isWidest_0 19 rfl) ⟨Nat.zero_le _, Nat.zero_le _⟩ (fun H locs hX => ?_)
  refine lv_iload_n hx hb (kd dtX12_isWidest_0 20 rfl) rfl (lv_at hl 2 rfl) ?_
  obtain ⟨v13, h12, hf⟩ := kbind hf
  refine kcallS (n := 1) [.int x2] [.int v11, .ref h0, .ref h0] [.int v13, .int v11, .ref h0, .ref h0] (rX12_textOf l D aC (rWo h0 wB w9) h12) F hml hX hZ hl.1 mwX12_textOf wmX12_86 (by decide +kernel) ⟨(by decide), (by decide)⟩ rfl rfl rfl (Nat.le_of_ble_eq_true rfl) (kd dtX12_isWidest_0 21 rfl) ⟨Nat.zero_le _, Nat.zero_le _⟩ (fun H locs hX => ?_)
  refine lv_aload_n hx hb (kd dtX12_isWidest_0 22 rfl) rfl (lv_at hl 0 rfl) ?_
  refine rgetA (n := 2) (j := 2) hB (by decide) rfl F hX wfX12_16 (by decide) rfl (kd dtX12_isWidest_0 23 rfl) ?_
  refine lv_iconst (v := (3 : Int32)) hx hb (kd dtX12_isWidest_0 24 rfl) (by decide) ?_
  refine lv_iload_n hx hb (kd dtX12_isWidest_0 25 rfl) rfl (lv_at hl 2 rfl) ?_
  refine lv_iadd hx hb (kd dtX12_isWidest_0 26 rfl) ?_
  obtain ⟨v14, hv14, hf⟩ := kbind hf
  refine rald hB (by decide) hv14 F hX (kd dtX12_isWidest_0 27 rfl) ?_
  refine lv_iadd hx hb (kd dtX12_isWidest_0 28 rfl) ?_
  refine lv_sipush (v := (6000 : Int32)) hx hb (kd dtX12_isWidest_0 29 rfl) (by decide) ?_
  obtain ⟨v17, w15, h16, hf⟩ := kbind2 hf
  refine kcallV (n := 3) [.int v11, .int (v13 + v14), .int (6000 : Int32)] [.ref h0] [.int v17, .ref h0] (rX12_copies l D aC hB h16) rfl hB.1 F hml hX hZ hl.1 mwX12_copies wmX12_173 rfl (by decide) (by decide +kernel) ⟨(by decide), (by decide)⟩ rfl rfl rfl (Nat.le_of_ble_eq_true rfl) (kd dtX12_isWidest_0 30 rfl) ⟨Nat.zero_le _, Nat.zero_le _⟩ (fun H locs hX => ?_)
  obtain ⟨w18, hw18, hf⟩ := kbind hf
  refine rputF hw18 hB F hX wfX12_179 (by decide) rfl rfl rfl rfl (kd dtX12_isWidest_0 31 rfl) (fun H locs hX => ?_)
  have hL56 : ∀ (n : Nat) (k : rW → Option (Int32 × rW)), ∀ (w_56 : rW) (H : Heap) (locs : List Loc) (ls : Array Slot), kX D aC (rWo h0 wB w) s.heap (rWo h0 wB w_56) H locs → lv_has ls 10 [(0, .ref h0), (1, .int x1), (2, .int x2)] → fX12_isWidest_L56 x1 x2 n k w_56 = some (oR, wR) → True → W p l e { frames := 403, cells := 0, slots := 0, locals := 8854 } s m ([.ref h0, .int x1, .int x2] : List Value).toArray below meth c H locs 0 0 (MQ below (kQc D aC (rWo h0 wB w) (some (.int oR)) (rWo h0 wB wR)) ([.ref h0, .int x1, .int x2] : List Value).toArray s 0 0 (kA (rWo h0 wB w))) (F0 m 56 ls []) := by
    intro n k
    induction n with
    | zero =>
      intro w_56 H locs ls hX hl hf hk
      rw [fX12_isWidest_L56] at hf
      cases hf
    | succ n ih =>
      intro w_56 H locs ls hX hl hf hk
      have hJ56_217 : ∀ (j3_217 : Int32) (j4_217 : Int32) (j5_217 : Int32) (j6_217 : Int32) (t0_217 : Int32) (w_j217 : rW) (H : Heap) (locs : List Loc) (ls : Array Slot), kX D aC (rWo h0 wB w) s.heap (rWo h0 wB w_j217) H locs → lv_has ls 10 [(0, .ref h0), (1, .int x1), (2, .int x2), (3, .int j3_217), (4, .int j4_217), (5, .int j5_217), (6, .int j6_217)] → fX12_isWidest_J56_217 (fun qw => fX12_isWidest_L56 x1 x2 n k qw) k x1 x2 j3_217 j4_217 j5_217 j6_217 t0_217 w_j217 = some (oR, wR) → W p l e { frames := 403, cells := 0, slots := 0, locals := 8854 } s m ([.ref h0, .int x1, .int x2] : List Value).toArray below meth c H locs 0 0 (MQ below (kQc D aC (rWo h0 wB w) (some (.int oR)) (rWo h0 wB wR)) ([.ref h0, .int x1, .int x2] : List Value).toArray s 0 0 (kA (rWo h0 wB w))) (F0 m 217 ls [.int t0_217]) := by
        intro j3_217 j4_217 j5_217 j6_217 t0_217 w_j217 H locs ls hX hl hf
        rw [fX12_isWidest_J56_217] at hf
        refine lv_istore (lv' := [(7, .int t0_217), (0, .ref h0), (1, .int x1), (2, .int x2), (3, .int j3_217), (4, .int j4_217), (5, .int j5_217), (6, .int j6_217)]) hx hb (kd dtX12_isWidest_1 34 rfl) hl (by decide) rfl (fun ls hl => ?_)
        refine lv_aload_n hx hb (kd dtX12_isWidest_1 35 rfl) rfl (lv_at hl 1 rfl) ?_
        refine lv_iload hx hb (kd dtX12_isWidest_1 36 rfl) (lv_at hl 0 rfl) ?_
        refine lv_aload_n hx hb (kd dtX12_isWidest_1 37 rfl) rfl (lv_at hl 1 rfl) ?_
        refine lv_iload hx hb (kd dtX12_isWidest_1 38 rfl) (lv_at hl 0 rfl) ?_
        obtain ⟨v34, h33, hf⟩ := kbind hf
        refine kcallV (n := 1) [.int t0_217] [.int t0_217, .ref h0] [.int v34, .int t0_217, .ref h0] (rX12_end l D aC hB h33) rfl hB.1 F hml hX hZ hl.1 mwX12_end wmX12_75 rfl (by decide) (by decide +kernel) ⟨(by decide), (by decide)⟩ rfl rfl rfl (Nat.le_of_ble_eq_true rfl) (kd dtX12_isWidest_1 39 rfl) ⟨Nat.zero_le _, Nat.zero_le _⟩ (fun H locs hX => ?_)
        refine lv_sipush (v := (8000 : Int32)) hx hb (kd dtX12_isWidest_1 40 rfl) (by decide) ?_
        obtain ⟨v37, w35, h36, hf⟩ := kbind2 hf
        refine kcallV (n := 3) [.int t0_217, .int v34, .int (8000 : Int32)] [] [.int v37] (rX12_copies l D aC hB h36) rfl hB.1 F hml hX hZ hl.1 mwX12_copies wmX12_173 rfl (by decide) (by decide +kernel) ⟨(by decide), (by decide)⟩ rfl rfl rfl (Nat.le_of_ble_eq_true rfl) (kd dtX12_isWidest_1 41 rfl) ⟨Nat.zero_le _, Nat.zero_le _⟩ (fun H locs hX => ?_)
        refine lv_istore (lv' := [(8, .int v37), (7, .int t0_217), (0, .ref h0), (1, .int x1), (2, .int x2), (3, .int j3_217), (4, .int j4_217), (5, .int j5_217), (6, .int j6_217)]) hx hb (kd dtX12_isWidest_1 42 rfl) hl (by decide) rfl (fun ls hl => ?_)
        refine lv_aload_n hx hb (kd dtX12_isWidest_1 43 rfl) rfl (lv_at hl 2 rfl) ?_
        refine lv_sipush (v := (8000 : Int32)) hx hb (kd dtX12_isWidest_1 44 rfl) (by decide) ?_
        refine lv_iload hx hb (kd dtX12_isWidest_1 45 rfl) (lv_at hl 0 rfl) ?_
        refine lv_iload hx hb (kd dtX12_isWidest_1 46 rfl) (lv_at hl 8 rfl) ?_
        obtain ⟨v39, h38, hf⟩ := kbind hf
        refine kcallV (n := 3) [.int (8000 : Int32), .int v37, .int j6_217] [] [.int v39] (rX12_many l D aC hB h38) rfl hB.1 F hml hX hZ hl.1 mwX12_many wmX12_169 rfl (by decide) (by decide +kernel) ⟨(by decide), (by decide)⟩ rfl rfl rfl (Nat.le_of_ble_eq_true rfl) (kd dtX12_isWidest_1 47 rfl) ⟨Nat.zero_le _, Nat.zero_le _⟩ (fun H locs hX => ?_)
        refine lv_if_le (tgt := 252) hx hb (kd dtX12_isWidest_1 48 rfl) (by decide) (fun hc => ?_) (fun hc => ?_)
        · have hf := kif_pos hc hf
          refine lv_aload_n hx hb (kd dtX12_isWidest_1 51 rfl) rfl (lv_at hl 2 rfl) ?_
          refine lv_sipush (v := (8000 : Int32)) hx hb (kd dtX12_isWidest_1 52 rfl) (by decide) ?_
          refine lv_iload hx hb (kd dtX12_isWidest_1 53 rfl) (lv_at hl 0 rfl) ?_
          obtain ⟨v41, h40, hf⟩ := kbind hf
          refine kcallV (n := 2) [.int (8000 : Int32), .int v37] [] [.int v41] (rX12_sizeOf l D aC hB h40) rfl hB.1 F hml hX hZ hl.1 mwX12_sizeOf wmX12_132 rfl (by decide) (by decide +kernel) ⟨(by decide), (by decide)⟩ rfl rfl rfl (Nat.le_of_ble_eq_true rfl) (kd dtX12_isWidest_1 54 rfl) ⟨Nat.zero_le _, Nat.zero_le _⟩ (fun H locs hX => ?_)
          refine lv_iconst (v := (1 : Int32)) hx hb (kd dtX12_isWidest_1 55 rfl) (by decide) ?_
          refine lv_isub hx hb (kd dtX12_isWidest_1 56 rfl) ?_
          refine lv_istore (lv' := [(9, .int (v41 - (1 : Int32))), (8, .int v37), (7, .int t0_217), (0, .ref h0), (1, .int x1), (2, .int x2), (3, .int j3_217), (4, .int j4_217), (5, .int j5_217), (6, .int j6_217)]) hx hb (kd dtX12_isWidest_1 57 rfl) hl (by decide) rfl (fun ls hl => ?_)
          refine lv_aload_n hx hb (kd dtX12_isWidest_1 58 rfl) rfl (lv_at hl 3 rfl) ?_
          refine lv_sipush (v := (4000 : Int32)) hx hb (kd dtX12_isWidest_1 59 rfl) (by decide) ?_
          refine lv_aload_n hx hb (kd dtX12_isWidest_1 60 rfl) rfl (lv_at hl 3 rfl) ?_
          refine rgetF (j := 17) hB F hX wfX12_176 (by decide) rfl (kd dtX12_isWidest_1 61 rfl) ?_
          obtain ⟨v43, h42, hf⟩ := kbind hf
          refine kcallV (n := 2) [.int (4000 : Int32), .int (rF w35 17)] [] [.int v43] (rX12_sizeOf l D aC hB h42) rfl hB.1 F hml hX hZ hl.1 mwX12_sizeOf wmX12_132 rfl (by decide) (by decide +kernel) ⟨(by decide), (by decide)⟩ rfl rfl rfl (Nat.le_of_ble_eq_true rfl) (kd dtX12_isWidest_1 62 rfl) ⟨Nat.zero_le _, Nat.zero_le _⟩ (fun H locs hX => ?_)
          refine lv_iload hx hb (kd dtX12_isWidest_1 63 rfl) (lv_at hl 0 rfl) ?_
          refine lv_aload_n hx hb (kd dtX12_isWidest_1 64 rfl) rfl (lv_at hl 3 rfl) ?_
          refine lv_sipush (v := (4000 : Int32)) hx hb (kd dtX12_isWidest_1 65 rfl) (by decide) ?_
          refine lv_aload_n hx hb (kd dtX12_isWidest_1 66 rfl) rfl (lv_at hl 3 rfl) ?_
          refine rgetF (j := 17) hB F hX wfX12_176 (by decide) rfl (kd dtX12_isWidest_1 67 rfl) ?_
          refine lv_iload hx hb (kd dtX12_isWidest_1 68 rfl) (lv_at hl 9 rfl) ?_
          obtain ⟨v45, h44, hf⟩ := kbind hf
          refine kcallV (n := 3) [.int (4000 : Int32), .int (rF w35 17), .int j6_217] [.int (v41 - (1 : Int32)), .int v43] [.int v45, .int (v41 - (1 : Int32)), .int v43] (rX12_many l D aC hB h44) rfl hB.1 F hml hX hZ hl.1 mwX12_many wmX12_169 rfl (by decide) (by decide +kernel) ⟨(by decide), (by decide)⟩ rfl rfl rfl (Nat.le_of_ble_eq_true rfl) (kd dtX12_isWidest_1 69 rfl) ⟨Nat.zero_le _, Nat.zero_le _⟩ (fun H locs hX => ?_)
          refine lv_imul hx hb (kd dtX12_isWidest_1 70 rfl) ?_
          refine lv_iadd hx hb (kd dtX12_isWidest_1 71 rfl) ?_
          refine lv_sipush (v := (200 : Int32)) hx hb (kd dtX12_isWidest_1 72 rfl) (by decide) ?_
          refine lv_icmp_gt (tgt := 333) hx hb (kd dtX12_isWidest_1 73 rfl) (by decide) (fun hc => ?_) (fun hc => ?_)
          · have hf := kif_pos hc hf
            refine lv_iconst (v := (0 : Int32)) hx hb (kd dtX12_isWidest_2 10 rfl) (by decide) ?_
            obtain ⟨rfl, rfl⟩ := Prod.mk.inj (Option.some.inj hf)
            exact kzret F hX hr hlocks rfl rfl (kd dtX12_isWidest_2 11 rfl)
          · have hf := kif_neg hc hf
            refine lv_aload_n hx hb (kd dtX12_isWidest_1 74 rfl) rfl (lv_at hl 3 rfl) ?_
            refine lv_sipush (v := (6000 : Int32)) hx hb (kd dtX12_isWidest_1 75 rfl) (by decide) ?_
            refine lv_aload_n hx hb (kd dtX12_isWidest_1 76 rfl) rfl (lv_at hl 3 rfl) ?_
            refine rgetF (j := 18) hB F hX wfX12_179 (by decide) rfl (kd dtX12_isWidest_1 77 rfl) ?_
            obtain ⟨v47, h46, hf⟩ := kbind hf
            refine kcallV (n := 2) [.int (6000 : Int32), .int (rF w35 18)] [] [.int v47] (rX12_sizeOf l D aC hB h46) rfl hB.1 F hml hX hZ hl.1 mwX12_sizeOf wmX12_132 rfl (by decide) (by decide +kernel) ⟨(by decide), (by decide)⟩ rfl rfl rfl (Nat.le_of_ble_eq_true rfl) (kd dtX12_isWidest_1 78 rfl) ⟨Nat.zero_le _, Nat.zero_le _⟩ (fun H locs hX => ?_)
            refine lv_iload hx hb (kd dtX12_isWidest_1 79 rfl) (lv_at hl 0 rfl) ?_
            refine lv_aload_n hx hb (kd dtX12_isWidest_2 0 rfl) rfl (lv_at hl 3 rfl) ?_
            refine lv_sipush (v := (6000 : Int32)) hx hb (kd dtX12_isWidest_2 1 rfl) (by decide) ?_
            refine lv_aload_n hx hb (kd dtX12_isWidest_2 2 rfl) rfl (lv_at hl 3 rfl) ?_
            refine rgetF (j := 18) hB F hX wfX12_179 (by decide) rfl (kd dtX12_isWidest_2 3 rfl) ?_
            refine lv_iload hx hb (kd dtX12_isWidest_2 4 rfl) (lv_at hl 9 rfl) ?_
            obtain ⟨v49, h48, hf⟩ := kbind hf
            refine kcallV (n := 3) [.int (6000 : Int32), .int (rF w35 18), .int j6_217] [.int (v41 - (1 : Int32)), .int v47] [.int v49, .int (v41 - (1 : Int32)), .int v47] (rX12_many l D aC hB h48) rfl hB.1 F hml hX hZ hl.1 mwX12_many wmX12_169 rfl (by decide) (by decide +kernel) ⟨(by decide), (by decide)⟩ rfl rfl rfl (Nat.le_of_ble_eq_true rfl) (kd dtX12_isWidest_2 5 rfl) ⟨Nat.zero_le _, Nat.zero_le _⟩ (fun H locs hX => ?_)
            refine lv_imul hx hb (kd dtX12_isWidest_2 6 rfl) ?_
            refine lv_iadd hx hb (kd dtX12_isWidest_2 7 rfl) ?_
            refine lv_sipush (v := (200 : Int32)) hx hb (kd dtX12_isWidest_2 8 rfl) (by decide) ?_
            refine lv_icmp_le (tgt := 335) hx hb (kd dtX12_isWidest_2 9 rfl) (by decide) (fun hc => ?_) (fun hc => ?_)
            · have hf := kif_pos hc hf
              refine lv_aload_n hx hb (kd dtX12_isWidest_2 12 rfl) rfl (lv_at hl 3 rfl) ?_
              refine lv_aload_n hx hb (kd dtX12_isWidest_2 13 rfl) rfl (lv_at hl 3 rfl) ?_
              refine lv_sipush (v := (4000 : Int32)) hx hb (kd dtX12_isWidest_2 14 rfl) (by decide) ?_
              refine lv_aload_n hx hb (kd dtX12_isWidest_2 15 rfl) rfl (lv_at hl 3 rfl) ?_
              refine rgetF (j := 17) hB F hX wfX12_176 (by decide) rfl (kd dtX12_isWidest_2 16 rfl) ?_
              refine lv_iload hx hb (kd dtX12_isWidest_2 17 rfl) (lv_at hl 9 rfl) ?_
              refine lv_iload hx hb (kd dtX12_isWidest_2 18 rfl) (lv_at hl 1 rfl) ?_
              obtain ⟨v52, w50, h51, hf⟩ := kbind2 hf
              refine kcallV (n := 4) [.int (4000 : Int32), .int (rF w35 17), .int j6_217, .int v37] [.ref h0] [.int v52, .ref h0] (rX12_puts l D aC hB h51) rfl hB.1 F hml hX hZ hl.1 mwX12_puts wmX12_182 rfl (by decide) (by decide +kernel) ⟨(by decide), (by decide)⟩ rfl rfl rfl (Nat.le_of_ble_eq_true rfl) (kd dtX12_isWidest_2 19 rfl) ⟨Nat.zero_le _, Nat.zero_le _⟩ (fun H locs hX => ?_)
              obtain ⟨w53, hw53, hf⟩ := kbind hf
              refine rputF hw53 hB F hX wfX12_176 (by decide) rfl rfl rfl rfl (kd dtX12_isWidest_2 20 rfl) (fun H locs hX => ?_)
              refine lv_aload_n hx hb (kd dtX12_isWidest_2 21 rfl) rfl (lv_at hl 3 rfl) ?_
              refine lv_aload_n hx hb (kd dtX12_isWidest_2 22 rfl) rfl (lv_at hl 3 rfl) ?_
              refine lv_sipush (v := (6000 : Int32)) hx hb (kd dtX12_isWidest_2 23 rfl) (by decide) ?_
              refine lv_aload_n hx hb (kd dtX12_isWidest_2 24 rfl) rfl (lv_at hl 3 rfl) ?_
              refine rgetF (j := 18) hB F hX wfX12_179 (by decide) rfl (kd dtX12_isWidest_2 25 rfl) ?_
              refine lv_iload hx hb (kd dtX12_isWidest_2 26 rfl) (lv_at hl 9 rfl) ?_
              refine lv_iload hx hb (kd dtX12_isWidest_2 27 rfl) (lv_at hl 1 rfl) ?_
              obtain ⟨v56, w54, h55, hf⟩ := kbind2 hf
              refine kcallV (n := 4) [.int (6000 : Int32), .int (rF w53 18), .int j6_217, .int v37] [.ref h0] [.int v56, .ref h0] (rX12_puts l D aC hB h55) rfl hB.1 F hml hX hZ hl.1 mwX12_puts wmX12_182 rfl (by decide) (by decide +kernel) ⟨(by decide), (by decide)⟩ rfl rfl rfl (Nat.le_of_ble_eq_true rfl) (kd dtX12_isWidest_2 28 rfl) ⟨Nat.zero_le _, Nat.zero_le _⟩ (fun H locs hX => ?_)
              obtain ⟨w57, hw57, hf⟩ := kbind hf
              refine rputF hw57 hB F hX wfX12_179 (by decide) rfl rfl rfl rfl (kd dtX12_isWidest_2 29 rfl) (fun H locs hX => ?_)
              refine lv_goto (tgt := 56) hx hb (kd dtX12_isWidest_2 30 rfl) (by decide) ?_
              exact ih w57 _ _ _ hX (lv_sub hl [3, 4, 5] rfl) hf hk
            · have hf := kif_neg hc hf
              refine lv_iconst (v := (0 : Int32)) hx hb (kd dtX12_isWidest_2 10 rfl) (by decide) ?_
              obtain ⟨rfl, rfl⟩ := Prod.mk.inj (Option.some.inj hf)
              exact kzret F hX hr hlocks rfl rfl (kd dtX12_isWidest_2 11 rfl)
        · have hf := kif_neg hc hf
          refine lv_iconst (v := (0 : Int32)) hx hb (kd dtX12_isWidest_1 49 rfl) (by decide) ?_
          obtain ⟨rfl, rfl⟩ := Prod.mk.inj (Option.some.inj hf)
          exact kzret F hX hr hlocks rfl rfl (kd dtX12_isWidest_1 50 rfl)
      have hJ56_194 : ∀ (j3_194 : Int32) (j4_194 : Int32) (j5_194 : Int32) (t0_194 : Int32) (w_j194 : rW) (H : Heap) (locs : List Loc) (ls : Array Slot), kX D aC (rWo h0 wB w) s.heap (rWo h0 wB w_j194) H locs → lv_has ls 10 [(0, .ref h0), (1, .int x1), (2, .int x2), (3, .int j3_194), (4, .int j4_194), (5, .int j5_194)] → fX12_isWidest_J56_194 (fun qw => fX12_isWidest_L56 x1 x2 n k qw) k x1 x2 j3_194 j4_194 j5_194 t0_194 w_j194 = some (oR, wR) → W p l e { frames := 403, cells := 0, slots := 0, locals := 8854 } s m ([.ref h0, .int x1, .int x2] : List Value).toArray below meth c H locs 0 0 (MQ below (kQc D aC (rWo h0 wB w) (some (.int oR)) (rWo h0 wB wR)) ([.ref h0, .int x1, .int x2] : List Value).toArray s 0 0 (kA (rWo h0 wB w))) (F0 m 194 ls [.int t0_194]) := by
        intro j3_194 j4_194 j5_194 t0_194 w_j194 H locs ls hX hl hf
        rw [fX12_isWidest_J56_194] at hf
        refine lv_istore (lv' := [(6, .int t0_194), (0, .ref h0), (1, .int x1), (2, .int x2), (3, .int j3_194), (4, .int j4_194), (5, .int j5_194)]) hx hb (kd dtX12_isWidest_1 23 rfl) hl (by decide) rfl (fun ls hl => ?_)
        refine lv_iload hx hb (kd dtX12_isWidest_1 24 rfl) (lv_at hl 5 rfl) ?_
        obtain ⟨v32, h31, hf⟩ := kbind hf
        refine kcallS (n := 1) [.int j4_194] [] [.int v32] (rX12_isLetter l D aC (rWo h0 wB w_j194) h31) F hml hX hZ hl.1 mwX12_isLetter wmX12_71 (by decide +kernel) ⟨(by decide), (by decide)⟩ rfl rfl rfl (Nat.le_of_ble_eq_true rfl) (kd dtX12_isWidest_1 25 rfl) ⟨Nat.zero_le _, Nat.zero_le _⟩ (fun H locs hX => ?_)
        refine lv_if_eq (tgt := 212) hx hb (kd dtX12_isWidest_1 26 rfl) (by decide) (fun hc => ?_) (fun hc => ?_)
        · have hf := kif_pos hc hf
          refine lv_sipush (v := (4000 : Int32)) hx hb (kd dtX12_isWidest_1 31 rfl) (by decide) ?_
          refine lv_iload_n hx hb (kd dtX12_isWidest_1 32 rfl) rfl (lv_at hl 4 rfl) ?_
          refine lv_iadd hx hb (kd dtX12_isWidest_1 33 rfl) ?_
          exact hJ56_217 j3_194 j4_194 j5_194 t0_194 ((4000 : Int32) + j3_194) w_j194 _ _ _ hX (lv_sub hl [1, 2, 3, 4, 5, 6, 0] rfl) hf
        · have hf := kif_neg hc hf
          refine lv_sipush (v := (6000 : Int32)) hx hb (kd dtX12_isWidest_1 27 rfl) (by decide) ?_
          refine lv_iload_n hx hb (kd dtX12_isWidest_1 28 rfl) rfl (lv_at hl 4 rfl) ?_
          refine lv_iadd hx hb (kd dtX12_isWidest_1 29 rfl) ?_
          refine lv_goto (tgt := 217) hx hb (kd dtX12_isWidest_1 30 rfl) (by decide) ?_
          exact hJ56_217 j3_194 j4_194 j5_194 t0_194 ((6000 : Int32) + j3_194) w_j194 _ _ _ hX (lv_sub hl [1, 2, 3, 4, 5, 6, 0] rfl) hf
      have hJ56_179 : ∀ (j3_179 : Int32) (j4_179 : Int32) (j5_179 : Int32) (w_j179 : rW) (H : Heap) (locs : List Loc) (ls : Array Slot), kX D aC (rWo h0 wB w) s.heap (rWo h0 wB w_j179) H locs → lv_has ls 10 [(0, .ref h0), (1, .int x1), (2, .int x2), (3, .int j3_179), (4, .int j4_179), (5, .int j5_179)] → fX12_isWidest_J56_179 (fun qw => fX12_isWidest_L56 x1 x2 n k qw) k x1 x2 j3_179 j4_179 j5_179 w_j179 = some (oR, wR) → W p l e { frames := 403, cells := 0, slots := 0, locals := 8854 } s m ([.ref h0, .int x1, .int x2] : List Value).toArray below meth c H locs 0 0 (MQ below (kQc D aC (rWo h0 wB w) (some (.int oR)) (rWo h0 wB wR)) ([.ref h0, .int x1, .int x2] : List Value).toArray s 0 0 (kA (rWo h0 wB w))) (F0 m 179 ls []) := by
        intro j3_179 j4_179 j5_179 w_j179 H locs ls hX hl hf
        rw [fX12_isWidest_J56_179] at hf
        refine lv_iload hx hb (kd dtX12_isWidest_1 17 rfl) (lv_at hl 4 rfl) ?_
        obtain ⟨v30, h29, hf⟩ := kbind hf
        refine kcallS (n := 1) [.int j4_179] [] [.int v30] (rX12_isLetter l D aC (rWo h0 wB w_j179) h29) F hml hX hZ hl.1 mwX12_isLetter wmX12_71 (by decide +kernel) ⟨(by decide), (by decide)⟩ rfl rfl rfl (Nat.le_of_ble_eq_true rfl) (kd dtX12_isWidest_1 18 rfl) ⟨Nat.zero_le _, Nat.zero_le _⟩ (fun H locs hX => ?_)
        refine lv_if_eq (tgt := 192) hx hb (kd dtX12_isWidest_1 19 rfl) (by decide) (fun hc => ?_) (fun hc => ?_)
        · have hf := kif_pos hc hf
          refine lv_iload hx hb (kd dtX12_isWidest_1 22 rfl) (lv_at hl 5 rfl) ?_
          exact hJ56_194 j3_179 j4_179 j5_179 j5_179 w_j179 _ _ _ hX hl hf
        · have hf := kif_neg hc hf
          refine lv_iload hx hb (kd dtX12_isWidest_1 20 rfl) (lv_at hl 4 rfl) ?_
          refine lv_goto (tgt := 194) hx hb (kd dtX12_isWidest_1 21 rfl) (by decide) ?_
          exact hJ56_194 j3_179 j4_179 j5_179 j4_179 w_j179 _ _ _ hX hl hf
      have hJ56_137 : ∀ (j3_137 : Int32) (w_j137 : rW) (H : Heap) (locs : List Loc) (ls : Array Slot), kX D aC (rWo h0 wB w) s.heap (rWo h0 wB w_j137) H locs → lv_has ls 10 [(0, .ref h0), (1, .int x1), (2, .int x2), (3, .int j3_137)] → fX12_isWidest_J56_137 (fun qw => fX12_isWidest_L56 x1 x2 n k qw) k x1 x2 j3_137 w_j137 = some (oR, wR) → W p l e { frames := 403, cells := 0, slots := 0, locals := 8854 } s m ([.ref h0, .int x1, .int x2] : List Value).toArray below meth c H locs 0 0 (MQ below (kQc D aC (rWo h0 wB w) (some (.int oR)) (rWo h0 wB wR)) ([.ref h0, .int x1, .int x2] : List Value).toArray s 0 0 (kA (rWo h0 wB w))) (F0 m 137 ls []) := by
        intro j3_137 w_j137 H locs ls hX hl hf
        rw [fX12_isWidest_J56_137] at hf
        refine lv_aload_n hx hb (kd dtX12_isWidest_0 75 rfl) rfl (lv_at hl 0 rfl) ?_
        refine rgetA (n := 0) (j := 0) hB (by decide) rfl F hX wfX12_9 (by decide) rfl (kd dtX12_isWidest_0 76 rfl) ?_
        refine lv_sipush (v := (4000 : Int32)) hx hb (kd dtX12_isWidest_0 77 rfl) (by decide) ?_
        refine lv_iload_n hx hb (kd dtX12_isWidest_0 78 rfl) rfl (lv_at hl 3 rfl) ?_
        refine lv_iadd hx hb (kd dtX12_isWidest_0 79 rfl) ?_
        obtain ⟨v23, hv23, hf⟩ := kbind hf
        refine rald hB (by decide) hv23 F hX (kd dtX12_isWidest_1 0 rfl) ?_
        refine lv_istore (lv' := [(4, .int v23), (0, .ref h0), (1, .int x1), (2, .int x2), (3, .int j3_137)]) hx hb (kd dtX12_isWidest_1 1 rfl) hl (by decide) rfl (fun ls hl => ?_)
        refine lv_aload_n hx hb (kd dtX12_isWidest_1 2 rfl) rfl (lv_at hl 1 rfl) ?_
        refine rgetA (n := 0) (j := 0) hB (by decide) rfl F hX wfX12_9 (by decide) rfl (kd dtX12_isWidest_1 3 rfl) ?_
        refine lv_sipush (v := (6000 : Int32)) hx hb (kd dtX12_isWidest_1 4 rfl) (by decide) ?_
        refine lv_iload_n hx hb (kd dtX12_isWidest_1 5 rfl) rfl (lv_at hl 4 rfl) ?_
        refine lv_iadd hx hb (kd dtX12_isWidest_1 6 rfl) ?_
        obtain ⟨v24, hv24, hf⟩ := kbind hf
        refine rald hB (by decide) hv24 F hX (kd dtX12_isWidest_1 7 rfl) ?_
        refine lv_istore (lv' := [(5, .int v24), (4, .int v23), (0, .ref h0), (1, .int x1), (2, .int x2), (3, .int j3_137)]) hx hb (kd dtX12_isWidest_1 8 rfl) hl (by decide) rfl (fun ls hl => ?_)
        refine lv_iload hx hb (kd dtX12_isWidest_1 9 rfl) (lv_at hl 1 rfl) ?_
        obtain ⟨v26, h25, hf⟩ := kbind hf
        refine kcallS (n := 1) [.int v23] [] [.int v26] (rX12_isLetter l D aC (rWo h0 wB w_j137) h25) F hml hX hZ hl.1 mwX12_isLetter wmX12_71 (by decide +kernel) ⟨(by decide), (by decide)⟩ rfl rfl rfl (Nat.le_of_ble_eq_true rfl) (kd dtX12_isWidest_1 10 rfl) ⟨Nat.zero_le _, Nat.zero_le _⟩ (fun H locs hX => ?_)
        refine lv_if_ne (tgt := 179) hx hb (kd dtX12_isWidest_1 11 rfl) (by decide) (fun hc => ?_) (fun hc => ?_)
        · have hf := kif_neg hc hf
          exact hJ56_179 j3_137 v23 v24 w_j137 _ _ _ hX (lv_sub hl [2, 3, 4, 5, 1, 0] rfl) hf
        · have hf := kif_pos hc hf
          refine lv_iload hx hb (kd dtX12_isWidest_1 12 rfl) (lv_at hl 0 rfl) ?_
          obtain ⟨v28, h27, hf⟩ := kbind hf
          refine kcallS (n := 1) [.int v24] [] [.int v28] (rX12_isLetter l D aC (rWo h0 wB w_j137) h27) F hml hX hZ hl.1 mwX12_isLetter wmX12_71 (by decide +kernel) ⟨(by decide), (by decide)⟩ rfl rfl rfl (Nat.le_of_ble_eq_true rfl) (kd dtX12_isWidest_1 13 rfl) ⟨Nat.zero_le _, Nat.zero_le _⟩ (fun H locs hX => ?_)
          refine lv_if_ne (tgt := 179) hx hb (kd dtX12_isWidest_1 14 rfl) (by decide) (fun hc => ?_) (fun hc => ?_)
          · have hf := kif_neg hc hf
            exact hJ56_179 j3_137 v23 v24 w_j137 _ _ _ hX (lv_sub hl [2, 3, 4, 5, 1, 0] rfl) hf
          · have hf := kif_pos hc hf
            refine lv_iconst (v := (0 : Int32)) hx hb (kd dtX12_isWidest_1 15 rfl) (by decide) ?_
            obtain ⟨rfl, rfl⟩ := Prod.mk.inj (Option.some.inj hf)
            exact kzret F hX hr hlocks rfl rfl (kd dtX12_isWidest_1 16 rfl)
      rw [fX12_isWidest_L56] at hf
      refine lv_iconst (v := (0 : Int32)) hx hb (kd dtX12_isWidest_0 32 rfl) (by decide) ?_
      refine lv_istore_n (lv' := [(3, .int (0 : Int32)), (0, .ref h0), (1, .int x1), (2, .int x2)]) hx hb (kd dtX12_isWidest_0 33 rfl) rfl hl (by decide) rfl (fun ls hl => ?_)
      have hL58 : ∀ (n : Nat) (k : Int32 → Option (Int32 × rW)), ∀ (z3_58 : Int32) (H : Heap) (locs : List Loc) (ls : Array Slot), kX D aC (rWo h0 wB w) s.heap (rWo h0 wB w_56) H locs → lv_has ls 10 [(0, .ref h0), (1, .int x1), (2, .int x2), (3, .int z3_58)] → fX12_isWidest_L58 x1 x2 w_56 n k z3_58 = some (oR, wR) → (∀ (z3_58 : Int32) (H : Heap) (locs : List Loc) (ls : Array Slot), kX D aC (rWo h0 wB w) s.heap (rWo h0 wB w_56) H locs → lv_has ls 10 [(0, .ref h0), (1, .int x1), (2, .int x2), (3, .int z3_58)] → k z3_58 = some (oR, wR) → W p l e { frames := 403, cells := 0, slots := 0, locals := 8854 } s m ([.ref h0, .int x1, .int x2] : List Value).toArray below meth c H locs 0 0 (MQ below (kQc D aC (rWo h0 wB w) (some (.int oR)) (rWo h0 wB wR)) ([.ref h0, .int x1, .int x2] : List Value).toArray s 0 0 (kA (rWo h0 wB w))) (F0 m 111 ls [])) → W p l e { frames := 403, cells := 0, slots := 0, locals := 8854 } s m ([.ref h0, .int x1, .int x2] : List Value).toArray below meth c H locs 0 0 (MQ below (kQc D aC (rWo h0 wB w) (some (.int oR)) (rWo h0 wB wR)) ([.ref h0, .int x1, .int x2] : List Value).toArray s 0 0 (kA (rWo h0 wB w))) (F0 m 58 ls []) := by
        intro n k
        induction n with
        | zero =>
          intro z3_58 H locs ls hX hl hf hk
          rw [fX12_isWidest_L58] at hf
          cases hf
        | succ n ih =>
          intro z3_58 H locs ls hX hl hf hk
          rw [fX12_isWidest_L58] at hf
          refine lv_sipush (v := (4000 : Int32)) hx hb (kd dtX12_isWidest_0 34 rfl) (by decide) ?_
          refine lv_iload_n hx hb (kd dtX12_isWidest_0 35 rfl) rfl (lv_at hl 3 rfl) ?_
          refine lv_iadd hx hb (kd dtX12_isWidest_0 36 rfl) ?_
          refine lv_aload_n hx hb (kd dtX12_isWidest_0 37 rfl) rfl (lv_at hl 0 rfl) ?_
          refine rgetF (j := 17) hB F hX wfX12_176 (by decide) rfl (kd dtX12_isWidest_0 38 rfl) ?_
          refine lv_icmp_ge (tgt := 111) hx hb (kd dtX12_isWidest_0 39 rfl) (by decide) (fun hc => ?_) (fun hc => ?_)
          · have hf := kif_pos hc hf
            exact hk z3_58 _ _ _ hX hl hf
          · have hf := kif_neg hc hf
            refine lv_sipush (v := (6000 : Int32)) hx hb (kd dtX12_isWidest_0 40 rfl) (by decide) ?_
            refine lv_iload_n hx hb (kd dtX12_isWidest_0 41 rfl) rfl (lv_at hl 3 rfl) ?_
            refine lv_iadd hx hb (kd dtX12_isWidest_0 42 rfl) ?_
            refine lv_aload_n hx hb (kd dtX12_isWidest_0 43 rfl) rfl (lv_at hl 0 rfl) ?_
            refine rgetF (j := 18) hB F hX wfX12_179 (by decide) rfl (kd dtX12_isWidest_0 44 rfl) ?_
            refine lv_icmp_ge (tgt := 111) hx hb (kd dtX12_isWidest_0 45 rfl) (by decide) (fun hc => ?_) (fun hc => ?_)
            · have hf := kif_pos hc hf
              exact hk z3_58 _ _ _ hX hl hf
            · have hf := kif_neg hc hf
              refine lv_aload_n hx hb (kd dtX12_isWidest_0 46 rfl) rfl (lv_at hl 0 rfl) ?_
              refine rgetA (n := 0) (j := 0) hB (by decide) rfl F hX wfX12_9 (by decide) rfl (kd dtX12_isWidest_0 47 rfl) ?_
              refine lv_sipush (v := (4000 : Int32)) hx hb (kd dtX12_isWidest_0 48 rfl) (by decide) ?_
              refine lv_iload_n hx hb (kd dtX12_isWidest_0 49 rfl) rfl (lv_at hl 3 rfl) ?_
              refine lv_iadd hx hb (kd dtX12_isWidest_0 50 rfl) ?_
              obtain ⟨v21, hv21, hf⟩ := kbind hf
              refine rald hB (by decide) hv21 F hX (kd dtX12_isWidest_0 51 rfl) ?_
              refine lv_aload_n hx hb (kd dtX12_isWidest_0 52 rfl) rfl (lv_at hl 0 rfl) ?_
              refine rgetA (n := 0) (j := 0) hB (by decide) rfl F hX wfX12_9 (by decide) rfl (kd dtX12_isWidest_0 53 rfl) ?_
              refine lv_sipush (v := (6000 : Int32)) hx hb (kd dtX12_isWidest_0 54 rfl) (by decide) ?_
              refine lv_iload_n hx hb (kd dtX12_isWidest_0 55 rfl) rfl (lv_at hl 3 rfl) ?_
              refine lv_iadd hx hb (kd dtX12_isWidest_0 56 rfl) ?_
              obtain ⟨v22, hv22, hf⟩ := kbind hf
              refine rald hB (by decide) hv22 F hX (kd dtX12_isWidest_0 57 rfl) ?_
              refine lv_icmp_ne (tgt := 111) hx hb (kd dtX12_isWidest_0 58 rfl) (by decide) (fun hc => ?_) (fun hc => ?_)
              · have hf := kif_neg hc hf
                exact hk z3_58 _ _ _ hX hl hf
              · have hf := kif_pos hc hf
                refine lv_iinc (v := z3_58 + (1 : Int32)) (lv' := [(3, .int (z3_58 + (1 : Int32))), (0, .ref h0), (1, .int x1), (2, .int x2)]) hx hb (kd dtX12_isWidest_0 59 rfl) hl (k := 3) rfl (by rfl) (by decide) rfl (fun ls hl => ?_)
                refine lv_goto (tgt := 58) hx hb (kd dtX12_isWidest_0 60 rfl) (by decide) ?_
                exact ih (z3_58 + (1 : Int32)) _ _ _ hX (lv_sub hl [1, 2, 3, 0] rfl) hf hk
      refine hL58 kFU _ (0 : Int32) _ _ _ hX (lv_sub hl [1, 2, 3, 0] rfl) hf ?_
      intro y3_20 H locs ls hX hl hf
      refine lv_sipush (v := (4000 : Int32)) hx hb (kd dtX12_isWidest_0 61 rfl) (by decide) ?_
      refine lv_iload_n hx hb (kd dtX12_isWidest_0 62 rfl) rfl (lv_at hl 3 rfl) ?_
      refine lv_iadd hx hb (kd dtX12_isWidest_0 63 rfl) ?_
      refine lv_aload_n hx hb (kd dtX12_isWidest_0 64 rfl) rfl (lv_at hl 0 rfl) ?_
      refine rgetF (j := 17) hB F hX wfX12_176 (by decide) rfl (kd dtX12_isWidest_0 65 rfl) ?_
      refine lv_icmp_ne (tgt := 137) hx hb (kd dtX12_isWidest_0 66 rfl) (by decide) (fun hc => ?_) (fun hc => ?_)
      · have hf := kif_neg hc hf
        exact hJ56_137 y3_20 w_56 _ _ _ hX hl hf
      · have hf := kif_pos hc hf
        refine lv_sipush (v := (6000 : Int32)) hx hb (kd dtX12_isWidest_0 67 rfl) (by decide) ?_
        refine lv_iload_n hx hb (kd dtX12_isWidest_0 68 rfl) rfl (lv_at hl 3 rfl) ?_
        refine lv_iadd hx hb (kd dtX12_isWidest_0 69 rfl) ?_
        refine lv_aload_n hx hb (kd dtX12_isWidest_0 70 rfl) rfl (lv_at hl 0 rfl) ?_
        refine rgetF (j := 18) hB F hX wfX12_179 (by decide) rfl (kd dtX12_isWidest_0 71 rfl) ?_
        refine lv_icmp_ne (tgt := 137) hx hb (kd dtX12_isWidest_0 72 rfl) (by decide) (fun hc => ?_) (fun hc => ?_)
        · have hf := kif_neg hc hf
          exact hJ56_137 y3_20 w_56 _ _ _ hX hl hf
        · have hf := kif_pos hc hf
          refine lv_iconst (v := (1 : Int32)) hx hb (kd dtX12_isWidest_0 73 rfl) (by decide) ?_
          obtain ⟨rfl, rfl⟩ := Prod.mk.inj (Option.some.inj hf)
          exact kzret F hX hr hlocks rfl rfl (kd dtX12_isWidest_0 74 rfl)
  refine hL56 kFU _ w18 _ _ _ hX hl hf ?_
  trivial
theorem wmX12_186 : Cond.methodLink RX12 186 yX12_isWidest ∈ kT := kTm 1500 (by decide +kernel) rfl
theorem mwX12_isWidest : kMV RX12 yX12_isWidest cX12_isWidest 10 (some .boolean) := ⟨kTm 1503 (by decide +kernel) rfl, kTm 106 (by decide +kernel) rfl, kTm 1502 (by decide +kernel) rfl, kTm 64 (by decide +kernel) rfl⟩
def lX12_widest_0 : List (Nat × Instr × Nat) := [(0, .aload_n 0, 1), (1, .iload_n 1, 1), (2, .invokevirtual 127, 3), (5, .ifCond .eq 16, 3), (8, .aload_n 0, 1), (9, .iload_n 2, 1), (10, .invokevirtual 127, 3), (13, .ifCond .eq 8, 3), (16, .iload_n 3, 1), (17, .iconst (-1), 1), (18, .if_icmp .ge 5, 3), (21, .iconst (-1), 1), (22, .ireturn, 1), (23, .aload_n 0, 1), (24, .iload_n 1, 1), (25, .iload_n 2, 1), (26, .invokevirtual 186, 3), (29, .ifCond .ne 6, 3), (32, .bipush (-4), 2), (34, .ireturn, 1), (35, .iload_n 3, 1), (36, .ifCond .ge 17, 3), (39, .aload_n 0, 1), (40, .sipush 4000, 3), (43, .aload_n 0, 1), (44, .getfield 176, 3), (47, .invokevirtual 132, 3), (50, .goto 30, 3), (53, .iload_n 3, 1), (54, .aload_n 0, 1), (55, .getfield 176, 3), (58, .sipush 4000, 3), (61, .isub, 1), (62, .if_icmp .ge 16, 3), (65, .aload_n 0, 1), (66, .getfield 9, 3), (69, .sipush 4000, 3), (72, .iload_n 3, 1), (73, .iadd, 1), (74, .iaload, 1), (75, .goto 5, 3), (78, .bipush (-4), 2), (80, .ireturn, 1)]
theorem dtX12_widest_0 : kDec cX12_widest lX12_widest_0 = true := by decide +kernel
noncomputable def fX12_widest (x1 : Int32) (x2 : Int32) (x3 : Int32) (w : rW) : Option (Int32 × rW) :=
  (fX12_isLine x1 w).bind fun v2 =>
  if v2 = 0 then
  some ((-1 : Int32), w)
  else
  (fX12_isLine x2 w).bind fun v4 =>
  if v4 = 0 then
  some ((-1 : Int32), w)
  else
  if (-1 : Int32) ≤ x3 then
  kb2 (fX12_isWidest x1 x2 w) fun v7 w5 =>
  if v7 = 0 then
  some ((-4 : Int32), w5)
  else
  if 0 ≤ x3 then
  if ((rF w5 17) - (4000 : Int32)) ≤ x3 then
  some ((-4 : Int32), w5)
  else
  (raI w5 0 10000 ((4000 : Int32) + x3)).bind fun v8 =>
  some (v8, w5)
  else
  (fX12_sizeOf (4000 : Int32) (rF w5 17) w5).bind fun v10 =>
  some (v10, w5)
  else
  some ((-1 : Int32), w)

set_option maxHeartbeats 4000000 in
set_option maxRecDepth 100000 in
theorem rX12_widest (l : Launch) (D : va_G) (aC : Nat → ClassId) {h0 : Nat} {wB : kW} (hB : rOK h0 wB) {x1 : Int32} {x2 : Int32} {x3 : Int32} {w : rW} {wR : rW} {oR : Int32} (h : fX12_widest x1 x2 x3 w = some (oR, wR)) : kC l D aC yX12_widest cX12_widest 4 (some .int) 404 8883 [.ref h0, .int x1, .int x2, .int x3] (rWo h0 wB w) (some (.int oR)) (rWo h0 wB wR) 0 0 := by
  refine kOf (own := RX12) (by decide) rfl (Nat.le_of_ble_eq_true rfl) ?_
  intro p e s m below meth c ls F hml hr hlocks hnm hX hZ hl
  obtain ⟨hx, hb, hts, hown, hK⟩ := id F
  have hl : lv_has ls 4 [(0, .ref h0), (1, .int x1), (2, .int x2), (3, .int x3)] := hl
  have hf := h
  rw [fX12_widest] at hf
  refine lv_aload_n hx hb (kd dtX12_widest_0 0 rfl) rfl (lv_at hl 0 rfl) ?_
  refine lv_iload_n hx hb (kd dtX12_widest_0 1 rfl) rfl (lv_at hl 1 rfl) ?_
  obtain ⟨v2, h1, hf⟩ := kbind hf
  refine kcallV (n := 1) [.int x1] [] [.int v2] (rX12_isLine l D aC hB h1) rfl hB.1 F hml hX hZ hl.1 mwX12_isLine wmX12_127 rfl (by decide) (by decide +kernel) ⟨(by decide), (by decide)⟩ rfl rfl rfl (Nat.le_of_ble_eq_true rfl) (kd dtX12_widest_0 2 rfl) ⟨Nat.zero_le _, Nat.zero_le _⟩ (fun H locs hX => ?_)
  refine lv_if_eq (tgt := 21) hx hb (kd dtX12_widest_0 3 rfl) (by decide) (fun hc => ?_) (fun hc => ?_)
  · have hf := kif_pos hc hf
    refine lv_iconst (v := (-1 : Int32)) hx hb (kd dtX12_widest_0 11 rfl) (by decide) ?_
    obtain ⟨rfl, rfl⟩ := Prod.mk.inj (Option.some.inj hf)
    exact kiret F hX hr hlocks rfl (kd dtX12_widest_0 12 rfl)
  · have hf := kif_neg hc hf
    refine lv_aload_n hx hb (kd dtX12_widest_0 4 rfl) rfl (lv_at hl 0 rfl) ?_
    refine lv_iload_n hx hb (kd dtX12_widest_0 5 rfl) rfl (lv_at hl 2 rfl) ?_
    obtain ⟨v4, h3, hf⟩ := kbind hf
    refine kcallV (n := 1) [.int x2] [] [.int v4] (rX12_isLine l D aC hB h3) rfl hB.1 F hml hX hZ hl.1 mwX12_isLine wmX12_127 rfl (by decide) (by decide +kernel) ⟨(by decide), (by decide)⟩ rfl rfl rfl (Nat.le_of_ble_eq_true rfl) (kd dtX12_widest_0 6 rfl) ⟨Nat.zero_le _, Nat.zero_le _⟩ (fun H locs hX => ?_)
    refine lv_if_eq (tgt := 21) hx hb (kd dtX12_widest_0 7 rfl) (by decide) (fun hc => ?_) (fun hc => ?_)
    · have hf := kif_pos hc hf
      refine lv_iconst (v := (-1 : Int32)) hx hb (kd dtX12_widest_0 11 rfl) (by decide) ?_
      obtain ⟨rfl, rfl⟩ := Prod.mk.inj (Option.some.inj hf)
      exact kiret F hX hr hlocks rfl (kd dtX12_widest_0 12 rfl)
    · have hf := kif_neg hc hf
      refine lv_iload_n hx hb (kd dtX12_widest_0 8 rfl) rfl (lv_at hl 3 rfl) ?_
      refine lv_iconst (v := (-1 : Int32)) hx hb (kd dtX12_widest_0 9 rfl) (by decide) ?_
      refine lv_icmp_ge (tgt := 23) hx hb (kd dtX12_widest_0 10 rfl) (by decide) (fun hc => ?_) (fun hc => ?_)
      · have hf := kif_pos hc hf
        refine lv_aload_n hx hb (kd dtX12_widest_0 13 rfl) rfl (lv_at hl 0 rfl) ?_
        refine lv_iload_n hx hb (kd dtX12_widest_0 14 rfl) rfl (lv_at hl 1 rfl) ?_
        refine lv_iload_n hx hb (kd dtX12_widest_0 15 rfl) rfl (lv_at hl 2 rfl) ?_
        obtain ⟨v7, w5, h6, hf⟩ := kbind2 hf
        refine kcallV (n := 2) [.int x1, .int x2] [] [.int v7] (rX12_isWidest l D aC hB h6) rfl hB.1 F hml hX hZ hl.1 mwX12_isWidest wmX12_186 rfl (by decide) (by decide +kernel) ⟨(by decide), (by decide)⟩ rfl rfl rfl (Nat.le_of_ble_eq_true rfl) (kd dtX12_widest_0 16 rfl) ⟨Nat.zero_le _, Nat.zero_le _⟩ (fun H locs hX => ?_)
        refine lv_if_ne (tgt := 35) hx hb (kd dtX12_widest_0 17 rfl) (by decide) (fun hc => ?_) (fun hc => ?_)
        · have hf := kif_neg hc hf
          refine lv_iload_n hx hb (kd dtX12_widest_0 20 rfl) rfl (lv_at hl 3 rfl) ?_
          refine lv_if_ge (tgt := 53) hx hb (kd dtX12_widest_0 21 rfl) (by decide) (fun hc => ?_) (fun hc => ?_)
          · have hf := kif_pos hc hf
            refine lv_iload_n hx hb (kd dtX12_widest_0 28 rfl) rfl (lv_at hl 3 rfl) ?_
            refine lv_aload_n hx hb (kd dtX12_widest_0 29 rfl) rfl (lv_at hl 0 rfl) ?_
            refine rgetF (j := 17) hB F hX wfX12_176 (by decide) rfl (kd dtX12_widest_0 30 rfl) ?_
            refine lv_sipush (v := (4000 : Int32)) hx hb (kd dtX12_widest_0 31 rfl) (by decide) ?_
            refine lv_isub hx hb (kd dtX12_widest_0 32 rfl) ?_
            refine lv_icmp_ge (tgt := 78) hx hb (kd dtX12_widest_0 33 rfl) (by decide) (fun hc => ?_) (fun hc => ?_)
            · have hf := kif_pos hc hf
              refine lv_bipush (v := (-4 : Int32)) hx hb (kd dtX12_widest_0 41 rfl) (by decide) ?_
              obtain ⟨rfl, rfl⟩ := Prod.mk.inj (Option.some.inj hf)
              exact kiret F hX hr hlocks rfl (kd dtX12_widest_0 42 rfl)
            · have hf := kif_neg hc hf
              refine lv_aload_n hx hb (kd dtX12_widest_0 34 rfl) rfl (lv_at hl 0 rfl) ?_
              refine rgetA (n := 0) (j := 0) hB (by decide) rfl F hX wfX12_9 (by decide) rfl (kd dtX12_widest_0 35 rfl) ?_
              refine lv_sipush (v := (4000 : Int32)) hx hb (kd dtX12_widest_0 36 rfl) (by decide) ?_
              refine lv_iload_n hx hb (kd dtX12_widest_0 37 rfl) rfl (lv_at hl 3 rfl) ?_
              refine lv_iadd hx hb (kd dtX12_widest_0 38 rfl) ?_
              obtain ⟨v8, hv8, hf⟩ := kbind hf
              refine rald hB (by decide) hv8 F hX (kd dtX12_widest_0 39 rfl) ?_
              refine lv_goto (tgt := 80) hx hb (kd dtX12_widest_0 40 rfl) (by decide) ?_
              obtain ⟨rfl, rfl⟩ := Prod.mk.inj (Option.some.inj hf)
              exact kiret F hX hr hlocks rfl (kd dtX12_widest_0 42 rfl)
          · have hf := kif_neg hc hf
            refine lv_aload_n hx hb (kd dtX12_widest_0 22 rfl) rfl (lv_at hl 0 rfl) ?_
            refine lv_sipush (v := (4000 : Int32)) hx hb (kd dtX12_widest_0 23 rfl) (by decide) ?_
            refine lv_aload_n hx hb (kd dtX12_widest_0 24 rfl) rfl (lv_at hl 0 rfl) ?_
            refine rgetF (j := 17) hB F hX wfX12_176 (by decide) rfl (kd dtX12_widest_0 25 rfl) ?_
            obtain ⟨v10, h9, hf⟩ := kbind hf
            refine kcallV (n := 2) [.int (4000 : Int32), .int (rF w5 17)] [] [.int v10] (rX12_sizeOf l D aC hB h9) rfl hB.1 F hml hX hZ hl.1 mwX12_sizeOf wmX12_132 rfl (by decide) (by decide +kernel) ⟨(by decide), (by decide)⟩ rfl rfl rfl (Nat.le_of_ble_eq_true rfl) (kd dtX12_widest_0 26 rfl) ⟨Nat.zero_le _, Nat.zero_le _⟩ (fun H locs hX => ?_)
            refine lv_goto (tgt := 80) hx hb (kd dtX12_widest_0 27 rfl) (by decide) ?_
            obtain ⟨rfl, rfl⟩ := Prod.mk.inj (Option.some.inj hf)
            exact kiret F hX hr hlocks rfl (kd dtX12_widest_0 42 rfl)
        · have hf := kif_pos hc hf
          refine lv_bipush (v := (-4 : Int32)) hx hb (kd dtX12_widest_0 18 rfl) (by decide) ?_
          obtain ⟨rfl, rfl⟩ := Prod.mk.inj (Option.some.inj hf)
          exact kiret F hX hr hlocks rfl (kd dtX12_widest_0 19 rfl)
      · have hf := kif_neg hc hf
        refine lv_iconst (v := (-1 : Int32)) hx hb (kd dtX12_widest_0 11 rfl) (by decide) ?_
        obtain ⟨rfl, rfl⟩ := Prod.mk.inj (Option.some.inj hf)
        exact kiret F hX hr hlocks rfl (kd dtX12_widest_0 12 rfl)
def lX12_must_0 : List (Nat × Instr × Nat) := [(0, .aload_n 0, 1), (1, .iload_n 1, 1), (2, .invokevirtual 127, 3), (5, .ifCond .eq 23, 3), (8, .aload_n 0, 1), (9, .iload_n 2, 1), (10, .invokevirtual 127, 3), (13, .ifCond .eq 15, 3), (16, .iload_n 3, 1), (17, .invokestatic 71, 3), (20, .ifCond .eq 8, 3), (23, .iload 4, 2), (25, .ifCond .ge 5, 3), (28, .iconst (-1), 1), (29, .ireturn, 1), (30, .aload_n 0, 1), (31, .iload_n 1, 1), (32, .invokestatic 86, 3), (35, .iload_n 2, 1), (36, .invokestatic 86, 3), (39, .invokevirtual 166, 3), (42, .ifCond .eq 15, 3), (45, .aload_n 0, 1), (46, .getfield 40, 3), (49, .iload_n 3, 1), (50, .bipush 112, 2), (52, .isub, 1), (53, .iaload, 1), (54, .ifCond .ge 6, 3), (57, .bipush (-4), 2), (59, .ireturn, 1), (60, .iload_n 3, 1), (61, .bipush 112, 2), (63, .isub, 1), (64, .istore 5, 2), (66, .iload 4, 2), (68, .aload_n 0, 1), (69, .getfield 43, 3), (72, .iload 5, 2), (74, .iaload, 1), (75, .aload_n 0, 1), (76, .getfield 40, 3), (79, .iload 5, 2), (81, .iaload, 1), (82, .isub, 1), (83, .if_icmp .ge 21, 3), (86, .aload_n 0, 1), (87, .getfield 9, 3), (90, .aload_n 0, 1), (91, .getfield 40, 3), (94, .iload 5, 2), (96, .iaload, 1), (97, .iload 4, 2), (99, .iadd, 1), (100, .iaload, 1), (101, .goto 5, 3), (104, .bipush (-4), 2), (106, .ireturn, 1)]
theorem dtX12_must_0 : kDec cX12_must lX12_must_0 = true := by decide +kernel
noncomputable def fX12_must (x1 : Int32) (x2 : Int32) (x3 : Int32) (x4 : Int32) (w : rW) : Option (Int32 × rW) :=
  (fX12_isLine x1 w).bind fun v2 =>
  if v2 = 0 then
  some ((-1 : Int32), w)
  else
  (fX12_isLine x2 w).bind fun v4 =>
  if v4 = 0 then
  some ((-1 : Int32), w)
  else
  (fX12_isLetter x3).bind fun v6 =>
  if v6 = 0 then
  some ((-1 : Int32), w)
  else
  if 0 ≤ x4 then
  (fX12_textOf x1).bind fun v8 =>
  (fX12_textOf x2).bind fun v10 =>
  kb2 (fX12_comes v8 v10 w) fun v13 w11 =>
  if v13 = 0 then
  some ((-4 : Int32), w11)
  else
  (raI w11 10 6 (x3 - (112 : Int32))).bind fun v14 =>
  if 0 ≤ v14 then
  (raI w11 11 6 (x3 - (112 : Int32))).bind fun v15 =>
  (raI w11 10 6 (x3 - (112 : Int32))).bind fun v16 =>
  if (v15 - v16) ≤ x4 then
  some ((-4 : Int32), w11)
  else
  (raI w11 10 6 (x3 - (112 : Int32))).bind fun v17 =>
  (raI w11 0 10000 (v17 + x4)).bind fun v18 =>
  some (v18, w11)
  else
  some ((-4 : Int32), w11)
  else
  some ((-1 : Int32), w)

set_option maxHeartbeats 4000000 in
set_option maxRecDepth 100000 in
theorem rX12_must (l : Launch) (D : va_G) (aC : Nat → ClassId) {h0 : Nat} {wB : kW} (hB : rOK h0 wB) {x1 : Int32} {x2 : Int32} {x3 : Int32} {x4 : Int32} {w : rW} {wR : rW} {oR : Int32} (h : fX12_must x1 x2 x3 x4 w = some (oR, wR)) : kC l D aC yX12_must cX12_must 6 (some .int) 805 18901 [.ref h0, .int x1, .int x2, .int x3, .int x4] (rWo h0 wB w) (some (.int oR)) (rWo h0 wB wR) 0 0 := by
  refine kOf (own := RX12) (by decide) rfl (Nat.le_of_ble_eq_true rfl) ?_
  intro p e s m below meth c ls F hml hr hlocks hnm hX hZ hl
  obtain ⟨hx, hb, hts, hown, hK⟩ := id F
  have hl : lv_has ls 6 [(0, .ref h0), (1, .int x1), (2, .int x2), (3, .int x3), (4, .int x4)] := hl
  have hf := h
  rw [fX12_must] at hf
  refine lv_aload_n hx hb (kd dtX12_must_0 0 rfl) rfl (lv_at hl 0 rfl) ?_
  refine lv_iload_n hx hb (kd dtX12_must_0 1 rfl) rfl (lv_at hl 1 rfl) ?_
  obtain ⟨v2, h1, hf⟩ := kbind hf
  refine kcallV (n := 1) [.int x1] [] [.int v2] (rX12_isLine l D aC hB h1) rfl hB.1 F hml hX hZ hl.1 mwX12_isLine wmX12_127 rfl (by decide) (by decide +kernel) ⟨(by decide), (by decide)⟩ rfl rfl rfl (Nat.le_of_ble_eq_true rfl) (kd dtX12_must_0 2 rfl) ⟨Nat.zero_le _, Nat.zero_le _⟩ (fun H locs hX => ?_)
  refine lv_if_eq (tgt := 28) hx hb (kd dtX12_must_0 3 rfl) (by decide) (fun hc => ?_) (fun hc => ?_)
  · have hf := kif_pos hc hf
    refine lv_iconst (v := (-1 : Int32)) hx hb (kd dtX12_must_0 13 rfl) (by decide) ?_
    obtain ⟨rfl, rfl⟩ := Prod.mk.inj (Option.some.inj hf)
    exact kiret F hX hr hlocks rfl (kd dtX12_must_0 14 rfl)
  · have hf := kif_neg hc hf
    refine lv_aload_n hx hb (kd dtX12_must_0 4 rfl) rfl (lv_at hl 0 rfl) ?_
    refine lv_iload_n hx hb (kd dtX12_must_0 5 rfl) rfl (lv_at hl 2 rfl) ?_
    obtain ⟨v4, h3, hf⟩ := kbind hf
    refine kcallV (n := 1) [.int x2] [] [.int v4] (rX12_isLine l D aC hB h3) rfl hB.1 F hml hX hZ hl.1 mwX12_isLine wmX12_127 rfl (by decide) (by decide +kernel) ⟨(by decide), (by decide)⟩ rfl rfl rfl (Nat.le_of_ble_eq_true rfl) (kd dtX12_must_0 6 rfl) ⟨Nat.zero_le _, Nat.zero_le _⟩ (fun H locs hX => ?_)
    refine lv_if_eq (tgt := 28) hx hb (kd dtX12_must_0 7 rfl) (by decide) (fun hc => ?_) (fun hc => ?_)
    · have hf := kif_pos hc hf
      refine lv_iconst (v := (-1 : Int32)) hx hb (kd dtX12_must_0 13 rfl) (by decide) ?_
      obtain ⟨rfl, rfl⟩ := Prod.mk.inj (Option.some.inj hf)
      exact kiret F hX hr hlocks rfl (kd dtX12_must_0 14 rfl)
    · have hf := kif_neg hc hf
      refine lv_iload_n hx hb (kd dtX12_must_0 8 rfl) rfl (lv_at hl 3 rfl) ?_
      obtain ⟨v6, h5, hf⟩ := kbind hf
      refine kcallS (n := 1) [.int x3] [] [.int v6] (rX12_isLetter l D aC (rWo h0 wB w) h5) F hml hX hZ hl.1 mwX12_isLetter wmX12_71 (by decide +kernel) ⟨(by decide), (by decide)⟩ rfl rfl rfl (Nat.le_of_ble_eq_true rfl) (kd dtX12_must_0 9 rfl) ⟨Nat.zero_le _, Nat.zero_le _⟩ (fun H locs hX => ?_)
      refine lv_if_eq (tgt := 28) hx hb (kd dtX12_must_0 10 rfl) (by decide) (fun hc => ?_) (fun hc => ?_)
      · have hf := kif_pos hc hf
        refine lv_iconst (v := (-1 : Int32)) hx hb (kd dtX12_must_0 13 rfl) (by decide) ?_
        obtain ⟨rfl, rfl⟩ := Prod.mk.inj (Option.some.inj hf)
        exact kiret F hX hr hlocks rfl (kd dtX12_must_0 14 rfl)
      · have hf := kif_neg hc hf
        refine lv_iload hx hb (kd dtX12_must_0 11 rfl) (lv_at hl 4 rfl) ?_
        refine lv_if_ge (tgt := 30) hx hb (kd dtX12_must_0 12 rfl) (by decide) (fun hc => ?_) (fun hc => ?_)
        · have hf := kif_pos hc hf
          refine lv_aload_n hx hb (kd dtX12_must_0 15 rfl) rfl (lv_at hl 0 rfl) ?_
          refine lv_iload_n hx hb (kd dtX12_must_0 16 rfl) rfl (lv_at hl 1 rfl) ?_
          obtain ⟨v8, h7, hf⟩ := kbind hf
          refine kcallS (n := 1) [.int x1] [.ref h0] [.int v8, .ref h0] (rX12_textOf l D aC (rWo h0 wB w) h7) F hml hX hZ hl.1 mwX12_textOf wmX12_86 (by decide +kernel) ⟨(by decide), (by decide)⟩ rfl rfl rfl (Nat.le_of_ble_eq_true rfl) (kd dtX12_must_0 17 rfl) ⟨Nat.zero_le _, Nat.zero_le _⟩ (fun H locs hX => ?_)
          refine lv_iload_n hx hb (kd dtX12_must_0 18 rfl) rfl (lv_at hl 2 rfl) ?_
          obtain ⟨v10, h9, hf⟩ := kbind hf
          refine kcallS (n := 1) [.int x2] [.int v8, .ref h0] [.int v10, .int v8, .ref h0] (rX12_textOf l D aC (rWo h0 wB w) h9) F hml hX hZ hl.1 mwX12_textOf wmX12_86 (by decide +kernel) ⟨(by decide), (by decide)⟩ rfl rfl rfl (Nat.le_of_ble_eq_true rfl) (kd dtX12_must_0 19 rfl) ⟨Nat.zero_le _, Nat.zero_le _⟩ (fun H locs hX => ?_)
          obtain ⟨v13, w11, h12, hf⟩ := kbind2 hf
          refine kcallV (n := 2) [.int v8, .int v10] [] [.int v13] (rX12_comes l D aC hB h12) rfl hB.1 F hml hX hZ hl.1 mwX12_comes wmX12_166 rfl (by decide) (by decide +kernel) ⟨(by decide), (by decide)⟩ rfl rfl rfl (Nat.le_of_ble_eq_true rfl) (kd dtX12_must_0 20 rfl) ⟨Nat.zero_le _, Nat.zero_le _⟩ (fun H locs hX => ?_)
          refine lv_if_eq (tgt := 57) hx hb (kd dtX12_must_0 21 rfl) (by decide) (fun hc => ?_) (fun hc => ?_)
          · have hf := kif_pos hc hf
            refine lv_bipush (v := (-4 : Int32)) hx hb (kd dtX12_must_0 29 rfl) (by decide) ?_
            obtain ⟨rfl, rfl⟩ := Prod.mk.inj (Option.some.inj hf)
            exact kiret F hX hr hlocks rfl (kd dtX12_must_0 30 rfl)
          · have hf := kif_neg hc hf
            refine lv_aload_n hx hb (kd dtX12_must_0 22 rfl) rfl (lv_at hl 0 rfl) ?_
            refine rgetA (n := 10) (j := 15) hB (by decide) rfl F hX wfX12_40 (by decide) rfl (kd dtX12_must_0 23 rfl) ?_
            refine lv_iload_n hx hb (kd dtX12_must_0 24 rfl) rfl (lv_at hl 3 rfl) ?_
            refine lv_bipush (v := (112 : Int32)) hx hb (kd dtX12_must_0 25 rfl) (by decide) ?_
            refine lv_isub hx hb (kd dtX12_must_0 26 rfl) ?_
            obtain ⟨v14, hv14, hf⟩ := kbind hf
            refine rald hB (by decide) hv14 F hX (kd dtX12_must_0 27 rfl) ?_
            refine lv_if_ge (tgt := 60) hx hb (kd dtX12_must_0 28 rfl) (by decide) (fun hc => ?_) (fun hc => ?_)
            · have hf := kif_pos hc hf
              refine lv_iload_n hx hb (kd dtX12_must_0 31 rfl) rfl (lv_at hl 3 rfl) ?_
              refine lv_bipush (v := (112 : Int32)) hx hb (kd dtX12_must_0 32 rfl) (by decide) ?_
              refine lv_isub hx hb (kd dtX12_must_0 33 rfl) ?_
              refine lv_istore (lv' := [(5, .int (x3 - (112 : Int32))), (0, .ref h0), (1, .int x1), (2, .int x2), (3, .int x3), (4, .int x4)]) hx hb (kd dtX12_must_0 34 rfl) hl (by decide) rfl (fun ls hl => ?_)
              refine lv_iload hx hb (kd dtX12_must_0 35 rfl) (lv_at hl 5 rfl) ?_
              refine lv_aload_n hx hb (kd dtX12_must_0 36 rfl) rfl (lv_at hl 1 rfl) ?_
              refine rgetA (n := 11) (j := 16) hB (by decide) rfl F hX wfX12_43 (by decide) rfl (kd dtX12_must_0 37 rfl) ?_
              refine lv_iload hx hb (kd dtX12_must_0 38 rfl) (lv_at hl 0 rfl) ?_
              obtain ⟨v15, hv15, hf⟩ := kbind hf
              refine rald hB (by decide) hv15 F hX (kd dtX12_must_0 39 rfl) ?_
              refine lv_aload_n hx hb (kd dtX12_must_0 40 rfl) rfl (lv_at hl 1 rfl) ?_
              refine rgetA (n := 10) (j := 15) hB (by decide) rfl F hX wfX12_40 (by decide) rfl (kd dtX12_must_0 41 rfl) ?_
              refine lv_iload hx hb (kd dtX12_must_0 42 rfl) (lv_at hl 0 rfl) ?_
              obtain ⟨v16, hv16, hf⟩ := kbind hf
              refine rald hB (by decide) hv16 F hX (kd dtX12_must_0 43 rfl) ?_
              refine lv_isub hx hb (kd dtX12_must_0 44 rfl) ?_
              refine lv_icmp_ge (tgt := 104) hx hb (kd dtX12_must_0 45 rfl) (by decide) (fun hc => ?_) (fun hc => ?_)
              · have hf := kif_pos hc hf
                refine lv_bipush (v := (-4 : Int32)) hx hb (kd dtX12_must_0 56 rfl) (by decide) ?_
                obtain ⟨rfl, rfl⟩ := Prod.mk.inj (Option.some.inj hf)
                exact kiret F hX hr hlocks rfl (kd dtX12_must_0 57 rfl)
              · have hf := kif_neg hc hf
                refine lv_aload_n hx hb (kd dtX12_must_0 46 rfl) rfl (lv_at hl 1 rfl) ?_
                refine rgetA (n := 0) (j := 0) hB (by decide) rfl F hX wfX12_9 (by decide) rfl (kd dtX12_must_0 47 rfl) ?_
                refine lv_aload_n hx hb (kd dtX12_must_0 48 rfl) rfl (lv_at hl 1 rfl) ?_
                refine rgetA (n := 10) (j := 15) hB (by decide) rfl F hX wfX12_40 (by decide) rfl (kd dtX12_must_0 49 rfl) ?_
                refine lv_iload hx hb (kd dtX12_must_0 50 rfl) (lv_at hl 0 rfl) ?_
                obtain ⟨v17, hv17, hf⟩ := kbind hf
                refine rald hB (by decide) hv17 F hX (kd dtX12_must_0 51 rfl) ?_
                refine lv_iload hx hb (kd dtX12_must_0 52 rfl) (lv_at hl 5 rfl) ?_
                refine lv_iadd hx hb (kd dtX12_must_0 53 rfl) ?_
                obtain ⟨v18, hv18, hf⟩ := kbind hf
                refine rald hB (by decide) hv18 F hX (kd dtX12_must_0 54 rfl) ?_
                refine lv_goto (tgt := 106) hx hb (kd dtX12_must_0 55 rfl) (by decide) ?_
                obtain ⟨rfl, rfl⟩ := Prod.mk.inj (Option.some.inj hf)
                exact kiret F hX hr hlocks rfl (kd dtX12_must_0 57 rfl)
            · have hf := kif_neg hc hf
              refine lv_bipush (v := (-4 : Int32)) hx hb (kd dtX12_must_0 29 rfl) (by decide) ?_
              obtain ⟨rfl, rfl⟩ := Prod.mk.inj (Option.some.inj hf)
              exact kiret F hX hr hlocks rfl (kd dtX12_must_0 30 rfl)
        · have hf := kif_neg hc hf
          refine lv_iconst (v := (-1 : Int32)) hx hb (kd dtX12_must_0 13 rfl) (by decide) ?_
          obtain ⟨rfl, rfl⟩ := Prod.mk.inj (Option.some.inj hf)
          exact kiret F hX hr hlocks rfl (kd dtX12_must_0 14 rfl)
def lX12_isIf_0 : List (Nat × Instr × Nat) := [(0, .aload_n 0, 1), (1, .getfield 9, 3), (4, .iload_n 1, 1), (5, .iaload, 1), (6, .bipush 40, 2), (8, .if_icmp .ne 24, 3), (11, .aload_n 0, 1), (12, .getfield 9, 3), (15, .aload_n 0, 1), (16, .iload_n 1, 1), (17, .iconst 1, 1), (18, .iadd, 1), (19, .invokevirtual 75, 3), (22, .iaload, 1), (23, .bipush 62, 2), (25, .if_icmp .ne 7, 3), (28, .iconst 1, 1), (29, .goto 4, 3), (32, .iconst 0, 1), (33, .ireturn, 1)]
theorem dtX12_isIf_0 : kDec cX12_isIf lX12_isIf_0 = true := by decide +kernel
noncomputable def fX12_isIf (x1 : Int32) (w : rW) : Option Int32 :=
  (raI w 0 10000 x1).bind fun v1 =>
  if v1 = (40 : Int32) then
  (fX12_end kDP (x1 + (1 : Int32)) w).bind fun v3 =>
  (raI w 0 10000 v3).bind fun v4 =>
  if v4 = (62 : Int32) then
  some (1 : Int32)
  else
  some (0 : Int32)
  else
  some (0 : Int32)

set_option maxHeartbeats 4000000 in
set_option maxRecDepth 100000 in
theorem rX12_isIf (l : Launch) (D : va_G) (aC : Nat → ClassId) {h0 : Nat} {wB : kW} (hB : rOK h0 wB) {x1 : Int32} {w : rW} {oR : Int32} (h : fX12_isIf x1 w = some oR) : kC l D aC yX12_isIf cX12_isIf 2 (some .boolean) 403 8854 [.ref h0, .int x1] (rWo h0 wB w) (some (.int oR)) (rWo h0 wB w) 0 0 := by
  refine kOf (own := RX12) (by decide) rfl (Nat.le_of_ble_eq_true rfl) ?_
  intro p e s m below meth c ls F hml hr hlocks hnm hX hZ hl
  obtain ⟨hx, hb, hts, hown, hK⟩ := id F
  have hl : lv_has ls 2 [(0, .ref h0), (1, .int x1)] := hl
  have hf := h
  rw [fX12_isIf] at hf
  refine lv_aload_n hx hb (kd dtX12_isIf_0 0 rfl) rfl (lv_at hl 0 rfl) ?_
  refine rgetA (n := 0) (j := 0) hB (by decide) rfl F hX wfX12_9 (by decide) rfl (kd dtX12_isIf_0 1 rfl) ?_
  refine lv_iload_n hx hb (kd dtX12_isIf_0 2 rfl) rfl (lv_at hl 1 rfl) ?_
  obtain ⟨v1, hv1, hf⟩ := kbind hf
  refine rald hB (by decide) hv1 F hX (kd dtX12_isIf_0 3 rfl) ?_
  refine lv_bipush (v := (40 : Int32)) hx hb (kd dtX12_isIf_0 4 rfl) (by decide) ?_
  refine lv_icmp_ne (tgt := 32) hx hb (kd dtX12_isIf_0 5 rfl) (by decide) (fun hc => ?_) (fun hc => ?_)
  · have hf := kif_neg hc hf
    refine lv_iconst (v := (0 : Int32)) hx hb (kd dtX12_isIf_0 18 rfl) (by decide) ?_
    obtain rfl := Option.some.inj hf
    exact kzret F hX hr hlocks rfl rfl (kd dtX12_isIf_0 19 rfl)
  · have hf := kif_pos hc hf
    refine lv_aload_n hx hb (kd dtX12_isIf_0 6 rfl) rfl (lv_at hl 0 rfl) ?_
    refine rgetA (n := 0) (j := 0) hB (by decide) rfl F hX wfX12_9 (by decide) rfl (kd dtX12_isIf_0 7 rfl) ?_
    refine lv_aload_n hx hb (kd dtX12_isIf_0 8 rfl) rfl (lv_at hl 0 rfl) ?_
    refine lv_iload_n hx hb (kd dtX12_isIf_0 9 rfl) rfl (lv_at hl 1 rfl) ?_
    refine lv_iconst (v := (1 : Int32)) hx hb (kd dtX12_isIf_0 10 rfl) (by decide) ?_
    refine lv_iadd hx hb (kd dtX12_isIf_0 11 rfl) ?_
    obtain ⟨v3, h2, hf⟩ := kbind hf
    refine kcallV (n := 1) [.int (x1 + (1 : Int32))] [.ref (h0 + 0 + 1)] [.int v3, .ref (h0 + 0 + 1)] (rX12_end l D aC hB h2) rfl hB.1 F hml hX hZ hl.1 mwX12_end wmX12_75 rfl (by decide) (by decide +kernel) ⟨(by decide), (by decide)⟩ rfl rfl rfl (Nat.le_of_ble_eq_true rfl) (kd dtX12_isIf_0 12 rfl) ⟨Nat.zero_le _, Nat.zero_le _⟩ (fun H locs hX => ?_)
    obtain ⟨v4, hv4, hf⟩ := kbind hf
    refine rald hB (by decide) hv4 F hX (kd dtX12_isIf_0 13 rfl) ?_
    refine lv_bipush (v := (62 : Int32)) hx hb (kd dtX12_isIf_0 14 rfl) (by decide) ?_
    refine lv_icmp_ne (tgt := 32) hx hb (kd dtX12_isIf_0 15 rfl) (by decide) (fun hc => ?_) (fun hc => ?_)
    · have hf := kif_neg hc hf
      refine lv_iconst (v := (0 : Int32)) hx hb (kd dtX12_isIf_0 18 rfl) (by decide) ?_
      obtain rfl := Option.some.inj hf
      exact kzret F hX hr hlocks rfl rfl (kd dtX12_isIf_0 19 rfl)
    · have hf := kif_pos hc hf
      refine lv_iconst (v := (1 : Int32)) hx hb (kd dtX12_isIf_0 16 rfl) (by decide) ?_
      refine lv_goto (tgt := 33) hx hb (kd dtX12_isIf_0 17 rfl) (by decide) ?_
      obtain rfl := Option.some.inj hf
      exact kzret F hX hr hlocks rfl rfl (kd dtX12_isIf_0 19 rfl)
theorem wmX12_189 : Cond.methodLink RX12 189 yX12_isIf ∈ kT := kTm 1540 (by decide +kernel) rfl
theorem mwX12_isIf : kMV RX12 yX12_isIf cX12_isIf 2 (some .boolean) := ⟨kTm 1543 (by decide +kernel) rfl, kTm 106 (by decide +kernel) rfl, kTm 1542 (by decide +kernel) rfl, kTm 71 (by decide +kernel) rfl⟩
def lX12_isByIf_0 : List (Nat × Instr × Nat) := [(0, .iload_n 3, 1), (1, .invokestatic 86, 3), (4, .istore 4, 2), (6, .aload_n 0, 1), (7, .iload 4, 2), (9, .invokevirtual 189, 3), (12, .ifCond .ne 5, 3), (15, .iconst 0, 1), (16, .ireturn, 1), (17, .aload_n 0, 1), (18, .iload 4, 2), (20, .iconst 1, 1), (21, .iadd, 1), (22, .invokevirtual 75, 3), (25, .istore 5, 2), (27, .aload_n 0, 1), (28, .iload 4, 2), (30, .iconst 1, 1), (31, .iadd, 1), (32, .iload 5, 2), (34, .iload_n 2, 1), (35, .invokestatic 86, 3), (38, .iload_n 2, 1), (39, .invokestatic 86, 3), (42, .aload_n 0, 1), (43, .getfield 16, 3), (46, .iconst 3, 1), (47, .iload_n 2, 1), (48, .iadd, 1), (49, .iaload, 1), (50, .iadd, 1), (51, .invokevirtual 151, 3), (54, .ifCond .eq 43, 3), (57, .aload_n 0, 1), (58, .iload 5, 2), (60, .iconst 1, 1), (61, .iadd, 1), (62, .aload_n 0, 1), (63, .iload 5, 2), (65, .iconst 1, 1), (66, .iadd, 1), (67, .invokevirtual 75, 3), (70, .iload_n 1, 1), (71, .invokestatic 86, 3), (74, .iload_n 1, 1), (75, .invokestatic 86, 3), (78, .aload_n 0, 1), (79, .getfield 16, 3), (82, .iconst 3, 1), (83, .iload_n 1, 1), (84, .iadd, 1), (85, .iaload, 1), (86, .iadd, 1), (87, .invokevirtual 151, 3), (90, .ifCond .eq 7, 3), (93, .iconst 1, 1), (94, .goto 4, 3), (97, .iconst 0, 1), (98, .ireturn, 1)]
theorem dtX12_isByIf_0 : kDec cX12_isByIf lX12_isByIf_0 = true := by decide +kernel
noncomputable def fX12_isByIf (x1 : Int32) (x2 : Int32) (x3 : Int32) (w : rW) : Option Int32 :=
  (fX12_textOf x3).bind fun v2 =>
  (fX12_isIf v2 w).bind fun v4 =>
  if v4 = 0 then
  some (0 : Int32)
  else
  (fX12_end kDP (v2 + (1 : Int32)) w).bind fun v6 =>
  (fX12_textOf x2).bind fun v8 =>
  (fX12_textOf x2).bind fun v10 =>
  (raI w 2 1000 ((3 : Int32) + x2)).bind fun v11 =>
  (fX12_same (v2 + (1 : Int32)) v6 v8 (v10 + v11) w).bind fun v13 =>
  if v13 = 0 then
  some (0 : Int32)
  else
  (fX12_end kDP (v6 + (1 : Int32)) w).bind fun v15 =>
  (fX12_textOf x1).bind fun v17 =>
  (fX12_textOf x1).bind fun v19 =>
  (raI w 2 1000 ((3 : Int32) + x1)).bind fun v20 =>
  (fX12_same (v6 + (1 : Int32)) v15 v17 (v19 + v20) w).bind fun v22 =>
  if v22 = 0 then
  some (0 : Int32)
  else
  some (1 : Int32)

set_option maxHeartbeats 4000000 in
set_option maxRecDepth 100000 in
theorem rX12_isByIf (l : Launch) (D : va_G) (aC : Nat → ClassId) {h0 : Nat} {wB : kW} (hB : rOK h0 wB) {x1 : Int32} {x2 : Int32} {x3 : Int32} {w : rW} {oR : Int32} (h : fX12_isByIf x1 x2 x3 w = some oR) : kC l D aC yX12_isByIf cX12_isByIf 6 (some .boolean) 404 8875 [.ref h0, .int x1, .int x2, .int x3] (rWo h0 wB w) (some (.int oR)) (rWo h0 wB w) 0 0 := by
  refine kOf (own := RX12) (by decide) rfl (Nat.le_of_ble_eq_true rfl) ?_
  intro p e s m below meth c ls F hml hr hlocks hnm hX hZ hl
  obtain ⟨hx, hb, hts, hown, hK⟩ := id F
  have hl : lv_has ls 6 [(0, .ref h0), (1, .int x1), (2, .int x2), (3, .int x3)] := hl
  have hf := h
  rw [fX12_isByIf] at hf
  refine lv_iload_n hx hb (kd dtX12_isByIf_0 0 rfl) rfl (lv_at hl 3 rfl) ?_
  obtain ⟨v2, h1, hf⟩ := kbind hf
  refine kcallS (n := 1) [.int x3] [] [.int v2] (rX12_textOf l D aC (rWo h0 wB w) h1) F hml hX hZ hl.1 mwX12_textOf wmX12_86 (by decide +kernel) ⟨(by decide), (by decide)⟩ rfl rfl rfl (Nat.le_of_ble_eq_true rfl) (kd dtX12_isByIf_0 1 rfl) ⟨Nat.zero_le _, Nat.zero_le _⟩ (fun H locs hX => ?_)
  refine lv_istore (lv' := [(4, .int v2), (0, .ref h0), (1, .int x1), (2, .int x2), (3, .int x3)]) hx hb (kd dtX12_isByIf_0 2 rfl) hl (by decide) rfl (fun ls hl => ?_)
  refine lv_aload_n hx hb (kd dtX12_isByIf_0 3 rfl) rfl (lv_at hl 1 rfl) ?_
  refine lv_iload hx hb (kd dtX12_isByIf_0 4 rfl) (lv_at hl 0 rfl) ?_
  obtain ⟨v4, h3, hf⟩ := kbind hf
  refine kcallV (n := 1) [.int v2] [] [.int v4] (rX12_isIf l D aC hB h3) rfl hB.1 F hml hX hZ hl.1 mwX12_isIf wmX12_189 rfl (by decide) (by decide +kernel) ⟨(by decide), (by decide)⟩ rfl rfl rfl (Nat.le_of_ble_eq_true rfl) (kd dtX12_isByIf_0 5 rfl) ⟨Nat.zero_le _, Nat.zero_le _⟩ (fun H locs hX => ?_)
  refine lv_if_ne (tgt := 17) hx hb (kd dtX12_isByIf_0 6 rfl) (by decide) (fun hc => ?_) (fun hc => ?_)
  · have hf := kif_neg hc hf
    refine lv_aload_n hx hb (kd dtX12_isByIf_0 9 rfl) rfl (lv_at hl 1 rfl) ?_
    refine lv_iload hx hb (kd dtX12_isByIf_0 10 rfl) (lv_at hl 0 rfl) ?_
    refine lv_iconst (v := (1 : Int32)) hx hb (kd dtX12_isByIf_0 11 rfl) (by decide) ?_
    refine lv_iadd hx hb (kd dtX12_isByIf_0 12 rfl) ?_
    obtain ⟨v6, h5, hf⟩ := kbind hf
    refine kcallV (n := 1) [.int (v2 + (1 : Int32))] [] [.int v6] (rX12_end l D aC hB h5) rfl hB.1 F hml hX hZ hl.1 mwX12_end wmX12_75 rfl (by decide) (by decide +kernel) ⟨(by decide), (by decide)⟩ rfl rfl rfl (Nat.le_of_ble_eq_true rfl) (kd dtX12_isByIf_0 13 rfl) ⟨Nat.zero_le _, Nat.zero_le _⟩ (fun H locs hX => ?_)
    refine lv_istore (lv' := [(5, .int v6), (4, .int v2), (0, .ref h0), (1, .int x1), (2, .int x2), (3, .int x3)]) hx hb (kd dtX12_isByIf_0 14 rfl) hl (by decide) rfl (fun ls hl => ?_)
    refine lv_aload_n hx hb (kd dtX12_isByIf_0 15 rfl) rfl (lv_at hl 2 rfl) ?_
    refine lv_iload hx hb (kd dtX12_isByIf_0 16 rfl) (lv_at hl 1 rfl) ?_
    refine lv_iconst (v := (1 : Int32)) hx hb (kd dtX12_isByIf_0 17 rfl) (by decide) ?_
    refine lv_iadd hx hb (kd dtX12_isByIf_0 18 rfl) ?_
    refine lv_iload hx hb (kd dtX12_isByIf_0 19 rfl) (lv_at hl 0 rfl) ?_
    refine lv_iload_n hx hb (kd dtX12_isByIf_0 20 rfl) rfl (lv_at hl 4 rfl) ?_
    obtain ⟨v8, h7, hf⟩ := kbind hf
    refine kcallS (n := 1) [.int x2] [.int v6, .int (v2 + (1 : Int32)), .ref h0] [.int v8, .int v6, .int (v2 + (1 : Int32)), .ref h0] (rX12_textOf l D aC (rWo h0 wB w) h7) F hml hX hZ hl.1 mwX12_textOf wmX12_86 (by decide +kernel) ⟨(by decide), (by decide)⟩ rfl rfl rfl (Nat.le_of_ble_eq_true rfl) (kd dtX12_isByIf_0 21 rfl) ⟨Nat.zero_le _, Nat.zero_le _⟩ (fun H locs hX => ?_)
    refine lv_iload_n hx hb (kd dtX12_isByIf_0 22 rfl) rfl (lv_at hl 4 rfl) ?_
    obtain ⟨v10, h9, hf⟩ := kbind hf
    refine kcallS (n := 1) [.int x2] [.int v8, .int v6, .int (v2 + (1 : Int32)), .ref h0] [.int v10, .int v8, .int v6, .int (v2 + (1 : Int32)), .ref h0] (rX12_textOf l D aC (rWo h0 wB w) h9) F hml hX hZ hl.1 mwX12_textOf wmX12_86 (by decide +kernel) ⟨(by decide), (by decide)⟩ rfl rfl rfl (Nat.le_of_ble_eq_true rfl) (kd dtX12_isByIf_0 23 rfl) ⟨Nat.zero_le _, Nat.zero_le _⟩ (fun H locs hX => ?_)
    refine lv_aload_n hx hb (kd dtX12_isByIf_0 24 rfl) rfl (lv_at hl 2 rfl) ?_
    refine rgetA (n := 2) (j := 2) hB (by decide) rfl F hX wfX12_16 (by decide) rfl (kd dtX12_isByIf_0 25 rfl) ?_
    refine lv_iconst (v := (3 : Int32)) hx hb (kd dtX12_isByIf_0 26 rfl) (by decide) ?_
    refine lv_iload_n hx hb (kd dtX12_isByIf_0 27 rfl) rfl (lv_at hl 4 rfl) ?_
    refine lv_iadd hx hb (kd dtX12_isByIf_0 28 rfl) ?_
    obtain ⟨v11, hv11, hf⟩ := kbind hf
    refine rald hB (by decide) hv11 F hX (kd dtX12_isByIf_0 29 rfl) ?_
    refine lv_iadd hx hb (kd dtX12_isByIf_0 30 rfl) ?_
    obtain ⟨v13, h12, hf⟩ := kbind hf
    refine kcallV (n := 4) [.int (v2 + (1 : Int32)), .int v6, .int v8, .int (v10 + v11)] [] [.int v13] (rX12_same l D aC hB h12) rfl hB.1 F hml hX hZ hl.1 mwX12_same wmX12_151 rfl (by decide) (by decide +kernel) ⟨(by decide), (by decide)⟩ rfl rfl rfl (Nat.le_of_ble_eq_true rfl) (kd dtX12_isByIf_0 31 rfl) ⟨Nat.zero_le _, Nat.zero_le _⟩ (fun H locs hX => ?_)
    refine lv_if_eq (tgt := 97) hx hb (kd dtX12_isByIf_0 32 rfl) (by decide) (fun hc => ?_) (fun hc => ?_)
    · have hf := kif_pos hc hf
      refine lv_iconst (v := (0 : Int32)) hx hb (kd dtX12_isByIf_0 57 rfl) (by decide) ?_
      obtain rfl := Option.some.inj hf
      exact kzret F hX hr hlocks rfl rfl (kd dtX12_isByIf_0 58 rfl)
    · have hf := kif_neg hc hf
      refine lv_aload_n hx hb (kd dtX12_isByIf_0 33 rfl) rfl (lv_at hl 2 rfl) ?_
      refine lv_iload hx hb (kd dtX12_isByIf_0 34 rfl) (lv_at hl 0 rfl) ?_
      refine lv_iconst (v := (1 : Int32)) hx hb (kd dtX12_isByIf_0 35 rfl) (by decide) ?_
      refine lv_iadd hx hb (kd dtX12_isByIf_0 36 rfl) ?_
      refine lv_aload_n hx hb (kd dtX12_isByIf_0 37 rfl) rfl (lv_at hl 2 rfl) ?_
      refine lv_iload hx hb (kd dtX12_isByIf_0 38 rfl) (lv_at hl 0 rfl) ?_
      refine lv_iconst (v := (1 : Int32)) hx hb (kd dtX12_isByIf_0 39 rfl) (by decide) ?_
      refine lv_iadd hx hb (kd dtX12_isByIf_0 40 rfl) ?_
      obtain ⟨v15, h14, hf⟩ := kbind hf
      refine kcallV (n := 1) [.int (v6 + (1 : Int32))] [.int (v6 + (1 : Int32)), .ref h0] [.int v15, .int (v6 + (1 : Int32)), .ref h0] (rX12_end l D aC hB h14) rfl hB.1 F hml hX hZ hl.1 mwX12_end wmX12_75 rfl (by decide) (by decide +kernel) ⟨(by decide), (by decide)⟩ rfl rfl rfl (Nat.le_of_ble_eq_true rfl) (kd dtX12_isByIf_0 41 rfl) ⟨Nat.zero_le _, Nat.zero_le _⟩ (fun H locs hX => ?_)
      refine lv_iload_n hx hb (kd dtX12_isByIf_0 42 rfl) rfl (lv_at hl 3 rfl) ?_
      obtain ⟨v17, h16, hf⟩ := kbind hf
      refine kcallS (n := 1) [.int x1] [.int v15, .int (v6 + (1 : Int32)), .ref h0] [.int v17, .int v15, .int (v6 + (1 : Int32)), .ref h0] (rX12_textOf l D aC (rWo h0 wB w) h16) F hml hX hZ hl.1 mwX12_textOf wmX12_86 (by decide +kernel) ⟨(by decide), (by decide)⟩ rfl rfl rfl (Nat.le_of_ble_eq_true rfl) (kd dtX12_isByIf_0 43 rfl) ⟨Nat.zero_le _, Nat.zero_le _⟩ (fun H locs hX => ?_)
      refine lv_iload_n hx hb (kd dtX12_isByIf_0 44 rfl) rfl (lv_at hl 3 rfl) ?_
      obtain ⟨v19, h18, hf⟩ := kbind hf
      refine kcallS (n := 1) [.int x1] [.int v17, .int v15, .int (v6 + (1 : Int32)), .ref h0] [.int v19, .int v17, .int v15, .int (v6 + (1 : Int32)), .ref h0] (rX12_textOf l D aC (rWo h0 wB w) h18) F hml hX hZ hl.1 mwX12_textOf wmX12_86 (by decide +kernel) ⟨(by decide), (by decide)⟩ rfl rfl rfl (Nat.le_of_ble_eq_true rfl) (kd dtX12_isByIf_0 45 rfl) ⟨Nat.zero_le _, Nat.zero_le _⟩ (fun H locs hX => ?_)
      refine lv_aload_n hx hb (kd dtX12_isByIf_0 46 rfl) rfl (lv_at hl 2 rfl) ?_
      refine rgetA (n := 2) (j := 2) hB (by decide) rfl F hX wfX12_16 (by decide) rfl (kd dtX12_isByIf_0 47 rfl) ?_
      refine lv_iconst (v := (3 : Int32)) hx hb (kd dtX12_isByIf_0 48 rfl) (by decide) ?_
      refine lv_iload_n hx hb (kd dtX12_isByIf_0 49 rfl) rfl (lv_at hl 3 rfl) ?_
      refine lv_iadd hx hb (kd dtX12_isByIf_0 50 rfl) ?_
      obtain ⟨v20, hv20, hf⟩ := kbind hf
      refine rald hB (by decide) hv20 F hX (kd dtX12_isByIf_0 51 rfl) ?_
      refine lv_iadd hx hb (kd dtX12_isByIf_0 52 rfl) ?_
      obtain ⟨v22, h21, hf⟩ := kbind hf
      refine kcallV (n := 4) [.int (v6 + (1 : Int32)), .int v15, .int v17, .int (v19 + v20)] [] [.int v22] (rX12_same l D aC hB h21) rfl hB.1 F hml hX hZ hl.1 mwX12_same wmX12_151 rfl (by decide) (by decide +kernel) ⟨(by decide), (by decide)⟩ rfl rfl rfl (Nat.le_of_ble_eq_true rfl) (kd dtX12_isByIf_0 53 rfl) ⟨Nat.zero_le _, Nat.zero_le _⟩ (fun H locs hX => ?_)
      refine lv_if_eq (tgt := 97) hx hb (kd dtX12_isByIf_0 54 rfl) (by decide) (fun hc => ?_) (fun hc => ?_)
      · have hf := kif_pos hc hf
        refine lv_iconst (v := (0 : Int32)) hx hb (kd dtX12_isByIf_0 57 rfl) (by decide) ?_
        obtain rfl := Option.some.inj hf
        exact kzret F hX hr hlocks rfl rfl (kd dtX12_isByIf_0 58 rfl)
      · have hf := kif_neg hc hf
        refine lv_iconst (v := (1 : Int32)) hx hb (kd dtX12_isByIf_0 55 rfl) (by decide) ?_
        refine lv_goto (tgt := 98) hx hb (kd dtX12_isByIf_0 56 rfl) (by decide) ?_
        obtain rfl := Option.some.inj hf
        exact kzret F hX hr hlocks rfl rfl (kd dtX12_isByIf_0 58 rfl)
  · have hf := kif_pos hc hf
    refine lv_iconst (v := (0 : Int32)) hx hb (kd dtX12_isByIf_0 7 rfl) (by decide) ?_
    obtain rfl := Option.some.inj hf
    exact kzret F hX hr hlocks rfl rfl (kd dtX12_isByIf_0 8 rfl)
def lX12_isByTwo_0 : List (Nat × Instr × Nat) := [(0, .iload_n 2, 1), (1, .invokestatic 86, 3), (4, .istore 4, 2), (6, .iload_n 3, 1), (7, .invokestatic 86, 3), (10, .istore 5, 2), (12, .iload_n 1, 1), (13, .invokestatic 86, 3), (16, .istore 6, 2), (18, .aload_n 0, 1), (19, .iload 4, 2), (21, .invokevirtual 189, 3), (24, .ifCond .eq 21, 3), (27, .aload_n 0, 1), (28, .iload 5, 2), (30, .invokevirtual 189, 3), (33, .ifCond .eq 12, 3), (36, .aload_n 0, 1), (37, .iload 6, 2), (39, .invokevirtual 189, 3), (42, .ifCond .ne 5, 3), (45, .iconst 0, 1), (46, .ireturn, 1), (47, .aload_n 0, 1), (48, .iload 4, 2), (50, .iconst 1, 1), (51, .iadd, 1), (52, .invokevirtual 75, 3), (55, .istore 7, 2), (57, .aload_n 0, 1), (58, .iload 5, 2), (60, .iconst 1, 1), (61, .iadd, 1), (62, .invokevirtual 75, 3), (65, .istore 8, 2), (67, .aload_n 0, 1), (68, .iload 6, 2), (70, .iconst 1, 1), (71, .iadd, 1), (72, .invokevirtual 75, 3), (75, .istore 9, 2), (77, .aload_n 0, 1), (78, .iload 7, 2), (80, .iconst 1, 1), (81, .iadd, 1), (82, .aload_n 0, 1), (83, .iload 7, 2), (85, .iconst 1, 1), (86, .iadd, 1), (87, .invokevirtual 75, 3), (90, .iload 5, 2), (92, .iconst 1, 1), (93, .iadd, 1), (94, .iload 8, 2), (96, .invokevirtual 151, 3), (99, .ifCond .eq 57, 3), (102, .aload_n 0, 1), (103, .iload 4, 2), (105, .iconst 1, 1), (106, .iadd, 1), (107, .iload 7, 2), (109, .iload 6, 2), (111, .iconst 1, 1), (112, .iadd, 1), (113, .iload 9, 2), (115, .invokevirtual 151, 3), (118, .ifCond .eq 38, 3), (121, .aload_n 0, 1), (122, .iload 8, 2), (124, .iconst 1, 1), (125, .iadd, 1), (126, .aload_n 0, 1), (127, .iload 8, 2), (129, .iconst 1, 1), (130, .iadd, 1), (131, .invokevirtual 75, 3), (134, .iload 9, 2), (136, .iconst 1, 1), (137, .iadd, 1), (138, .aload_n 0, 1)]
theorem dtX12_isByTwo_0 : kDec cX12_isByTwo lX12_isByTwo_0 = true := by decide +kernel
def lX12_isByTwo_1 : List (Nat × Instr × Nat) := [(139, .iload 9, 2), (141, .iconst 1, 1), (142, .iadd, 1), (143, .invokevirtual 75, 3), (146, .invokevirtual 151, 3), (149, .ifCond .eq 7, 3), (152, .iconst 1, 1), (153, .goto 4, 3), (156, .iconst 0, 1), (157, .ireturn, 1)]
theorem dtX12_isByTwo_1 : kDec cX12_isByTwo lX12_isByTwo_1 = true := by decide +kernel
noncomputable def fX12_isByTwo (x1 : Int32) (x2 : Int32) (x3 : Int32) (w : rW) : Option Int32 :=
  (fX12_textOf x2).bind fun v2 =>
  (fX12_textOf x3).bind fun v4 =>
  (fX12_textOf x1).bind fun v6 =>
  (fX12_isIf v2 w).bind fun v8 =>
  if v8 = 0 then
  some (0 : Int32)
  else
  (fX12_isIf v4 w).bind fun v10 =>
  if v10 = 0 then
  some (0 : Int32)
  else
  (fX12_isIf v6 w).bind fun v12 =>
  if v12 = 0 then
  some (0 : Int32)
  else
  (fX12_end kDP (v2 + (1 : Int32)) w).bind fun v14 =>
  (fX12_end kDP (v4 + (1 : Int32)) w).bind fun v16 =>
  (fX12_end kDP (v6 + (1 : Int32)) w).bind fun v18 =>
  (fX12_end kDP (v14 + (1 : Int32)) w).bind fun v20 =>
  (fX12_same (v14 + (1 : Int32)) v20 (v4 + (1 : Int32)) v16 w).bind fun v22 =>
  if v22 = 0 then
  some (0 : Int32)
  else
  (fX12_same (v2 + (1 : Int32)) v14 (v6 + (1 : Int32)) v18 w).bind fun v24 =>
  if v24 = 0 then
  some (0 : Int32)
  else
  (fX12_end kDP (v16 + (1 : Int32)) w).bind fun v26 =>
  (fX12_end kDP (v18 + (1 : Int32)) w).bind fun v28 =>
  (fX12_same (v16 + (1 : Int32)) v26 (v18 + (1 : Int32)) v28 w).bind fun v30 =>
  if v30 = 0 then
  some (0 : Int32)
  else
  some (1 : Int32)

set_option maxHeartbeats 4000000 in
set_option maxRecDepth 100000 in
theorem rX12_isByTwo (l : Launch) (D : va_G) (aC : Nat → ClassId) {h0 : Nat} {wB : kW} (hB : rOK h0 wB) {x1 : Int32} {x2 : Int32} {x3 : Int32} {w : rW} {oR : Int32} (h : fX12_isByTwo x1 x2 x3 w = some oR) : kC l D aC yX12_isByTwo cX12_isByTwo 10 (some .boolean) 404 8875 [.ref h0, .int x1, .int x2, .int x3] (rWo h0 wB w) (some (.int oR)) (rWo h0 wB w) 0 0 := by
  refine kOf (own := RX12) (by decide) rfl (Nat.le_of_ble_eq_true rfl) ?_
  intro p e s m below meth c ls F hml hr hlocks hnm hX hZ hl
  obtain ⟨hx, hb, hts, hown, hK⟩ := id F
  have hl : lv_has ls 10 [(0, .ref h0), (1, .int x1), (2, .int x2), (3, .int x3)] := hl
  have hf := h
  rw [fX12_isByTwo] at hf
  refine lv_iload_n hx hb (kd dtX12_isByTwo_0 0 rfl) rfl (lv_at hl 2 rfl) ?_
  obtain ⟨v2, h1, hf⟩ := kbind hf
  refine kcallS (n := 1) [.int x2] [] [.int v2] (rX12_textOf l D aC (rWo h0 wB w) h1) F hml hX hZ hl.1 mwX12_textOf wmX12_86 (by decide +kernel) ⟨(by decide), (by decide)⟩ rfl rfl rfl (Nat.le_of_ble_eq_true rfl) (kd dtX12_isByTwo_0 1 rfl) ⟨Nat.zero_le _, Nat.zero_le _⟩ (fun H locs hX => ?_)
  refine lv_istore (lv' := [(4, .int v2), (0, .ref h0), (1, .int x1), (2, .int x2), (3, .int x3)]) hx hb (kd dtX12_isByTwo_0 2 rfl) hl (by decide) rfl (fun ls hl => ?_)
  refine lv_iload_n hx hb (kd dtX12_isByTwo_0 3 rfl) rfl (lv_at hl 4 rfl) ?_
  obtain ⟨v4, h3, hf⟩ := kbind hf
  refine kcallS (n := 1) [.int x3] [] [.int v4] (rX12_textOf l D aC (rWo h0 wB w) h3) F hml hX hZ hl.1 mwX12_textOf wmX12_86 (by decide +kernel) ⟨(by decide), (by decide)⟩ rfl rfl rfl (Nat.le_of_ble_eq_true rfl) (kd dtX12_isByTwo_0 4 rfl) ⟨Nat.zero_le _, Nat.zero_le _⟩ (fun H locs hX => ?_)
  refine lv_istore (lv' := [(5, .int v4), (4, .int v2), (0, .ref h0), (1, .int x1), (2, .int x2), (3, .int x3)]) hx hb (kd dtX12_isByTwo_0 5 rfl) hl (by decide) rfl (fun ls hl => ?_)
  refine lv_iload_n hx hb (kd dtX12_isByTwo_0 6 rfl) rfl (lv_at hl 3 rfl) ?_
  obtain ⟨v6, h5, hf⟩ := kbind hf
  refine kcallS (n := 1) [.int x1] [] [.int v6] (rX12_textOf l D aC (rWo h0 wB w) h5) F hml hX hZ hl.1 mwX12_textOf wmX12_86 (by decide +kernel) ⟨(by decide), (by decide)⟩ rfl rfl rfl (Nat.le_of_ble_eq_true rfl) (kd dtX12_isByTwo_0 7 rfl) ⟨Nat.zero_le _, Nat.zero_le _⟩ (fun H locs hX => ?_)
  refine lv_istore (lv' := [(6, .int v6), (5, .int v4), (4, .int v2), (0, .ref h0), (1, .int x1), (2, .int x2), (3, .int x3)]) hx hb (kd dtX12_isByTwo_0 8 rfl) hl (by decide) rfl (fun ls hl => ?_)
  refine lv_aload_n hx hb (kd dtX12_isByTwo_0 9 rfl) rfl (lv_at hl 3 rfl) ?_
  refine lv_iload hx hb (kd dtX12_isByTwo_0 10 rfl) (lv_at hl 2 rfl) ?_
  obtain ⟨v8, h7, hf⟩ := kbind hf
  refine kcallV (n := 1) [.int v2] [] [.int v8] (rX12_isIf l D aC hB h7) rfl hB.1 F hml hX hZ hl.1 mwX12_isIf wmX12_189 rfl (by decide) (by decide +kernel) ⟨(by decide), (by decide)⟩ rfl rfl rfl (Nat.le_of_ble_eq_true rfl) (kd dtX12_isByTwo_0 11 rfl) ⟨Nat.zero_le _, Nat.zero_le _⟩ (fun H locs hX => ?_)
  refine lv_if_eq (tgt := 45) hx hb (kd dtX12_isByTwo_0 12 rfl) (by decide) (fun hc => ?_) (fun hc => ?_)
  · have hf := kif_pos hc hf
    refine lv_iconst (v := (0 : Int32)) hx hb (kd dtX12_isByTwo_0 21 rfl) (by decide) ?_
    obtain rfl := Option.some.inj hf
    exact kzret F hX hr hlocks rfl rfl (kd dtX12_isByTwo_0 22 rfl)
  · have hf := kif_neg hc hf
    refine lv_aload_n hx hb (kd dtX12_isByTwo_0 13 rfl) rfl (lv_at hl 3 rfl) ?_
    refine lv_iload hx hb (kd dtX12_isByTwo_0 14 rfl) (lv_at hl 1 rfl) ?_
    obtain ⟨v10, h9, hf⟩ := kbind hf
    refine kcallV (n := 1) [.int v4] [] [.int v10] (rX12_isIf l D aC hB h9) rfl hB.1 F hml hX hZ hl.1 mwX12_isIf wmX12_189 rfl (by decide) (by decide +kernel) ⟨(by decide), (by decide)⟩ rfl rfl rfl (Nat.le_of_ble_eq_true rfl) (kd dtX12_isByTwo_0 15 rfl) ⟨Nat.zero_le _, Nat.zero_le _⟩ (fun H locs hX => ?_)
    refine lv_if_eq (tgt := 45) hx hb (kd dtX12_isByTwo_0 16 rfl) (by decide) (fun hc => ?_) (fun hc => ?_)
    · have hf := kif_pos hc hf
      refine lv_iconst (v := (0 : Int32)) hx hb (kd dtX12_isByTwo_0 21 rfl) (by decide) ?_
      obtain rfl := Option.some.inj hf
      exact kzret F hX hr hlocks rfl rfl (kd dtX12_isByTwo_0 22 rfl)
    · have hf := kif_neg hc hf
      refine lv_aload_n hx hb (kd dtX12_isByTwo_0 17 rfl) rfl (lv_at hl 3 rfl) ?_
      refine lv_iload hx hb (kd dtX12_isByTwo_0 18 rfl) (lv_at hl 0 rfl) ?_
      obtain ⟨v12, h11, hf⟩ := kbind hf
      refine kcallV (n := 1) [.int v6] [] [.int v12] (rX12_isIf l D aC hB h11) rfl hB.1 F hml hX hZ hl.1 mwX12_isIf wmX12_189 rfl (by decide) (by decide +kernel) ⟨(by decide), (by decide)⟩ rfl rfl rfl (Nat.le_of_ble_eq_true rfl) (kd dtX12_isByTwo_0 19 rfl) ⟨Nat.zero_le _, Nat.zero_le _⟩ (fun H locs hX => ?_)
      refine lv_if_ne (tgt := 47) hx hb (kd dtX12_isByTwo_0 20 rfl) (by decide) (fun hc => ?_) (fun hc => ?_)
      · have hf := kif_neg hc hf
        refine lv_aload_n hx hb (kd dtX12_isByTwo_0 23 rfl) rfl (lv_at hl 3 rfl) ?_
        refine lv_iload hx hb (kd dtX12_isByTwo_0 24 rfl) (lv_at hl 2 rfl) ?_
        refine lv_iconst (v := (1 : Int32)) hx hb (kd dtX12_isByTwo_0 25 rfl) (by decide) ?_
        refine lv_iadd hx hb (kd dtX12_isByTwo_0 26 rfl) ?_
        obtain ⟨v14, h13, hf⟩ := kbind hf
        refine kcallV (n := 1) [.int (v2 + (1 : Int32))] [] [.int v14] (rX12_end l D aC hB h13) rfl hB.1 F hml hX hZ hl.1 mwX12_end wmX12_75 rfl (by decide) (by decide +kernel) ⟨(by decide), (by decide)⟩ rfl rfl rfl (Nat.le_of_ble_eq_true rfl) (kd dtX12_isByTwo_0 27 rfl) ⟨Nat.zero_le _, Nat.zero_le _⟩ (fun H locs hX => ?_)
        refine lv_istore (lv' := [(7, .int v14), (6, .int v6), (5, .int v4), (4, .int v2), (0, .ref h0), (1, .int x1), (2, .int x2), (3, .int x3)]) hx hb (kd dtX12_isByTwo_0 28 rfl) hl (by decide) rfl (fun ls hl => ?_)
        refine lv_aload_n hx hb (kd dtX12_isByTwo_0 29 rfl) rfl (lv_at hl 4 rfl) ?_
        refine lv_iload hx hb (kd dtX12_isByTwo_0 30 rfl) (lv_at hl 2 rfl) ?_
        refine lv_iconst (v := (1 : Int32)) hx hb (kd dtX12_isByTwo_0 31 rfl) (by decide) ?_
        refine lv_iadd hx hb (kd dtX12_isByTwo_0 32 rfl) ?_
        obtain ⟨v16, h15, hf⟩ := kbind hf
        refine kcallV (n := 1) [.int (v4 + (1 : Int32))] [] [.int v16] (rX12_end l D aC hB h15) rfl hB.1 F hml hX hZ hl.1 mwX12_end wmX12_75 rfl (by decide) (by decide +kernel) ⟨(by decide), (by decide)⟩ rfl rfl rfl (Nat.le_of_ble_eq_true rfl) (kd dtX12_isByTwo_0 33 rfl) ⟨Nat.zero_le _, Nat.zero_le _⟩ (fun H locs hX => ?_)
        refine lv_istore (lv' := [(8, .int v16), (7, .int v14), (6, .int v6), (5, .int v4), (4, .int v2), (0, .ref h0), (1, .int x1), (2, .int x2), (3, .int x3)]) hx hb (kd dtX12_isByTwo_0 34 rfl) hl (by decide) rfl (fun ls hl => ?_)
        refine lv_aload_n hx hb (kd dtX12_isByTwo_0 35 rfl) rfl (lv_at hl 5 rfl) ?_
        refine lv_iload hx hb (kd dtX12_isByTwo_0 36 rfl) (lv_at hl 2 rfl) ?_
        refine lv_iconst (v := (1 : Int32)) hx hb (kd dtX12_isByTwo_0 37 rfl) (by decide) ?_
        refine lv_iadd hx hb (kd dtX12_isByTwo_0 38 rfl) ?_
        obtain ⟨v18, h17, hf⟩ := kbind hf
        refine kcallV (n := 1) [.int (v6 + (1 : Int32))] [] [.int v18] (rX12_end l D aC hB h17) rfl hB.1 F hml hX hZ hl.1 mwX12_end wmX12_75 rfl (by decide) (by decide +kernel) ⟨(by decide), (by decide)⟩ rfl rfl rfl (Nat.le_of_ble_eq_true rfl) (kd dtX12_isByTwo_0 39 rfl) ⟨Nat.zero_le _, Nat.zero_le _⟩ (fun H locs hX => ?_)
        refine lv_istore (lv' := [(9, .int v18), (8, .int v16), (7, .int v14), (6, .int v6), (5, .int v4), (4, .int v2), (0, .ref h0), (1, .int x1), (2, .int x2), (3, .int x3)]) hx hb (kd dtX12_isByTwo_0 40 rfl) hl (by decide) rfl (fun ls hl => ?_)
        refine lv_aload_n hx hb (kd dtX12_isByTwo_0 41 rfl) rfl (lv_at hl 6 rfl) ?_
        refine lv_iload hx hb (kd dtX12_isByTwo_0 42 rfl) (lv_at hl 2 rfl) ?_
        refine lv_iconst (v := (1 : Int32)) hx hb (kd dtX12_isByTwo_0 43 rfl) (by decide) ?_
        refine lv_iadd hx hb (kd dtX12_isByTwo_0 44 rfl) ?_
        refine lv_aload_n hx hb (kd dtX12_isByTwo_0 45 rfl) rfl (lv_at hl 6 rfl) ?_
        refine lv_iload hx hb (kd dtX12_isByTwo_0 46 rfl) (lv_at hl 2 rfl) ?_
        refine lv_iconst (v := (1 : Int32)) hx hb (kd dtX12_isByTwo_0 47 rfl) (by decide) ?_
        refine lv_iadd hx hb (kd dtX12_isByTwo_0 48 rfl) ?_
        obtain ⟨v20, h19, hf⟩ := kbind hf
        refine kcallV (n := 1) [.int (v14 + (1 : Int32))] [.int (v14 + (1 : Int32)), .ref h0] [.int v20, .int (v14 + (1 : Int32)), .ref h0] (rX12_end l D aC hB h19) rfl hB.1 F hml hX hZ hl.1 mwX12_end wmX12_75 rfl (by decide) (by decide +kernel) ⟨(by decide), (by decide)⟩ rfl rfl rfl (Nat.le_of_ble_eq_true rfl) (kd dtX12_isByTwo_0 49 rfl) ⟨Nat.zero_le _, Nat.zero_le _⟩ (fun H locs hX => ?_)
        refine lv_iload hx hb (kd dtX12_isByTwo_0 50 rfl) (lv_at hl 4 rfl) ?_
        refine lv_iconst (v := (1 : Int32)) hx hb (kd dtX12_isByTwo_0 51 rfl) (by decide) ?_
        refine lv_iadd hx hb (kd dtX12_isByTwo_0 52 rfl) ?_
        refine lv_iload hx hb (kd dtX12_isByTwo_0 53 rfl) (lv_at hl 1 rfl) ?_
        obtain ⟨v22, h21, hf⟩ := kbind hf
        refine kcallV (n := 4) [.int (v14 + (1 : Int32)), .int v20, .int (v4 + (1 : Int32)), .int v16] [] [.int v22] (rX12_same l D aC hB h21) rfl hB.1 F hml hX hZ hl.1 mwX12_same wmX12_151 rfl (by decide) (by decide +kernel) ⟨(by decide), (by decide)⟩ rfl rfl rfl (Nat.le_of_ble_eq_true rfl) (kd dtX12_isByTwo_0 54 rfl) ⟨Nat.zero_le _, Nat.zero_le _⟩ (fun H locs hX => ?_)
        refine lv_if_eq (tgt := 156) hx hb (kd dtX12_isByTwo_0 55 rfl) (by decide) (fun hc => ?_) (fun hc => ?_)
        · have hf := kif_pos hc hf
          refine lv_iconst (v := (0 : Int32)) hx hb (kd dtX12_isByTwo_1 8 rfl) (by decide) ?_
          obtain rfl := Option.some.inj hf
          exact kzret F hX hr hlocks rfl rfl (kd dtX12_isByTwo_1 9 rfl)
        · have hf := kif_neg hc hf
          refine lv_aload_n hx hb (kd dtX12_isByTwo_0 56 rfl) rfl (lv_at hl 6 rfl) ?_
          refine lv_iload hx hb (kd dtX12_isByTwo_0 57 rfl) (lv_at hl 5 rfl) ?_
          refine lv_iconst (v := (1 : Int32)) hx hb (kd dtX12_isByTwo_0 58 rfl) (by decide) ?_
          refine lv_iadd hx hb (kd dtX12_isByTwo_0 59 rfl) ?_
          refine lv_iload hx hb (kd dtX12_isByTwo_0 60 rfl) (lv_at hl 2 rfl) ?_
          refine lv_iload hx hb (kd dtX12_isByTwo_0 61 rfl) (lv_at hl 3 rfl) ?_
          refine lv_iconst (v := (1 : Int32)) hx hb (kd dtX12_isByTwo_0 62 rfl) (by decide) ?_
          refine lv_iadd hx hb (kd dtX12_isByTwo_0 63 rfl) ?_
          refine lv_iload hx hb (kd dtX12_isByTwo_0 64 rfl) (lv_at hl 0 rfl) ?_
          obtain ⟨v24, h23, hf⟩ := kbind hf
          refine kcallV (n := 4) [.int (v2 + (1 : Int32)), .int v14, .int (v6 + (1 : Int32)), .int v18] [] [.int v24] (rX12_same l D aC hB h23) rfl hB.1 F hml hX hZ hl.1 mwX12_same wmX12_151 rfl (by decide) (by decide +kernel) ⟨(by decide), (by decide)⟩ rfl rfl rfl (Nat.le_of_ble_eq_true rfl) (kd dtX12_isByTwo_0 65 rfl) ⟨Nat.zero_le _, Nat.zero_le _⟩ (fun H locs hX => ?_)
          refine lv_if_eq (tgt := 156) hx hb (kd dtX12_isByTwo_0 66 rfl) (by decide) (fun hc => ?_) (fun hc => ?_)
          · have hf := kif_pos hc hf
            refine lv_iconst (v := (0 : Int32)) hx hb (kd dtX12_isByTwo_1 8 rfl) (by decide) ?_
            obtain rfl := Option.some.inj hf
            exact kzret F hX hr hlocks rfl rfl (kd dtX12_isByTwo_1 9 rfl)
          · have hf := kif_neg hc hf
            refine lv_aload_n hx hb (kd dtX12_isByTwo_0 67 rfl) rfl (lv_at hl 6 rfl) ?_
            refine lv_iload hx hb (kd dtX12_isByTwo_0 68 rfl) (lv_at hl 1 rfl) ?_
            refine lv_iconst (v := (1 : Int32)) hx hb (kd dtX12_isByTwo_0 69 rfl) (by decide) ?_
            refine lv_iadd hx hb (kd dtX12_isByTwo_0 70 rfl) ?_
            refine lv_aload_n hx hb (kd dtX12_isByTwo_0 71 rfl) rfl (lv_at hl 6 rfl) ?_
            refine lv_iload hx hb (kd dtX12_isByTwo_0 72 rfl) (lv_at hl 1 rfl) ?_
            refine lv_iconst (v := (1 : Int32)) hx hb (kd dtX12_isByTwo_0 73 rfl) (by decide) ?_
            refine lv_iadd hx hb (kd dtX12_isByTwo_0 74 rfl) ?_
            obtain ⟨v26, h25, hf⟩ := kbind hf
            refine kcallV (n := 1) [.int (v16 + (1 : Int32))] [.int (v16 + (1 : Int32)), .ref h0] [.int v26, .int (v16 + (1 : Int32)), .ref h0] (rX12_end l D aC hB h25) rfl hB.1 F hml hX hZ hl.1 mwX12_end wmX12_75 rfl (by decide) (by decide +kernel) ⟨(by decide), (by decide)⟩ rfl rfl rfl (Nat.le_of_ble_eq_true rfl) (kd dtX12_isByTwo_0 75 rfl) ⟨Nat.zero_le _, Nat.zero_le _⟩ (fun H locs hX => ?_)
            refine lv_iload hx hb (kd dtX12_isByTwo_0 76 rfl) (lv_at hl 0 rfl) ?_
            refine lv_iconst (v := (1 : Int32)) hx hb (kd dtX12_isByTwo_0 77 rfl) (by decide) ?_
            refine lv_iadd hx hb (kd dtX12_isByTwo_0 78 rfl) ?_
            refine lv_aload_n hx hb (kd dtX12_isByTwo_0 79 rfl) rfl (lv_at hl 6 rfl) ?_
            refine lv_iload hx hb (kd dtX12_isByTwo_1 0 rfl) (lv_at hl 0 rfl) ?_
            refine lv_iconst (v := (1 : Int32)) hx hb (kd dtX12_isByTwo_1 1 rfl) (by decide) ?_
            refine lv_iadd hx hb (kd dtX12_isByTwo_1 2 rfl) ?_
            obtain ⟨v28, h27, hf⟩ := kbind hf
            refine kcallV (n := 1) [.int (v18 + (1 : Int32))] [.int (v18 + (1 : Int32)), .int v26, .int (v16 + (1 : Int32)), .ref h0] [.int v28, .int (v18 + (1 : Int32)), .int v26, .int (v16 + (1 : Int32)), .ref h0] (rX12_end l D aC hB h27) rfl hB.1 F hml hX hZ hl.1 mwX12_end wmX12_75 rfl (by decide) (by decide +kernel) ⟨(by decide), (by decide)⟩ rfl rfl rfl (Nat.le_of_ble_eq_true rfl) (kd dtX12_isByTwo_1 3 rfl) ⟨Nat.zero_le _, Nat.zero_le _⟩ (fun H locs hX => ?_)
            obtain ⟨v30, h29, hf⟩ := kbind hf
            refine kcallV (n := 4) [.int (v16 + (1 : Int32)), .int v26, .int (v18 + (1 : Int32)), .int v28] [] [.int v30] (rX12_same l D aC hB h29) rfl hB.1 F hml hX hZ hl.1 mwX12_same wmX12_151 rfl (by decide) (by decide +kernel) ⟨(by decide), (by decide)⟩ rfl rfl rfl (Nat.le_of_ble_eq_true rfl) (kd dtX12_isByTwo_1 4 rfl) ⟨Nat.zero_le _, Nat.zero_le _⟩ (fun H locs hX => ?_)
            refine lv_if_eq (tgt := 156) hx hb (kd dtX12_isByTwo_1 5 rfl) (by decide) (fun hc => ?_) (fun hc => ?_)
            · have hf := kif_pos hc hf
              refine lv_iconst (v := (0 : Int32)) hx hb (kd dtX12_isByTwo_1 8 rfl) (by decide) ?_
              obtain rfl := Option.some.inj hf
              exact kzret F hX hr hlocks rfl rfl (kd dtX12_isByTwo_1 9 rfl)
            · have hf := kif_neg hc hf
              refine lv_iconst (v := (1 : Int32)) hx hb (kd dtX12_isByTwo_1 6 rfl) (by decide) ?_
              refine lv_goto (tgt := 157) hx hb (kd dtX12_isByTwo_1 7 rfl) (by decide) ?_
              obtain rfl := Option.some.inj hf
              exact kzret F hX hr hlocks rfl rfl (kd dtX12_isByTwo_1 9 rfl)
      · have hf := kif_pos hc hf
        refine lv_iconst (v := (0 : Int32)) hx hb (kd dtX12_isByTwo_0 21 rfl) (by decide) ?_
        obtain rfl := Option.some.inj hf
        exact kzret F hX hr hlocks rfl rfl (kd dtX12_isByTwo_0 22 rfl)
def lX12_isByChange_0 : List (Nat × Instr × Nat) := [(0, .iload_n 2, 1), (1, .invokestatic 86, 3), (4, .istore_n 3, 1), (5, .iload_n 3, 1), (6, .aload_n 0, 1), (7, .getfield 16, 3), (10, .iconst 3, 1), (11, .iload_n 2, 1), (12, .iadd, 1), (13, .iaload, 1), (14, .iadd, 1), (15, .istore 4, 2), (17, .iload_n 3, 1), (18, .istore 5, 2), (20, .iload 5, 2), (22, .iload 4, 2), (24, .if_icmp .ge 192, 3), (27, .aload_n 0, 1), (28, .getfield 9, 3), (31, .iload 5, 2), (33, .iaload, 1), (34, .bipush 40, 2), (36, .if_icmp .eq 6, 3), (39, .goto 171, 3), (42, .aload_n 0, 1), (43, .iload 5, 2), (45, .iconst 1, 1), (46, .iadd, 1), (47, .invokevirtual 75, 3), (50, .istore 6, 2), (52, .aload_n 0, 1), (53, .iload_n 3, 1), (54, .iload 5, 2), (56, .sipush 8000, 3), (59, .invokevirtual 173, 3), (62, .istore 7, 2), (64, .aload_n 0, 1), (65, .getfield 9, 3), (68, .iload 7, 2), (70, .bipush 40, 2), (72, .iastore, 1), (73, .aload_n 0, 1), (74, .getfield 9, 3), (77, .iload 6, 2), (79, .iaload, 1), (80, .bipush 62, 2), (82, .if_icmp .ne 42, 3), (85, .aload_n 0, 1), (86, .getfield 9, 3), (89, .iload 7, 2), (91, .iconst 1, 1), (92, .iadd, 1), (93, .bipush 126, 2), (95, .iastore, 1), (96, .aload_n 0, 1), (97, .iload 5, 2), (99, .iconst 1, 1), (100, .iadd, 1), (101, .iload 6, 2), (103, .iload 7, 2), (105, .iconst 2, 1), (106, .iadd, 1), (107, .invokevirtual 173, 3), (110, .istore 7, 2), (112, .aload_n 0, 1), (113, .getfield 9, 3), (116, .iload 7, 2), (118, .bipush 118, 2), (120, .iastore, 1), (121, .goto 42, 3), (124, .aload_n 0, 1), (125, .getfield 9, 3), (128, .iload 5, 2), (130, .iconst 1, 1), (131, .iadd, 1), (132, .iaload, 1), (133, .bipush 126, 2), (135, .if_icmp .ne 75, 3), (138, .aload_n 0, 1), (139, .iload 5, 2)]
theorem dtX12_isByChange_0 : kDec cX12_isByChange lX12_isByChange_0 = true := by decide +kernel
def lX12_isByChange_1 : List (Nat × Instr × Nat) := [(141, .iconst 2, 1), (142, .iadd, 1), (143, .iload 6, 2), (145, .iload 7, 2), (147, .iconst 1, 1), (148, .iadd, 1), (149, .invokevirtual 173, 3), (152, .istore 7, 2), (154, .aload_n 0, 1), (155, .getfield 9, 3), (158, .iload 7, 2), (160, .bipush 62, 2), (162, .iastore, 1), (163, .aload_n 0, 1), (164, .iload 6, 2), (166, .iconst 1, 1), (167, .iadd, 1), (168, .iload 4, 2), (170, .iload 7, 2), (172, .iconst 1, 1), (173, .iadd, 1), (174, .invokevirtual 173, 3), (177, .istore 7, 2), (179, .aload_n 0, 1), (180, .sipush 8000, 3), (183, .iload 7, 2), (185, .iload_n 1, 1), (186, .invokestatic 86, 3), (189, .iload_n 1, 1), (190, .invokestatic 86, 3), (193, .aload_n 0, 1), (194, .getfield 16, 3), (197, .iconst 3, 1), (198, .iload_n 1, 1), (199, .iadd, 1), (200, .iaload, 1), (201, .iadd, 1), (202, .invokevirtual 151, 3), (205, .ifCond .eq 5, 3), (208, .iconst 1, 1), (209, .ireturn, 1), (210, .iinc 5 1, 3), (213, .goto (-193), 3), (216, .iconst 0, 1), (217, .ireturn, 1)]
theorem dtX12_isByChange_1 : kDec cX12_isByChange lX12_isByChange_1 = true := by decide +kernel
noncomputable def fX12_isByChange_J20_163 (b k : Int32 → rW → Option (Int32 × rW)) (x1 : Int32) (x2 : Int32) (x3 : Int32) (x4 : Int32) (x5 : Int32) (x6 : Int32) (x7 : Int32) (w : rW) : Option (Int32 × rW) :=
  kb2 (fX12_copies (x6 + (1 : Int32)) x4 (x7 + (1 : Int32)) w) fun v3 w1 =>
  (fX12_textOf x1).bind fun v5 =>
  (fX12_textOf x1).bind fun v7 =>
  (raI w1 2 1000 ((3 : Int32) + x1)).bind fun v8 =>
  (fX12_same (8000 : Int32) v3 v5 (v7 + v8) w1).bind fun v10 =>
  if v10 = 0 then
  b (x5 + (1 : Int32)) w1
  else
  some ((1 : Int32), w1)

noncomputable def fX12_isByChange_L20 (x1 : Int32) (x2 : Int32) (x3 : Int32) (x4 : Int32) : Nat → (Int32 → rW → Option (Int32 × rW)) → Int32 → rW → Option (Int32 × rW)
  | 0, _, _, _ => none
  | n + 1, k, x5, w =>
  if x4 ≤ x5 then
  k x5 w
  else
  (raI w 0 10000 x5).bind fun v1 =>
  if v1 = (40 : Int32) then
  (fX12_end kDP (x5 + (1 : Int32)) w).bind fun v3 =>
  kb2 (fX12_copies x3 x5 (8000 : Int32) w) fun v6 w4 =>
  (rsI w4 0 10000 v6 (40 : Int32)).bind fun w7 =>
  (raI w7 0 10000 v3).bind fun v8 =>
  if v8 = (62 : Int32) then
  (rsI w7 0 10000 (v6 + (1 : Int32)) (126 : Int32)).bind fun w14 =>
  kb2 (fX12_copies (x5 + (1 : Int32)) v3 (v6 + (2 : Int32)) w14) fun v17 w15 =>
  (rsI w15 0 10000 v17 (118 : Int32)).bind fun w18 =>
  fX12_isByChange_J20_163 (fun q5 qw => fX12_isByChange_L20 x1 x2 x3 x4 n k q5 qw) k x1 x2 x3 x4 x5 v3 v17 w18
  else
  (raI w7 0 10000 (x5 + (1 : Int32))).bind fun v9 =>
  if v9 = (126 : Int32) then
  kb2 (fX12_copies (x5 + (2 : Int32)) v3 (v6 + (1 : Int32)) w7) fun v12 w10 =>
  (rsI w10 0 10000 v12 (62 : Int32)).bind fun w13 =>
  fX12_isByChange_J20_163 (fun q5 qw => fX12_isByChange_L20 x1 x2 x3 x4 n k q5 qw) k x1 x2 x3 x4 x5 v3 v12 w13
  else
  fX12_isByChange_L20 x1 x2 x3 x4 n k (x5 + (1 : Int32)) w7
  else
  fX12_isByChange_L20 x1 x2 x3 x4 n k (x5 + (1 : Int32)) w

noncomputable def fX12_isByChange (x1 : Int32) (x2 : Int32) (w : rW) : Option (Int32 × rW) :=
  (fX12_textOf x2).bind fun v2 =>
  (raI w 2 1000 ((3 : Int32) + x2)).bind fun v3 =>
  fX12_isByChange_L20 x1 x2 v2 (v2 + v3) kFU (fun y5_4 w5 => some ((0 : Int32), w5)) v2 w

set_option maxHeartbeats 4000000 in
set_option maxRecDepth 100000 in
theorem rX12_isByChange (l : Launch) (D : va_G) (aC : Nat → ClassId) {h0 : Nat} {wB : kW} (hB : rOK h0 wB) {x1 : Int32} {x2 : Int32} {w : rW} {wR : rW} {oR : Int32} (h : fX12_isByChange x1 x2 w = some (oR, wR)) : kC l D aC yX12_isByChange cX12_isByChange 8 (some .boolean) 403 8854 [.ref h0, .int x1, .int x2] (rWo h0 wB w) (some (.int oR)) (rWo h0 wB wR) 0 0 := by
  refine kOf (own := RX12) (by decide) rfl (Nat.le_of_ble_eq_true rfl) ?_
  intro p e s m below meth c ls F hml hr hlocks hnm hX hZ hl
  obtain ⟨hx, hb, hts, hown, hK⟩ := id F
  have hl : lv_has ls 8 [(0, .ref h0), (1, .int x1), (2, .int x2)] := hl
  have hf := h
  rw [fX12_isByChange] at hf
  refine lv_iload_n hx hb (kd dtX12_isByChange_0 0 rfl) rfl (lv_at hl 2 rfl) ?_
  obtain ⟨v2, h1, hf⟩ := kbind hf
  refine kcallS (n := 1) [.int x2] [] [.int v2] (rX12_textOf l D aC (rWo h0 wB w) h1) F hml hX hZ hl.1 mwX12_textOf wmX12_86 (by decide +kernel) ⟨(by decide), (by decide)⟩ rfl rfl rfl (Nat.le_of_ble_eq_true rfl) (kd dtX12_isByChange_0 1 rfl) ⟨Nat.zero_le _, Nat.zero_le _⟩ (fun H locs hX => ?_)
  refine lv_istore_n (lv' := [(3, .int v2), (0, .ref h0), (1, .int x1), (2, .int x2)]) hx hb (kd dtX12_isByChange_0 2 rfl) rfl hl (by decide) rfl (fun ls hl => ?_)
  refine lv_iload_n hx hb (kd dtX12_isByChange_0 3 rfl) rfl (lv_at hl 0 rfl) ?_
  refine lv_aload_n hx hb (kd dtX12_isByChange_0 4 rfl) rfl (lv_at hl 1 rfl) ?_
  refine rgetA (n := 2) (j := 2) hB (by decide) rfl F hX wfX12_16 (by decide) rfl (kd dtX12_isByChange_0 5 rfl) ?_
  refine lv_iconst (v := (3 : Int32)) hx hb (kd dtX12_isByChange_0 6 rfl) (by decide) ?_
  refine lv_iload_n hx hb (kd dtX12_isByChange_0 7 rfl) rfl (lv_at hl 3 rfl) ?_
  refine lv_iadd hx hb (kd dtX12_isByChange_0 8 rfl) ?_
  obtain ⟨v3, hv3, hf⟩ := kbind hf
  refine rald hB (by decide) hv3 F hX (kd dtX12_isByChange_0 9 rfl) ?_
  refine lv_iadd hx hb (kd dtX12_isByChange_0 10 rfl) ?_
  refine lv_istore (lv' := [(4, .int (v2 + v3)), (3, .int v2), (0, .ref h0), (1, .int x1), (2, .int x2)]) hx hb (kd dtX12_isByChange_0 11 rfl) hl (by decide) rfl (fun ls hl => ?_)
  refine lv_iload_n hx hb (kd dtX12_isByChange_0 12 rfl) rfl (lv_at hl 1 rfl) ?_
  refine lv_istore (lv' := [(5, .int v2), (4, .int (v2 + v3)), (3, .int v2), (0, .ref h0), (1, .int x1), (2, .int x2)]) hx hb (kd dtX12_isByChange_0 13 rfl) hl (by decide) rfl (fun ls hl => ?_)
  have hL20 : ∀ (n : Nat) (k : Int32 → rW → Option (Int32 × rW)), ∀ (z5_20 : Int32) (w_20 : rW) (H : Heap) (locs : List Loc) (ls : Array Slot), kX D aC (rWo h0 wB w) s.heap (rWo h0 wB w_20) H locs → lv_has ls 8 [(0, .ref h0), (1, .int x1), (2, .int x2), (3, .int v2), (4, .int (v2 + v3)), (5, .int z5_20)] → fX12_isByChange_L20 x1 x2 v2 (v2 + v3) n k z5_20 w_20 = some (oR, wR) → (∀ (z5_20 : Int32) (w_20 : rW) (H : Heap) (locs : List Loc) (ls : Array Slot), kX D aC (rWo h0 wB w) s.heap (rWo h0 wB w_20) H locs → lv_has ls 8 [(0, .ref h0), (1, .int x1), (2, .int x2), (3, .int v2), (4, .int (v2 + v3)), (5, .int z5_20)] → k z5_20 w_20 = some (oR, wR) → W p l e { frames := 403, cells := 0, slots := 0, locals := 8854 } s m ([.ref h0, .int x1, .int x2] : List Value).toArray below meth c H locs 0 0 (MQ below (kQc D aC (rWo h0 wB w) (some (.int oR)) (rWo h0 wB wR)) ([.ref h0, .int x1, .int x2] : List Value).toArray s 0 0 (kA (rWo h0 wB w))) (F0 m 216 ls [])) → W p l e { frames := 403, cells := 0, slots := 0, locals := 8854 } s m ([.ref h0, .int x1, .int x2] : List Value).toArray below meth c H locs 0 0 (MQ below (kQc D aC (rWo h0 wB w) (some (.int oR)) (rWo h0 wB wR)) ([.ref h0, .int x1, .int x2] : List Value).toArray s 0 0 (kA (rWo h0 wB w))) (F0 m 20 ls []) := by
    intro n k
    induction n with
    | zero =>
      intro z5_20 w_20 H locs ls hX hl hf hk
      rw [fX12_isByChange_L20] at hf
      cases hf
    | succ n ih =>
      intro z5_20 w_20 H locs ls hX hl hf hk
      have hJ20_163 : ∀ (j5_163 : Int32) (j6_163 : Int32) (j7_163 : Int32) (w_j163 : rW) (H : Heap) (locs : List Loc) (ls : Array Slot), kX D aC (rWo h0 wB w) s.heap (rWo h0 wB w_j163) H locs → lv_has ls 8 [(0, .ref h0), (1, .int x1), (2, .int x2), (3, .int v2), (4, .int (v2 + v3)), (5, .int j5_163), (6, .int j6_163), (7, .int j7_163)] → fX12_isByChange_J20_163 (fun q5 qw => fX12_isByChange_L20 x1 x2 v2 (v2 + v3) n k q5 qw) k x1 x2 v2 (v2 + v3) j5_163 j6_163 j7_163 w_j163 = some (oR, wR) → W p l e { frames := 403, cells := 0, slots := 0, locals := 8854 } s m ([.ref h0, .int x1, .int x2] : List Value).toArray below meth c H locs 0 0 (MQ below (kQc D aC (rWo h0 wB w) (some (.int oR)) (rWo h0 wB wR)) ([.ref h0, .int x1, .int x2] : List Value).toArray s 0 0 (kA (rWo h0 wB w))) (F0 m 163 ls []) := by
        intro j5_163 j6_163 j7_163 w_j163 H locs ls hX hl hf
        rw [fX12_isByChange_J20_163] at hf
        refine lv_aload_n hx hb (kd dtX12_isByChange_1 13 rfl) rfl (lv_at hl 0 rfl) ?_
        refine lv_iload hx hb (kd dtX12_isByChange_1 14 rfl) (lv_at hl 6 rfl) ?_
        refine lv_iconst (v := (1 : Int32)) hx hb (kd dtX12_isByChange_1 15 rfl) (by decide) ?_
        refine lv_iadd hx hb (kd dtX12_isByChange_1 16 rfl) ?_
        refine lv_iload hx hb (kd dtX12_isByChange_1 17 rfl) (lv_at hl 4 rfl) ?_
        refine lv_iload hx hb (kd dtX12_isByChange_1 18 rfl) (lv_at hl 7 rfl) ?_
        refine lv_iconst (v := (1 : Int32)) hx hb (kd dtX12_isByChange_1 19 rfl) (by decide) ?_
        refine lv_iadd hx hb (kd dtX12_isByChange_1 20 rfl) ?_
        obtain ⟨v26, w24, h25, hf⟩ := kbind2 hf
        refine kcallV (n := 3) [.int (j6_163 + (1 : Int32)), .int (v2 + v3), .int (j7_163 + (1 : Int32))] [] [.int v26] (rX12_copies l D aC hB h25) rfl hB.1 F hml hX hZ hl.1 mwX12_copies wmX12_173 rfl (by decide) (by decide +kernel) ⟨(by decide), (by decide)⟩ rfl rfl rfl (Nat.le_of_ble_eq_true rfl) (kd dtX12_isByChange_1 21 rfl) ⟨Nat.zero_le _, Nat.zero_le _⟩ (fun H locs hX => ?_)
        refine lv_istore (lv' := [(7, .int v26), (0, .ref h0), (1, .int x1), (2, .int x2), (3, .int v2), (4, .int (v2 + v3)), (5, .int j5_163), (6, .int j6_163)]) hx hb (kd dtX12_isByChange_1 22 rfl) hl (by decide) rfl (fun ls hl => ?_)
        refine lv_aload_n hx hb (kd dtX12_isByChange_1 23 rfl) rfl (lv_at hl 1 rfl) ?_
        refine lv_sipush (v := (8000 : Int32)) hx hb (kd dtX12_isByChange_1 24 rfl) (by decide) ?_
        refine lv_iload hx hb (kd dtX12_isByChange_1 25 rfl) (lv_at hl 0 rfl) ?_
        refine lv_iload_n hx hb (kd dtX12_isByChange_1 26 rfl) rfl (lv_at hl 2 rfl) ?_
        obtain ⟨v28, h27, hf⟩ := kbind hf
        refine kcallS (n := 1) [.int x1] [.int v26, .int (8000 : Int32), .ref h0] [.int v28, .int v26, .int (8000 : Int32), .ref h0] (rX12_textOf l D aC (rWo h0 wB w24) h27) F hml hX hZ hl.1 mwX12_textOf wmX12_86 (by decide +kernel) ⟨(by decide), (by decide)⟩ rfl rfl rfl (Nat.le_of_ble_eq_true rfl) (kd dtX12_isByChange_1 27 rfl) ⟨Nat.zero_le _, Nat.zero_le _⟩ (fun H locs hX => ?_)
        refine lv_iload_n hx hb (kd dtX12_isByChange_1 28 rfl) rfl (lv_at hl 2 rfl) ?_
        obtain ⟨v30, h29, hf⟩ := kbind hf
        refine kcallS (n := 1) [.int x1] [.int v28, .int v26, .int (8000 : Int32), .ref h0] [.int v30, .int v28, .int v26, .int (8000 : Int32), .ref h0] (rX12_textOf l D aC (rWo h0 wB w24) h29) F hml hX hZ hl.1 mwX12_textOf wmX12_86 (by decide +kernel) ⟨(by decide), (by decide)⟩ rfl rfl rfl (Nat.le_of_ble_eq_true rfl) (kd dtX12_isByChange_1 29 rfl) ⟨Nat.zero_le _, Nat.zero_le _⟩ (fun H locs hX => ?_)
        refine lv_aload_n hx hb (kd dtX12_isByChange_1 30 rfl) rfl (lv_at hl 1 rfl) ?_
        refine rgetA (n := 2) (j := 2) hB (by decide) rfl F hX wfX12_16 (by decide) rfl (kd dtX12_isByChange_1 31 rfl) ?_
        refine lv_iconst (v := (3 : Int32)) hx hb (kd dtX12_isByChange_1 32 rfl) (by decide) ?_
        refine lv_iload_n hx hb (kd dtX12_isByChange_1 33 rfl) rfl (lv_at hl 2 rfl) ?_
        refine lv_iadd hx hb (kd dtX12_isByChange_1 34 rfl) ?_
        obtain ⟨v31, hv31, hf⟩ := kbind hf
        refine rald hB (by decide) hv31 F hX (kd dtX12_isByChange_1 35 rfl) ?_
        refine lv_iadd hx hb (kd dtX12_isByChange_1 36 rfl) ?_
        obtain ⟨v33, h32, hf⟩ := kbind hf
        refine kcallV (n := 4) [.int (8000 : Int32), .int v26, .int v28, .int (v30 + v31)] [] [.int v33] (rX12_same l D aC hB h32) rfl hB.1 F hml hX hZ hl.1 mwX12_same wmX12_151 rfl (by decide) (by decide +kernel) ⟨(by decide), (by decide)⟩ rfl rfl rfl (Nat.le_of_ble_eq_true rfl) (kd dtX12_isByChange_1 37 rfl) ⟨Nat.zero_le _, Nat.zero_le _⟩ (fun H locs hX => ?_)
        refine lv_if_eq (tgt := 210) hx hb (kd dtX12_isByChange_1 38 rfl) (by decide) (fun hc => ?_) (fun hc => ?_)
        · have hf := kif_pos hc hf
          refine lv_iinc (v := j5_163 + (1 : Int32)) (lv' := [(5, .int (j5_163 + (1 : Int32))), (7, .int v26), (0, .ref h0), (1, .int x1), (2, .int x2), (3, .int v2), (4, .int (v2 + v3)), (6, .int j6_163)]) hx hb (kd dtX12_isByChange_1 41 rfl) hl (k := 6) rfl (by rfl) (by decide) rfl (fun ls hl => ?_)
          refine lv_goto (tgt := 20) hx hb (kd dtX12_isByChange_1 42 rfl) (by decide) ?_
          exact ih (j5_163 + (1 : Int32)) w24 _ _ _ hX (lv_sub hl [2, 3, 4, 5, 6, 0] rfl) hf hk
        · have hf := kif_neg hc hf
          refine lv_iconst (v := (1 : Int32)) hx hb (kd dtX12_isByChange_1 39 rfl) (by decide) ?_
          obtain ⟨rfl, rfl⟩ := Prod.mk.inj (Option.some.inj hf)
          exact kzret F hX hr hlocks rfl rfl (kd dtX12_isByChange_1 40 rfl)
      rw [fX12_isByChange_L20] at hf
      refine lv_iload hx hb (kd dtX12_isByChange_0 14 rfl) (lv_at hl 5 rfl) ?_
      refine lv_iload hx hb (kd dtX12_isByChange_0 15 rfl) (lv_at hl 4 rfl) ?_
      refine lv_icmp_ge (tgt := 216) hx hb (kd dtX12_isByChange_0 16 rfl) (by decide) (fun hc => ?_) (fun hc => ?_)
      · have hf := kif_pos hc hf
        exact hk z5_20 w_20 _ _ _ hX hl hf
      · have hf := kif_neg hc hf
        refine lv_aload_n hx hb (kd dtX12_isByChange_0 17 rfl) rfl (lv_at hl 0 rfl) ?_
        refine rgetA (n := 0) (j := 0) hB (by decide) rfl F hX wfX12_9 (by decide) rfl (kd dtX12_isByChange_0 18 rfl) ?_
        refine lv_iload hx hb (kd dtX12_isByChange_0 19 rfl) (lv_at hl 5 rfl) ?_
        obtain ⟨v6, hv6, hf⟩ := kbind hf
        refine rald hB (by decide) hv6 F hX (kd dtX12_isByChange_0 20 rfl) ?_
        refine lv_bipush (v := (40 : Int32)) hx hb (kd dtX12_isByChange_0 21 rfl) (by decide) ?_
        refine lv_icmp_eq (tgt := 42) hx hb (kd dtX12_isByChange_0 22 rfl) (by decide) (fun hc => ?_) (fun hc => ?_)
        · have hf := kif_pos hc hf
          refine lv_aload_n hx hb (kd dtX12_isByChange_0 24 rfl) rfl (lv_at hl 0 rfl) ?_
          refine lv_iload hx hb (kd dtX12_isByChange_0 25 rfl) (lv_at hl 5 rfl) ?_
          refine lv_iconst (v := (1 : Int32)) hx hb (kd dtX12_isByChange_0 26 rfl) (by decide) ?_
          refine lv_iadd hx hb (kd dtX12_isByChange_0 27 rfl) ?_
          obtain ⟨v8, h7, hf⟩ := kbind hf
          refine kcallV (n := 1) [.int (z5_20 + (1 : Int32))] [] [.int v8] (rX12_end l D aC hB h7) rfl hB.1 F hml hX hZ hl.1 mwX12_end wmX12_75 rfl (by decide) (by decide +kernel) ⟨(by decide), (by decide)⟩ rfl rfl rfl (Nat.le_of_ble_eq_true rfl) (kd dtX12_isByChange_0 28 rfl) ⟨Nat.zero_le _, Nat.zero_le _⟩ (fun H locs hX => ?_)
          refine lv_istore (lv' := [(6, .int v8), (0, .ref h0), (1, .int x1), (2, .int x2), (3, .int v2), (4, .int (v2 + v3)), (5, .int z5_20)]) hx hb (kd dtX12_isByChange_0 29 rfl) hl (by decide) rfl (fun ls hl => ?_)
          refine lv_aload_n hx hb (kd dtX12_isByChange_0 30 rfl) rfl (lv_at hl 1 rfl) ?_
          refine lv_iload_n hx hb (kd dtX12_isByChange_0 31 rfl) rfl (lv_at hl 4 rfl) ?_
          refine lv_iload hx hb (kd dtX12_isByChange_0 32 rfl) (lv_at hl 6 rfl) ?_
          refine lv_sipush (v := (8000 : Int32)) hx hb (kd dtX12_isByChange_0 33 rfl) (by decide) ?_
          obtain ⟨v11, w9, h10, hf⟩ := kbind2 hf
          refine kcallV (n := 3) [.int v2, .int z5_20, .int (8000 : Int32)] [] [.int v11] (rX12_copies l D aC hB h10) rfl hB.1 F hml hX hZ hl.1 mwX12_copies wmX12_173 rfl (by decide) (by decide +kernel) ⟨(by decide), (by decide)⟩ rfl rfl rfl (Nat.le_of_ble_eq_true rfl) (kd dtX12_isByChange_0 34 rfl) ⟨Nat.zero_le _, Nat.zero_le _⟩ (fun H locs hX => ?_)
          refine lv_istore (lv' := [(7, .int v11), (6, .int v8), (0, .ref h0), (1, .int x1), (2, .int x2), (3, .int v2), (4, .int (v2 + v3)), (5, .int z5_20)]) hx hb (kd dtX12_isByChange_0 35 rfl) hl (by decide) rfl (fun ls hl => ?_)
          refine lv_aload_n hx hb (kd dtX12_isByChange_0 36 rfl) rfl (lv_at hl 2 rfl) ?_
          refine rgetA (n := 0) (j := 0) hB (by decide) rfl F hX wfX12_9 (by decide) rfl (kd dtX12_isByChange_0 37 rfl) ?_
          refine lv_iload hx hb (kd dtX12_isByChange_0 38 rfl) (lv_at hl 0 rfl) ?_
          refine lv_bipush (v := (40 : Int32)) hx hb (kd dtX12_isByChange_0 39 rfl) (by decide) ?_
          obtain ⟨w12, hw12, hf⟩ := kbind hf
          refine rast hB (by decide) hw12 F hX (kd dtX12_isByChange_0 40 rfl) (fun H locs hX => ?_)
          refine lv_aload_n hx hb (kd dtX12_isByChange_0 41 rfl) rfl (lv_at hl 2 rfl) ?_
          refine rgetA (n := 0) (j := 0) hB (by decide) rfl F hX wfX12_9 (by decide) rfl (kd dtX12_isByChange_0 42 rfl) ?_
          refine lv_iload hx hb (kd dtX12_isByChange_0 43 rfl) (lv_at hl 1 rfl) ?_
          obtain ⟨v13, hv13, hf⟩ := kbind hf
          refine rald hB (by decide) hv13 F hX (kd dtX12_isByChange_0 44 rfl) ?_
          refine lv_bipush (v := (62 : Int32)) hx hb (kd dtX12_isByChange_0 45 rfl) (by decide) ?_
          refine lv_icmp_ne (tgt := 124) hx hb (kd dtX12_isByChange_0 46 rfl) (by decide) (fun hc => ?_) (fun hc => ?_)
          · have hf := kif_neg hc hf
            refine lv_aload_n hx hb (kd dtX12_isByChange_0 70 rfl) rfl (lv_at hl 2 rfl) ?_
            refine rgetA (n := 0) (j := 0) hB (by decide) rfl F hX wfX12_9 (by decide) rfl (kd dtX12_isByChange_0 71 rfl) ?_
            refine lv_iload hx hb (kd dtX12_isByChange_0 72 rfl) (lv_at hl 7 rfl) ?_
            refine lv_iconst (v := (1 : Int32)) hx hb (kd dtX12_isByChange_0 73 rfl) (by decide) ?_
            refine lv_iadd hx hb (kd dtX12_isByChange_0 74 rfl) ?_
            obtain ⟨v14, hv14, hf⟩ := kbind hf
            refine rald hB (by decide) hv14 F hX (kd dtX12_isByChange_0 75 rfl) ?_
            refine lv_bipush (v := (126 : Int32)) hx hb (kd dtX12_isByChange_0 76 rfl) (by decide) ?_
            refine lv_icmp_ne (tgt := 210) hx hb (kd dtX12_isByChange_0 77 rfl) (by decide) (fun hc => ?_) (fun hc => ?_)
            · have hf := kif_neg hc hf
              refine lv_iinc (v := z5_20 + (1 : Int32)) (lv' := [(5, .int (z5_20 + (1 : Int32))), (7, .int v11), (6, .int v8), (0, .ref h0), (1, .int x1), (2, .int x2), (3, .int v2), (4, .int (v2 + v3))]) hx hb (kd dtX12_isByChange_1 41 rfl) hl (k := 7) rfl (by rfl) (by decide) rfl (fun ls hl => ?_)
              refine lv_goto (tgt := 20) hx hb (kd dtX12_isByChange_1 42 rfl) (by decide) ?_
              exact ih (z5_20 + (1 : Int32)) w12 _ _ _ hX (lv_sub hl [3, 4, 5, 6, 7, 0] rfl) hf hk
            · have hf := kif_pos hc hf
              refine lv_aload_n hx hb (kd dtX12_isByChange_0 78 rfl) rfl (lv_at hl 2 rfl) ?_
              refine lv_iload hx hb (kd dtX12_isByChange_0 79 rfl) (lv_at hl 7 rfl) ?_
              refine lv_iconst (v := (2 : Int32)) hx hb (kd dtX12_isByChange_1 0 rfl) (by decide) ?_
              refine lv_iadd hx hb (kd dtX12_isByChange_1 1 rfl) ?_
              refine lv_iload hx hb (kd dtX12_isByChange_1 2 rfl) (lv_at hl 1 rfl) ?_
              refine lv_iload hx hb (kd dtX12_isByChange_1 3 rfl) (lv_at hl 0 rfl) ?_
              refine lv_iconst (v := (1 : Int32)) hx hb (kd dtX12_isByChange_1 4 rfl) (by decide) ?_
              refine lv_iadd hx hb (kd dtX12_isByChange_1 5 rfl) ?_
              obtain ⟨v17, w15, h16, hf⟩ := kbind2 hf
              refine kcallV (n := 3) [.int (z5_20 + (2 : Int32)), .int v8, .int (v11 + (1 : Int32))] [] [.int v17] (rX12_copies l D aC hB h16) rfl hB.1 F hml hX hZ hl.1 mwX12_copies wmX12_173 rfl (by decide) (by decide +kernel) ⟨(by decide), (by decide)⟩ rfl rfl rfl (Nat.le_of_ble_eq_true rfl) (kd dtX12_isByChange_1 6 rfl) ⟨Nat.zero_le _, Nat.zero_le _⟩ (fun H locs hX => ?_)
              refine lv_istore (lv' := [(7, .int v17), (6, .int v8), (0, .ref h0), (1, .int x1), (2, .int x2), (3, .int v2), (4, .int (v2 + v3)), (5, .int z5_20)]) hx hb (kd dtX12_isByChange_1 7 rfl) hl (by decide) rfl (fun ls hl => ?_)
              refine lv_aload_n hx hb (kd dtX12_isByChange_1 8 rfl) rfl (lv_at hl 2 rfl) ?_
              refine rgetA (n := 0) (j := 0) hB (by decide) rfl F hX wfX12_9 (by decide) rfl (kd dtX12_isByChange_1 9 rfl) ?_
              refine lv_iload hx hb (kd dtX12_isByChange_1 10 rfl) (lv_at hl 0 rfl) ?_
              refine lv_bipush (v := (62 : Int32)) hx hb (kd dtX12_isByChange_1 11 rfl) (by decide) ?_
              obtain ⟨w18, hw18, hf⟩ := kbind hf
              refine rast hB (by decide) hw18 F hX (kd dtX12_isByChange_1 12 rfl) (fun H locs hX => ?_)
              exact hJ20_163 z5_20 v8 v17 w18 _ _ _ hX (lv_sub hl [2, 3, 4, 5, 6, 7, 1, 0] rfl) hf
          · have hf := kif_pos hc hf
            refine lv_aload_n hx hb (kd dtX12_isByChange_0 47 rfl) rfl (lv_at hl 2 rfl) ?_
            refine rgetA (n := 0) (j := 0) hB (by decide) rfl F hX wfX12_9 (by decide) rfl (kd dtX12_isByChange_0 48 rfl) ?_
            refine lv_iload hx hb (kd dtX12_isByChange_0 49 rfl) (lv_at hl 0 rfl) ?_
            refine lv_iconst (v := (1 : Int32)) hx hb (kd dtX12_isByChange_0 50 rfl) (by decide) ?_
            refine lv_iadd hx hb (kd dtX12_isByChange_0 51 rfl) ?_
            refine lv_bipush (v := (126 : Int32)) hx hb (kd dtX12_isByChange_0 52 rfl) (by decide) ?_
            obtain ⟨w19, hw19, hf⟩ := kbind hf
            refine rast hB (by decide) hw19 F hX (kd dtX12_isByChange_0 53 rfl) (fun H locs hX => ?_)
            refine lv_aload_n hx hb (kd dtX12_isByChange_0 54 rfl) rfl (lv_at hl 2 rfl) ?_
            refine lv_iload hx hb (kd dtX12_isByChange_0 55 rfl) (lv_at hl 7 rfl) ?_
            refine lv_iconst (v := (1 : Int32)) hx hb (kd dtX12_isByChange_0 56 rfl) (by decide) ?_
            refine lv_iadd hx hb (kd dtX12_isByChange_0 57 rfl) ?_
            refine lv_iload hx hb (kd dtX12_isByChange_0 58 rfl) (lv_at hl 1 rfl) ?_
            refine lv_iload hx hb (kd dtX12_isByChange_0 59 rfl) (lv_at hl 0 rfl) ?_
            refine lv_iconst (v := (2 : Int32)) hx hb (kd dtX12_isByChange_0 60 rfl) (by decide) ?_
            refine lv_iadd hx hb (kd dtX12_isByChange_0 61 rfl) ?_
            obtain ⟨v22, w20, h21, hf⟩ := kbind2 hf
            refine kcallV (n := 3) [.int (z5_20 + (1 : Int32)), .int v8, .int (v11 + (2 : Int32))] [] [.int v22] (rX12_copies l D aC hB h21) rfl hB.1 F hml hX hZ hl.1 mwX12_copies wmX12_173 rfl (by decide) (by decide +kernel) ⟨(by decide), (by decide)⟩ rfl rfl rfl (Nat.le_of_ble_eq_true rfl) (kd dtX12_isByChange_0 62 rfl) ⟨Nat.zero_le _, Nat.zero_le _⟩ (fun H locs hX => ?_)
            refine lv_istore (lv' := [(7, .int v22), (6, .int v8), (0, .ref h0), (1, .int x1), (2, .int x2), (3, .int v2), (4, .int (v2 + v3)), (5, .int z5_20)]) hx hb (kd dtX12_isByChange_0 63 rfl) hl (by decide) rfl (fun ls hl => ?_)
            refine lv_aload_n hx hb (kd dtX12_isByChange_0 64 rfl) rfl (lv_at hl 2 rfl) ?_
            refine rgetA (n := 0) (j := 0) hB (by decide) rfl F hX wfX12_9 (by decide) rfl (kd dtX12_isByChange_0 65 rfl) ?_
            refine lv_iload hx hb (kd dtX12_isByChange_0 66 rfl) (lv_at hl 0 rfl) ?_
            refine lv_bipush (v := (118 : Int32)) hx hb (kd dtX12_isByChange_0 67 rfl) (by decide) ?_
            obtain ⟨w23, hw23, hf⟩ := kbind hf
            refine rast hB (by decide) hw23 F hX (kd dtX12_isByChange_0 68 rfl) (fun H locs hX => ?_)
            refine lv_goto (tgt := 163) hx hb (kd dtX12_isByChange_0 69 rfl) (by decide) ?_
            exact hJ20_163 z5_20 v8 v22 w23 _ _ _ hX (lv_sub hl [2, 3, 4, 5, 6, 7, 1, 0] rfl) hf
        · have hf := kif_neg hc hf
          refine lv_goto (tgt := 210) hx hb (kd dtX12_isByChange_0 23 rfl) (by decide) ?_
          refine lv_iinc (v := z5_20 + (1 : Int32)) (lv' := [(5, .int (z5_20 + (1 : Int32))), (0, .ref h0), (1, .int x1), (2, .int x2), (3, .int v2), (4, .int (v2 + v3))]) hx hb (kd dtX12_isByChange_1 41 rfl) hl (k := 5) rfl (by rfl) (by decide) rfl (fun ls hl => ?_)
          refine lv_goto (tgt := 20) hx hb (kd dtX12_isByChange_1 42 rfl) (by decide) ?_
          exact ih (z5_20 + (1 : Int32)) w_20 _ _ _ hX (lv_sub hl [1, 2, 3, 4, 5, 0] rfl) hf hk
  refine hL20 kFU _ v2 w _ _ _ hX (lv_sub hl [3, 4, 5, 2, 1, 0] rfl) hf ?_
  intro y5_4 w5 H locs ls hX hl hf
  refine lv_iconst (v := (0 : Int32)) hx hb (kd dtX12_isByChange_1 43 rfl) (by decide) ?_
  obtain ⟨rfl, rfl⟩ := Prod.mk.inj (Option.some.inj hf)
  exact kzret F hX hr hlocks rfl rfl (kd dtX12_isByChange_1 44 rfl)
theorem wmX12_192 : Cond.methodLink RX12 192 yX12_isByIf ∈ kT := kTm 1536 (by decide +kernel) rfl
theorem mwX12_isByIf : kMV RX12 yX12_isByIf cX12_isByIf 6 (some .boolean) := ⟨kTm 1539 (by decide +kernel) rfl, kTm 106 (by decide +kernel) rfl, kTm 1538 (by decide +kernel) rfl, kTm 70 (by decide +kernel) rfl⟩
theorem wmX12_196 : Cond.methodLink RX12 196 yX12_isByTwo ∈ kT := kTm 1544 (by decide +kernel) rfl
theorem mwX12_isByTwo : kMV RX12 yX12_isByTwo cX12_isByTwo 10 (some .boolean) := ⟨kTm 1547 (by decide +kernel) rfl, kTm 106 (by decide +kernel) rfl, kTm 1546 (by decide +kernel) rfl, kTm 72 (by decide +kernel) rfl⟩
theorem wmX12_199 : Cond.methodLink RX12 199 yX12_isByChange ∈ kT := kTm 1548 (by decide +kernel) rfl
theorem mwX12_isByChange : kMV RX12 yX12_isByChange cX12_isByChange 8 (some .boolean) := ⟨kTm 1551 (by decide +kernel) rfl, kTm 106 (by decide +kernel) rfl, kTm 1550 (by decide +kernel) rfl, kTm 73 (by decide +kernel) rfl⟩
def lX12_isStep_0 : List (Nat × Instr × Nat) := [(0, .iload_n 2, 1), (1, .tableswitch 58 0 2 #[27, 40, 49], 27), (28, .aload_n 0, 1), (29, .iload_n 3, 1), (30, .invokestatic 86, 3), (33, .iload_n 1, 1), (34, .invokestatic 86, 3), (37, .invokevirtual 166, 3), (40, .ireturn, 1), (41, .aload_n 0, 1), (42, .iload_n 1, 1), (43, .iload_n 3, 1), (44, .iload 4, 2), (46, .invokevirtual 192, 3), (49, .ireturn, 1), (50, .aload_n 0, 1), (51, .iload_n 1, 1), (52, .iload_n 3, 1), (53, .iload 4, 2), (55, .invokevirtual 196, 3), (58, .ireturn, 1), (59, .aload_n 0, 1), (60, .iload_n 1, 1), (61, .iload_n 3, 1), (62, .invokevirtual 199, 3), (65, .ireturn, 1)]
theorem dtX12_isStep_0 : kDec cX12_isStep lX12_isStep_0 = true := by decide +kernel
noncomputable def fX12_isStep (x1 : Int32) (x2 : Int32) (x3 : Int32) (x4 : Int32) (w : rW) : Option (Int32 × rW) :=
  if x2 = (0 : Int32) then
  (fX12_textOf x3).bind fun v2 =>
  (fX12_textOf x1).bind fun v4 =>
  kb2 (fX12_comes v2 v4 w) fun v7 w5 =>
  (kBl v7).bind fun v8 =>
  some (v8, w5)
  else if x2 = (1 : Int32) then
  (fX12_isByIf x1 x3 x4 w).bind fun v10 =>
  (kBl v10).bind fun v11 =>
  some (v11, w)
  else if x2 = (2 : Int32) then
  (fX12_isByTwo x1 x3 x4 w).bind fun v13 =>
  (kBl v13).bind fun v14 =>
  some (v14, w)
  else 
  kb2 (fX12_isByChange x1 x3 w) fun v17 w15 =>
  (kBl v17).bind fun v18 =>
  some (v18, w15)

set_option maxHeartbeats 4000000 in
set_option maxRecDepth 100000 in
theorem rX12_isStep (l : Launch) (D : va_G) (aC : Nat → ClassId) {h0 : Nat} {wB : kW} (hB : rOK h0 wB) {x1 : Int32} {x2 : Int32} {x3 : Int32} {x4 : Int32} {w : rW} {wR : rW} {oR : Int32} (h : fX12_isStep x1 x2 x3 x4 w = some (oR, wR)) : kC l D aC yX12_isStep cX12_isStep 5 (some .boolean) 805 18901 [.ref h0, .int x1, .int x2, .int x3, .int x4] (rWo h0 wB w) (some (.int oR)) (rWo h0 wB wR) 0 0 := by
  refine kOf (own := RX12) (by decide) rfl (Nat.le_of_ble_eq_true rfl) ?_
  intro p e s m below meth c ls F hml hr hlocks hnm hX hZ hl
  obtain ⟨hx, hb, hts, hown, hK⟩ := id F
  have hl : lv_has ls 5 [(0, .ref h0), (1, .int x1), (2, .int x2), (3, .int x3), (4, .int x4)] := hl
  have hf := h
  rw [fX12_isStep] at hf
  refine lv_iload_n hx hb (kd dtX12_isStep_0 0 rfl) rfl (lv_at hl 2 rfl) ?_
  by_cases hc0 : x2 = (0 : Int32)
  · have hf := kif_pos hc0 hf
    have hq : (x2).toInt = 0 := by rw [hc0]; rfl
    refine lv_tableIn (off := 27) (tgt := 28) hx hb (kd dtX12_isStep_0 1 rfl) (by rw [hq]; decide) (by rw [hq]; decide) (by rw [hq]; rfl) (by decide) ?_
    refine lv_aload_n hx hb (kd dtX12_isStep_0 2 rfl) rfl (lv_at hl 0 rfl) ?_
    refine lv_iload_n hx hb (kd dtX12_isStep_0 3 rfl) rfl (lv_at hl 3 rfl) ?_
    obtain ⟨v2, h1, hf⟩ := kbind hf
    refine kcallS (n := 1) [.int x3] [.ref h0] [.int v2, .ref h0] (rX12_textOf l D aC (rWo h0 wB w) h1) F hml hX hZ hl.1 mwX12_textOf wmX12_86 (by decide +kernel) ⟨(by decide), (by decide)⟩ rfl rfl rfl (Nat.le_of_ble_eq_true rfl) (kd dtX12_isStep_0 4 rfl) ⟨Nat.zero_le _, Nat.zero_le _⟩ (fun H locs hX => ?_)
    refine lv_iload_n hx hb (kd dtX12_isStep_0 5 rfl) rfl (lv_at hl 1 rfl) ?_
    obtain ⟨v4, h3, hf⟩ := kbind hf
    refine kcallS (n := 1) [.int x1] [.int v2, .ref h0] [.int v4, .int v2, .ref h0] (rX12_textOf l D aC (rWo h0 wB w) h3) F hml hX hZ hl.1 mwX12_textOf wmX12_86 (by decide +kernel) ⟨(by decide), (by decide)⟩ rfl rfl rfl (Nat.le_of_ble_eq_true rfl) (kd dtX12_isStep_0 6 rfl) ⟨Nat.zero_le _, Nat.zero_le _⟩ (fun H locs hX => ?_)
    obtain ⟨v7, w5, h6, hf⟩ := kbind2 hf
    refine kcallV (n := 2) [.int v2, .int v4] [] [.int v7] (rX12_comes l D aC hB h6) rfl hB.1 F hml hX hZ hl.1 mwX12_comes wmX12_166 rfl (by decide) (by decide +kernel) ⟨(by decide), (by decide)⟩ rfl rfl rfl (Nat.le_of_ble_eq_true rfl) (kd dtX12_isStep_0 7 rfl) ⟨Nat.zero_le _, Nat.zero_le _⟩ (fun H locs hX => ?_)
    obtain ⟨v8, hv8, hf⟩ := kbind hf
    obtain rfl := kBl_e hv8
    obtain ⟨rfl, rfl⟩ := Prod.mk.inj (Option.some.inj hf)
    exact kzret F hX hr hlocks hv8 rfl (kd dtX12_isStep_0 8 rfl)
  have hf := kif_neg hc0 hf
  by_cases hc1 : x2 = (1 : Int32)
  · have hf := kif_pos hc1 hf
    have hq : (x2).toInt = 1 := by rw [hc1]; rfl
    refine lv_tableIn (off := 40) (tgt := 41) hx hb (kd dtX12_isStep_0 1 rfl) (by rw [hq]; decide) (by rw [hq]; decide) (by rw [hq]; rfl) (by decide) ?_
    refine lv_aload_n hx hb (kd dtX12_isStep_0 9 rfl) rfl (lv_at hl 0 rfl) ?_
    refine lv_iload_n hx hb (kd dtX12_isStep_0 10 rfl) rfl (lv_at hl 1 rfl) ?_
    refine lv_iload_n hx hb (kd dtX12_isStep_0 11 rfl) rfl (lv_at hl 3 rfl) ?_
    refine lv_iload hx hb (kd dtX12_isStep_0 12 rfl) (lv_at hl 4 rfl) ?_
    obtain ⟨v10, h9, hf⟩ := kbind hf
    refine kcallV (n := 3) [.int x1, .int x3, .int x4] [] [.int v10] (rX12_isByIf l D aC hB h9) rfl hB.1 F hml hX hZ hl.1 mwX12_isByIf wmX12_192 rfl (by decide) (by decide +kernel) ⟨(by decide), (by decide)⟩ rfl rfl rfl (Nat.le_of_ble_eq_true rfl) (kd dtX12_isStep_0 13 rfl) ⟨Nat.zero_le _, Nat.zero_le _⟩ (fun H locs hX => ?_)
    obtain ⟨v11, hv11, hf⟩ := kbind hf
    obtain rfl := kBl_e hv11
    obtain ⟨rfl, rfl⟩ := Prod.mk.inj (Option.some.inj hf)
    exact kzret F hX hr hlocks hv11 rfl (kd dtX12_isStep_0 14 rfl)
  have hf := kif_neg hc1 hf
  by_cases hc2 : x2 = (2 : Int32)
  · have hf := kif_pos hc2 hf
    have hq : (x2).toInt = 2 := by rw [hc2]; rfl
    refine lv_tableIn (off := 49) (tgt := 50) hx hb (kd dtX12_isStep_0 1 rfl) (by rw [hq]; decide) (by rw [hq]; decide) (by rw [hq]; rfl) (by decide) ?_
    refine lv_aload_n hx hb (kd dtX12_isStep_0 15 rfl) rfl (lv_at hl 0 rfl) ?_
    refine lv_iload_n hx hb (kd dtX12_isStep_0 16 rfl) rfl (lv_at hl 1 rfl) ?_
    refine lv_iload_n hx hb (kd dtX12_isStep_0 17 rfl) rfl (lv_at hl 3 rfl) ?_
    refine lv_iload hx hb (kd dtX12_isStep_0 18 rfl) (lv_at hl 4 rfl) ?_
    obtain ⟨v13, h12, hf⟩ := kbind hf
    refine kcallV (n := 3) [.int x1, .int x3, .int x4] [] [.int v13] (rX12_isByTwo l D aC hB h12) rfl hB.1 F hml hX hZ hl.1 mwX12_isByTwo wmX12_196 rfl (by decide) (by decide +kernel) ⟨(by decide), (by decide)⟩ rfl rfl rfl (Nat.le_of_ble_eq_true rfl) (kd dtX12_isStep_0 19 rfl) ⟨Nat.zero_le _, Nat.zero_le _⟩ (fun H locs hX => ?_)
    obtain ⟨v14, hv14, hf⟩ := kbind hf
    obtain rfl := kBl_e hv14
    obtain ⟨rfl, rfl⟩ := Prod.mk.inj (Option.some.inj hf)
    exact kzret F hX hr hlocks hv14 rfl (kd dtX12_isStep_0 20 rfl)
  have hf := kif_neg hc2 hf
  have hq0 := lv_neT (k := (0 : Int32)) hc0 (a := 0) rfl
  have hq1 := lv_neT (k := (1 : Int32)) hc1 (a := 1) rfl
  have hq2 := lv_neT (k := (2 : Int32)) hc2 (a := 2) rfl
  refine lv_tableOut (tgt := 59) hx hb (kd dtX12_isStep_0 1 rfl) (by omega) (by decide) ?_
  refine lv_aload_n hx hb (kd dtX12_isStep_0 21 rfl) rfl (lv_at hl 0 rfl) ?_
  refine lv_iload_n hx hb (kd dtX12_isStep_0 22 rfl) rfl (lv_at hl 1 rfl) ?_
  refine lv_iload_n hx hb (kd dtX12_isStep_0 23 rfl) rfl (lv_at hl 3 rfl) ?_
  obtain ⟨v17, w15, h16, hf⟩ := kbind2 hf
  refine kcallV (n := 2) [.int x1, .int x3] [] [.int v17] (rX12_isByChange l D aC hB h16) rfl hB.1 F hml hX hZ hl.1 mwX12_isByChange wmX12_199 rfl (by decide) (by decide +kernel) ⟨(by decide), (by decide)⟩ rfl rfl rfl (Nat.le_of_ble_eq_true rfl) (kd dtX12_isStep_0 24 rfl) ⟨Nat.zero_le _, Nat.zero_le _⟩ (fun H locs hX => ?_)
  obtain ⟨v18, hv18, hf⟩ := kbind hf
  obtain rfl := kBl_e hv18
  obtain ⟨rfl, rfl⟩ := Prod.mk.inj (Option.some.inj hf)
  exact kzret F hX hr hlocks hv18 rfl (kd dtX12_isStep_0 25 rfl)
def lX12_isOfTwo_0 : List (Nat × Instr × Nat) := [(0, .iload_n 0, 1), (1, .iconst 1, 1), (2, .if_icmp .eq 8, 3), (5, .iload_n 0, 1), (6, .iconst 2, 1), (7, .if_icmp .ne 7, 3), (10, .iconst 1, 1), (11, .goto 4, 3), (14, .iconst 0, 1), (15, .ireturn, 1)]
theorem dtX12_isOfTwo_0 : kDec cX12_isOfTwo lX12_isOfTwo_0 = true := by decide +kernel
noncomputable def fX12_isOfTwo (x0 : Int32) : Option Int32 :=
  if x0 = (1 : Int32) then
  some (1 : Int32)
  else
  if x0 = (2 : Int32) then
  some (1 : Int32)
  else
  some (0 : Int32)

set_option maxHeartbeats 4000000 in
set_option maxRecDepth 100000 in
theorem rX12_isOfTwo (l : Launch) (D : va_G) (aC : Nat → ClassId) (w : kW) {x0 : Int32} {oR : Int32} (h : fX12_isOfTwo x0 = some oR) : kC l D aC yX12_isOfTwo cX12_isOfTwo 1 (some .boolean) 1 12 [.int x0] w (some (.int oR)) w 0 0 := by
  refine kOf (own := RX12) (by decide) rfl (Nat.le_of_ble_eq_true rfl) ?_
  intro p e s m below meth c ls F hml hr hlocks hnm hX hZ hl
  obtain ⟨hx, hb, hts, hown, hK⟩ := id F
  have hl : lv_has ls 1 [(0, .int x0)] := hl
  have hf := h
  rw [fX12_isOfTwo] at hf
  refine lv_iload_n hx hb (kd dtX12_isOfTwo_0 0 rfl) rfl (lv_at hl 0 rfl) ?_
  refine lv_iconst (v := (1 : Int32)) hx hb (kd dtX12_isOfTwo_0 1 rfl) (by decide) ?_
  refine lv_icmp_eq (tgt := 10) hx hb (kd dtX12_isOfTwo_0 2 rfl) (by decide) (fun hc => ?_) (fun hc => ?_)
  · have hf := kif_pos hc hf
    refine lv_iconst (v := (1 : Int32)) hx hb (kd dtX12_isOfTwo_0 6 rfl) (by decide) ?_
    refine lv_goto (tgt := 15) hx hb (kd dtX12_isOfTwo_0 7 rfl) (by decide) ?_
    obtain rfl := Option.some.inj hf
    exact kzret F hX hr hlocks rfl rfl (kd dtX12_isOfTwo_0 9 rfl)
  · have hf := kif_neg hc hf
    refine lv_iload_n hx hb (kd dtX12_isOfTwo_0 3 rfl) rfl (lv_at hl 0 rfl) ?_
    refine lv_iconst (v := (2 : Int32)) hx hb (kd dtX12_isOfTwo_0 4 rfl) (by decide) ?_
    refine lv_icmp_ne (tgt := 14) hx hb (kd dtX12_isOfTwo_0 5 rfl) (by decide) (fun hc => ?_) (fun hc => ?_)
    · have hf := kif_neg hc hf
      refine lv_iconst (v := (0 : Int32)) hx hb (kd dtX12_isOfTwo_0 8 rfl) (by decide) ?_
      obtain rfl := Option.some.inj hf
      exact kzret F hX hr hlocks rfl rfl (kd dtX12_isOfTwo_0 9 rfl)
    · have hf := kif_pos hc hf
      refine lv_iconst (v := (1 : Int32)) hx hb (kd dtX12_isOfTwo_0 6 rfl) (by decide) ?_
      refine lv_goto (tgt := 15) hx hb (kd dtX12_isOfTwo_0 7 rfl) (by decide) ?_
      obtain rfl := Option.some.inj hf
      exact kzret F hX hr hlocks rfl rfl (kd dtX12_isOfTwo_0 9 rfl)
