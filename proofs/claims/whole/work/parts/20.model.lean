theorem wcX12_202 : Cond.constantLong RX12 202 (3 : Int64) ∈ kT := kTm 1528 (by decide +kernel) rfl
theorem wmX12_204 : Cond.methodLink RX12 204 yX12_isOfTwo ∈ kT := kTm 1529 (by decide +kernel) rfl
theorem mwX12_isOfTwo : kMS yX12_isOfTwo cX12_isOfTwo 1 (some .boolean) := ⟨kTm 1531 (by decide +kernel) rfl, kTm 106 (by decide +kernel) rfl, kTm 1530 (by decide +kernel) rfl⟩
def lX12_isTold_0 : List (Nat × Instr × Nat) := [(0, .aload_n 0, 1), (1, .iload_n 1, 1), (2, .invokevirtual 127, 3), (5, .ifCond .eq 43, 3), (8, .iload_n 2, 1), (9, .i2l, 1), (10, .lconst 0, 1), (11, .ldc2_w 202, 3), (14, .invokestatic 65, 3), (17, .ifCond .eq 31, 3), (20, .aload_n 0, 1), (21, .iload_n 3, 1), (22, .invokevirtual 127, 3), (25, .ifCond .eq 23, 3), (28, .iload_n 2, 1), (29, .invokestatic 204, 3), (32, .ifCond .eq 12, 3), (35, .aload_n 0, 1), (36, .iload 4, 2), (38, .invokevirtual 127, 3), (41, .ifCond .eq 7, 3), (44, .iconst 1, 1), (45, .goto 4, 3), (48, .iconst 0, 1), (49, .ireturn, 1)]
theorem dtX12_isTold_0 : kDec cX12_isTold lX12_isTold_0 = true := by decide +kernel
noncomputable def fX12_isTold (x1 : Int32) (x2 : Int32) (x3 : Int32) (x4 : Int32) (w : rW) : Option Int32 :=
  (fX12_isLine x1 w).bind fun v2 =>
  if v2 = 0 then
  some (0 : Int32)
  else
  (fX12_isIn x2.toInt64 (0 : Int64) (3 : Int64)).bind fun v4 =>
  if v4 = 0 then
  some (0 : Int32)
  else
  (fX12_isLine x3 w).bind fun v6 =>
  if v6 = 0 then
  some (0 : Int32)
  else
  (fX12_isOfTwo x2).bind fun v8 =>
  if v8 = 0 then
  some (1 : Int32)
  else
  (fX12_isLine x4 w).bind fun v10 =>
  if v10 = 0 then
  some (0 : Int32)
  else
  some (1 : Int32)

set_option maxHeartbeats 4000000 in
set_option maxRecDepth 100000 in
theorem rX12_isTold (l : Launch) (D : va_G) (aC : Nat → ClassId) {h0 : Nat} {wB : kW} (hB : rOK h0 wB) {x1 : Int32} {x2 : Int32} {x3 : Int32} {x4 : Int32} {w : rW} {oR : Int32} (h : fX12_isTold x1 x2 x3 x4 w = some oR) : kC l D aC yX12_isTold cX12_isTold 5 (some .boolean) 3 58 [.ref h0, .int x1, .int x2, .int x3, .int x4] (rWo h0 wB w) (some (.int oR)) (rWo h0 wB w) 0 0 := by
  refine kOf (own := RX12) (by decide) rfl (Nat.le_of_ble_eq_true rfl) ?_
  intro p e s m below meth c ls F hml hr hlocks hnm hX hZ hl
  obtain ⟨hx, hb, hts, hown, hK⟩ := id F
  have hl : lv_has ls 5 [(0, .ref h0), (1, .int x1), (2, .int x2), (3, .int x3), (4, .int x4)] := hl
  have hf := h
  rw [fX12_isTold] at hf
  refine lv_aload_n hx hb (kd dtX12_isTold_0 0 rfl) rfl (lv_at hl 0 rfl) ?_
  refine lv_iload_n hx hb (kd dtX12_isTold_0 1 rfl) rfl (lv_at hl 1 rfl) ?_
  obtain ⟨v2, h1, hf⟩ := kbind hf
  refine kcallV (n := 1) [.int x1] [] [.int v2] (rX12_isLine l D aC hB h1) rfl hB.1 F hml hX hZ hl.1 mwX12_isLine wmX12_127 rfl (by decide) (by decide +kernel) ⟨(by decide), (by decide)⟩ rfl rfl rfl (Nat.le_of_ble_eq_true rfl) (kd dtX12_isTold_0 2 rfl) ⟨Nat.zero_le _, Nat.zero_le _⟩ (fun H locs hX => ?_)
  refine lv_if_eq (tgt := 48) hx hb (kd dtX12_isTold_0 3 rfl) (by decide) (fun hc => ?_) (fun hc => ?_)
  · have hf := kif_pos hc hf
    refine lv_iconst (v := (0 : Int32)) hx hb (kd dtX12_isTold_0 23 rfl) (by decide) ?_
    obtain rfl := Option.some.inj hf
    exact kzret F hX hr hlocks rfl rfl (kd dtX12_isTold_0 24 rfl)
  · have hf := kif_neg hc hf
    refine lv_iload_n hx hb (kd dtX12_isTold_0 4 rfl) rfl (lv_at hl 2 rfl) ?_
    refine lv_i2l (v := x2.toInt64) hx hb (kd dtX12_isTold_0 5 rfl) rfl ?_
    refine lv_lconst (v := (0 : Int64)) hx hb (kd dtX12_isTold_0 6 rfl) (by decide) ?_
    refine lv_ldc2 (v := (3 : Int64)) hx hb hown (hts _ wcX12_202) (kd dtX12_isTold_0 7 rfl) ?_
    obtain ⟨v4, h3, hf⟩ := kbind hf
    refine kcallS (n := 3) [.long x2.toInt64, .long (0 : Int64), .long (3 : Int64)] [] [.int v4] (rX12_isIn l D aC (rWo h0 wB w) h3) F hml hX hZ hl.1 mwX12_isIn wmX12_65 (by decide +kernel) ⟨(by decide), (by decide)⟩ rfl rfl rfl (Nat.le_of_ble_eq_true rfl) (kd dtX12_isTold_0 8 rfl) ⟨Nat.zero_le _, Nat.zero_le _⟩ (fun H locs hX => ?_)
    refine lv_if_eq (tgt := 48) hx hb (kd dtX12_isTold_0 9 rfl) (by decide) (fun hc => ?_) (fun hc => ?_)
    · have hf := kif_pos hc hf
      refine lv_iconst (v := (0 : Int32)) hx hb (kd dtX12_isTold_0 23 rfl) (by decide) ?_
      obtain rfl := Option.some.inj hf
      exact kzret F hX hr hlocks rfl rfl (kd dtX12_isTold_0 24 rfl)
    · have hf := kif_neg hc hf
      refine lv_aload_n hx hb (kd dtX12_isTold_0 10 rfl) rfl (lv_at hl 0 rfl) ?_
      refine lv_iload_n hx hb (kd dtX12_isTold_0 11 rfl) rfl (lv_at hl 3 rfl) ?_
      obtain ⟨v6, h5, hf⟩ := kbind hf
      refine kcallV (n := 1) [.int x3] [] [.int v6] (rX12_isLine l D aC hB h5) rfl hB.1 F hml hX hZ hl.1 mwX12_isLine wmX12_127 rfl (by decide) (by decide +kernel) ⟨(by decide), (by decide)⟩ rfl rfl rfl (Nat.le_of_ble_eq_true rfl) (kd dtX12_isTold_0 12 rfl) ⟨Nat.zero_le _, Nat.zero_le _⟩ (fun H locs hX => ?_)
      refine lv_if_eq (tgt := 48) hx hb (kd dtX12_isTold_0 13 rfl) (by decide) (fun hc => ?_) (fun hc => ?_)
      · have hf := kif_pos hc hf
        refine lv_iconst (v := (0 : Int32)) hx hb (kd dtX12_isTold_0 23 rfl) (by decide) ?_
        obtain rfl := Option.some.inj hf
        exact kzret F hX hr hlocks rfl rfl (kd dtX12_isTold_0 24 rfl)
      · have hf := kif_neg hc hf
        refine lv_iload_n hx hb (kd dtX12_isTold_0 14 rfl) rfl (lv_at hl 2 rfl) ?_
        obtain ⟨v8, h7, hf⟩ := kbind hf
        refine kcallS (n := 1) [.int x2] [] [.int v8] (rX12_isOfTwo l D aC (rWo h0 wB w) h7) F hml hX hZ hl.1 mwX12_isOfTwo wmX12_204 (by decide +kernel) ⟨(by decide), (by decide)⟩ rfl rfl rfl (Nat.le_of_ble_eq_true rfl) (kd dtX12_isTold_0 15 rfl) ⟨Nat.zero_le _, Nat.zero_le _⟩ (fun H locs hX => ?_)
        refine lv_if_eq (tgt := 44) hx hb (kd dtX12_isTold_0 16 rfl) (by decide) (fun hc => ?_) (fun hc => ?_)
        · have hf := kif_pos hc hf
          refine lv_iconst (v := (1 : Int32)) hx hb (kd dtX12_isTold_0 21 rfl) (by decide) ?_
          refine lv_goto (tgt := 49) hx hb (kd dtX12_isTold_0 22 rfl) (by decide) ?_
          obtain rfl := Option.some.inj hf
          exact kzret F hX hr hlocks rfl rfl (kd dtX12_isTold_0 24 rfl)
        · have hf := kif_neg hc hf
          refine lv_aload_n hx hb (kd dtX12_isTold_0 17 rfl) rfl (lv_at hl 0 rfl) ?_
          refine lv_iload hx hb (kd dtX12_isTold_0 18 rfl) (lv_at hl 4 rfl) ?_
          obtain ⟨v10, h9, hf⟩ := kbind hf
          refine kcallV (n := 1) [.int x4] [] [.int v10] (rX12_isLine l D aC hB h9) rfl hB.1 F hml hX hZ hl.1 mwX12_isLine wmX12_127 rfl (by decide) (by decide +kernel) ⟨(by decide), (by decide)⟩ rfl rfl rfl (Nat.le_of_ble_eq_true rfl) (kd dtX12_isTold_0 19 rfl) ⟨Nat.zero_le _, Nat.zero_le _⟩ (fun H locs hX => ?_)
          refine lv_if_eq (tgt := 48) hx hb (kd dtX12_isTold_0 20 rfl) (by decide) (fun hc => ?_) (fun hc => ?_)
          · have hf := kif_pos hc hf
            refine lv_iconst (v := (0 : Int32)) hx hb (kd dtX12_isTold_0 23 rfl) (by decide) ?_
            obtain rfl := Option.some.inj hf
            exact kzret F hX hr hlocks rfl rfl (kd dtX12_isTold_0 24 rfl)
          · have hf := kif_neg hc hf
            refine lv_iconst (v := (1 : Int32)) hx hb (kd dtX12_isTold_0 21 rfl) (by decide) ?_
            refine lv_goto (tgt := 49) hx hb (kd dtX12_isTold_0 22 rfl) (by decide) ?_
            obtain rfl := Option.some.inj hf
            exact kzret F hX hr hlocks rfl rfl (kd dtX12_isTold_0 24 rfl)
theorem wmX12_207 : Cond.methodLink RX12 207 yX12_isTold ∈ kT := kTm 1524 (by decide +kernel) rfl
theorem mwX12_isTold : kMV RX12 yX12_isTold cX12_isTold 5 (some .boolean) := ⟨kTm 1527 (by decide +kernel) rfl, kTm 106 (by decide +kernel) rfl, kTm 1526 (by decide +kernel) rfl, kTm 68 (by decide +kernel) rfl⟩
theorem wmX12_210 : Cond.methodLink RX12 210 yX12_isStep ∈ kT := kTm 1532 (by decide +kernel) rfl
theorem mwX12_isStep : kMV RX12 yX12_isStep cX12_isStep 5 (some .boolean) := ⟨kTm 1535 (by decide +kernel) rfl, kTm 106 (by decide +kernel) rfl, kTm 1534 (by decide +kernel) rfl, kTm 69 (by decide +kernel) rfl⟩
def lX12_step_0 : List (Nat × Instr × Nat) := [(0, .aload_n 0, 1), (1, .iload_n 1, 1), (2, .iload_n 2, 1), (3, .iload_n 3, 1), (4, .iload 4, 2), (6, .invokevirtual 207, 3), (9, .ifCond .ne 5, 3), (12, .iconst (-1), 1), (13, .ireturn, 1), (14, .aload_n 0, 1), (15, .iload_n 1, 1), (16, .invokevirtual 144, 3), (19, .ifCond .ne 39, 3), (22, .aload_n 0, 1), (23, .iload_n 3, 1), (24, .invokevirtual 144, 3), (27, .ifCond .eq 31, 3), (30, .iload_n 2, 1), (31, .invokestatic 204, 3), (34, .ifCond .eq 12, 3), (37, .aload_n 0, 1), (38, .iload 4, 2), (40, .invokevirtual 144, 3), (43, .ifCond .eq 15, 3), (46, .aload_n 0, 1), (47, .iload_n 1, 1), (48, .iload_n 2, 1), (49, .iload_n 3, 1), (50, .iload 4, 2), (52, .invokevirtual 210, 3), (55, .ifCond .ne 6, 3), (58, .bipush (-3), 2), (60, .ireturn, 1), (61, .aload_n 0, 1), (62, .iload_n 1, 1), (63, .iconst 2, 1), (64, .iload_n 2, 1), (65, .iload_n 3, 1), (66, .iload_n 2, 1), (67, .invokestatic 204, 3), (70, .ifCond .eq 8, 3), (73, .iload 4, 2), (75, .goto 5, 3), (78, .bipush (-4), 2), (80, .invokevirtual 147, 3), (83, .iconst 1, 1), (84, .ireturn, 1)]
theorem dtX12_step_0 : kDec cX12_step lX12_step_0 = true := by decide +kernel
noncomputable def fX12_step (x1 : Int32) (x2 : Int32) (x3 : Int32) (x4 : Int32) (w : rW) : Option (Int32 × rW) :=
  (fX12_isTold x1 x2 x3 x4 w).bind fun v2 =>
  if v2 = 0 then
  some ((-1 : Int32), w)
  else
  (fX12_isKnown x1 w).bind fun v4 =>
  if v4 = 0 then
  (fX12_isKnown x3 w).bind fun v6 =>
  if v6 = 0 then
  some ((-3 : Int32), w)
  else
  (fX12_isOfTwo x2).bind fun v8 =>
  if v8 = 0 then
  kb2 (fX12_isStep x1 x2 x3 x4 w) fun v11 w9 =>
  if v11 = 0 then
  some ((-3 : Int32), w9)
  else
  (fX12_isOfTwo x2).bind fun v13 =>
  if v13 = 0 then
  (fX12_becomes x1 (2 : Int32) x2 x3 (-4 : Int32) w9).bind fun w14 =>
  some ((1 : Int32), w14)
  else
  (fX12_becomes x1 (2 : Int32) x2 x3 x4 w9).bind fun w16 =>
  some ((1 : Int32), w16)
  else
  (fX12_isKnown x4 w).bind fun v19 =>
  if v19 = 0 then
  some ((-3 : Int32), w)
  else
  kb2 (fX12_isStep x1 x2 x3 x4 w) fun v22 w20 =>
  if v22 = 0 then
  some ((-3 : Int32), w20)
  else
  (fX12_isOfTwo x2).bind fun v24 =>
  if v24 = 0 then
  (fX12_becomes x1 (2 : Int32) x2 x3 (-4 : Int32) w20).bind fun w25 =>
  some ((1 : Int32), w25)
  else
  (fX12_becomes x1 (2 : Int32) x2 x3 x4 w20).bind fun w27 =>
  some ((1 : Int32), w27)
  else
  some ((-3 : Int32), w)

set_option maxHeartbeats 4000000 in
set_option maxRecDepth 100000 in
theorem rX12_step (l : Launch) (D : va_G) (aC : Nat → ClassId) {h0 : Nat} {wB : kW} (hB : rOK h0 wB) {x1 : Int32} {x2 : Int32} {x3 : Int32} {x4 : Int32} {w : rW} {wR : rW} {oR : Int32} (h : fX12_step x1 x2 x3 x4 w = some (oR, wR)) : kC l D aC yX12_step cX12_step 5 (some .int) 806 18925 [.ref h0, .int x1, .int x2, .int x3, .int x4] (rWo h0 wB w) (some (.int oR)) (rWo h0 wB wR) 0 0 := by
  refine kOf (own := RX12) (by decide) rfl (Nat.le_of_ble_eq_true rfl) ?_
  intro p e s m below meth c ls F hml hr hlocks hnm hX hZ hl
  obtain ⟨hx, hb, hts, hown, hK⟩ := id F
  have hl : lv_has ls 5 [(0, .ref h0), (1, .int x1), (2, .int x2), (3, .int x3), (4, .int x4)] := hl
  have hf := h
  rw [fX12_step] at hf
  refine lv_aload_n hx hb (kd dtX12_step_0 0 rfl) rfl (lv_at hl 0 rfl) ?_
  refine lv_iload_n hx hb (kd dtX12_step_0 1 rfl) rfl (lv_at hl 1 rfl) ?_
  refine lv_iload_n hx hb (kd dtX12_step_0 2 rfl) rfl (lv_at hl 2 rfl) ?_
  refine lv_iload_n hx hb (kd dtX12_step_0 3 rfl) rfl (lv_at hl 3 rfl) ?_
  refine lv_iload hx hb (kd dtX12_step_0 4 rfl) (lv_at hl 4 rfl) ?_
  obtain ⟨v2, h1, hf⟩ := kbind hf
  refine kcallV (n := 4) [.int x1, .int x2, .int x3, .int x4] [] [.int v2] (rX12_isTold l D aC hB h1) rfl hB.1 F hml hX hZ hl.1 mwX12_isTold wmX12_207 rfl (by decide) (by decide +kernel) ⟨(by decide), (by decide)⟩ rfl rfl rfl (Nat.le_of_ble_eq_true rfl) (kd dtX12_step_0 5 rfl) ⟨Nat.zero_le _, Nat.zero_le _⟩ (fun H locs hX => ?_)
  refine lv_if_ne (tgt := 14) hx hb (kd dtX12_step_0 6 rfl) (by decide) (fun hc => ?_) (fun hc => ?_)
  · have hf := kif_neg hc hf
    refine lv_aload_n hx hb (kd dtX12_step_0 9 rfl) rfl (lv_at hl 0 rfl) ?_
    refine lv_iload_n hx hb (kd dtX12_step_0 10 rfl) rfl (lv_at hl 1 rfl) ?_
    obtain ⟨v4, h3, hf⟩ := kbind hf
    refine kcallV (n := 1) [.int x1] [] [.int v4] (rX12_isKnown l D aC hB h3) rfl hB.1 F hml hX hZ hl.1 mwX12_isKnown wmX12_144 rfl (by decide) (by decide +kernel) ⟨(by decide), (by decide)⟩ rfl rfl rfl (Nat.le_of_ble_eq_true rfl) (kd dtX12_step_0 11 rfl) ⟨Nat.zero_le _, Nat.zero_le _⟩ (fun H locs hX => ?_)
    refine lv_if_ne (tgt := 58) hx hb (kd dtX12_step_0 12 rfl) (by decide) (fun hc => ?_) (fun hc => ?_)
    · have hf := kif_neg hc hf
      refine lv_bipush (v := (-3 : Int32)) hx hb (kd dtX12_step_0 31 rfl) (by decide) ?_
      obtain ⟨rfl, rfl⟩ := Prod.mk.inj (Option.some.inj hf)
      exact kiret F hX hr hlocks rfl (kd dtX12_step_0 32 rfl)
    · have hf := kif_pos hc hf
      refine lv_aload_n hx hb (kd dtX12_step_0 13 rfl) rfl (lv_at hl 0 rfl) ?_
      refine lv_iload_n hx hb (kd dtX12_step_0 14 rfl) rfl (lv_at hl 3 rfl) ?_
      obtain ⟨v6, h5, hf⟩ := kbind hf
      refine kcallV (n := 1) [.int x3] [] [.int v6] (rX12_isKnown l D aC hB h5) rfl hB.1 F hml hX hZ hl.1 mwX12_isKnown wmX12_144 rfl (by decide) (by decide +kernel) ⟨(by decide), (by decide)⟩ rfl rfl rfl (Nat.le_of_ble_eq_true rfl) (kd dtX12_step_0 15 rfl) ⟨Nat.zero_le _, Nat.zero_le _⟩ (fun H locs hX => ?_)
      refine lv_if_eq (tgt := 58) hx hb (kd dtX12_step_0 16 rfl) (by decide) (fun hc => ?_) (fun hc => ?_)
      · have hf := kif_pos hc hf
        refine lv_bipush (v := (-3 : Int32)) hx hb (kd dtX12_step_0 31 rfl) (by decide) ?_
        obtain ⟨rfl, rfl⟩ := Prod.mk.inj (Option.some.inj hf)
        exact kiret F hX hr hlocks rfl (kd dtX12_step_0 32 rfl)
      · have hf := kif_neg hc hf
        refine lv_iload_n hx hb (kd dtX12_step_0 17 rfl) rfl (lv_at hl 2 rfl) ?_
        obtain ⟨v8, h7, hf⟩ := kbind hf
        refine kcallS (n := 1) [.int x2] [] [.int v8] (rX12_isOfTwo l D aC (rWo h0 wB w) h7) F hml hX hZ hl.1 mwX12_isOfTwo wmX12_204 (by decide +kernel) ⟨(by decide), (by decide)⟩ rfl rfl rfl (Nat.le_of_ble_eq_true rfl) (kd dtX12_step_0 18 rfl) ⟨Nat.zero_le _, Nat.zero_le _⟩ (fun H locs hX => ?_)
        refine lv_if_eq (tgt := 46) hx hb (kd dtX12_step_0 19 rfl) (by decide) (fun hc => ?_) (fun hc => ?_)
        · have hf := kif_pos hc hf
          refine lv_aload_n hx hb (kd dtX12_step_0 24 rfl) rfl (lv_at hl 0 rfl) ?_
          refine lv_iload_n hx hb (kd dtX12_step_0 25 rfl) rfl (lv_at hl 1 rfl) ?_
          refine lv_iload_n hx hb (kd dtX12_step_0 26 rfl) rfl (lv_at hl 2 rfl) ?_
          refine lv_iload_n hx hb (kd dtX12_step_0 27 rfl) rfl (lv_at hl 3 rfl) ?_
          refine lv_iload hx hb (kd dtX12_step_0 28 rfl) (lv_at hl 4 rfl) ?_
          obtain ⟨v11, w9, h10, hf⟩ := kbind2 hf
          refine kcallV (n := 4) [.int x1, .int x2, .int x3, .int x4] [] [.int v11] (rX12_isStep l D aC hB h10) rfl hB.1 F hml hX hZ hl.1 mwX12_isStep wmX12_210 rfl (by decide) (by decide +kernel) ⟨(by decide), (by decide)⟩ rfl rfl rfl (Nat.le_of_ble_eq_true rfl) (kd dtX12_step_0 29 rfl) ⟨Nat.zero_le _, Nat.zero_le _⟩ (fun H locs hX => ?_)
          refine lv_if_ne (tgt := 61) hx hb (kd dtX12_step_0 30 rfl) (by decide) (fun hc => ?_) (fun hc => ?_)
          · have hf := kif_neg hc hf
            refine lv_aload_n hx hb (kd dtX12_step_0 33 rfl) rfl (lv_at hl 0 rfl) ?_
            refine lv_iload_n hx hb (kd dtX12_step_0 34 rfl) rfl (lv_at hl 1 rfl) ?_
            refine lv_iconst (v := (2 : Int32)) hx hb (kd dtX12_step_0 35 rfl) (by decide) ?_
            refine lv_iload_n hx hb (kd dtX12_step_0 36 rfl) rfl (lv_at hl 2 rfl) ?_
            refine lv_iload_n hx hb (kd dtX12_step_0 37 rfl) rfl (lv_at hl 3 rfl) ?_
            refine lv_iload_n hx hb (kd dtX12_step_0 38 rfl) rfl (lv_at hl 2 rfl) ?_
            obtain ⟨v13, h12, hf⟩ := kbind hf
            refine kcallS (n := 1) [.int x2] [.int x3, .int x2, .int (2 : Int32), .int x1, .ref h0] [.int v13, .int x3, .int x2, .int (2 : Int32), .int x1, .ref h0] (rX12_isOfTwo l D aC (rWo h0 wB w9) h12) F hml hX hZ hl.1 mwX12_isOfTwo wmX12_204 (by decide +kernel) ⟨(by decide), (by decide)⟩ rfl rfl rfl (Nat.le_of_ble_eq_true rfl) (kd dtX12_step_0 39 rfl) ⟨Nat.zero_le _, Nat.zero_le _⟩ (fun H locs hX => ?_)
            refine lv_if_eq (tgt := 78) hx hb (kd dtX12_step_0 40 rfl) (by decide) (fun hc => ?_) (fun hc => ?_)
            · have hf := kif_pos hc hf
              refine lv_bipush (v := (-4 : Int32)) hx hb (kd dtX12_step_0 43 rfl) (by decide) ?_
              obtain ⟨w14, h15, hf⟩ := kbind hf
              refine kcallV (n := 5) [.int x1, .int (2 : Int32), .int x2, .int x3, .int (-4 : Int32)] [] [] (rX12_becomes l D aC hB h15) rfl hB.1 F hml hX hZ hl.1 mwX12_becomes wmX12_147 rfl (by decide) (by decide +kernel) ⟨(by decide), (by decide)⟩ rfl rfl rfl (Nat.le_of_ble_eq_true rfl) (kd dtX12_step_0 44 rfl) ⟨Nat.zero_le _, Nat.zero_le _⟩ (fun H locs hX => ?_)
              refine lv_iconst (v := (1 : Int32)) hx hb (kd dtX12_step_0 45 rfl) (by decide) ?_
              obtain ⟨rfl, rfl⟩ := Prod.mk.inj (Option.some.inj hf)
              exact kiret F hX hr hlocks rfl (kd dtX12_step_0 46 rfl)
            · have hf := kif_neg hc hf
              refine lv_iload hx hb (kd dtX12_step_0 41 rfl) (lv_at hl 4 rfl) ?_
              refine lv_goto (tgt := 80) hx hb (kd dtX12_step_0 42 rfl) (by decide) ?_
              obtain ⟨w16, h17, hf⟩ := kbind hf
              refine kcallV (n := 5) [.int x1, .int (2 : Int32), .int x2, .int x3, .int x4] [] [] (rX12_becomes l D aC hB h17) rfl hB.1 F hml hX hZ hl.1 mwX12_becomes wmX12_147 rfl (by decide) (by decide +kernel) ⟨(by decide), (by decide)⟩ rfl rfl rfl (Nat.le_of_ble_eq_true rfl) (kd dtX12_step_0 44 rfl) ⟨Nat.zero_le _, Nat.zero_le _⟩ (fun H locs hX => ?_)
              refine lv_iconst (v := (1 : Int32)) hx hb (kd dtX12_step_0 45 rfl) (by decide) ?_
              obtain ⟨rfl, rfl⟩ := Prod.mk.inj (Option.some.inj hf)
              exact kiret F hX hr hlocks rfl (kd dtX12_step_0 46 rfl)
          · have hf := kif_pos hc hf
            refine lv_bipush (v := (-3 : Int32)) hx hb (kd dtX12_step_0 31 rfl) (by decide) ?_
            obtain ⟨rfl, rfl⟩ := Prod.mk.inj (Option.some.inj hf)
            exact kiret F hX hr hlocks rfl (kd dtX12_step_0 32 rfl)
        · have hf := kif_neg hc hf
          refine lv_aload_n hx hb (kd dtX12_step_0 20 rfl) rfl (lv_at hl 0 rfl) ?_
          refine lv_iload hx hb (kd dtX12_step_0 21 rfl) (lv_at hl 4 rfl) ?_
          obtain ⟨v19, h18, hf⟩ := kbind hf
          refine kcallV (n := 1) [.int x4] [] [.int v19] (rX12_isKnown l D aC hB h18) rfl hB.1 F hml hX hZ hl.1 mwX12_isKnown wmX12_144 rfl (by decide) (by decide +kernel) ⟨(by decide), (by decide)⟩ rfl rfl rfl (Nat.le_of_ble_eq_true rfl) (kd dtX12_step_0 22 rfl) ⟨Nat.zero_le _, Nat.zero_le _⟩ (fun H locs hX => ?_)
          refine lv_if_eq (tgt := 58) hx hb (kd dtX12_step_0 23 rfl) (by decide) (fun hc => ?_) (fun hc => ?_)
          · have hf := kif_pos hc hf
            refine lv_bipush (v := (-3 : Int32)) hx hb (kd dtX12_step_0 31 rfl) (by decide) ?_
            obtain ⟨rfl, rfl⟩ := Prod.mk.inj (Option.some.inj hf)
            exact kiret F hX hr hlocks rfl (kd dtX12_step_0 32 rfl)
          · have hf := kif_neg hc hf
            refine lv_aload_n hx hb (kd dtX12_step_0 24 rfl) rfl (lv_at hl 0 rfl) ?_
            refine lv_iload_n hx hb (kd dtX12_step_0 25 rfl) rfl (lv_at hl 1 rfl) ?_
            refine lv_iload_n hx hb (kd dtX12_step_0 26 rfl) rfl (lv_at hl 2 rfl) ?_
            refine lv_iload_n hx hb (kd dtX12_step_0 27 rfl) rfl (lv_at hl 3 rfl) ?_
            refine lv_iload hx hb (kd dtX12_step_0 28 rfl) (lv_at hl 4 rfl) ?_
            obtain ⟨v22, w20, h21, hf⟩ := kbind2 hf
            refine kcallV (n := 4) [.int x1, .int x2, .int x3, .int x4] [] [.int v22] (rX12_isStep l D aC hB h21) rfl hB.1 F hml hX hZ hl.1 mwX12_isStep wmX12_210 rfl (by decide) (by decide +kernel) ⟨(by decide), (by decide)⟩ rfl rfl rfl (Nat.le_of_ble_eq_true rfl) (kd dtX12_step_0 29 rfl) ⟨Nat.zero_le _, Nat.zero_le _⟩ (fun H locs hX => ?_)
            refine lv_if_ne (tgt := 61) hx hb (kd dtX12_step_0 30 rfl) (by decide) (fun hc => ?_) (fun hc => ?_)
            · have hf := kif_neg hc hf
              refine lv_aload_n hx hb (kd dtX12_step_0 33 rfl) rfl (lv_at hl 0 rfl) ?_
              refine lv_iload_n hx hb (kd dtX12_step_0 34 rfl) rfl (lv_at hl 1 rfl) ?_
              refine lv_iconst (v := (2 : Int32)) hx hb (kd dtX12_step_0 35 rfl) (by decide) ?_
              refine lv_iload_n hx hb (kd dtX12_step_0 36 rfl) rfl (lv_at hl 2 rfl) ?_
              refine lv_iload_n hx hb (kd dtX12_step_0 37 rfl) rfl (lv_at hl 3 rfl) ?_
              refine lv_iload_n hx hb (kd dtX12_step_0 38 rfl) rfl (lv_at hl 2 rfl) ?_
              obtain ⟨v24, h23, hf⟩ := kbind hf
              refine kcallS (n := 1) [.int x2] [.int x3, .int x2, .int (2 : Int32), .int x1, .ref h0] [.int v24, .int x3, .int x2, .int (2 : Int32), .int x1, .ref h0] (rX12_isOfTwo l D aC (rWo h0 wB w20) h23) F hml hX hZ hl.1 mwX12_isOfTwo wmX12_204 (by decide +kernel) ⟨(by decide), (by decide)⟩ rfl rfl rfl (Nat.le_of_ble_eq_true rfl) (kd dtX12_step_0 39 rfl) ⟨Nat.zero_le _, Nat.zero_le _⟩ (fun H locs hX => ?_)
              refine lv_if_eq (tgt := 78) hx hb (kd dtX12_step_0 40 rfl) (by decide) (fun hc => ?_) (fun hc => ?_)
              · have hf := kif_pos hc hf
                refine lv_bipush (v := (-4 : Int32)) hx hb (kd dtX12_step_0 43 rfl) (by decide) ?_
                obtain ⟨w25, h26, hf⟩ := kbind hf
                refine kcallV (n := 5) [.int x1, .int (2 : Int32), .int x2, .int x3, .int (-4 : Int32)] [] [] (rX12_becomes l D aC hB h26) rfl hB.1 F hml hX hZ hl.1 mwX12_becomes wmX12_147 rfl (by decide) (by decide +kernel) ⟨(by decide), (by decide)⟩ rfl rfl rfl (Nat.le_of_ble_eq_true rfl) (kd dtX12_step_0 44 rfl) ⟨Nat.zero_le _, Nat.zero_le _⟩ (fun H locs hX => ?_)
                refine lv_iconst (v := (1 : Int32)) hx hb (kd dtX12_step_0 45 rfl) (by decide) ?_
                obtain ⟨rfl, rfl⟩ := Prod.mk.inj (Option.some.inj hf)
                exact kiret F hX hr hlocks rfl (kd dtX12_step_0 46 rfl)
              · have hf := kif_neg hc hf
                refine lv_iload hx hb (kd dtX12_step_0 41 rfl) (lv_at hl 4 rfl) ?_
                refine lv_goto (tgt := 80) hx hb (kd dtX12_step_0 42 rfl) (by decide) ?_
                obtain ⟨w27, h28, hf⟩ := kbind hf
                refine kcallV (n := 5) [.int x1, .int (2 : Int32), .int x2, .int x3, .int x4] [] [] (rX12_becomes l D aC hB h28) rfl hB.1 F hml hX hZ hl.1 mwX12_becomes wmX12_147 rfl (by decide) (by decide +kernel) ⟨(by decide), (by decide)⟩ rfl rfl rfl (Nat.le_of_ble_eq_true rfl) (kd dtX12_step_0 44 rfl) ⟨Nat.zero_le _, Nat.zero_le _⟩ (fun H locs hX => ?_)
                refine lv_iconst (v := (1 : Int32)) hx hb (kd dtX12_step_0 45 rfl) (by decide) ?_
                obtain ⟨rfl, rfl⟩ := Prod.mk.inj (Option.some.inj hf)
                exact kiret F hX hr hlocks rfl (kd dtX12_step_0 46 rfl)
            · have hf := kif_pos hc hf
              refine lv_bipush (v := (-3 : Int32)) hx hb (kd dtX12_step_0 31 rfl) (by decide) ?_
              obtain ⟨rfl, rfl⟩ := Prod.mk.inj (Option.some.inj hf)
              exact kiret F hX hr hlocks rfl (kd dtX12_step_0 32 rfl)
  · have hf := kif_pos hc hf
    refine lv_iconst (v := (-1 : Int32)) hx hb (kd dtX12_step_0 7 rfl) (by decide) ?_
    obtain ⟨rfl, rfl⟩ := Prod.mk.inj (Option.some.inj hf)
    exact kiret F hX hr hlocks rfl (kd dtX12_step_0 8 rfl)
def lX12_check_0 : List (Nat × Instr × Nat) := [(0, .aload_n 0, 1), (1, .iload_n 1, 1), (2, .iload_n 2, 1), (3, .iload_n 3, 1), (4, .iload 4, 2), (6, .invokevirtual 207, 3), (9, .ifCond .ne 7, 3), (12, .iconst (-1), 1), (13, .goto 20, 3), (16, .aload_n 0, 1), (17, .iload_n 1, 1), (18, .iload_n 2, 1), (19, .iload_n 3, 1), (20, .iload 4, 2), (22, .invokevirtual 210, 3), (25, .ifCond .eq 7, 3), (28, .iconst 1, 1), (29, .goto 4, 3), (32, .iconst 0, 1), (33, .ireturn, 1)]
theorem dtX12_check_0 : kDec cX12_check lX12_check_0 = true := by decide +kernel
noncomputable def fX12_check (x1 : Int32) (x2 : Int32) (x3 : Int32) (x4 : Int32) (w : rW) : Option (Int32 × rW) :=
  (fX12_isTold x1 x2 x3 x4 w).bind fun v2 =>
  if v2 = 0 then
  some ((-1 : Int32), w)
  else
  kb2 (fX12_isStep x1 x2 x3 x4 w) fun v5 w3 =>
  if v5 = 0 then
  some ((0 : Int32), w3)
  else
  some ((1 : Int32), w3)

set_option maxHeartbeats 4000000 in
set_option maxRecDepth 100000 in
theorem rX12_check (l : Launch) (D : va_G) (aC : Nat → ClassId) {h0 : Nat} {wB : kW} (hB : rOK h0 wB) {x1 : Int32} {x2 : Int32} {x3 : Int32} {x4 : Int32} {w : rW} {wR : rW} {oR : Int32} (h : fX12_check x1 x2 x3 x4 w = some (oR, wR)) : kC l D aC yX12_check cX12_check 5 (some .int) 806 18925 [.ref h0, .int x1, .int x2, .int x3, .int x4] (rWo h0 wB w) (some (.int oR)) (rWo h0 wB wR) 0 0 := by
  refine kOf (own := RX12) (by decide) rfl (Nat.le_of_ble_eq_true rfl) ?_
  intro p e s m below meth c ls F hml hr hlocks hnm hX hZ hl
  obtain ⟨hx, hb, hts, hown, hK⟩ := id F
  have hl : lv_has ls 5 [(0, .ref h0), (1, .int x1), (2, .int x2), (3, .int x3), (4, .int x4)] := hl
  have hf := h
  rw [fX12_check] at hf
  refine lv_aload_n hx hb (kd dtX12_check_0 0 rfl) rfl (lv_at hl 0 rfl) ?_
  refine lv_iload_n hx hb (kd dtX12_check_0 1 rfl) rfl (lv_at hl 1 rfl) ?_
  refine lv_iload_n hx hb (kd dtX12_check_0 2 rfl) rfl (lv_at hl 2 rfl) ?_
  refine lv_iload_n hx hb (kd dtX12_check_0 3 rfl) rfl (lv_at hl 3 rfl) ?_
  refine lv_iload hx hb (kd dtX12_check_0 4 rfl) (lv_at hl 4 rfl) ?_
  obtain ⟨v2, h1, hf⟩ := kbind hf
  refine kcallV (n := 4) [.int x1, .int x2, .int x3, .int x4] [] [.int v2] (rX12_isTold l D aC hB h1) rfl hB.1 F hml hX hZ hl.1 mwX12_isTold wmX12_207 rfl (by decide) (by decide +kernel) ⟨(by decide), (by decide)⟩ rfl rfl rfl (Nat.le_of_ble_eq_true rfl) (kd dtX12_check_0 5 rfl) ⟨Nat.zero_le _, Nat.zero_le _⟩ (fun H locs hX => ?_)
  refine lv_if_ne (tgt := 16) hx hb (kd dtX12_check_0 6 rfl) (by decide) (fun hc => ?_) (fun hc => ?_)
  · have hf := kif_neg hc hf
    refine lv_aload_n hx hb (kd dtX12_check_0 9 rfl) rfl (lv_at hl 0 rfl) ?_
    refine lv_iload_n hx hb (kd dtX12_check_0 10 rfl) rfl (lv_at hl 1 rfl) ?_
    refine lv_iload_n hx hb (kd dtX12_check_0 11 rfl) rfl (lv_at hl 2 rfl) ?_
    refine lv_iload_n hx hb (kd dtX12_check_0 12 rfl) rfl (lv_at hl 3 rfl) ?_
    refine lv_iload hx hb (kd dtX12_check_0 13 rfl) (lv_at hl 4 rfl) ?_
    obtain ⟨v5, w3, h4, hf⟩ := kbind2 hf
    refine kcallV (n := 4) [.int x1, .int x2, .int x3, .int x4] [] [.int v5] (rX12_isStep l D aC hB h4) rfl hB.1 F hml hX hZ hl.1 mwX12_isStep wmX12_210 rfl (by decide) (by decide +kernel) ⟨(by decide), (by decide)⟩ rfl rfl rfl (Nat.le_of_ble_eq_true rfl) (kd dtX12_check_0 14 rfl) ⟨Nat.zero_le _, Nat.zero_le _⟩ (fun H locs hX => ?_)
    refine lv_if_eq (tgt := 32) hx hb (kd dtX12_check_0 15 rfl) (by decide) (fun hc => ?_) (fun hc => ?_)
    · have hf := kif_pos hc hf
      refine lv_iconst (v := (0 : Int32)) hx hb (kd dtX12_check_0 18 rfl) (by decide) ?_
      obtain ⟨rfl, rfl⟩ := Prod.mk.inj (Option.some.inj hf)
      exact kiret F hX hr hlocks rfl (kd dtX12_check_0 19 rfl)
    · have hf := kif_neg hc hf
      refine lv_iconst (v := (1 : Int32)) hx hb (kd dtX12_check_0 16 rfl) (by decide) ?_
      refine lv_goto (tgt := 33) hx hb (kd dtX12_check_0 17 rfl) (by decide) ?_
      obtain ⟨rfl, rfl⟩ := Prod.mk.inj (Option.some.inj hf)
      exact kiret F hX hr hlocks rfl (kd dtX12_check_0 19 rfl)
  · have hf := kif_pos hc hf
    refine lv_iconst (v := (-1 : Int32)) hx hb (kd dtX12_check_0 7 rfl) (by decide) ?_
    refine lv_goto (tgt := 33) hx hb (kd dtX12_check_0 8 rfl) (by decide) ?_
    obtain ⟨rfl, rfl⟩ := Prod.mk.inj (Option.some.inj hf)
    exact kiret F hX hr hlocks rfl (kd dtX12_check_0 19 rfl)
def lX12_from_0 : List (Nat × Instr × Nat) := [(0, .aload_n 0, 1), (1, .iload_n 1, 1), (2, .invokevirtual 127, 3), (5, .ifCond .eq 15, 3), (8, .iload_n 2, 1), (9, .i2l, 1), (10, .lconst 0, 1), (11, .ldc2_w 161, 3), (14, .invokestatic 65, 3), (17, .ifCond .ne 5, 3), (20, .iconst (-1), 1), (21, .ireturn, 1), (22, .aload_n 0, 1), (23, .getfield 16, 3), (26, .bipush 43, 2), (28, .iload_n 1, 1), (29, .iadd, 1), (30, .iaload, 1), (31, .iconst 2, 1), (32, .if_icmp .eq 8, 3), (35, .bipush (-3), 2), (37, .goto 32, 3), (40, .aload_n 0, 1), (41, .getfield 16, 3), (44, .iload_n 2, 1), (45, .ifCond .ne 8, 3), (48, .bipush 83, 2), (50, .goto 16, 3), (53, .iload_n 2, 1), (54, .iconst 1, 1), (55, .if_icmp .ne 8, 3), (58, .bipush 123, 2), (60, .goto 6, 3), (63, .sipush 163, 3), (66, .iload_n 1, 1), (67, .iadd, 1), (68, .iaload, 1), (69, .ireturn, 1)]
theorem dtX12_from_0 : kDec cX12_from lX12_from_0 = true := by decide +kernel
noncomputable def fX12_from (x1 : Int32) (x2 : Int32) (w : rW) : Option Int32 :=
  (fX12_isLine x1 w).bind fun v2 =>
  if v2 = 0 then
  some (-1 : Int32)
  else
  (fX12_isIn x2.toInt64 (0 : Int64) (2 : Int64)).bind fun v4 =>
  if v4 = 0 then
  some (-1 : Int32)
  else
  (raI w 2 1000 ((43 : Int32) + x1)).bind fun v5 =>
  if v5 = (2 : Int32) then
  if x2 = 0 then
  (raI w 2 1000 ((83 : Int32) + x1)).bind fun v8 =>
  some v8
  else
  if x2 = (1 : Int32) then
  (raI w 2 1000 ((123 : Int32) + x1)).bind fun v7 =>
  some v7
  else
  (raI w 2 1000 ((163 : Int32) + x1)).bind fun v6 =>
  some v6
  else
  some (-3 : Int32)

set_option maxHeartbeats 4000000 in
set_option maxRecDepth 100000 in
theorem rX12_from (l : Launch) (D : va_G) (aC : Nat → ClassId) {h0 : Nat} {wB : kW} (hB : rOK h0 wB) {x1 : Int32} {x2 : Int32} {w : rW} {oR : Int32} (h : fX12_from x1 x2 w = some oR) : kC l D aC yX12_from cX12_from 3 (some .int) 3 58 [.ref h0, .int x1, .int x2] (rWo h0 wB w) (some (.int oR)) (rWo h0 wB w) 0 0 := by
  refine kOf (own := RX12) (by decide) rfl (Nat.le_of_ble_eq_true rfl) ?_
  intro p e s m below meth c ls F hml hr hlocks hnm hX hZ hl
  obtain ⟨hx, hb, hts, hown, hK⟩ := id F
  have hl : lv_has ls 3 [(0, .ref h0), (1, .int x1), (2, .int x2)] := hl
  have hf := h
  rw [fX12_from] at hf
  refine lv_aload_n hx hb (kd dtX12_from_0 0 rfl) rfl (lv_at hl 0 rfl) ?_
  refine lv_iload_n hx hb (kd dtX12_from_0 1 rfl) rfl (lv_at hl 1 rfl) ?_
  obtain ⟨v2, h1, hf⟩ := kbind hf
  refine kcallV (n := 1) [.int x1] [] [.int v2] (rX12_isLine l D aC hB h1) rfl hB.1 F hml hX hZ hl.1 mwX12_isLine wmX12_127 rfl (by decide) (by decide +kernel) ⟨(by decide), (by decide)⟩ rfl rfl rfl (Nat.le_of_ble_eq_true rfl) (kd dtX12_from_0 2 rfl) ⟨Nat.zero_le _, Nat.zero_le _⟩ (fun H locs hX => ?_)
  refine lv_if_eq (tgt := 20) hx hb (kd dtX12_from_0 3 rfl) (by decide) (fun hc => ?_) (fun hc => ?_)
  · have hf := kif_pos hc hf
    refine lv_iconst (v := (-1 : Int32)) hx hb (kd dtX12_from_0 10 rfl) (by decide) ?_
    obtain rfl := Option.some.inj hf
    exact kiret F hX hr hlocks rfl (kd dtX12_from_0 11 rfl)
  · have hf := kif_neg hc hf
    refine lv_iload_n hx hb (kd dtX12_from_0 4 rfl) rfl (lv_at hl 2 rfl) ?_
    refine lv_i2l (v := x2.toInt64) hx hb (kd dtX12_from_0 5 rfl) rfl ?_
    refine lv_lconst (v := (0 : Int64)) hx hb (kd dtX12_from_0 6 rfl) (by decide) ?_
    refine lv_ldc2 (v := (2 : Int64)) hx hb hown (hts _ wcX12_161) (kd dtX12_from_0 7 rfl) ?_
    obtain ⟨v4, h3, hf⟩ := kbind hf
    refine kcallS (n := 3) [.long x2.toInt64, .long (0 : Int64), .long (2 : Int64)] [] [.int v4] (rX12_isIn l D aC (rWo h0 wB w) h3) F hml hX hZ hl.1 mwX12_isIn wmX12_65 (by decide +kernel) ⟨(by decide), (by decide)⟩ rfl rfl rfl (Nat.le_of_ble_eq_true rfl) (kd dtX12_from_0 8 rfl) ⟨Nat.zero_le _, Nat.zero_le _⟩ (fun H locs hX => ?_)
    refine lv_if_ne (tgt := 22) hx hb (kd dtX12_from_0 9 rfl) (by decide) (fun hc => ?_) (fun hc => ?_)
    · have hf := kif_neg hc hf
      refine lv_aload_n hx hb (kd dtX12_from_0 12 rfl) rfl (lv_at hl 0 rfl) ?_
      refine rgetA (n := 2) (j := 2) hB (by decide) rfl F hX wfX12_16 (by decide) rfl (kd dtX12_from_0 13 rfl) ?_
      refine lv_bipush (v := (43 : Int32)) hx hb (kd dtX12_from_0 14 rfl) (by decide) ?_
      refine lv_iload_n hx hb (kd dtX12_from_0 15 rfl) rfl (lv_at hl 1 rfl) ?_
      refine lv_iadd hx hb (kd dtX12_from_0 16 rfl) ?_
      obtain ⟨v5, hv5, hf⟩ := kbind hf
      refine rald hB (by decide) hv5 F hX (kd dtX12_from_0 17 rfl) ?_
      refine lv_iconst (v := (2 : Int32)) hx hb (kd dtX12_from_0 18 rfl) (by decide) ?_
      refine lv_icmp_eq (tgt := 40) hx hb (kd dtX12_from_0 19 rfl) (by decide) (fun hc => ?_) (fun hc => ?_)
      · have hf := kif_pos hc hf
        refine lv_aload_n hx hb (kd dtX12_from_0 22 rfl) rfl (lv_at hl 0 rfl) ?_
        refine rgetA (n := 2) (j := 2) hB (by decide) rfl F hX wfX12_16 (by decide) rfl (kd dtX12_from_0 23 rfl) ?_
        refine lv_iload_n hx hb (kd dtX12_from_0 24 rfl) rfl (lv_at hl 2 rfl) ?_
        refine lv_if_ne (tgt := 53) hx hb (kd dtX12_from_0 25 rfl) (by decide) (fun hc => ?_) (fun hc => ?_)
        · have hf := kif_neg hc hf
          refine lv_iload_n hx hb (kd dtX12_from_0 28 rfl) rfl (lv_at hl 2 rfl) ?_
          refine lv_iconst (v := (1 : Int32)) hx hb (kd dtX12_from_0 29 rfl) (by decide) ?_
          refine lv_icmp_ne (tgt := 63) hx hb (kd dtX12_from_0 30 rfl) (by decide) (fun hc => ?_) (fun hc => ?_)
          · have hf := kif_neg hc hf
            refine lv_sipush (v := (163 : Int32)) hx hb (kd dtX12_from_0 33 rfl) (by decide) ?_
            refine lv_iload_n hx hb (kd dtX12_from_0 34 rfl) rfl (lv_at hl 1 rfl) ?_
            refine lv_iadd hx hb (kd dtX12_from_0 35 rfl) ?_
            obtain ⟨v6, hv6, hf⟩ := kbind hf
            refine rald hB (by decide) hv6 F hX (kd dtX12_from_0 36 rfl) ?_
            obtain rfl := Option.some.inj hf
            exact kiret F hX hr hlocks rfl (kd dtX12_from_0 37 rfl)
          · have hf := kif_pos hc hf
            refine lv_bipush (v := (123 : Int32)) hx hb (kd dtX12_from_0 31 rfl) (by decide) ?_
            refine lv_goto (tgt := 66) hx hb (kd dtX12_from_0 32 rfl) (by decide) ?_
            refine lv_iload_n hx hb (kd dtX12_from_0 34 rfl) rfl (lv_at hl 1 rfl) ?_
            refine lv_iadd hx hb (kd dtX12_from_0 35 rfl) ?_
            obtain ⟨v7, hv7, hf⟩ := kbind hf
            refine rald hB (by decide) hv7 F hX (kd dtX12_from_0 36 rfl) ?_
            obtain rfl := Option.some.inj hf
            exact kiret F hX hr hlocks rfl (kd dtX12_from_0 37 rfl)
        · have hf := kif_pos hc hf
          refine lv_bipush (v := (83 : Int32)) hx hb (kd dtX12_from_0 26 rfl) (by decide) ?_
          refine lv_goto (tgt := 66) hx hb (kd dtX12_from_0 27 rfl) (by decide) ?_
          refine lv_iload_n hx hb (kd dtX12_from_0 34 rfl) rfl (lv_at hl 1 rfl) ?_
          refine lv_iadd hx hb (kd dtX12_from_0 35 rfl) ?_
          obtain ⟨v8, hv8, hf⟩ := kbind hf
          refine rald hB (by decide) hv8 F hX (kd dtX12_from_0 36 rfl) ?_
          obtain rfl := Option.some.inj hf
          exact kiret F hX hr hlocks rfl (kd dtX12_from_0 37 rfl)
      · have hf := kif_neg hc hf
        refine lv_bipush (v := (-3 : Int32)) hx hb (kd dtX12_from_0 20 rfl) (by decide) ?_
        refine lv_goto (tgt := 69) hx hb (kd dtX12_from_0 21 rfl) (by decide) ?_
        obtain rfl := Option.some.inj hf
        exact kiret F hX hr hlocks rfl (kd dtX12_from_0 37 rfl)
    · have hf := kif_pos hc hf
      refine lv_iconst (v := (-1 : Int32)) hx hb (kd dtX12_from_0 10 rfl) (by decide) ?_
      obtain rfl := Option.some.inj hf
      exact kiret F hX hr hlocks rfl (kd dtX12_from_0 11 rfl)
def lX12_ends_0 : List (Nat × Instr × Nat) := [(0, .aload_n 0, 1), (1, .invokevirtual 108, 3), (4, .bipush 59, 2), (6, .if_icmp .eq 5, 3), (9, .iconst 0, 1), (10, .ireturn, 1), (11, .aload_n 0, 1), (12, .dup, 1), (13, .getfield 99, 3), (16, .iconst 1, 1), (17, .iadd, 1), (18, .putfield 99, 3), (21, .iconst 1, 1), (22, .ireturn, 1)]
theorem dtX12_ends_0 : kDec cX12_ends lX12_ends_0 = true := by decide +kernel
noncomputable def fX12_ends (w : rW) : Option (Int32 × rW) :=
  (fX12_sign w).bind fun v2 =>
  if v2 = (59 : Int32) then
  (rpF w 12 ((rF w 12) + (1 : Int32))).bind fun w3 =>
  some ((1 : Int32), w3)
  else
  some ((0 : Int32), w)

set_option maxHeartbeats 4000000 in
set_option maxRecDepth 100000 in
theorem rX12_ends (l : Launch) (D : va_G) (aC : Nat → ClassId) {h0 : Nat} {wB : kW} (hB : rOK h0 wB) {w : rW} {wR : rW} {oR : Int32} (h : fX12_ends w = some (oR, wR)) : kC l D aC yX12_ends cX12_ends 1 (some .boolean) 2 32 [.ref h0] (rWo h0 wB w) (some (.int oR)) (rWo h0 wB wR) 0 0 := by
  refine kOf (own := RX12) (by decide) rfl (Nat.le_of_ble_eq_true rfl) ?_
  intro p e s m below meth c ls F hml hr hlocks hnm hX hZ hl
  obtain ⟨hx, hb, hts, hown, hK⟩ := id F
  have hl : lv_has ls 1 [(0, .ref h0)] := hl
  have hf := h
  rw [fX12_ends] at hf
  refine lv_aload_n hx hb (kd dtX12_ends_0 0 rfl) rfl (lv_at hl 0 rfl) ?_
  obtain ⟨v2, h1, hf⟩ := kbind hf
  refine kcallV (n := 0) [] [] [.int v2] (rX12_sign l D aC hB h1) rfl hB.1 F hml hX hZ hl.1 mwX12_sign wmX12_108 rfl (by decide) (by decide +kernel) ⟨(by decide), (by decide)⟩ rfl rfl rfl (Nat.le_of_ble_eq_true rfl) (kd dtX12_ends_0 1 rfl) ⟨Nat.zero_le _, Nat.zero_le _⟩ (fun H locs hX => ?_)
  refine lv_bipush (v := (59 : Int32)) hx hb (kd dtX12_ends_0 2 rfl) (by decide) ?_
  refine lv_icmp_eq (tgt := 11) hx hb (kd dtX12_ends_0 3 rfl) (by decide) (fun hc => ?_) (fun hc => ?_)
  · have hf := kif_pos hc hf
    refine lv_aload_n hx hb (kd dtX12_ends_0 6 rfl) rfl (lv_at hl 0 rfl) ?_
    refine lv_dup hx hb (kd dtX12_ends_0 7 rfl) rfl ?_
    refine rgetF (j := 12) hB F hX wfX12_99 (by decide) rfl (kd dtX12_ends_0 8 rfl) ?_
    refine lv_iconst (v := (1 : Int32)) hx hb (kd dtX12_ends_0 9 rfl) (by decide) ?_
    refine lv_iadd hx hb (kd dtX12_ends_0 10 rfl) ?_
    obtain ⟨w3, hw3, hf⟩ := kbind hf
    refine rputF hw3 hB F hX wfX12_99 (by decide) rfl rfl rfl rfl (kd dtX12_ends_0 11 rfl) (fun H locs hX => ?_)
    refine lv_iconst (v := (1 : Int32)) hx hb (kd dtX12_ends_0 12 rfl) (by decide) ?_
    obtain ⟨rfl, rfl⟩ := Prod.mk.inj (Option.some.inj hf)
    exact kzret F hX hr hlocks rfl rfl (kd dtX12_ends_0 13 rfl)
  · have hf := kif_neg hc hf
    refine lv_iconst (v := (0 : Int32)) hx hb (kd dtX12_ends_0 4 rfl) (by decide) ?_
    obtain ⟨rfl, rfl⟩ := Prod.mk.inj (Option.some.inj hf)
    exact kzret F hX hr hlocks rfl rfl (kd dtX12_ends_0 5 rfl)
theorem wcX12_217 : Cond.constantLong RX12 217 (49 : Int64) ∈ kT := kTm 1572 (by decide +kernel) rfl
theorem wcX12_219 : Cond.constantLong RX12 219 (57 : Int64) ∈ kT := kTm 1573 (by decide +kernel) rfl
theorem wfX12_221 : Cond.fieldLink RX12 221 (TX12 19).1 (TX12 19).2.1 (TX12 19).2.2.1 ∈ kT := kTm 1253 (by decide +kernel) rfl
theorem wcX12_224 : Cond.constantLong RX12 224 (48 : Int64) ∈ kT := kTm 1574 (by decide +kernel) rfl
theorem wmX12_213 : Cond.methodLink RX12 213 yX12_ends ∈ kT := kTm 1568 (by decide +kernel) rfl
theorem mwX12_ends : kMV RX12 yX12_ends cX12_ends 1 (some .boolean) := ⟨kTm 1571 (by decide +kernel) rfl, kTm 106 (by decide +kernel) rfl, kTm 1570 (by decide +kernel) rfl, kTm 75 (by decide +kernel) rfl⟩
def lX12_readsStatement_0 : List (Nat × Instr × Nat) := [(0, .aload_n 0, 1), (1, .invokevirtual 108, 3), (4, .istore_n 1, 1), (5, .iload_n 1, 1), (6, .bipush 109, 2), (8, .if_icmp .eq 35, 3), (11, .iload_n 1, 1), (12, .bipush 100, 2), (14, .if_icmp .eq 29, 3), (17, .iload_n 1, 1), (18, .bipush 99, 2), (20, .if_icmp .eq 23, 3), (23, .iload_n 1, 1), (24, .bipush 108, 2), (26, .if_icmp .eq 17, 3), (29, .iload_n 1, 1), (30, .bipush 107, 2), (32, .if_icmp .eq 11, 3), (35, .iload_n 1, 1), (36, .bipush 115, 2), (38, .if_icmp .eq 5, 3), (41, .iconst 0, 1), (42, .ireturn, 1), (43, .aload_n 0, 1), (44, .dup, 1), (45, .getfield 99, 3), (48, .iconst 1, 1), (49, .iadd, 1), (50, .putfield 99, 3), (53, .iload_n 1, 1), (54, .bipush 107, 2), (56, .if_icmp .eq 14, 3), (59, .iload_n 1, 1), (60, .bipush 115, 2), (62, .if_icmp .eq 8, 3), (65, .aload_n 0, 1), (66, .invokevirtual 213, 3), (69, .ireturn, 1), (70, .aload_n 0, 1), (71, .invokevirtual 108, 3), (74, .i2l, 1), (75, .ldc2_w 217, 3), (78, .ldc2_w 219, 3), (81, .invokestatic 65, 3), (84, .ifCond .ne 5, 3), (87, .iconst 0, 1), (88, .ireturn, 1), (89, .aload_n 0, 1), (90, .iconst 0, 1), (91, .putfield 221, 3), (94, .iconst 0, 1), (95, .istore_n 2, 1), (96, .iload_n 2, 1), (97, .iconst 3, 1), (98, .if_icmp .ge 55, 3), (101, .aload_n 0, 1), (102, .invokevirtual 108, 3), (105, .i2l, 1), (106, .ldc2_w 224, 3), (109, .ldc2_w 219, 3), (112, .invokestatic 65, 3), (115, .ifCond .eq 38, 3), (118, .aload_n 0, 1), (119, .bipush 10, 2), (121, .aload_n 0, 1), (122, .getfield 221, 3), (125, .imul, 1), (126, .aload_n 0, 1), (127, .invokevirtual 108, 3), (130, .iadd, 1), (131, .bipush 48, 2), (133, .isub, 1), (134, .putfield 221, 3), (137, .aload_n 0, 1), (138, .dup, 1), (139, .getfield 99, 3), (142, .iconst 1, 1), (143, .iadd, 1), (144, .putfield 99, 3), (147, .iinc 2 1, 3)]
theorem dtX12_readsStatement_0 : kDec cX12_readsStatement lX12_readsStatement_0 = true := by decide +kernel
def lX12_readsStatement_1 : List (Nat × Instr × Nat) := [(150, .goto (-54), 3), (153, .aload_n 0, 1), (154, .invokevirtual 213, 3), (157, .ireturn, 1)]
theorem dtX12_readsStatement_1 : kDec cX12_readsStatement lX12_readsStatement_1 = true := by decide +kernel
noncomputable def fX12_readsStatement_L96 (x1 : Int32) : Nat → (Int32 → rW → Option (Int32 × rW)) → Int32 → rW → Option (Int32 × rW)
  | 0, _, _, _ => none
  | n + 1, k, x2, w =>
  if (3 : Int32) ≤ x2 then
  k x2 w
  else
  (fX12_sign w).bind fun v2 =>
  (fX12_isIn v2.toInt64 (48 : Int64) (57 : Int64)).bind fun v4 =>
  if v4 = 0 then
  k x2 w
  else
  (fX12_sign w).bind fun v6 =>
  (rpF w 19 ((((10 : Int32) * (rF w 19)) + v6) - (48 : Int32))).bind fun w7 =>
  (rpF w7 12 ((rF w7 12) + (1 : Int32))).bind fun w8 =>
  fX12_readsStatement_L96 x1 n k (x2 + (1 : Int32)) w8

noncomputable def fX12_readsStatement_J70 (x1 : Int32) (w : rW) : Option (Int32 × rW) :=
  (fX12_sign w).bind fun v2 =>
  (fX12_isIn v2.toInt64 (49 : Int64) (57 : Int64)).bind fun v4 =>
  if v4 = 0 then
  some ((0 : Int32), w)
  else
  (rpF w 19 (0 : Int32)).bind fun w5 =>
  fX12_readsStatement_L96 x1 kFU (fun y2_6 w7 => kb2 (fX12_ends w7) fun v10 w8 =>
  (kBl v10).bind fun v11 =>
  some (v11, w8)) (0 : Int32) w5

noncomputable def fX12_readsStatement_J43 (x1 : Int32) (w : rW) : Option (Int32 × rW) :=
  (rpF w 12 ((rF w 12) + (1 : Int32))).bind fun w1 =>
  if x1 = (107 : Int32) then
  fX12_readsStatement_J70 x1 w1
  else
  if x1 = (115 : Int32) then
  fX12_readsStatement_J70 x1 w1
  else
  kb2 (fX12_ends w1) fun v4 w2 =>
  (kBl v4).bind fun v5 =>
  some (v5, w2)

noncomputable def fX12_readsStatement (w : rW) : Option (Int32 × rW) :=
  (fX12_sign w).bind fun v2 =>
  if v2 = (109 : Int32) then
  fX12_readsStatement_J43 v2 w
  else
  if v2 = (100 : Int32) then
  fX12_readsStatement_J43 v2 w
  else
  if v2 = (99 : Int32) then
  fX12_readsStatement_J43 v2 w
  else
  if v2 = (108 : Int32) then
  fX12_readsStatement_J43 v2 w
  else
  if v2 = (107 : Int32) then
  fX12_readsStatement_J43 v2 w
  else
  if v2 = (115 : Int32) then
  fX12_readsStatement_J43 v2 w
  else
  some ((0 : Int32), w)

set_option maxHeartbeats 4000000 in
set_option maxRecDepth 100000 in
theorem rX12_readsStatement (l : Launch) (D : va_G) (aC : Nat → ClassId) {h0 : Nat} {wB : kW} (hB : rOK h0 wB) {w : rW} {wR : rW} {oR : Int32} (h : fX12_readsStatement w = some (oR, wR)) : kC l D aC yX12_readsStatement cX12_readsStatement 3 (some .boolean) 3 52 [.ref h0] (rWo h0 wB w) (some (.int oR)) (rWo h0 wB wR) 0 0 := by
  refine kOf (own := RX12) (by decide) rfl (Nat.le_of_ble_eq_true rfl) ?_
  intro p e s m below meth c ls F hml hr hlocks hnm hX hZ hl
  obtain ⟨hx, hb, hts, hown, hK⟩ := id F
  have hl : lv_has ls 3 [(0, .ref h0)] := hl
  have hJ0_70 : ∀ (j1_70 : Int32) (w_j70 : rW) (H : Heap) (locs : List Loc) (ls : Array Slot), kX D aC (rWo h0 wB w) s.heap (rWo h0 wB w_j70) H locs → lv_has ls 3 [(0, .ref h0), (1, .int j1_70)] → fX12_readsStatement_J70 j1_70 w_j70 = some (oR, wR) → W p l e { frames := 3, cells := 0, slots := 0, locals := 52 } s m ([.ref h0] : List Value).toArray below meth c H locs 0 0 (MQ below (kQc D aC (rWo h0 wB w) (some (.int oR)) (rWo h0 wB wR)) ([.ref h0] : List Value).toArray s 0 0 (kA (rWo h0 wB w))) (F0 m 70 ls []) := by
    intro j1_70 w_j70 H locs ls hX hl hf
    rw [fX12_readsStatement_J70] at hf
    refine lv_aload_n hx hb (kd dtX12_readsStatement_0 38 rfl) rfl (lv_at hl 0 rfl) ?_
    obtain ⟨v9, h8, hf⟩ := kbind hf
    refine kcallV (n := 0) [] [] [.int v9] (rX12_sign l D aC hB h8) rfl hB.1 F hml hX hZ hl.1 mwX12_sign wmX12_108 rfl (by decide) (by decide +kernel) ⟨(by decide), (by decide)⟩ rfl rfl rfl (Nat.le_of_ble_eq_true rfl) (kd dtX12_readsStatement_0 39 rfl) ⟨Nat.zero_le _, Nat.zero_le _⟩ (fun H locs hX => ?_)
    refine lv_i2l (v := v9.toInt64) hx hb (kd dtX12_readsStatement_0 40 rfl) rfl ?_
    refine lv_ldc2 (v := (49 : Int64)) hx hb hown (hts _ wcX12_217) (kd dtX12_readsStatement_0 41 rfl) ?_
    refine lv_ldc2 (v := (57 : Int64)) hx hb hown (hts _ wcX12_219) (kd dtX12_readsStatement_0 42 rfl) ?_
    obtain ⟨v11, h10, hf⟩ := kbind hf
    refine kcallS (n := 3) [.long v9.toInt64, .long (49 : Int64), .long (57 : Int64)] [] [.int v11] (rX12_isIn l D aC (rWo h0 wB w_j70) h10) F hml hX hZ hl.1 mwX12_isIn wmX12_65 (by decide +kernel) ⟨(by decide), (by decide)⟩ rfl rfl rfl (Nat.le_of_ble_eq_true rfl) (kd dtX12_readsStatement_0 43 rfl) ⟨Nat.zero_le _, Nat.zero_le _⟩ (fun H locs hX => ?_)
    refine lv_if_ne (tgt := 89) hx hb (kd dtX12_readsStatement_0 44 rfl) (by decide) (fun hc => ?_) (fun hc => ?_)
    · have hf := kif_neg hc hf
      refine lv_aload_n hx hb (kd dtX12_readsStatement_0 47 rfl) rfl (lv_at hl 0 rfl) ?_
      refine lv_iconst (v := (0 : Int32)) hx hb (kd dtX12_readsStatement_0 48 rfl) (by decide) ?_
      obtain ⟨w12, hw12, hf⟩ := kbind hf
      refine rputF hw12 hB F hX wfX12_221 (by decide) rfl rfl rfl rfl (kd dtX12_readsStatement_0 49 rfl) (fun H locs hX => ?_)
      refine lv_iconst (v := (0 : Int32)) hx hb (kd dtX12_readsStatement_0 50 rfl) (by decide) ?_
      refine lv_istore_n (lv' := [(2, .int (0 : Int32)), (0, .ref h0), (1, .int j1_70)]) hx hb (kd dtX12_readsStatement_0 51 rfl) rfl hl (by decide) rfl (fun ls hl => ?_)
      have hL96 : ∀ (n : Nat) (k : Int32 → rW → Option (Int32 × rW)), ∀ (z2_96 : Int32) (w_96 : rW) (H : Heap) (locs : List Loc) (ls : Array Slot), kX D aC (rWo h0 wB w) s.heap (rWo h0 wB w_96) H locs → lv_has ls 3 [(0, .ref h0), (1, .int j1_70), (2, .int z2_96)] → fX12_readsStatement_L96 j1_70 n k z2_96 w_96 = some (oR, wR) → (∀ (z2_96 : Int32) (w_96 : rW) (H : Heap) (locs : List Loc) (ls : Array Slot), kX D aC (rWo h0 wB w) s.heap (rWo h0 wB w_96) H locs → lv_has ls 3 [(0, .ref h0), (1, .int j1_70), (2, .int z2_96)] → k z2_96 w_96 = some (oR, wR) → W p l e { frames := 3, cells := 0, slots := 0, locals := 52 } s m ([.ref h0] : List Value).toArray below meth c H locs 0 0 (MQ below (kQc D aC (rWo h0 wB w) (some (.int oR)) (rWo h0 wB wR)) ([.ref h0] : List Value).toArray s 0 0 (kA (rWo h0 wB w))) (F0 m 153 ls [])) → W p l e { frames := 3, cells := 0, slots := 0, locals := 52 } s m ([.ref h0] : List Value).toArray below meth c H locs 0 0 (MQ below (kQc D aC (rWo h0 wB w) (some (.int oR)) (rWo h0 wB wR)) ([.ref h0] : List Value).toArray s 0 0 (kA (rWo h0 wB w))) (F0 m 96 ls []) := by
        intro n k
        induction n with
        | zero =>
          intro z2_96 w_96 H locs ls hX hl hf hk
          rw [fX12_readsStatement_L96] at hf
          cases hf
        | succ n ih =>
          intro z2_96 w_96 H locs ls hX hl hf hk
          rw [fX12_readsStatement_L96] at hf
          refine lv_iload_n hx hb (kd dtX12_readsStatement_0 52 rfl) rfl (lv_at hl 2 rfl) ?_
          refine lv_iconst (v := (3 : Int32)) hx hb (kd dtX12_readsStatement_0 53 rfl) (by decide) ?_
          refine lv_icmp_ge (tgt := 153) hx hb (kd dtX12_readsStatement_0 54 rfl) (by decide) (fun hc => ?_) (fun hc => ?_)
          · have hf := kif_pos hc hf
            exact hk z2_96 w_96 _ _ _ hX hl hf
          · have hf := kif_neg hc hf
            refine lv_aload_n hx hb (kd dtX12_readsStatement_0 55 rfl) rfl (lv_at hl 0 rfl) ?_
            obtain ⟨v20, h19, hf⟩ := kbind hf
            refine kcallV (n := 0) [] [] [.int v20] (rX12_sign l D aC hB h19) rfl hB.1 F hml hX hZ hl.1 mwX12_sign wmX12_108 rfl (by decide) (by decide +kernel) ⟨(by decide), (by decide)⟩ rfl rfl rfl (Nat.le_of_ble_eq_true rfl) (kd dtX12_readsStatement_0 56 rfl) ⟨Nat.zero_le _, Nat.zero_le _⟩ (fun H locs hX => ?_)
            refine lv_i2l (v := v20.toInt64) hx hb (kd dtX12_readsStatement_0 57 rfl) rfl ?_
            refine lv_ldc2 (v := (48 : Int64)) hx hb hown (hts _ wcX12_224) (kd dtX12_readsStatement_0 58 rfl) ?_
            refine lv_ldc2 (v := (57 : Int64)) hx hb hown (hts _ wcX12_219) (kd dtX12_readsStatement_0 59 rfl) ?_
            obtain ⟨v22, h21, hf⟩ := kbind hf
            refine kcallS (n := 3) [.long v20.toInt64, .long (48 : Int64), .long (57 : Int64)] [] [.int v22] (rX12_isIn l D aC (rWo h0 wB w_96) h21) F hml hX hZ hl.1 mwX12_isIn wmX12_65 (by decide +kernel) ⟨(by decide), (by decide)⟩ rfl rfl rfl (Nat.le_of_ble_eq_true rfl) (kd dtX12_readsStatement_0 60 rfl) ⟨Nat.zero_le _, Nat.zero_le _⟩ (fun H locs hX => ?_)
            refine lv_if_eq (tgt := 153) hx hb (kd dtX12_readsStatement_0 61 rfl) (by decide) (fun hc => ?_) (fun hc => ?_)
            · have hf := kif_pos hc hf
              exact hk z2_96 w_96 _ _ _ hX hl hf
            · have hf := kif_neg hc hf
              refine lv_aload_n hx hb (kd dtX12_readsStatement_0 62 rfl) rfl (lv_at hl 0 rfl) ?_
              refine lv_bipush (v := (10 : Int32)) hx hb (kd dtX12_readsStatement_0 63 rfl) (by decide) ?_
              refine lv_aload_n hx hb (kd dtX12_readsStatement_0 64 rfl) rfl (lv_at hl 0 rfl) ?_
              refine rgetF (j := 19) hB F hX wfX12_221 (by decide) rfl (kd dtX12_readsStatement_0 65 rfl) ?_
              refine lv_imul hx hb (kd dtX12_readsStatement_0 66 rfl) ?_
              refine lv_aload_n hx hb (kd dtX12_readsStatement_0 67 rfl) rfl (lv_at hl 0 rfl) ?_
              obtain ⟨v24, h23, hf⟩ := kbind hf
              refine kcallV (n := 0) [] [.int ((10 : Int32) * (rF w_96 19)), .ref h0] [.int v24, .int ((10 : Int32) * (rF w_96 19)), .ref h0] (rX12_sign l D aC hB h23) rfl hB.1 F hml hX hZ hl.1 mwX12_sign wmX12_108 rfl (by decide) (by decide +kernel) ⟨(by decide), (by decide)⟩ rfl rfl rfl (Nat.le_of_ble_eq_true rfl) (kd dtX12_readsStatement_0 68 rfl) ⟨Nat.zero_le _, Nat.zero_le _⟩ (fun H locs hX => ?_)
              refine lv_iadd hx hb (kd dtX12_readsStatement_0 69 rfl) ?_
              refine lv_bipush (v := (48 : Int32)) hx hb (kd dtX12_readsStatement_0 70 rfl) (by decide) ?_
              refine lv_isub hx hb (kd dtX12_readsStatement_0 71 rfl) ?_
              obtain ⟨w25, hw25, hf⟩ := kbind hf
              refine rputF hw25 hB F hX wfX12_221 (by decide) rfl rfl rfl rfl (kd dtX12_readsStatement_0 72 rfl) (fun H locs hX => ?_)
              refine lv_aload_n hx hb (kd dtX12_readsStatement_0 73 rfl) rfl (lv_at hl 0 rfl) ?_
              refine lv_dup hx hb (kd dtX12_readsStatement_0 74 rfl) rfl ?_
              refine rgetF (j := 12) hB F hX wfX12_99 (by decide) rfl (kd dtX12_readsStatement_0 75 rfl) ?_
              refine lv_iconst (v := (1 : Int32)) hx hb (kd dtX12_readsStatement_0 76 rfl) (by decide) ?_
              refine lv_iadd hx hb (kd dtX12_readsStatement_0 77 rfl) ?_
              obtain ⟨w26, hw26, hf⟩ := kbind hf
              refine rputF hw26 hB F hX wfX12_99 (by decide) rfl rfl rfl rfl (kd dtX12_readsStatement_0 78 rfl) (fun H locs hX => ?_)
              refine lv_iinc (v := z2_96 + (1 : Int32)) (lv' := [(2, .int (z2_96 + (1 : Int32))), (0, .ref h0), (1, .int j1_70)]) hx hb (kd dtX12_readsStatement_0 79 rfl) hl (k := 2) rfl (by rfl) (by decide) rfl (fun ls hl => ?_)
              refine lv_goto (tgt := 96) hx hb (kd dtX12_readsStatement_1 0 rfl) (by decide) ?_
              exact ih (z2_96 + (1 : Int32)) w26 _ _ _ hX (lv_sub hl [1, 2, 0] rfl) hf hk
      refine hL96 kFU _ (0 : Int32) w12 _ _ _ hX (lv_sub hl [1, 2, 0] rfl) hf ?_
      intro y2_13 w14 H locs ls hX hl hf
      refine lv_aload_n hx hb (kd dtX12_readsStatement_1 1 rfl) rfl (lv_at hl 0 rfl) ?_
      obtain ⟨v17, w15, h16, hf⟩ := kbind2 hf
      refine kcallV (n := 0) [] [] [.int v17] (rX12_ends l D aC hB h16) rfl hB.1 F hml hX hZ hl.1 mwX12_ends wmX12_213 rfl (by decide) (by decide +kernel) ⟨(by decide), (by decide)⟩ rfl rfl rfl (Nat.le_of_ble_eq_true rfl) (kd dtX12_readsStatement_1 2 rfl) ⟨Nat.zero_le _, Nat.zero_le _⟩ (fun H locs hX => ?_)
      obtain ⟨v18, hv18, hf⟩ := kbind hf
      obtain rfl := kBl_e hv18
      obtain ⟨rfl, rfl⟩ := Prod.mk.inj (Option.some.inj hf)
      exact kzret F hX hr hlocks hv18 rfl (kd dtX12_readsStatement_1 3 rfl)
    · have hf := kif_pos hc hf
      refine lv_iconst (v := (0 : Int32)) hx hb (kd dtX12_readsStatement_0 45 rfl) (by decide) ?_
      obtain ⟨rfl, rfl⟩ := Prod.mk.inj (Option.some.inj hf)
      exact kzret F hX hr hlocks rfl rfl (kd dtX12_readsStatement_0 46 rfl)
  have hJ0_43 : ∀ (j1_43 : Int32) (w_j43 : rW) (H : Heap) (locs : List Loc) (ls : Array Slot), kX D aC (rWo h0 wB w) s.heap (rWo h0 wB w_j43) H locs → lv_has ls 3 [(0, .ref h0), (1, .int j1_43)] → fX12_readsStatement_J43 j1_43 w_j43 = some (oR, wR) → W p l e { frames := 3, cells := 0, slots := 0, locals := 52 } s m ([.ref h0] : List Value).toArray below meth c H locs 0 0 (MQ below (kQc D aC (rWo h0 wB w) (some (.int oR)) (rWo h0 wB wR)) ([.ref h0] : List Value).toArray s 0 0 (kA (rWo h0 wB w))) (F0 m 43 ls []) := by
    intro j1_43 w_j43 H locs ls hX hl hf
    rw [fX12_readsStatement_J43] at hf
    refine lv_aload_n hx hb (kd dtX12_readsStatement_0 23 rfl) rfl (lv_at hl 0 rfl) ?_
    refine lv_dup hx hb (kd dtX12_readsStatement_0 24 rfl) rfl ?_
    refine rgetF (j := 12) hB F hX wfX12_99 (by decide) rfl (kd dtX12_readsStatement_0 25 rfl) ?_
    refine lv_iconst (v := (1 : Int32)) hx hb (kd dtX12_readsStatement_0 26 rfl) (by decide) ?_
    refine lv_iadd hx hb (kd dtX12_readsStatement_0 27 rfl) ?_
    obtain ⟨w3, hw3, hf⟩ := kbind hf
    refine rputF hw3 hB F hX wfX12_99 (by decide) rfl rfl rfl rfl (kd dtX12_readsStatement_0 28 rfl) (fun H locs hX => ?_)
    refine lv_iload_n hx hb (kd dtX12_readsStatement_0 29 rfl) rfl (lv_at hl 1 rfl) ?_
    refine lv_bipush (v := (107 : Int32)) hx hb (kd dtX12_readsStatement_0 30 rfl) (by decide) ?_
    refine lv_icmp_eq (tgt := 70) hx hb (kd dtX12_readsStatement_0 31 rfl) (by decide) (fun hc => ?_) (fun hc => ?_)
    · have hf := kif_pos hc hf
      exact hJ0_70 j1_43 w3 _ _ _ hX hl hf
    · have hf := kif_neg hc hf
      refine lv_iload_n hx hb (kd dtX12_readsStatement_0 32 rfl) rfl (lv_at hl 1 rfl) ?_
      refine lv_bipush (v := (115 : Int32)) hx hb (kd dtX12_readsStatement_0 33 rfl) (by decide) ?_
      refine lv_icmp_eq (tgt := 70) hx hb (kd dtX12_readsStatement_0 34 rfl) (by decide) (fun hc => ?_) (fun hc => ?_)
      · have hf := kif_pos hc hf
        exact hJ0_70 j1_43 w3 _ _ _ hX hl hf
      · have hf := kif_neg hc hf
        refine lv_aload_n hx hb (kd dtX12_readsStatement_0 35 rfl) rfl (lv_at hl 0 rfl) ?_
        obtain ⟨v6, w4, h5, hf⟩ := kbind2 hf
        refine kcallV (n := 0) [] [] [.int v6] (rX12_ends l D aC hB h5) rfl hB.1 F hml hX hZ hl.1 mwX12_ends wmX12_213 rfl (by decide) (by decide +kernel) ⟨(by decide), (by decide)⟩ rfl rfl rfl (Nat.le_of_ble_eq_true rfl) (kd dtX12_readsStatement_0 36 rfl) ⟨Nat.zero_le _, Nat.zero_le _⟩ (fun H locs hX => ?_)
        obtain ⟨v7, hv7, hf⟩ := kbind hf
        obtain rfl := kBl_e hv7
        obtain ⟨rfl, rfl⟩ := Prod.mk.inj (Option.some.inj hf)
        exact kzret F hX hr hlocks hv7 rfl (kd dtX12_readsStatement_0 37 rfl)
  have hf := h
  rw [fX12_readsStatement] at hf
  refine lv_aload_n hx hb (kd dtX12_readsStatement_0 0 rfl) rfl (lv_at hl 0 rfl) ?_
  obtain ⟨v2, h1, hf⟩ := kbind hf
  refine kcallV (n := 0) [] [] [.int v2] (rX12_sign l D aC hB h1) rfl hB.1 F hml hX hZ hl.1 mwX12_sign wmX12_108 rfl (by decide) (by decide +kernel) ⟨(by decide), (by decide)⟩ rfl rfl rfl (Nat.le_of_ble_eq_true rfl) (kd dtX12_readsStatement_0 1 rfl) ⟨Nat.zero_le _, Nat.zero_le _⟩ (fun H locs hX => ?_)
  refine lv_istore_n (lv' := [(1, .int v2), (0, .ref h0)]) hx hb (kd dtX12_readsStatement_0 2 rfl) rfl hl (by decide) rfl (fun ls hl => ?_)
  refine lv_iload_n hx hb (kd dtX12_readsStatement_0 3 rfl) rfl (lv_at hl 0 rfl) ?_
  refine lv_bipush (v := (109 : Int32)) hx hb (kd dtX12_readsStatement_0 4 rfl) (by decide) ?_
  refine lv_icmp_eq (tgt := 43) hx hb (kd dtX12_readsStatement_0 5 rfl) (by decide) (fun hc => ?_) (fun hc => ?_)
  · have hf := kif_pos hc hf
    exact hJ0_43 v2 w _ _ _ hX (lv_sub hl [1, 0] rfl) hf
  · have hf := kif_neg hc hf
    refine lv_iload_n hx hb (kd dtX12_readsStatement_0 6 rfl) rfl (lv_at hl 0 rfl) ?_
    refine lv_bipush (v := (100 : Int32)) hx hb (kd dtX12_readsStatement_0 7 rfl) (by decide) ?_
    refine lv_icmp_eq (tgt := 43) hx hb (kd dtX12_readsStatement_0 8 rfl) (by decide) (fun hc => ?_) (fun hc => ?_)
    · have hf := kif_pos hc hf
      exact hJ0_43 v2 w _ _ _ hX (lv_sub hl [1, 0] rfl) hf
    · have hf := kif_neg hc hf
      refine lv_iload_n hx hb (kd dtX12_readsStatement_0 9 rfl) rfl (lv_at hl 0 rfl) ?_
      refine lv_bipush (v := (99 : Int32)) hx hb (kd dtX12_readsStatement_0 10 rfl) (by decide) ?_
      refine lv_icmp_eq (tgt := 43) hx hb (kd dtX12_readsStatement_0 11 rfl) (by decide) (fun hc => ?_) (fun hc => ?_)
      · have hf := kif_pos hc hf
        exact hJ0_43 v2 w _ _ _ hX (lv_sub hl [1, 0] rfl) hf
      · have hf := kif_neg hc hf
        refine lv_iload_n hx hb (kd dtX12_readsStatement_0 12 rfl) rfl (lv_at hl 0 rfl) ?_
        refine lv_bipush (v := (108 : Int32)) hx hb (kd dtX12_readsStatement_0 13 rfl) (by decide) ?_
        refine lv_icmp_eq (tgt := 43) hx hb (kd dtX12_readsStatement_0 14 rfl) (by decide) (fun hc => ?_) (fun hc => ?_)
        · have hf := kif_pos hc hf
          exact hJ0_43 v2 w _ _ _ hX (lv_sub hl [1, 0] rfl) hf
        · have hf := kif_neg hc hf
          refine lv_iload_n hx hb (kd dtX12_readsStatement_0 15 rfl) rfl (lv_at hl 0 rfl) ?_
          refine lv_bipush (v := (107 : Int32)) hx hb (kd dtX12_readsStatement_0 16 rfl) (by decide) ?_
          refine lv_icmp_eq (tgt := 43) hx hb (kd dtX12_readsStatement_0 17 rfl) (by decide) (fun hc => ?_) (fun hc => ?_)
          · have hf := kif_pos hc hf
            exact hJ0_43 v2 w _ _ _ hX (lv_sub hl [1, 0] rfl) hf
          · have hf := kif_neg hc hf
            refine lv_iload_n hx hb (kd dtX12_readsStatement_0 18 rfl) rfl (lv_at hl 0 rfl) ?_
            refine lv_bipush (v := (115 : Int32)) hx hb (kd dtX12_readsStatement_0 19 rfl) (by decide) ?_
            refine lv_icmp_eq (tgt := 43) hx hb (kd dtX12_readsStatement_0 20 rfl) (by decide) (fun hc => ?_) (fun hc => ?_)
            · have hf := kif_pos hc hf
              exact hJ0_43 v2 w _ _ _ hX (lv_sub hl [1, 0] rfl) hf
            · have hf := kif_neg hc hf
              refine lv_iconst (v := (0 : Int32)) hx hb (kd dtX12_readsStatement_0 21 rfl) (by decide) ?_
              obtain ⟨rfl, rfl⟩ := Prod.mk.inj (Option.some.inj hf)
              exact kzret F hX hr hlocks rfl rfl (kd dtX12_readsStatement_0 22 rfl)
theorem wmX12_226 : Cond.methodLink RX12 226 yX12_readsStatement ∈ kT := kTm 1564 (by decide +kernel) rfl
theorem mwX12_readsStatement : kMV RX12 yX12_readsStatement cX12_readsStatement 3 (some .boolean) := ⟨kTm 1567 (by decide +kernel) rfl, kTm 106 (by decide +kernel) rfl, kTm 1566 (by decide +kernel) rfl, kTm 74 (by decide +kernel) rfl⟩
def lX12_program_0 : List (Nat × Instr × Nat) := [(0, .iload_n 1, 1), (1, .invokestatic 118, 3), (4, .ifCond .ne 5, 3), (7, .iconst (-1), 1), (8, .ireturn, 1), (9, .aload_n 0, 1), (10, .getfield 16, 3), (13, .iconst 2, 1), (14, .iaload, 1), (15, .bipush 6, 2), (17, .if_icmp .ne 6, 3), (20, .bipush (-2), 2), (22, .ireturn, 1), (23, .aload_n 0, 1), (24, .iload_n 1, 1), (25, .iconst 0, 1), (26, .invokevirtual 121, 3), (29, .istore_n 2, 1), (30, .iload_n 2, 1), (31, .ifCond .eq 5, 3), (34, .iload_n 2, 1), (35, .ireturn, 1), (36, .aload_n 0, 1), (37, .bipush 120, 2), (39, .iload_n 1, 1), (40, .imul, 1), (41, .putfield 105, 3), (44, .aload_n 0, 1), (45, .aload_n 0, 1), (46, .getfield 28, 3), (49, .iload_n 1, 1), (50, .iaload, 1), (51, .putfield 102, 3), (54, .aload_n 0, 1), (55, .iconst 0, 1), (56, .putfield 99, 3), (59, .aload_n 0, 1), (60, .invokevirtual 226, 3), (63, .ifCond .ne 11, 3), (66, .bipush (-100), 2), (68, .aload_n 0, 1), (69, .getfield 99, 3), (72, .isub, 1), (73, .ireturn, 1), (74, .aload_n 0, 1), (75, .getfield 99, 3), (78, .aload_n 0, 1), (79, .getfield 102, 3), (82, .if_icmp .lt (-23), 3), (85, .sipush 243, 3), (88, .bipush 121, 2), (90, .aload_n 0, 1), (91, .getfield 16, 3), (94, .iconst 2, 1), (95, .iaload, 1), (96, .imul, 1), (97, .iadd, 1), (98, .istore_n 3, 1), (99, .aload_n 0, 1), (100, .getfield 16, 3), (103, .iload_n 3, 1), (104, .aload_n 0, 1), (105, .getfield 102, 3), (108, .iastore, 1), (109, .iconst 0, 1), (110, .istore 4, 2), (112, .iload 4, 2), (114, .aload_n 0, 1), (115, .getfield 102, 3), (118, .if_icmp .ge 32, 3), (121, .aload_n 0, 1), (122, .getfield 16, 3), (125, .iload_n 3, 1), (126, .iconst 1, 1), (127, .iadd, 1), (128, .iload 4, 2), (130, .iadd, 1), (131, .aload_n 0, 1), (132, .getfield 31, 3), (135, .aload_n 0, 1)]
theorem dtX12_program_0 : kDec cX12_program lX12_program_0 = true := by decide +kernel
def lX12_program_1 : List (Nat × Instr × Nat) := [(136, .getfield 105, 3), (139, .iload 4, 2), (141, .iadd, 1), (142, .iaload, 1), (143, .iastore, 1), (144, .iinc 4 1, 3), (147, .goto (-35), 3), (150, .aload_n 0, 1), (151, .getfield 16, 3), (154, .iconst 2, 1), (155, .dup2, 1), (156, .iaload, 1), (157, .iconst 1, 1), (158, .iadd, 1), (159, .iastore, 1), (160, .aload_n 0, 1), (161, .getfield 16, 3), (164, .iconst 2, 1), (165, .iaload, 1), (166, .iconst 1, 1), (167, .isub, 1), (168, .ireturn, 1)]
theorem dtX12_program_1 : kDec cX12_program lX12_program_1 = true := by decide +kernel
noncomputable def fX12_program_L59 (x1 : Int32) (x2 : Int32) : Nat → (rW → Option (Int32 × rW)) → rW → Option (Int32 × rW)
  | 0, _, _ => none
  | n + 1, k, w =>
  kb2 (fX12_readsStatement w) fun v3 w1 =>
  if v3 = 0 then
  some ((-100 : Int32) - (rF w1 12), w1)
  else
  if (rF w1 12) < (rF w1 14) then
  fX12_program_L59 x1 x2 n k w1
  else
  k w1

noncomputable def fX12_program_L112 (x1 : Int32) (x2 : Int32) (x3 : Int32) : Nat → (Int32 → rW → Option (Int32 × rW)) → Int32 → rW → Option (Int32 × rW)
  | 0, _, _, _ => none
  | n + 1, k, x4, w =>
  if (rF w 14) ≤ x4 then
  k x4 w
  else
  (raI w 7 960 ((rF w 13) + x4)).bind fun v1 =>
  (rsI w 2 1000 ((x3 + (1 : Int32)) + x4) v1).bind fun w2 =>
  fX12_program_L112 x1 x2 x3 n k (x4 + (1 : Int32)) w2

noncomputable def fX12_program (x1 : Int32) (w : rW) : Option (Int32 × rW) :=
  (fX12_isShelf x1).bind fun v2 =>
  if v2 = 0 then
  some ((-1 : Int32), w)
  else
  (raI w 2 1000 (2 : Int32)).bind fun v3 =>
  if v3 = (6 : Int32) then
  some ((-2 : Int32), w)
  else
  (fX12_wrongRow x1 (0 : Int32) w).bind fun v5 =>
  if v5 = 0 then
  (rpF w 13 ((120 : Int32) * x1)).bind fun w6 =>
  (raI w6 6 8 x1).bind fun v7 =>
  (rpF w6 14 v7).bind fun w8 =>
  (rpF w8 12 (0 : Int32)).bind fun w9 =>
  fX12_program_L59 x1 v5 kFU (fun w10 => (raI w10 2 1000 (2 : Int32)).bind fun v11 =>
  (rsI w10 2 1000 ((243 : Int32) + ((121 : Int32) * v11)) (rF w10 14)).bind fun w12 =>
  fX12_program_L112 x1 v5 ((243 : Int32) + ((121 : Int32) * v11)) kFU (fun y4_13 w14 => (raI w14 2 1000 (2 : Int32)).bind fun v15 =>
  (rsI w14 2 1000 (2 : Int32) (v15 + (1 : Int32))).bind fun w16 =>
  (raI w16 2 1000 (2 : Int32)).bind fun v17 =>
  some (v17 - (1 : Int32), w16)) (0 : Int32) w12) w9
  else
  some (v5, w)

set_option maxHeartbeats 4000000 in
set_option maxRecDepth 100000 in
theorem rX12_program (l : Launch) (D : va_G) (aC : Nat → ClassId) {h0 : Nat} {wB : kW} (hB : rOK h0 wB) {x1 : Int32} {w : rW} {wR : rW} {oR : Int32} (h : fX12_program x1 w = some (oR, wR)) : kC l D aC yX12_program cX12_program 5 (some .int) 4 79 [.ref h0, .int x1] (rWo h0 wB w) (some (.int oR)) (rWo h0 wB wR) 0 0 := by
  refine kOf (own := RX12) (by decide) rfl (Nat.le_of_ble_eq_true rfl) ?_
  intro p e s m below meth c ls F hml hr hlocks hnm hX hZ hl
  obtain ⟨hx, hb, hts, hown, hK⟩ := id F
  have hl : lv_has ls 5 [(0, .ref h0), (1, .int x1)] := hl
  have hf := h
  rw [fX12_program] at hf
  refine lv_iload_n hx hb (kd dtX12_program_0 0 rfl) rfl (lv_at hl 1 rfl) ?_
  obtain ⟨v2, h1, hf⟩ := kbind hf
  refine kcallS (n := 1) [.int x1] [] [.int v2] (rX12_isShelf l D aC (rWo h0 wB w) h1) F hml hX hZ hl.1 mwX12_isShelf wmX12_118 (by decide +kernel) ⟨(by decide), (by decide)⟩ rfl rfl rfl (Nat.le_of_ble_eq_true rfl) (kd dtX12_program_0 1 rfl) ⟨Nat.zero_le _, Nat.zero_le _⟩ (fun H locs hX => ?_)
  refine lv_if_ne (tgt := 9) hx hb (kd dtX12_program_0 2 rfl) (by decide) (fun hc => ?_) (fun hc => ?_)
  · have hf := kif_neg hc hf
    refine lv_aload_n hx hb (kd dtX12_program_0 5 rfl) rfl (lv_at hl 0 rfl) ?_
    refine rgetA (n := 2) (j := 2) hB (by decide) rfl F hX wfX12_16 (by decide) rfl (kd dtX12_program_0 6 rfl) ?_
    refine lv_iconst (v := (2 : Int32)) hx hb (kd dtX12_program_0 7 rfl) (by decide) ?_
    obtain ⟨v3, hv3, hf⟩ := kbind hf
    refine rald hB (by decide) hv3 F hX (kd dtX12_program_0 8 rfl) ?_
    refine lv_bipush (v := (6 : Int32)) hx hb (kd dtX12_program_0 9 rfl) (by decide) ?_
    refine lv_icmp_ne (tgt := 23) hx hb (kd dtX12_program_0 10 rfl) (by decide) (fun hc => ?_) (fun hc => ?_)
    · have hf := kif_neg hc hf
      refine lv_aload_n hx hb (kd dtX12_program_0 13 rfl) rfl (lv_at hl 0 rfl) ?_
      refine lv_iload_n hx hb (kd dtX12_program_0 14 rfl) rfl (lv_at hl 1 rfl) ?_
      refine lv_iconst (v := (0 : Int32)) hx hb (kd dtX12_program_0 15 rfl) (by decide) ?_
      obtain ⟨v5, h4, hf⟩ := kbind hf
      refine kcallV (n := 2) [.int x1, .int (0 : Int32)] [] [.int v5] (rX12_wrongRow l D aC hB h4) rfl hB.1 F hml hX hZ hl.1 mwX12_wrongRow wmX12_121 rfl (by decide) (by decide +kernel) ⟨(by decide), (by decide)⟩ rfl rfl rfl (Nat.le_of_ble_eq_true rfl) (kd dtX12_program_0 16 rfl) ⟨Nat.zero_le _, Nat.zero_le _⟩ (fun H locs hX => ?_)
      refine lv_istore_n (lv' := [(2, .int v5), (0, .ref h0), (1, .int x1)]) hx hb (kd dtX12_program_0 17 rfl) rfl hl (by decide) rfl (fun ls hl => ?_)
      refine lv_iload_n hx hb (kd dtX12_program_0 18 rfl) rfl (lv_at hl 0 rfl) ?_
      refine lv_if_eq (tgt := 36) hx hb (kd dtX12_program_0 19 rfl) (by decide) (fun hc => ?_) (fun hc => ?_)
      · have hf := kif_pos hc hf
        refine lv_aload_n hx hb (kd dtX12_program_0 22 rfl) rfl (lv_at hl 1 rfl) ?_
        refine lv_bipush (v := (120 : Int32)) hx hb (kd dtX12_program_0 23 rfl) (by decide) ?_
        refine lv_iload_n hx hb (kd dtX12_program_0 24 rfl) rfl (lv_at hl 2 rfl) ?_
        refine lv_imul hx hb (kd dtX12_program_0 25 rfl) ?_
        obtain ⟨w6, hw6, hf⟩ := kbind hf
        refine rputF hw6 hB F hX wfX12_105 (by decide) rfl rfl rfl rfl (kd dtX12_program_0 26 rfl) (fun H locs hX => ?_)
        refine lv_aload_n hx hb (kd dtX12_program_0 27 rfl) rfl (lv_at hl 1 rfl) ?_
        refine lv_aload_n hx hb (kd dtX12_program_0 28 rfl) rfl (lv_at hl 1 rfl) ?_
        refine rgetA (n := 6) (j := 6) hB (by decide) rfl F hX wfX12_28 (by decide) rfl (kd dtX12_program_0 29 rfl) ?_
        refine lv_iload_n hx hb (kd dtX12_program_0 30 rfl) rfl (lv_at hl 2 rfl) ?_
        obtain ⟨v7, hv7, hf⟩ := kbind hf
        refine rald hB (by decide) hv7 F hX (kd dtX12_program_0 31 rfl) ?_
        obtain ⟨w8, hw8, hf⟩ := kbind hf
        refine rputF hw8 hB F hX wfX12_102 (by decide) rfl rfl rfl rfl (kd dtX12_program_0 32 rfl) (fun H locs hX => ?_)
        refine lv_aload_n hx hb (kd dtX12_program_0 33 rfl) rfl (lv_at hl 1 rfl) ?_
        refine lv_iconst (v := (0 : Int32)) hx hb (kd dtX12_program_0 34 rfl) (by decide) ?_
        obtain ⟨w9, hw9, hf⟩ := kbind hf
        refine rputF hw9 hB F hX wfX12_99 (by decide) rfl rfl rfl rfl (kd dtX12_program_0 35 rfl) (fun H locs hX => ?_)
        have hL59 : ∀ (n : Nat) (k : rW → Option (Int32 × rW)), ∀ (w_59 : rW) (H : Heap) (locs : List Loc) (ls : Array Slot), kX D aC (rWo h0 wB w) s.heap (rWo h0 wB w_59) H locs → lv_has ls 5 [(0, .ref h0), (1, .int x1), (2, .int v5)] → fX12_program_L59 x1 v5 n k w_59 = some (oR, wR) → (∀ (w_59 : rW) (H : Heap) (locs : List Loc) (ls : Array Slot), kX D aC (rWo h0 wB w) s.heap (rWo h0 wB w_59) H locs → lv_has ls 5 [(0, .ref h0), (1, .int x1), (2, .int v5)] → k w_59 = some (oR, wR) → W p l e { frames := 4, cells := 0, slots := 0, locals := 79 } s m ([.ref h0, .int x1] : List Value).toArray below meth c H locs 0 0 (MQ below (kQc D aC (rWo h0 wB w) (some (.int oR)) (rWo h0 wB wR)) ([.ref h0, .int x1] : List Value).toArray s 0 0 (kA (rWo h0 wB w))) (F0 m 85 ls [])) → W p l e { frames := 4, cells := 0, slots := 0, locals := 79 } s m ([.ref h0, .int x1] : List Value).toArray below meth c H locs 0 0 (MQ below (kQc D aC (rWo h0 wB w) (some (.int oR)) (rWo h0 wB wR)) ([.ref h0, .int x1] : List Value).toArray s 0 0 (kA (rWo h0 wB w))) (F0 m 59 ls []) := by
          intro n k
          induction n with
          | zero =>
            intro w_59 H locs ls hX hl hf hk
            rw [fX12_program_L59] at hf
            cases hf
          | succ n ih =>
            intro w_59 H locs ls hX hl hf hk
            rw [fX12_program_L59] at hf
            refine lv_aload_n hx hb (kd dtX12_program_0 36 rfl) rfl (lv_at hl 0 rfl) ?_
            obtain ⟨v22, w20, h21, hf⟩ := kbind2 hf
            refine kcallV (n := 0) [] [] [.int v22] (rX12_readsStatement l D aC hB h21) rfl hB.1 F hml hX hZ hl.1 mwX12_readsStatement wmX12_226 rfl (by decide) (by decide +kernel) ⟨(by decide), (by decide)⟩ rfl rfl rfl (Nat.le_of_ble_eq_true rfl) (kd dtX12_program_0 37 rfl) ⟨Nat.zero_le _, Nat.zero_le _⟩ (fun H locs hX => ?_)
            refine lv_if_ne (tgt := 74) hx hb (kd dtX12_program_0 38 rfl) (by decide) (fun hc => ?_) (fun hc => ?_)
            · have hf := kif_neg hc hf
              refine lv_aload_n hx hb (kd dtX12_program_0 44 rfl) rfl (lv_at hl 0 rfl) ?_
              refine rgetF (j := 12) hB F hX wfX12_99 (by decide) rfl (kd dtX12_program_0 45 rfl) ?_
              refine lv_aload_n hx hb (kd dtX12_program_0 46 rfl) rfl (lv_at hl 0 rfl) ?_
              refine rgetF (j := 14) hB F hX wfX12_102 (by decide) rfl (kd dtX12_program_0 47 rfl) ?_
              refine lv_icmp_lt (tgt := 59) hx hb (kd dtX12_program_0 48 rfl) (by decide) (fun hc => ?_) (fun hc => ?_)
              · have hf := kif_pos hc hf
                exact ih w20 _ _ _ hX hl hf hk
              · have hf := kif_neg hc hf
                exact hk w20 _ _ _ hX hl hf
            · have hf := kif_pos hc hf
              refine lv_bipush (v := (-100 : Int32)) hx hb (kd dtX12_program_0 39 rfl) (by decide) ?_
              refine lv_aload_n hx hb (kd dtX12_program_0 40 rfl) rfl (lv_at hl 0 rfl) ?_
              refine rgetF (j := 12) hB F hX wfX12_99 (by decide) rfl (kd dtX12_program_0 41 rfl) ?_
              refine lv_isub hx hb (kd dtX12_program_0 42 rfl) ?_
              obtain ⟨rfl, rfl⟩ := Prod.mk.inj (Option.some.inj hf)
              exact kiret F hX hr hlocks rfl (kd dtX12_program_0 43 rfl)
        refine hL59 kFU _ w9 _ _ _ hX (lv_sub hl [1, 2, 0] rfl) hf ?_
        intro w10 H locs ls hX hl hf
        refine lv_sipush (v := (243 : Int32)) hx hb (kd dtX12_program_0 49 rfl) (by decide) ?_
        refine lv_bipush (v := (121 : Int32)) hx hb (kd dtX12_program_0 50 rfl) (by decide) ?_
        refine lv_aload_n hx hb (kd dtX12_program_0 51 rfl) rfl (lv_at hl 0 rfl) ?_
        refine rgetA (n := 2) (j := 2) hB (by decide) rfl F hX wfX12_16 (by decide) rfl (kd dtX12_program_0 52 rfl) ?_
        refine lv_iconst (v := (2 : Int32)) hx hb (kd dtX12_program_0 53 rfl) (by decide) ?_
        obtain ⟨v11, hv11, hf⟩ := kbind hf
        refine rald hB (by decide) hv11 F hX (kd dtX12_program_0 54 rfl) ?_
        refine lv_imul hx hb (kd dtX12_program_0 55 rfl) ?_
        refine lv_iadd hx hb (kd dtX12_program_0 56 rfl) ?_
        refine lv_istore_n (lv' := [(3, .int ((243 : Int32) + ((121 : Int32) * v11))), (0, .ref h0), (1, .int x1), (2, .int v5)]) hx hb (kd dtX12_program_0 57 rfl) rfl hl (by decide) rfl (fun ls hl => ?_)
        refine lv_aload_n hx hb (kd dtX12_program_0 58 rfl) rfl (lv_at hl 1 rfl) ?_
        refine rgetA (n := 2) (j := 2) hB (by decide) rfl F hX wfX12_16 (by decide) rfl (kd dtX12_program_0 59 rfl) ?_
        refine lv_iload_n hx hb (kd dtX12_program_0 60 rfl) rfl (lv_at hl 0 rfl) ?_
        refine lv_aload_n hx hb (kd dtX12_program_0 61 rfl) rfl (lv_at hl 1 rfl) ?_
        refine rgetF (j := 14) hB F hX wfX12_102 (by decide) rfl (kd dtX12_program_0 62 rfl) ?_
        obtain ⟨w12, hw12, hf⟩ := kbind hf
        refine rast hB (by decide) hw12 F hX (kd dtX12_program_0 63 rfl) (fun H locs hX => ?_)
        refine lv_iconst (v := (0 : Int32)) hx hb (kd dtX12_program_0 64 rfl) (by decide) ?_
        refine lv_istore (lv' := [(4, .int (0 : Int32)), (3, .int ((243 : Int32) + ((121 : Int32) * v11))), (0, .ref h0), (1, .int x1), (2, .int v5)]) hx hb (kd dtX12_program_0 65 rfl) hl (by decide) rfl (fun ls hl => ?_)
        have hL112 : ∀ (n : Nat) (k : Int32 → rW → Option (Int32 × rW)), ∀ (z4_112 : Int32) (w_112 : rW) (H : Heap) (locs : List Loc) (ls : Array Slot), kX D aC (rWo h0 wB w) s.heap (rWo h0 wB w_112) H locs → lv_has ls 5 [(0, .ref h0), (1, .int x1), (2, .int v5), (3, .int ((243 : Int32) + ((121 : Int32) * v11))), (4, .int z4_112)] → fX12_program_L112 x1 v5 ((243 : Int32) + ((121 : Int32) * v11)) n k z4_112 w_112 = some (oR, wR) → (∀ (z4_112 : Int32) (w_112 : rW) (H : Heap) (locs : List Loc) (ls : Array Slot), kX D aC (rWo h0 wB w) s.heap (rWo h0 wB w_112) H locs → lv_has ls 5 [(0, .ref h0), (1, .int x1), (2, .int v5), (3, .int ((243 : Int32) + ((121 : Int32) * v11))), (4, .int z4_112)] → k z4_112 w_112 = some (oR, wR) → W p l e { frames := 4, cells := 0, slots := 0, locals := 79 } s m ([.ref h0, .int x1] : List Value).toArray below meth c H locs 0 0 (MQ below (kQc D aC (rWo h0 wB w) (some (.int oR)) (rWo h0 wB wR)) ([.ref h0, .int x1] : List Value).toArray s 0 0 (kA (rWo h0 wB w))) (F0 m 150 ls [])) → W p l e { frames := 4, cells := 0, slots := 0, locals := 79 } s m ([.ref h0, .int x1] : List Value).toArray below meth c H locs 0 0 (MQ below (kQc D aC (rWo h0 wB w) (some (.int oR)) (rWo h0 wB wR)) ([.ref h0, .int x1] : List Value).toArray s 0 0 (kA (rWo h0 wB w))) (F0 m 112 ls []) := by
          intro n k
          induction n with
          | zero =>
            intro z4_112 w_112 H locs ls hX hl hf hk
            rw [fX12_program_L112] at hf
            cases hf
          | succ n ih =>
            intro z4_112 w_112 H locs ls hX hl hf hk
            rw [fX12_program_L112] at hf
            refine lv_iload hx hb (kd dtX12_program_0 66 rfl) (lv_at hl 4 rfl) ?_
            refine lv_aload_n hx hb (kd dtX12_program_0 67 rfl) rfl (lv_at hl 0 rfl) ?_
            refine rgetF (j := 14) hB F hX wfX12_102 (by decide) rfl (kd dtX12_program_0 68 rfl) ?_
            refine lv_icmp_ge (tgt := 150) hx hb (kd dtX12_program_0 69 rfl) (by decide) (fun hc => ?_) (fun hc => ?_)
            · have hf := kif_pos hc hf
              exact hk z4_112 w_112 _ _ _ hX hl hf
            · have hf := kif_neg hc hf
              refine lv_aload_n hx hb (kd dtX12_program_0 70 rfl) rfl (lv_at hl 0 rfl) ?_
              refine rgetA (n := 2) (j := 2) hB (by decide) rfl F hX wfX12_16 (by decide) rfl (kd dtX12_program_0 71 rfl) ?_
              refine lv_iload_n hx hb (kd dtX12_program_0 72 rfl) rfl (lv_at hl 3 rfl) ?_
              refine lv_iconst (v := (1 : Int32)) hx hb (kd dtX12_program_0 73 rfl) (by decide) ?_
              refine lv_iadd hx hb (kd dtX12_program_0 74 rfl) ?_
              refine lv_iload hx hb (kd dtX12_program_0 75 rfl) (lv_at hl 4 rfl) ?_
              refine lv_iadd hx hb (kd dtX12_program_0 76 rfl) ?_
              refine lv_aload_n hx hb (kd dtX12_program_0 77 rfl) rfl (lv_at hl 0 rfl) ?_
              refine rgetA (n := 7) (j := 7) hB (by decide) rfl F hX wfX12_31 (by decide) rfl (kd dtX12_program_0 78 rfl) ?_
              refine lv_aload_n hx hb (kd dtX12_program_0 79 rfl) rfl (lv_at hl 0 rfl) ?_
              refine rgetF (j := 13) hB F hX wfX12_105 (by decide) rfl (kd dtX12_program_1 0 rfl) ?_
              refine lv_iload hx hb (kd dtX12_program_1 1 rfl) (lv_at hl 4 rfl) ?_
              refine lv_iadd hx hb (kd dtX12_program_1 2 rfl) ?_
              obtain ⟨v18, hv18, hf⟩ := kbind hf
              refine rald hB (by decide) hv18 F hX (kd dtX12_program_1 3 rfl) ?_
              obtain ⟨w19, hw19, hf⟩ := kbind hf
              refine rast hB (by decide) hw19 F hX (kd dtX12_program_1 4 rfl) (fun H locs hX => ?_)
              refine lv_iinc (v := z4_112 + (1 : Int32)) (lv' := [(4, .int (z4_112 + (1 : Int32))), (0, .ref h0), (1, .int x1), (2, .int v5), (3, .int ((243 : Int32) + ((121 : Int32) * v11)))]) hx hb (kd dtX12_program_1 5 rfl) hl (k := 4) rfl (by rfl) (by decide) rfl (fun ls hl => ?_)
              refine lv_goto (tgt := 112) hx hb (kd dtX12_program_1 6 rfl) (by decide) ?_
              exact ih (z4_112 + (1 : Int32)) w19 _ _ _ hX (lv_sub hl [1, 2, 3, 4, 0] rfl) hf hk
        refine hL112 kFU _ (0 : Int32) w12 _ _ _ hX (lv_sub hl [2, 3, 4, 1, 0] rfl) hf ?_
        intro y4_13 w14 H locs ls hX hl hf
        refine lv_aload_n hx hb (kd dtX12_program_1 7 rfl) rfl (lv_at hl 0 rfl) ?_
        refine rgetA (n := 2) (j := 2) hB (by decide) rfl F hX wfX12_16 (by decide) rfl (kd dtX12_program_1 8 rfl) ?_
        refine lv_iconst (v := (2 : Int32)) hx hb (kd dtX12_program_1 9 rfl) (by decide) ?_
        refine lv_dup2_11 hx hb (kd dtX12_program_1 10 rfl) rfl rfl ?_
        obtain ⟨v15, hv15, hf⟩ := kbind hf
        refine rald hB (by decide) hv15 F hX (kd dtX12_program_1 11 rfl) ?_
        refine lv_iconst (v := (1 : Int32)) hx hb (kd dtX12_program_1 12 rfl) (by decide) ?_
        refine lv_iadd hx hb (kd dtX12_program_1 13 rfl) ?_
        obtain ⟨w16, hw16, hf⟩ := kbind hf
        refine rast hB (by decide) hw16 F hX (kd dtX12_program_1 14 rfl) (fun H locs hX => ?_)
        refine lv_aload_n hx hb (kd dtX12_program_1 15 rfl) rfl (lv_at hl 0 rfl) ?_
        refine rgetA (n := 2) (j := 2) hB (by decide) rfl F hX wfX12_16 (by decide) rfl (kd dtX12_program_1 16 rfl) ?_
        refine lv_iconst (v := (2 : Int32)) hx hb (kd dtX12_program_1 17 rfl) (by decide) ?_
        obtain ⟨v17, hv17, hf⟩ := kbind hf
        refine rald hB (by decide) hv17 F hX (kd dtX12_program_1 18 rfl) ?_
        refine lv_iconst (v := (1 : Int32)) hx hb (kd dtX12_program_1 19 rfl) (by decide) ?_
        refine lv_isub hx hb (kd dtX12_program_1 20 rfl) ?_
        obtain ⟨rfl, rfl⟩ := Prod.mk.inj (Option.some.inj hf)
        exact kiret F hX hr hlocks rfl (kd dtX12_program_1 21 rfl)
      · have hf := kif_neg hc hf
        refine lv_iload_n hx hb (kd dtX12_program_0 20 rfl) rfl (lv_at hl 0 rfl) ?_
        obtain ⟨rfl, rfl⟩ := Prod.mk.inj (Option.some.inj hf)
        exact kiret F hX hr hlocks rfl (kd dtX12_program_0 21 rfl)
    · have hf := kif_pos hc hf
      refine lv_bipush (v := (-2 : Int32)) hx hb (kd dtX12_program_0 11 rfl) (by decide) ?_
      obtain ⟨rfl, rfl⟩ := Prod.mk.inj (Option.some.inj hf)
      exact kiret F hX hr hlocks rfl (kd dtX12_program_0 12 rfl)
  · have hf := kif_pos hc hf
    refine lv_iconst (v := (-1 : Int32)) hx hb (kd dtX12_program_0 3 rfl) (by decide) ?_
    obtain ⟨rfl, rfl⟩ := Prod.mk.inj (Option.some.inj hf)
    exact kiret F hX hr hlocks rfl (kd dtX12_program_0 4 rfl)
theorem wfX12_229 : Cond.fieldLink RX12 229 (TX12 21).1 (TX12 21).2.1 (TX12 21).2.2.1 ∈ kT := kTm 1255 (by decide +kernel) rfl
theorem wfX12_232 : Cond.fieldLink RX12 232 (TX12 22).1 (TX12 22).2.1 (TX12 22).2.2.1 ∈ kT := kTm 1256 (by decide +kernel) rfl
theorem wfX12_235 : Cond.fieldLink RX12 235 (TX12 23).1 (TX12 23).2.1 (TX12 23).2.2.1 ∈ kT := kTm 1257 (by decide +kernel) rfl
theorem wfX12_238 : Cond.fieldLink RX12 238 (TX12 24).1 (TX12 24).2.1 (TX12 24).2.2.1 ∈ kT := kTm 1258 (by decide +kernel) rfl
def lX12_takesProgram_0 : List (Nat × Instr × Nat) := [(0, .sipush 243, 3), (3, .bipush 121, 2), (5, .iload_n 1, 1), (6, .imul, 1), (7, .iadd, 1), (8, .istore_n 2, 1), (9, .aload_n 0, 1), (10, .iconst 0, 1), (11, .putfield 229, 3), (14, .aload_n 0, 1), (15, .bipush 40, 2), (17, .putfield 232, 3), (20, .aload_n 0, 1), (21, .bipush 60, 2), (23, .putfield 235, 3), (26, .aload_n 0, 1), (27, .iconst 0, 1), (28, .putfield 238, 3), (31, .iconst 0, 1), (32, .istore_n 3, 1), (33, .iconst 0, 1), (34, .istore 4, 2), (36, .iconst 1, 1), (37, .istore 5, 2), (39, .iload 5, 2), (41, .aload_n 0, 1), (42, .getfield 16, 3), (45, .iload_n 2, 1), (46, .iaload, 1), (47, .if_icmp .gt 141, 3), (50, .aload_n 0, 1), (51, .getfield 16, 3), (54, .iload_n 2, 1), (55, .iload 5, 2), (57, .iadd, 1), (58, .iaload, 1), (59, .istore 6, 2), (61, .iload 6, 2), (63, .bipush 48, 2), (65, .if_icmp .lt 24, 3), (68, .iload 6, 2), (70, .bipush 57, 2), (72, .if_icmp .gt 17, 3), (75, .bipush 10, 2), (77, .iload_n 3, 1), (78, .imul, 1), (79, .iload 6, 2), (81, .iadd, 1), (82, .bipush 48, 2), (84, .isub, 1), (85, .istore_n 3, 1), (86, .goto 96, 3), (89, .iload 6, 2), (91, .bipush 59, 2), (93, .if_icmp .eq 12, 3), (96, .iload 6, 2), (98, .istore 4, 2), (100, .iconst 0, 1), (101, .istore_n 3, 1), (102, .goto 80, 3), (105, .iload 4, 2), (107, .bipush 107, 2), (109, .if_icmp .ne 11, 3), (112, .aload_n 0, 1), (113, .iload_n 3, 1), (114, .putfield 232, 3), (117, .goto 65, 3), (120, .iload 4, 2), (122, .bipush 115, 2), (124, .if_icmp .ne 22, 3), (127, .aload_n 0, 1), (128, .iload_n 3, 1), (129, .bipush 100, 2), (131, .if_icmp .le 8, 3), (134, .bipush 100, 2), (136, .goto 4, 3), (139, .iload_n 3, 1), (140, .putfield 235, 3), (143, .goto 39, 3), (146, .iload 4, 2)]
theorem dtX12_takesProgram_0 : kDec cX12_takesProgram lX12_takesProgram_0 = true := by decide +kernel
def lX12_takesProgram_1 : List (Nat × Instr × Nat) := [(148, .bipush 108, 2), (150, .if_icmp .ne 11, 3), (153, .aload_n 0, 1), (154, .iconst 1, 1), (155, .putfield 238, 3), (158, .goto 24, 3), (161, .aload_n 0, 1), (162, .getfield 46, 3), (165, .aload_n 0, 1), (166, .getfield 229, 3), (169, .iload 4, 2), (171, .iastore, 1), (172, .aload_n 0, 1), (173, .dup, 1), (174, .getfield 229, 3), (177, .iconst 1, 1), (178, .iadd, 1), (179, .putfield 229, 3), (182, .iinc 5 1, 3), (185, .goto (-146), 3), (188, .return_, 1)]
theorem dtX12_takesProgram_1 : kDec cX12_takesProgram lX12_takesProgram_1 = true := by decide +kernel
noncomputable def fX12_takesProgram_J39_89 (b k : Int32 → Int32 → Int32 → rW → Option rW) (x1 : Int32) (x2 : Int32) (x3 : Int32) (x4 : Int32) (x5 : Int32) (x6 : Int32) (w : rW) : Option rW :=
  if x6 = (59 : Int32) then
  if x4 = (107 : Int32) then
  (rpF w 22 x3).bind fun w6 =>
  b x3 x4 (x5 + (1 : Int32)) w6
  else
  if x4 = (115 : Int32) then
  if x3 ≤ (100 : Int32) then
  (rpF w 23 x3).bind fun w4 =>
  b x3 x4 (x5 + (1 : Int32)) w4
  else
  (rpF w 23 (100 : Int32)).bind fun w5 =>
  b x3 x4 (x5 + (1 : Int32)) w5
  else
  if x4 = (108 : Int32) then
  (rpF w 24 (1 : Int32)).bind fun w3 =>
  b x3 x4 (x5 + (1 : Int32)) w3
  else
  (rsI w 12 120 (rF w 21) x4).bind fun w1 =>
  (rpF w1 21 ((rF w1 21) + (1 : Int32))).bind fun w2 =>
  b x3 x4 (x5 + (1 : Int32)) w2
  else
  b (0 : Int32) x6 (x5 + (1 : Int32)) w

noncomputable def fX12_takesProgram_L39 (x1 : Int32) (x2 : Int32) : Nat → (Int32 → Int32 → Int32 → rW → Option rW) → Int32 → Int32 → Int32 → rW → Option rW
  | 0, _, _, _, _, _ => none
  | n + 1, k, x3, x4, x5, w =>
  (raI w 2 1000 x2).bind fun v1 =>
  if v1 < x5 then
  k x3 x4 x5 w
  else
  (raI w 2 1000 (x2 + x5)).bind fun v2 =>
  if v2 < (48 : Int32) then
  fX12_takesProgram_J39_89 (fun q3 q4 q5 qw => fX12_takesProgram_L39 x1 x2 n k q3 q4 q5 qw) k x1 x2 x3 x4 x5 v2 w
  else
  if (57 : Int32) < v2 then
  fX12_takesProgram_J39_89 (fun q3 q4 q5 qw => fX12_takesProgram_L39 x1 x2 n k q3 q4 q5 qw) k x1 x2 x3 x4 x5 v2 w
  else
  fX12_takesProgram_L39 x1 x2 n k ((((10 : Int32) * x3) + v2) - (48 : Int32)) x4 (x5 + (1 : Int32)) w

noncomputable def fX12_takesProgram (x1 : Int32) (w : rW) : Option rW :=
  (rpF w 21 (0 : Int32)).bind fun w1 =>
  (rpF w1 22 (40 : Int32)).bind fun w2 =>
  (rpF w2 23 (60 : Int32)).bind fun w3 =>
  (rpF w3 24 (0 : Int32)).bind fun w4 =>
  fX12_takesProgram_L39 x1 ((243 : Int32) + ((121 : Int32) * x1)) kFU (fun y3_5 y4_6 y5_7 w8 => some w8) (0 : Int32) (0 : Int32) (1 : Int32) w4

set_option maxHeartbeats 4000000 in
set_option maxRecDepth 100000 in
theorem rX12_takesProgram (l : Launch) (D : va_G) (aC : Nat → ClassId) {h0 : Nat} {wB : kW} (hB : rOK h0 wB) {x1 : Int32} {w : rW} {wR : rW} (h : fX12_takesProgram x1 w = some wR) : kC l D aC yX12_takesProgram cX12_takesProgram 7 none 1 12 [.ref h0, .int x1] (rWo h0 wB w) none (rWo h0 wB wR) 0 0 := by
  refine kOf (own := RX12) (by decide) rfl (Nat.le_of_ble_eq_true rfl) ?_
  intro p e s m below meth c ls F hml hr hlocks hnm hX hZ hl
  obtain ⟨hx, hb, hts, hown, hK⟩ := id F
  have hl : lv_has ls 7 [(0, .ref h0), (1, .int x1)] := hl
  have hf := h
  rw [fX12_takesProgram] at hf
  refine lv_sipush (v := (243 : Int32)) hx hb (kd dtX12_takesProgram_0 0 rfl) (by decide) ?_
  refine lv_bipush (v := (121 : Int32)) hx hb (kd dtX12_takesProgram_0 1 rfl) (by decide) ?_
  refine lv_iload_n hx hb (kd dtX12_takesProgram_0 2 rfl) rfl (lv_at hl 1 rfl) ?_
  refine lv_imul hx hb (kd dtX12_takesProgram_0 3 rfl) ?_
  refine lv_iadd hx hb (kd dtX12_takesProgram_0 4 rfl) ?_
  refine lv_istore_n (lv' := [(2, .int ((243 : Int32) + ((121 : Int32) * x1))), (0, .ref h0), (1, .int x1)]) hx hb (kd dtX12_takesProgram_0 5 rfl) rfl hl (by decide) rfl (fun ls hl => ?_)
  refine lv_aload_n hx hb (kd dtX12_takesProgram_0 6 rfl) rfl (lv_at hl 1 rfl) ?_
  refine lv_iconst (v := (0 : Int32)) hx hb (kd dtX12_takesProgram_0 7 rfl) (by decide) ?_
  obtain ⟨w1, hw1, hf⟩ := kbind hf
  refine rputF hw1 hB F hX wfX12_229 (by decide) rfl rfl rfl rfl (kd dtX12_takesProgram_0 8 rfl) (fun H locs hX => ?_)
  refine lv_aload_n hx hb (kd dtX12_takesProgram_0 9 rfl) rfl (lv_at hl 1 rfl) ?_
  refine lv_bipush (v := (40 : Int32)) hx hb (kd dtX12_takesProgram_0 10 rfl) (by decide) ?_
  obtain ⟨w2, hw2, hf⟩ := kbind hf
  refine rputF hw2 hB F hX wfX12_232 (by decide) rfl rfl rfl rfl (kd dtX12_takesProgram_0 11 rfl) (fun H locs hX => ?_)
  refine lv_aload_n hx hb (kd dtX12_takesProgram_0 12 rfl) rfl (lv_at hl 1 rfl) ?_
  refine lv_bipush (v := (60 : Int32)) hx hb (kd dtX12_takesProgram_0 13 rfl) (by decide) ?_
  obtain ⟨w3, hw3, hf⟩ := kbind hf
  refine rputF hw3 hB F hX wfX12_235 (by decide) rfl rfl rfl rfl (kd dtX12_takesProgram_0 14 rfl) (fun H locs hX => ?_)
  refine lv_aload_n hx hb (kd dtX12_takesProgram_0 15 rfl) rfl (lv_at hl 1 rfl) ?_
  refine lv_iconst (v := (0 : Int32)) hx hb (kd dtX12_takesProgram_0 16 rfl) (by decide) ?_
  obtain ⟨w4, hw4, hf⟩ := kbind hf
  refine rputF hw4 hB F hX wfX12_238 (by decide) rfl rfl rfl rfl (kd dtX12_takesProgram_0 17 rfl) (fun H locs hX => ?_)
  refine lv_iconst (v := (0 : Int32)) hx hb (kd dtX12_takesProgram_0 18 rfl) (by decide) ?_
  refine lv_istore_n (lv' := [(3, .int (0 : Int32)), (2, .int ((243 : Int32) + ((121 : Int32) * x1))), (0, .ref h0), (1, .int x1)]) hx hb (kd dtX12_takesProgram_0 19 rfl) rfl hl (by decide) rfl (fun ls hl => ?_)
  refine lv_iconst (v := (0 : Int32)) hx hb (kd dtX12_takesProgram_0 20 rfl) (by decide) ?_
  refine lv_istore (lv' := [(4, .int (0 : Int32)), (3, .int (0 : Int32)), (2, .int ((243 : Int32) + ((121 : Int32) * x1))), (0, .ref h0), (1, .int x1)]) hx hb (kd dtX12_takesProgram_0 21 rfl) hl (by decide) rfl (fun ls hl => ?_)
  refine lv_iconst (v := (1 : Int32)) hx hb (kd dtX12_takesProgram_0 22 rfl) (by decide) ?_
  refine lv_istore (lv' := [(5, .int (1 : Int32)), (4, .int (0 : Int32)), (3, .int (0 : Int32)), (2, .int ((243 : Int32) + ((121 : Int32) * x1))), (0, .ref h0), (1, .int x1)]) hx hb (kd dtX12_takesProgram_0 23 rfl) hl (by decide) rfl (fun ls hl => ?_)
  have hL39 : ∀ (n : Nat) (k : Int32 → Int32 → Int32 → rW → Option rW), ∀ (z3_39 : Int32) (z4_39 : Int32) (z5_39 : Int32) (w_39 : rW) (H : Heap) (locs : List Loc) (ls : Array Slot), kX D aC (rWo h0 wB w) s.heap (rWo h0 wB w_39) H locs → lv_has ls 7 [(0, .ref h0), (1, .int x1), (2, .int ((243 : Int32) + ((121 : Int32) * x1))), (3, .int z3_39), (4, .int z4_39), (5, .int z5_39)] → fX12_takesProgram_L39 x1 ((243 : Int32) + ((121 : Int32) * x1)) n k z3_39 z4_39 z5_39 w_39 = some wR → (∀ (z3_39 : Int32) (z4_39 : Int32) (z5_39 : Int32) (w_39 : rW) (H : Heap) (locs : List Loc) (ls : Array Slot), kX D aC (rWo h0 wB w) s.heap (rWo h0 wB w_39) H locs → lv_has ls 7 [(0, .ref h0), (1, .int x1), (2, .int ((243 : Int32) + ((121 : Int32) * x1))), (3, .int z3_39), (4, .int z4_39), (5, .int z5_39)] → k z3_39 z4_39 z5_39 w_39 = some wR → W p l e { frames := 1, cells := 0, slots := 0, locals := 12 } s m ([.ref h0, .int x1] : List Value).toArray below meth c H locs 0 0 (MQ below (kQc D aC (rWo h0 wB w) none (rWo h0 wB wR)) ([.ref h0, .int x1] : List Value).toArray s 0 0 (kA (rWo h0 wB w))) (F0 m 188 ls [])) → W p l e { frames := 1, cells := 0, slots := 0, locals := 12 } s m ([.ref h0, .int x1] : List Value).toArray below meth c H locs 0 0 (MQ below (kQc D aC (rWo h0 wB w) none (rWo h0 wB wR)) ([.ref h0, .int x1] : List Value).toArray s 0 0 (kA (rWo h0 wB w))) (F0 m 39 ls []) := by
    intro n k
    induction n with
    | zero =>
      intro z3_39 z4_39 z5_39 w_39 H locs ls hX hl hf hk
      rw [fX12_takesProgram_L39] at hf
      cases hf
    | succ n ih =>
      intro z3_39 z4_39 z5_39 w_39 H locs ls hX hl hf hk
      have hJ39_89 : ∀ (j3_89 : Int32) (j4_89 : Int32) (j5_89 : Int32) (j6_89 : Int32) (w_j89 : rW) (H : Heap) (locs : List Loc) (ls : Array Slot), kX D aC (rWo h0 wB w) s.heap (rWo h0 wB w_j89) H locs → lv_has ls 7 [(0, .ref h0), (1, .int x1), (2, .int ((243 : Int32) + ((121 : Int32) * x1))), (3, .int j3_89), (4, .int j4_89), (5, .int j5_89), (6, .int j6_89)] → fX12_takesProgram_J39_89 (fun q3 q4 q5 qw => fX12_takesProgram_L39 x1 ((243 : Int32) + ((121 : Int32) * x1)) n k q3 q4 q5 qw) k x1 ((243 : Int32) + ((121 : Int32) * x1)) j3_89 j4_89 j5_89 j6_89 w_j89 = some wR → W p l e { frames := 1, cells := 0, slots := 0, locals := 12 } s m ([.ref h0, .int x1] : List Value).toArray below meth c H locs 0 0 (MQ below (kQc D aC (rWo h0 wB w) none (rWo h0 wB wR)) ([.ref h0, .int x1] : List Value).toArray s 0 0 (kA (rWo h0 wB w))) (F0 m 89 ls []) := by
        intro j3_89 j4_89 j5_89 j6_89 w_j89 H locs ls hX hl hf
        rw [fX12_takesProgram_J39_89] at hf
        refine lv_iload hx hb (kd dtX12_takesProgram_0 52 rfl) (lv_at hl 6 rfl) ?_
        refine lv_bipush (v := (59 : Int32)) hx hb (kd dtX12_takesProgram_0 53 rfl) (by decide) ?_
        refine lv_icmp_eq (tgt := 105) hx hb (kd dtX12_takesProgram_0 54 rfl) (by decide) (fun hc => ?_) (fun hc => ?_)
        · have hf := kif_pos hc hf
          refine lv_iload hx hb (kd dtX12_takesProgram_0 60 rfl) (lv_at hl 4 rfl) ?_
          refine lv_bipush (v := (107 : Int32)) hx hb (kd dtX12_takesProgram_0 61 rfl) (by decide) ?_
          refine lv_icmp_ne (tgt := 120) hx hb (kd dtX12_takesProgram_0 62 rfl) (by decide) (fun hc => ?_) (fun hc => ?_)
          · have hf := kif_neg hc hf
            refine lv_iload hx hb (kd dtX12_takesProgram_0 67 rfl) (lv_at hl 4 rfl) ?_
            refine lv_bipush (v := (115 : Int32)) hx hb (kd dtX12_takesProgram_0 68 rfl) (by decide) ?_
            refine lv_icmp_ne (tgt := 146) hx hb (kd dtX12_takesProgram_0 69 rfl) (by decide) (fun hc => ?_) (fun hc => ?_)
            · have hf := kif_neg hc hf
              refine lv_iload hx hb (kd dtX12_takesProgram_0 79 rfl) (lv_at hl 4 rfl) ?_
              refine lv_bipush (v := (108 : Int32)) hx hb (kd dtX12_takesProgram_1 0 rfl) (by decide) ?_
              refine lv_icmp_ne (tgt := 161) hx hb (kd dtX12_takesProgram_1 1 rfl) (by decide) (fun hc => ?_) (fun hc => ?_)
              · have hf := kif_neg hc hf
                refine lv_aload_n hx hb (kd dtX12_takesProgram_1 6 rfl) rfl (lv_at hl 0 rfl) ?_
                refine rgetA (n := 12) (j := 20) hB (by decide) rfl F hX wfX12_46 (by decide) rfl (kd dtX12_takesProgram_1 7 rfl) ?_
                refine lv_aload_n hx hb (kd dtX12_takesProgram_1 8 rfl) rfl (lv_at hl 0 rfl) ?_
                refine rgetF (j := 21) hB F hX wfX12_229 (by decide) rfl (kd dtX12_takesProgram_1 9 rfl) ?_
                refine lv_iload hx hb (kd dtX12_takesProgram_1 10 rfl) (lv_at hl 4 rfl) ?_
                obtain ⟨w11, hw11, hf⟩ := kbind hf
                refine rast hB (by decide) hw11 F hX (kd dtX12_takesProgram_1 11 rfl) (fun H locs hX => ?_)
                refine lv_aload_n hx hb (kd dtX12_takesProgram_1 12 rfl) rfl (lv_at hl 0 rfl) ?_
                refine lv_dup hx hb (kd dtX12_takesProgram_1 13 rfl) rfl ?_
                refine rgetF (j := 21) hB F hX wfX12_229 (by decide) rfl (kd dtX12_takesProgram_1 14 rfl) ?_
                refine lv_iconst (v := (1 : Int32)) hx hb (kd dtX12_takesProgram_1 15 rfl) (by decide) ?_
                refine lv_iadd hx hb (kd dtX12_takesProgram_1 16 rfl) ?_
                obtain ⟨w12, hw12, hf⟩ := kbind hf
                refine rputF hw12 hB F hX wfX12_229 (by decide) rfl rfl rfl rfl (kd dtX12_takesProgram_1 17 rfl) (fun H locs hX => ?_)
                refine lv_iinc (v := j5_89 + (1 : Int32)) (lv' := [(5, .int (j5_89 + (1 : Int32))), (0, .ref h0), (1, .int x1), (2, .int ((243 : Int32) + ((121 : Int32) * x1))), (3, .int j3_89), (4, .int j4_89), (6, .int j6_89)]) hx hb (kd dtX12_takesProgram_1 18 rfl) hl (k := 5) rfl (by rfl) (by decide) rfl (fun ls hl => ?_)
                refine lv_goto (tgt := 39) hx hb (kd dtX12_takesProgram_1 19 rfl) (by decide) ?_
                exact ih j3_89 j4_89 (j5_89 + (1 : Int32)) w12 _ _ _ hX (lv_sub hl [1, 2, 3, 4, 5, 0] rfl) hf hk
              · have hf := kif_pos hc hf
                refine lv_aload_n hx hb (kd dtX12_takesProgram_1 2 rfl) rfl (lv_at hl 0 rfl) ?_
                refine lv_iconst (v := (1 : Int32)) hx hb (kd dtX12_takesProgram_1 3 rfl) (by decide) ?_
                obtain ⟨w13, hw13, hf⟩ := kbind hf
                refine rputF hw13 hB F hX wfX12_238 (by decide) rfl rfl rfl rfl (kd dtX12_takesProgram_1 4 rfl) (fun H locs hX => ?_)
                refine lv_goto (tgt := 182) hx hb (kd dtX12_takesProgram_1 5 rfl) (by decide) ?_
                refine lv_iinc (v := j5_89 + (1 : Int32)) (lv' := [(5, .int (j5_89 + (1 : Int32))), (0, .ref h0), (1, .int x1), (2, .int ((243 : Int32) + ((121 : Int32) * x1))), (3, .int j3_89), (4, .int j4_89), (6, .int j6_89)]) hx hb (kd dtX12_takesProgram_1 18 rfl) hl (k := 5) rfl (by rfl) (by decide) rfl (fun ls hl => ?_)
                refine lv_goto (tgt := 39) hx hb (kd dtX12_takesProgram_1 19 rfl) (by decide) ?_
                exact ih j3_89 j4_89 (j5_89 + (1 : Int32)) w13 _ _ _ hX (lv_sub hl [1, 2, 3, 4, 5, 0] rfl) hf hk
            · have hf := kif_pos hc hf
              refine lv_aload_n hx hb (kd dtX12_takesProgram_0 70 rfl) rfl (lv_at hl 0 rfl) ?_
              refine lv_iload_n hx hb (kd dtX12_takesProgram_0 71 rfl) rfl (lv_at hl 3 rfl) ?_
              refine lv_bipush (v := (100 : Int32)) hx hb (kd dtX12_takesProgram_0 72 rfl) (by decide) ?_
              refine lv_icmp_le (tgt := 139) hx hb (kd dtX12_takesProgram_0 73 rfl) (by decide) (fun hc => ?_) (fun hc => ?_)
              · have hf := kif_pos hc hf
                refine lv_iload_n hx hb (kd dtX12_takesProgram_0 76 rfl) rfl (lv_at hl 3 rfl) ?_
                obtain ⟨w14, hw14, hf⟩ := kbind hf
                refine rputF hw14 hB F hX wfX12_235 (by decide) rfl rfl rfl rfl (kd dtX12_takesProgram_0 77 rfl) (fun H locs hX => ?_)
                refine lv_goto (tgt := 182) hx hb (kd dtX12_takesProgram_0 78 rfl) (by decide) ?_
                refine lv_iinc (v := j5_89 + (1 : Int32)) (lv' := [(5, .int (j5_89 + (1 : Int32))), (0, .ref h0), (1, .int x1), (2, .int ((243 : Int32) + ((121 : Int32) * x1))), (3, .int j3_89), (4, .int j4_89), (6, .int j6_89)]) hx hb (kd dtX12_takesProgram_1 18 rfl) hl (k := 5) rfl (by rfl) (by decide) rfl (fun ls hl => ?_)
                refine lv_goto (tgt := 39) hx hb (kd dtX12_takesProgram_1 19 rfl) (by decide) ?_
                exact ih j3_89 j4_89 (j5_89 + (1 : Int32)) w14 _ _ _ hX (lv_sub hl [1, 2, 3, 4, 5, 0] rfl) hf hk
              · have hf := kif_neg hc hf
                refine lv_bipush (v := (100 : Int32)) hx hb (kd dtX12_takesProgram_0 74 rfl) (by decide) ?_
                refine lv_goto (tgt := 140) hx hb (kd dtX12_takesProgram_0 75 rfl) (by decide) ?_
                obtain ⟨w15, hw15, hf⟩ := kbind hf
                refine rputF hw15 hB F hX wfX12_235 (by decide) rfl rfl rfl rfl (kd dtX12_takesProgram_0 77 rfl) (fun H locs hX => ?_)
                refine lv_goto (tgt := 182) hx hb (kd dtX12_takesProgram_0 78 rfl) (by decide) ?_
                refine lv_iinc (v := j5_89 + (1 : Int32)) (lv' := [(5, .int (j5_89 + (1 : Int32))), (0, .ref h0), (1, .int x1), (2, .int ((243 : Int32) + ((121 : Int32) * x1))), (3, .int j3_89), (4, .int j4_89), (6, .int j6_89)]) hx hb (kd dtX12_takesProgram_1 18 rfl) hl (k := 5) rfl (by rfl) (by decide) rfl (fun ls hl => ?_)
                refine lv_goto (tgt := 39) hx hb (kd dtX12_takesProgram_1 19 rfl) (by decide) ?_
                exact ih j3_89 j4_89 (j5_89 + (1 : Int32)) w15 _ _ _ hX (lv_sub hl [1, 2, 3, 4, 5, 0] rfl) hf hk
          · have hf := kif_pos hc hf
            refine lv_aload_n hx hb (kd dtX12_takesProgram_0 63 rfl) rfl (lv_at hl 0 rfl) ?_
            refine lv_iload_n hx hb (kd dtX12_takesProgram_0 64 rfl) rfl (lv_at hl 3 rfl) ?_
            obtain ⟨w16, hw16, hf⟩ := kbind hf
            refine rputF hw16 hB F hX wfX12_232 (by decide) rfl rfl rfl rfl (kd dtX12_takesProgram_0 65 rfl) (fun H locs hX => ?_)
            refine lv_goto (tgt := 182) hx hb (kd dtX12_takesProgram_0 66 rfl) (by decide) ?_
            refine lv_iinc (v := j5_89 + (1 : Int32)) (lv' := [(5, .int (j5_89 + (1 : Int32))), (0, .ref h0), (1, .int x1), (2, .int ((243 : Int32) + ((121 : Int32) * x1))), (3, .int j3_89), (4, .int j4_89), (6, .int j6_89)]) hx hb (kd dtX12_takesProgram_1 18 rfl) hl (k := 5) rfl (by rfl) (by decide) rfl (fun ls hl => ?_)
            refine lv_goto (tgt := 39) hx hb (kd dtX12_takesProgram_1 19 rfl) (by decide) ?_
            exact ih j3_89 j4_89 (j5_89 + (1 : Int32)) w16 _ _ _ hX (lv_sub hl [1, 2, 3, 4, 5, 0] rfl) hf hk
        · have hf := kif_neg hc hf
          refine lv_iload hx hb (kd dtX12_takesProgram_0 55 rfl) (lv_at hl 6 rfl) ?_
          refine lv_istore (lv' := [(4, .int j6_89), (0, .ref h0), (1, .int x1), (2, .int ((243 : Int32) + ((121 : Int32) * x1))), (3, .int j3_89), (5, .int j5_89), (6, .int j6_89)]) hx hb (kd dtX12_takesProgram_0 56 rfl) hl (by decide) rfl (fun ls hl => ?_)
          refine lv_iconst (v := (0 : Int32)) hx hb (kd dtX12_takesProgram_0 57 rfl) (by decide) ?_
          refine lv_istore_n (lv' := [(3, .int (0 : Int32)), (4, .int j6_89), (0, .ref h0), (1, .int x1), (2, .int ((243 : Int32) + ((121 : Int32) * x1))), (5, .int j5_89), (6, .int j6_89)]) hx hb (kd dtX12_takesProgram_0 58 rfl) rfl hl (by decide) rfl (fun ls hl => ?_)
          refine lv_goto (tgt := 182) hx hb (kd dtX12_takesProgram_0 59 rfl) (by decide) ?_
          refine lv_iinc (v := j5_89 + (1 : Int32)) (lv' := [(5, .int (j5_89 + (1 : Int32))), (3, .int (0 : Int32)), (4, .int j6_89), (0, .ref h0), (1, .int x1), (2, .int ((243 : Int32) + ((121 : Int32) * x1))), (6, .int j6_89)]) hx hb (kd dtX12_takesProgram_1 18 rfl) hl (k := 5) rfl (by rfl) (by decide) rfl (fun ls hl => ?_)
          refine lv_goto (tgt := 39) hx hb (kd dtX12_takesProgram_1 19 rfl) (by decide) ?_
          exact ih (0 : Int32) j6_89 (j5_89 + (1 : Int32)) w_j89 _ _ _ hX (lv_sub hl [3, 4, 5, 1, 2, 0] rfl) hf hk
      rw [fX12_takesProgram_L39] at hf
      refine lv_iload hx hb (kd dtX12_takesProgram_0 24 rfl) (lv_at hl 5 rfl) ?_
      refine lv_aload_n hx hb (kd dtX12_takesProgram_0 25 rfl) rfl (lv_at hl 0 rfl) ?_
      refine rgetA (n := 2) (j := 2) hB (by decide) rfl F hX wfX12_16 (by decide) rfl (kd dtX12_takesProgram_0 26 rfl) ?_
      refine lv_iload_n hx hb (kd dtX12_takesProgram_0 27 rfl) rfl (lv_at hl 2 rfl) ?_
      obtain ⟨v9, hv9, hf⟩ := kbind hf
      refine rald hB (by decide) hv9 F hX (kd dtX12_takesProgram_0 28 rfl) ?_
      refine lv_icmp_gt (tgt := 188) hx hb (kd dtX12_takesProgram_0 29 rfl) (by decide) (fun hc => ?_) (fun hc => ?_)
      · have hf := kif_pos hc hf
        exact hk z3_39 z4_39 z5_39 w_39 _ _ _ hX hl hf
      · have hf := kif_neg hc hf
        refine lv_aload_n hx hb (kd dtX12_takesProgram_0 30 rfl) rfl (lv_at hl 0 rfl) ?_
        refine rgetA (n := 2) (j := 2) hB (by decide) rfl F hX wfX12_16 (by decide) rfl (kd dtX12_takesProgram_0 31 rfl) ?_
        refine lv_iload_n hx hb (kd dtX12_takesProgram_0 32 rfl) rfl (lv_at hl 2 rfl) ?_
        refine lv_iload hx hb (kd dtX12_takesProgram_0 33 rfl) (lv_at hl 5 rfl) ?_
        refine lv_iadd hx hb (kd dtX12_takesProgram_0 34 rfl) ?_
        obtain ⟨v10, hv10, hf⟩ := kbind hf
        refine rald hB (by decide) hv10 F hX (kd dtX12_takesProgram_0 35 rfl) ?_
        refine lv_istore (lv' := [(6, .int v10), (0, .ref h0), (1, .int x1), (2, .int ((243 : Int32) + ((121 : Int32) * x1))), (3, .int z3_39), (4, .int z4_39), (5, .int z5_39)]) hx hb (kd dtX12_takesProgram_0 36 rfl) hl (by decide) rfl (fun ls hl => ?_)
        refine lv_iload hx hb (kd dtX12_takesProgram_0 37 rfl) (lv_at hl 0 rfl) ?_
        refine lv_bipush (v := (48 : Int32)) hx hb (kd dtX12_takesProgram_0 38 rfl) (by decide) ?_
        refine lv_icmp_lt (tgt := 89) hx hb (kd dtX12_takesProgram_0 39 rfl) (by decide) (fun hc => ?_) (fun hc => ?_)
        · have hf := kif_pos hc hf
          exact hJ39_89 z3_39 z4_39 z5_39 v10 w_39 _ _ _ hX (lv_sub hl [1, 2, 3, 4, 5, 6, 0] rfl) hf
        · have hf := kif_neg hc hf
          refine lv_iload hx hb (kd dtX12_takesProgram_0 40 rfl) (lv_at hl 0 rfl) ?_
          refine lv_bipush (v := (57 : Int32)) hx hb (kd dtX12_takesProgram_0 41 rfl) (by decide) ?_
          refine lv_icmp_gt (tgt := 89) hx hb (kd dtX12_takesProgram_0 42 rfl) (by decide) (fun hc => ?_) (fun hc => ?_)
          · have hf := kif_pos hc hf
            exact hJ39_89 z3_39 z4_39 z5_39 v10 w_39 _ _ _ hX (lv_sub hl [1, 2, 3, 4, 5, 6, 0] rfl) hf
          · have hf := kif_neg hc hf
            refine lv_bipush (v := (10 : Int32)) hx hb (kd dtX12_takesProgram_0 43 rfl) (by decide) ?_
            refine lv_iload_n hx hb (kd dtX12_takesProgram_0 44 rfl) rfl (lv_at hl 4 rfl) ?_
            refine lv_imul hx hb (kd dtX12_takesProgram_0 45 rfl) ?_
            refine lv_iload hx hb (kd dtX12_takesProgram_0 46 rfl) (lv_at hl 0 rfl) ?_
            refine lv_iadd hx hb (kd dtX12_takesProgram_0 47 rfl) ?_
            refine lv_bipush (v := (48 : Int32)) hx hb (kd dtX12_takesProgram_0 48 rfl) (by decide) ?_
            refine lv_isub hx hb (kd dtX12_takesProgram_0 49 rfl) ?_
            refine lv_istore_n (lv' := [(3, .int ((((10 : Int32) * z3_39) + v10) - (48 : Int32))), (6, .int v10), (0, .ref h0), (1, .int x1), (2, .int ((243 : Int32) + ((121 : Int32) * x1))), (4, .int z4_39), (5, .int z5_39)]) hx hb (kd dtX12_takesProgram_0 50 rfl) rfl hl (by decide) rfl (fun ls hl => ?_)
            refine lv_goto (tgt := 182) hx hb (kd dtX12_takesProgram_0 51 rfl) (by decide) ?_
            refine lv_iinc (v := z5_39 + (1 : Int32)) (lv' := [(5, .int (z5_39 + (1 : Int32))), (3, .int ((((10 : Int32) * z3_39) + v10) - (48 : Int32))), (6, .int v10), (0, .ref h0), (1, .int x1), (2, .int ((243 : Int32) + ((121 : Int32) * x1))), (4, .int z4_39)]) hx hb (kd dtX12_takesProgram_1 18 rfl) hl (k := 6) rfl (by rfl) (by decide) rfl (fun ls hl => ?_)
            refine lv_goto (tgt := 39) hx hb (kd dtX12_takesProgram_1 19 rfl) (by decide) ?_
            exact ih ((((10 : Int32) * z3_39) + v10) - (48 : Int32)) z4_39 (z5_39 + (1 : Int32)) w_39 _ _ _ hX (lv_sub hl [3, 4, 5, 1, 6, 0] rfl) hf hk
  refine hL39 kFU _ (0 : Int32) (0 : Int32) (1 : Int32) w4 _ _ _ hX (lv_sub hl [4, 5, 3, 2, 1, 0] rfl) hf ?_
  intro y3_5 y4_6 y5_7 w8 H locs ls hX hl hf
  obtain rfl := Option.some.inj hf
  exact kvret F hX hr hlocks rfl (kd dtX12_takesProgram_1 20 rfl)
theorem wfX12_242 : Cond.fieldLink RX12 242 (TX12 30).1 (TX12 30).2.1 (TX12 30).2.2.1 ∈ kT := kTm 1264 (by decide +kernel) rfl
def lX12_asNow_0 : List (Nat × Instr × Nat) := [(0, .aload_n 0, 1), (1, .aload_n 0, 1), (2, .getfield 16, 3), (5, .iconst 1, 1), (6, .iaload, 1), (7, .putfield 242, 3), (10, .iconst 0, 1), (11, .istore_n 1, 1), (12, .iload_n 1, 1), (13, .aload_n 0, 1), (14, .getfield 242, 3), (17, .if_icmp .ge 25, 3), (20, .aload_n 0, 1), (21, .getfield 55, 3), (24, .iload_n 1, 1), (25, .aload_n 0, 1), (26, .getfield 16, 3), (29, .sipush 203, 3), (32, .iload_n 1, 1), (33, .iadd, 1), (34, .iaload, 1), (35, .iastore, 1), (36, .iinc 1 1, 3), (39, .goto (-27), 3), (42, .return_, 1)]
theorem dtX12_asNow_0 : kDec cX12_asNow lX12_asNow_0 = true := by decide +kernel
noncomputable def fX12_asNow_L12  : Nat → (Int32 → rW → Option rW) → Int32 → rW → Option rW
  | 0, _, _, _ => none
  | n + 1, k, x1, w =>
  if (rF w 30) ≤ x1 then
  k x1 w
  else
  (raI w 2 1000 ((203 : Int32) + x1)).bind fun v1 =>
  (rsI w 15 40 x1 v1).bind fun w2 =>
  fX12_asNow_L12 n k (x1 + (1 : Int32)) w2

noncomputable def fX12_asNow (w : rW) : Option rW :=
  (raI w 2 1000 (1 : Int32)).bind fun v1 =>
  (rpF w 30 v1).bind fun w2 =>
  fX12_asNow_L12 kFU (fun y1_3 w4 => some w4) (0 : Int32) w2

set_option maxHeartbeats 4000000 in
set_option maxRecDepth 100000 in
theorem rX12_asNow (l : Launch) (D : va_G) (aC : Nat → ClassId) {h0 : Nat} {wB : kW} (hB : rOK h0 wB) {w : rW} {wR : rW} (h : fX12_asNow w = some wR) : kC l D aC yX12_asNow cX12_asNow 2 none 1 12 [.ref h0] (rWo h0 wB w) none (rWo h0 wB wR) 0 0 := by
  refine kOf (own := RX12) (by decide) rfl (Nat.le_of_ble_eq_true rfl) ?_
  intro p e s m below meth c ls F hml hr hlocks hnm hX hZ hl
  obtain ⟨hx, hb, hts, hown, hK⟩ := id F
  have hl : lv_has ls 2 [(0, .ref h0)] := hl
  have hf := h
  rw [fX12_asNow] at hf
  refine lv_aload_n hx hb (kd dtX12_asNow_0 0 rfl) rfl (lv_at hl 0 rfl) ?_
  refine lv_aload_n hx hb (kd dtX12_asNow_0 1 rfl) rfl (lv_at hl 0 rfl) ?_
  refine rgetA (n := 2) (j := 2) hB (by decide) rfl F hX wfX12_16 (by decide) rfl (kd dtX12_asNow_0 2 rfl) ?_
  refine lv_iconst (v := (1 : Int32)) hx hb (kd dtX12_asNow_0 3 rfl) (by decide) ?_
  obtain ⟨v1, hv1, hf⟩ := kbind hf
  refine rald hB (by decide) hv1 F hX (kd dtX12_asNow_0 4 rfl) ?_
  obtain ⟨w2, hw2, hf⟩ := kbind hf
  refine rputF hw2 hB F hX wfX12_242 (by decide) rfl rfl rfl rfl (kd dtX12_asNow_0 5 rfl) (fun H locs hX => ?_)
  refine lv_iconst (v := (0 : Int32)) hx hb (kd dtX12_asNow_0 6 rfl) (by decide) ?_
  refine lv_istore_n (lv' := [(1, .int (0 : Int32)), (0, .ref h0)]) hx hb (kd dtX12_asNow_0 7 rfl) rfl hl (by decide) rfl (fun ls hl => ?_)
  have hL12 : ∀ (n : Nat) (k : Int32 → rW → Option rW), ∀ (z1_12 : Int32) (w_12 : rW) (H : Heap) (locs : List Loc) (ls : Array Slot), kX D aC (rWo h0 wB w) s.heap (rWo h0 wB w_12) H locs → lv_has ls 2 [(0, .ref h0), (1, .int z1_12)] → fX12_asNow_L12 n k z1_12 w_12 = some wR → (∀ (z1_12 : Int32) (w_12 : rW) (H : Heap) (locs : List Loc) (ls : Array Slot), kX D aC (rWo h0 wB w) s.heap (rWo h0 wB w_12) H locs → lv_has ls 2 [(0, .ref h0), (1, .int z1_12)] → k z1_12 w_12 = some wR → W p l e { frames := 1, cells := 0, slots := 0, locals := 12 } s m ([.ref h0] : List Value).toArray below meth c H locs 0 0 (MQ below (kQc D aC (rWo h0 wB w) none (rWo h0 wB wR)) ([.ref h0] : List Value).toArray s 0 0 (kA (rWo h0 wB w))) (F0 m 42 ls [])) → W p l e { frames := 1, cells := 0, slots := 0, locals := 12 } s m ([.ref h0] : List Value).toArray below meth c H locs 0 0 (MQ below (kQc D aC (rWo h0 wB w) none (rWo h0 wB wR)) ([.ref h0] : List Value).toArray s 0 0 (kA (rWo h0 wB w))) (F0 m 12 ls []) := by
    intro n k
    induction n with
    | zero =>
      intro z1_12 w_12 H locs ls hX hl hf hk
      rw [fX12_asNow_L12] at hf
      cases hf
    | succ n ih =>
      intro z1_12 w_12 H locs ls hX hl hf hk
      rw [fX12_asNow_L12] at hf
      refine lv_iload_n hx hb (kd dtX12_asNow_0 8 rfl) rfl (lv_at hl 1 rfl) ?_
      refine lv_aload_n hx hb (kd dtX12_asNow_0 9 rfl) rfl (lv_at hl 0 rfl) ?_
      refine rgetF (j := 30) hB F hX wfX12_242 (by decide) rfl (kd dtX12_asNow_0 10 rfl) ?_
      refine lv_icmp_ge (tgt := 42) hx hb (kd dtX12_asNow_0 11 rfl) (by decide) (fun hc => ?_) (fun hc => ?_)
      · have hf := kif_pos hc hf
        exact hk z1_12 w_12 _ _ _ hX hl hf
      · have hf := kif_neg hc hf
        refine lv_aload_n hx hb (kd dtX12_asNow_0 12 rfl) rfl (lv_at hl 0 rfl) ?_
        refine rgetA (n := 15) (j := 27) hB (by decide) rfl F hX wfX12_55 (by decide) rfl (kd dtX12_asNow_0 13 rfl) ?_
        refine lv_iload_n hx hb (kd dtX12_asNow_0 14 rfl) rfl (lv_at hl 1 rfl) ?_
        refine lv_aload_n hx hb (kd dtX12_asNow_0 15 rfl) rfl (lv_at hl 0 rfl) ?_
        refine rgetA (n := 2) (j := 2) hB (by decide) rfl F hX wfX12_16 (by decide) rfl (kd dtX12_asNow_0 16 rfl) ?_
        refine lv_sipush (v := (203 : Int32)) hx hb (kd dtX12_asNow_0 17 rfl) (by decide) ?_
        refine lv_iload_n hx hb (kd dtX12_asNow_0 18 rfl) rfl (lv_at hl 1 rfl) ?_
        refine lv_iadd hx hb (kd dtX12_asNow_0 19 rfl) ?_
        obtain ⟨v5, hv5, hf⟩ := kbind hf
        refine rald hB (by decide) hv5 F hX (kd dtX12_asNow_0 20 rfl) ?_
        obtain ⟨w6, hw6, hf⟩ := kbind hf
        refine rast hB (by decide) hw6 F hX (kd dtX12_asNow_0 21 rfl) (fun H locs hX => ?_)
        refine lv_iinc (v := z1_12 + (1 : Int32)) (lv' := [(1, .int (z1_12 + (1 : Int32))), (0, .ref h0)]) hx hb (kd dtX12_asNow_0 22 rfl) hl (k := 1) rfl (by rfl) (by decide) rfl (fun ls hl => ?_)
        refine lv_goto (tgt := 12) hx hb (kd dtX12_asNow_0 23 rfl) (by decide) ?_
        exact ih (z1_12 + (1 : Int32)) w6 _ _ _ hX (lv_sub hl [1, 0] rfl) hf hk
  refine hL12 kFU _ (0 : Int32) w2 _ _ _ hX (lv_sub hl [1, 0] rfl) hf ?_
  intro y1_3 w4 H locs ls hX hl hf
  obtain rfl := Option.some.inj hf
  exact kvret F hX hr hlocks rfl (kd dtX12_asNow_0 24 rfl)
def lX12_needOf_0 : List (Nat × Instr × Nat) := [(0, .sipush 2400, 3), (3, .bipush 64, 2), (5, .iload_n 0, 1), (6, .imul, 1), (7, .iadd, 1), (8, .ireturn, 1)]
theorem dtX12_needOf_0 : kDec cX12_needOf lX12_needOf_0 = true := by decide +kernel
noncomputable def fX12_needOf (x0 : Int32) : Option Int32 :=
  some ((2400 : Int32) + ((64 : Int32) * x0))

set_option maxHeartbeats 4000000 in
set_option maxRecDepth 100000 in
theorem rX12_needOf (l : Launch) (D : va_G) (aC : Nat → ClassId) (w : kW) {x0 : Int32} {oR : Int32} (h : fX12_needOf x0 = some oR) : kC l D aC yX12_needOf cX12_needOf 1 (some .int) 1 12 [.int x0] w (some (.int oR)) w 0 0 := by
  refine kOf (own := RX12) (by decide) rfl (Nat.le_of_ble_eq_true rfl) ?_
  intro p e s m below meth c ls F hml hr hlocks hnm hX hZ hl
  obtain ⟨hx, hb, hts, hown, hK⟩ := id F
  have hl : lv_has ls 1 [(0, .int x0)] := hl
  have hf := h
  rw [fX12_needOf] at hf
  refine lv_sipush (v := (2400 : Int32)) hx hb (kd dtX12_needOf_0 0 rfl) (by decide) ?_
  refine lv_bipush (v := (64 : Int32)) hx hb (kd dtX12_needOf_0 1 rfl) (by decide) ?_
  refine lv_iload_n hx hb (kd dtX12_needOf_0 2 rfl) rfl (lv_at hl 0 rfl) ?_
  refine lv_imul hx hb (kd dtX12_needOf_0 3 rfl) ?_
  refine lv_iadd hx hb (kd dtX12_needOf_0 4 rfl) ?_
  obtain rfl := Option.some.inj hf
  exact kiret F hX hr hlocks rfl (kd dtX12_needOf_0 5 rfl)
theorem wfX12_245 : Cond.fieldLink RX12 245 (TX12 28).1 (TX12 28).2.1 (TX12 28).2.2.1 ∈ kT := kTm 1262 (by decide +kernel) rfl
theorem wmX12_248 : Cond.methodLink RX12 248 yX12_needOf ∈ kT := kTm 1600 (by decide +kernel) rfl
theorem mwX12_needOf : kMS yX12_needOf cX12_needOf 1 (some .int) := ⟨kTm 1602 (by decide +kernel) rfl, kTm 106 (by decide +kernel) rfl, kTm 1601 (by decide +kernel) rfl⟩
def lX12_comesOn_0 : List (Nat × Instr × Nat) := [(0, .aload_n 0, 1), (1, .sipush 8000, 3), (4, .iload_n 1, 1), (5, .invokevirtual 132, 3), (8, .bipush 20, 2), (10, .if_icmp .gt 12, 3), (13, .aload_n 0, 1), (14, .getfield 245, 3), (17, .bipush 24, 2), (19, .if_icmp .ne 4, 3), (22, .return_, 1), (23, .iconst 0, 1), (24, .istore_n 3, 1), (25, .iload_n 3, 1), (26, .aload_n 0, 1), (27, .getfield 245, 3), (30, .if_icmp .ge 31, 3), (33, .aload_n 0, 1), (34, .iload_n 3, 1), (35, .invokestatic 248, 3), (38, .aload_n 0, 1), (39, .getfield 49, 3), (42, .iload_n 3, 1), (43, .iaload, 1), (44, .sipush 8000, 3), (47, .iload_n 1, 1), (48, .invokevirtual 151, 3), (51, .ifCond .eq 4, 3), (54, .return_, 1), (55, .iinc 3 1, 3), (58, .goto (-33), 3), (61, .aload_n 0, 1), (62, .getfield 49, 3), (65, .aload_n 0, 1), (66, .getfield 245, 3), (69, .aload_n 0, 1), (70, .sipush 8000, 3), (73, .iload_n 1, 1), (74, .aload_n 0, 1), (75, .getfield 245, 3), (78, .invokestatic 248, 3), (81, .invokevirtual 173, 3), (84, .iastore, 1), (85, .aload_n 0, 1), (86, .getfield 52, 3), (89, .aload_n 0, 1), (90, .getfield 245, 3), (93, .iload_n 2, 1), (94, .iastore, 1), (95, .aload_n 0, 1), (96, .dup, 1), (97, .getfield 245, 3), (100, .iconst 1, 1), (101, .iadd, 1), (102, .putfield 245, 3), (105, .return_, 1)]
theorem dtX12_comesOn_0 : kDec cX12_comesOn lX12_comesOn_0 = true := by decide +kernel
noncomputable def fX12_comesOn_L25 (x1 : Int32) (x2 : Int32) (w : rW) : Nat → (Int32 → Option rW) → Int32 → Option rW
  | 0, _, _ => none
  | n + 1, k, x3 =>
  if (rF w 28) ≤ x3 then
  k x3
  else
  (fX12_needOf x3).bind fun v2 =>
  (raI w 13 24 x3).bind fun v3 =>
  (fX12_same v2 v3 (8000 : Int32) x1 w).bind fun v5 =>
  if v5 = 0 then
  fX12_comesOn_L25 x1 x2 w n k (x3 + (1 : Int32))
  else
  some w

noncomputable def fX12_comesOn (x1 : Int32) (x2 : Int32) (w : rW) : Option rW :=
  (fX12_sizeOf (8000 : Int32) x1 w).bind fun v2 =>
  if (20 : Int32) < v2 then
  some w
  else
  if (rF w 28) = (24 : Int32) then
  some w
  else
  fX12_comesOn_L25 x1 x2 w kFU (fun y3_3 => (fX12_needOf (rF w 28)).bind fun v5 =>
  kb2 (fX12_copies (8000 : Int32) x1 v5 w) fun v8 w6 =>
  (rsI w6 13 24 (rF w 28) v8).bind fun w9 =>
  (rsI w9 14 24 (rF w9 28) x2).bind fun w10 =>
  (rpF w10 28 ((rF w10 28) + (1 : Int32))).bind fun w11 =>
  some w11) (0 : Int32)

set_option maxHeartbeats 4000000 in
set_option maxRecDepth 100000 in
theorem rX12_comesOn (l : Launch) (D : va_G) (aC : Nat → ClassId) {h0 : Nat} {wB : kW} (hB : rOK h0 wB) {x1 : Int32} {x2 : Int32} {w : rW} {wR : rW} (h : fX12_comesOn x1 x2 w = some wR) : kC l D aC yX12_comesOn cX12_comesOn 4 none 2 37 [.ref h0, .int x1, .int x2] (rWo h0 wB w) none (rWo h0 wB wR) 0 0 := by
  refine kOf (own := RX12) (by decide) rfl (Nat.le_of_ble_eq_true rfl) ?_
  intro p e s m below meth c ls F hml hr hlocks hnm hX hZ hl
  obtain ⟨hx, hb, hts, hown, hK⟩ := id F
  have hl : lv_has ls 4 [(0, .ref h0), (1, .int x1), (2, .int x2)] := hl
  have hf := h
  rw [fX12_comesOn] at hf
  refine lv_aload_n hx hb (kd dtX12_comesOn_0 0 rfl) rfl (lv_at hl 0 rfl) ?_
  refine lv_sipush (v := (8000 : Int32)) hx hb (kd dtX12_comesOn_0 1 rfl) (by decide) ?_
  refine lv_iload_n hx hb (kd dtX12_comesOn_0 2 rfl) rfl (lv_at hl 1 rfl) ?_
  obtain ⟨v2, h1, hf⟩ := kbind hf
  refine kcallV (n := 2) [.int (8000 : Int32), .int x1] [] [.int v2] (rX12_sizeOf l D aC hB h1) rfl hB.1 F hml hX hZ hl.1 mwX12_sizeOf wmX12_132 rfl (by decide) (by decide +kernel) ⟨(by decide), (by decide)⟩ rfl rfl rfl (Nat.le_of_ble_eq_true rfl) (kd dtX12_comesOn_0 3 rfl) ⟨Nat.zero_le _, Nat.zero_le _⟩ (fun H locs hX => ?_)
  refine lv_bipush (v := (20 : Int32)) hx hb (kd dtX12_comesOn_0 4 rfl) (by decide) ?_
  refine lv_icmp_gt (tgt := 22) hx hb (kd dtX12_comesOn_0 5 rfl) (by decide) (fun hc => ?_) (fun hc => ?_)
  · have hf := kif_pos hc hf
    obtain rfl := Option.some.inj hf
    exact kvret F hX hr hlocks rfl (kd dtX12_comesOn_0 10 rfl)
  · have hf := kif_neg hc hf
    refine lv_aload_n hx hb (kd dtX12_comesOn_0 6 rfl) rfl (lv_at hl 0 rfl) ?_
    refine rgetF (j := 28) hB F hX wfX12_245 (by decide) rfl (kd dtX12_comesOn_0 7 rfl) ?_
    refine lv_bipush (v := (24 : Int32)) hx hb (kd dtX12_comesOn_0 8 rfl) (by decide) ?_
    refine lv_icmp_ne (tgt := 23) hx hb (kd dtX12_comesOn_0 9 rfl) (by decide) (fun hc => ?_) (fun hc => ?_)
    · have hf := kif_neg hc hf
      refine lv_iconst (v := (0 : Int32)) hx hb (kd dtX12_comesOn_0 11 rfl) (by decide) ?_
      refine lv_istore_n (lv' := [(3, .int (0 : Int32)), (0, .ref h0), (1, .int x1), (2, .int x2)]) hx hb (kd dtX12_comesOn_0 12 rfl) rfl hl (by decide) rfl (fun ls hl => ?_)
      have hL25 : ∀ (n : Nat) (k : Int32 → Option rW), ∀ (z3_25 : Int32) (H : Heap) (locs : List Loc) (ls : Array Slot), kX D aC (rWo h0 wB w) s.heap (rWo h0 wB w) H locs → lv_has ls 4 [(0, .ref h0), (1, .int x1), (2, .int x2), (3, .int z3_25)] → fX12_comesOn_L25 x1 x2 w n k z3_25 = some wR → (∀ (z3_25 : Int32) (H : Heap) (locs : List Loc) (ls : Array Slot), kX D aC (rWo h0 wB w) s.heap (rWo h0 wB w) H locs → lv_has ls 4 [(0, .ref h0), (1, .int x1), (2, .int x2), (3, .int z3_25)] → k z3_25 = some wR → W p l e { frames := 2, cells := 0, slots := 0, locals := 37 } s m ([.ref h0, .int x1, .int x2] : List Value).toArray below meth c H locs 0 0 (MQ below (kQc D aC (rWo h0 wB w) none (rWo h0 wB wR)) ([.ref h0, .int x1, .int x2] : List Value).toArray s 0 0 (kA (rWo h0 wB w))) (F0 m 61 ls [])) → W p l e { frames := 2, cells := 0, slots := 0, locals := 37 } s m ([.ref h0, .int x1, .int x2] : List Value).toArray below meth c H locs 0 0 (MQ below (kQc D aC (rWo h0 wB w) none (rWo h0 wB wR)) ([.ref h0, .int x1, .int x2] : List Value).toArray s 0 0 (kA (rWo h0 wB w))) (F0 m 25 ls []) := by
        intro n k
        induction n with
        | zero =>
          intro z3_25 H locs ls hX hl hf hk
          rw [fX12_comesOn_L25] at hf
          cases hf
        | succ n ih =>
          intro z3_25 H locs ls hX hl hf hk
          rw [fX12_comesOn_L25] at hf
          refine lv_iload_n hx hb (kd dtX12_comesOn_0 13 rfl) rfl (lv_at hl 3 rfl) ?_
          refine lv_aload_n hx hb (kd dtX12_comesOn_0 14 rfl) rfl (lv_at hl 0 rfl) ?_
          refine rgetF (j := 28) hB F hX wfX12_245 (by decide) rfl (kd dtX12_comesOn_0 15 rfl) ?_
          refine lv_icmp_ge (tgt := 61) hx hb (kd dtX12_comesOn_0 16 rfl) (by decide) (fun hc => ?_) (fun hc => ?_)
          · have hf := kif_pos hc hf
            exact hk z3_25 _ _ _ hX hl hf
          · have hf := kif_neg hc hf
            refine lv_aload_n hx hb (kd dtX12_comesOn_0 17 rfl) rfl (lv_at hl 0 rfl) ?_
            refine lv_iload_n hx hb (kd dtX12_comesOn_0 18 rfl) rfl (lv_at hl 3 rfl) ?_
            obtain ⟨v13, h12, hf⟩ := kbind hf
            refine kcallS (n := 1) [.int z3_25] [.ref h0] [.int v13, .ref h0] (rX12_needOf l D aC (rWo h0 wB w) h12) F hml hX hZ hl.1 mwX12_needOf wmX12_248 (by decide +kernel) ⟨(by decide), (by decide)⟩ rfl rfl rfl (Nat.le_of_ble_eq_true rfl) (kd dtX12_comesOn_0 19 rfl) ⟨Nat.zero_le _, Nat.zero_le _⟩ (fun H locs hX => ?_)
            refine lv_aload_n hx hb (kd dtX12_comesOn_0 20 rfl) rfl (lv_at hl 0 rfl) ?_
            refine rgetA (n := 13) (j := 25) hB (by decide) rfl F hX wfX12_49 (by decide) rfl (kd dtX12_comesOn_0 21 rfl) ?_
            refine lv_iload_n hx hb (kd dtX12_comesOn_0 22 rfl) rfl (lv_at hl 3 rfl) ?_
            obtain ⟨v14, hv14, hf⟩ := kbind hf
            refine rald hB (by decide) hv14 F hX (kd dtX12_comesOn_0 23 rfl) ?_
            refine lv_sipush (v := (8000 : Int32)) hx hb (kd dtX12_comesOn_0 24 rfl) (by decide) ?_
            refine lv_iload_n hx hb (kd dtX12_comesOn_0 25 rfl) rfl (lv_at hl 1 rfl) ?_
            obtain ⟨v16, h15, hf⟩ := kbind hf
            refine kcallV (n := 4) [.int v13, .int v14, .int (8000 : Int32), .int x1] [] [.int v16] (rX12_same l D aC hB h15) rfl hB.1 F hml hX hZ hl.1 mwX12_same wmX12_151 rfl (by decide) (by decide +kernel) ⟨(by decide), (by decide)⟩ rfl rfl rfl (Nat.le_of_ble_eq_true rfl) (kd dtX12_comesOn_0 26 rfl) ⟨Nat.zero_le _, Nat.zero_le _⟩ (fun H locs hX => ?_)
            refine lv_if_eq (tgt := 55) hx hb (kd dtX12_comesOn_0 27 rfl) (by decide) (fun hc => ?_) (fun hc => ?_)
            · have hf := kif_pos hc hf
              refine lv_iinc (v := z3_25 + (1 : Int32)) (lv' := [(3, .int (z3_25 + (1 : Int32))), (0, .ref h0), (1, .int x1), (2, .int x2)]) hx hb (kd dtX12_comesOn_0 29 rfl) hl (k := 3) rfl (by rfl) (by decide) rfl (fun ls hl => ?_)
              refine lv_goto (tgt := 25) hx hb (kd dtX12_comesOn_0 30 rfl) (by decide) ?_
              exact ih (z3_25 + (1 : Int32)) _ _ _ hX (lv_sub hl [1, 2, 3, 0] rfl) hf hk
            · have hf := kif_neg hc hf
              obtain rfl := Option.some.inj hf
              exact kvret F hX hr hlocks rfl (kd dtX12_comesOn_0 28 rfl)
      refine hL25 kFU _ (0 : Int32) _ _ _ hX (lv_sub hl [1, 2, 3, 0] rfl) hf ?_
      intro y3_3 H locs ls hX hl hf
      refine lv_aload_n hx hb (kd dtX12_comesOn_0 31 rfl) rfl (lv_at hl 0 rfl) ?_
      refine rgetA (n := 13) (j := 25) hB (by decide) rfl F hX wfX12_49 (by decide) rfl (kd dtX12_comesOn_0 32 rfl) ?_
      refine lv_aload_n hx hb (kd dtX12_comesOn_0 33 rfl) rfl (lv_at hl 0 rfl) ?_
      refine rgetF (j := 28) hB F hX wfX12_245 (by decide) rfl (kd dtX12_comesOn_0 34 rfl) ?_
      refine lv_aload_n hx hb (kd dtX12_comesOn_0 35 rfl) rfl (lv_at hl 0 rfl) ?_
      refine lv_sipush (v := (8000 : Int32)) hx hb (kd dtX12_comesOn_0 36 rfl) (by decide) ?_
      refine lv_iload_n hx hb (kd dtX12_comesOn_0 37 rfl) rfl (lv_at hl 1 rfl) ?_
      refine lv_aload_n hx hb (kd dtX12_comesOn_0 38 rfl) rfl (lv_at hl 0 rfl) ?_
      refine rgetF (j := 28) hB F hX wfX12_245 (by decide) rfl (kd dtX12_comesOn_0 39 rfl) ?_
      obtain ⟨v5, h4, hf⟩ := kbind hf
      refine kcallS (n := 1) [.int (rF w 28)] [.int x1, .int (8000 : Int32), .ref h0, .int (rF w 28), .ref (h0 + 13 + 1)] [.int v5, .int x1, .int (8000 : Int32), .ref h0, .int (rF w 28), .ref (h0 + 13 + 1)] (rX12_needOf l D aC (rWo h0 wB w) h4) F hml hX hZ hl.1 mwX12_needOf wmX12_248 (by decide +kernel) ⟨(by decide), (by decide)⟩ rfl rfl rfl (Nat.le_of_ble_eq_true rfl) (kd dtX12_comesOn_0 40 rfl) ⟨Nat.zero_le _, Nat.zero_le _⟩ (fun H locs hX => ?_)
      obtain ⟨v8, w6, h7, hf⟩ := kbind2 hf
      refine kcallV (n := 3) [.int (8000 : Int32), .int x1, .int v5] [.int (rF w 28), .ref (h0 + 13 + 1)] [.int v8, .int (rF w 28), .ref (h0 + 13 + 1)] (rX12_copies l D aC hB h7) rfl hB.1 F hml hX hZ hl.1 mwX12_copies wmX12_173 rfl (by decide) (by decide +kernel) ⟨(by decide), (by decide)⟩ rfl rfl rfl (Nat.le_of_ble_eq_true rfl) (kd dtX12_comesOn_0 41 rfl) ⟨Nat.zero_le _, Nat.zero_le _⟩ (fun H locs hX => ?_)
      obtain ⟨w9, hw9, hf⟩ := kbind hf
      refine rast hB (by decide) hw9 F hX (kd dtX12_comesOn_0 42 rfl) (fun H locs hX => ?_)
      refine lv_aload_n hx hb (kd dtX12_comesOn_0 43 rfl) rfl (lv_at hl 0 rfl) ?_
      refine rgetA (n := 14) (j := 26) hB (by decide) rfl F hX wfX12_52 (by decide) rfl (kd dtX12_comesOn_0 44 rfl) ?_
      refine lv_aload_n hx hb (kd dtX12_comesOn_0 45 rfl) rfl (lv_at hl 0 rfl) ?_
      refine rgetF (j := 28) hB F hX wfX12_245 (by decide) rfl (kd dtX12_comesOn_0 46 rfl) ?_
      refine lv_iload_n hx hb (kd dtX12_comesOn_0 47 rfl) rfl (lv_at hl 2 rfl) ?_
      obtain ⟨w10, hw10, hf⟩ := kbind hf
      refine rast hB (by decide) hw10 F hX (kd dtX12_comesOn_0 48 rfl) (fun H locs hX => ?_)
      refine lv_aload_n hx hb (kd dtX12_comesOn_0 49 rfl) rfl (lv_at hl 0 rfl) ?_
      refine lv_dup hx hb (kd dtX12_comesOn_0 50 rfl) rfl ?_
      refine rgetF (j := 28) hB F hX wfX12_245 (by decide) rfl (kd dtX12_comesOn_0 51 rfl) ?_
      refine lv_iconst (v := (1 : Int32)) hx hb (kd dtX12_comesOn_0 52 rfl) (by decide) ?_
      refine lv_iadd hx hb (kd dtX12_comesOn_0 53 rfl) ?_
      obtain ⟨w11, hw11, hf⟩ := kbind hf
      refine rputF hw11 hB F hX wfX12_245 (by decide) rfl rfl rfl rfl (kd dtX12_comesOn_0 54 rfl) (fun H locs hX => ?_)
      obtain rfl := Option.some.inj hf
      exact kvret F hX hr hlocks rfl (kd dtX12_comesOn_0 55 rfl)
    · have hf := kif_pos hc hf
      obtain rfl := Option.some.inj hf
      exact kvret F hX hr hlocks rfl (kd dtX12_comesOn_0 10 rfl)
theorem wfX12_251 : Cond.fieldLink RX12 251 (TX12 29).1 (TX12 29).2.1 (TX12 29).2.2.1 ∈ kT := kTm 1263 (by decide +kernel) rfl
theorem wfX12_254 : Cond.fieldLink RX12 254 (TX12 31).1 (TX12 31).2.1 (TX12 31).2.2.1 ∈ kT := kTm 1265 (by decide +kernel) rfl
theorem wfX12_257 : Cond.fieldLink RX12 257 (TX12 32).1 (TX12 32).2.1 (TX12 32).2.2.1 ∈ kT := kTm 1266 (by decide +kernel) rfl
theorem wfX12_260 : Cond.fieldLink RX12 260 (TX12 33).1 (TX12 33).2.1 (TX12 33).2.2.1 ∈ kT := kTm 1267 (by decide +kernel) rfl
theorem wfX12_263 : Cond.fieldLink RX12 263 (TX12 34).1 (TX12 34).2.1 (TX12 34).2.2.1 ∈ kT := kTm 1268 (by decide +kernel) rfl
def lX12_begins_0 : List (Nat × Instr × Nat) := [(0, .aload_n 0, 1), (1, .getfield 49, 3), (4, .iconst 0, 1), (5, .aload_n 0, 1), (6, .iload_n 1, 1), (7, .invokestatic 86, 3), (10, .iload_n 1, 1), (11, .invokestatic 86, 3), (14, .aload_n 0, 1), (15, .getfield 16, 3), (18, .iconst 3, 1), (19, .iload_n 1, 1), (20, .iadd, 1), (21, .iaload, 1), (22, .iadd, 1), (23, .iconst 0, 1), (24, .invokestatic 248, 3), (27, .invokevirtual 173, 3), (30, .iastore, 1), (31, .aload_n 0, 1), (32, .getfield 52, 3), (35, .iconst 0, 1), (36, .iconst 0, 1), (37, .iastore, 1), (38, .aload_n 0, 1), (39, .iconst 1, 1), (40, .putfield 245, 3), (43, .aload_n 0, 1), (44, .iconst 0, 1), (45, .putfield 251, 3), (48, .aload_n 0, 1), (49, .bipush (-4), 2), (51, .putfield 254, 3), (54, .aload_n 0, 1), (55, .bipush (-4), 2), (57, .putfield 257, 3), (60, .aload_n 0, 1), (61, .iconst 0, 1), (62, .putfield 260, 3), (65, .aload_n 0, 1), (66, .iconst 0, 1), (67, .putfield 263, 3), (70, .return_, 1)]
theorem dtX12_begins_0 : kDec cX12_begins lX12_begins_0 = true := by decide +kernel
noncomputable def fX12_begins (x1 : Int32) (w : rW) : Option rW :=
  (fX12_textOf x1).bind fun v2 =>
  (fX12_textOf x1).bind fun v4 =>
  (raI w 2 1000 ((3 : Int32) + x1)).bind fun v5 =>
  (fX12_needOf (0 : Int32)).bind fun v7 =>
  kb2 (fX12_copies v2 (v4 + v5) v7 w) fun v10 w8 =>
  (rsI w8 13 24 (0 : Int32) v10).bind fun w11 =>
  (rsI w11 14 24 (0 : Int32) (0 : Int32)).bind fun w12 =>
  (rpF w12 28 (1 : Int32)).bind fun w13 =>
  (rpF w13 29 (0 : Int32)).bind fun w14 =>
  (rpF w14 31 (-4 : Int32)).bind fun w15 =>
  (rpF w15 32 (-4 : Int32)).bind fun w16 =>
  (rpF w16 33 (0 : Int32)).bind fun w17 =>
  (rpF w17 34 (0 : Int32)).bind fun w18 =>
  some w18

set_option maxHeartbeats 4000000 in
set_option maxRecDepth 100000 in
theorem rX12_begins (l : Launch) (D : va_G) (aC : Nat → ClassId) {h0 : Nat} {wB : kW} (hB : rOK h0 wB) {x1 : Int32} {w : rW} {wR : rW} (h : fX12_begins x1 w = some wR) : kC l D aC yX12_begins cX12_begins 2 none 2 36 [.ref h0, .int x1] (rWo h0 wB w) none (rWo h0 wB wR) 0 0 := by
  refine kOf (own := RX12) (by decide) rfl (Nat.le_of_ble_eq_true rfl) ?_
  intro p e s m below meth c ls F hml hr hlocks hnm hX hZ hl
  obtain ⟨hx, hb, hts, hown, hK⟩ := id F
  have hl : lv_has ls 2 [(0, .ref h0), (1, .int x1)] := hl
  have hf := h
  rw [fX12_begins] at hf
  refine lv_aload_n hx hb (kd dtX12_begins_0 0 rfl) rfl (lv_at hl 0 rfl) ?_
  refine rgetA (n := 13) (j := 25) hB (by decide) rfl F hX wfX12_49 (by decide) rfl (kd dtX12_begins_0 1 rfl) ?_
  refine lv_iconst (v := (0 : Int32)) hx hb (kd dtX12_begins_0 2 rfl) (by decide) ?_
  refine lv_aload_n hx hb (kd dtX12_begins_0 3 rfl) rfl (lv_at hl 0 rfl) ?_
  refine lv_iload_n hx hb (kd dtX12_begins_0 4 rfl) rfl (lv_at hl 1 rfl) ?_
  obtain ⟨v2, h1, hf⟩ := kbind hf
  refine kcallS (n := 1) [.int x1] [.ref h0, .int (0 : Int32), .ref (h0 + 13 + 1)] [.int v2, .ref h0, .int (0 : Int32), .ref (h0 + 13 + 1)] (rX12_textOf l D aC (rWo h0 wB w) h1) F hml hX hZ hl.1 mwX12_textOf wmX12_86 (by decide +kernel) ⟨(by decide), (by decide)⟩ rfl rfl rfl (Nat.le_of_ble_eq_true rfl) (kd dtX12_begins_0 5 rfl) ⟨Nat.zero_le _, Nat.zero_le _⟩ (fun H locs hX => ?_)
  refine lv_iload_n hx hb (kd dtX12_begins_0 6 rfl) rfl (lv_at hl 1 rfl) ?_
  obtain ⟨v4, h3, hf⟩ := kbind hf
  refine kcallS (n := 1) [.int x1] [.int v2, .ref h0, .int (0 : Int32), .ref (h0 + 13 + 1)] [.int v4, .int v2, .ref h0, .int (0 : Int32), .ref (h0 + 13 + 1)] (rX12_textOf l D aC (rWo h0 wB w) h3) F hml hX hZ hl.1 mwX12_textOf wmX12_86 (by decide +kernel) ⟨(by decide), (by decide)⟩ rfl rfl rfl (Nat.le_of_ble_eq_true rfl) (kd dtX12_begins_0 7 rfl) ⟨Nat.zero_le _, Nat.zero_le _⟩ (fun H locs hX => ?_)
  refine lv_aload_n hx hb (kd dtX12_begins_0 8 rfl) rfl (lv_at hl 0 rfl) ?_
  refine rgetA (n := 2) (j := 2) hB (by decide) rfl F hX wfX12_16 (by decide) rfl (kd dtX12_begins_0 9 rfl) ?_
  refine lv_iconst (v := (3 : Int32)) hx hb (kd dtX12_begins_0 10 rfl) (by decide) ?_
  refine lv_iload_n hx hb (kd dtX12_begins_0 11 rfl) rfl (lv_at hl 1 rfl) ?_
  refine lv_iadd hx hb (kd dtX12_begins_0 12 rfl) ?_
  obtain ⟨v5, hv5, hf⟩ := kbind hf
  refine rald hB (by decide) hv5 F hX (kd dtX12_begins_0 13 rfl) ?_
  refine lv_iadd hx hb (kd dtX12_begins_0 14 rfl) ?_
  refine lv_iconst (v := (0 : Int32)) hx hb (kd dtX12_begins_0 15 rfl) (by decide) ?_
  obtain ⟨v7, h6, hf⟩ := kbind hf
  refine kcallS (n := 1) [.int (0 : Int32)] [.int (v4 + v5), .int v2, .ref h0, .int (0 : Int32), .ref (h0 + 13 + 1)] [.int v7, .int (v4 + v5), .int v2, .ref h0, .int (0 : Int32), .ref (h0 + 13 + 1)] (rX12_needOf l D aC (rWo h0 wB w) h6) F hml hX hZ hl.1 mwX12_needOf wmX12_248 (by decide +kernel) ⟨(by decide), (by decide)⟩ rfl rfl rfl (Nat.le_of_ble_eq_true rfl) (kd dtX12_begins_0 16 rfl) ⟨Nat.zero_le _, Nat.zero_le _⟩ (fun H locs hX => ?_)
  obtain ⟨v10, w8, h9, hf⟩ := kbind2 hf
  refine kcallV (n := 3) [.int v2, .int (v4 + v5), .int v7] [.int (0 : Int32), .ref (h0 + 13 + 1)] [.int v10, .int (0 : Int32), .ref (h0 + 13 + 1)] (rX12_copies l D aC hB h9) rfl hB.1 F hml hX hZ hl.1 mwX12_copies wmX12_173 rfl (by decide) (by decide +kernel) ⟨(by decide), (by decide)⟩ rfl rfl rfl (Nat.le_of_ble_eq_true rfl) (kd dtX12_begins_0 17 rfl) ⟨Nat.zero_le _, Nat.zero_le _⟩ (fun H locs hX => ?_)
  obtain ⟨w11, hw11, hf⟩ := kbind hf
  refine rast hB (by decide) hw11 F hX (kd dtX12_begins_0 18 rfl) (fun H locs hX => ?_)
  refine lv_aload_n hx hb (kd dtX12_begins_0 19 rfl) rfl (lv_at hl 0 rfl) ?_
  refine rgetA (n := 14) (j := 26) hB (by decide) rfl F hX wfX12_52 (by decide) rfl (kd dtX12_begins_0 20 rfl) ?_
  refine lv_iconst (v := (0 : Int32)) hx hb (kd dtX12_begins_0 21 rfl) (by decide) ?_
  refine lv_iconst (v := (0 : Int32)) hx hb (kd dtX12_begins_0 22 rfl) (by decide) ?_
  obtain ⟨w12, hw12, hf⟩ := kbind hf
  refine rast hB (by decide) hw12 F hX (kd dtX12_begins_0 23 rfl) (fun H locs hX => ?_)
  refine lv_aload_n hx hb (kd dtX12_begins_0 24 rfl) rfl (lv_at hl 0 rfl) ?_
  refine lv_iconst (v := (1 : Int32)) hx hb (kd dtX12_begins_0 25 rfl) (by decide) ?_
  obtain ⟨w13, hw13, hf⟩ := kbind hf
  refine rputF hw13 hB F hX wfX12_245 (by decide) rfl rfl rfl rfl (kd dtX12_begins_0 26 rfl) (fun H locs hX => ?_)
  refine lv_aload_n hx hb (kd dtX12_begins_0 27 rfl) rfl (lv_at hl 0 rfl) ?_
  refine lv_iconst (v := (0 : Int32)) hx hb (kd dtX12_begins_0 28 rfl) (by decide) ?_
  obtain ⟨w14, hw14, hf⟩ := kbind hf
  refine rputF hw14 hB F hX wfX12_251 (by decide) rfl rfl rfl rfl (kd dtX12_begins_0 29 rfl) (fun H locs hX => ?_)
  refine lv_aload_n hx hb (kd dtX12_begins_0 30 rfl) rfl (lv_at hl 0 rfl) ?_
  refine lv_bipush (v := (-4 : Int32)) hx hb (kd dtX12_begins_0 31 rfl) (by decide) ?_
  obtain ⟨w15, hw15, hf⟩ := kbind hf
  refine rputF hw15 hB F hX wfX12_254 (by decide) rfl rfl rfl rfl (kd dtX12_begins_0 32 rfl) (fun H locs hX => ?_)
  refine lv_aload_n hx hb (kd dtX12_begins_0 33 rfl) rfl (lv_at hl 0 rfl) ?_
  refine lv_bipush (v := (-4 : Int32)) hx hb (kd dtX12_begins_0 34 rfl) (by decide) ?_
  obtain ⟨w16, hw16, hf⟩ := kbind hf
  refine rputF hw16 hB F hX wfX12_257 (by decide) rfl rfl rfl rfl (kd dtX12_begins_0 35 rfl) (fun H locs hX => ?_)
  refine lv_aload_n hx hb (kd dtX12_begins_0 36 rfl) rfl (lv_at hl 0 rfl) ?_
  refine lv_iconst (v := (0 : Int32)) hx hb (kd dtX12_begins_0 37 rfl) (by decide) ?_
  obtain ⟨w17, hw17, hf⟩ := kbind hf
  refine rputF hw17 hB F hX wfX12_260 (by decide) rfl rfl rfl rfl (kd dtX12_begins_0 38 rfl) (fun H locs hX => ?_)
  refine lv_aload_n hx hb (kd dtX12_begins_0 39 rfl) rfl (lv_at hl 0 rfl) ?_
  refine lv_iconst (v := (0 : Int32)) hx hb (kd dtX12_begins_0 40 rfl) (by decide) ?_
  obtain ⟨w18, hw18, hf⟩ := kbind hf
  refine rputF hw18 hB F hX wfX12_263 (by decide) rfl rfl rfl rfl (kd dtX12_begins_0 41 rfl) (fun H locs hX => ?_)
  obtain rfl := Option.some.inj hf
  exact kvret F hX hr hlocks rfl (kd dtX12_begins_0 42 rfl)
def lX12_makes_0 : List (Nat × Instr × Nat) := [(0, .iload_n 3, 1), (1, .istore 4, 2), (3, .iload_n 1, 1), (4, .istore 5, 2), (6, .iload 5, 2), (8, .iload_n 2, 1), (9, .if_icmp .ge 97, 3), (12, .aload_n 0, 1), (13, .getfield 9, 3), (16, .iload 5, 2), (18, .iaload, 1), (19, .bipush 112, 2), (21, .isub, 1), (22, .istore 6, 2), (24, .iload 4, 2), (26, .sipush 9000, 3), (29, .if_icmp .le 6, 3), (32, .iload 4, 2), (34, .ireturn, 1), (35, .aload_n 0, 1), (36, .getfield 9, 3), (39, .iload 5, 2), (41, .iaload, 1), (42, .invokestatic 71, 3), (45, .ifCond .eq 38, 3), (48, .aload_n 0, 1), (49, .getfield 40, 3), (52, .iload 6, 2), (54, .iaload, 1), (55, .ifCond .lt 28, 3), (58, .aload_n 0, 1), (59, .aload_n 0, 1), (60, .getfield 40, 3), (63, .iload 6, 2), (65, .iaload, 1), (66, .aload_n 0, 1), (67, .getfield 43, 3), (70, .iload 6, 2), (72, .iaload, 1), (73, .iload 4, 2), (75, .invokevirtual 173, 3), (78, .istore 4, 2), (80, .goto 20, 3), (83, .aload_n 0, 1), (84, .getfield 9, 3), (87, .iload 4, 2), (89, .aload_n 0, 1), (90, .getfield 9, 3), (93, .iload 5, 2), (95, .iaload, 1), (96, .iastore, 1), (97, .iinc 4 1, 3), (100, .iinc 5 1, 3), (103, .goto (-97), 3), (106, .iload 4, 2), (108, .ireturn, 1)]
theorem dtX12_makes_0 : kDec cX12_makes lX12_makes_0 = true := by decide +kernel
noncomputable def fX12_makes_L6 (x1 : Int32) (x2 : Int32) (x3 : Int32) : Nat → (Int32 → Int32 → rW → Option (Int32 × rW)) → Int32 → Int32 → rW → Option (Int32 × rW)
  | 0, _, _, _, _ => none
  | n + 1, k, x4, x5, w =>
  if x2 ≤ x5 then
  k x4 x5 w
  else
  (raI w 0 10000 x5).bind fun v1 =>
  if x4 ≤ (9000 : Int32) then
  (raI w 0 10000 x5).bind fun v2 =>
  (fX12_isLetter v2).bind fun v4 =>
  if v4 = 0 then
  (raI w 0 10000 x5).bind fun v5 =>
  (rsI w 0 10000 x4 v5).bind fun w6 =>
  fX12_makes_L6 x1 x2 x3 n k (x4 + (1 : Int32)) (x5 + (1 : Int32)) w6
  else
  (raI w 10 6 (v1 - (112 : Int32))).bind fun v7 =>
  if v7 < 0 then
  (raI w 0 10000 x5).bind fun v8 =>
  (rsI w 0 10000 x4 v8).bind fun w9 =>
  fX12_makes_L6 x1 x2 x3 n k (x4 + (1 : Int32)) (x5 + (1 : Int32)) w9
  else
  (raI w 10 6 (v1 - (112 : Int32))).bind fun v10 =>
  (raI w 11 6 (v1 - (112 : Int32))).bind fun v11 =>
  kb2 (fX12_copies v10 v11 x4 w) fun v14 w12 =>
  fX12_makes_L6 x1 x2 x3 n k v14 (x5 + (1 : Int32)) w12
  else
  some (x4, w)

noncomputable def fX12_makes (x1 : Int32) (x2 : Int32) (x3 : Int32) (w : rW) : Option (Int32 × rW) :=
  fX12_makes_L6 x1 x2 x3 kFU (fun y4_1 y5_2 w3 => some (y4_1, w3)) x3 x1 w

set_option maxHeartbeats 4000000 in
set_option maxRecDepth 100000 in
theorem rX12_makes (l : Launch) (D : va_G) (aC : Nat → ClassId) {h0 : Nat} {wB : kW} (hB : rOK h0 wB) {x1 : Int32} {x2 : Int32} {x3 : Int32} {w : rW} {wR : rW} {oR : Int32} (h : fX12_makes x1 x2 x3 w = some (oR, wR)) : kC l D aC yX12_makes cX12_makes 7 (some .int) 2 36 [.ref h0, .int x1, .int x2, .int x3] (rWo h0 wB w) (some (.int oR)) (rWo h0 wB wR) 0 0 := by
  refine kOf (own := RX12) (by decide) rfl (Nat.le_of_ble_eq_true rfl) ?_
  intro p e s m below meth c ls F hml hr hlocks hnm hX hZ hl
  obtain ⟨hx, hb, hts, hown, hK⟩ := id F
  have hl : lv_has ls 7 [(0, .ref h0), (1, .int x1), (2, .int x2), (3, .int x3)] := hl
  have hf := h
  rw [fX12_makes] at hf
  refine lv_iload_n hx hb (kd dtX12_makes_0 0 rfl) rfl (lv_at hl 3 rfl) ?_
  refine lv_istore (lv' := [(4, .int x3), (0, .ref h0), (1, .int x1), (2, .int x2), (3, .int x3)]) hx hb (kd dtX12_makes_0 1 rfl) hl (by decide) rfl (fun ls hl => ?_)
  refine lv_iload_n hx hb (kd dtX12_makes_0 2 rfl) rfl (lv_at hl 2 rfl) ?_
  refine lv_istore (lv' := [(5, .int x1), (4, .int x3), (0, .ref h0), (1, .int x1), (2, .int x2), (3, .int x3)]) hx hb (kd dtX12_makes_0 3 rfl) hl (by decide) rfl (fun ls hl => ?_)
  have hL6 : ∀ (n : Nat) (k : Int32 → Int32 → rW → Option (Int32 × rW)), ∀ (z4_6 : Int32) (z5_6 : Int32) (w_6 : rW) (H : Heap) (locs : List Loc) (ls : Array Slot), kX D aC (rWo h0 wB w) s.heap (rWo h0 wB w_6) H locs → lv_has ls 7 [(0, .ref h0), (1, .int x1), (2, .int x2), (3, .int x3), (4, .int z4_6), (5, .int z5_6)] → fX12_makes_L6 x1 x2 x3 n k z4_6 z5_6 w_6 = some (oR, wR) → (∀ (z4_6 : Int32) (z5_6 : Int32) (w_6 : rW) (H : Heap) (locs : List Loc) (ls : Array Slot), kX D aC (rWo h0 wB w) s.heap (rWo h0 wB w_6) H locs → lv_has ls 7 [(0, .ref h0), (1, .int x1), (2, .int x2), (3, .int x3), (4, .int z4_6), (5, .int z5_6)] → k z4_6 z5_6 w_6 = some (oR, wR) → W p l e { frames := 2, cells := 0, slots := 0, locals := 36 } s m ([.ref h0, .int x1, .int x2, .int x3] : List Value).toArray below meth c H locs 0 0 (MQ below (kQc D aC (rWo h0 wB w) (some (.int oR)) (rWo h0 wB wR)) ([.ref h0, .int x1, .int x2, .int x3] : List Value).toArray s 0 0 (kA (rWo h0 wB w))) (F0 m 106 ls [])) → W p l e { frames := 2, cells := 0, slots := 0, locals := 36 } s m ([.ref h0, .int x1, .int x2, .int x3] : List Value).toArray below meth c H locs 0 0 (MQ below (kQc D aC (rWo h0 wB w) (some (.int oR)) (rWo h0 wB wR)) ([.ref h0, .int x1, .int x2, .int x3] : List Value).toArray s 0 0 (kA (rWo h0 wB w))) (F0 m 6 ls []) := by
    intro n k
    induction n with
    | zero =>
      intro z4_6 z5_6 w_6 H locs ls hX hl hf hk
      rw [fX12_makes_L6] at hf
      cases hf
    | succ n ih =>
      intro z4_6 z5_6 w_6 H locs ls hX hl hf hk
      rw [fX12_makes_L6] at hf
      refine lv_iload hx hb (kd dtX12_makes_0 4 rfl) (lv_at hl 5 rfl) ?_
      refine lv_iload_n hx hb (kd dtX12_makes_0 5 rfl) rfl (lv_at hl 2 rfl) ?_
      refine lv_icmp_ge (tgt := 106) hx hb (kd dtX12_makes_0 6 rfl) (by decide) (fun hc => ?_) (fun hc => ?_)
      · have hf := kif_pos hc hf
        exact hk z4_6 z5_6 w_6 _ _ _ hX hl hf
      · have hf := kif_neg hc hf
        refine lv_aload_n hx hb (kd dtX12_makes_0 7 rfl) rfl (lv_at hl 0 rfl) ?_
        refine rgetA (n := 0) (j := 0) hB (by decide) rfl F hX wfX12_9 (by decide) rfl (kd dtX12_makes_0 8 rfl) ?_
        refine lv_iload hx hb (kd dtX12_makes_0 9 rfl) (lv_at hl 5 rfl) ?_
        obtain ⟨v4, hv4, hf⟩ := kbind hf
        refine rald hB (by decide) hv4 F hX (kd dtX12_makes_0 10 rfl) ?_
        refine lv_bipush (v := (112 : Int32)) hx hb (kd dtX12_makes_0 11 rfl) (by decide) ?_
        refine lv_isub hx hb (kd dtX12_makes_0 12 rfl) ?_
        refine lv_istore (lv' := [(6, .int (v4 - (112 : Int32))), (0, .ref h0), (1, .int x1), (2, .int x2), (3, .int x3), (4, .int z4_6), (5, .int z5_6)]) hx hb (kd dtX12_makes_0 13 rfl) hl (by decide) rfl (fun ls hl => ?_)
        refine lv_iload hx hb (kd dtX12_makes_0 14 rfl) (lv_at hl 5 rfl) ?_
        refine lv_sipush (v := (9000 : Int32)) hx hb (kd dtX12_makes_0 15 rfl) (by decide) ?_
        refine lv_icmp_le (tgt := 35) hx hb (kd dtX12_makes_0 16 rfl) (by decide) (fun hc => ?_) (fun hc => ?_)
        · have hf := kif_pos hc hf
          refine lv_aload_n hx hb (kd dtX12_makes_0 19 rfl) rfl (lv_at hl 1 rfl) ?_
          refine rgetA (n := 0) (j := 0) hB (by decide) rfl F hX wfX12_9 (by decide) rfl (kd dtX12_makes_0 20 rfl) ?_
          refine lv_iload hx hb (kd dtX12_makes_0 21 rfl) (lv_at hl 6 rfl) ?_
          obtain ⟨v5, hv5, hf⟩ := kbind hf
          refine rald hB (by decide) hv5 F hX (kd dtX12_makes_0 22 rfl) ?_
          obtain ⟨v7, h6, hf⟩ := kbind hf
          refine kcallS (n := 1) [.int v5] [] [.int v7] (rX12_isLetter l D aC (rWo h0 wB w_6) h6) F hml hX hZ hl.1 mwX12_isLetter wmX12_71 (by decide +kernel) ⟨(by decide), (by decide)⟩ rfl rfl rfl (Nat.le_of_ble_eq_true rfl) (kd dtX12_makes_0 23 rfl) ⟨Nat.zero_le _, Nat.zero_le _⟩ (fun H locs hX => ?_)
          refine lv_if_eq (tgt := 83) hx hb (kd dtX12_makes_0 24 rfl) (by decide) (fun hc => ?_) (fun hc => ?_)
          · have hf := kif_pos hc hf
            refine lv_aload_n hx hb (kd dtX12_makes_0 43 rfl) rfl (lv_at hl 1 rfl) ?_
            refine rgetA (n := 0) (j := 0) hB (by decide) rfl F hX wfX12_9 (by decide) rfl (kd dtX12_makes_0 44 rfl) ?_
            refine lv_iload hx hb (kd dtX12_makes_0 45 rfl) (lv_at hl 5 rfl) ?_
            refine lv_aload_n hx hb (kd dtX12_makes_0 46 rfl) rfl (lv_at hl 1 rfl) ?_
            refine rgetA (n := 0) (j := 0) hB (by decide) rfl F hX wfX12_9 (by decide) rfl (kd dtX12_makes_0 47 rfl) ?_
            refine lv_iload hx hb (kd dtX12_makes_0 48 rfl) (lv_at hl 6 rfl) ?_
            obtain ⟨v8, hv8, hf⟩ := kbind hf
            refine rald hB (by decide) hv8 F hX (kd dtX12_makes_0 49 rfl) ?_
            obtain ⟨w9, hw9, hf⟩ := kbind hf
            refine rast hB (by decide) hw9 F hX (kd dtX12_makes_0 50 rfl) (fun H locs hX => ?_)
            refine lv_iinc (v := z4_6 + (1 : Int32)) (lv' := [(4, .int (z4_6 + (1 : Int32))), (6, .int (v4 - (112 : Int32))), (0, .ref h0), (1, .int x1), (2, .int x2), (3, .int x3), (5, .int z5_6)]) hx hb (kd dtX12_makes_0 51 rfl) hl (k := 5) rfl (by rfl) (by decide) rfl (fun ls hl => ?_)
            refine lv_iinc (v := z5_6 + (1 : Int32)) (lv' := [(5, .int (z5_6 + (1 : Int32))), (4, .int (z4_6 + (1 : Int32))), (6, .int (v4 - (112 : Int32))), (0, .ref h0), (1, .int x1), (2, .int x2), (3, .int x3)]) hx hb (kd dtX12_makes_0 52 rfl) hl (k := 6) rfl (by rfl) (by decide) rfl (fun ls hl => ?_)
            refine lv_goto (tgt := 6) hx hb (kd dtX12_makes_0 53 rfl) (by decide) ?_
            exact ih (z4_6 + (1 : Int32)) (z5_6 + (1 : Int32)) w9 _ _ _ hX (lv_sub hl [3, 4, 5, 6, 1, 0] rfl) hf hk
          · have hf := kif_neg hc hf
            refine lv_aload_n hx hb (kd dtX12_makes_0 25 rfl) rfl (lv_at hl 1 rfl) ?_
            refine rgetA (n := 10) (j := 15) hB (by decide) rfl F hX wfX12_40 (by decide) rfl (kd dtX12_makes_0 26 rfl) ?_
            refine lv_iload hx hb (kd dtX12_makes_0 27 rfl) (lv_at hl 0 rfl) ?_
            obtain ⟨v10, hv10, hf⟩ := kbind hf
            refine rald hB (by decide) hv10 F hX (kd dtX12_makes_0 28 rfl) ?_
            refine lv_if_lt (tgt := 83) hx hb (kd dtX12_makes_0 29 rfl) (by decide) (fun hc => ?_) (fun hc => ?_)
            · have hf := kif_pos hc hf
              refine lv_aload_n hx hb (kd dtX12_makes_0 43 rfl) rfl (lv_at hl 1 rfl) ?_
              refine rgetA (n := 0) (j := 0) hB (by decide) rfl F hX wfX12_9 (by decide) rfl (kd dtX12_makes_0 44 rfl) ?_
              refine lv_iload hx hb (kd dtX12_makes_0 45 rfl) (lv_at hl 5 rfl) ?_
              refine lv_aload_n hx hb (kd dtX12_makes_0 46 rfl) rfl (lv_at hl 1 rfl) ?_
              refine rgetA (n := 0) (j := 0) hB (by decide) rfl F hX wfX12_9 (by decide) rfl (kd dtX12_makes_0 47 rfl) ?_
              refine lv_iload hx hb (kd dtX12_makes_0 48 rfl) (lv_at hl 6 rfl) ?_
              obtain ⟨v11, hv11, hf⟩ := kbind hf
              refine rald hB (by decide) hv11 F hX (kd dtX12_makes_0 49 rfl) ?_
              obtain ⟨w12, hw12, hf⟩ := kbind hf
              refine rast hB (by decide) hw12 F hX (kd dtX12_makes_0 50 rfl) (fun H locs hX => ?_)
              refine lv_iinc (v := z4_6 + (1 : Int32)) (lv' := [(4, .int (z4_6 + (1 : Int32))), (6, .int (v4 - (112 : Int32))), (0, .ref h0), (1, .int x1), (2, .int x2), (3, .int x3), (5, .int z5_6)]) hx hb (kd dtX12_makes_0 51 rfl) hl (k := 5) rfl (by rfl) (by decide) rfl (fun ls hl => ?_)
              refine lv_iinc (v := z5_6 + (1 : Int32)) (lv' := [(5, .int (z5_6 + (1 : Int32))), (4, .int (z4_6 + (1 : Int32))), (6, .int (v4 - (112 : Int32))), (0, .ref h0), (1, .int x1), (2, .int x2), (3, .int x3)]) hx hb (kd dtX12_makes_0 52 rfl) hl (k := 6) rfl (by rfl) (by decide) rfl (fun ls hl => ?_)
              refine lv_goto (tgt := 6) hx hb (kd dtX12_makes_0 53 rfl) (by decide) ?_
              exact ih (z4_6 + (1 : Int32)) (z5_6 + (1 : Int32)) w12 _ _ _ hX (lv_sub hl [3, 4, 5, 6, 1, 0] rfl) hf hk
            · have hf := kif_neg hc hf
              refine lv_aload_n hx hb (kd dtX12_makes_0 30 rfl) rfl (lv_at hl 1 rfl) ?_
              refine lv_aload_n hx hb (kd dtX12_makes_0 31 rfl) rfl (lv_at hl 1 rfl) ?_
              refine rgetA (n := 10) (j := 15) hB (by decide) rfl F hX wfX12_40 (by decide) rfl (kd dtX12_makes_0 32 rfl) ?_
              refine lv_iload hx hb (kd dtX12_makes_0 33 rfl) (lv_at hl 0 rfl) ?_
              obtain ⟨v13, hv13, hf⟩ := kbind hf
              refine rald hB (by decide) hv13 F hX (kd dtX12_makes_0 34 rfl) ?_
              refine lv_aload_n hx hb (kd dtX12_makes_0 35 rfl) rfl (lv_at hl 1 rfl) ?_
              refine rgetA (n := 11) (j := 16) hB (by decide) rfl F hX wfX12_43 (by decide) rfl (kd dtX12_makes_0 36 rfl) ?_
              refine lv_iload hx hb (kd dtX12_makes_0 37 rfl) (lv_at hl 0 rfl) ?_
              obtain ⟨v14, hv14, hf⟩ := kbind hf
              refine rald hB (by decide) hv14 F hX (kd dtX12_makes_0 38 rfl) ?_
              refine lv_iload hx hb (kd dtX12_makes_0 39 rfl) (lv_at hl 5 rfl) ?_
              obtain ⟨v17, w15, h16, hf⟩ := kbind2 hf
              refine kcallV (n := 3) [.int v13, .int v14, .int z4_6] [] [.int v17] (rX12_copies l D aC hB h16) rfl hB.1 F hml hX hZ hl.1 mwX12_copies wmX12_173 rfl (by decide) (by decide +kernel) ⟨(by decide), (by decide)⟩ rfl rfl rfl (Nat.le_of_ble_eq_true rfl) (kd dtX12_makes_0 40 rfl) ⟨Nat.zero_le _, Nat.zero_le _⟩ (fun H locs hX => ?_)
              refine lv_istore (lv' := [(4, .int v17), (6, .int (v4 - (112 : Int32))), (0, .ref h0), (1, .int x1), (2, .int x2), (3, .int x3), (5, .int z5_6)]) hx hb (kd dtX12_makes_0 41 rfl) hl (by decide) rfl (fun ls hl => ?_)
              refine lv_goto (tgt := 100) hx hb (kd dtX12_makes_0 42 rfl) (by decide) ?_
              refine lv_iinc (v := z5_6 + (1 : Int32)) (lv' := [(5, .int (z5_6 + (1 : Int32))), (4, .int v17), (6, .int (v4 - (112 : Int32))), (0, .ref h0), (1, .int x1), (2, .int x2), (3, .int x3)]) hx hb (kd dtX12_makes_0 52 rfl) hl (k := 6) rfl (by rfl) (by decide) rfl (fun ls hl => ?_)
              refine lv_goto (tgt := 6) hx hb (kd dtX12_makes_0 53 rfl) (by decide) ?_
              exact ih v17 (z5_6 + (1 : Int32)) w15 _ _ _ hX (lv_sub hl [3, 4, 5, 6, 1, 0] rfl) hf hk
        · have hf := kif_neg hc hf
          refine lv_iload hx hb (kd dtX12_makes_0 17 rfl) (lv_at hl 5 rfl) ?_
          obtain ⟨rfl, rfl⟩ := Prod.mk.inj (Option.some.inj hf)
          exact kiret F hX hr hlocks rfl (kd dtX12_makes_0 18 rfl)
  refine hL6 kFU _ x3 x1 w _ _ _ hX (lv_sub hl [2, 3, 4, 5, 1, 0] rfl) hf ?_
  intro y4_1 y5_2 w3 H locs ls hX hl hf
  refine lv_iload hx hb (kd dtX12_makes_0 54 rfl) (lv_at hl 4 rfl) ?_
  obtain ⟨rfl, rfl⟩ := Prod.mk.inj (Option.some.inj hf)
  exact kiret F hX hr hlocks rfl (kd dtX12_makes_0 55 rfl)
theorem wfX12_266 : Cond.fieldLink RX12 266 (TX12 37).1 (TX12 37).2.1 (TX12 37).2.2.1 ∈ kT := kTm 1271 (by decide +kernel) rfl
theorem wfX12_269 : Cond.fieldLink RX12 269 (TX12 35).1 (TX12 35).2.1 (TX12 35).2.2.1 ∈ kT := kTm 1269 (by decide +kernel) rfl
theorem wcX12_272 : Cond.constant RX12 272 (1103515245 : Int32) ∈ kT := kTm 1611 (by decide +kernel) rfl
theorem wcX12_273 : Cond.constant RX12 273 (2147483647 : Int32) ∈ kT := kTm 1612 (by decide +kernel) rfl
theorem wcX12_274 : Cond.constant RX12 274 (65536 : Int32) ∈ kT := kTm 1613 (by decide +kernel) rfl
theorem wfX12_275 : Cond.fieldLink RX12 275 (TX12 36).1 (TX12 36).2.1 (TX12 36).2.2.1 ∈ kT := kTm 1270 (by decide +kernel) rfl
def lX12_isSaid_0 : List (Nat × Instr × Nat) := [(0, .aload_n 0, 1), (1, .getfield 266, 3), (4, .ifCond .ne 5, 3), (7, .iload_n 1, 1), (8, .ireturn, 1), (9, .aload_n 0, 1), (10, .aload_n 0, 1), (11, .getfield 269, 3), (14, .ldc_w 272, 3), (17, .imul, 1), (18, .sipush 12345, 3), (21, .iadd, 1), (22, .putfield 269, 3), (25, .aload_n 0, 1), (26, .getfield 269, 3), (29, .ldc_w 273, 3), (32, .iand, 1), (33, .ldc_w 274, 3), (36, .idiv, 1), (37, .bipush 100, 2), (39, .irem, 1), (40, .aload_n 0, 1), (41, .getfield 275, 3), (44, .if_icmp .lt 5, 3), (47, .iload_n 1, 1), (48, .ireturn, 1), (49, .iload_n 1, 1), (50, .ifCond .eq 16, 3), (53, .aload_n 0, 1), (54, .dup, 1), (55, .getfield 263, 3), (58, .iconst 1, 1), (59, .iadd, 1), (60, .putfield 263, 3), (63, .goto 13, 3), (66, .aload_n 0, 1), (67, .dup, 1), (68, .getfield 260, 3), (71, .iconst 1, 1), (72, .iadd, 1), (73, .putfield 260, 3), (76, .iconst 0, 1), (77, .ireturn, 1)]
theorem dtX12_isSaid_0 : kDec cX12_isSaid lX12_isSaid_0 = true := by decide +kernel
noncomputable def fX12_isSaid (x1 : Int32) (w : rW) : Option (Int32 × rW) :=
  if (rF w 37) = 0 then
  (kBl x1).bind fun v5 =>
  some (v5, w)
  else
  (rpF w 35 (((rF w 35) * (1103515245 : Int32)) + (12345 : Int32))).bind fun w1 =>
  if ((((rF w1 35) &&& (2147483647 : Int32)) / (65536 : Int32)) - (((rF w1 35) &&& (2147483647 : Int32)) / (65536 : Int32)) / (100 : Int32) * (100 : Int32)) < (rF w1 36) then
  if x1 = 0 then
  (rpF w1 33 ((rF w1 33) + (1 : Int32))).bind fun w2 =>
  some ((0 : Int32), w2)
  else
  (rpF w1 34 ((rF w1 34) + (1 : Int32))).bind fun w3 =>
  some ((0 : Int32), w3)
  else
  (kBl x1).bind fun v4 =>
  some (v4, w1)

set_option maxHeartbeats 4000000 in
set_option maxRecDepth 100000 in
theorem rX12_isSaid (l : Launch) (D : va_G) (aC : Nat → ClassId) {h0 : Nat} {wB : kW} (hB : rOK h0 wB) {x1 : Int32} {w : rW} {wR : rW} {oR : Int32} (h : fX12_isSaid x1 w = some (oR, wR)) : kC l D aC yX12_isSaid cX12_isSaid 2 (some .boolean) 1 12 [.ref h0, .int x1] (rWo h0 wB w) (some (.int oR)) (rWo h0 wB wR) 0 0 := by
  refine kOf (own := RX12) (by decide) rfl (Nat.le_of_ble_eq_true rfl) ?_
  intro p e s m below meth c ls F hml hr hlocks hnm hX hZ hl
  obtain ⟨hx, hb, hts, hown, hK⟩ := id F
  have hl : lv_has ls 2 [(0, .ref h0), (1, .int x1)] := hl
  have hf := h
  rw [fX12_isSaid] at hf
  refine lv_aload_n hx hb (kd dtX12_isSaid_0 0 rfl) rfl (lv_at hl 0 rfl) ?_
  refine rgetF (j := 37) hB F hX wfX12_266 (by decide) rfl (kd dtX12_isSaid_0 1 rfl) ?_
  refine lv_if_ne (tgt := 9) hx hb (kd dtX12_isSaid_0 2 rfl) (by decide) (fun hc => ?_) (fun hc => ?_)
  · have hf := kif_neg hc hf
    refine lv_aload_n hx hb (kd dtX12_isSaid_0 5 rfl) rfl (lv_at hl 0 rfl) ?_
    refine lv_aload_n hx hb (kd dtX12_isSaid_0 6 rfl) rfl (lv_at hl 0 rfl) ?_
    refine rgetF (j := 35) hB F hX wfX12_269 (by decide) rfl (kd dtX12_isSaid_0 7 rfl) ?_
    refine lv_ldcw (v := (1103515245 : Int32)) hx hb hown (hts _ wcX12_272) (kd dtX12_isSaid_0 8 rfl) ?_
    refine lv_imul hx hb (kd dtX12_isSaid_0 9 rfl) ?_
    refine lv_sipush (v := (12345 : Int32)) hx hb (kd dtX12_isSaid_0 10 rfl) (by decide) ?_
    refine lv_iadd hx hb (kd dtX12_isSaid_0 11 rfl) ?_
    obtain ⟨w1, hw1, hf⟩ := kbind hf
    refine rputF hw1 hB F hX wfX12_269 (by decide) rfl rfl rfl rfl (kd dtX12_isSaid_0 12 rfl) (fun H locs hX => ?_)
    refine lv_aload_n hx hb (kd dtX12_isSaid_0 13 rfl) rfl (lv_at hl 0 rfl) ?_
    refine rgetF (j := 35) hB F hX wfX12_269 (by decide) rfl (kd dtX12_isSaid_0 14 rfl) ?_
    refine lv_ldcw (v := (2147483647 : Int32)) hx hb hown (hts _ wcX12_273) (kd dtX12_isSaid_0 15 rfl) ?_
    refine lv_iand hx hb (kd dtX12_isSaid_0 16 rfl) ?_
    refine lv_ldcw (v := (65536 : Int32)) hx hb hown (hts _ wcX12_274) (kd dtX12_isSaid_0 17 rfl) ?_
    refine lv_idiv hx hb (kd dtX12_isSaid_0 18 rfl) (by decide) ?_
    refine lv_bipush (v := (100 : Int32)) hx hb (kd dtX12_isSaid_0 19 rfl) (by decide) ?_
    refine lv_irem hx hb (kd dtX12_isSaid_0 20 rfl) (by decide) ?_
    refine lv_aload_n hx hb (kd dtX12_isSaid_0 21 rfl) rfl (lv_at hl 0 rfl) ?_
    refine rgetF (j := 36) hB F hX wfX12_275 (by decide) rfl (kd dtX12_isSaid_0 22 rfl) ?_
    refine lv_icmp_lt (tgt := 49) hx hb (kd dtX12_isSaid_0 23 rfl) (by decide) (fun hc => ?_) (fun hc => ?_)
    · have hf := kif_pos hc hf
      refine lv_iload_n hx hb (kd dtX12_isSaid_0 26 rfl) rfl (lv_at hl 1 rfl) ?_
      refine lv_if_eq (tgt := 66) hx hb (kd dtX12_isSaid_0 27 rfl) (by decide) (fun hc => ?_) (fun hc => ?_)
      · have hf := kif_pos hc hf
        refine lv_aload_n hx hb (kd dtX12_isSaid_0 35 rfl) rfl (lv_at hl 0 rfl) ?_
        refine lv_dup hx hb (kd dtX12_isSaid_0 36 rfl) rfl ?_
        refine rgetF (j := 33) hB F hX wfX12_260 (by decide) rfl (kd dtX12_isSaid_0 37 rfl) ?_
        refine lv_iconst (v := (1 : Int32)) hx hb (kd dtX12_isSaid_0 38 rfl) (by decide) ?_
        refine lv_iadd hx hb (kd dtX12_isSaid_0 39 rfl) ?_
        obtain ⟨w2, hw2, hf⟩ := kbind hf
        refine rputF hw2 hB F hX wfX12_260 (by decide) rfl rfl rfl rfl (kd dtX12_isSaid_0 40 rfl) (fun H locs hX => ?_)
        refine lv_iconst (v := (0 : Int32)) hx hb (kd dtX12_isSaid_0 41 rfl) (by decide) ?_
        obtain ⟨rfl, rfl⟩ := Prod.mk.inj (Option.some.inj hf)
        exact kzret F hX hr hlocks rfl rfl (kd dtX12_isSaid_0 42 rfl)
      · have hf := kif_neg hc hf
        refine lv_aload_n hx hb (kd dtX12_isSaid_0 28 rfl) rfl (lv_at hl 0 rfl) ?_
        refine lv_dup hx hb (kd dtX12_isSaid_0 29 rfl) rfl ?_
        refine rgetF (j := 34) hB F hX wfX12_263 (by decide) rfl (kd dtX12_isSaid_0 30 rfl) ?_
        refine lv_iconst (v := (1 : Int32)) hx hb (kd dtX12_isSaid_0 31 rfl) (by decide) ?_
        refine lv_iadd hx hb (kd dtX12_isSaid_0 32 rfl) ?_
        obtain ⟨w3, hw3, hf⟩ := kbind hf
        refine rputF hw3 hB F hX wfX12_263 (by decide) rfl rfl rfl rfl (kd dtX12_isSaid_0 33 rfl) (fun H locs hX => ?_)
        refine lv_goto (tgt := 76) hx hb (kd dtX12_isSaid_0 34 rfl) (by decide) ?_
        refine lv_iconst (v := (0 : Int32)) hx hb (kd dtX12_isSaid_0 41 rfl) (by decide) ?_
        obtain ⟨rfl, rfl⟩ := Prod.mk.inj (Option.some.inj hf)
        exact kzret F hX hr hlocks rfl rfl (kd dtX12_isSaid_0 42 rfl)
    · have hf := kif_neg hc hf
      refine lv_iload_n hx hb (kd dtX12_isSaid_0 24 rfl) rfl (lv_at hl 1 rfl) ?_
      obtain ⟨v4, hv4, hf⟩ := kbind hf
      obtain rfl := kBl_e hv4
      obtain ⟨rfl, rfl⟩ := Prod.mk.inj (Option.some.inj hf)
      exact kzret F hX hr hlocks hv4 rfl (kd dtX12_isSaid_0 25 rfl)
  · have hf := kif_pos hc hf
    refine lv_iload_n hx hb (kd dtX12_isSaid_0 3 rfl) rfl (lv_at hl 1 rfl) ?_
    obtain ⟨v5, hv5, hf⟩ := kbind hf
    obtain rfl := kBl_e hv5
    obtain ⟨rfl, rfl⟩ := Prod.mk.inj (Option.some.inj hf)
    exact kzret F hX hr hlocks hv5 rfl (kd dtX12_isSaid_0 4 rfl)
theorem wmX12_282 : Cond.methodLink RX12 282 yX12_makes ∈ kT := kTm 1614 (by decide +kernel) rfl
theorem mwX12_makes : kMV RX12 yX12_makes cX12_makes 7 (some .int) := ⟨kTm 1617 (by decide +kernel) rfl, kTm 106 (by decide +kernel) rfl, kTm 1616 (by decide +kernel) rfl, kTm 83 (by decide +kernel) rfl⟩
theorem wmX12_285 : Cond.methodLink RX12 285 yX12_comesOn ∈ kT := kTm 1618 (by decide +kernel) rfl
theorem mwX12_comesOn : kMV RX12 yX12_comesOn cX12_comesOn 4 none := ⟨kTm 1621 (by decide +kernel) rfl, kTm 106 (by decide +kernel) rfl, kTm 1620 (by decide +kernel) rfl, kTm 84 (by decide +kernel) rfl⟩
def lX12_chains_0 : List (Nat × Instr × Nat) := [(0, .aload_n 0, 1), (1, .iload_n 3, 1), (2, .iconst 1, 1), (3, .iadd, 1), (4, .invokevirtual 75, 3), (7, .istore 5, 2), (9, .aload_n 0, 1), (10, .iload_n 3, 1), (11, .invokevirtual 75, 3), (14, .istore 6, 2), (16, .aload_n 0, 1), (17, .getfield 238, 3), (20, .ifCond .eq 16, 3), (23, .aload_n 0, 1), (24, .iload_n 3, 1), (25, .iconst 1, 1), (26, .iadd, 1), (27, .iload_n 1, 1), (28, .iconst 1, 1), (29, .iadd, 1), (30, .invokevirtual 163, 3), (33, .ifCond .eq 84, 3), (36, .aload_n 0, 1), (37, .getfield 251, 3), (40, .aload_n 0, 1), (41, .getfield 235, 3), (44, .if_icmp .ne 5, 3), (47, .iconst 0, 1), (48, .ireturn, 1), (49, .aload_n 0, 1), (50, .dup, 1), (51, .getfield 251, 3), (54, .iconst 1, 1), (55, .iadd, 1), (56, .putfield 251, 3), (59, .aload_n 0, 1), (60, .iload_n 1, 1), (61, .iconst 1, 1), (62, .iadd, 1), (63, .iload_n 3, 1), (64, .iconst 1, 1), (65, .iadd, 1), (66, .invokevirtual 166, 3), (69, .ifCond .eq 48, 3), (72, .aload_n 0, 1), (73, .getfield 9, 3), (76, .sipush 8000, 3), (79, .bipush 40, 2), (81, .iastore, 1), (82, .aload_n 0, 1), (83, .iload_n 2, 1), (84, .iconst 1, 1), (85, .iadd, 1), (86, .aload_n 0, 1), (87, .iload_n 2, 1), (88, .iconst 1, 1), (89, .iadd, 1), (90, .invokevirtual 75, 3), (93, .sipush 8001, 3), (96, .invokevirtual 282, 3), (99, .istore 7, 2), (101, .aload_n 0, 1), (102, .aload_n 0, 1), (103, .iload 5, 2), (105, .iload 6, 2), (107, .iload 7, 2), (109, .invokevirtual 173, 3), (112, .iload 4, 2), (114, .invokevirtual 285, 3), (117, .aload_n 0, 1), (118, .getfield 238, 3), (121, .ifCond .eq 19, 3), (124, .aload_n 0, 1), (125, .iload 5, 2), (127, .iconst 1, 1), (128, .iadd, 1), (129, .iload_n 2, 1), (130, .iconst 1, 1), (131, .iadd, 1), (132, .invokevirtual 163, 3)]
theorem dtX12_chains_0 : kDec cX12_chains lX12_chains_0 = true := by decide +kernel
def lX12_chains_1 : List (Nat × Instr × Nat) := [(135, .ifCond .ne 5, 3), (138, .iconst 1, 1), (139, .ireturn, 1), (140, .aload_n 0, 1), (141, .getfield 251, 3), (144, .aload_n 0, 1), (145, .getfield 235, 3), (148, .if_icmp .ne 5, 3), (151, .iconst 0, 1), (152, .ireturn, 1), (153, .aload_n 0, 1), (154, .dup, 1), (155, .getfield 251, 3), (158, .iconst 1, 1), (159, .iadd, 1), (160, .putfield 251, 3), (163, .aload_n 0, 1), (164, .iload_n 2, 1), (165, .iconst 1, 1), (166, .iadd, 1), (167, .iload 5, 2), (169, .iconst 1, 1), (170, .iadd, 1), (171, .invokevirtual 166, 3), (174, .ifCond .eq 48, 3), (177, .aload_n 0, 1), (178, .iload_n 3, 1), (179, .iload 5, 2), (181, .iconst 1, 1), (182, .iadd, 1), (183, .sipush 8000, 3), (186, .invokevirtual 173, 3), (189, .istore 7, 2), (191, .aload_n 0, 1), (192, .iload_n 1, 1), (193, .iconst 1, 1), (194, .iadd, 1), (195, .iload_n 2, 1), (196, .iload 7, 2), (198, .invokevirtual 282, 3), (201, .istore 7, 2), (203, .aload_n 0, 1), (204, .getfield 9, 3), (207, .iload 7, 2), (209, .bipush 41, 2), (211, .iastore, 1), (212, .aload_n 0, 1), (213, .iload 7, 2), (215, .iconst 1, 1), (216, .iadd, 1), (217, .iload 4, 2), (219, .invokevirtual 285, 3), (222, .iconst 1, 1), (223, .ireturn, 1)]
theorem dtX12_chains_1 : kDec cX12_chains lX12_chains_1 = true := by decide +kernel
noncomputable def fX12_chains_J140 (x1 : Int32) (x2 : Int32) (x3 : Int32) (x4 : Int32) (x5 : Int32) (x6 : Int32) (w : rW) : Option (Int32 × rW) :=
  if (rF w 29) = (rF w 23) then
  some ((0 : Int32), w)
  else
  (rpF w 29 ((rF w 29) + (1 : Int32))).bind fun w1 =>
  kb2 (fX12_comes (x2 + (1 : Int32)) (x5 + (1 : Int32)) w1) fun v4 w2 =>
  if v4 = 0 then
  some ((1 : Int32), w2)
  else
  kb2 (fX12_copies x3 (x5 + (1 : Int32)) (8000 : Int32) w2) fun v7 w5 =>
  kb2 (fX12_makes (x1 + (1 : Int32)) x2 v7 w5) fun v10 w8 =>
  (rsI w8 0 10000 v10 (41 : Int32)).bind fun w11 =>
  (fX12_comesOn (v10 + (1 : Int32)) x4 w11).bind fun w12 =>
  some ((1 : Int32), w12)

noncomputable def fX12_chains_J117 (x1 : Int32) (x2 : Int32) (x3 : Int32) (x4 : Int32) (x5 : Int32) (x6 : Int32) (w : rW) : Option (Int32 × rW) :=
  if (rF w 24) = 0 then
  fX12_chains_J140 x1 x2 x3 x4 x5 x6 w
  else
  (fX12_isLike (x5 + (1 : Int32)) (x2 + (1 : Int32)) w).bind fun v2 =>
  if v2 = 0 then
  some ((1 : Int32), w)
  else
  fX12_chains_J140 x1 x2 x3 x4 x5 x6 w

noncomputable def fX12_chains_J36 (x1 : Int32) (x2 : Int32) (x3 : Int32) (x4 : Int32) (x5 : Int32) (x6 : Int32) (w : rW) : Option (Int32 × rW) :=
  if (rF w 29) = (rF w 23) then
  some ((0 : Int32), w)
  else
  (rpF w 29 ((rF w 29) + (1 : Int32))).bind fun w1 =>
  kb2 (fX12_comes (x1 + (1 : Int32)) (x3 + (1 : Int32)) w1) fun v4 w2 =>
  if v4 = 0 then
  fX12_chains_J117 x1 x2 x3 x4 x5 x6 w2
  else
  (rsI w2 0 10000 (8000 : Int32) (40 : Int32)).bind fun w5 =>
  (fX12_end kDP (x2 + (1 : Int32)) w5).bind fun v7 =>
  kb2 (fX12_makes (x2 + (1 : Int32)) v7 (8001 : Int32) w5) fun v10 w8 =>
  kb2 (fX12_copies x5 x6 v10 w8) fun v13 w11 =>
  (fX12_comesOn v13 x4 w11).bind fun w14 =>
  fX12_chains_J117 x1 x2 x3 x4 x5 x6 w14

noncomputable def fX12_chains (x1 : Int32) (x2 : Int32) (x3 : Int32) (x4 : Int32) (w : rW) : Option (Int32 × rW) :=
  (fX12_end kDP (x3 + (1 : Int32)) w).bind fun v2 =>
  (fX12_end kDP x3 w).bind fun v4 =>
  if (rF w 24) = 0 then
  fX12_chains_J36 x1 x2 x3 x4 v2 v4 w
  else
  (fX12_isLike (x3 + (1 : Int32)) (x1 + (1 : Int32)) w).bind fun v6 =>
  if v6 = 0 then
  fX12_chains_J117 x1 x2 x3 x4 v2 v4 w
  else
  fX12_chains_J36 x1 x2 x3 x4 v2 v4 w

set_option maxHeartbeats 4000000 in
set_option maxRecDepth 100000 in
theorem rX12_chains (l : Launch) (D : va_G) (aC : Nat → ClassId) {h0 : Nat} {wB : kW} (hB : rOK h0 wB) {x1 : Int32} {x2 : Int32} {x3 : Int32} {x4 : Int32} {w : rW} {wR : rW} {oR : Int32} (h : fX12_chains x1 x2 x3 x4 w = some (oR, wR)) : kC l D aC yX12_chains cX12_chains 8 (some .boolean) 805 18901 [.ref h0, .int x1, .int x2, .int x3, .int x4] (rWo h0 wB w) (some (.int oR)) (rWo h0 wB wR) 0 0 := by
  refine kOf (own := RX12) (by decide) rfl (Nat.le_of_ble_eq_true rfl) ?_
  intro p e s m below meth c ls F hml hr hlocks hnm hX hZ hl
  obtain ⟨hx, hb, hts, hown, hK⟩ := id F
  have hl : lv_has ls 8 [(0, .ref h0), (1, .int x1), (2, .int x2), (3, .int x3), (4, .int x4)] := hl
  have hJ0_140 : ∀ (j1_140 : Int32) (j2_140 : Int32) (j3_140 : Int32) (j4_140 : Int32) (j5_140 : Int32) (j6_140 : Int32) (w_j140 : rW) (H : Heap) (locs : List Loc) (ls : Array Slot), kX D aC (rWo h0 wB w) s.heap (rWo h0 wB w_j140) H locs → lv_has ls 8 [(0, .ref h0), (1, .int j1_140), (2, .int j2_140), (3, .int j3_140), (4, .int j4_140), (5, .int j5_140), (6, .int j6_140)] → fX12_chains_J140 j1_140 j2_140 j3_140 j4_140 j5_140 j6_140 w_j140 = some (oR, wR) → W p l e { frames := 805, cells := 0, slots := 0, locals := 18901 } s m ([.ref h0, .int x1, .int x2, .int x3, .int x4] : List Value).toArray below meth c H locs 0 0 (MQ below (kQc D aC (rWo h0 wB w) (some (.int oR)) (rWo h0 wB wR)) ([.ref h0, .int x1, .int x2, .int x3, .int x4] : List Value).toArray s 0 0 (kA (rWo h0 wB w))) (F0 m 140 ls []) := by
    intro j1_140 j2_140 j3_140 j4_140 j5_140 j6_140 w_j140 H locs ls hX hl hf
    rw [fX12_chains_J140] at hf
    refine lv_aload_n hx hb (kd dtX12_chains_1 3 rfl) rfl (lv_at hl 0 rfl) ?_
    refine rgetF (j := 29) hB F hX wfX12_251 (by decide) rfl (kd dtX12_chains_1 4 rfl) ?_
    refine lv_aload_n hx hb (kd dtX12_chains_1 5 rfl) rfl (lv_at hl 0 rfl) ?_
    refine rgetF (j := 23) hB F hX wfX12_235 (by decide) rfl (kd dtX12_chains_1 6 rfl) ?_
    refine lv_icmp_ne (tgt := 153) hx hb (kd dtX12_chains_1 7 rfl) (by decide) (fun hc => ?_) (fun hc => ?_)
    · have hf := kif_neg hc hf
      refine lv_aload_n hx hb (kd dtX12_chains_1 10 rfl) rfl (lv_at hl 0 rfl) ?_
      refine lv_dup hx hb (kd dtX12_chains_1 11 rfl) rfl ?_
      refine rgetF (j := 29) hB F hX wfX12_251 (by decide) rfl (kd dtX12_chains_1 12 rfl) ?_
      refine lv_iconst (v := (1 : Int32)) hx hb (kd dtX12_chains_1 13 rfl) (by decide) ?_
      refine lv_iadd hx hb (kd dtX12_chains_1 14 rfl) ?_
      obtain ⟨w24, hw24, hf⟩ := kbind hf
      refine rputF hw24 hB F hX wfX12_251 (by decide) rfl rfl rfl rfl (kd dtX12_chains_1 15 rfl) (fun H locs hX => ?_)
      refine lv_aload_n hx hb (kd dtX12_chains_1 16 rfl) rfl (lv_at hl 0 rfl) ?_
      refine lv_iload_n hx hb (kd dtX12_chains_1 17 rfl) rfl (lv_at hl 2 rfl) ?_
      refine lv_iconst (v := (1 : Int32)) hx hb (kd dtX12_chains_1 18 rfl) (by decide) ?_
      refine lv_iadd hx hb (kd dtX12_chains_1 19 rfl) ?_
      refine lv_iload hx hb (kd dtX12_chains_1 20 rfl) (lv_at hl 5 rfl) ?_
      refine lv_iconst (v := (1 : Int32)) hx hb (kd dtX12_chains_1 21 rfl) (by decide) ?_
      refine lv_iadd hx hb (kd dtX12_chains_1 22 rfl) ?_
      obtain ⟨v27, w25, h26, hf⟩ := kbind2 hf
      refine kcallV (n := 2) [.int (j2_140 + (1 : Int32)), .int (j5_140 + (1 : Int32))] [] [.int v27] (rX12_comes l D aC hB h26) rfl hB.1 F hml hX hZ hl.1 mwX12_comes wmX12_166 rfl (by decide) (by decide +kernel) ⟨(by decide), (by decide)⟩ rfl rfl rfl (Nat.le_of_ble_eq_true rfl) (kd dtX12_chains_1 23 rfl) ⟨Nat.zero_le _, Nat.zero_le _⟩ (fun H locs hX => ?_)
      refine lv_if_eq (tgt := 222) hx hb (kd dtX12_chains_1 24 rfl) (by decide) (fun hc => ?_) (fun hc => ?_)
      · have hf := kif_pos hc hf
        refine lv_iconst (v := (1 : Int32)) hx hb (kd dtX12_chains_1 52 rfl) (by decide) ?_
        obtain ⟨rfl, rfl⟩ := Prod.mk.inj (Option.some.inj hf)
        exact kzret F hX hr hlocks rfl rfl (kd dtX12_chains_1 53 rfl)
      · have hf := kif_neg hc hf
        refine lv_aload_n hx hb (kd dtX12_chains_1 25 rfl) rfl (lv_at hl 0 rfl) ?_
        refine lv_iload_n hx hb (kd dtX12_chains_1 26 rfl) rfl (lv_at hl 3 rfl) ?_
        refine lv_iload hx hb (kd dtX12_chains_1 27 rfl) (lv_at hl 5 rfl) ?_
        refine lv_iconst (v := (1 : Int32)) hx hb (kd dtX12_chains_1 28 rfl) (by decide) ?_
        refine lv_iadd hx hb (kd dtX12_chains_1 29 rfl) ?_
        refine lv_sipush (v := (8000 : Int32)) hx hb (kd dtX12_chains_1 30 rfl) (by decide) ?_
        obtain ⟨v30, w28, h29, hf⟩ := kbind2 hf
        refine kcallV (n := 3) [.int j3_140, .int (j5_140 + (1 : Int32)), .int (8000 : Int32)] [] [.int v30] (rX12_copies l D aC hB h29) rfl hB.1 F hml hX hZ hl.1 mwX12_copies wmX12_173 rfl (by decide) (by decide +kernel) ⟨(by decide), (by decide)⟩ rfl rfl rfl (Nat.le_of_ble_eq_true rfl) (kd dtX12_chains_1 31 rfl) ⟨Nat.zero_le _, Nat.zero_le _⟩ (fun H locs hX => ?_)
        refine lv_istore (lv' := [(7, .int v30), (0, .ref h0), (1, .int j1_140), (2, .int j2_140), (3, .int j3_140), (4, .int j4_140), (5, .int j5_140), (6, .int j6_140)]) hx hb (kd dtX12_chains_1 32 rfl) hl (by decide) rfl (fun ls hl => ?_)
        refine lv_aload_n hx hb (kd dtX12_chains_1 33 rfl) rfl (lv_at hl 1 rfl) ?_
        refine lv_iload_n hx hb (kd dtX12_chains_1 34 rfl) rfl (lv_at hl 2 rfl) ?_
        refine lv_iconst (v := (1 : Int32)) hx hb (kd dtX12_chains_1 35 rfl) (by decide) ?_
        refine lv_iadd hx hb (kd dtX12_chains_1 36 rfl) ?_
        refine lv_iload_n hx hb (kd dtX12_chains_1 37 rfl) rfl (lv_at hl 3 rfl) ?_
        refine lv_iload hx hb (kd dtX12_chains_1 38 rfl) (lv_at hl 0 rfl) ?_
        obtain ⟨v33, w31, h32, hf⟩ := kbind2 hf
        refine kcallV (n := 3) [.int (j1_140 + (1 : Int32)), .int j2_140, .int v30] [] [.int v33] (rX12_makes l D aC hB h32) rfl hB.1 F hml hX hZ hl.1 mwX12_makes wmX12_282 rfl (by decide) (by decide +kernel) ⟨(by decide), (by decide)⟩ rfl rfl rfl (Nat.le_of_ble_eq_true rfl) (kd dtX12_chains_1 39 rfl) ⟨Nat.zero_le _, Nat.zero_le _⟩ (fun H locs hX => ?_)
        refine lv_istore (lv' := [(7, .int v33), (0, .ref h0), (1, .int j1_140), (2, .int j2_140), (3, .int j3_140), (4, .int j4_140), (5, .int j5_140), (6, .int j6_140)]) hx hb (kd dtX12_chains_1 40 rfl) hl (by decide) rfl (fun ls hl => ?_)
        refine lv_aload_n hx hb (kd dtX12_chains_1 41 rfl) rfl (lv_at hl 1 rfl) ?_
        refine rgetA (n := 0) (j := 0) hB (by decide) rfl F hX wfX12_9 (by decide) rfl (kd dtX12_chains_1 42 rfl) ?_
        refine lv_iload hx hb (kd dtX12_chains_1 43 rfl) (lv_at hl 0 rfl) ?_
        refine lv_bipush (v := (41 : Int32)) hx hb (kd dtX12_chains_1 44 rfl) (by decide) ?_
        obtain ⟨w34, hw34, hf⟩ := kbind hf
        refine rast hB (by decide) hw34 F hX (kd dtX12_chains_1 45 rfl) (fun H locs hX => ?_)
        refine lv_aload_n hx hb (kd dtX12_chains_1 46 rfl) rfl (lv_at hl 1 rfl) ?_
        refine lv_iload hx hb (kd dtX12_chains_1 47 rfl) (lv_at hl 0 rfl) ?_
        refine lv_iconst (v := (1 : Int32)) hx hb (kd dtX12_chains_1 48 rfl) (by decide) ?_
        refine lv_iadd hx hb (kd dtX12_chains_1 49 rfl) ?_
        refine lv_iload hx hb (kd dtX12_chains_1 50 rfl) (lv_at hl 5 rfl) ?_
        obtain ⟨w35, h36, hf⟩ := kbind hf
        refine kcallV (n := 2) [.int (v33 + (1 : Int32)), .int j4_140] [] [] (rX12_comesOn l D aC hB h36) rfl hB.1 F hml hX hZ hl.1 mwX12_comesOn wmX12_285 rfl (by decide) (by decide +kernel) ⟨(by decide), (by decide)⟩ rfl rfl rfl (Nat.le_of_ble_eq_true rfl) (kd dtX12_chains_1 51 rfl) ⟨Nat.zero_le _, Nat.zero_le _⟩ (fun H locs hX => ?_)
        refine lv_iconst (v := (1 : Int32)) hx hb (kd dtX12_chains_1 52 rfl) (by decide) ?_
        obtain ⟨rfl, rfl⟩ := Prod.mk.inj (Option.some.inj hf)
        exact kzret F hX hr hlocks rfl rfl (kd dtX12_chains_1 53 rfl)
    · have hf := kif_pos hc hf
      refine lv_iconst (v := (0 : Int32)) hx hb (kd dtX12_chains_1 8 rfl) (by decide) ?_
      obtain ⟨rfl, rfl⟩ := Prod.mk.inj (Option.some.inj hf)
      exact kzret F hX hr hlocks rfl rfl (kd dtX12_chains_1 9 rfl)
  have hJ0_117 : ∀ (j1_117 : Int32) (j2_117 : Int32) (j3_117 : Int32) (j4_117 : Int32) (j5_117 : Int32) (j6_117 : Int32) (w_j117 : rW) (H : Heap) (locs : List Loc) (ls : Array Slot), kX D aC (rWo h0 wB w) s.heap (rWo h0 wB w_j117) H locs → lv_has ls 8 [(0, .ref h0), (1, .int j1_117), (2, .int j2_117), (3, .int j3_117), (4, .int j4_117), (5, .int j5_117), (6, .int j6_117)] → fX12_chains_J117 j1_117 j2_117 j3_117 j4_117 j5_117 j6_117 w_j117 = some (oR, wR) → W p l e { frames := 805, cells := 0, slots := 0, locals := 18901 } s m ([.ref h0, .int x1, .int x2, .int x3, .int x4] : List Value).toArray below meth c H locs 0 0 (MQ below (kQc D aC (rWo h0 wB w) (some (.int oR)) (rWo h0 wB wR)) ([.ref h0, .int x1, .int x2, .int x3, .int x4] : List Value).toArray s 0 0 (kA (rWo h0 wB w))) (F0 m 117 ls []) := by
    intro j1_117 j2_117 j3_117 j4_117 j5_117 j6_117 w_j117 H locs ls hX hl hf
    rw [fX12_chains_J117] at hf
    refine lv_aload_n hx hb (kd dtX12_chains_0 69 rfl) rfl (lv_at hl 0 rfl) ?_
    refine rgetF (j := 24) hB F hX wfX12_238 (by decide) rfl (kd dtX12_chains_0 70 rfl) ?_
    refine lv_if_eq (tgt := 140) hx hb (kd dtX12_chains_0 71 rfl) (by decide) (fun hc => ?_) (fun hc => ?_)
    · have hf := kif_pos hc hf
      exact hJ0_140 j1_117 j2_117 j3_117 j4_117 j5_117 j6_117 w_j117 _ _ _ hX hl hf
    · have hf := kif_neg hc hf
      refine lv_aload_n hx hb (kd dtX12_chains_0 72 rfl) rfl (lv_at hl 0 rfl) ?_
      refine lv_iload hx hb (kd dtX12_chains_0 73 rfl) (lv_at hl 5 rfl) ?_
      refine lv_iconst (v := (1 : Int32)) hx hb (kd dtX12_chains_0 74 rfl) (by decide) ?_
      refine lv_iadd hx hb (kd dtX12_chains_0 75 rfl) ?_
      refine lv_iload_n hx hb (kd dtX12_chains_0 76 rfl) rfl (lv_at hl 2 rfl) ?_
      refine lv_iconst (v := (1 : Int32)) hx hb (kd dtX12_chains_0 77 rfl) (by decide) ?_
      refine lv_iadd hx hb (kd dtX12_chains_0 78 rfl) ?_
      obtain ⟨v23, h22, hf⟩ := kbind hf
      refine kcallV (n := 2) [.int (j5_117 + (1 : Int32)), .int (j2_117 + (1 : Int32))] [] [.int v23] (rX12_isLike l D aC hB h22) rfl hB.1 F hml hX hZ hl.1 mwX12_isLike wmX12_163 rfl (by decide) (by decide +kernel) ⟨(by decide), (by decide)⟩ rfl rfl rfl (Nat.le_of_ble_eq_true rfl) (kd dtX12_chains_0 79 rfl) ⟨Nat.zero_le _, Nat.zero_le _⟩ (fun H locs hX => ?_)
      refine lv_if_ne (tgt := 140) hx hb (kd dtX12_chains_1 0 rfl) (by decide) (fun hc => ?_) (fun hc => ?_)
      · have hf := kif_neg hc hf
        exact hJ0_140 j1_117 j2_117 j3_117 j4_117 j5_117 j6_117 w_j117 _ _ _ hX hl hf
      · have hf := kif_pos hc hf
        refine lv_iconst (v := (1 : Int32)) hx hb (kd dtX12_chains_1 1 rfl) (by decide) ?_
        obtain ⟨rfl, rfl⟩ := Prod.mk.inj (Option.some.inj hf)
        exact kzret F hX hr hlocks rfl rfl (kd dtX12_chains_1 2 rfl)
  have hJ0_36 : ∀ (j1_36 : Int32) (j2_36 : Int32) (j3_36 : Int32) (j4_36 : Int32) (j5_36 : Int32) (j6_36 : Int32) (w_j36 : rW) (H : Heap) (locs : List Loc) (ls : Array Slot), kX D aC (rWo h0 wB w) s.heap (rWo h0 wB w_j36) H locs → lv_has ls 8 [(0, .ref h0), (1, .int j1_36), (2, .int j2_36), (3, .int j3_36), (4, .int j4_36), (5, .int j5_36), (6, .int j6_36)] → fX12_chains_J36 j1_36 j2_36 j3_36 j4_36 j5_36 j6_36 w_j36 = some (oR, wR) → W p l e { frames := 805, cells := 0, slots := 0, locals := 18901 } s m ([.ref h0, .int x1, .int x2, .int x3, .int x4] : List Value).toArray below meth c H locs 0 0 (MQ below (kQc D aC (rWo h0 wB w) (some (.int oR)) (rWo h0 wB wR)) ([.ref h0, .int x1, .int x2, .int x3, .int x4] : List Value).toArray s 0 0 (kA (rWo h0 wB w))) (F0 m 36 ls []) := by
    intro j1_36 j2_36 j3_36 j4_36 j5_36 j6_36 w_j36 H locs ls hX hl hf
    rw [fX12_chains_J36] at hf
    refine lv_aload_n hx hb (kd dtX12_chains_0 22 rfl) rfl (lv_at hl 0 rfl) ?_
    refine rgetF (j := 29) hB F hX wfX12_251 (by decide) rfl (kd dtX12_chains_0 23 rfl) ?_
    refine lv_aload_n hx hb (kd dtX12_chains_0 24 rfl) rfl (lv_at hl 0 rfl) ?_
    refine rgetF (j := 23) hB F hX wfX12_235 (by decide) rfl (kd dtX12_chains_0 25 rfl) ?_
    refine lv_icmp_ne (tgt := 49) hx hb (kd dtX12_chains_0 26 rfl) (by decide) (fun hc => ?_) (fun hc => ?_)
    · have hf := kif_neg hc hf
      refine lv_aload_n hx hb (kd dtX12_chains_0 29 rfl) rfl (lv_at hl 0 rfl) ?_
      refine lv_dup hx hb (kd dtX12_chains_0 30 rfl) rfl ?_
      refine rgetF (j := 29) hB F hX wfX12_251 (by decide) rfl (kd dtX12_chains_0 31 rfl) ?_
      refine lv_iconst (v := (1 : Int32)) hx hb (kd dtX12_chains_0 32 rfl) (by decide) ?_
      refine lv_iadd hx hb (kd dtX12_chains_0 33 rfl) ?_
      obtain ⟨w7, hw7, hf⟩ := kbind hf
      refine rputF hw7 hB F hX wfX12_251 (by decide) rfl rfl rfl rfl (kd dtX12_chains_0 34 rfl) (fun H locs hX => ?_)
      refine lv_aload_n hx hb (kd dtX12_chains_0 35 rfl) rfl (lv_at hl 0 rfl) ?_
      refine lv_iload_n hx hb (kd dtX12_chains_0 36 rfl) rfl (lv_at hl 1 rfl) ?_
      refine lv_iconst (v := (1 : Int32)) hx hb (kd dtX12_chains_0 37 rfl) (by decide) ?_
      refine lv_iadd hx hb (kd dtX12_chains_0 38 rfl) ?_
      refine lv_iload_n hx hb (kd dtX12_chains_0 39 rfl) rfl (lv_at hl 3 rfl) ?_
      refine lv_iconst (v := (1 : Int32)) hx hb (kd dtX12_chains_0 40 rfl) (by decide) ?_
      refine lv_iadd hx hb (kd dtX12_chains_0 41 rfl) ?_
      obtain ⟨v10, w8, h9, hf⟩ := kbind2 hf
      refine kcallV (n := 2) [.int (j1_36 + (1 : Int32)), .int (j3_36 + (1 : Int32))] [] [.int v10] (rX12_comes l D aC hB h9) rfl hB.1 F hml hX hZ hl.1 mwX12_comes wmX12_166 rfl (by decide) (by decide +kernel) ⟨(by decide), (by decide)⟩ rfl rfl rfl (Nat.le_of_ble_eq_true rfl) (kd dtX12_chains_0 42 rfl) ⟨Nat.zero_le _, Nat.zero_le _⟩ (fun H locs hX => ?_)
      refine lv_if_eq (tgt := 117) hx hb (kd dtX12_chains_0 43 rfl) (by decide) (fun hc => ?_) (fun hc => ?_)
      · have hf := kif_pos hc hf
        exact hJ0_117 j1_36 j2_36 j3_36 j4_36 j5_36 j6_36 w8 _ _ _ hX hl hf
      · have hf := kif_neg hc hf
        refine lv_aload_n hx hb (kd dtX12_chains_0 44 rfl) rfl (lv_at hl 0 rfl) ?_
        refine rgetA (n := 0) (j := 0) hB (by decide) rfl F hX wfX12_9 (by decide) rfl (kd dtX12_chains_0 45 rfl) ?_
        refine lv_sipush (v := (8000 : Int32)) hx hb (kd dtX12_chains_0 46 rfl) (by decide) ?_
        refine lv_bipush (v := (40 : Int32)) hx hb (kd dtX12_chains_0 47 rfl) (by decide) ?_
        obtain ⟨w11, hw11, hf⟩ := kbind hf
        refine rast hB (by decide) hw11 F hX (kd dtX12_chains_0 48 rfl) (fun H locs hX => ?_)
        refine lv_aload_n hx hb (kd dtX12_chains_0 49 rfl) rfl (lv_at hl 0 rfl) ?_
        refine lv_iload_n hx hb (kd dtX12_chains_0 50 rfl) rfl (lv_at hl 2 rfl) ?_
        refine lv_iconst (v := (1 : Int32)) hx hb (kd dtX12_chains_0 51 rfl) (by decide) ?_
        refine lv_iadd hx hb (kd dtX12_chains_0 52 rfl) ?_
        refine lv_aload_n hx hb (kd dtX12_chains_0 53 rfl) rfl (lv_at hl 0 rfl) ?_
        refine lv_iload_n hx hb (kd dtX12_chains_0 54 rfl) rfl (lv_at hl 2 rfl) ?_
        refine lv_iconst (v := (1 : Int32)) hx hb (kd dtX12_chains_0 55 rfl) (by decide) ?_
        refine lv_iadd hx hb (kd dtX12_chains_0 56 rfl) ?_
        obtain ⟨v13, h12, hf⟩ := kbind hf
        refine kcallV (n := 1) [.int (j2_36 + (1 : Int32))] [.int (j2_36 + (1 : Int32)), .ref h0] [.int v13, .int (j2_36 + (1 : Int32)), .ref h0] (rX12_end l D aC hB h12) rfl hB.1 F hml hX hZ hl.1 mwX12_end wmX12_75 rfl (by decide) (by decide +kernel) ⟨(by decide), (by decide)⟩ rfl rfl rfl (Nat.le_of_ble_eq_true rfl) (kd dtX12_chains_0 57 rfl) ⟨Nat.zero_le _, Nat.zero_le _⟩ (fun H locs hX => ?_)
        refine lv_sipush (v := (8001 : Int32)) hx hb (kd dtX12_chains_0 58 rfl) (by decide) ?_
        obtain ⟨v16, w14, h15, hf⟩ := kbind2 hf
        refine kcallV (n := 3) [.int (j2_36 + (1 : Int32)), .int v13, .int (8001 : Int32)] [] [.int v16] (rX12_makes l D aC hB h15) rfl hB.1 F hml hX hZ hl.1 mwX12_makes wmX12_282 rfl (by decide) (by decide +kernel) ⟨(by decide), (by decide)⟩ rfl rfl rfl (Nat.le_of_ble_eq_true rfl) (kd dtX12_chains_0 59 rfl) ⟨Nat.zero_le _, Nat.zero_le _⟩ (fun H locs hX => ?_)
        refine lv_istore (lv' := [(7, .int v16), (0, .ref h0), (1, .int j1_36), (2, .int j2_36), (3, .int j3_36), (4, .int j4_36), (5, .int j5_36), (6, .int j6_36)]) hx hb (kd dtX12_chains_0 60 rfl) hl (by decide) rfl (fun ls hl => ?_)
        refine lv_aload_n hx hb (kd dtX12_chains_0 61 rfl) rfl (lv_at hl 1 rfl) ?_
        refine lv_aload_n hx hb (kd dtX12_chains_0 62 rfl) rfl (lv_at hl 1 rfl) ?_
        refine lv_iload hx hb (kd dtX12_chains_0 63 rfl) (lv_at hl 6 rfl) ?_
        refine lv_iload hx hb (kd dtX12_chains_0 64 rfl) (lv_at hl 7 rfl) ?_
        refine lv_iload hx hb (kd dtX12_chains_0 65 rfl) (lv_at hl 0 rfl) ?_
        obtain ⟨v19, w17, h18, hf⟩ := kbind2 hf
        refine kcallV (n := 3) [.int j5_36, .int j6_36, .int v16] [.ref h0] [.int v19, .ref h0] (rX12_copies l D aC hB h18) rfl hB.1 F hml hX hZ hl.1 mwX12_copies wmX12_173 rfl (by decide) (by decide +kernel) ⟨(by decide), (by decide)⟩ rfl rfl rfl (Nat.le_of_ble_eq_true rfl) (kd dtX12_chains_0 66 rfl) ⟨Nat.zero_le _, Nat.zero_le _⟩ (fun H locs hX => ?_)
        refine lv_iload hx hb (kd dtX12_chains_0 67 rfl) (lv_at hl 5 rfl) ?_
        obtain ⟨w20, h21, hf⟩ := kbind hf
        refine kcallV (n := 2) [.int v19, .int j4_36] [] [] (rX12_comesOn l D aC hB h21) rfl hB.1 F hml hX hZ hl.1 mwX12_comesOn wmX12_285 rfl (by decide) (by decide +kernel) ⟨(by decide), (by decide)⟩ rfl rfl rfl (Nat.le_of_ble_eq_true rfl) (kd dtX12_chains_0 68 rfl) ⟨Nat.zero_le _, Nat.zero_le _⟩ (fun H locs hX => ?_)
        exact hJ0_117 j1_36 j2_36 j3_36 j4_36 j5_36 j6_36 w20 _ _ _ hX (lv_sub hl [1, 2, 3, 4, 5, 6, 7] rfl) hf
    · have hf := kif_pos hc hf
      refine lv_iconst (v := (0 : Int32)) hx hb (kd dtX12_chains_0 27 rfl) (by decide) ?_
      obtain ⟨rfl, rfl⟩ := Prod.mk.inj (Option.some.inj hf)
      exact kzret F hX hr hlocks rfl rfl (kd dtX12_chains_0 28 rfl)
  have hf := h
  rw [fX12_chains] at hf
  refine lv_aload_n hx hb (kd dtX12_chains_0 0 rfl) rfl (lv_at hl 0 rfl) ?_
  refine lv_iload_n hx hb (kd dtX12_chains_0 1 rfl) rfl (lv_at hl 3 rfl) ?_
  refine lv_iconst (v := (1 : Int32)) hx hb (kd dtX12_chains_0 2 rfl) (by decide) ?_
  refine lv_iadd hx hb (kd dtX12_chains_0 3 rfl) ?_
  obtain ⟨v2, h1, hf⟩ := kbind hf
  refine kcallV (n := 1) [.int (x3 + (1 : Int32))] [] [.int v2] (rX12_end l D aC hB h1) rfl hB.1 F hml hX hZ hl.1 mwX12_end wmX12_75 rfl (by decide) (by decide +kernel) ⟨(by decide), (by decide)⟩ rfl rfl rfl (Nat.le_of_ble_eq_true rfl) (kd dtX12_chains_0 4 rfl) ⟨Nat.zero_le _, Nat.zero_le _⟩ (fun H locs hX => ?_)
  refine lv_istore (lv' := [(5, .int v2), (0, .ref h0), (1, .int x1), (2, .int x2), (3, .int x3), (4, .int x4)]) hx hb (kd dtX12_chains_0 5 rfl) hl (by decide) rfl (fun ls hl => ?_)
  refine lv_aload_n hx hb (kd dtX12_chains_0 6 rfl) rfl (lv_at hl 1 rfl) ?_
  refine lv_iload_n hx hb (kd dtX12_chains_0 7 rfl) rfl (lv_at hl 4 rfl) ?_
  obtain ⟨v4, h3, hf⟩ := kbind hf
  refine kcallV (n := 1) [.int x3] [] [.int v4] (rX12_end l D aC hB h3) rfl hB.1 F hml hX hZ hl.1 mwX12_end wmX12_75 rfl (by decide) (by decide +kernel) ⟨(by decide), (by decide)⟩ rfl rfl rfl (Nat.le_of_ble_eq_true rfl) (kd dtX12_chains_0 8 rfl) ⟨Nat.zero_le _, Nat.zero_le _⟩ (fun H locs hX => ?_)
  refine lv_istore (lv' := [(6, .int v4), (5, .int v2), (0, .ref h0), (1, .int x1), (2, .int x2), (3, .int x3), (4, .int x4)]) hx hb (kd dtX12_chains_0 9 rfl) hl (by decide) rfl (fun ls hl => ?_)
  refine lv_aload_n hx hb (kd dtX12_chains_0 10 rfl) rfl (lv_at hl 2 rfl) ?_
  refine rgetF (j := 24) hB F hX wfX12_238 (by decide) rfl (kd dtX12_chains_0 11 rfl) ?_
  refine lv_if_eq (tgt := 36) hx hb (kd dtX12_chains_0 12 rfl) (by decide) (fun hc => ?_) (fun hc => ?_)
  · have hf := kif_pos hc hf
    exact hJ0_36 x1 x2 x3 x4 v2 v4 w _ _ _ hX (lv_sub hl [2, 3, 4, 5, 6, 1, 0] rfl) hf
  · have hf := kif_neg hc hf
    refine lv_aload_n hx hb (kd dtX12_chains_0 13 rfl) rfl (lv_at hl 2 rfl) ?_
    refine lv_iload_n hx hb (kd dtX12_chains_0 14 rfl) rfl (lv_at hl 5 rfl) ?_
    refine lv_iconst (v := (1 : Int32)) hx hb (kd dtX12_chains_0 15 rfl) (by decide) ?_
    refine lv_iadd hx hb (kd dtX12_chains_0 16 rfl) ?_
    refine lv_iload_n hx hb (kd dtX12_chains_0 17 rfl) rfl (lv_at hl 3 rfl) ?_
    refine lv_iconst (v := (1 : Int32)) hx hb (kd dtX12_chains_0 18 rfl) (by decide) ?_
    refine lv_iadd hx hb (kd dtX12_chains_0 19 rfl) ?_
    obtain ⟨v6, h5, hf⟩ := kbind hf
    refine kcallV (n := 2) [.int (x3 + (1 : Int32)), .int (x1 + (1 : Int32))] [] [.int v6] (rX12_isLike l D aC hB h5) rfl hB.1 F hml hX hZ hl.1 mwX12_isLike wmX12_163 rfl (by decide) (by decide +kernel) ⟨(by decide), (by decide)⟩ rfl rfl rfl (Nat.le_of_ble_eq_true rfl) (kd dtX12_chains_0 20 rfl) ⟨Nat.zero_le _, Nat.zero_le _⟩ (fun H locs hX => ?_)
    refine lv_if_eq (tgt := 117) hx hb (kd dtX12_chains_0 21 rfl) (by decide) (fun hc => ?_) (fun hc => ?_)
    · have hf := kif_pos hc hf
      exact hJ0_117 x1 x2 x3 x4 v2 v4 w _ _ _ hX (lv_sub hl [2, 3, 4, 5, 6, 1, 0] rfl) hf
    · have hf := kif_neg hc hf
      exact hJ0_36 x1 x2 x3 x4 v2 v4 w _ _ _ hX (lv_sub hl [2, 3, 4, 5, 6, 1, 0] rfl) hf
theorem wmX12_289 : Cond.methodLink RX12 289 yX12_chains ∈ kT := kTm 1622 (by decide +kernel) rfl
theorem mwX12_chains : kMV RX12 yX12_chains cX12_chains 8 (some .boolean) := ⟨kTm 1625 (by decide +kernel) rfl, kTm 106 (by decide +kernel) rfl, kTm 1624 (by decide +kernel) rfl, kTm 85 (by decide +kernel) rfl⟩
theorem wmX12_278 : Cond.methodLink RX12 278 yX12_isSaid ∈ kT := kTm 1607 (by decide +kernel) rfl
theorem mwX12_isSaid : kMV RX12 yX12_isSaid cX12_isSaid 2 (some .boolean) := ⟨kTm 1610 (by decide +kernel) rfl, kTm 106 (by decide +kernel) rfl, kTm 1609 (by decide +kernel) rfl, kTm 82 (by decide +kernel) rfl⟩
def lX12_goesOn_0 : List (Nat × Instr × Nat) := [(0, .iload_n 3, 1), (1, .invokestatic 248, 3), (4, .istore 4, 2), (6, .iload_n 2, 1), (7, .invokestatic 86, 3), (10, .istore 5, 2), (12, .iload_n 1, 1), (13, .bipush 109, 2), (15, .if_icmp .ne 80, 3), (18, .aload_n 0, 1), (19, .getfield 238, 3), (22, .ifCond .eq 16, 3), (25, .aload_n 0, 1), (26, .iload 4, 2), (28, .iload 5, 2), (30, .invokevirtual 163, 3), (33, .ifCond .ne 5, 3), (36, .iconst 1, 1), (37, .ireturn, 1), (38, .aload_n 0, 1), (39, .getfield 251, 3), (42, .aload_n 0, 1), (43, .getfield 235, 3), (46, .if_icmp .ne 5, 3), (49, .iconst 0, 1), (50, .ireturn, 1), (51, .aload_n 0, 1), (52, .dup, 1), (53, .getfield 251, 3), (56, .iconst 1, 1), (57, .iadd, 1), (58, .putfield 251, 3), (61, .aload_n 0, 1), (62, .aload_n 0, 1), (63, .iload 5, 2), (65, .iload 4, 2), (67, .invokevirtual 166, 3), (70, .invokevirtual 278, 3), (73, .ifCond .ne 5, 3), (76, .iconst 1, 1), (77, .ireturn, 1), (78, .aload_n 0, 1), (79, .iload_n 2, 1), (80, .putfield 254, 3), (83, .aload_n 0, 1), (84, .aload_n 0, 1), (85, .getfield 52, 3), (88, .iload_n 3, 1), (89, .iaload, 1), (90, .putfield 257, 3), (93, .iconst 0, 1), (94, .ireturn, 1), (95, .aload_n 0, 1), (96, .iload 5, 2), (98, .invokevirtual 189, 3), (101, .ifCond .ne 5, 3), (104, .iconst 1, 1), (105, .ireturn, 1), (106, .aload_n 0, 1), (107, .iload 5, 2), (109, .iconst 1, 1), (110, .iadd, 1), (111, .invokevirtual 75, 3), (114, .istore 6, 2), (116, .iload_n 1, 1), (117, .bipush 100, 2), (119, .if_icmp .ne 88, 3), (122, .aload_n 0, 1), (123, .getfield 238, 3), (126, .ifCond .eq 18, 3), (129, .aload_n 0, 1), (130, .iload 4, 2), (132, .iload 6, 2), (134, .iconst 1, 1), (135, .iadd, 1), (136, .invokevirtual 163, 3), (139, .ifCond .ne 5, 3), (142, .iconst 1, 1), (143, .ireturn, 1), (144, .aload_n 0, 1)]
theorem dtX12_goesOn_0 : kDec cX12_goesOn lX12_goesOn_0 = true := by decide +kernel
def lX12_goesOn_1 : List (Nat × Instr × Nat) := [(145, .getfield 251, 3), (148, .aload_n 0, 1), (149, .getfield 235, 3), (152, .if_icmp .ne 5, 3), (155, .iconst 0, 1), (156, .ireturn, 1), (157, .aload_n 0, 1), (158, .dup, 1), (159, .getfield 251, 3), (162, .iconst 1, 1), (163, .iadd, 1), (164, .putfield 251, 3), (167, .aload_n 0, 1), (168, .iload 6, 2), (170, .iconst 1, 1), (171, .iadd, 1), (172, .iload 4, 2), (174, .invokevirtual 166, 3), (177, .ifCond .eq 28, 3), (180, .aload_n 0, 1), (181, .aload_n 0, 1), (182, .iload 5, 2), (184, .iconst 1, 1), (185, .iadd, 1), (186, .iload 6, 2), (188, .sipush 8000, 3), (191, .invokevirtual 282, 3), (194, .aload_n 0, 1), (195, .getfield 52, 3), (198, .iload_n 3, 1), (199, .iaload, 1), (200, .iconst 1, 1), (201, .iadd, 1), (202, .invokevirtual 285, 3), (205, .iconst 1, 1), (206, .ireturn, 1), (207, .aload_n 0, 1), (208, .iload 4, 2), (210, .invokevirtual 189, 3), (213, .ifCond .eq 24, 3), (216, .aload_n 0, 1), (217, .iload 5, 2), (219, .iload 6, 2), (221, .iload 4, 2), (223, .aload_n 0, 1), (224, .getfield 52, 3), (227, .iload_n 3, 1), (228, .iaload, 1), (229, .iconst 1, 1), (230, .iadd, 1), (231, .invokevirtual 289, 3), (234, .ifCond .eq 7, 3), (237, .iconst 1, 1), (238, .goto 4, 3), (241, .iconst 0, 1), (242, .ireturn, 1)]
theorem dtX12_goesOn_1 : kDec cX12_goesOn lX12_goesOn_1 = true := by decide +kernel
noncomputable def fX12_goesOn_J144 (x1 : Int32) (x2 : Int32) (x3 : Int32) (x4 : Int32) (x5 : Int32) (x6 : Int32) (w : rW) : Option (Int32 × rW) :=
  if (rF w 29) = (rF w 23) then
  some ((0 : Int32), w)
  else
  (rpF w 29 ((rF w 29) + (1 : Int32))).bind fun w1 =>
  kb2 (fX12_comes (x6 + (1 : Int32)) x4 w1) fun v4 w2 =>
  if v4 = 0 then
  some ((1 : Int32), w2)
  else
  kb2 (fX12_makes (x5 + (1 : Int32)) x6 (8000 : Int32) w2) fun v7 w5 =>
  (raI w5 14 24 x3).bind fun v8 =>
  (fX12_comesOn v7 (v8 + (1 : Int32)) w5).bind fun w9 =>
  some ((1 : Int32), w9)

noncomputable def fX12_goesOn_J38 (x1 : Int32) (x2 : Int32) (x3 : Int32) (x4 : Int32) (x5 : Int32) (w : rW) : Option (Int32 × rW) :=
  if (rF w 29) = (rF w 23) then
  some ((0 : Int32), w)
  else
  (rpF w 29 ((rF w 29) + (1 : Int32))).bind fun w1 =>
  kb2 (fX12_comes x5 x4 w1) fun v4 w2 =>
  kb2 (fX12_isSaid v4 w2) fun v7 w5 =>
  if v7 = 0 then
  some ((1 : Int32), w5)
  else
  (rpF w5 31 x2).bind fun w8 =>
  (raI w8 14 24 x3).bind fun v9 =>
  (rpF w8 32 v9).bind fun w10 =>
  some ((0 : Int32), w10)

noncomputable def fX12_goesOn (x1 : Int32) (x2 : Int32) (x3 : Int32) (w : rW) : Option (Int32 × rW) :=
  (fX12_needOf x3).bind fun v2 =>
  (fX12_textOf x2).bind fun v4 =>
  if x1 = (109 : Int32) then
  if (rF w 24) = 0 then
  fX12_goesOn_J38 x1 x2 x3 v2 v4 w
  else
  (fX12_isLike v2 v4 w).bind fun v18 =>
  if v18 = 0 then
  some ((1 : Int32), w)
  else
  fX12_goesOn_J38 x1 x2 x3 v2 v4 w
  else
  (fX12_isIf v4 w).bind fun v6 =>
  if v6 = 0 then
  some ((1 : Int32), w)
  else
  (fX12_end kDP (v4 + (1 : Int32)) w).bind fun v8 =>
  if x1 = (100 : Int32) then
  if (rF w 24) = 0 then
  fX12_goesOn_J144 x1 x2 x3 v2 v4 v8 w
  else
  (fX12_isLike v2 (v8 + (1 : Int32)) w).bind fun v16 =>
  if v16 = 0 then
  some ((1 : Int32), w)
  else
  fX12_goesOn_J144 x1 x2 x3 v2 v4 v8 w
  else
  (fX12_isIf v2 w).bind fun v10 =>
  if v10 = 0 then
  some ((1 : Int32), w)
  else
  (raI w 14 24 x3).bind fun v11 =>
  kb2 (fX12_chains v4 v8 v2 (v11 + (1 : Int32)) w) fun v14 w12 =>
  if v14 = 0 then
  some ((0 : Int32), w12)
  else
  some ((1 : Int32), w12)

set_option maxHeartbeats 4000000 in
set_option maxRecDepth 100000 in
theorem rX12_goesOn (l : Launch) (D : va_G) (aC : Nat → ClassId) {h0 : Nat} {wB : kW} (hB : rOK h0 wB) {x1 : Int32} {x2 : Int32} {x3 : Int32} {w : rW} {wR : rW} {oR : Int32} (h : fX12_goesOn x1 x2 x3 w = some (oR, wR)) : kC l D aC yX12_goesOn cX12_goesOn 7 (some .boolean) 806 18928 [.ref h0, .int x1, .int x2, .int x3] (rWo h0 wB w) (some (.int oR)) (rWo h0 wB wR) 0 0 := by
  refine kOf (own := RX12) (by decide) rfl (Nat.le_of_ble_eq_true rfl) ?_
  intro p e s m below meth c ls F hml hr hlocks hnm hX hZ hl
  obtain ⟨hx, hb, hts, hown, hK⟩ := id F
  have hl : lv_has ls 7 [(0, .ref h0), (1, .int x1), (2, .int x2), (3, .int x3)] := hl
  have hJ0_144 : ∀ (j1_144 : Int32) (j2_144 : Int32) (j3_144 : Int32) (j4_144 : Int32) (j5_144 : Int32) (j6_144 : Int32) (w_j144 : rW) (H : Heap) (locs : List Loc) (ls : Array Slot), kX D aC (rWo h0 wB w) s.heap (rWo h0 wB w_j144) H locs → lv_has ls 7 [(0, .ref h0), (1, .int j1_144), (2, .int j2_144), (3, .int j3_144), (4, .int j4_144), (5, .int j5_144), (6, .int j6_144)] → fX12_goesOn_J144 j1_144 j2_144 j3_144 j4_144 j5_144 j6_144 w_j144 = some (oR, wR) → W p l e { frames := 806, cells := 0, slots := 0, locals := 18928 } s m ([.ref h0, .int x1, .int x2, .int x3] : List Value).toArray below meth c H locs 0 0 (MQ below (kQc D aC (rWo h0 wB w) (some (.int oR)) (rWo h0 wB wR)) ([.ref h0, .int x1, .int x2, .int x3] : List Value).toArray s 0 0 (kA (rWo h0 wB w))) (F0 m 144 ls []) := by
    intro j1_144 j2_144 j3_144 j4_144 j5_144 j6_144 w_j144 H locs ls hX hl hf
    rw [fX12_goesOn_J144] at hf
    refine lv_aload_n hx hb (kd dtX12_goesOn_0 79 rfl) rfl (lv_at hl 0 rfl) ?_
    refine rgetF (j := 29) hB F hX wfX12_251 (by decide) rfl (kd dtX12_goesOn_1 0 rfl) ?_
    refine lv_aload_n hx hb (kd dtX12_goesOn_1 1 rfl) rfl (lv_at hl 0 rfl) ?_
    refine rgetF (j := 23) hB F hX wfX12_235 (by decide) rfl (kd dtX12_goesOn_1 2 rfl) ?_
    refine lv_icmp_ne (tgt := 157) hx hb (kd dtX12_goesOn_1 3 rfl) (by decide) (fun hc => ?_) (fun hc => ?_)
    · have hf := kif_neg hc hf
      refine lv_aload_n hx hb (kd dtX12_goesOn_1 6 rfl) rfl (lv_at hl 0 rfl) ?_
      refine lv_dup hx hb (kd dtX12_goesOn_1 7 rfl) rfl ?_
      refine rgetF (j := 29) hB F hX wfX12_251 (by decide) rfl (kd dtX12_goesOn_1 8 rfl) ?_
      refine lv_iconst (v := (1 : Int32)) hx hb (kd dtX12_goesOn_1 9 rfl) (by decide) ?_
      refine lv_iadd hx hb (kd dtX12_goesOn_1 10 rfl) ?_
      obtain ⟨w29, hw29, hf⟩ := kbind hf
      refine rputF hw29 hB F hX wfX12_251 (by decide) rfl rfl rfl rfl (kd dtX12_goesOn_1 11 rfl) (fun H locs hX => ?_)
      refine lv_aload_n hx hb (kd dtX12_goesOn_1 12 rfl) rfl (lv_at hl 0 rfl) ?_
      refine lv_iload hx hb (kd dtX12_goesOn_1 13 rfl) (lv_at hl 6 rfl) ?_
      refine lv_iconst (v := (1 : Int32)) hx hb (kd dtX12_goesOn_1 14 rfl) (by decide) ?_
      refine lv_iadd hx hb (kd dtX12_goesOn_1 15 rfl) ?_
      refine lv_iload hx hb (kd dtX12_goesOn_1 16 rfl) (lv_at hl 4 rfl) ?_
      obtain ⟨v32, w30, h31, hf⟩ := kbind2 hf
      refine kcallV (n := 2) [.int (j6_144 + (1 : Int32)), .int j4_144] [] [.int v32] (rX12_comes l D aC hB h31) rfl hB.1 F hml hX hZ hl.1 mwX12_comes wmX12_166 rfl (by decide) (by decide +kernel) ⟨(by decide), (by decide)⟩ rfl rfl rfl (Nat.le_of_ble_eq_true rfl) (kd dtX12_goesOn_1 17 rfl) ⟨Nat.zero_le _, Nat.zero_le _⟩ (fun H locs hX => ?_)
      refine lv_if_eq (tgt := 205) hx hb (kd dtX12_goesOn_1 18 rfl) (by decide) (fun hc => ?_) (fun hc => ?_)
      · have hf := kif_pos hc hf
        refine lv_iconst (v := (1 : Int32)) hx hb (kd dtX12_goesOn_1 34 rfl) (by decide) ?_
        obtain ⟨rfl, rfl⟩ := Prod.mk.inj (Option.some.inj hf)
        exact kzret F hX hr hlocks rfl rfl (kd dtX12_goesOn_1 35 rfl)
      · have hf := kif_neg hc hf
        refine lv_aload_n hx hb (kd dtX12_goesOn_1 19 rfl) rfl (lv_at hl 0 rfl) ?_
        refine lv_aload_n hx hb (kd dtX12_goesOn_1 20 rfl) rfl (lv_at hl 0 rfl) ?_
        refine lv_iload hx hb (kd dtX12_goesOn_1 21 rfl) (lv_at hl 5 rfl) ?_
        refine lv_iconst (v := (1 : Int32)) hx hb (kd dtX12_goesOn_1 22 rfl) (by decide) ?_
        refine lv_iadd hx hb (kd dtX12_goesOn_1 23 rfl) ?_
        refine lv_iload hx hb (kd dtX12_goesOn_1 24 rfl) (lv_at hl 6 rfl) ?_
        refine lv_sipush (v := (8000 : Int32)) hx hb (kd dtX12_goesOn_1 25 rfl) (by decide) ?_
        obtain ⟨v35, w33, h34, hf⟩ := kbind2 hf
        refine kcallV (n := 3) [.int (j5_144 + (1 : Int32)), .int j6_144, .int (8000 : Int32)] [.ref h0] [.int v35, .ref h0] (rX12_makes l D aC hB h34) rfl hB.1 F hml hX hZ hl.1 mwX12_makes wmX12_282 rfl (by decide) (by decide +kernel) ⟨(by decide), (by decide)⟩ rfl rfl rfl (Nat.le_of_ble_eq_true rfl) (kd dtX12_goesOn_1 26 rfl) ⟨Nat.zero_le _, Nat.zero_le _⟩ (fun H locs hX => ?_)
        refine lv_aload_n hx hb (kd dtX12_goesOn_1 27 rfl) rfl (lv_at hl 0 rfl) ?_
        refine rgetA (n := 14) (j := 26) hB (by decide) rfl F hX wfX12_52 (by decide) rfl (kd dtX12_goesOn_1 28 rfl) ?_
        refine lv_iload_n hx hb (kd dtX12_goesOn_1 29 rfl) rfl (lv_at hl 3 rfl) ?_
        obtain ⟨v36, hv36, hf⟩ := kbind hf
        refine rald hB (by decide) hv36 F hX (kd dtX12_goesOn_1 30 rfl) ?_
        refine lv_iconst (v := (1 : Int32)) hx hb (kd dtX12_goesOn_1 31 rfl) (by decide) ?_
        refine lv_iadd hx hb (kd dtX12_goesOn_1 32 rfl) ?_
        obtain ⟨w37, h38, hf⟩ := kbind hf
        refine kcallV (n := 2) [.int v35, .int (v36 + (1 : Int32))] [] [] (rX12_comesOn l D aC hB h38) rfl hB.1 F hml hX hZ hl.1 mwX12_comesOn wmX12_285 rfl (by decide) (by decide +kernel) ⟨(by decide), (by decide)⟩ rfl rfl rfl (Nat.le_of_ble_eq_true rfl) (kd dtX12_goesOn_1 33 rfl) ⟨Nat.zero_le _, Nat.zero_le _⟩ (fun H locs hX => ?_)
        refine lv_iconst (v := (1 : Int32)) hx hb (kd dtX12_goesOn_1 34 rfl) (by decide) ?_
        obtain ⟨rfl, rfl⟩ := Prod.mk.inj (Option.some.inj hf)
        exact kzret F hX hr hlocks rfl rfl (kd dtX12_goesOn_1 35 rfl)
    · have hf := kif_pos hc hf
      refine lv_iconst (v := (0 : Int32)) hx hb (kd dtX12_goesOn_1 4 rfl) (by decide) ?_
      obtain ⟨rfl, rfl⟩ := Prod.mk.inj (Option.some.inj hf)
      exact kzret F hX hr hlocks rfl rfl (kd dtX12_goesOn_1 5 rfl)
  have hJ0_38 : ∀ (j1_38 : Int32) (j2_38 : Int32) (j3_38 : Int32) (j4_38 : Int32) (j5_38 : Int32) (w_j38 : rW) (H : Heap) (locs : List Loc) (ls : Array Slot), kX D aC (rWo h0 wB w) s.heap (rWo h0 wB w_j38) H locs → lv_has ls 7 [(0, .ref h0), (1, .int j1_38), (2, .int j2_38), (3, .int j3_38), (4, .int j4_38), (5, .int j5_38)] → fX12_goesOn_J38 j1_38 j2_38 j3_38 j4_38 j5_38 w_j38 = some (oR, wR) → W p l e { frames := 806, cells := 0, slots := 0, locals := 18928 } s m ([.ref h0, .int x1, .int x2, .int x3] : List Value).toArray below meth c H locs 0 0 (MQ below (kQc D aC (rWo h0 wB w) (some (.int oR)) (rWo h0 wB wR)) ([.ref h0, .int x1, .int x2, .int x3] : List Value).toArray s 0 0 (kA (rWo h0 wB w))) (F0 m 38 ls []) := by
    intro j1_38 j2_38 j3_38 j4_38 j5_38 w_j38 H locs ls hX hl hf
    rw [fX12_goesOn_J38] at hf
    refine lv_aload_n hx hb (kd dtX12_goesOn_0 19 rfl) rfl (lv_at hl 0 rfl) ?_
    refine rgetF (j := 29) hB F hX wfX12_251 (by decide) rfl (kd dtX12_goesOn_0 20 rfl) ?_
    refine lv_aload_n hx hb (kd dtX12_goesOn_0 21 rfl) rfl (lv_at hl 0 rfl) ?_
    refine rgetF (j := 23) hB F hX wfX12_235 (by decide) rfl (kd dtX12_goesOn_0 22 rfl) ?_
    refine lv_icmp_ne (tgt := 51) hx hb (kd dtX12_goesOn_0 23 rfl) (by decide) (fun hc => ?_) (fun hc => ?_)
    · have hf := kif_neg hc hf
      refine lv_aload_n hx hb (kd dtX12_goesOn_0 26 rfl) rfl (lv_at hl 0 rfl) ?_
      refine lv_dup hx hb (kd dtX12_goesOn_0 27 rfl) rfl ?_
      refine rgetF (j := 29) hB F hX wfX12_251 (by decide) rfl (kd dtX12_goesOn_0 28 rfl) ?_
      refine lv_iconst (v := (1 : Int32)) hx hb (kd dtX12_goesOn_0 29 rfl) (by decide) ?_
      refine lv_iadd hx hb (kd dtX12_goesOn_0 30 rfl) ?_
      obtain ⟨w19, hw19, hf⟩ := kbind hf
      refine rputF hw19 hB F hX wfX12_251 (by decide) rfl rfl rfl rfl (kd dtX12_goesOn_0 31 rfl) (fun H locs hX => ?_)
      refine lv_aload_n hx hb (kd dtX12_goesOn_0 32 rfl) rfl (lv_at hl 0 rfl) ?_
      refine lv_aload_n hx hb (kd dtX12_goesOn_0 33 rfl) rfl (lv_at hl 0 rfl) ?_
      refine lv_iload hx hb (kd dtX12_goesOn_0 34 rfl) (lv_at hl 5 rfl) ?_
      refine lv_iload hx hb (kd dtX12_goesOn_0 35 rfl) (lv_at hl 4 rfl) ?_
      obtain ⟨v22, w20, h21, hf⟩ := kbind2 hf
      refine kcallV (n := 2) [.int j5_38, .int j4_38] [.ref h0] [.int v22, .ref h0] (rX12_comes l D aC hB h21) rfl hB.1 F hml hX hZ hl.1 mwX12_comes wmX12_166 rfl (by decide) (by decide +kernel) ⟨(by decide), (by decide)⟩ rfl rfl rfl (Nat.le_of_ble_eq_true rfl) (kd dtX12_goesOn_0 36 rfl) ⟨Nat.zero_le _, Nat.zero_le _⟩ (fun H locs hX => ?_)
      obtain ⟨v25, w23, h24, hf⟩ := kbind2 hf
      refine kcallV (n := 1) [.int v22] [] [.int v25] (rX12_isSaid l D aC hB h24) rfl hB.1 F hml hX hZ hl.1 mwX12_isSaid wmX12_278 rfl (by decide) (by decide +kernel) ⟨(by decide), (by decide)⟩ rfl rfl rfl (Nat.le_of_ble_eq_true rfl) (kd dtX12_goesOn_0 37 rfl) ⟨Nat.zero_le _, Nat.zero_le _⟩ (fun H locs hX => ?_)
      refine lv_if_ne (tgt := 78) hx hb (kd dtX12_goesOn_0 38 rfl) (by decide) (fun hc => ?_) (fun hc => ?_)
      · have hf := kif_neg hc hf
        refine lv_aload_n hx hb (kd dtX12_goesOn_0 41 rfl) rfl (lv_at hl 0 rfl) ?_
        refine lv_iload_n hx hb (kd dtX12_goesOn_0 42 rfl) rfl (lv_at hl 2 rfl) ?_
        obtain ⟨w26, hw26, hf⟩ := kbind hf
        refine rputF hw26 hB F hX wfX12_254 (by decide) rfl rfl rfl rfl (kd dtX12_goesOn_0 43 rfl) (fun H locs hX => ?_)
        refine lv_aload_n hx hb (kd dtX12_goesOn_0 44 rfl) rfl (lv_at hl 0 rfl) ?_
        refine lv_aload_n hx hb (kd dtX12_goesOn_0 45 rfl) rfl (lv_at hl 0 rfl) ?_
        refine rgetA (n := 14) (j := 26) hB (by decide) rfl F hX wfX12_52 (by decide) rfl (kd dtX12_goesOn_0 46 rfl) ?_
        refine lv_iload_n hx hb (kd dtX12_goesOn_0 47 rfl) rfl (lv_at hl 3 rfl) ?_
        obtain ⟨v27, hv27, hf⟩ := kbind hf
        refine rald hB (by decide) hv27 F hX (kd dtX12_goesOn_0 48 rfl) ?_
        obtain ⟨w28, hw28, hf⟩ := kbind hf
        refine rputF hw28 hB F hX wfX12_257 (by decide) rfl rfl rfl rfl (kd dtX12_goesOn_0 49 rfl) (fun H locs hX => ?_)
        refine lv_iconst (v := (0 : Int32)) hx hb (kd dtX12_goesOn_0 50 rfl) (by decide) ?_
        obtain ⟨rfl, rfl⟩ := Prod.mk.inj (Option.some.inj hf)
        exact kzret F hX hr hlocks rfl rfl (kd dtX12_goesOn_0 51 rfl)
      · have hf := kif_pos hc hf
        refine lv_iconst (v := (1 : Int32)) hx hb (kd dtX12_goesOn_0 39 rfl) (by decide) ?_
        obtain ⟨rfl, rfl⟩ := Prod.mk.inj (Option.some.inj hf)
        exact kzret F hX hr hlocks rfl rfl (kd dtX12_goesOn_0 40 rfl)
    · have hf := kif_pos hc hf
      refine lv_iconst (v := (0 : Int32)) hx hb (kd dtX12_goesOn_0 24 rfl) (by decide) ?_
      obtain ⟨rfl, rfl⟩ := Prod.mk.inj (Option.some.inj hf)
      exact kzret F hX hr hlocks rfl rfl (kd dtX12_goesOn_0 25 rfl)
  have hf := h
  rw [fX12_goesOn] at hf
  refine lv_iload_n hx hb (kd dtX12_goesOn_0 0 rfl) rfl (lv_at hl 3 rfl) ?_
  obtain ⟨v2, h1, hf⟩ := kbind hf
  refine kcallS (n := 1) [.int x3] [] [.int v2] (rX12_needOf l D aC (rWo h0 wB w) h1) F hml hX hZ hl.1 mwX12_needOf wmX12_248 (by decide +kernel) ⟨(by decide), (by decide)⟩ rfl rfl rfl (Nat.le_of_ble_eq_true rfl) (kd dtX12_goesOn_0 1 rfl) ⟨Nat.zero_le _, Nat.zero_le _⟩ (fun H locs hX => ?_)
  refine lv_istore (lv' := [(4, .int v2), (0, .ref h0), (1, .int x1), (2, .int x2), (3, .int x3)]) hx hb (kd dtX12_goesOn_0 2 rfl) hl (by decide) rfl (fun ls hl => ?_)
  refine lv_iload_n hx hb (kd dtX12_goesOn_0 3 rfl) rfl (lv_at hl 3 rfl) ?_
  obtain ⟨v4, h3, hf⟩ := kbind hf
  refine kcallS (n := 1) [.int x2] [] [.int v4] (rX12_textOf l D aC (rWo h0 wB w) h3) F hml hX hZ hl.1 mwX12_textOf wmX12_86 (by decide +kernel) ⟨(by decide), (by decide)⟩ rfl rfl rfl (Nat.le_of_ble_eq_true rfl) (kd dtX12_goesOn_0 4 rfl) ⟨Nat.zero_le _, Nat.zero_le _⟩ (fun H locs hX => ?_)
  refine lv_istore (lv' := [(5, .int v4), (4, .int v2), (0, .ref h0), (1, .int x1), (2, .int x2), (3, .int x3)]) hx hb (kd dtX12_goesOn_0 5 rfl) hl (by decide) rfl (fun ls hl => ?_)
  refine lv_iload_n hx hb (kd dtX12_goesOn_0 6 rfl) rfl (lv_at hl 3 rfl) ?_
  refine lv_bipush (v := (109 : Int32)) hx hb (kd dtX12_goesOn_0 7 rfl) (by decide) ?_
  refine lv_icmp_ne (tgt := 95) hx hb (kd dtX12_goesOn_0 8 rfl) (by decide) (fun hc => ?_) (fun hc => ?_)
  · have hf := kif_neg hc hf
    refine lv_aload_n hx hb (kd dtX12_goesOn_0 52 rfl) rfl (lv_at hl 2 rfl) ?_
    refine lv_iload hx hb (kd dtX12_goesOn_0 53 rfl) (lv_at hl 0 rfl) ?_
    obtain ⟨v6, h5, hf⟩ := kbind hf
    refine kcallV (n := 1) [.int v4] [] [.int v6] (rX12_isIf l D aC hB h5) rfl hB.1 F hml hX hZ hl.1 mwX12_isIf wmX12_189 rfl (by decide) (by decide +kernel) ⟨(by decide), (by decide)⟩ rfl rfl rfl (Nat.le_of_ble_eq_true rfl) (kd dtX12_goesOn_0 54 rfl) ⟨Nat.zero_le _, Nat.zero_le _⟩ (fun H locs hX => ?_)
    refine lv_if_ne (tgt := 106) hx hb (kd dtX12_goesOn_0 55 rfl) (by decide) (fun hc => ?_) (fun hc => ?_)
    · have hf := kif_neg hc hf
      refine lv_aload_n hx hb (kd dtX12_goesOn_0 58 rfl) rfl (lv_at hl 2 rfl) ?_
      refine lv_iload hx hb (kd dtX12_goesOn_0 59 rfl) (lv_at hl 0 rfl) ?_
      refine lv_iconst (v := (1 : Int32)) hx hb (kd dtX12_goesOn_0 60 rfl) (by decide) ?_
      refine lv_iadd hx hb (kd dtX12_goesOn_0 61 rfl) ?_
      obtain ⟨v8, h7, hf⟩ := kbind hf
      refine kcallV (n := 1) [.int (v4 + (1 : Int32))] [] [.int v8] (rX12_end l D aC hB h7) rfl hB.1 F hml hX hZ hl.1 mwX12_end wmX12_75 rfl (by decide) (by decide +kernel) ⟨(by decide), (by decide)⟩ rfl rfl rfl (Nat.le_of_ble_eq_true rfl) (kd dtX12_goesOn_0 62 rfl) ⟨Nat.zero_le _, Nat.zero_le _⟩ (fun H locs hX => ?_)
      refine lv_istore (lv' := [(6, .int v8), (5, .int v4), (4, .int v2), (0, .ref h0), (1, .int x1), (2, .int x2), (3, .int x3)]) hx hb (kd dtX12_goesOn_0 63 rfl) hl (by decide) rfl (fun ls hl => ?_)
      refine lv_iload_n hx hb (kd dtX12_goesOn_0 64 rfl) rfl (lv_at hl 4 rfl) ?_
      refine lv_bipush (v := (100 : Int32)) hx hb (kd dtX12_goesOn_0 65 rfl) (by decide) ?_
      refine lv_icmp_ne (tgt := 207) hx hb (kd dtX12_goesOn_0 66 rfl) (by decide) (fun hc => ?_) (fun hc => ?_)
      · have hf := kif_neg hc hf
        refine lv_aload_n hx hb (kd dtX12_goesOn_1 36 rfl) rfl (lv_at hl 3 rfl) ?_
        refine lv_iload hx hb (kd dtX12_goesOn_1 37 rfl) (lv_at hl 2 rfl) ?_
        obtain ⟨v10, h9, hf⟩ := kbind hf
        refine kcallV (n := 1) [.int v2] [] [.int v10] (rX12_isIf l D aC hB h9) rfl hB.1 F hml hX hZ hl.1 mwX12_isIf wmX12_189 rfl (by decide) (by decide +kernel) ⟨(by decide), (by decide)⟩ rfl rfl rfl (Nat.le_of_ble_eq_true rfl) (kd dtX12_goesOn_1 38 rfl) ⟨Nat.zero_le _, Nat.zero_le _⟩ (fun H locs hX => ?_)
        refine lv_if_eq (tgt := 237) hx hb (kd dtX12_goesOn_1 39 rfl) (by decide) (fun hc => ?_) (fun hc => ?_)
        · have hf := kif_pos hc hf
          refine lv_iconst (v := (1 : Int32)) hx hb (kd dtX12_goesOn_1 52 rfl) (by decide) ?_
          refine lv_goto (tgt := 242) hx hb (kd dtX12_goesOn_1 53 rfl) (by decide) ?_
          obtain ⟨rfl, rfl⟩ := Prod.mk.inj (Option.some.inj hf)
          exact kzret F hX hr hlocks rfl rfl (kd dtX12_goesOn_1 55 rfl)
        · have hf := kif_neg hc hf
          refine lv_aload_n hx hb (kd dtX12_goesOn_1 40 rfl) rfl (lv_at hl 3 rfl) ?_
          refine lv_iload hx hb (kd dtX12_goesOn_1 41 rfl) (lv_at hl 1 rfl) ?_
          refine lv_iload hx hb (kd dtX12_goesOn_1 42 rfl) (lv_at hl 0 rfl) ?_
          refine lv_iload hx hb (kd dtX12_goesOn_1 43 rfl) (lv_at hl 2 rfl) ?_
          refine lv_aload_n hx hb (kd dtX12_goesOn_1 44 rfl) rfl (lv_at hl 3 rfl) ?_
          refine rgetA (n := 14) (j := 26) hB (by decide) rfl F hX wfX12_52 (by decide) rfl (kd dtX12_goesOn_1 45 rfl) ?_
          refine lv_iload_n hx hb (kd dtX12_goesOn_1 46 rfl) rfl (lv_at hl 6 rfl) ?_
          obtain ⟨v11, hv11, hf⟩ := kbind hf
          refine rald hB (by decide) hv11 F hX (kd dtX12_goesOn_1 47 rfl) ?_
          refine lv_iconst (v := (1 : Int32)) hx hb (kd dtX12_goesOn_1 48 rfl) (by decide) ?_
          refine lv_iadd hx hb (kd dtX12_goesOn_1 49 rfl) ?_
          obtain ⟨v14, w12, h13, hf⟩ := kbind2 hf
          refine kcallV (n := 4) [.int v4, .int v8, .int v2, .int (v11 + (1 : Int32))] [] [.int v14] (rX12_chains l D aC hB h13) rfl hB.1 F hml hX hZ hl.1 mwX12_chains wmX12_289 rfl (by decide) (by decide +kernel) ⟨(by decide), (by decide)⟩ rfl rfl rfl (Nat.le_of_ble_eq_true rfl) (kd dtX12_goesOn_1 50 rfl) ⟨Nat.zero_le _, Nat.zero_le _⟩ (fun H locs hX => ?_)
          refine lv_if_eq (tgt := 241) hx hb (kd dtX12_goesOn_1 51 rfl) (by decide) (fun hc => ?_) (fun hc => ?_)
          · have hf := kif_pos hc hf
            refine lv_iconst (v := (0 : Int32)) hx hb (kd dtX12_goesOn_1 54 rfl) (by decide) ?_
            obtain ⟨rfl, rfl⟩ := Prod.mk.inj (Option.some.inj hf)
            exact kzret F hX hr hlocks rfl rfl (kd dtX12_goesOn_1 55 rfl)
          · have hf := kif_neg hc hf
            refine lv_iconst (v := (1 : Int32)) hx hb (kd dtX12_goesOn_1 52 rfl) (by decide) ?_
            refine lv_goto (tgt := 242) hx hb (kd dtX12_goesOn_1 53 rfl) (by decide) ?_
            obtain ⟨rfl, rfl⟩ := Prod.mk.inj (Option.some.inj hf)
            exact kzret F hX hr hlocks rfl rfl (kd dtX12_goesOn_1 55 rfl)
      · have hf := kif_pos hc hf
        refine lv_aload_n hx hb (kd dtX12_goesOn_0 67 rfl) rfl (lv_at hl 3 rfl) ?_
        refine rgetF (j := 24) hB F hX wfX12_238 (by decide) rfl (kd dtX12_goesOn_0 68 rfl) ?_
        refine lv_if_eq (tgt := 144) hx hb (kd dtX12_goesOn_0 69 rfl) (by decide) (fun hc => ?_) (fun hc => ?_)
        · have hf := kif_pos hc hf
          exact hJ0_144 x1 x2 x3 v2 v4 v8 w _ _ _ hX (lv_sub hl [3, 4, 5, 6, 2, 1, 0] rfl) hf
        · have hf := kif_neg hc hf
          refine lv_aload_n hx hb (kd dtX12_goesOn_0 70 rfl) rfl (lv_at hl 3 rfl) ?_
          refine lv_iload hx hb (kd dtX12_goesOn_0 71 rfl) (lv_at hl 2 rfl) ?_
          refine lv_iload hx hb (kd dtX12_goesOn_0 72 rfl) (lv_at hl 0 rfl) ?_
          refine lv_iconst (v := (1 : Int32)) hx hb (kd dtX12_goesOn_0 73 rfl) (by decide) ?_
          refine lv_iadd hx hb (kd dtX12_goesOn_0 74 rfl) ?_
          obtain ⟨v16, h15, hf⟩ := kbind hf
          refine kcallV (n := 2) [.int v2, .int (v8 + (1 : Int32))] [] [.int v16] (rX12_isLike l D aC hB h15) rfl hB.1 F hml hX hZ hl.1 mwX12_isLike wmX12_163 rfl (by decide) (by decide +kernel) ⟨(by decide), (by decide)⟩ rfl rfl rfl (Nat.le_of_ble_eq_true rfl) (kd dtX12_goesOn_0 75 rfl) ⟨Nat.zero_le _, Nat.zero_le _⟩ (fun H locs hX => ?_)
          refine lv_if_ne (tgt := 144) hx hb (kd dtX12_goesOn_0 76 rfl) (by decide) (fun hc => ?_) (fun hc => ?_)
          · have hf := kif_neg hc hf
            exact hJ0_144 x1 x2 x3 v2 v4 v8 w _ _ _ hX (lv_sub hl [3, 4, 5, 6, 2, 1, 0] rfl) hf
          · have hf := kif_pos hc hf
            refine lv_iconst (v := (1 : Int32)) hx hb (kd dtX12_goesOn_0 77 rfl) (by decide) ?_
            obtain ⟨rfl, rfl⟩ := Prod.mk.inj (Option.some.inj hf)
            exact kzret F hX hr hlocks rfl rfl (kd dtX12_goesOn_0 78 rfl)
    · have hf := kif_pos hc hf
      refine lv_iconst (v := (1 : Int32)) hx hb (kd dtX12_goesOn_0 56 rfl) (by decide) ?_
      obtain ⟨rfl, rfl⟩ := Prod.mk.inj (Option.some.inj hf)
      exact kzret F hX hr hlocks rfl rfl (kd dtX12_goesOn_0 57 rfl)
  · have hf := kif_pos hc hf
    refine lv_aload_n hx hb (kd dtX12_goesOn_0 9 rfl) rfl (lv_at hl 2 rfl) ?_
    refine rgetF (j := 24) hB F hX wfX12_238 (by decide) rfl (kd dtX12_goesOn_0 10 rfl) ?_
    refine lv_if_eq (tgt := 38) hx hb (kd dtX12_goesOn_0 11 rfl) (by decide) (fun hc => ?_) (fun hc => ?_)
    · have hf := kif_pos hc hf
      exact hJ0_38 x1 x2 x3 v2 v4 w _ _ _ hX (lv_sub hl [2, 3, 4, 5, 1, 0] rfl) hf
    · have hf := kif_neg hc hf
      refine lv_aload_n hx hb (kd dtX12_goesOn_0 12 rfl) rfl (lv_at hl 2 rfl) ?_
      refine lv_iload hx hb (kd dtX12_goesOn_0 13 rfl) (lv_at hl 1 rfl) ?_
      refine lv_iload hx hb (kd dtX12_goesOn_0 14 rfl) (lv_at hl 0 rfl) ?_
      obtain ⟨v18, h17, hf⟩ := kbind hf
      refine kcallV (n := 2) [.int v2, .int v4] [] [.int v18] (rX12_isLike l D aC hB h17) rfl hB.1 F hml hX hZ hl.1 mwX12_isLike wmX12_163 rfl (by decide) (by decide +kernel) ⟨(by decide), (by decide)⟩ rfl rfl rfl (Nat.le_of_ble_eq_true rfl) (kd dtX12_goesOn_0 15 rfl) ⟨Nat.zero_le _, Nat.zero_le _⟩ (fun H locs hX => ?_)
      refine lv_if_ne (tgt := 38) hx hb (kd dtX12_goesOn_0 16 rfl) (by decide) (fun hc => ?_) (fun hc => ?_)
      · have hf := kif_neg hc hf
        exact hJ0_38 x1 x2 x3 v2 v4 w _ _ _ hX (lv_sub hl [2, 3, 4, 5, 1, 0] rfl) hf
      · have hf := kif_pos hc hf
        refine lv_iconst (v := (1 : Int32)) hx hb (kd dtX12_goesOn_0 17 rfl) (by decide) ?_
        obtain ⟨rfl, rfl⟩ := Prod.mk.inj (Option.some.inj hf)
        exact kzret F hX hr hlocks rfl rfl (kd dtX12_goesOn_0 18 rfl)
theorem wmX12_292 : Cond.methodLink RX12 292 yX12_takesProgram ∈ kT := kTm 1592 (by decide +kernel) rfl
theorem mwX12_takesProgram : kMV RX12 yX12_takesProgram cX12_takesProgram 7 none := ⟨kTm 1595 (by decide +kernel) rfl, kTm 106 (by decide +kernel) rfl, kTm 1594 (by decide +kernel) rfl, kTm 79 (by decide +kernel) rfl⟩
theorem wmX12_296 : Cond.methodLink RX12 296 yX12_begins ∈ kT := kTm 1596 (by decide +kernel) rfl
theorem mwX12_begins : kMV RX12 yX12_begins cX12_begins 2 none := ⟨kTm 1599 (by decide +kernel) rfl, kTm 106 (by decide +kernel) rfl, kTm 1598 (by decide +kernel) rfl, kTm 80 (by decide +kernel) rfl⟩
theorem wmX12_299 : Cond.methodLink RX12 299 yX12_goesOn ∈ kT := kTm 1603 (by decide +kernel) rfl
theorem mwX12_goesOn : kMV RX12 yX12_goesOn cX12_goesOn 7 (some .boolean) := ⟨kTm 1606 (by decide +kernel) rfl, kTm 106 (by decide +kernel) rfl, kTm 1605 (by decide +kernel) rfl, kTm 81 (by decide +kernel) rfl⟩
def lX12_runs_0 : List (Nat × Instr × Nat) := [(0, .aload_n 0, 1), (1, .iload_n 1, 1), (2, .invokevirtual 292, 3), (5, .aload_n 0, 1), (6, .iload_n 2, 1), (7, .invokevirtual 296, 3), (10, .aload_n 0, 1), (11, .getfield 232, 3), (14, .aload_n 0, 1), (15, .getfield 242, 3), (18, .if_icmp .ge 15, 3), (21, .aload_n 0, 1), (22, .getfield 242, 3), (25, .aload_n 0, 1), (26, .getfield 232, 3), (29, .isub, 1), (30, .goto 4, 3), (33, .iconst 0, 1), (34, .istore_n 3, 1), (35, .iconst 0, 1), (36, .istore 4, 2), (38, .iload 4, 2), (40, .aload_n 0, 1), (41, .getfield 245, 3), (44, .if_icmp .ge 69, 3), (47, .iconst 0, 1), (48, .istore 5, 2), (50, .iload 5, 2), (52, .aload_n 0, 1), (53, .getfield 229, 3), (56, .if_icmp .ge 51, 3), (59, .iload_n 3, 1), (60, .istore 6, 2), (62, .iload 6, 2), (64, .aload_n 0, 1), (65, .getfield 242, 3), (68, .if_icmp .ge 33, 3), (71, .aload_n 0, 1), (72, .aload_n 0, 1), (73, .getfield 46, 3), (76, .iload 5, 2), (78, .iaload, 1), (79, .aload_n 0, 1), (80, .getfield 55, 3), (83, .iload 6, 2), (85, .iaload, 1), (86, .iload 4, 2), (88, .invokevirtual 299, 3), (91, .ifCond .ne 4, 3), (94, .return_, 1), (95, .iinc 6 1, 3), (98, .goto (-36), 3), (101, .iinc 5 1, 3), (104, .goto (-54), 3), (107, .iinc 4 1, 3), (110, .goto (-72), 3), (113, .return_, 1)]
theorem dtX12_runs_0 : kDec cX12_runs lX12_runs_0 = true := by decide +kernel
noncomputable def fX12_runs_L62 (x1 : Int32) (x2 : Int32) (x3 : Int32) (x4 : Int32) (x5 : Int32) : Nat → (Int32 → rW → Option rW) → Int32 → rW → Option rW
  | 0, _, _, _ => none
  | n + 1, k, x6, w =>
  if (rF w 30) ≤ x6 then
  k x6 w
  else
  (raI w 12 120 x5).bind fun v1 =>
  (raI w 15 40 x6).bind fun v2 =>
  kb2 (fX12_goesOn v1 v2 x4 w) fun v5 w3 =>
  if v5 = 0 then
  some w3
  else
  fX12_runs_L62 x1 x2 x3 x4 x5 n k (x6 + (1 : Int32)) w3

noncomputable def fX12_runs_L50 (x1 : Int32) (x2 : Int32) (x3 : Int32) (x4 : Int32) : Nat → (Int32 → rW → Option rW) → Int32 → rW → Option rW
  | 0, _, _, _ => none
  | n + 1, k, x5, w =>
  if (rF w 21) ≤ x5 then
  k x5 w
  else
  fX12_runs_L62 x1 x2 x3 x4 x5 kFU (fun y6_1 w2 => fX12_runs_L50 x1 x2 x3 x4 n k (x5 + (1 : Int32)) w2) x3 w

noncomputable def fX12_runs_L38 (x1 : Int32) (x2 : Int32) (x3 : Int32) : Nat → (Int32 → rW → Option rW) → Int32 → rW → Option rW
  | 0, _, _, _ => none
  | n + 1, k, x4, w =>
  if (rF w 28) ≤ x4 then
  k x4 w
  else
  fX12_runs_L50 x1 x2 x3 x4 kFU (fun y5_1 w2 => fX12_runs_L38 x1 x2 x3 n k (x4 + (1 : Int32)) w2) (0 : Int32) w

noncomputable def fX12_runs_J34 (x1 : Int32) (x2 : Int32) (s0 : Int32) (w : rW) : Option rW :=
  fX12_runs_L38 x1 x2 s0 kFU (fun y4_1 w2 => some w2) (0 : Int32) w

noncomputable def fX12_runs (x1 : Int32) (x2 : Int32) (w : rW) : Option rW :=
  (fX12_takesProgram x1 w).bind fun w1 =>
  (fX12_begins x2 w1).bind fun w3 =>
  if (rF w3 30) ≤ (rF w3 22) then
  fX12_runs_J34 x1 x2 (0 : Int32) w3
  else
  fX12_runs_J34 x1 x2 ((rF w3 30) - (rF w3 22)) w3

set_option maxHeartbeats 4000000 in
set_option maxRecDepth 100000 in
theorem rX12_runs (l : Launch) (D : va_G) (aC : Nat → ClassId) {h0 : Nat} {wB : kW} (hB : rOK h0 wB) {x1 : Int32} {x2 : Int32} {w : rW} {wR : rW} (h : fX12_runs x1 x2 w = some wR) : kC l D aC yX12_runs cX12_runs 7 none 807 18954 [.ref h0, .int x1, .int x2] (rWo h0 wB w) none (rWo h0 wB wR) 0 0 := by
  refine kOf (own := RX12) (by decide) rfl (Nat.le_of_ble_eq_true rfl) ?_
  intro p e s m below meth c ls F hml hr hlocks hnm hX hZ hl
  obtain ⟨hx, hb, hts, hown, hK⟩ := id F
  have hl : lv_has ls 7 [(0, .ref h0), (1, .int x1), (2, .int x2)] := hl
  have hJ0_34 : ∀ (j1_34 : Int32) (j2_34 : Int32) (t0_34 : Int32) (w_j34 : rW) (H : Heap) (locs : List Loc) (ls : Array Slot), kX D aC (rWo h0 wB w) s.heap (rWo h0 wB w_j34) H locs → lv_has ls 7 [(0, .ref h0), (1, .int j1_34), (2, .int j2_34)] → fX12_runs_J34 j1_34 j2_34 t0_34 w_j34 = some wR → W p l e { frames := 807, cells := 0, slots := 0, locals := 18954 } s m ([.ref h0, .int x1, .int x2] : List Value).toArray below meth c H locs 0 0 (MQ below (kQc D aC (rWo h0 wB w) none (rWo h0 wB wR)) ([.ref h0, .int x1, .int x2] : List Value).toArray s 0 0 (kA (rWo h0 wB w))) (F0 m 34 ls [.int t0_34]) := by
    intro j1_34 j2_34 t0_34 w_j34 H locs ls hX hl hf
    rw [fX12_runs_J34] at hf
    refine lv_istore_n (lv' := [(3, .int t0_34), (0, .ref h0), (1, .int j1_34), (2, .int j2_34)]) hx hb (kd dtX12_runs_0 18 rfl) rfl hl (by decide) rfl (fun ls hl => ?_)
    refine lv_iconst (v := (0 : Int32)) hx hb (kd dtX12_runs_0 19 rfl) (by decide) ?_
    refine lv_istore (lv' := [(4, .int (0 : Int32)), (3, .int t0_34), (0, .ref h0), (1, .int j1_34), (2, .int j2_34)]) hx hb (kd dtX12_runs_0 20 rfl) hl (by decide) rfl (fun ls hl => ?_)
    have hL38 : ∀ (n : Nat) (k : Int32 → rW → Option rW), ∀ (z4_38 : Int32) (w_38 : rW) (H : Heap) (locs : List Loc) (ls : Array Slot), kX D aC (rWo h0 wB w) s.heap (rWo h0 wB w_38) H locs → lv_has ls 7 [(0, .ref h0), (1, .int j1_34), (2, .int j2_34), (3, .int t0_34), (4, .int z4_38)] → fX12_runs_L38 j1_34 j2_34 t0_34 n k z4_38 w_38 = some wR → (∀ (z4_38 : Int32) (w_38 : rW) (H : Heap) (locs : List Loc) (ls : Array Slot), kX D aC (rWo h0 wB w) s.heap (rWo h0 wB w_38) H locs → lv_has ls 7 [(0, .ref h0), (1, .int j1_34), (2, .int j2_34), (3, .int t0_34), (4, .int z4_38)] → k z4_38 w_38 = some wR → W p l e { frames := 807, cells := 0, slots := 0, locals := 18954 } s m ([.ref h0, .int x1, .int x2] : List Value).toArray below meth c H locs 0 0 (MQ below (kQc D aC (rWo h0 wB w) none (rWo h0 wB wR)) ([.ref h0, .int x1, .int x2] : List Value).toArray s 0 0 (kA (rWo h0 wB w))) (F0 m 113 ls [])) → W p l e { frames := 807, cells := 0, slots := 0, locals := 18954 } s m ([.ref h0, .int x1, .int x2] : List Value).toArray below meth c H locs 0 0 (MQ below (kQc D aC (rWo h0 wB w) none (rWo h0 wB wR)) ([.ref h0, .int x1, .int x2] : List Value).toArray s 0 0 (kA (rWo h0 wB w))) (F0 m 38 ls []) := by
      intro n k
      induction n with
      | zero =>
        intro z4_38 w_38 H locs ls hX hl hf hk
        rw [fX12_runs_L38] at hf
        cases hf
      | succ n ih =>
        intro z4_38 w_38 H locs ls hX hl hf hk
        rw [fX12_runs_L38] at hf
        refine lv_iload hx hb (kd dtX12_runs_0 21 rfl) (lv_at hl 4 rfl) ?_
        refine lv_aload_n hx hb (kd dtX12_runs_0 22 rfl) rfl (lv_at hl 0 rfl) ?_
        refine rgetF (j := 28) hB F hX wfX12_245 (by decide) rfl (kd dtX12_runs_0 23 rfl) ?_
        refine lv_icmp_ge (tgt := 113) hx hb (kd dtX12_runs_0 24 rfl) (by decide) (fun hc => ?_) (fun hc => ?_)
        · have hf := kif_pos hc hf
          exact hk z4_38 w_38 _ _ _ hX hl hf
        · have hf := kif_neg hc hf
          refine lv_iconst (v := (0 : Int32)) hx hb (kd dtX12_runs_0 25 rfl) (by decide) ?_
          refine lv_istore (lv' := [(5, .int (0 : Int32)), (0, .ref h0), (1, .int j1_34), (2, .int j2_34), (3, .int t0_34), (4, .int z4_38)]) hx hb (kd dtX12_runs_0 26 rfl) hl (by decide) rfl (fun ls hl => ?_)
          have hL50 : ∀ (n : Nat) (k : Int32 → rW → Option rW), ∀ (z5_50 : Int32) (w_50 : rW) (H : Heap) (locs : List Loc) (ls : Array Slot), kX D aC (rWo h0 wB w) s.heap (rWo h0 wB w_50) H locs → lv_has ls 7 [(0, .ref h0), (1, .int j1_34), (2, .int j2_34), (3, .int t0_34), (4, .int z4_38), (5, .int z5_50)] → fX12_runs_L50 j1_34 j2_34 t0_34 z4_38 n k z5_50 w_50 = some wR → (∀ (z5_50 : Int32) (w_50 : rW) (H : Heap) (locs : List Loc) (ls : Array Slot), kX D aC (rWo h0 wB w) s.heap (rWo h0 wB w_50) H locs → lv_has ls 7 [(0, .ref h0), (1, .int j1_34), (2, .int j2_34), (3, .int t0_34), (4, .int z4_38), (5, .int z5_50)] → k z5_50 w_50 = some wR → W p l e { frames := 807, cells := 0, slots := 0, locals := 18954 } s m ([.ref h0, .int x1, .int x2] : List Value).toArray below meth c H locs 0 0 (MQ below (kQc D aC (rWo h0 wB w) none (rWo h0 wB wR)) ([.ref h0, .int x1, .int x2] : List Value).toArray s 0 0 (kA (rWo h0 wB w))) (F0 m 107 ls [])) → W p l e { frames := 807, cells := 0, slots := 0, locals := 18954 } s m ([.ref h0, .int x1, .int x2] : List Value).toArray below meth c H locs 0 0 (MQ below (kQc D aC (rWo h0 wB w) none (rWo h0 wB wR)) ([.ref h0, .int x1, .int x2] : List Value).toArray s 0 0 (kA (rWo h0 wB w))) (F0 m 50 ls []) := by
            intro n k
            induction n with
            | zero =>
              intro z5_50 w_50 H locs ls hX hl hf hk
              rw [fX12_runs_L50] at hf
              cases hf
            | succ n ih =>
              intro z5_50 w_50 H locs ls hX hl hf hk
              rw [fX12_runs_L50] at hf
              refine lv_iload hx hb (kd dtX12_runs_0 27 rfl) (lv_at hl 5 rfl) ?_
              refine lv_aload_n hx hb (kd dtX12_runs_0 28 rfl) rfl (lv_at hl 0 rfl) ?_
              refine rgetF (j := 21) hB F hX wfX12_229 (by decide) rfl (kd dtX12_runs_0 29 rfl) ?_
              refine lv_icmp_ge (tgt := 107) hx hb (kd dtX12_runs_0 30 rfl) (by decide) (fun hc => ?_) (fun hc => ?_)
              · have hf := kif_pos hc hf
                exact hk z5_50 w_50 _ _ _ hX hl hf
              · have hf := kif_neg hc hf
                refine lv_iload_n hx hb (kd dtX12_runs_0 31 rfl) rfl (lv_at hl 3 rfl) ?_
                refine lv_istore (lv' := [(6, .int t0_34), (0, .ref h0), (1, .int j1_34), (2, .int j2_34), (3, .int t0_34), (4, .int z4_38), (5, .int z5_50)]) hx hb (kd dtX12_runs_0 32 rfl) hl (by decide) rfl (fun ls hl => ?_)
                have hL62 : ∀ (n : Nat) (k : Int32 → rW → Option rW), ∀ (z6_62 : Int32) (w_62 : rW) (H : Heap) (locs : List Loc) (ls : Array Slot), kX D aC (rWo h0 wB w) s.heap (rWo h0 wB w_62) H locs → lv_has ls 7 [(0, .ref h0), (1, .int j1_34), (2, .int j2_34), (3, .int t0_34), (4, .int z4_38), (5, .int z5_50), (6, .int z6_62)] → fX12_runs_L62 j1_34 j2_34 t0_34 z4_38 z5_50 n k z6_62 w_62 = some wR → (∀ (z6_62 : Int32) (w_62 : rW) (H : Heap) (locs : List Loc) (ls : Array Slot), kX D aC (rWo h0 wB w) s.heap (rWo h0 wB w_62) H locs → lv_has ls 7 [(0, .ref h0), (1, .int j1_34), (2, .int j2_34), (3, .int t0_34), (4, .int z4_38), (5, .int z5_50), (6, .int z6_62)] → k z6_62 w_62 = some wR → W p l e { frames := 807, cells := 0, slots := 0, locals := 18954 } s m ([.ref h0, .int x1, .int x2] : List Value).toArray below meth c H locs 0 0 (MQ below (kQc D aC (rWo h0 wB w) none (rWo h0 wB wR)) ([.ref h0, .int x1, .int x2] : List Value).toArray s 0 0 (kA (rWo h0 wB w))) (F0 m 101 ls [])) → W p l e { frames := 807, cells := 0, slots := 0, locals := 18954 } s m ([.ref h0, .int x1, .int x2] : List Value).toArray below meth c H locs 0 0 (MQ below (kQc D aC (rWo h0 wB w) none (rWo h0 wB wR)) ([.ref h0, .int x1, .int x2] : List Value).toArray s 0 0 (kA (rWo h0 wB w))) (F0 m 62 ls []) := by
                  intro n k
                  induction n with
                  | zero =>
                    intro z6_62 w_62 H locs ls hX hl hf hk
                    rw [fX12_runs_L62] at hf
                    cases hf
                  | succ n ih =>
                    intro z6_62 w_62 H locs ls hX hl hf hk
                    rw [fX12_runs_L62] at hf
                    refine lv_iload hx hb (kd dtX12_runs_0 33 rfl) (lv_at hl 6 rfl) ?_
                    refine lv_aload_n hx hb (kd dtX12_runs_0 34 rfl) rfl (lv_at hl 0 rfl) ?_
                    refine rgetF (j := 30) hB F hX wfX12_242 (by decide) rfl (kd dtX12_runs_0 35 rfl) ?_
                    refine lv_icmp_ge (tgt := 101) hx hb (kd dtX12_runs_0 36 rfl) (by decide) (fun hc => ?_) (fun hc => ?_)
                    · have hf := kif_pos hc hf
                      exact hk z6_62 w_62 _ _ _ hX hl hf
                    · have hf := kif_neg hc hf
                      refine lv_aload_n hx hb (kd dtX12_runs_0 37 rfl) rfl (lv_at hl 0 rfl) ?_
                      refine lv_aload_n hx hb (kd dtX12_runs_0 38 rfl) rfl (lv_at hl 0 rfl) ?_
                      refine rgetA (n := 12) (j := 20) hB (by decide) rfl F hX wfX12_46 (by decide) rfl (kd dtX12_runs_0 39 rfl) ?_
                      refine lv_iload hx hb (kd dtX12_runs_0 40 rfl) (lv_at hl 5 rfl) ?_
                      obtain ⟨v11, hv11, hf⟩ := kbind hf
                      refine rald hB (by decide) hv11 F hX (kd dtX12_runs_0 41 rfl) ?_
                      refine lv_aload_n hx hb (kd dtX12_runs_0 42 rfl) rfl (lv_at hl 0 rfl) ?_
                      refine rgetA (n := 15) (j := 27) hB (by decide) rfl F hX wfX12_55 (by decide) rfl (kd dtX12_runs_0 43 rfl) ?_
                      refine lv_iload hx hb (kd dtX12_runs_0 44 rfl) (lv_at hl 6 rfl) ?_
                      obtain ⟨v12, hv12, hf⟩ := kbind hf
                      refine rald hB (by decide) hv12 F hX (kd dtX12_runs_0 45 rfl) ?_
                      refine lv_iload hx hb (kd dtX12_runs_0 46 rfl) (lv_at hl 4 rfl) ?_
                      obtain ⟨v15, w13, h14, hf⟩ := kbind2 hf
                      refine kcallV (n := 3) [.int v11, .int v12, .int z4_38] [] [.int v15] (rX12_goesOn l D aC hB h14) rfl hB.1 F hml hX hZ hl.1 mwX12_goesOn wmX12_299 rfl (by decide) (by decide +kernel) ⟨(by decide), (by decide)⟩ rfl rfl rfl (Nat.le_of_ble_eq_true rfl) (kd dtX12_runs_0 47 rfl) ⟨Nat.zero_le _, Nat.zero_le _⟩ (fun H locs hX => ?_)
                      refine lv_if_ne (tgt := 95) hx hb (kd dtX12_runs_0 48 rfl) (by decide) (fun hc => ?_) (fun hc => ?_)
                      · have hf := kif_neg hc hf
                        refine lv_iinc (v := z6_62 + (1 : Int32)) (lv' := [(6, .int (z6_62 + (1 : Int32))), (0, .ref h0), (1, .int j1_34), (2, .int j2_34), (3, .int t0_34), (4, .int z4_38), (5, .int z5_50)]) hx hb (kd dtX12_runs_0 50 rfl) hl (k := 6) rfl (by rfl) (by decide) rfl (fun ls hl => ?_)
                        refine lv_goto (tgt := 62) hx hb (kd dtX12_runs_0 51 rfl) (by decide) ?_
                        exact ih (z6_62 + (1 : Int32)) w13 _ _ _ hX (lv_sub hl [1, 2, 3, 4, 5, 6, 0] rfl) hf hk
                      · have hf := kif_pos hc hf
                        obtain rfl := Option.some.inj hf
                        exact kvret F hX hr hlocks rfl (kd dtX12_runs_0 49 rfl)
                refine hL62 kFU _ t0_34 w_50 _ _ _ hX (lv_sub hl [1, 2, 3, 4, 5, 6, 0] rfl) hf ?_
                intro y6_9 w10 H locs ls hX hl hf
                refine lv_iinc (v := z5_50 + (1 : Int32)) (lv' := [(5, .int (z5_50 + (1 : Int32))), (0, .ref h0), (1, .int j1_34), (2, .int j2_34), (3, .int t0_34), (4, .int z4_38), (6, .int y6_9)]) hx hb (kd dtX12_runs_0 52 rfl) hl (k := 5) rfl (by rfl) (by decide) rfl (fun ls hl => ?_)
                refine lv_goto (tgt := 50) hx hb (kd dtX12_runs_0 53 rfl) (by decide) ?_
                exact ih (z5_50 + (1 : Int32)) w10 _ _ _ hX (lv_sub hl [1, 2, 3, 4, 5, 0] rfl) hf hk
          refine hL50 kFU _ (0 : Int32) w_38 _ _ _ hX (lv_sub hl [1, 2, 3, 4, 5, 0] rfl) hf ?_
          intro y5_7 w8 H locs ls hX hl hf
          refine lv_iinc (v := z4_38 + (1 : Int32)) (lv' := [(4, .int (z4_38 + (1 : Int32))), (0, .ref h0), (1, .int j1_34), (2, .int j2_34), (3, .int t0_34), (5, .int y5_7)]) hx hb (kd dtX12_runs_0 54 rfl) hl (k := 4) rfl (by rfl) (by decide) rfl (fun ls hl => ?_)
          refine lv_goto (tgt := 38) hx hb (kd dtX12_runs_0 55 rfl) (by decide) ?_
          exact ih (z4_38 + (1 : Int32)) w8 _ _ _ hX (lv_sub hl [1, 2, 3, 4, 0] rfl) hf hk
    refine hL38 kFU _ (0 : Int32) w_j34 _ _ _ hX (lv_sub hl [2, 3, 4, 1, 0] rfl) hf ?_
    intro y4_5 w6 H locs ls hX hl hf
    obtain rfl := Option.some.inj hf
    exact kvret F hX hr hlocks rfl (kd dtX12_runs_0 56 rfl)
  have hf := h
  rw [fX12_runs] at hf
  refine lv_aload_n hx hb (kd dtX12_runs_0 0 rfl) rfl (lv_at hl 0 rfl) ?_
  refine lv_iload_n hx hb (kd dtX12_runs_0 1 rfl) rfl (lv_at hl 1 rfl) ?_
  obtain ⟨w1, h2, hf⟩ := kbind hf
  refine kcallV (n := 1) [.int x1] [] [] (rX12_takesProgram l D aC hB h2) rfl hB.1 F hml hX hZ hl.1 mwX12_takesProgram wmX12_292 rfl (by decide) (by decide +kernel) ⟨(by decide), (by decide)⟩ rfl rfl rfl (Nat.le_of_ble_eq_true rfl) (kd dtX12_runs_0 2 rfl) ⟨Nat.zero_le _, Nat.zero_le _⟩ (fun H locs hX => ?_)
  refine lv_aload_n hx hb (kd dtX12_runs_0 3 rfl) rfl (lv_at hl 0 rfl) ?_
  refine lv_iload_n hx hb (kd dtX12_runs_0 4 rfl) rfl (lv_at hl 2 rfl) ?_
  obtain ⟨w3, h4, hf⟩ := kbind hf
  refine kcallV (n := 1) [.int x2] [] [] (rX12_begins l D aC hB h4) rfl hB.1 F hml hX hZ hl.1 mwX12_begins wmX12_296 rfl (by decide) (by decide +kernel) ⟨(by decide), (by decide)⟩ rfl rfl rfl (Nat.le_of_ble_eq_true rfl) (kd dtX12_runs_0 5 rfl) ⟨Nat.zero_le _, Nat.zero_le _⟩ (fun H locs hX => ?_)
  refine lv_aload_n hx hb (kd dtX12_runs_0 6 rfl) rfl (lv_at hl 0 rfl) ?_
  refine rgetF (j := 22) hB F hX wfX12_232 (by decide) rfl (kd dtX12_runs_0 7 rfl) ?_
  refine lv_aload_n hx hb (kd dtX12_runs_0 8 rfl) rfl (lv_at hl 0 rfl) ?_
  refine rgetF (j := 30) hB F hX wfX12_242 (by decide) rfl (kd dtX12_runs_0 9 rfl) ?_
  refine lv_icmp_ge (tgt := 33) hx hb (kd dtX12_runs_0 10 rfl) (by decide) (fun hc => ?_) (fun hc => ?_)
  · have hf := kif_pos hc hf
    refine lv_iconst (v := (0 : Int32)) hx hb (kd dtX12_runs_0 17 rfl) (by decide) ?_
    exact hJ0_34 x1 x2 (0 : Int32) w3 _ _ _ hX hl hf
  · have hf := kif_neg hc hf
    refine lv_aload_n hx hb (kd dtX12_runs_0 11 rfl) rfl (lv_at hl 0 rfl) ?_
    refine rgetF (j := 30) hB F hX wfX12_242 (by decide) rfl (kd dtX12_runs_0 12 rfl) ?_
    refine lv_aload_n hx hb (kd dtX12_runs_0 13 rfl) rfl (lv_at hl 0 rfl) ?_
    refine rgetF (j := 22) hB F hX wfX12_232 (by decide) rfl (kd dtX12_runs_0 14 rfl) ?_
    refine lv_isub hx hb (kd dtX12_runs_0 15 rfl) ?_
    refine lv_goto (tgt := 34) hx hb (kd dtX12_runs_0 16 rfl) (by decide) ?_
    exact hJ0_34 x1 x2 ((rF w3 30) - (rF w3 22)) w3 _ _ _ hX hl hf
def lX12_wrongRun_0 : List (Nat × Instr × Nat) := [(0, .iload_n 1, 1), (1, .i2l, 1), (2, .lconst 0, 1), (3, .aload_n 0, 1), (4, .getfield 16, 3), (7, .iconst 2, 1), (8, .iaload, 1), (9, .iconst 1, 1), (10, .isub, 1), (11, .i2l, 1), (12, .invokestatic 65, 3), (15, .ifCond .eq 11, 3), (18, .aload_n 0, 1), (19, .iload_n 2, 1), (20, .invokevirtual 127, 3), (23, .ifCond .ne 7, 3), (26, .iconst (-1), 1), (27, .goto 21, 3), (30, .aload_n 0, 1), (31, .getfield 16, 3), (34, .bipush 43, 2), (36, .iload_n 2, 1), (37, .iadd, 1), (38, .iaload, 1), (39, .ifCond .eq 8, 3), (42, .bipush (-3), 2), (44, .goto 4, 3), (47, .iconst 0, 1), (48, .ireturn, 1)]
theorem dtX12_wrongRun_0 : kDec cX12_wrongRun lX12_wrongRun_0 = true := by decide +kernel
noncomputable def fX12_wrongRun (x1 : Int32) (x2 : Int32) (w : rW) : Option Int32 :=
  (raI w 2 1000 (2 : Int32)).bind fun v1 =>
  (fX12_isIn x1.toInt64 (0 : Int64) ((v1 - (1 : Int32)).toInt64)).bind fun v3 =>
  if v3 = 0 then
  some (-1 : Int32)
  else
  (fX12_isLine x2 w).bind fun v5 =>
  if v5 = 0 then
  some (-1 : Int32)
  else
  (raI w 2 1000 ((43 : Int32) + x2)).bind fun v6 =>
  if v6 = 0 then
  some (0 : Int32)
  else
  some (-3 : Int32)

set_option maxHeartbeats 4000000 in
set_option maxRecDepth 100000 in
theorem rX12_wrongRun (l : Launch) (D : va_G) (aC : Nat → ClassId) {h0 : Nat} {wB : kW} (hB : rOK h0 wB) {x1 : Int32} {x2 : Int32} {w : rW} {oR : Int32} (h : fX12_wrongRun x1 x2 w = some oR) : kC l D aC yX12_wrongRun cX12_wrongRun 3 (some .int) 3 58 [.ref h0, .int x1, .int x2] (rWo h0 wB w) (some (.int oR)) (rWo h0 wB w) 0 0 := by
  refine kOf (own := RX12) (by decide) rfl (Nat.le_of_ble_eq_true rfl) ?_
  intro p e s m below meth c ls F hml hr hlocks hnm hX hZ hl
  obtain ⟨hx, hb, hts, hown, hK⟩ := id F
  have hl : lv_has ls 3 [(0, .ref h0), (1, .int x1), (2, .int x2)] := hl
  have hf := h
  rw [fX12_wrongRun] at hf
  refine lv_iload_n hx hb (kd dtX12_wrongRun_0 0 rfl) rfl (lv_at hl 1 rfl) ?_
  refine lv_i2l (v := x1.toInt64) hx hb (kd dtX12_wrongRun_0 1 rfl) rfl ?_
  refine lv_lconst (v := (0 : Int64)) hx hb (kd dtX12_wrongRun_0 2 rfl) (by decide) ?_
  refine lv_aload_n hx hb (kd dtX12_wrongRun_0 3 rfl) rfl (lv_at hl 0 rfl) ?_
  refine rgetA (n := 2) (j := 2) hB (by decide) rfl F hX wfX12_16 (by decide) rfl (kd dtX12_wrongRun_0 4 rfl) ?_
  refine lv_iconst (v := (2 : Int32)) hx hb (kd dtX12_wrongRun_0 5 rfl) (by decide) ?_
  obtain ⟨v1, hv1, hf⟩ := kbind hf
  refine rald hB (by decide) hv1 F hX (kd dtX12_wrongRun_0 6 rfl) ?_
  refine lv_iconst (v := (1 : Int32)) hx hb (kd dtX12_wrongRun_0 7 rfl) (by decide) ?_
  refine lv_isub hx hb (kd dtX12_wrongRun_0 8 rfl) ?_
  refine lv_i2l (v := (v1 - (1 : Int32)).toInt64) hx hb (kd dtX12_wrongRun_0 9 rfl) rfl ?_
  obtain ⟨v3, h2, hf⟩ := kbind hf
  refine kcallS (n := 3) [.long x1.toInt64, .long (0 : Int64), .long ((v1 - (1 : Int32)).toInt64)] [] [.int v3] (rX12_isIn l D aC (rWo h0 wB w) h2) F hml hX hZ hl.1 mwX12_isIn wmX12_65 (by decide +kernel) ⟨(by decide), (by decide)⟩ rfl rfl rfl (Nat.le_of_ble_eq_true rfl) (kd dtX12_wrongRun_0 10 rfl) ⟨Nat.zero_le _, Nat.zero_le _⟩ (fun H locs hX => ?_)
  refine lv_if_eq (tgt := 26) hx hb (kd dtX12_wrongRun_0 11 rfl) (by decide) (fun hc => ?_) (fun hc => ?_)
  · have hf := kif_pos hc hf
    refine lv_iconst (v := (-1 : Int32)) hx hb (kd dtX12_wrongRun_0 16 rfl) (by decide) ?_
    refine lv_goto (tgt := 48) hx hb (kd dtX12_wrongRun_0 17 rfl) (by decide) ?_
    obtain rfl := Option.some.inj hf
    exact kiret F hX hr hlocks rfl (kd dtX12_wrongRun_0 28 rfl)
  · have hf := kif_neg hc hf
    refine lv_aload_n hx hb (kd dtX12_wrongRun_0 12 rfl) rfl (lv_at hl 0 rfl) ?_
    refine lv_iload_n hx hb (kd dtX12_wrongRun_0 13 rfl) rfl (lv_at hl 2 rfl) ?_
    obtain ⟨v5, h4, hf⟩ := kbind hf
    refine kcallV (n := 1) [.int x2] [] [.int v5] (rX12_isLine l D aC hB h4) rfl hB.1 F hml hX hZ hl.1 mwX12_isLine wmX12_127 rfl (by decide) (by decide +kernel) ⟨(by decide), (by decide)⟩ rfl rfl rfl (Nat.le_of_ble_eq_true rfl) (kd dtX12_wrongRun_0 14 rfl) ⟨Nat.zero_le _, Nat.zero_le _⟩ (fun H locs hX => ?_)
    refine lv_if_ne (tgt := 30) hx hb (kd dtX12_wrongRun_0 15 rfl) (by decide) (fun hc => ?_) (fun hc => ?_)
    · have hf := kif_neg hc hf
      refine lv_aload_n hx hb (kd dtX12_wrongRun_0 18 rfl) rfl (lv_at hl 0 rfl) ?_
      refine rgetA (n := 2) (j := 2) hB (by decide) rfl F hX wfX12_16 (by decide) rfl (kd dtX12_wrongRun_0 19 rfl) ?_
      refine lv_bipush (v := (43 : Int32)) hx hb (kd dtX12_wrongRun_0 20 rfl) (by decide) ?_
      refine lv_iload_n hx hb (kd dtX12_wrongRun_0 21 rfl) rfl (lv_at hl 2 rfl) ?_
      refine lv_iadd hx hb (kd dtX12_wrongRun_0 22 rfl) ?_
      obtain ⟨v6, hv6, hf⟩ := kbind hf
      refine rald hB (by decide) hv6 F hX (kd dtX12_wrongRun_0 23 rfl) ?_
      refine lv_if_eq (tgt := 47) hx hb (kd dtX12_wrongRun_0 24 rfl) (by decide) (fun hc => ?_) (fun hc => ?_)
      · have hf := kif_pos hc hf
        refine lv_iconst (v := (0 : Int32)) hx hb (kd dtX12_wrongRun_0 27 rfl) (by decide) ?_
        obtain rfl := Option.some.inj hf
        exact kiret F hX hr hlocks rfl (kd dtX12_wrongRun_0 28 rfl)
      · have hf := kif_neg hc hf
        refine lv_bipush (v := (-3 : Int32)) hx hb (kd dtX12_wrongRun_0 25 rfl) (by decide) ?_
        refine lv_goto (tgt := 48) hx hb (kd dtX12_wrongRun_0 26 rfl) (by decide) ?_
        obtain rfl := Option.some.inj hf
        exact kiret F hX hr hlocks rfl (kd dtX12_wrongRun_0 28 rfl)
    · have hf := kif_pos hc hf
      refine lv_iconst (v := (-1 : Int32)) hx hb (kd dtX12_wrongRun_0 16 rfl) (by decide) ?_
      refine lv_goto (tgt := 48) hx hb (kd dtX12_wrongRun_0 17 rfl) (by decide) ?_
      obtain rfl := Option.some.inj hf
      exact kiret F hX hr hlocks rfl (kd dtX12_wrongRun_0 28 rfl)
theorem wcX12_302 : Cond.constantLong RX12 302 (4 : Int64) ∈ kT := kTm 1579 (by decide +kernel) rfl
theorem wmX12_304 : Cond.methodLink RX12 304 yX12_wrongRun ∈ kT := kTm 1580 (by decide +kernel) rfl
theorem mwX12_wrongRun : kMV RX12 yX12_wrongRun cX12_wrongRun 3 (some .int) := ⟨kTm 1583 (by decide +kernel) rfl, kTm 106 (by decide +kernel) rfl, kTm 1582 (by decide +kernel) rfl, kTm 76 (by decide +kernel) rfl⟩
theorem wmX12_307 : Cond.methodLink RX12 307 yX12_asNow ∈ kT := kTm 1584 (by decide +kernel) rfl
theorem mwX12_asNow : kMV RX12 yX12_asNow cX12_asNow 2 none := ⟨kTm 1587 (by decide +kernel) rfl, kTm 106 (by decide +kernel) rfl, kTm 1586 (by decide +kernel) rfl, kTm 77 (by decide +kernel) rfl⟩
theorem wmX12_310 : Cond.methodLink RX12 310 yX12_runs ∈ kT := kTm 1588 (by decide +kernel) rfl
theorem mwX12_runs : kMV RX12 yX12_runs cX12_runs 7 none := ⟨kTm 1591 (by decide +kernel) rfl, kTm 106 (by decide +kernel) rfl, kTm 1590 (by decide +kernel) rfl, kTm 78 (by decide +kernel) rfl⟩
def lX12_run_0 : List (Nat × Instr × Nat) := [(0, .iload_n 3, 1), (1, .i2l, 1), (2, .lconst 0, 1), (3, .ldc2_w 302, 3), (6, .invokestatic 65, 3), (9, .ifCond .ne 5, 3), (12, .iconst (-1), 1), (13, .ireturn, 1), (14, .aload_n 0, 1), (15, .iload_n 1, 1), (16, .iload_n 2, 1), (17, .invokevirtual 304, 3), (20, .istore 4, 2), (22, .iload 4, 2), (24, .ifCond .eq 6, 3), (27, .iload 4, 2), (29, .ireturn, 1), (30, .aload_n 0, 1), (31, .invokevirtual 307, 3), (34, .aload_n 0, 1), (35, .iload_n 1, 1), (36, .iload_n 2, 1), (37, .invokevirtual 310, 3), (40, .iload_n 3, 1), (41, .ifCond .ne 18, 3), (44, .aload_n 0, 1), (45, .getfield 254, 3), (48, .ifCond .lt 7, 3), (51, .iconst 1, 1), (52, .goto 47, 3), (55, .iconst 0, 1), (56, .goto 43, 3), (59, .iload_n 3, 1), (60, .iconst 1, 1), (61, .if_icmp .ne 10, 3), (64, .aload_n 0, 1), (65, .getfield 251, 3), (68, .goto 31, 3), (71, .iload_n 3, 1), (72, .iconst 2, 1), (73, .if_icmp .ne 10, 3), (76, .aload_n 0, 1), (77, .getfield 245, 3), (80, .goto 19, 3), (83, .iload_n 3, 1), (84, .iconst 3, 1), (85, .if_icmp .ne 10, 3), (88, .aload_n 0, 1), (89, .getfield 257, 3), (92, .goto 7, 3), (95, .aload_n 0, 1), (96, .getfield 254, 3), (99, .ireturn, 1)]
theorem dtX12_run_0 : kDec cX12_run lX12_run_0 = true := by decide +kernel
noncomputable def fX12_run (x1 : Int32) (x2 : Int32) (x3 : Int32) (w : rW) : Option (Int32 × rW) :=
  (fX12_isIn x3.toInt64 (0 : Int64) (4 : Int64)).bind fun v2 =>
  if v2 = 0 then
  some ((-1 : Int32), w)
  else
  (fX12_wrongRun x1 x2 w).bind fun v4 =>
  if v4 = 0 then
  (fX12_asNow w).bind fun w5 =>
  (fX12_runs x1 x2 w5).bind fun w7 =>
  if x3 = 0 then
  if (rF w7 31) < 0 then
  some ((0 : Int32), w7)
  else
  some ((1 : Int32), w7)
  else
  if x3 = (1 : Int32) then
  some (rF w7 29, w7)
  else
  if x3 = (2 : Int32) then
  some (rF w7 28, w7)
  else
  if x3 = (3 : Int32) then
  some (rF w7 32, w7)
  else
  some (rF w7 31, w7)
  else
  some (v4, w)

set_option maxHeartbeats 4000000 in
set_option maxRecDepth 100000 in
theorem rX12_run (l : Launch) (D : va_G) (aC : Nat → ClassId) {h0 : Nat} {wB : kW} (hB : rOK h0 wB) {x1 : Int32} {x2 : Int32} {x3 : Int32} {w : rW} {wR : rW} {oR : Int32} (h : fX12_run x1 x2 x3 w = some (oR, wR)) : kC l D aC yX12_run cX12_run 5 (some .int) 808 18980 [.ref h0, .int x1, .int x2, .int x3] (rWo h0 wB w) (some (.int oR)) (rWo h0 wB wR) 0 0 := by
  refine kOf (own := RX12) (by decide) rfl (Nat.le_of_ble_eq_true rfl) ?_
  intro p e s m below meth c ls F hml hr hlocks hnm hX hZ hl
  obtain ⟨hx, hb, hts, hown, hK⟩ := id F
  have hl : lv_has ls 5 [(0, .ref h0), (1, .int x1), (2, .int x2), (3, .int x3)] := hl
  have hf := h
  rw [fX12_run] at hf
  refine lv_iload_n hx hb (kd dtX12_run_0 0 rfl) rfl (lv_at hl 3 rfl) ?_
  refine lv_i2l (v := x3.toInt64) hx hb (kd dtX12_run_0 1 rfl) rfl ?_
  refine lv_lconst (v := (0 : Int64)) hx hb (kd dtX12_run_0 2 rfl) (by decide) ?_
  refine lv_ldc2 (v := (4 : Int64)) hx hb hown (hts _ wcX12_302) (kd dtX12_run_0 3 rfl) ?_
  obtain ⟨v2, h1, hf⟩ := kbind hf
  refine kcallS (n := 3) [.long x3.toInt64, .long (0 : Int64), .long (4 : Int64)] [] [.int v2] (rX12_isIn l D aC (rWo h0 wB w) h1) F hml hX hZ hl.1 mwX12_isIn wmX12_65 (by decide +kernel) ⟨(by decide), (by decide)⟩ rfl rfl rfl (Nat.le_of_ble_eq_true rfl) (kd dtX12_run_0 4 rfl) ⟨Nat.zero_le _, Nat.zero_le _⟩ (fun H locs hX => ?_)
  refine lv_if_ne (tgt := 14) hx hb (kd dtX12_run_0 5 rfl) (by decide) (fun hc => ?_) (fun hc => ?_)
  · have hf := kif_neg hc hf
    refine lv_aload_n hx hb (kd dtX12_run_0 8 rfl) rfl (lv_at hl 0 rfl) ?_
    refine lv_iload_n hx hb (kd dtX12_run_0 9 rfl) rfl (lv_at hl 1 rfl) ?_
    refine lv_iload_n hx hb (kd dtX12_run_0 10 rfl) rfl (lv_at hl 2 rfl) ?_
    obtain ⟨v4, h3, hf⟩ := kbind hf
    refine kcallV (n := 2) [.int x1, .int x2] [] [.int v4] (rX12_wrongRun l D aC hB h3) rfl hB.1 F hml hX hZ hl.1 mwX12_wrongRun wmX12_304 rfl (by decide) (by decide +kernel) ⟨(by decide), (by decide)⟩ rfl rfl rfl (Nat.le_of_ble_eq_true rfl) (kd dtX12_run_0 11 rfl) ⟨Nat.zero_le _, Nat.zero_le _⟩ (fun H locs hX => ?_)
    refine lv_istore (lv' := [(4, .int v4), (0, .ref h0), (1, .int x1), (2, .int x2), (3, .int x3)]) hx hb (kd dtX12_run_0 12 rfl) hl (by decide) rfl (fun ls hl => ?_)
    refine lv_iload hx hb (kd dtX12_run_0 13 rfl) (lv_at hl 0 rfl) ?_
    refine lv_if_eq (tgt := 30) hx hb (kd dtX12_run_0 14 rfl) (by decide) (fun hc => ?_) (fun hc => ?_)
    · have hf := kif_pos hc hf
      refine lv_aload_n hx hb (kd dtX12_run_0 17 rfl) rfl (lv_at hl 1 rfl) ?_
      obtain ⟨w5, h6, hf⟩ := kbind hf
      refine kcallV (n := 0) [] [] [] (rX12_asNow l D aC hB h6) rfl hB.1 F hml hX hZ hl.1 mwX12_asNow wmX12_307 rfl (by decide) (by decide +kernel) ⟨(by decide), (by decide)⟩ rfl rfl rfl (Nat.le_of_ble_eq_true rfl) (kd dtX12_run_0 18 rfl) ⟨Nat.zero_le _, Nat.zero_le _⟩ (fun H locs hX => ?_)
      refine lv_aload_n hx hb (kd dtX12_run_0 19 rfl) rfl (lv_at hl 1 rfl) ?_
      refine lv_iload_n hx hb (kd dtX12_run_0 20 rfl) rfl (lv_at hl 2 rfl) ?_
      refine lv_iload_n hx hb (kd dtX12_run_0 21 rfl) rfl (lv_at hl 3 rfl) ?_
      obtain ⟨w7, h8, hf⟩ := kbind hf
      refine kcallV (n := 2) [.int x1, .int x2] [] [] (rX12_runs l D aC hB h8) rfl hB.1 F hml hX hZ hl.1 mwX12_runs wmX12_310 rfl (by decide) (by decide +kernel) ⟨(by decide), (by decide)⟩ rfl rfl rfl (Nat.le_of_ble_eq_true rfl) (kd dtX12_run_0 22 rfl) ⟨Nat.zero_le _, Nat.zero_le _⟩ (fun H locs hX => ?_)
      refine lv_iload_n hx hb (kd dtX12_run_0 23 rfl) rfl (lv_at hl 4 rfl) ?_
      refine lv_if_ne (tgt := 59) hx hb (kd dtX12_run_0 24 rfl) (by decide) (fun hc => ?_) (fun hc => ?_)
      · have hf := kif_neg hc hf
        refine lv_iload_n hx hb (kd dtX12_run_0 32 rfl) rfl (lv_at hl 4 rfl) ?_
        refine lv_iconst (v := (1 : Int32)) hx hb (kd dtX12_run_0 33 rfl) (by decide) ?_
        refine lv_icmp_ne (tgt := 71) hx hb (kd dtX12_run_0 34 rfl) (by decide) (fun hc => ?_) (fun hc => ?_)
        · have hf := kif_neg hc hf
          refine lv_iload_n hx hb (kd dtX12_run_0 38 rfl) rfl (lv_at hl 4 rfl) ?_
          refine lv_iconst (v := (2 : Int32)) hx hb (kd dtX12_run_0 39 rfl) (by decide) ?_
          refine lv_icmp_ne (tgt := 83) hx hb (kd dtX12_run_0 40 rfl) (by decide) (fun hc => ?_) (fun hc => ?_)
          · have hf := kif_neg hc hf
            refine lv_iload_n hx hb (kd dtX12_run_0 44 rfl) rfl (lv_at hl 4 rfl) ?_
            refine lv_iconst (v := (3 : Int32)) hx hb (kd dtX12_run_0 45 rfl) (by decide) ?_
            refine lv_icmp_ne (tgt := 95) hx hb (kd dtX12_run_0 46 rfl) (by decide) (fun hc => ?_) (fun hc => ?_)
            · have hf := kif_neg hc hf
              refine lv_aload_n hx hb (kd dtX12_run_0 50 rfl) rfl (lv_at hl 1 rfl) ?_
              refine rgetF (j := 31) hB F hX wfX12_254 (by decide) rfl (kd dtX12_run_0 51 rfl) ?_
              obtain ⟨rfl, rfl⟩ := Prod.mk.inj (Option.some.inj hf)
              exact kiret F hX hr hlocks rfl (kd dtX12_run_0 52 rfl)
            · have hf := kif_pos hc hf
              refine lv_aload_n hx hb (kd dtX12_run_0 47 rfl) rfl (lv_at hl 1 rfl) ?_
              refine rgetF (j := 32) hB F hX wfX12_257 (by decide) rfl (kd dtX12_run_0 48 rfl) ?_
              refine lv_goto (tgt := 99) hx hb (kd dtX12_run_0 49 rfl) (by decide) ?_
              obtain ⟨rfl, rfl⟩ := Prod.mk.inj (Option.some.inj hf)
              exact kiret F hX hr hlocks rfl (kd dtX12_run_0 52 rfl)
          · have hf := kif_pos hc hf
            refine lv_aload_n hx hb (kd dtX12_run_0 41 rfl) rfl (lv_at hl 1 rfl) ?_
            refine rgetF (j := 28) hB F hX wfX12_245 (by decide) rfl (kd dtX12_run_0 42 rfl) ?_
            refine lv_goto (tgt := 99) hx hb (kd dtX12_run_0 43 rfl) (by decide) ?_
            obtain ⟨rfl, rfl⟩ := Prod.mk.inj (Option.some.inj hf)
            exact kiret F hX hr hlocks rfl (kd dtX12_run_0 52 rfl)
        · have hf := kif_pos hc hf
          refine lv_aload_n hx hb (kd dtX12_run_0 35 rfl) rfl (lv_at hl 1 rfl) ?_
          refine rgetF (j := 29) hB F hX wfX12_251 (by decide) rfl (kd dtX12_run_0 36 rfl) ?_
          refine lv_goto (tgt := 99) hx hb (kd dtX12_run_0 37 rfl) (by decide) ?_
          obtain ⟨rfl, rfl⟩ := Prod.mk.inj (Option.some.inj hf)
          exact kiret F hX hr hlocks rfl (kd dtX12_run_0 52 rfl)
      · have hf := kif_pos hc hf
        refine lv_aload_n hx hb (kd dtX12_run_0 25 rfl) rfl (lv_at hl 1 rfl) ?_
        refine rgetF (j := 31) hB F hX wfX12_254 (by decide) rfl (kd dtX12_run_0 26 rfl) ?_
        refine lv_if_lt (tgt := 55) hx hb (kd dtX12_run_0 27 rfl) (by decide) (fun hc => ?_) (fun hc => ?_)
        · have hf := kif_pos hc hf
          refine lv_iconst (v := (0 : Int32)) hx hb (kd dtX12_run_0 30 rfl) (by decide) ?_
          refine lv_goto (tgt := 99) hx hb (kd dtX12_run_0 31 rfl) (by decide) ?_
          obtain ⟨rfl, rfl⟩ := Prod.mk.inj (Option.some.inj hf)
          exact kiret F hX hr hlocks rfl (kd dtX12_run_0 52 rfl)
        · have hf := kif_neg hc hf
          refine lv_iconst (v := (1 : Int32)) hx hb (kd dtX12_run_0 28 rfl) (by decide) ?_
          refine lv_goto (tgt := 99) hx hb (kd dtX12_run_0 29 rfl) (by decide) ?_
          obtain ⟨rfl, rfl⟩ := Prod.mk.inj (Option.some.inj hf)
          exact kiret F hX hr hlocks rfl (kd dtX12_run_0 52 rfl)
    · have hf := kif_neg hc hf
      refine lv_iload hx hb (kd dtX12_run_0 15 rfl) (lv_at hl 0 rfl) ?_
      obtain ⟨rfl, rfl⟩ := Prod.mk.inj (Option.some.inj hf)
      exact kiret F hX hr hlocks rfl (kd dtX12_run_0 16 rfl)
  · have hf := kif_pos hc hf
    refine lv_iconst (v := (-1 : Int32)) hx hb (kd dtX12_run_0 6 rfl) (by decide) ?_
    obtain ⟨rfl, rfl⟩ := Prod.mk.inj (Option.some.inj hf)
    exact kiret F hX hr hlocks rfl (kd dtX12_run_0 7 rfl)
def lX12_need_0 : List (Nat × Instr × Nat) := [(0, .iload_n 3, 1), (1, .ifCond .lt 8, 3), (4, .iload 4, 2), (6, .ifCond .ge 5, 3), (9, .iconst (-1), 1), (10, .ireturn, 1), (11, .aload_n 0, 1), (12, .iload_n 1, 1), (13, .iload_n 2, 1), (14, .invokevirtual 304, 3), (17, .istore 5, 2), (19, .iload 5, 2), (21, .ifCond .eq 6, 3), (24, .iload 5, 2), (26, .ireturn, 1), (27, .aload_n 0, 1), (28, .invokevirtual 307, 3), (31, .aload_n 0, 1), (32, .iload_n 1, 1), (33, .iload_n 2, 1), (34, .invokevirtual 310, 3), (37, .iload_n 3, 1), (38, .aload_n 0, 1), (39, .getfield 245, 3), (42, .if_icmp .ge 34, 3), (45, .iload 4, 2), (47, .aload_n 0, 1), (48, .getfield 49, 3), (51, .iload_n 3, 1), (52, .iaload, 1), (53, .iload_n 3, 1), (54, .invokestatic 248, 3), (57, .isub, 1), (58, .if_icmp .ge 18, 3), (61, .aload_n 0, 1), (62, .getfield 9, 3), (65, .iload_n 3, 1), (66, .invokestatic 248, 3), (69, .iload 4, 2), (71, .iadd, 1), (72, .iaload, 1), (73, .goto 5, 3), (76, .bipush (-4), 2), (78, .ireturn, 1)]
theorem dtX12_need_0 : kDec cX12_need lX12_need_0 = true := by decide +kernel
noncomputable def fX12_need (x1 : Int32) (x2 : Int32) (x3 : Int32) (x4 : Int32) (w : rW) : Option (Int32 × rW) :=
  if x3 < 0 then
  some ((-1 : Int32), w)
  else
  if 0 ≤ x4 then
  (fX12_wrongRun x1 x2 w).bind fun v2 =>
  if v2 = 0 then
  (fX12_asNow w).bind fun w3 =>
  (fX12_runs x1 x2 w3).bind fun w5 =>
  if (rF w5 28) ≤ x3 then
  some ((-4 : Int32), w5)
  else
  (raI w5 13 24 x3).bind fun v7 =>
  (fX12_needOf x3).bind fun v9 =>
  if (v7 - v9) ≤ x4 then
  some ((-4 : Int32), w5)
  else
  (fX12_needOf x3).bind fun v11 =>
  (raI w5 0 10000 (v11 + x4)).bind fun v12 =>
  some (v12, w5)
  else
  some (v2, w)
  else
  some ((-1 : Int32), w)

set_option maxHeartbeats 4000000 in
set_option maxRecDepth 100000 in
theorem rX12_need (l : Launch) (D : va_G) (aC : Nat → ClassId) {h0 : Nat} {wB : kW} (hB : rOK h0 wB) {x1 : Int32} {x2 : Int32} {x3 : Int32} {x4 : Int32} {w : rW} {wR : rW} {oR : Int32} (h : fX12_need x1 x2 x3 x4 w = some (oR, wR)) : kC l D aC yX12_need cX12_need 6 (some .int) 808 18980 [.ref h0, .int x1, .int x2, .int x3, .int x4] (rWo h0 wB w) (some (.int oR)) (rWo h0 wB wR) 0 0 := by
  refine kOf (own := RX12) (by decide) rfl (Nat.le_of_ble_eq_true rfl) ?_
  intro p e s m below meth c ls F hml hr hlocks hnm hX hZ hl
  obtain ⟨hx, hb, hts, hown, hK⟩ := id F
  have hl : lv_has ls 6 [(0, .ref h0), (1, .int x1), (2, .int x2), (3, .int x3), (4, .int x4)] := hl
  have hf := h
  rw [fX12_need] at hf
  refine lv_iload_n hx hb (kd dtX12_need_0 0 rfl) rfl (lv_at hl 3 rfl) ?_
  refine lv_if_lt (tgt := 9) hx hb (kd dtX12_need_0 1 rfl) (by decide) (fun hc => ?_) (fun hc => ?_)
  · have hf := kif_pos hc hf
    refine lv_iconst (v := (-1 : Int32)) hx hb (kd dtX12_need_0 4 rfl) (by decide) ?_
    obtain ⟨rfl, rfl⟩ := Prod.mk.inj (Option.some.inj hf)
    exact kiret F hX hr hlocks rfl (kd dtX12_need_0 5 rfl)
  · have hf := kif_neg hc hf
    refine lv_iload hx hb (kd dtX12_need_0 2 rfl) (lv_at hl 4 rfl) ?_
    refine lv_if_ge (tgt := 11) hx hb (kd dtX12_need_0 3 rfl) (by decide) (fun hc => ?_) (fun hc => ?_)
    · have hf := kif_pos hc hf
      refine lv_aload_n hx hb (kd dtX12_need_0 6 rfl) rfl (lv_at hl 0 rfl) ?_
      refine lv_iload_n hx hb (kd dtX12_need_0 7 rfl) rfl (lv_at hl 1 rfl) ?_
      refine lv_iload_n hx hb (kd dtX12_need_0 8 rfl) rfl (lv_at hl 2 rfl) ?_
      obtain ⟨v2, h1, hf⟩ := kbind hf
      refine kcallV (n := 2) [.int x1, .int x2] [] [.int v2] (rX12_wrongRun l D aC hB h1) rfl hB.1 F hml hX hZ hl.1 mwX12_wrongRun wmX12_304 rfl (by decide) (by decide +kernel) ⟨(by decide), (by decide)⟩ rfl rfl rfl (Nat.le_of_ble_eq_true rfl) (kd dtX12_need_0 9 rfl) ⟨Nat.zero_le _, Nat.zero_le _⟩ (fun H locs hX => ?_)
      refine lv_istore (lv' := [(5, .int v2), (0, .ref h0), (1, .int x1), (2, .int x2), (3, .int x3), (4, .int x4)]) hx hb (kd dtX12_need_0 10 rfl) hl (by decide) rfl (fun ls hl => ?_)
      refine lv_iload hx hb (kd dtX12_need_0 11 rfl) (lv_at hl 0 rfl) ?_
      refine lv_if_eq (tgt := 27) hx hb (kd dtX12_need_0 12 rfl) (by decide) (fun hc => ?_) (fun hc => ?_)
      · have hf := kif_pos hc hf
        refine lv_aload_n hx hb (kd dtX12_need_0 15 rfl) rfl (lv_at hl 1 rfl) ?_
        obtain ⟨w3, h4, hf⟩ := kbind hf
        refine kcallV (n := 0) [] [] [] (rX12_asNow l D aC hB h4) rfl hB.1 F hml hX hZ hl.1 mwX12_asNow wmX12_307 rfl (by decide) (by decide +kernel) ⟨(by decide), (by decide)⟩ rfl rfl rfl (Nat.le_of_ble_eq_true rfl) (kd dtX12_need_0 16 rfl) ⟨Nat.zero_le _, Nat.zero_le _⟩ (fun H locs hX => ?_)
        refine lv_aload_n hx hb (kd dtX12_need_0 17 rfl) rfl (lv_at hl 1 rfl) ?_
        refine lv_iload_n hx hb (kd dtX12_need_0 18 rfl) rfl (lv_at hl 2 rfl) ?_
        refine lv_iload_n hx hb (kd dtX12_need_0 19 rfl) rfl (lv_at hl 3 rfl) ?_
        obtain ⟨w5, h6, hf⟩ := kbind hf
        refine kcallV (n := 2) [.int x1, .int x2] [] [] (rX12_runs l D aC hB h6) rfl hB.1 F hml hX hZ hl.1 mwX12_runs wmX12_310 rfl (by decide) (by decide +kernel) ⟨(by decide), (by decide)⟩ rfl rfl rfl (Nat.le_of_ble_eq_true rfl) (kd dtX12_need_0 20 rfl) ⟨Nat.zero_le _, Nat.zero_le _⟩ (fun H locs hX => ?_)
        refine lv_iload_n hx hb (kd dtX12_need_0 21 rfl) rfl (lv_at hl 4 rfl) ?_
        refine lv_aload_n hx hb (kd dtX12_need_0 22 rfl) rfl (lv_at hl 1 rfl) ?_
        refine rgetF (j := 28) hB F hX wfX12_245 (by decide) rfl (kd dtX12_need_0 23 rfl) ?_
        refine lv_icmp_ge (tgt := 76) hx hb (kd dtX12_need_0 24 rfl) (by decide) (fun hc => ?_) (fun hc => ?_)
        · have hf := kif_pos hc hf
          refine lv_bipush (v := (-4 : Int32)) hx hb (kd dtX12_need_0 42 rfl) (by decide) ?_
          obtain ⟨rfl, rfl⟩ := Prod.mk.inj (Option.some.inj hf)
          exact kiret F hX hr hlocks rfl (kd dtX12_need_0 43 rfl)
        · have hf := kif_neg hc hf
          refine lv_iload hx hb (kd dtX12_need_0 25 rfl) (lv_at hl 5 rfl) ?_
          refine lv_aload_n hx hb (kd dtX12_need_0 26 rfl) rfl (lv_at hl 1 rfl) ?_
          refine rgetA (n := 13) (j := 25) hB (by decide) rfl F hX wfX12_49 (by decide) rfl (kd dtX12_need_0 27 rfl) ?_
          refine lv_iload_n hx hb (kd dtX12_need_0 28 rfl) rfl (lv_at hl 4 rfl) ?_
          obtain ⟨v7, hv7, hf⟩ := kbind hf
          refine rald hB (by decide) hv7 F hX (kd dtX12_need_0 29 rfl) ?_
          refine lv_iload_n hx hb (kd dtX12_need_0 30 rfl) rfl (lv_at hl 4 rfl) ?_
          obtain ⟨v9, h8, hf⟩ := kbind hf
          refine kcallS (n := 1) [.int x3] [.int v7, .int x4] [.int v9, .int v7, .int x4] (rX12_needOf l D aC (rWo h0 wB w5) h8) F hml hX hZ hl.1 mwX12_needOf wmX12_248 (by decide +kernel) ⟨(by decide), (by decide)⟩ rfl rfl rfl (Nat.le_of_ble_eq_true rfl) (kd dtX12_need_0 31 rfl) ⟨Nat.zero_le _, Nat.zero_le _⟩ (fun H locs hX => ?_)
          refine lv_isub hx hb (kd dtX12_need_0 32 rfl) ?_
          refine lv_icmp_ge (tgt := 76) hx hb (kd dtX12_need_0 33 rfl) (by decide) (fun hc => ?_) (fun hc => ?_)
          · have hf := kif_pos hc hf
            refine lv_bipush (v := (-4 : Int32)) hx hb (kd dtX12_need_0 42 rfl) (by decide) ?_
            obtain ⟨rfl, rfl⟩ := Prod.mk.inj (Option.some.inj hf)
            exact kiret F hX hr hlocks rfl (kd dtX12_need_0 43 rfl)
          · have hf := kif_neg hc hf
            refine lv_aload_n hx hb (kd dtX12_need_0 34 rfl) rfl (lv_at hl 1 rfl) ?_
            refine rgetA (n := 0) (j := 0) hB (by decide) rfl F hX wfX12_9 (by decide) rfl (kd dtX12_need_0 35 rfl) ?_
            refine lv_iload_n hx hb (kd dtX12_need_0 36 rfl) rfl (lv_at hl 4 rfl) ?_
            obtain ⟨v11, h10, hf⟩ := kbind hf
            refine kcallS (n := 1) [.int x3] [.ref (h0 + 0 + 1)] [.int v11, .ref (h0 + 0 + 1)] (rX12_needOf l D aC (rWo h0 wB w5) h10) F hml hX hZ hl.1 mwX12_needOf wmX12_248 (by decide +kernel) ⟨(by decide), (by decide)⟩ rfl rfl rfl (Nat.le_of_ble_eq_true rfl) (kd dtX12_need_0 37 rfl) ⟨Nat.zero_le _, Nat.zero_le _⟩ (fun H locs hX => ?_)
            refine lv_iload hx hb (kd dtX12_need_0 38 rfl) (lv_at hl 5 rfl) ?_
            refine lv_iadd hx hb (kd dtX12_need_0 39 rfl) ?_
            obtain ⟨v12, hv12, hf⟩ := kbind hf
            refine rald hB (by decide) hv12 F hX (kd dtX12_need_0 40 rfl) ?_
            refine lv_goto (tgt := 78) hx hb (kd dtX12_need_0 41 rfl) (by decide) ?_
            obtain ⟨rfl, rfl⟩ := Prod.mk.inj (Option.some.inj hf)
            exact kiret F hX hr hlocks rfl (kd dtX12_need_0 43 rfl)
      · have hf := kif_neg hc hf
        refine lv_iload hx hb (kd dtX12_need_0 13 rfl) (lv_at hl 0 rfl) ?_
        obtain ⟨rfl, rfl⟩ := Prod.mk.inj (Option.some.inj hf)
        exact kiret F hX hr hlocks rfl (kd dtX12_need_0 14 rfl)
    · have hf := kif_neg hc hf
      refine lv_iconst (v := (-1 : Int32)) hx hb (kd dtX12_need_0 4 rfl) (by decide) ?_
      obtain ⟨rfl, rfl⟩ := Prod.mk.inj (Option.some.inj hf)
      exact kiret F hX hr hlocks rfl (kd dtX12_need_0 5 rfl)
def lX12_show_0 : List (Nat × Instr × Nat) := [(0, .aload_n 0, 1), (1, .iload_n 1, 1), (2, .iload_n 2, 1), (3, .invokevirtual 304, 3), (6, .istore_n 3, 1), (7, .iload_n 3, 1), (8, .ifCond .eq 5, 3), (11, .iload_n 3, 1), (12, .ireturn, 1), (13, .aload_n 0, 1), (14, .invokevirtual 307, 3), (17, .aload_n 0, 1), (18, .iload_n 1, 1), (19, .iload_n 2, 1), (20, .invokevirtual 310, 3), (23, .aload_n 0, 1), (24, .getfield 254, 3), (27, .ifCond .ge 6, 3), (30, .bipush (-4), 2), (32, .ireturn, 1), (33, .aload_n 0, 1), (34, .iload_n 2, 1), (35, .iconst 2, 1), (36, .iconst 4, 1), (37, .aload_n 0, 1), (38, .getfield 254, 3), (41, .bipush (-4), 2), (43, .invokevirtual 147, 3), (46, .aload_n 0, 1), (47, .getfield 251, 3), (50, .ireturn, 1)]
theorem dtX12_show_0 : kDec cX12_show lX12_show_0 = true := by decide +kernel
noncomputable def fX12_show (x1 : Int32) (x2 : Int32) (w : rW) : Option (Int32 × rW) :=
  (fX12_wrongRun x1 x2 w).bind fun v2 =>
  if v2 = 0 then
  (fX12_asNow w).bind fun w3 =>
  (fX12_runs x1 x2 w3).bind fun w5 =>
  if 0 ≤ (rF w5 31) then
  (fX12_becomes x2 (2 : Int32) (4 : Int32) (rF w5 31) (-4 : Int32) w5).bind fun w7 =>
  some (rF w7 29, w7)
  else
  some ((-4 : Int32), w5)
  else
  some (v2, w)

set_option maxHeartbeats 4000000 in
set_option maxRecDepth 100000 in
theorem rX12_show (l : Launch) (D : va_G) (aC : Nat → ClassId) {h0 : Nat} {wB : kW} (hB : rOK h0 wB) {x1 : Int32} {x2 : Int32} {w : rW} {wR : rW} {oR : Int32} (h : fX12_show x1 x2 w = some (oR, wR)) : kC l D aC yX12_show cX12_show 4 (some .int) 808 18980 [.ref h0, .int x1, .int x2] (rWo h0 wB w) (some (.int oR)) (rWo h0 wB wR) 0 0 := by
  refine kOf (own := RX12) (by decide) rfl (Nat.le_of_ble_eq_true rfl) ?_
  intro p e s m below meth c ls F hml hr hlocks hnm hX hZ hl
  obtain ⟨hx, hb, hts, hown, hK⟩ := id F
  have hl : lv_has ls 4 [(0, .ref h0), (1, .int x1), (2, .int x2)] := hl
  have hf := h
  rw [fX12_show] at hf
  refine lv_aload_n hx hb (kd dtX12_show_0 0 rfl) rfl (lv_at hl 0 rfl) ?_
  refine lv_iload_n hx hb (kd dtX12_show_0 1 rfl) rfl (lv_at hl 1 rfl) ?_
  refine lv_iload_n hx hb (kd dtX12_show_0 2 rfl) rfl (lv_at hl 2 rfl) ?_
  obtain ⟨v2, h1, hf⟩ := kbind hf
  refine kcallV (n := 2) [.int x1, .int x2] [] [.int v2] (rX12_wrongRun l D aC hB h1) rfl hB.1 F hml hX hZ hl.1 mwX12_wrongRun wmX12_304 rfl (by decide) (by decide +kernel) ⟨(by decide), (by decide)⟩ rfl rfl rfl (Nat.le_of_ble_eq_true rfl) (kd dtX12_show_0 3 rfl) ⟨Nat.zero_le _, Nat.zero_le _⟩ (fun H locs hX => ?_)
  refine lv_istore_n (lv' := [(3, .int v2), (0, .ref h0), (1, .int x1), (2, .int x2)]) hx hb (kd dtX12_show_0 4 rfl) rfl hl (by decide) rfl (fun ls hl => ?_)
  refine lv_iload_n hx hb (kd dtX12_show_0 5 rfl) rfl (lv_at hl 0 rfl) ?_
  refine lv_if_eq (tgt := 13) hx hb (kd dtX12_show_0 6 rfl) (by decide) (fun hc => ?_) (fun hc => ?_)
  · have hf := kif_pos hc hf
    refine lv_aload_n hx hb (kd dtX12_show_0 9 rfl) rfl (lv_at hl 1 rfl) ?_
    obtain ⟨w3, h4, hf⟩ := kbind hf
    refine kcallV (n := 0) [] [] [] (rX12_asNow l D aC hB h4) rfl hB.1 F hml hX hZ hl.1 mwX12_asNow wmX12_307 rfl (by decide) (by decide +kernel) ⟨(by decide), (by decide)⟩ rfl rfl rfl (Nat.le_of_ble_eq_true rfl) (kd dtX12_show_0 10 rfl) ⟨Nat.zero_le _, Nat.zero_le _⟩ (fun H locs hX => ?_)
    refine lv_aload_n hx hb (kd dtX12_show_0 11 rfl) rfl (lv_at hl 1 rfl) ?_
    refine lv_iload_n hx hb (kd dtX12_show_0 12 rfl) rfl (lv_at hl 2 rfl) ?_
    refine lv_iload_n hx hb (kd dtX12_show_0 13 rfl) rfl (lv_at hl 3 rfl) ?_
    obtain ⟨w5, h6, hf⟩ := kbind hf
    refine kcallV (n := 2) [.int x1, .int x2] [] [] (rX12_runs l D aC hB h6) rfl hB.1 F hml hX hZ hl.1 mwX12_runs wmX12_310 rfl (by decide) (by decide +kernel) ⟨(by decide), (by decide)⟩ rfl rfl rfl (Nat.le_of_ble_eq_true rfl) (kd dtX12_show_0 14 rfl) ⟨Nat.zero_le _, Nat.zero_le _⟩ (fun H locs hX => ?_)
    refine lv_aload_n hx hb (kd dtX12_show_0 15 rfl) rfl (lv_at hl 1 rfl) ?_
    refine rgetF (j := 31) hB F hX wfX12_254 (by decide) rfl (kd dtX12_show_0 16 rfl) ?_
    refine lv_if_ge (tgt := 33) hx hb (kd dtX12_show_0 17 rfl) (by decide) (fun hc => ?_) (fun hc => ?_)
    · have hf := kif_pos hc hf
      refine lv_aload_n hx hb (kd dtX12_show_0 20 rfl) rfl (lv_at hl 1 rfl) ?_
      refine lv_iload_n hx hb (kd dtX12_show_0 21 rfl) rfl (lv_at hl 3 rfl) ?_
      refine lv_iconst (v := (2 : Int32)) hx hb (kd dtX12_show_0 22 rfl) (by decide) ?_
      refine lv_iconst (v := (4 : Int32)) hx hb (kd dtX12_show_0 23 rfl) (by decide) ?_
      refine lv_aload_n hx hb (kd dtX12_show_0 24 rfl) rfl (lv_at hl 1 rfl) ?_
      refine rgetF (j := 31) hB F hX wfX12_254 (by decide) rfl (kd dtX12_show_0 25 rfl) ?_
      refine lv_bipush (v := (-4 : Int32)) hx hb (kd dtX12_show_0 26 rfl) (by decide) ?_
      obtain ⟨w7, h8, hf⟩ := kbind hf
      refine kcallV (n := 5) [.int x2, .int (2 : Int32), .int (4 : Int32), .int (rF w5 31), .int (-4 : Int32)] [] [] (rX12_becomes l D aC hB h8) rfl hB.1 F hml hX hZ hl.1 mwX12_becomes wmX12_147 rfl (by decide) (by decide +kernel) ⟨(by decide), (by decide)⟩ rfl rfl rfl (Nat.le_of_ble_eq_true rfl) (kd dtX12_show_0 27 rfl) ⟨Nat.zero_le _, Nat.zero_le _⟩ (fun H locs hX => ?_)
      refine lv_aload_n hx hb (kd dtX12_show_0 28 rfl) rfl (lv_at hl 1 rfl) ?_
      refine rgetF (j := 29) hB F hX wfX12_251 (by decide) rfl (kd dtX12_show_0 29 rfl) ?_
      obtain ⟨rfl, rfl⟩ := Prod.mk.inj (Option.some.inj hf)
      exact kiret F hX hr hlocks rfl (kd dtX12_show_0 30 rfl)
    · have hf := kif_neg hc hf
      refine lv_bipush (v := (-4 : Int32)) hx hb (kd dtX12_show_0 18 rfl) (by decide) ?_
      obtain ⟨rfl, rfl⟩ := Prod.mk.inj (Option.some.inj hf)
      exact kiret F hX hr hlocks rfl (kd dtX12_show_0 19 rfl)
  · have hf := kif_neg hc hf
    refine lv_iload_n hx hb (kd dtX12_show_0 7 rfl) rfl (lv_at hl 0 rfl) ?_
    obtain ⟨rfl, rfl⟩ := Prod.mk.inj (Option.some.inj hf)
    exact kiret F hX hr hlocks rfl (kd dtX12_show_0 8 rfl)
theorem wcX12_313 : Cond.constantLong RX12 313 (9 : Int64) ∈ kT := kTm 1638 (by decide +kernel) rfl
theorem wcX12_315 : Cond.constant RX12 315 (1000000 : Int32) ∈ kT := kTm 1639 (by decide +kernel) rfl
def lX12_tree_0 : List (Nat × Instr × Nat) := [(0, .aload_n 0, 1), (1, .iload_n 1, 1), (2, .invokevirtual 127, 3), (5, .ifCond .eq 15, 3), (8, .iload_n 2, 1), (9, .i2l, 1), (10, .lconst 0, 1), (11, .ldc2_w 313, 3), (14, .invokestatic 65, 3), (17, .ifCond .ne 5, 3), (20, .iconst (-1), 1), (21, .ireturn, 1), (22, .aload_n 0, 1), (23, .invokevirtual 307, 3), (26, .aload_n 0, 1), (27, .iload_n 1, 1), (28, .invokevirtual 296, 3), (31, .aload_n 0, 1), (32, .iconst 0, 1), (33, .putfield 238, 3), (36, .aload_n 0, 1), (37, .ldc_w 315, 3), (40, .putfield 235, 3), (43, .iconst 0, 1), (44, .istore_n 3, 1), (45, .iload_n 3, 1), (46, .aload_n 0, 1), (47, .getfield 245, 3), (50, .if_icmp .ge 81, 3), (53, .aload_n 0, 1), (54, .getfield 52, 3), (57, .iload_n 3, 1), (58, .iaload, 1), (59, .iload_n 2, 1), (60, .if_icmp .ne 6, 3), (63, .goto 62, 3), (66, .iconst 0, 1), (67, .istore 4, 2), (69, .iload 4, 2), (71, .iconst 2, 1), (72, .if_icmp .ge 53, 3), (75, .iconst 0, 1), (76, .istore 5, 2), (78, .iload 5, 2), (80, .aload_n 0, 1), (81, .getfield 242, 3), (84, .if_icmp .ge 35, 3), (87, .aload_n 0, 1), (88, .iload 4, 2), (90, .ifCond .ne 8, 3), (93, .bipush 100, 2), (95, .goto 5, 3), (98, .bipush 99, 2), (100, .aload_n 0, 1), (101, .getfield 55, 3), (104, .iload 5, 2), (106, .iaload, 1), (107, .iload_n 3, 1), (108, .invokevirtual 299, 3), (111, .istore 6, 2), (113, .iinc 5 1, 3), (116, .goto (-38), 3), (119, .iinc 4 1, 3), (122, .goto (-53), 3), (125, .iinc 3 1, 3), (128, .goto (-83), 3), (131, .aload_n 0, 1), (132, .getfield 245, 3), (135, .ireturn, 1)]
theorem dtX12_tree_0 : kDec cX12_tree lX12_tree_0 = true := by decide +kernel
noncomputable def fX12_tree_J78_100 (b k : Int32 → rW → Option (Int32 × rW)) (x1 : Int32) (x2 : Int32) (x3 : Int32) (x4 : Int32) (x5 : Int32) (s1 : Int32) (w : rW) : Option (Int32 × rW) :=
  (raI w 15 40 x5).bind fun v1 =>
  kb2 (fX12_goesOn s1 v1 x3 w) fun v4 w2 =>
  b (x5 + (1 : Int32)) w2

noncomputable def fX12_tree_L78 (x1 : Int32) (x2 : Int32) (x3 : Int32) (x4 : Int32) : Nat → (Int32 → rW → Option (Int32 × rW)) → Int32 → rW → Option (Int32 × rW)
  | 0, _, _, _ => none
  | n + 1, k, x5, w =>
  if (rF w 30) ≤ x5 then
  k x5 w
  else
  if x4 = 0 then
  fX12_tree_J78_100 (fun q5 qw => fX12_tree_L78 x1 x2 x3 x4 n k q5 qw) k x1 x2 x3 x4 x5 (100 : Int32) w
  else
  fX12_tree_J78_100 (fun q5 qw => fX12_tree_L78 x1 x2 x3 x4 n k q5 qw) k x1 x2 x3 x4 x5 (99 : Int32) w

noncomputable def fX12_tree_L69 (x1 : Int32) (x2 : Int32) (x3 : Int32) : Nat → (Int32 → rW → Option (Int32 × rW)) → Int32 → rW → Option (Int32 × rW)
  | 0, _, _, _ => none
  | n + 1, k, x4, w =>
  if (2 : Int32) ≤ x4 then
  k x4 w
  else
  fX12_tree_L78 x1 x2 x3 x4 kFU (fun y5_1 w2 => fX12_tree_L69 x1 x2 x3 n k (x4 + (1 : Int32)) w2) (0 : Int32) w

noncomputable def fX12_tree_L45 (x1 : Int32) (x2 : Int32) : Nat → (Int32 → rW → Option (Int32 × rW)) → Int32 → rW → Option (Int32 × rW)
  | 0, _, _, _ => none
  | n + 1, k, x3, w =>
  if (rF w 28) ≤ x3 then
  k x3 w
  else
  (raI w 14 24 x3).bind fun v1 =>
  if v1 = x2 then
  fX12_tree_L45 x1 x2 n k (x3 + (1 : Int32)) w
  else
  fX12_tree_L69 x1 x2 x3 kFU (fun y4_2 w3 => fX12_tree_L45 x1 x2 n k (x3 + (1 : Int32)) w3) (0 : Int32) w

noncomputable def fX12_tree (x1 : Int32) (x2 : Int32) (w : rW) : Option (Int32 × rW) :=
  (fX12_isLine x1 w).bind fun v2 =>
  if v2 = 0 then
  some ((-1 : Int32), w)
  else
  (fX12_isIn x2.toInt64 (0 : Int64) (9 : Int64)).bind fun v4 =>
  if v4 = 0 then
  some ((-1 : Int32), w)
  else
  (fX12_asNow w).bind fun w5 =>
  (fX12_begins x1 w5).bind fun w7 =>
  (rpF w7 24 (0 : Int32)).bind fun w9 =>
  (rpF w9 23 (1000000 : Int32)).bind fun w10 =>
  fX12_tree_L45 x1 x2 kFU (fun y3_11 w12 => some (rF w12 28, w12)) (0 : Int32) w10

set_option maxHeartbeats 4000000 in
set_option maxRecDepth 100000 in
theorem rX12_tree (l : Launch) (D : va_G) (aC : Nat → ClassId) {h0 : Nat} {wB : kW} (hB : rOK h0 wB) {x1 : Int32} {x2 : Int32} {w : rW} {wR : rW} {oR : Int32} (h : fX12_tree x1 x2 w = some (oR, wR)) : kC l D aC yX12_tree cX12_tree 7 (some .int) 807 18954 [.ref h0, .int x1, .int x2] (rWo h0 wB w) (some (.int oR)) (rWo h0 wB wR) 0 0 := by
  refine kOf (own := RX12) (by decide) rfl (Nat.le_of_ble_eq_true rfl) ?_
  intro p e s m below meth c ls F hml hr hlocks hnm hX hZ hl
  obtain ⟨hx, hb, hts, hown, hK⟩ := id F
  have hl : lv_has ls 7 [(0, .ref h0), (1, .int x1), (2, .int x2)] := hl
  have hf := h
  rw [fX12_tree] at hf
  refine lv_aload_n hx hb (kd dtX12_tree_0 0 rfl) rfl (lv_at hl 0 rfl) ?_
  refine lv_iload_n hx hb (kd dtX12_tree_0 1 rfl) rfl (lv_at hl 1 rfl) ?_
  obtain ⟨v2, h1, hf⟩ := kbind hf
  refine kcallV (n := 1) [.int x1] [] [.int v2] (rX12_isLine l D aC hB h1) rfl hB.1 F hml hX hZ hl.1 mwX12_isLine wmX12_127 rfl (by decide) (by decide +kernel) ⟨(by decide), (by decide)⟩ rfl rfl rfl (Nat.le_of_ble_eq_true rfl) (kd dtX12_tree_0 2 rfl) ⟨Nat.zero_le _, Nat.zero_le _⟩ (fun H locs hX => ?_)
  refine lv_if_eq (tgt := 20) hx hb (kd dtX12_tree_0 3 rfl) (by decide) (fun hc => ?_) (fun hc => ?_)
  · have hf := kif_pos hc hf
    refine lv_iconst (v := (-1 : Int32)) hx hb (kd dtX12_tree_0 10 rfl) (by decide) ?_
    obtain ⟨rfl, rfl⟩ := Prod.mk.inj (Option.some.inj hf)
    exact kiret F hX hr hlocks rfl (kd dtX12_tree_0 11 rfl)
  · have hf := kif_neg hc hf
    refine lv_iload_n hx hb (kd dtX12_tree_0 4 rfl) rfl (lv_at hl 2 rfl) ?_
    refine lv_i2l (v := x2.toInt64) hx hb (kd dtX12_tree_0 5 rfl) rfl ?_
    refine lv_lconst (v := (0 : Int64)) hx hb (kd dtX12_tree_0 6 rfl) (by decide) ?_
    refine lv_ldc2 (v := (9 : Int64)) hx hb hown (hts _ wcX12_313) (kd dtX12_tree_0 7 rfl) ?_
    obtain ⟨v4, h3, hf⟩ := kbind hf
    refine kcallS (n := 3) [.long x2.toInt64, .long (0 : Int64), .long (9 : Int64)] [] [.int v4] (rX12_isIn l D aC (rWo h0 wB w) h3) F hml hX hZ hl.1 mwX12_isIn wmX12_65 (by decide +kernel) ⟨(by decide), (by decide)⟩ rfl rfl rfl (Nat.le_of_ble_eq_true rfl) (kd dtX12_tree_0 8 rfl) ⟨Nat.zero_le _, Nat.zero_le _⟩ (fun H locs hX => ?_)
    refine lv_if_ne (tgt := 22) hx hb (kd dtX12_tree_0 9 rfl) (by decide) (fun hc => ?_) (fun hc => ?_)
    · have hf := kif_neg hc hf
      refine lv_aload_n hx hb (kd dtX12_tree_0 12 rfl) rfl (lv_at hl 0 rfl) ?_
      obtain ⟨w5, h6, hf⟩ := kbind hf
      refine kcallV (n := 0) [] [] [] (rX12_asNow l D aC hB h6) rfl hB.1 F hml hX hZ hl.1 mwX12_asNow wmX12_307 rfl (by decide) (by decide +kernel) ⟨(by decide), (by decide)⟩ rfl rfl rfl (Nat.le_of_ble_eq_true rfl) (kd dtX12_tree_0 13 rfl) ⟨Nat.zero_le _, Nat.zero_le _⟩ (fun H locs hX => ?_)
      refine lv_aload_n hx hb (kd dtX12_tree_0 14 rfl) rfl (lv_at hl 0 rfl) ?_
      refine lv_iload_n hx hb (kd dtX12_tree_0 15 rfl) rfl (lv_at hl 1 rfl) ?_
      obtain ⟨w7, h8, hf⟩ := kbind hf
      refine kcallV (n := 1) [.int x1] [] [] (rX12_begins l D aC hB h8) rfl hB.1 F hml hX hZ hl.1 mwX12_begins wmX12_296 rfl (by decide) (by decide +kernel) ⟨(by decide), (by decide)⟩ rfl rfl rfl (Nat.le_of_ble_eq_true rfl) (kd dtX12_tree_0 16 rfl) ⟨Nat.zero_le _, Nat.zero_le _⟩ (fun H locs hX => ?_)
      refine lv_aload_n hx hb (kd dtX12_tree_0 17 rfl) rfl (lv_at hl 0 rfl) ?_
      refine lv_iconst (v := (0 : Int32)) hx hb (kd dtX12_tree_0 18 rfl) (by decide) ?_
      obtain ⟨w9, hw9, hf⟩ := kbind hf
      refine rputF hw9 hB F hX wfX12_238 (by decide) rfl rfl rfl rfl (kd dtX12_tree_0 19 rfl) (fun H locs hX => ?_)
      refine lv_aload_n hx hb (kd dtX12_tree_0 20 rfl) rfl (lv_at hl 0 rfl) ?_
      refine lv_ldcw (v := (1000000 : Int32)) hx hb hown (hts _ wcX12_315) (kd dtX12_tree_0 21 rfl) ?_
      obtain ⟨w10, hw10, hf⟩ := kbind hf
      refine rputF hw10 hB F hX wfX12_235 (by decide) rfl rfl rfl rfl (kd dtX12_tree_0 22 rfl) (fun H locs hX => ?_)
      refine lv_iconst (v := (0 : Int32)) hx hb (kd dtX12_tree_0 23 rfl) (by decide) ?_
      refine lv_istore_n (lv' := [(3, .int (0 : Int32)), (0, .ref h0), (1, .int x1), (2, .int x2)]) hx hb (kd dtX12_tree_0 24 rfl) rfl hl (by decide) rfl (fun ls hl => ?_)
      have hL45 : ∀ (n : Nat) (k : Int32 → rW → Option (Int32 × rW)), ∀ (z3_45 : Int32) (w_45 : rW) (H : Heap) (locs : List Loc) (ls : Array Slot), kX D aC (rWo h0 wB w) s.heap (rWo h0 wB w_45) H locs → lv_has ls 7 [(0, .ref h0), (1, .int x1), (2, .int x2), (3, .int z3_45)] → fX12_tree_L45 x1 x2 n k z3_45 w_45 = some (oR, wR) → (∀ (z3_45 : Int32) (w_45 : rW) (H : Heap) (locs : List Loc) (ls : Array Slot), kX D aC (rWo h0 wB w) s.heap (rWo h0 wB w_45) H locs → lv_has ls 7 [(0, .ref h0), (1, .int x1), (2, .int x2), (3, .int z3_45)] → k z3_45 w_45 = some (oR, wR) → W p l e { frames := 807, cells := 0, slots := 0, locals := 18954 } s m ([.ref h0, .int x1, .int x2] : List Value).toArray below meth c H locs 0 0 (MQ below (kQc D aC (rWo h0 wB w) (some (.int oR)) (rWo h0 wB wR)) ([.ref h0, .int x1, .int x2] : List Value).toArray s 0 0 (kA (rWo h0 wB w))) (F0 m 131 ls [])) → W p l e { frames := 807, cells := 0, slots := 0, locals := 18954 } s m ([.ref h0, .int x1, .int x2] : List Value).toArray below meth c H locs 0 0 (MQ below (kQc D aC (rWo h0 wB w) (some (.int oR)) (rWo h0 wB wR)) ([.ref h0, .int x1, .int x2] : List Value).toArray s 0 0 (kA (rWo h0 wB w))) (F0 m 45 ls []) := by
        intro n k
        induction n with
        | zero =>
          intro z3_45 w_45 H locs ls hX hl hf hk
          rw [fX12_tree_L45] at hf
          cases hf
        | succ n ih =>
          intro z3_45 w_45 H locs ls hX hl hf hk
          rw [fX12_tree_L45] at hf
          refine lv_iload_n hx hb (kd dtX12_tree_0 25 rfl) rfl (lv_at hl 3 rfl) ?_
          refine lv_aload_n hx hb (kd dtX12_tree_0 26 rfl) rfl (lv_at hl 0 rfl) ?_
          refine rgetF (j := 28) hB F hX wfX12_245 (by decide) rfl (kd dtX12_tree_0 27 rfl) ?_
          refine lv_icmp_ge (tgt := 131) hx hb (kd dtX12_tree_0 28 rfl) (by decide) (fun hc => ?_) (fun hc => ?_)
          · have hf := kif_pos hc hf
            exact hk z3_45 w_45 _ _ _ hX hl hf
          · have hf := kif_neg hc hf
            refine lv_aload_n hx hb (kd dtX12_tree_0 29 rfl) rfl (lv_at hl 0 rfl) ?_
            refine rgetA (n := 14) (j := 26) hB (by decide) rfl F hX wfX12_52 (by decide) rfl (kd dtX12_tree_0 30 rfl) ?_
            refine lv_iload_n hx hb (kd dtX12_tree_0 31 rfl) rfl (lv_at hl 3 rfl) ?_
            obtain ⟨v13, hv13, hf⟩ := kbind hf
            refine rald hB (by decide) hv13 F hX (kd dtX12_tree_0 32 rfl) ?_
            refine lv_iload_n hx hb (kd dtX12_tree_0 33 rfl) rfl (lv_at hl 2 rfl) ?_
            refine lv_icmp_ne (tgt := 66) hx hb (kd dtX12_tree_0 34 rfl) (by decide) (fun hc => ?_) (fun hc => ?_)
            · have hf := kif_neg hc hf
              refine lv_iconst (v := (0 : Int32)) hx hb (kd dtX12_tree_0 36 rfl) (by decide) ?_
              refine lv_istore (lv' := [(4, .int (0 : Int32)), (0, .ref h0), (1, .int x1), (2, .int x2), (3, .int z3_45)]) hx hb (kd dtX12_tree_0 37 rfl) hl (by decide) rfl (fun ls hl => ?_)
              have hL69 : ∀ (n : Nat) (k : Int32 → rW → Option (Int32 × rW)), ∀ (z4_69 : Int32) (w_69 : rW) (H : Heap) (locs : List Loc) (ls : Array Slot), kX D aC (rWo h0 wB w) s.heap (rWo h0 wB w_69) H locs → lv_has ls 7 [(0, .ref h0), (1, .int x1), (2, .int x2), (3, .int z3_45), (4, .int z4_69)] → fX12_tree_L69 x1 x2 z3_45 n k z4_69 w_69 = some (oR, wR) → (∀ (z4_69 : Int32) (w_69 : rW) (H : Heap) (locs : List Loc) (ls : Array Slot), kX D aC (rWo h0 wB w) s.heap (rWo h0 wB w_69) H locs → lv_has ls 7 [(0, .ref h0), (1, .int x1), (2, .int x2), (3, .int z3_45), (4, .int z4_69)] → k z4_69 w_69 = some (oR, wR) → W p l e { frames := 807, cells := 0, slots := 0, locals := 18954 } s m ([.ref h0, .int x1, .int x2] : List Value).toArray below meth c H locs 0 0 (MQ below (kQc D aC (rWo h0 wB w) (some (.int oR)) (rWo h0 wB wR)) ([.ref h0, .int x1, .int x2] : List Value).toArray s 0 0 (kA (rWo h0 wB w))) (F0 m 125 ls [])) → W p l e { frames := 807, cells := 0, slots := 0, locals := 18954 } s m ([.ref h0, .int x1, .int x2] : List Value).toArray below meth c H locs 0 0 (MQ below (kQc D aC (rWo h0 wB w) (some (.int oR)) (rWo h0 wB wR)) ([.ref h0, .int x1, .int x2] : List Value).toArray s 0 0 (kA (rWo h0 wB w))) (F0 m 69 ls []) := by
                intro n k
                induction n with
                | zero =>
                  intro z4_69 w_69 H locs ls hX hl hf hk
                  rw [fX12_tree_L69] at hf
                  cases hf
                | succ n ih =>
                  intro z4_69 w_69 H locs ls hX hl hf hk
                  rw [fX12_tree_L69] at hf
                  refine lv_iload hx hb (kd dtX12_tree_0 38 rfl) (lv_at hl 4 rfl) ?_
                  refine lv_iconst (v := (2 : Int32)) hx hb (kd dtX12_tree_0 39 rfl) (by decide) ?_
                  refine lv_icmp_ge (tgt := 125) hx hb (kd dtX12_tree_0 40 rfl) (by decide) (fun hc => ?_) (fun hc => ?_)
                  · have hf := kif_pos hc hf
                    exact hk z4_69 w_69 _ _ _ hX hl hf
                  · have hf := kif_neg hc hf
                    refine lv_iconst (v := (0 : Int32)) hx hb (kd dtX12_tree_0 41 rfl) (by decide) ?_
                    refine lv_istore (lv' := [(5, .int (0 : Int32)), (0, .ref h0), (1, .int x1), (2, .int x2), (3, .int z3_45), (4, .int z4_69)]) hx hb (kd dtX12_tree_0 42 rfl) hl (by decide) rfl (fun ls hl => ?_)
                    have hL78 : ∀ (n : Nat) (k : Int32 → rW → Option (Int32 × rW)), ∀ (z5_78 : Int32) (w_78 : rW) (H : Heap) (locs : List Loc) (ls : Array Slot), kX D aC (rWo h0 wB w) s.heap (rWo h0 wB w_78) H locs → lv_has ls 7 [(0, .ref h0), (1, .int x1), (2, .int x2), (3, .int z3_45), (4, .int z4_69), (5, .int z5_78)] → fX12_tree_L78 x1 x2 z3_45 z4_69 n k z5_78 w_78 = some (oR, wR) → (∀ (z5_78 : Int32) (w_78 : rW) (H : Heap) (locs : List Loc) (ls : Array Slot), kX D aC (rWo h0 wB w) s.heap (rWo h0 wB w_78) H locs → lv_has ls 7 [(0, .ref h0), (1, .int x1), (2, .int x2), (3, .int z3_45), (4, .int z4_69), (5, .int z5_78)] → k z5_78 w_78 = some (oR, wR) → W p l e { frames := 807, cells := 0, slots := 0, locals := 18954 } s m ([.ref h0, .int x1, .int x2] : List Value).toArray below meth c H locs 0 0 (MQ below (kQc D aC (rWo h0 wB w) (some (.int oR)) (rWo h0 wB wR)) ([.ref h0, .int x1, .int x2] : List Value).toArray s 0 0 (kA (rWo h0 wB w))) (F0 m 119 ls [])) → W p l e { frames := 807, cells := 0, slots := 0, locals := 18954 } s m ([.ref h0, .int x1, .int x2] : List Value).toArray below meth c H locs 0 0 (MQ below (kQc D aC (rWo h0 wB w) (some (.int oR)) (rWo h0 wB wR)) ([.ref h0, .int x1, .int x2] : List Value).toArray s 0 0 (kA (rWo h0 wB w))) (F0 m 78 ls []) := by
                      intro n k
                      induction n with
                      | zero =>
                        intro z5_78 w_78 H locs ls hX hl hf hk
                        rw [fX12_tree_L78] at hf
                        cases hf
                      | succ n ih =>
                        intro z5_78 w_78 H locs ls hX hl hf hk
                        have hJ78_100 : ∀ (j5_100 : Int32) (t1_100 : Int32) (w_j100 : rW) (H : Heap) (locs : List Loc) (ls : Array Slot), kX D aC (rWo h0 wB w) s.heap (rWo h0 wB w_j100) H locs → lv_has ls 7 [(0, .ref h0), (1, .int x1), (2, .int x2), (3, .int z3_45), (4, .int z4_69), (5, .int j5_100)] → fX12_tree_J78_100 (fun q5 qw => fX12_tree_L78 x1 x2 z3_45 z4_69 n k q5 qw) k x1 x2 z3_45 z4_69 j5_100 t1_100 w_j100 = some (oR, wR) → W p l e { frames := 807, cells := 0, slots := 0, locals := 18954 } s m ([.ref h0, .int x1, .int x2] : List Value).toArray below meth c H locs 0 0 (MQ below (kQc D aC (rWo h0 wB w) (some (.int oR)) (rWo h0 wB wR)) ([.ref h0, .int x1, .int x2] : List Value).toArray s 0 0 (kA (rWo h0 wB w))) (F0 m 100 ls [.int t1_100, .ref h0]) := by
                          intro j5_100 t1_100 w_j100 H locs ls hX hl hf
                          rw [fX12_tree_J78_100] at hf
                          refine lv_aload_n hx hb (kd dtX12_tree_0 53 rfl) rfl (lv_at hl 0 rfl) ?_
                          refine rgetA (n := 15) (j := 27) hB (by decide) rfl F hX wfX12_55 (by decide) rfl (kd dtX12_tree_0 54 rfl) ?_
                          refine lv_iload hx hb (kd dtX12_tree_0 55 rfl) (lv_at hl 5 rfl) ?_
                          obtain ⟨v18, hv18, hf⟩ := kbind hf
                          refine rald hB (by decide) hv18 F hX (kd dtX12_tree_0 56 rfl) ?_
                          refine lv_iload_n hx hb (kd dtX12_tree_0 57 rfl) rfl (lv_at hl 3 rfl) ?_
                          obtain ⟨v21, w19, h20, hf⟩ := kbind2 hf
                          refine kcallV (n := 3) [.int t1_100, .int v18, .int z3_45] [] [.int v21] (rX12_goesOn l D aC hB h20) rfl hB.1 F hml hX hZ hl.1 mwX12_goesOn wmX12_299 rfl (by decide) (by decide +kernel) ⟨(by decide), (by decide)⟩ rfl rfl rfl (Nat.le_of_ble_eq_true rfl) (kd dtX12_tree_0 58 rfl) ⟨Nat.zero_le _, Nat.zero_le _⟩ (fun H locs hX => ?_)
                          refine lv_istore (lv' := [(6, .int v21), (0, .ref h0), (1, .int x1), (2, .int x2), (3, .int z3_45), (4, .int z4_69), (5, .int j5_100)]) hx hb (kd dtX12_tree_0 59 rfl) hl (by decide) rfl (fun ls hl => ?_)
                          refine lv_iinc (v := j5_100 + (1 : Int32)) (lv' := [(5, .int (j5_100 + (1 : Int32))), (6, .int v21), (0, .ref h0), (1, .int x1), (2, .int x2), (3, .int z3_45), (4, .int z4_69)]) hx hb (kd dtX12_tree_0 60 rfl) hl (k := 6) rfl (by rfl) (by decide) rfl (fun ls hl => ?_)
                          refine lv_goto (tgt := 78) hx hb (kd dtX12_tree_0 61 rfl) (by decide) ?_
                          exact ih (j5_100 + (1 : Int32)) w19 _ _ _ hX (lv_sub hl [2, 3, 4, 5, 6, 0] rfl) hf hk
                        rw [fX12_tree_L78] at hf
                        refine lv_iload hx hb (kd dtX12_tree_0 43 rfl) (lv_at hl 5 rfl) ?_
                        refine lv_aload_n hx hb (kd dtX12_tree_0 44 rfl) rfl (lv_at hl 0 rfl) ?_
                        refine rgetF (j := 30) hB F hX wfX12_242 (by decide) rfl (kd dtX12_tree_0 45 rfl) ?_
                        refine lv_icmp_ge (tgt := 119) hx hb (kd dtX12_tree_0 46 rfl) (by decide) (fun hc => ?_) (fun hc => ?_)
                        · have hf := kif_pos hc hf
                          exact hk z5_78 w_78 _ _ _ hX hl hf
                        · have hf := kif_neg hc hf
                          refine lv_aload_n hx hb (kd dtX12_tree_0 47 rfl) rfl (lv_at hl 0 rfl) ?_
                          refine lv_iload hx hb (kd dtX12_tree_0 48 rfl) (lv_at hl 4 rfl) ?_
                          refine lv_if_ne (tgt := 98) hx hb (kd dtX12_tree_0 49 rfl) (by decide) (fun hc => ?_) (fun hc => ?_)
                          · have hf := kif_neg hc hf
                            refine lv_bipush (v := (99 : Int32)) hx hb (kd dtX12_tree_0 52 rfl) (by decide) ?_
                            exact hJ78_100 z5_78 (99 : Int32) w_78 _ _ _ hX hl hf
                          · have hf := kif_pos hc hf
                            refine lv_bipush (v := (100 : Int32)) hx hb (kd dtX12_tree_0 50 rfl) (by decide) ?_
                            refine lv_goto (tgt := 100) hx hb (kd dtX12_tree_0 51 rfl) (by decide) ?_
                            exact hJ78_100 z5_78 (100 : Int32) w_78 _ _ _ hX hl hf
                    refine hL78 kFU _ (0 : Int32) w_69 _ _ _ hX (lv_sub hl [1, 2, 3, 4, 5, 0] rfl) hf ?_
                    intro y5_16 w17 H locs ls hX hl hf
                    refine lv_iinc (v := z4_69 + (1 : Int32)) (lv' := [(4, .int (z4_69 + (1 : Int32))), (0, .ref h0), (1, .int x1), (2, .int x2), (3, .int z3_45), (5, .int y5_16)]) hx hb (kd dtX12_tree_0 62 rfl) hl (k := 4) rfl (by rfl) (by decide) rfl (fun ls hl => ?_)
                    refine lv_goto (tgt := 69) hx hb (kd dtX12_tree_0 63 rfl) (by decide) ?_
                    exact ih (z4_69 + (1 : Int32)) w17 _ _ _ hX (lv_sub hl [1, 2, 3, 4, 0] rfl) hf hk
              refine hL69 kFU _ (0 : Int32) w_45 _ _ _ hX (lv_sub hl [1, 2, 3, 4, 0] rfl) hf ?_
              intro y4_14 w15 H locs ls hX hl hf
              refine lv_iinc (v := z3_45 + (1 : Int32)) (lv' := [(3, .int (z3_45 + (1 : Int32))), (0, .ref h0), (1, .int x1), (2, .int x2), (4, .int y4_14)]) hx hb (kd dtX12_tree_0 64 rfl) hl (k := 3) rfl (by rfl) (by decide) rfl (fun ls hl => ?_)
              refine lv_goto (tgt := 45) hx hb (kd dtX12_tree_0 65 rfl) (by decide) ?_
              exact ih (z3_45 + (1 : Int32)) w15 _ _ _ hX (lv_sub hl [1, 2, 3, 0] rfl) hf hk
            · have hf := kif_pos hc hf
              refine lv_goto (tgt := 125) hx hb (kd dtX12_tree_0 35 rfl) (by decide) ?_
              refine lv_iinc (v := z3_45 + (1 : Int32)) (lv' := [(3, .int (z3_45 + (1 : Int32))), (0, .ref h0), (1, .int x1), (2, .int x2)]) hx hb (kd dtX12_tree_0 64 rfl) hl (k := 3) rfl (by rfl) (by decide) rfl (fun ls hl => ?_)
              refine lv_goto (tgt := 45) hx hb (kd dtX12_tree_0 65 rfl) (by decide) ?_
              exact ih (z3_45 + (1 : Int32)) w_45 _ _ _ hX (lv_sub hl [1, 2, 3, 0] rfl) hf hk
      refine hL45 kFU _ (0 : Int32) w10 _ _ _ hX (lv_sub hl [1, 2, 3, 0] rfl) hf ?_
      intro y3_11 w12 H locs ls hX hl hf
      refine lv_aload_n hx hb (kd dtX12_tree_0 66 rfl) rfl (lv_at hl 0 rfl) ?_
      refine rgetF (j := 28) hB F hX wfX12_245 (by decide) rfl (kd dtX12_tree_0 67 rfl) ?_
      obtain ⟨rfl, rfl⟩ := Prod.mk.inj (Option.some.inj hf)
      exact kiret F hX hr hlocks rfl (kd dtX12_tree_0 68 rfl)
    · have hf := kif_pos hc hf
      refine lv_iconst (v := (-1 : Int32)) hx hb (kd dtX12_tree_0 10 rfl) (by decide) ?_
      obtain ⟨rfl, rfl⟩ := Prod.mk.inj (Option.some.inj hf)
      exact kiret F hX hr hlocks rfl (kd dtX12_tree_0 11 rfl)
def lX12_heightBy_0 : List (Nat × Instr × Nat) := [(0, .bipush (-4), 2), (2, .istore_n 2, 1), (3, .iconst 0, 1), (4, .istore_n 3, 1), (5, .iload_n 3, 1), (6, .aload_n 0, 1), (7, .getfield 16, 3), (10, .iconst 0, 1), (11, .iaload, 1), (12, .if_icmp .ge 174, 3), (15, .aload_n 0, 1), (16, .getfield 58, 3), (19, .iload_n 3, 1), (20, .iaload, 1), (21, .ifCond .ge 6, 3), (24, .goto 156, 3), (27, .iload_n 2, 1), (28, .ifCond .lt 15, 3), (31, .aload_n 0, 1), (32, .getfield 58, 3), (35, .iload_n 3, 1), (36, .iaload, 1), (37, .iconst 1, 1), (38, .iadd, 1), (39, .iload_n 2, 1), (40, .if_icmp .ge 34, 3), (43, .aload_n 0, 1), (44, .iload_n 1, 1), (45, .iconst 0, 1), (46, .iload_n 3, 1), (47, .iconst 0, 1), (48, .invokevirtual 210, 3), (51, .ifCond .ne 14, 3), (54, .aload_n 0, 1), (55, .iload_n 1, 1), (56, .iconst 3, 1), (57, .iload_n 3, 1), (58, .iconst 0, 1), (59, .invokevirtual 210, 3), (62, .ifCond .eq 12, 3), (65, .aload_n 0, 1), (66, .getfield 58, 3), (69, .iload_n 3, 1), (70, .iaload, 1), (71, .iconst 1, 1), (72, .iadd, 1), (73, .istore_n 2, 1), (74, .iconst 0, 1), (75, .istore 4, 2), (77, .iload 4, 2), (79, .aload_n 0, 1), (80, .getfield 16, 3), (83, .iconst 0, 1), (84, .iaload, 1), (85, .if_icmp .ge 95, 3), (88, .aload_n 0, 1), (89, .getfield 58, 3), (92, .iload 4, 2), (94, .iaload, 1), (95, .ifCond .ge 6, 3), (98, .goto 76, 3), (101, .iconst 1, 1), (102, .aload_n 0, 1), (103, .getfield 58, 3), (106, .iload_n 3, 1), (107, .iaload, 1), (108, .aload_n 0, 1), (109, .getfield 58, 3), (112, .iload 4, 2), (114, .iaload, 1), (115, .if_icmp .le 12, 3), (118, .aload_n 0, 1), (119, .getfield 58, 3), (122, .iload_n 3, 1), (123, .iaload, 1), (124, .goto 10, 3), (127, .aload_n 0, 1), (128, .getfield 58, 3), (131, .iload 4, 2), (133, .iaload, 1)]
theorem dtX12_heightBy_0 : kDec cX12_heightBy lX12_heightBy_0 = true := by decide +kernel
def lX12_heightBy_1 : List (Nat × Instr × Nat) := [(134, .iadd, 1), (135, .istore 5, 2), (137, .iload_n 2, 1), (138, .ifCond .lt 9, 3), (141, .iload 5, 2), (143, .iload_n 2, 1), (144, .if_icmp .ge 30, 3), (147, .aload_n 0, 1), (148, .iload_n 1, 1), (149, .iconst 1, 1), (150, .iload_n 3, 1), (151, .iload 4, 2), (153, .invokevirtual 210, 3), (156, .ifCond .ne 15, 3), (159, .aload_n 0, 1), (160, .iload_n 1, 1), (161, .iconst 2, 1), (162, .iload_n 3, 1), (163, .iload 4, 2), (165, .invokevirtual 210, 3), (168, .ifCond .eq 6, 3), (171, .iload 5, 2), (173, .istore_n 2, 1), (174, .iinc 4 1, 3), (177, .goto (-100), 3), (180, .iinc 3 1, 3), (183, .goto (-178), 3), (186, .iload_n 2, 1), (187, .ireturn, 1)]
theorem dtX12_heightBy_1 : kDec cX12_heightBy lX12_heightBy_1 = true := by decide +kernel
noncomputable def fX12_heightBy_J77_147 (b k : Int32 → Int32 → rW → Option (Int32 × rW)) (x1 : Int32) (x2 : Int32) (x3 : Int32) (x4 : Int32) (x5 : Int32) (w : rW) : Option (Int32 × rW) :=
  kb2 (fX12_isStep x1 (1 : Int32) x3 x4 w) fun v3 w1 =>
  if v3 = 0 then
  kb2 (fX12_isStep x1 (2 : Int32) x3 x4 w1) fun v6 w4 =>
  if v6 = 0 then
  b x2 (x4 + (1 : Int32)) w4
  else
  b x5 (x4 + (1 : Int32)) w4
  else
  b x5 (x4 + (1 : Int32)) w1

noncomputable def fX12_heightBy_J77_134 (b k : Int32 → Int32 → rW → Option (Int32 × rW)) (x1 : Int32) (x2 : Int32) (x3 : Int32) (x4 : Int32) (s0 : Int32) (s1 : Int32) (w : rW) : Option (Int32 × rW) :=
  if x2 < 0 then
  fX12_heightBy_J77_147 b k x1 x2 x3 x4 (s0 + s1) w
  else
  if x2 ≤ (s0 + s1) then
  b x2 (x4 + (1 : Int32)) w
  else
  fX12_heightBy_J77_147 b k x1 x2 x3 x4 (s0 + s1) w

noncomputable def fX12_heightBy_L77 (x1 : Int32) (x3 : Int32) : Nat → (Int32 → Int32 → rW → Option (Int32 × rW)) → Int32 → Int32 → rW → Option (Int32 × rW)
  | 0, _, _, _, _ => none
  | n + 1, k, x2, x4, w =>
  (raI w 2 1000 (0 : Int32)).bind fun v1 =>
  if v1 ≤ x4 then
  k x2 x4 w
  else
  (raI w 16 40 x4).bind fun v2 =>
  if 0 ≤ v2 then
  (raI w 16 40 x3).bind fun v3 =>
  (raI w 16 40 x4).bind fun v4 =>
  if v3 ≤ v4 then
  (raI w 16 40 x4).bind fun v5 =>
  fX12_heightBy_J77_134 (fun q2 q4 qw => fX12_heightBy_L77 x1 x3 n k q2 q4 qw) k x1 x2 x3 x4 (1 : Int32) v5 w
  else
  (raI w 16 40 x3).bind fun v6 =>
  fX12_heightBy_J77_134 (fun q2 q4 qw => fX12_heightBy_L77 x1 x3 n k q2 q4 qw) k x1 x2 x3 x4 (1 : Int32) v6 w
  else
  fX12_heightBy_L77 x1 x3 n k x2 (x4 + (1 : Int32)) w

noncomputable def fX12_heightBy_J5_74 (b k : Int32 → Int32 → rW → Option (Int32 × rW)) (x1 : Int32) (x2 : Int32) (x3 : Int32) (w : rW) : Option (Int32 × rW) :=
  fX12_heightBy_L77 x1 x3 kFU (fun y2_1 y4_2 w3 => b y2_1 (x3 + (1 : Int32)) w3) x2 (0 : Int32) w

noncomputable def fX12_heightBy_J5_65 (b k : Int32 → Int32 → rW → Option (Int32 × rW)) (x1 : Int32) (x2 : Int32) (x3 : Int32) (w : rW) : Option (Int32 × rW) :=
  (raI w 16 40 x3).bind fun v1 =>
  fX12_heightBy_J5_74 b k x1 (v1 + (1 : Int32)) x3 w

noncomputable def fX12_heightBy_J5_43 (b k : Int32 → Int32 → rW → Option (Int32 × rW)) (x1 : Int32) (x2 : Int32) (x3 : Int32) (w : rW) : Option (Int32 × rW) :=
  kb2 (fX12_isStep x1 (0 : Int32) x3 (0 : Int32) w) fun v3 w1 =>
  if v3 = 0 then
  kb2 (fX12_isStep x1 (3 : Int32) x3 (0 : Int32) w1) fun v6 w4 =>
  if v6 = 0 then
  fX12_heightBy_J5_74 b k x1 x2 x3 w4
  else
  fX12_heightBy_J5_65 b k x1 x2 x3 w4
  else
  fX12_heightBy_J5_65 b k x1 x2 x3 w1

noncomputable def fX12_heightBy_L5 (x1 : Int32) : Nat → (Int32 → Int32 → rW → Option (Int32 × rW)) → Int32 → Int32 → rW → Option (Int32 × rW)
  | 0, _, _, _, _ => none
  | n + 1, k, x2, x3, w =>
  (raI w 2 1000 (0 : Int32)).bind fun v1 =>
  if v1 ≤ x3 then
  k x2 x3 w
  else
  (raI w 16 40 x3).bind fun v2 =>
  if 0 ≤ v2 then
  if x2 < 0 then
  fX12_heightBy_J5_43 (fun q2 q3 qw => fX12_heightBy_L5 x1 n k q2 q3 qw) k x1 x2 x3 w
  else
  (raI w 16 40 x3).bind fun v3 =>
  if x2 ≤ (v3 + (1 : Int32)) then
  fX12_heightBy_J5_74 (fun q2 q3 qw => fX12_heightBy_L5 x1 n k q2 q3 qw) k x1 x2 x3 w
  else
  fX12_heightBy_J5_43 (fun q2 q3 qw => fX12_heightBy_L5 x1 n k q2 q3 qw) k x1 x2 x3 w
  else
  fX12_heightBy_L5 x1 n k x2 (x3 + (1 : Int32)) w

noncomputable def fX12_heightBy (x1 : Int32) (w : rW) : Option (Int32 × rW) :=
  fX12_heightBy_L5 x1 kFU (fun y2_1 y3_2 w3 => some (y2_1, w3)) (-4 : Int32) (0 : Int32) w

set_option maxHeartbeats 4000000 in
set_option maxRecDepth 100000 in
theorem rX12_heightBy (l : Launch) (D : va_G) (aC : Nat → ClassId) {h0 : Nat} {wB : kW} (hB : rOK h0 wB) {x1 : Int32} {w : rW} {wR : rW} {oR : Int32} (h : fX12_heightBy x1 w = some (oR, wR)) : kC l D aC yX12_heightBy cX12_heightBy 6 (some .int) 806 18925 [.ref h0, .int x1] (rWo h0 wB w) (some (.int oR)) (rWo h0 wB wR) 0 0 := by
  refine kOf (own := RX12) (by decide) rfl (Nat.le_of_ble_eq_true rfl) ?_
  intro p e s m below meth c ls F hml hr hlocks hnm hX hZ hl
  obtain ⟨hx, hb, hts, hown, hK⟩ := id F
  have hl : lv_has ls 6 [(0, .ref h0), (1, .int x1)] := hl
  have hf := h
  rw [fX12_heightBy] at hf
  refine lv_bipush (v := (-4 : Int32)) hx hb (kd dtX12_heightBy_0 0 rfl) (by decide) ?_
  refine lv_istore_n (lv' := [(2, .int (-4 : Int32)), (0, .ref h0), (1, .int x1)]) hx hb (kd dtX12_heightBy_0 1 rfl) rfl hl (by decide) rfl (fun ls hl => ?_)
  refine lv_iconst (v := (0 : Int32)) hx hb (kd dtX12_heightBy_0 2 rfl) (by decide) ?_
  refine lv_istore_n (lv' := [(3, .int (0 : Int32)), (2, .int (-4 : Int32)), (0, .ref h0), (1, .int x1)]) hx hb (kd dtX12_heightBy_0 3 rfl) rfl hl (by decide) rfl (fun ls hl => ?_)
  have hL5 : ∀ (n : Nat) (k : Int32 → Int32 → rW → Option (Int32 × rW)), ∀ (z2_5 : Int32) (z3_5 : Int32) (w_5 : rW) (H : Heap) (locs : List Loc) (ls : Array Slot), kX D aC (rWo h0 wB w) s.heap (rWo h0 wB w_5) H locs → lv_has ls 6 [(0, .ref h0), (1, .int x1), (2, .int z2_5), (3, .int z3_5)] → fX12_heightBy_L5 x1 n k z2_5 z3_5 w_5 = some (oR, wR) → (∀ (z2_5 : Int32) (z3_5 : Int32) (w_5 : rW) (H : Heap) (locs : List Loc) (ls : Array Slot), kX D aC (rWo h0 wB w) s.heap (rWo h0 wB w_5) H locs → lv_has ls 6 [(0, .ref h0), (1, .int x1), (2, .int z2_5), (3, .int z3_5)] → k z2_5 z3_5 w_5 = some (oR, wR) → W p l e { frames := 806, cells := 0, slots := 0, locals := 18925 } s m ([.ref h0, .int x1] : List Value).toArray below meth c H locs 0 0 (MQ below (kQc D aC (rWo h0 wB w) (some (.int oR)) (rWo h0 wB wR)) ([.ref h0, .int x1] : List Value).toArray s 0 0 (kA (rWo h0 wB w))) (F0 m 186 ls [])) → W p l e { frames := 806, cells := 0, slots := 0, locals := 18925 } s m ([.ref h0, .int x1] : List Value).toArray below meth c H locs 0 0 (MQ below (kQc D aC (rWo h0 wB w) (some (.int oR)) (rWo h0 wB wR)) ([.ref h0, .int x1] : List Value).toArray s 0 0 (kA (rWo h0 wB w))) (F0 m 5 ls []) := by
    intro n k
    induction n with
    | zero =>
      intro z2_5 z3_5 w_5 H locs ls hX hl hf hk
      rw [fX12_heightBy_L5] at hf
      cases hf
    | succ n ih =>
      intro z2_5 z3_5 w_5 H locs ls hX hl hf hk
      have hJ5_74 : ∀ (j2_74 : Int32) (j3_74 : Int32) (w_j74 : rW) (H : Heap) (locs : List Loc) (ls : Array Slot), kX D aC (rWo h0 wB w) s.heap (rWo h0 wB w_j74) H locs → lv_has ls 6 [(0, .ref h0), (1, .int x1), (2, .int j2_74), (3, .int j3_74)] → fX12_heightBy_J5_74 (fun q2 q3 qw => fX12_heightBy_L5 x1 n k q2 q3 qw) k x1 j2_74 j3_74 w_j74 = some (oR, wR) → W p l e { frames := 806, cells := 0, slots := 0, locals := 18925 } s m ([.ref h0, .int x1] : List Value).toArray below meth c H locs 0 0 (MQ below (kQc D aC (rWo h0 wB w) (some (.int oR)) (rWo h0 wB wR)) ([.ref h0, .int x1] : List Value).toArray s 0 0 (kA (rWo h0 wB w))) (F0 m 74 ls []) := by
        intro j2_74 j3_74 w_j74 H locs ls hX hl hf
        rw [fX12_heightBy_J5_74] at hf
        refine lv_iconst (v := (0 : Int32)) hx hb (kd dtX12_heightBy_0 47 rfl) (by decide) ?_
        refine lv_istore (lv' := [(4, .int (0 : Int32)), (0, .ref h0), (1, .int x1), (2, .int j2_74), (3, .int j3_74)]) hx hb (kd dtX12_heightBy_0 48 rfl) hl (by decide) rfl (fun ls hl => ?_)
        have hL77 : ∀ (n : Nat) (k : Int32 → Int32 → rW → Option (Int32 × rW)), ∀ (z2_77 : Int32) (z4_77 : Int32) (w_77 : rW) (H : Heap) (locs : List Loc) (ls : Array Slot), kX D aC (rWo h0 wB w) s.heap (rWo h0 wB w_77) H locs → lv_has ls 6 [(0, .ref h0), (1, .int x1), (2, .int z2_77), (3, .int j3_74), (4, .int z4_77)] → fX12_heightBy_L77 x1 j3_74 n k z2_77 z4_77 w_77 = some (oR, wR) → (∀ (z2_77 : Int32) (z4_77 : Int32) (w_77 : rW) (H : Heap) (locs : List Loc) (ls : Array Slot), kX D aC (rWo h0 wB w) s.heap (rWo h0 wB w_77) H locs → lv_has ls 6 [(0, .ref h0), (1, .int x1), (2, .int z2_77), (3, .int j3_74), (4, .int z4_77)] → k z2_77 z4_77 w_77 = some (oR, wR) → W p l e { frames := 806, cells := 0, slots := 0, locals := 18925 } s m ([.ref h0, .int x1] : List Value).toArray below meth c H locs 0 0 (MQ below (kQc D aC (rWo h0 wB w) (some (.int oR)) (rWo h0 wB wR)) ([.ref h0, .int x1] : List Value).toArray s 0 0 (kA (rWo h0 wB w))) (F0 m 180 ls [])) → W p l e { frames := 806, cells := 0, slots := 0, locals := 18925 } s m ([.ref h0, .int x1] : List Value).toArray below meth c H locs 0 0 (MQ below (kQc D aC (rWo h0 wB w) (some (.int oR)) (rWo h0 wB wR)) ([.ref h0, .int x1] : List Value).toArray s 0 0 (kA (rWo h0 wB w))) (F0 m 77 ls []) := by
          intro n k
          induction n with
          | zero =>
            intro z2_77 z4_77 w_77 H locs ls hX hl hf hk
            rw [fX12_heightBy_L77] at hf
            cases hf
          | succ n ih =>
            intro z2_77 z4_77 w_77 H locs ls hX hl hf hk
            have hJ77_147 : ∀ (j2_147 : Int32) (j4_147 : Int32) (j5_147 : Int32) (w_j147 : rW) (H : Heap) (locs : List Loc) (ls : Array Slot), kX D aC (rWo h0 wB w) s.heap (rWo h0 wB w_j147) H locs → lv_has ls 6 [(0, .ref h0), (1, .int x1), (2, .int j2_147), (3, .int j3_74), (4, .int j4_147), (5, .int j5_147)] → fX12_heightBy_J77_147 (fun q2 q4 qw => fX12_heightBy_L77 x1 j3_74 n k q2 q4 qw) k x1 j2_147 j3_74 j4_147 j5_147 w_j147 = some (oR, wR) → W p l e { frames := 806, cells := 0, slots := 0, locals := 18925 } s m ([.ref h0, .int x1] : List Value).toArray below meth c H locs 0 0 (MQ below (kQc D aC (rWo h0 wB w) (some (.int oR)) (rWo h0 wB wR)) ([.ref h0, .int x1] : List Value).toArray s 0 0 (kA (rWo h0 wB w))) (F0 m 147 ls []) := by
              intro j2_147 j4_147 j5_147 w_j147 H locs ls hX hl hf
              rw [fX12_heightBy_J77_147] at hf
              refine lv_aload_n hx hb (kd dtX12_heightBy_1 7 rfl) rfl (lv_at hl 0 rfl) ?_
              refine lv_iload_n hx hb (kd dtX12_heightBy_1 8 rfl) rfl (lv_at hl 1 rfl) ?_
              refine lv_iconst (v := (1 : Int32)) hx hb (kd dtX12_heightBy_1 9 rfl) (by decide) ?_
              refine lv_iload_n hx hb (kd dtX12_heightBy_1 10 rfl) rfl (lv_at hl 3 rfl) ?_
              refine lv_iload hx hb (kd dtX12_heightBy_1 11 rfl) (lv_at hl 4 rfl) ?_
              obtain ⟨v25, w23, h24, hf⟩ := kbind2 hf
              refine kcallV (n := 4) [.int x1, .int (1 : Int32), .int j3_74, .int j4_147] [] [.int v25] (rX12_isStep l D aC hB h24) rfl hB.1 F hml hX hZ hl.1 mwX12_isStep wmX12_210 rfl (by decide) (by decide +kernel) ⟨(by decide), (by decide)⟩ rfl rfl rfl (Nat.le_of_ble_eq_true rfl) (kd dtX12_heightBy_1 12 rfl) ⟨Nat.zero_le _, Nat.zero_le _⟩ (fun H locs hX => ?_)
              refine lv_if_ne (tgt := 171) hx hb (kd dtX12_heightBy_1 13 rfl) (by decide) (fun hc => ?_) (fun hc => ?_)
              · have hf := kif_neg hc hf
                refine lv_iload hx hb (kd dtX12_heightBy_1 21 rfl) (lv_at hl 5 rfl) ?_
                refine lv_istore_n (lv' := [(2, .int j5_147), (0, .ref h0), (1, .int x1), (3, .int j3_74), (4, .int j4_147), (5, .int j5_147)]) hx hb (kd dtX12_heightBy_1 22 rfl) rfl hl (by decide) rfl (fun ls hl => ?_)
                refine lv_iinc (v := j4_147 + (1 : Int32)) (lv' := [(4, .int (j4_147 + (1 : Int32))), (2, .int j5_147), (0, .ref h0), (1, .int x1), (3, .int j3_74), (5, .int j5_147)]) hx hb (kd dtX12_heightBy_1 23 rfl) hl (k := 4) rfl (by rfl) (by decide) rfl (fun ls hl => ?_)
                refine lv_goto (tgt := 77) hx hb (kd dtX12_heightBy_1 24 rfl) (by decide) ?_
                exact ih j5_147 (j4_147 + (1 : Int32)) w23 _ _ _ hX (lv_sub hl [2, 3, 1, 4, 0] rfl) hf hk
              · have hf := kif_pos hc hf
                refine lv_aload_n hx hb (kd dtX12_heightBy_1 14 rfl) rfl (lv_at hl 0 rfl) ?_
                refine lv_iload_n hx hb (kd dtX12_heightBy_1 15 rfl) rfl (lv_at hl 1 rfl) ?_
                refine lv_iconst (v := (2 : Int32)) hx hb (kd dtX12_heightBy_1 16 rfl) (by decide) ?_
                refine lv_iload_n hx hb (kd dtX12_heightBy_1 17 rfl) rfl (lv_at hl 3 rfl) ?_
                refine lv_iload hx hb (kd dtX12_heightBy_1 18 rfl) (lv_at hl 4 rfl) ?_
                obtain ⟨v28, w26, h27, hf⟩ := kbind2 hf
                refine kcallV (n := 4) [.int x1, .int (2 : Int32), .int j3_74, .int j4_147] [] [.int v28] (rX12_isStep l D aC hB h27) rfl hB.1 F hml hX hZ hl.1 mwX12_isStep wmX12_210 rfl (by decide) (by decide +kernel) ⟨(by decide), (by decide)⟩ rfl rfl rfl (Nat.le_of_ble_eq_true rfl) (kd dtX12_heightBy_1 19 rfl) ⟨Nat.zero_le _, Nat.zero_le _⟩ (fun H locs hX => ?_)
                refine lv_if_eq (tgt := 174) hx hb (kd dtX12_heightBy_1 20 rfl) (by decide) (fun hc => ?_) (fun hc => ?_)
                · have hf := kif_pos hc hf
                  refine lv_iinc (v := j4_147 + (1 : Int32)) (lv' := [(4, .int (j4_147 + (1 : Int32))), (0, .ref h0), (1, .int x1), (2, .int j2_147), (3, .int j3_74), (5, .int j5_147)]) hx hb (kd dtX12_heightBy_1 23 rfl) hl (k := 4) rfl (by rfl) (by decide) rfl (fun ls hl => ?_)
                  refine lv_goto (tgt := 77) hx hb (kd dtX12_heightBy_1 24 rfl) (by decide) ?_
                  exact ih j2_147 (j4_147 + (1 : Int32)) w26 _ _ _ hX (lv_sub hl [1, 2, 3, 4, 0] rfl) hf hk
                · have hf := kif_neg hc hf
                  refine lv_iload hx hb (kd dtX12_heightBy_1 21 rfl) (lv_at hl 5 rfl) ?_
                  refine lv_istore_n (lv' := [(2, .int j5_147), (0, .ref h0), (1, .int x1), (3, .int j3_74), (4, .int j4_147), (5, .int j5_147)]) hx hb (kd dtX12_heightBy_1 22 rfl) rfl hl (by decide) rfl (fun ls hl => ?_)
                  refine lv_iinc (v := j4_147 + (1 : Int32)) (lv' := [(4, .int (j4_147 + (1 : Int32))), (2, .int j5_147), (0, .ref h0), (1, .int x1), (3, .int j3_74), (5, .int j5_147)]) hx hb (kd dtX12_heightBy_1 23 rfl) hl (k := 4) rfl (by rfl) (by decide) rfl (fun ls hl => ?_)
                  refine lv_goto (tgt := 77) hx hb (kd dtX12_heightBy_1 24 rfl) (by decide) ?_
                  exact ih j5_147 (j4_147 + (1 : Int32)) w26 _ _ _ hX (lv_sub hl [2, 3, 1, 4, 0] rfl) hf hk
            have hJ77_134 : ∀ (j2_134 : Int32) (j4_134 : Int32) (t0_134 : Int32) (t1_134 : Int32) (w_j134 : rW) (H : Heap) (locs : List Loc) (ls : Array Slot), kX D aC (rWo h0 wB w) s.heap (rWo h0 wB w_j134) H locs → lv_has ls 6 [(0, .ref h0), (1, .int x1), (2, .int j2_134), (3, .int j3_74), (4, .int j4_134)] → fX12_heightBy_J77_134 (fun q2 q4 qw => fX12_heightBy_L77 x1 j3_74 n k q2 q4 qw) k x1 j2_134 j3_74 j4_134 t0_134 t1_134 w_j134 = some (oR, wR) → W p l e { frames := 806, cells := 0, slots := 0, locals := 18925 } s m ([.ref h0, .int x1] : List Value).toArray below meth c H locs 0 0 (MQ below (kQc D aC (rWo h0 wB w) (some (.int oR)) (rWo h0 wB wR)) ([.ref h0, .int x1] : List Value).toArray s 0 0 (kA (rWo h0 wB w))) (F0 m 134 ls [.int t1_134, .int t0_134]) := by
              intro j2_134 j4_134 t0_134 t1_134 w_j134 H locs ls hX hl hf
              rw [fX12_heightBy_J77_134] at hf
              refine lv_iadd hx hb (kd dtX12_heightBy_1 0 rfl) ?_
              refine lv_istore (lv' := [(5, .int (t0_134 + t1_134)), (0, .ref h0), (1, .int x1), (2, .int j2_134), (3, .int j3_74), (4, .int j4_134)]) hx hb (kd dtX12_heightBy_1 1 rfl) hl (by decide) rfl (fun ls hl => ?_)
              refine lv_iload_n hx hb (kd dtX12_heightBy_1 2 rfl) rfl (lv_at hl 3 rfl) ?_
              refine lv_if_lt (tgt := 147) hx hb (kd dtX12_heightBy_1 3 rfl) (by decide) (fun hc => ?_) (fun hc => ?_)
              · have hf := kif_pos hc hf
                exact hJ77_147 j2_134 j4_134 (t0_134 + t1_134) w_j134 _ _ _ hX (lv_sub hl [1, 2, 3, 4, 5, 0] rfl) hf
              · have hf := kif_neg hc hf
                refine lv_iload hx hb (kd dtX12_heightBy_1 4 rfl) (lv_at hl 0 rfl) ?_
                refine lv_iload_n hx hb (kd dtX12_heightBy_1 5 rfl) rfl (lv_at hl 3 rfl) ?_
                refine lv_icmp_ge (tgt := 174) hx hb (kd dtX12_heightBy_1 6 rfl) (by decide) (fun hc => ?_) (fun hc => ?_)
                · have hf := kif_pos hc hf
                  refine lv_iinc (v := j4_134 + (1 : Int32)) (lv' := [(4, .int (j4_134 + (1 : Int32))), (5, .int (t0_134 + t1_134)), (0, .ref h0), (1, .int x1), (2, .int j2_134), (3, .int j3_74)]) hx hb (kd dtX12_heightBy_1 23 rfl) hl (k := 5) rfl (by rfl) (by decide) rfl (fun ls hl => ?_)
                  refine lv_goto (tgt := 77) hx hb (kd dtX12_heightBy_1 24 rfl) (by decide) ?_
                  exact ih j2_134 (j4_134 + (1 : Int32)) w_j134 _ _ _ hX (lv_sub hl [2, 3, 4, 5, 0] rfl) hf hk
                · have hf := kif_neg hc hf
                  exact hJ77_147 j2_134 j4_134 (t0_134 + t1_134) w_j134 _ _ _ hX (lv_sub hl [1, 2, 3, 4, 5, 0] rfl) hf
            rw [fX12_heightBy_L77] at hf
            refine lv_iload hx hb (kd dtX12_heightBy_0 49 rfl) (lv_at hl 4 rfl) ?_
            refine lv_aload_n hx hb (kd dtX12_heightBy_0 50 rfl) rfl (lv_at hl 0 rfl) ?_
            refine rgetA (n := 2) (j := 2) hB (by decide) rfl F hX wfX12_16 (by decide) rfl (kd dtX12_heightBy_0 51 rfl) ?_
            refine lv_iconst (v := (0 : Int32)) hx hb (kd dtX12_heightBy_0 52 rfl) (by decide) ?_
            obtain ⟨v17, hv17, hf⟩ := kbind hf
            refine rald hB (by decide) hv17 F hX (kd dtX12_heightBy_0 53 rfl) ?_
            refine lv_icmp_ge (tgt := 180) hx hb (kd dtX12_heightBy_0 54 rfl) (by decide) (fun hc => ?_) (fun hc => ?_)
            · have hf := kif_pos hc hf
              exact hk z2_77 z4_77 w_77 _ _ _ hX hl hf
            · have hf := kif_neg hc hf
              refine lv_aload_n hx hb (kd dtX12_heightBy_0 55 rfl) rfl (lv_at hl 0 rfl) ?_
              refine rgetA (n := 16) (j := 38) hB (by decide) rfl F hX wfX12_58 (by decide) rfl (kd dtX12_heightBy_0 56 rfl) ?_
              refine lv_iload hx hb (kd dtX12_heightBy_0 57 rfl) (lv_at hl 4 rfl) ?_
              obtain ⟨v18, hv18, hf⟩ := kbind hf
              refine rald hB (by decide) hv18 F hX (kd dtX12_heightBy_0 58 rfl) ?_
              refine lv_if_ge (tgt := 101) hx hb (kd dtX12_heightBy_0 59 rfl) (by decide) (fun hc => ?_) (fun hc => ?_)
              · have hf := kif_pos hc hf
                refine lv_iconst (v := (1 : Int32)) hx hb (kd dtX12_heightBy_0 61 rfl) (by decide) ?_
                refine lv_aload_n hx hb (kd dtX12_heightBy_0 62 rfl) rfl (lv_at hl 0 rfl) ?_
                refine rgetA (n := 16) (j := 38) hB (by decide) rfl F hX wfX12_58 (by decide) rfl (kd dtX12_heightBy_0 63 rfl) ?_
                refine lv_iload_n hx hb (kd dtX12_heightBy_0 64 rfl) rfl (lv_at hl 3 rfl) ?_
                obtain ⟨v19, hv19, hf⟩ := kbind hf
                refine rald hB (by decide) hv19 F hX (kd dtX12_heightBy_0 65 rfl) ?_
                refine lv_aload_n hx hb (kd dtX12_heightBy_0 66 rfl) rfl (lv_at hl 0 rfl) ?_
                refine rgetA (n := 16) (j := 38) hB (by decide) rfl F hX wfX12_58 (by decide) rfl (kd dtX12_heightBy_0 67 rfl) ?_
                refine lv_iload hx hb (kd dtX12_heightBy_0 68 rfl) (lv_at hl 4 rfl) ?_
                obtain ⟨v20, hv20, hf⟩ := kbind hf
                refine rald hB (by decide) hv20 F hX (kd dtX12_heightBy_0 69 rfl) ?_
                refine lv_icmp_le (tgt := 127) hx hb (kd dtX12_heightBy_0 70 rfl) (by decide) (fun hc => ?_) (fun hc => ?_)
                · have hf := kif_pos hc hf
                  refine lv_aload_n hx hb (kd dtX12_heightBy_0 76 rfl) rfl (lv_at hl 0 rfl) ?_
                  refine rgetA (n := 16) (j := 38) hB (by decide) rfl F hX wfX12_58 (by decide) rfl (kd dtX12_heightBy_0 77 rfl) ?_
                  refine lv_iload hx hb (kd dtX12_heightBy_0 78 rfl) (lv_at hl 4 rfl) ?_
                  obtain ⟨v21, hv21, hf⟩ := kbind hf
                  refine rald hB (by decide) hv21 F hX (kd dtX12_heightBy_0 79 rfl) ?_
                  exact hJ77_134 z2_77 z4_77 (1 : Int32) v21 w_77 _ _ _ hX hl hf
                · have hf := kif_neg hc hf
                  refine lv_aload_n hx hb (kd dtX12_heightBy_0 71 rfl) rfl (lv_at hl 0 rfl) ?_
                  refine rgetA (n := 16) (j := 38) hB (by decide) rfl F hX wfX12_58 (by decide) rfl (kd dtX12_heightBy_0 72 rfl) ?_
                  refine lv_iload_n hx hb (kd dtX12_heightBy_0 73 rfl) rfl (lv_at hl 3 rfl) ?_
                  obtain ⟨v22, hv22, hf⟩ := kbind hf
                  refine rald hB (by decide) hv22 F hX (kd dtX12_heightBy_0 74 rfl) ?_
                  refine lv_goto (tgt := 134) hx hb (kd dtX12_heightBy_0 75 rfl) (by decide) ?_
                  exact hJ77_134 z2_77 z4_77 (1 : Int32) v22 w_77 _ _ _ hX hl hf
              · have hf := kif_neg hc hf
                refine lv_goto (tgt := 174) hx hb (kd dtX12_heightBy_0 60 rfl) (by decide) ?_
                refine lv_iinc (v := z4_77 + (1 : Int32)) (lv' := [(4, .int (z4_77 + (1 : Int32))), (0, .ref h0), (1, .int x1), (2, .int z2_77), (3, .int j3_74)]) hx hb (kd dtX12_heightBy_1 23 rfl) hl (k := 4) rfl (by rfl) (by decide) rfl (fun ls hl => ?_)
                refine lv_goto (tgt := 77) hx hb (kd dtX12_heightBy_1 24 rfl) (by decide) ?_
                exact ih z2_77 (z4_77 + (1 : Int32)) w_77 _ _ _ hX (lv_sub hl [1, 2, 3, 4, 0] rfl) hf hk
        refine hL77 kFU _ j2_74 (0 : Int32) w_j74 _ _ _ hX (lv_sub hl [1, 2, 3, 4, 0] rfl) hf ?_
        intro y2_14 y4_15 w16 H locs ls hX hl hf
        refine lv_iinc (v := j3_74 + (1 : Int32)) (lv' := [(3, .int (j3_74 + (1 : Int32))), (0, .ref h0), (1, .int x1), (2, .int y2_14), (4, .int y4_15)]) hx hb (kd dtX12_heightBy_1 25 rfl) hl (k := 3) rfl (by rfl) (by decide) rfl (fun ls hl => ?_)
        refine lv_goto (tgt := 5) hx hb (kd dtX12_heightBy_1 26 rfl) (by decide) ?_
        exact ih y2_14 (j3_74 + (1 : Int32)) w16 _ _ _ hX (lv_sub hl [1, 2, 3, 0] rfl) hf hk
      have hJ5_65 : ∀ (j2_65 : Int32) (j3_65 : Int32) (w_j65 : rW) (H : Heap) (locs : List Loc) (ls : Array Slot), kX D aC (rWo h0 wB w) s.heap (rWo h0 wB w_j65) H locs → lv_has ls 6 [(0, .ref h0), (1, .int x1), (2, .int j2_65), (3, .int j3_65)] → fX12_heightBy_J5_65 (fun q2 q3 qw => fX12_heightBy_L5 x1 n k q2 q3 qw) k x1 j2_65 j3_65 w_j65 = some (oR, wR) → W p l e { frames := 806, cells := 0, slots := 0, locals := 18925 } s m ([.ref h0, .int x1] : List Value).toArray below meth c H locs 0 0 (MQ below (kQc D aC (rWo h0 wB w) (some (.int oR)) (rWo h0 wB wR)) ([.ref h0, .int x1] : List Value).toArray s 0 0 (kA (rWo h0 wB w))) (F0 m 65 ls []) := by
        intro j2_65 j3_65 w_j65 H locs ls hX hl hf
        rw [fX12_heightBy_J5_65] at hf
        refine lv_aload_n hx hb (kd dtX12_heightBy_0 40 rfl) rfl (lv_at hl 0 rfl) ?_
        refine rgetA (n := 16) (j := 38) hB (by decide) rfl F hX wfX12_58 (by decide) rfl (kd dtX12_heightBy_0 41 rfl) ?_
        refine lv_iload_n hx hb (kd dtX12_heightBy_0 42 rfl) rfl (lv_at hl 3 rfl) ?_
        obtain ⟨v13, hv13, hf⟩ := kbind hf
        refine rald hB (by decide) hv13 F hX (kd dtX12_heightBy_0 43 rfl) ?_
        refine lv_iconst (v := (1 : Int32)) hx hb (kd dtX12_heightBy_0 44 rfl) (by decide) ?_
        refine lv_iadd hx hb (kd dtX12_heightBy_0 45 rfl) ?_
        refine lv_istore_n (lv' := [(2, .int (v13 + (1 : Int32))), (0, .ref h0), (1, .int x1), (3, .int j3_65)]) hx hb (kd dtX12_heightBy_0 46 rfl) rfl hl (by decide) rfl (fun ls hl => ?_)
        exact hJ5_74 (v13 + (1 : Int32)) j3_65 w_j65 _ _ _ hX (lv_sub hl [1, 2, 0, 3] rfl) hf
      have hJ5_43 : ∀ (j2_43 : Int32) (j3_43 : Int32) (w_j43 : rW) (H : Heap) (locs : List Loc) (ls : Array Slot), kX D aC (rWo h0 wB w) s.heap (rWo h0 wB w_j43) H locs → lv_has ls 6 [(0, .ref h0), (1, .int x1), (2, .int j2_43), (3, .int j3_43)] → fX12_heightBy_J5_43 (fun q2 q3 qw => fX12_heightBy_L5 x1 n k q2 q3 qw) k x1 j2_43 j3_43 w_j43 = some (oR, wR) → W p l e { frames := 806, cells := 0, slots := 0, locals := 18925 } s m ([.ref h0, .int x1] : List Value).toArray below meth c H locs 0 0 (MQ below (kQc D aC (rWo h0 wB w) (some (.int oR)) (rWo h0 wB wR)) ([.ref h0, .int x1] : List Value).toArray s 0 0 (kA (rWo h0 wB w))) (F0 m 43 ls []) := by
        intro j2_43 j3_43 w_j43 H locs ls hX hl hf
        rw [fX12_heightBy_J5_43] at hf
        refine lv_aload_n hx hb (kd dtX12_heightBy_0 26 rfl) rfl (lv_at hl 0 rfl) ?_
        refine lv_iload_n hx hb (kd dtX12_heightBy_0 27 rfl) rfl (lv_at hl 1 rfl) ?_
        refine lv_iconst (v := (0 : Int32)) hx hb (kd dtX12_heightBy_0 28 rfl) (by decide) ?_
        refine lv_iload_n hx hb (kd dtX12_heightBy_0 29 rfl) rfl (lv_at hl 3 rfl) ?_
        refine lv_iconst (v := (0 : Int32)) hx hb (kd dtX12_heightBy_0 30 rfl) (by decide) ?_
        obtain ⟨v9, w7, h8, hf⟩ := kbind2 hf
        refine kcallV (n := 4) [.int x1, .int (0 : Int32), .int j3_43, .int (0 : Int32)] [] [.int v9] (rX12_isStep l D aC hB h8) rfl hB.1 F hml hX hZ hl.1 mwX12_isStep wmX12_210 rfl (by decide) (by decide +kernel) ⟨(by decide), (by decide)⟩ rfl rfl rfl (Nat.le_of_ble_eq_true rfl) (kd dtX12_heightBy_0 31 rfl) ⟨Nat.zero_le _, Nat.zero_le _⟩ (fun H locs hX => ?_)
        refine lv_if_ne (tgt := 65) hx hb (kd dtX12_heightBy_0 32 rfl) (by decide) (fun hc => ?_) (fun hc => ?_)
        · have hf := kif_neg hc hf
          exact hJ5_65 j2_43 j3_43 w7 _ _ _ hX hl hf
        · have hf := kif_pos hc hf
          refine lv_aload_n hx hb (kd dtX12_heightBy_0 33 rfl) rfl (lv_at hl 0 rfl) ?_
          refine lv_iload_n hx hb (kd dtX12_heightBy_0 34 rfl) rfl (lv_at hl 1 rfl) ?_
          refine lv_iconst (v := (3 : Int32)) hx hb (kd dtX12_heightBy_0 35 rfl) (by decide) ?_
          refine lv_iload_n hx hb (kd dtX12_heightBy_0 36 rfl) rfl (lv_at hl 3 rfl) ?_
          refine lv_iconst (v := (0 : Int32)) hx hb (kd dtX12_heightBy_0 37 rfl) (by decide) ?_
          obtain ⟨v12, w10, h11, hf⟩ := kbind2 hf
          refine kcallV (n := 4) [.int x1, .int (3 : Int32), .int j3_43, .int (0 : Int32)] [] [.int v12] (rX12_isStep l D aC hB h11) rfl hB.1 F hml hX hZ hl.1 mwX12_isStep wmX12_210 rfl (by decide) (by decide +kernel) ⟨(by decide), (by decide)⟩ rfl rfl rfl (Nat.le_of_ble_eq_true rfl) (kd dtX12_heightBy_0 38 rfl) ⟨Nat.zero_le _, Nat.zero_le _⟩ (fun H locs hX => ?_)
          refine lv_if_eq (tgt := 74) hx hb (kd dtX12_heightBy_0 39 rfl) (by decide) (fun hc => ?_) (fun hc => ?_)
          · have hf := kif_pos hc hf
            exact hJ5_74 j2_43 j3_43 w10 _ _ _ hX hl hf
          · have hf := kif_neg hc hf
            exact hJ5_65 j2_43 j3_43 w10 _ _ _ hX hl hf
      rw [fX12_heightBy_L5] at hf
      refine lv_iload_n hx hb (kd dtX12_heightBy_0 4 rfl) rfl (lv_at hl 3 rfl) ?_
      refine lv_aload_n hx hb (kd dtX12_heightBy_0 5 rfl) rfl (lv_at hl 0 rfl) ?_
      refine rgetA (n := 2) (j := 2) hB (by decide) rfl F hX wfX12_16 (by decide) rfl (kd dtX12_heightBy_0 6 rfl) ?_
      refine lv_iconst (v := (0 : Int32)) hx hb (kd dtX12_heightBy_0 7 rfl) (by decide) ?_
      obtain ⟨v4, hv4, hf⟩ := kbind hf
      refine rald hB (by decide) hv4 F hX (kd dtX12_heightBy_0 8 rfl) ?_
      refine lv_icmp_ge (tgt := 186) hx hb (kd dtX12_heightBy_0 9 rfl) (by decide) (fun hc => ?_) (fun hc => ?_)
      · have hf := kif_pos hc hf
        exact hk z2_5 z3_5 w_5 _ _ _ hX hl hf
      · have hf := kif_neg hc hf
        refine lv_aload_n hx hb (kd dtX12_heightBy_0 10 rfl) rfl (lv_at hl 0 rfl) ?_
        refine rgetA (n := 16) (j := 38) hB (by decide) rfl F hX wfX12_58 (by decide) rfl (kd dtX12_heightBy_0 11 rfl) ?_
        refine lv_iload_n hx hb (kd dtX12_heightBy_0 12 rfl) rfl (lv_at hl 3 rfl) ?_
        obtain ⟨v5, hv5, hf⟩ := kbind hf
        refine rald hB (by decide) hv5 F hX (kd dtX12_heightBy_0 13 rfl) ?_
        refine lv_if_ge (tgt := 27) hx hb (kd dtX12_heightBy_0 14 rfl) (by decide) (fun hc => ?_) (fun hc => ?_)
        · have hf := kif_pos hc hf
          refine lv_iload_n hx hb (kd dtX12_heightBy_0 16 rfl) rfl (lv_at hl 2 rfl) ?_
          refine lv_if_lt (tgt := 43) hx hb (kd dtX12_heightBy_0 17 rfl) (by decide) (fun hc => ?_) (fun hc => ?_)
          · have hf := kif_pos hc hf
            exact hJ5_43 z2_5 z3_5 w_5 _ _ _ hX hl hf
          · have hf := kif_neg hc hf
            refine lv_aload_n hx hb (kd dtX12_heightBy_0 18 rfl) rfl (lv_at hl 0 rfl) ?_
            refine rgetA (n := 16) (j := 38) hB (by decide) rfl F hX wfX12_58 (by decide) rfl (kd dtX12_heightBy_0 19 rfl) ?_
            refine lv_iload_n hx hb (kd dtX12_heightBy_0 20 rfl) rfl (lv_at hl 3 rfl) ?_
            obtain ⟨v6, hv6, hf⟩ := kbind hf
            refine rald hB (by decide) hv6 F hX (kd dtX12_heightBy_0 21 rfl) ?_
            refine lv_iconst (v := (1 : Int32)) hx hb (kd dtX12_heightBy_0 22 rfl) (by decide) ?_
            refine lv_iadd hx hb (kd dtX12_heightBy_0 23 rfl) ?_
            refine lv_iload_n hx hb (kd dtX12_heightBy_0 24 rfl) rfl (lv_at hl 2 rfl) ?_
            refine lv_icmp_ge (tgt := 74) hx hb (kd dtX12_heightBy_0 25 rfl) (by decide) (fun hc => ?_) (fun hc => ?_)
            · have hf := kif_pos hc hf
              exact hJ5_74 z2_5 z3_5 w_5 _ _ _ hX hl hf
            · have hf := kif_neg hc hf
              exact hJ5_43 z2_5 z3_5 w_5 _ _ _ hX hl hf
        · have hf := kif_neg hc hf
          refine lv_goto (tgt := 180) hx hb (kd dtX12_heightBy_0 15 rfl) (by decide) ?_
          refine lv_iinc (v := z3_5 + (1 : Int32)) (lv' := [(3, .int (z3_5 + (1 : Int32))), (0, .ref h0), (1, .int x1), (2, .int z2_5)]) hx hb (kd dtX12_heightBy_1 25 rfl) hl (k := 3) rfl (by rfl) (by decide) rfl (fun ls hl => ?_)
          refine lv_goto (tgt := 5) hx hb (kd dtX12_heightBy_1 26 rfl) (by decide) ?_
          exact ih z2_5 (z3_5 + (1 : Int32)) w_5 _ _ _ hX (lv_sub hl [1, 2, 3, 0] rfl) hf hk
  refine hL5 kFU _ (-4 : Int32) (0 : Int32) w _ _ _ hX (lv_sub hl [2, 3, 1, 0] rfl) hf ?_
  intro y2_1 y3_2 w3 H locs ls hX hl hf
  refine lv_iload_n hx hb (kd dtX12_heightBy_1 27 rfl) rfl (lv_at hl 2 rfl) ?_
  obtain ⟨rfl, rfl⟩ := Prod.mk.inj (Option.some.inj hf)
  exact kiret F hX hr hlocks rfl (kd dtX12_heightBy_1 28 rfl)
theorem wmX12_316 : Cond.methodLink RX12 316 yX12_heightBy ∈ kT := kTm 1648 (by decide +kernel) rfl
theorem mwX12_heightBy : kMV RX12 yX12_heightBy cX12_heightBy 6 (some .int) := ⟨kTm 1651 (by decide +kernel) rfl, kTm 106 (by decide +kernel) rfl, kTm 1650 (by decide +kernel) rfl, kTm 87 (by decide +kernel) rfl⟩
def lX12_findHeights_0 : List (Nat × Instr × Nat) := [(0, .iconst 0, 1), (1, .istore_n 1, 1), (2, .iload_n 1, 1), (3, .aload_n 0, 1), (4, .getfield 16, 3), (7, .iconst 0, 1), (8, .iaload, 1), (9, .if_icmp .ge 34, 3), (12, .aload_n 0, 1), (13, .getfield 58, 3), (16, .iload_n 1, 1), (17, .aload_n 0, 1), (18, .getfield 16, 3), (21, .bipush 43, 2), (23, .iload_n 1, 1), (24, .iadd, 1), (25, .iaload, 1), (26, .iconst 1, 1), (27, .if_icmp .ne 7, 3), (30, .iconst 0, 1), (31, .goto 5, 3), (34, .bipush (-4), 2), (36, .iastore, 1), (37, .iinc 1 1, 3), (40, .goto (-38), 3), (43, .iconst 1, 1), (44, .istore_n 1, 1), (45, .iload_n 1, 1), (46, .ifCond .eq 71, 3), (49, .iconst 0, 1), (50, .istore_n 1, 1), (51, .iconst 0, 1), (52, .istore_n 2, 1), (53, .iload_n 2, 1), (54, .aload_n 0, 1), (55, .getfield 16, 3), (58, .iconst 0, 1), (59, .iaload, 1), (60, .if_icmp .ge 54, 3), (63, .aload_n 0, 1), (64, .getfield 58, 3), (67, .iload_n 2, 1), (68, .iaload, 1), (69, .ifCond .ne 6, 3), (72, .goto 36, 3), (75, .aload_n 0, 1), (76, .iload_n 2, 1), (77, .invokevirtual 316, 3), (80, .istore_n 3, 1), (81, .iload_n 1, 1), (82, .ifCond .ne 13, 3), (85, .iload_n 3, 1), (86, .aload_n 0, 1), (87, .getfield 58, 3), (90, .iload_n 2, 1), (91, .iaload, 1), (92, .if_icmp .eq 7, 3), (95, .iconst 1, 1), (96, .goto 4, 3), (99, .iconst 0, 1), (100, .istore_n 1, 1), (101, .aload_n 0, 1), (102, .getfield 58, 3), (105, .iload_n 2, 1), (106, .iload_n 3, 1), (107, .iastore, 1), (108, .iinc 2 1, 3), (111, .goto (-58), 3), (114, .goto (-69), 3), (117, .return_, 1)]
theorem dtX12_findHeights_0 : kDec cX12_findHeights lX12_findHeights_0 = true := by decide +kernel
noncomputable def fX12_findHeights_L2  : Nat → (Int32 → rW → Option rW) → Int32 → rW → Option rW
  | 0, _, _, _ => none
  | n + 1, k, x1, w =>
  (raI w 2 1000 (0 : Int32)).bind fun v1 =>
  if v1 ≤ x1 then
  k x1 w
  else
  (raI w 2 1000 ((43 : Int32) + x1)).bind fun v2 =>
  if v2 = (1 : Int32) then
  (rsI w 16 40 x1 (0 : Int32)).bind fun w4 =>
  fX12_findHeights_L2 n k (x1 + (1 : Int32)) w4
  else
  (rsI w 16 40 x1 (-4 : Int32)).bind fun w3 =>
  fX12_findHeights_L2 n k (x1 + (1 : Int32)) w3

noncomputable def fX12_findHeights_J53_100 (b k : Int32 → Int32 → rW → Option rW) (x1 : Int32) (x2 : Int32) (x3 : Int32) (s0 : Int32) (w : rW) : Option rW :=
  (rsI w 16 40 x2 x3).bind fun w1 =>
  b s0 (x2 + (1 : Int32)) w1

noncomputable def fX12_findHeights_J53_95 (b k : Int32 → Int32 → rW → Option rW) (x1 : Int32) (x2 : Int32) (x3 : Int32) (w : rW) : Option rW :=
  fX12_findHeights_J53_100 b k x1 x2 x3 (1 : Int32) w

noncomputable def fX12_findHeights_L53  : Nat → (Int32 → Int32 → rW → Option rW) → Int32 → Int32 → rW → Option rW
  | 0, _, _, _, _ => none
  | n + 1, k, x1, x2, w =>
  (raI w 2 1000 (0 : Int32)).bind fun v1 =>
  if v1 ≤ x2 then
  k x1 x2 w
  else
  (raI w 16 40 x2).bind fun v2 =>
  if v2 = 0 then
  fX12_findHeights_L53 n k x1 (x2 + (1 : Int32)) w
  else
  kb2 (fX12_heightBy x2 w) fun v5 w3 =>
  if x1 = 0 then
  (raI w3 16 40 x2).bind fun v6 =>
  if v5 = v6 then
  fX12_findHeights_J53_100 (fun q1 q2 qw => fX12_findHeights_L53 n k q1 q2 qw) k x1 x2 v5 (0 : Int32) w3
  else
  fX12_findHeights_J53_95 (fun q1 q2 qw => fX12_findHeights_L53 n k q1 q2 qw) k x1 x2 v5 w3
  else
  fX12_findHeights_J53_95 (fun q1 q2 qw => fX12_findHeights_L53 n k q1 q2 qw) k x1 x2 v5 w3

noncomputable def fX12_findHeights_L45  : Nat → (Int32 → rW → Option rW) → Int32 → rW → Option rW
  | 0, _, _, _ => none
  | n + 1, k, x1, w =>
  if x1 = 0 then
  k x1 w
  else
  fX12_findHeights_L53 kFU (fun y1_1 y2_2 w3 => fX12_findHeights_L45 n k y1_1 w3) (0 : Int32) (0 : Int32) w

noncomputable def fX12_findHeights (w : rW) : Option rW :=
  fX12_findHeights_L2 kFU (fun y1_1 w2 => fX12_findHeights_L45 kFU (fun y1_3 w4 => some w4) (1 : Int32) w2) (0 : Int32) w

set_option maxHeartbeats 4000000 in
set_option maxRecDepth 100000 in
theorem rX12_findHeights (l : Launch) (D : va_G) (aC : Nat → ClassId) {h0 : Nat} {wB : kW} (hB : rOK h0 wB) {w : rW} {wR : rW} (h : fX12_findHeights w = some wR) : kC l D aC yX12_findHeights cX12_findHeights 4 none 807 18950 [.ref h0] (rWo h0 wB w) none (rWo h0 wB wR) 0 0 := by
  refine kOf (own := RX12) (by decide) rfl (Nat.le_of_ble_eq_true rfl) ?_
  intro p e s m below meth c ls F hml hr hlocks hnm hX hZ hl
  obtain ⟨hx, hb, hts, hown, hK⟩ := id F
  have hl : lv_has ls 4 [(0, .ref h0)] := hl
  have hf := h
  rw [fX12_findHeights] at hf
  refine lv_iconst (v := (0 : Int32)) hx hb (kd dtX12_findHeights_0 0 rfl) (by decide) ?_
  refine lv_istore_n (lv' := [(1, .int (0 : Int32)), (0, .ref h0)]) hx hb (kd dtX12_findHeights_0 1 rfl) rfl hl (by decide) rfl (fun ls hl => ?_)
  have hL2 : ∀ (n : Nat) (k : Int32 → rW → Option rW), ∀ (z1_2 : Int32) (w_2 : rW) (H : Heap) (locs : List Loc) (ls : Array Slot), kX D aC (rWo h0 wB w) s.heap (rWo h0 wB w_2) H locs → lv_has ls 4 [(0, .ref h0), (1, .int z1_2)] → fX12_findHeights_L2 n k z1_2 w_2 = some wR → (∀ (z1_2 : Int32) (w_2 : rW) (H : Heap) (locs : List Loc) (ls : Array Slot), kX D aC (rWo h0 wB w) s.heap (rWo h0 wB w_2) H locs → lv_has ls 4 [(0, .ref h0), (1, .int z1_2)] → k z1_2 w_2 = some wR → W p l e { frames := 807, cells := 0, slots := 0, locals := 18950 } s m ([.ref h0] : List Value).toArray below meth c H locs 0 0 (MQ below (kQc D aC (rWo h0 wB w) none (rWo h0 wB wR)) ([.ref h0] : List Value).toArray s 0 0 (kA (rWo h0 wB w))) (F0 m 43 ls [])) → W p l e { frames := 807, cells := 0, slots := 0, locals := 18950 } s m ([.ref h0] : List Value).toArray below meth c H locs 0 0 (MQ below (kQc D aC (rWo h0 wB w) none (rWo h0 wB wR)) ([.ref h0] : List Value).toArray s 0 0 (kA (rWo h0 wB w))) (F0 m 2 ls []) := by
    intro n k
    induction n with
    | zero =>
      intro z1_2 w_2 H locs ls hX hl hf hk
      rw [fX12_findHeights_L2] at hf
      cases hf
    | succ n ih =>
      intro z1_2 w_2 H locs ls hX hl hf hk
      rw [fX12_findHeights_L2] at hf
      refine lv_iload_n hx hb (kd dtX12_findHeights_0 2 rfl) rfl (lv_at hl 1 rfl) ?_
      refine lv_aload_n hx hb (kd dtX12_findHeights_0 3 rfl) rfl (lv_at hl 0 rfl) ?_
      refine rgetA (n := 2) (j := 2) hB (by decide) rfl F hX wfX12_16 (by decide) rfl (kd dtX12_findHeights_0 4 rfl) ?_
      refine lv_iconst (v := (0 : Int32)) hx hb (kd dtX12_findHeights_0 5 rfl) (by decide) ?_
      obtain ⟨v15, hv15, hf⟩ := kbind hf
      refine rald hB (by decide) hv15 F hX (kd dtX12_findHeights_0 6 rfl) ?_
      refine lv_icmp_ge (tgt := 43) hx hb (kd dtX12_findHeights_0 7 rfl) (by decide) (fun hc => ?_) (fun hc => ?_)
      · have hf := kif_pos hc hf
        exact hk z1_2 w_2 _ _ _ hX hl hf
      · have hf := kif_neg hc hf
        refine lv_aload_n hx hb (kd dtX12_findHeights_0 8 rfl) rfl (lv_at hl 0 rfl) ?_
        refine rgetA (n := 16) (j := 38) hB (by decide) rfl F hX wfX12_58 (by decide) rfl (kd dtX12_findHeights_0 9 rfl) ?_
        refine lv_iload_n hx hb (kd dtX12_findHeights_0 10 rfl) rfl (lv_at hl 1 rfl) ?_
        refine lv_aload_n hx hb (kd dtX12_findHeights_0 11 rfl) rfl (lv_at hl 0 rfl) ?_
        refine rgetA (n := 2) (j := 2) hB (by decide) rfl F hX wfX12_16 (by decide) rfl (kd dtX12_findHeights_0 12 rfl) ?_
        refine lv_bipush (v := (43 : Int32)) hx hb (kd dtX12_findHeights_0 13 rfl) (by decide) ?_
        refine lv_iload_n hx hb (kd dtX12_findHeights_0 14 rfl) rfl (lv_at hl 1 rfl) ?_
        refine lv_iadd hx hb (kd dtX12_findHeights_0 15 rfl) ?_
        obtain ⟨v16, hv16, hf⟩ := kbind hf
        refine rald hB (by decide) hv16 F hX (kd dtX12_findHeights_0 16 rfl) ?_
        refine lv_iconst (v := (1 : Int32)) hx hb (kd dtX12_findHeights_0 17 rfl) (by decide) ?_
        refine lv_icmp_ne (tgt := 34) hx hb (kd dtX12_findHeights_0 18 rfl) (by decide) (fun hc => ?_) (fun hc => ?_)
        · have hf := kif_neg hc hf
          refine lv_bipush (v := (-4 : Int32)) hx hb (kd dtX12_findHeights_0 21 rfl) (by decide) ?_
          obtain ⟨w17, hw17, hf⟩ := kbind hf
          refine rast hB (by decide) hw17 F hX (kd dtX12_findHeights_0 22 rfl) (fun H locs hX => ?_)
          refine lv_iinc (v := z1_2 + (1 : Int32)) (lv' := [(1, .int (z1_2 + (1 : Int32))), (0, .ref h0)]) hx hb (kd dtX12_findHeights_0 23 rfl) hl (k := 1) rfl (by rfl) (by decide) rfl (fun ls hl => ?_)
          refine lv_goto (tgt := 2) hx hb (kd dtX12_findHeights_0 24 rfl) (by decide) ?_
          exact ih (z1_2 + (1 : Int32)) w17 _ _ _ hX (lv_sub hl [1, 0] rfl) hf hk
        · have hf := kif_pos hc hf
          refine lv_iconst (v := (0 : Int32)) hx hb (kd dtX12_findHeights_0 19 rfl) (by decide) ?_
          refine lv_goto (tgt := 36) hx hb (kd dtX12_findHeights_0 20 rfl) (by decide) ?_
          obtain ⟨w18, hw18, hf⟩ := kbind hf
          refine rast hB (by decide) hw18 F hX (kd dtX12_findHeights_0 22 rfl) (fun H locs hX => ?_)
          refine lv_iinc (v := z1_2 + (1 : Int32)) (lv' := [(1, .int (z1_2 + (1 : Int32))), (0, .ref h0)]) hx hb (kd dtX12_findHeights_0 23 rfl) hl (k := 1) rfl (by rfl) (by decide) rfl (fun ls hl => ?_)
          refine lv_goto (tgt := 2) hx hb (kd dtX12_findHeights_0 24 rfl) (by decide) ?_
          exact ih (z1_2 + (1 : Int32)) w18 _ _ _ hX (lv_sub hl [1, 0] rfl) hf hk
  refine hL2 kFU _ (0 : Int32) w _ _ _ hX (lv_sub hl [1, 0] rfl) hf ?_
  intro y1_1 w2 H locs ls hX hl hf
  refine lv_iconst (v := (1 : Int32)) hx hb (kd dtX12_findHeights_0 25 rfl) (by decide) ?_
  refine lv_istore_n (lv' := [(1, .int (1 : Int32)), (0, .ref h0)]) hx hb (kd dtX12_findHeights_0 26 rfl) rfl hl (by decide) rfl (fun ls hl => ?_)
  have hL45 : ∀ (n : Nat) (k : Int32 → rW → Option rW), ∀ (z1_45 : Int32) (w_45 : rW) (H : Heap) (locs : List Loc) (ls : Array Slot), kX D aC (rWo h0 wB w) s.heap (rWo h0 wB w_45) H locs → lv_has ls 4 [(0, .ref h0), (1, .int z1_45)] → fX12_findHeights_L45 n k z1_45 w_45 = some wR → (∀ (z1_45 : Int32) (w_45 : rW) (H : Heap) (locs : List Loc) (ls : Array Slot), kX D aC (rWo h0 wB w) s.heap (rWo h0 wB w_45) H locs → lv_has ls 4 [(0, .ref h0), (1, .int z1_45)] → k z1_45 w_45 = some wR → W p l e { frames := 807, cells := 0, slots := 0, locals := 18950 } s m ([.ref h0] : List Value).toArray below meth c H locs 0 0 (MQ below (kQc D aC (rWo h0 wB w) none (rWo h0 wB wR)) ([.ref h0] : List Value).toArray s 0 0 (kA (rWo h0 wB w))) (F0 m 117 ls [])) → W p l e { frames := 807, cells := 0, slots := 0, locals := 18950 } s m ([.ref h0] : List Value).toArray below meth c H locs 0 0 (MQ below (kQc D aC (rWo h0 wB w) none (rWo h0 wB wR)) ([.ref h0] : List Value).toArray s 0 0 (kA (rWo h0 wB w))) (F0 m 45 ls []) := by
    intro n k
    induction n with
    | zero =>
      intro z1_45 w_45 H locs ls hX hl hf hk
      rw [fX12_findHeights_L45] at hf
      cases hf
    | succ n ih =>
      intro z1_45 w_45 H locs ls hX hl hf hk
      rw [fX12_findHeights_L45] at hf
      refine lv_iload_n hx hb (kd dtX12_findHeights_0 27 rfl) rfl (lv_at hl 1 rfl) ?_
      refine lv_if_eq (tgt := 117) hx hb (kd dtX12_findHeights_0 28 rfl) (by decide) (fun hc => ?_) (fun hc => ?_)
      · have hf := kif_pos hc hf
        exact hk z1_45 w_45 _ _ _ hX hl hf
      · have hf := kif_neg hc hf
        refine lv_iconst (v := (0 : Int32)) hx hb (kd dtX12_findHeights_0 29 rfl) (by decide) ?_
        refine lv_istore_n (lv' := [(1, .int (0 : Int32)), (0, .ref h0)]) hx hb (kd dtX12_findHeights_0 30 rfl) rfl hl (by decide) rfl (fun ls hl => ?_)
        refine lv_iconst (v := (0 : Int32)) hx hb (kd dtX12_findHeights_0 31 rfl) (by decide) ?_
        refine lv_istore_n (lv' := [(2, .int (0 : Int32)), (1, .int (0 : Int32)), (0, .ref h0)]) hx hb (kd dtX12_findHeights_0 32 rfl) rfl hl (by decide) rfl (fun ls hl => ?_)
        have hL53 : ∀ (n : Nat) (k : Int32 → Int32 → rW → Option rW), ∀ (z1_53 : Int32) (z2_53 : Int32) (w_53 : rW) (H : Heap) (locs : List Loc) (ls : Array Slot), kX D aC (rWo h0 wB w) s.heap (rWo h0 wB w_53) H locs → lv_has ls 4 [(0, .ref h0), (1, .int z1_53), (2, .int z2_53)] → fX12_findHeights_L53 n k z1_53 z2_53 w_53 = some wR → (∀ (z1_53 : Int32) (z2_53 : Int32) (w_53 : rW) (H : Heap) (locs : List Loc) (ls : Array Slot), kX D aC (rWo h0 wB w) s.heap (rWo h0 wB w_53) H locs → lv_has ls 4 [(0, .ref h0), (1, .int z1_53), (2, .int z2_53)] → k z1_53 z2_53 w_53 = some wR → W p l e { frames := 807, cells := 0, slots := 0, locals := 18950 } s m ([.ref h0] : List Value).toArray below meth c H locs 0 0 (MQ below (kQc D aC (rWo h0 wB w) none (rWo h0 wB wR)) ([.ref h0] : List Value).toArray s 0 0 (kA (rWo h0 wB w))) (F0 m 45 ls [])) → W p l e { frames := 807, cells := 0, slots := 0, locals := 18950 } s m ([.ref h0] : List Value).toArray below meth c H locs 0 0 (MQ below (kQc D aC (rWo h0 wB w) none (rWo h0 wB wR)) ([.ref h0] : List Value).toArray s 0 0 (kA (rWo h0 wB w))) (F0 m 53 ls []) := by
          intro n k
          induction n with
          | zero =>
            intro z1_53 z2_53 w_53 H locs ls hX hl hf hk
            rw [fX12_findHeights_L53] at hf
            cases hf
          | succ n ih =>
            intro z1_53 z2_53 w_53 H locs ls hX hl hf hk
            have hJ53_100 : ∀ (j1_100 : Int32) (j2_100 : Int32) (j3_100 : Int32) (t0_100 : Int32) (w_j100 : rW) (H : Heap) (locs : List Loc) (ls : Array Slot), kX D aC (rWo h0 wB w) s.heap (rWo h0 wB w_j100) H locs → lv_has ls 4 [(0, .ref h0), (1, .int j1_100), (2, .int j2_100), (3, .int j3_100)] → fX12_findHeights_J53_100 (fun q1 q2 qw => fX12_findHeights_L53 n k q1 q2 qw) k j1_100 j2_100 j3_100 t0_100 w_j100 = some wR → W p l e { frames := 807, cells := 0, slots := 0, locals := 18950 } s m ([.ref h0] : List Value).toArray below meth c H locs 0 0 (MQ below (kQc D aC (rWo h0 wB w) none (rWo h0 wB wR)) ([.ref h0] : List Value).toArray s 0 0 (kA (rWo h0 wB w))) (F0 m 100 ls [.int t0_100]) := by
              intro j1_100 j2_100 j3_100 t0_100 w_j100 H locs ls hX hl hf
              rw [fX12_findHeights_J53_100] at hf
              refine lv_istore_n (lv' := [(1, .int t0_100), (0, .ref h0), (2, .int j2_100), (3, .int j3_100)]) hx hb (kd dtX12_findHeights_0 60 rfl) rfl hl (by decide) rfl (fun ls hl => ?_)
              refine lv_aload_n hx hb (kd dtX12_findHeights_0 61 rfl) rfl (lv_at hl 1 rfl) ?_
              refine rgetA (n := 16) (j := 38) hB (by decide) rfl F hX wfX12_58 (by decide) rfl (kd dtX12_findHeights_0 62 rfl) ?_
              refine lv_iload_n hx hb (kd dtX12_findHeights_0 63 rfl) rfl (lv_at hl 2 rfl) ?_
              refine lv_iload_n hx hb (kd dtX12_findHeights_0 64 rfl) rfl (lv_at hl 3 rfl) ?_
              obtain ⟨w14, hw14, hf⟩ := kbind hf
              refine rast hB (by decide) hw14 F hX (kd dtX12_findHeights_0 65 rfl) (fun H locs hX => ?_)
              refine lv_iinc (v := j2_100 + (1 : Int32)) (lv' := [(2, .int (j2_100 + (1 : Int32))), (1, .int t0_100), (0, .ref h0), (3, .int j3_100)]) hx hb (kd dtX12_findHeights_0 66 rfl) hl (k := 2) rfl (by rfl) (by decide) rfl (fun ls hl => ?_)
              refine lv_goto (tgt := 53) hx hb (kd dtX12_findHeights_0 67 rfl) (by decide) ?_
              exact ih t0_100 (j2_100 + (1 : Int32)) w14 _ _ _ hX (lv_sub hl [2, 1, 0] rfl) hf hk
            have hJ53_95 : ∀ (j1_95 : Int32) (j2_95 : Int32) (j3_95 : Int32) (w_j95 : rW) (H : Heap) (locs : List Loc) (ls : Array Slot), kX D aC (rWo h0 wB w) s.heap (rWo h0 wB w_j95) H locs → lv_has ls 4 [(0, .ref h0), (1, .int j1_95), (2, .int j2_95), (3, .int j3_95)] → fX12_findHeights_J53_95 (fun q1 q2 qw => fX12_findHeights_L53 n k q1 q2 qw) k j1_95 j2_95 j3_95 w_j95 = some wR → W p l e { frames := 807, cells := 0, slots := 0, locals := 18950 } s m ([.ref h0] : List Value).toArray below meth c H locs 0 0 (MQ below (kQc D aC (rWo h0 wB w) none (rWo h0 wB wR)) ([.ref h0] : List Value).toArray s 0 0 (kA (rWo h0 wB w))) (F0 m 95 ls []) := by
              intro j1_95 j2_95 j3_95 w_j95 H locs ls hX hl hf
              rw [fX12_findHeights_J53_95] at hf
              refine lv_iconst (v := (1 : Int32)) hx hb (kd dtX12_findHeights_0 57 rfl) (by decide) ?_
              refine lv_goto (tgt := 100) hx hb (kd dtX12_findHeights_0 58 rfl) (by decide) ?_
              exact hJ53_100 j1_95 j2_95 j3_95 (1 : Int32) w_j95 _ _ _ hX hl hf
            rw [fX12_findHeights_L53] at hf
            refine lv_iload_n hx hb (kd dtX12_findHeights_0 33 rfl) rfl (lv_at hl 2 rfl) ?_
            refine lv_aload_n hx hb (kd dtX12_findHeights_0 34 rfl) rfl (lv_at hl 0 rfl) ?_
            refine rgetA (n := 2) (j := 2) hB (by decide) rfl F hX wfX12_16 (by decide) rfl (kd dtX12_findHeights_0 35 rfl) ?_
            refine lv_iconst (v := (0 : Int32)) hx hb (kd dtX12_findHeights_0 36 rfl) (by decide) ?_
            obtain ⟨v8, hv8, hf⟩ := kbind hf
            refine rald hB (by decide) hv8 F hX (kd dtX12_findHeights_0 37 rfl) ?_
            refine lv_icmp_ge (tgt := 114) hx hb (kd dtX12_findHeights_0 38 rfl) (by decide) (fun hc => ?_) (fun hc => ?_)
            · have hf := kif_pos hc hf
              refine lv_goto (tgt := 45) hx hb (kd dtX12_findHeights_0 68 rfl) (by decide) ?_
              exact hk z1_53 z2_53 w_53 _ _ _ hX hl hf
            · have hf := kif_neg hc hf
              refine lv_aload_n hx hb (kd dtX12_findHeights_0 39 rfl) rfl (lv_at hl 0 rfl) ?_
              refine rgetA (n := 16) (j := 38) hB (by decide) rfl F hX wfX12_58 (by decide) rfl (kd dtX12_findHeights_0 40 rfl) ?_
              refine lv_iload_n hx hb (kd dtX12_findHeights_0 41 rfl) rfl (lv_at hl 2 rfl) ?_
              obtain ⟨v9, hv9, hf⟩ := kbind hf
              refine rald hB (by decide) hv9 F hX (kd dtX12_findHeights_0 42 rfl) ?_
              refine lv_if_ne (tgt := 75) hx hb (kd dtX12_findHeights_0 43 rfl) (by decide) (fun hc => ?_) (fun hc => ?_)
              · have hf := kif_neg hc hf
                refine lv_aload_n hx hb (kd dtX12_findHeights_0 45 rfl) rfl (lv_at hl 0 rfl) ?_
                refine lv_iload_n hx hb (kd dtX12_findHeights_0 46 rfl) rfl (lv_at hl 2 rfl) ?_
                obtain ⟨v12, w10, h11, hf⟩ := kbind2 hf
                refine kcallV (n := 1) [.int z2_53] [] [.int v12] (rX12_heightBy l D aC hB h11) rfl hB.1 F hml hX hZ hl.1 mwX12_heightBy wmX12_316 rfl (by decide) (by decide +kernel) ⟨(by decide), (by decide)⟩ rfl rfl rfl (Nat.le_of_ble_eq_true rfl) (kd dtX12_findHeights_0 47 rfl) ⟨Nat.zero_le _, Nat.zero_le _⟩ (fun H locs hX => ?_)
                refine lv_istore_n (lv' := [(3, .int v12), (0, .ref h0), (1, .int z1_53), (2, .int z2_53)]) hx hb (kd dtX12_findHeights_0 48 rfl) rfl hl (by decide) rfl (fun ls hl => ?_)
                refine lv_iload_n hx hb (kd dtX12_findHeights_0 49 rfl) rfl (lv_at hl 2 rfl) ?_
                refine lv_if_ne (tgt := 95) hx hb (kd dtX12_findHeights_0 50 rfl) (by decide) (fun hc => ?_) (fun hc => ?_)
                · have hf := kif_neg hc hf
                  exact hJ53_95 z1_53 z2_53 v12 w10 _ _ _ hX (lv_sub hl [1, 2, 3, 0] rfl) hf
                · have hf := kif_pos hc hf
                  refine lv_iload_n hx hb (kd dtX12_findHeights_0 51 rfl) rfl (lv_at hl 0 rfl) ?_
                  refine lv_aload_n hx hb (kd dtX12_findHeights_0 52 rfl) rfl (lv_at hl 1 rfl) ?_
                  refine rgetA (n := 16) (j := 38) hB (by decide) rfl F hX wfX12_58 (by decide) rfl (kd dtX12_findHeights_0 53 rfl) ?_
                  refine lv_iload_n hx hb (kd dtX12_findHeights_0 54 rfl) rfl (lv_at hl 3 rfl) ?_
                  obtain ⟨v13, hv13, hf⟩ := kbind hf
                  refine rald hB (by decide) hv13 F hX (kd dtX12_findHeights_0 55 rfl) ?_
                  refine lv_icmp_eq (tgt := 99) hx hb (kd dtX12_findHeights_0 56 rfl) (by decide) (fun hc => ?_) (fun hc => ?_)
                  · have hf := kif_pos hc hf
                    refine lv_iconst (v := (0 : Int32)) hx hb (kd dtX12_findHeights_0 59 rfl) (by decide) ?_
                    exact hJ53_100 z1_53 z2_53 v12 (0 : Int32) w10 _ _ _ hX (lv_sub hl [1, 2, 3, 0] rfl) hf
                  · have hf := kif_neg hc hf
                    exact hJ53_95 z1_53 z2_53 v12 w10 _ _ _ hX (lv_sub hl [1, 2, 3, 0] rfl) hf
              · have hf := kif_pos hc hf
                refine lv_goto (tgt := 108) hx hb (kd dtX12_findHeights_0 44 rfl) (by decide) ?_
                refine lv_iinc (v := z2_53 + (1 : Int32)) (lv' := [(2, .int (z2_53 + (1 : Int32))), (0, .ref h0), (1, .int z1_53)]) hx hb (kd dtX12_findHeights_0 66 rfl) hl (k := 2) rfl (by rfl) (by decide) rfl (fun ls hl => ?_)
                refine lv_goto (tgt := 53) hx hb (kd dtX12_findHeights_0 67 rfl) (by decide) ?_
                exact ih z1_53 (z2_53 + (1 : Int32)) w_53 _ _ _ hX (lv_sub hl [1, 2, 0] rfl) hf hk
        refine hL53 kFU _ (0 : Int32) (0 : Int32) w_45 _ _ _ hX (lv_sub hl [2, 1, 0] rfl) hf ?_
        intro y1_5 y2_6 w7 H locs ls hX hl hf
        exact ih y1_5 w7 _ _ _ hX (lv_sub hl [0, 1] rfl) hf hk
  refine hL45 kFU _ (1 : Int32) w2 _ _ _ hX (lv_sub hl [1, 0] rfl) hf ?_
  intro y1_3 w4 H locs ls hX hl hf
  obtain rfl := Option.some.inj hf
  exact kvret F hX hr hlocks rfl (kd dtX12_findHeights_0 69 rfl)
