theorem wmX4_3 : Cond.methodLink RX4 3 objectInit ∈ kT := kTm 264 (by decide +kernel) rfl
theorem wfX4_9 : Cond.fieldLink RX4 9 (TX4 0).1 (TX4 0).2.1 (TX4 0).2.2.1 ∈ kT := kTm 265 (by decide +kernel) rfl
theorem wfX4_15 : Cond.fieldLink RX4 15 (TX4 1).1 (TX4 1).2.1 (TX4 1).2.2.1 ∈ kT := kTm 266 (by decide +kernel) rfl
def lX4_init_0 : List (Nat × Instr × Nat) := [(0, .aload_n 0, 1), (1, .invokespecial 3, 3), (4, .aload_n 0, 1), (5, .bipush 6, 2), (7, .newarray .int, 2), (9, .putfield 9, 3), (12, .aload_n 0, 1), (13, .aconst_null, 1), (14, .putfield 15, 3), (17, .return_, 1)]
theorem dtX4_init_0 : kDec cX4_init lX4_init_0 = true := by decide +kernel
noncomputable def fX4_init (x0 : Nat) (w : kW) : Option kW :=
  (knA w 14 (6 : Int32)).bind fun w1 =>
  (kpP w1 4 (some x0) 0 (some (kSz w))).bind fun w2 =>
  (kpP w2 4 (some x0) 1 none).bind fun w3 =>
  some w3

set_option maxHeartbeats 4000000 in
set_option maxRecDepth 100000 in
theorem rX4_init (l : Launch) (D : va_G) (aC : Nat → ClassId) {x0 : Nat} {w : kW} {wR : kW} (h : fX4_init x0 w = some wR) : kC l D aC yX4_init cX4_init 1 none 1 20 [.ref x0] w none wR 1 6 := by
  refine kOf (own := RX4) (by decide) rfl (Nat.le_of_ble_eq_true rfl) ?_
  intro p e s m below meth c ls F hml hr hlocks hnm hX hZ hl
  obtain ⟨hx, hb, hts, hown, hK⟩ := id F
  have hl : lv_has ls 1 [(0, .ref x0)] := hl
  have hf := h
  rw [fX4_init] at hf
  refine lv_aload_n hx hb (kd dtX4_init_0 0 rfl) rfl (lv_at hl 0 rfl) ?_
  refine kobj F (hml.trans hl.1.symm) wmX4_3 (Nat.le_of_ble_eq_true rfl) (Nat.le_of_ble_eq_true rfl) (kd dtX4_init_0 1 rfl) ?_
  refine lv_aload_n hx hb (kd dtX4_init_0 2 rfl) rfl (lv_at hl 0 rfl) ?_
  refine lv_bipush (v := (6 : Int32)) hx hb (kd dtX4_init_0 3 rfl) (by decide) ?_
  obtain ⟨w1, hw1, hf⟩ := kbind hf
  refine knewa (mx := 6) hw1 rfl (fun _ => rfl) (by decide) (by decide) F hX wA14 (by decide) (by decide) (Nat.le_of_ble_eq_true rfl) (Nat.le_of_ble_eq_true rfl) (kd dtX4_init_0 4 rfl) (fun H hX => ?_)
  obtain ⟨w2, hw2, hf⟩ := kbind hf
  refine kputP hw2 F hX hinX4 tyX4_ok nmX4 rfl rfl rfl (by decide) (by decide) wfX4_9 (Or.inr ⟨rfl, hnm, rfl⟩) (kd dtX4_init_0 5 rfl) (fun H locs hX => ?_)
  refine lv_aload_n hx hb (kd dtX4_init_0 6 rfl) rfl (lv_at hl 0 rfl) ?_
  refine lv_null hx hb (kd dtX4_init_0 7 rfl) ?_
  obtain ⟨w3, hw3, hf⟩ := kbind hf
  refine kputP hw3 F hX hinX4 tyX4_ok nmX4 rfl rfl rfl (by decide) (by decide) wfX4_15 (Or.inl rfl) (kd dtX4_init_0 8 rfl) (fun H locs hX => ?_)
  cases hf
  refine W.widen (k := 1) (n := 6) (Nat.le_of_ble_eq_true rfl) (Nat.le_of_ble_eq_true rfl) ?_
  exact kvret F hX hr hlocks rfl (kd dtX4_init_0 9 rfl)
theorem wmX4_19 : Cond.methodLink RX4 19 yJ7_fill_53178 ∈ kT := kTm 706 (by decide +kernel) rfl
theorem wmX4_25 : Cond.methodLink RX4 25 yX1_endAt ∈ kT := kTm 709 (by decide +kernel) rfl
theorem wmX4_31 : Cond.methodLink RX4 31 yX1_at ∈ kT := kTm 710 (by decide +kernel) rfl
theorem wmX4_34 : Cond.methodLinkNest RX4 34 yX11_letterOf "KitchenCards" ∈ kNs := kNm 711 (by decide +kernel) rfl
theorem wmX4_37 : Cond.methodLink RX4 37 yX1_samePart ∈ kT := kTm 712 (by decide +kernel) rfl
theorem mwX1_samePart : kMV RX1 yX1_samePart cX1_samePart 6 (some .boolean) := ⟨kTm 697 (by decide +kernel) rfl, kTm 97 (by decide +kernel) rfl, kTm 695 (by decide +kernel) rfl, kTm 696 (by decide +kernel) rfl⟩
def lX4_makes_0 : List (Nat × Instr × Nat) := [(0, .aload_n 0, 1), (1, .aload_n 3, 1), (2, .putfield 15, 3), (5, .aload_n 0, 1), (6, .getfield 9, 3), (9, .iconst (-1), 1), (10, .invokestatic 19, 3), (13, .aload_n 1, 1), (14, .iload_n 2, 1), (15, .invokevirtual 25, 3), (18, .istore 5, 2), (20, .iload 4, 2), (22, .istore 6, 2), (24, .iload_n 2, 1), (25, .istore 7, 2), (27, .iload 7, 2), (29, .iload 5, 2), (31, .if_icmp .ge 97, 3), (34, .aload_n 1, 1), (35, .iload 7, 2), (37, .invokevirtual 31, 3), (40, .invokestatic 34, 3), (43, .istore 8, 2), (45, .iload 8, 2), (47, .ifCond .ge 26, 3), (50, .aload_n 3, 1), (51, .iload 6, 2), (53, .invokevirtual 31, 3), (56, .aload_n 1, 1), (57, .iload 7, 2), (59, .invokevirtual 31, 3), (62, .if_icmp .eq 5, 3), (65, .iconst 0, 1), (66, .ireturn, 1), (67, .iinc 6 1, 3), (70, .goto 52, 3), (73, .aload_n 0, 1), (74, .getfield 9, 3), (77, .iload 8, 2), (79, .iaload, 1), (80, .ifCond .ge 15, 3), (83, .aload_n 0, 1), (84, .getfield 9, 3), (87, .iload 8, 2), (89, .iload 6, 2), (91, .iastore, 1), (92, .goto 22, 3), (95, .aload_n 3, 1), (96, .aload_n 0, 1), (97, .getfield 9, 3), (100, .iload 8, 2), (102, .iaload, 1), (103, .aload_n 3, 1), (104, .iload 6, 2), (106, .invokevirtual 37, 3), (109, .ifCond .ne 5, 3), (112, .iconst 0, 1), (113, .ireturn, 1), (114, .aload_n 3, 1), (115, .iload 6, 2), (117, .invokevirtual 25, 3), (120, .istore 6, 2), (122, .iinc 7 1, 3), (125, .goto (-98), 3), (128, .iconst 1, 1), (129, .ireturn, 1)]
theorem dtX4_makes_0 : kDec cX4_makes lX4_makes_0 = true := by decide +kernel
noncomputable def fX4_makes_L27 (x0 : Nat) (x1 : Option Nat) (x2 : Int32) (x3 : Option Nat) (x4 : Int32) (x5 : Int32) : Nat → (Int32 → Int32 → kW → Option (Int32 × kW)) → Int32 → Int32 → kW → Option (Int32 × kW)
  | 0, _, _, _, _ => none
  | n + 1, k, x6, x7, w =>
  if x5 ≤ x7 then
  k x6 x7 w
  else
  (kRc w 1 x1).bind fun b1 =>
  (fX1_at b1 x7 w).bind fun v3 =>
  (fX11_letterOf v3).bind fun v5 =>
  if 0 ≤ v5 then
  (kgP w 4 (some x0) 0).bind fun v6 =>
  (kaI w 14 v6 v5).bind fun v7 =>
  if 0 ≤ v7 then
  (kgP w 4 (some x0) 0).bind fun v8 =>
  (kaI w 14 v8 v5).bind fun v9 =>
  (kRc w 1 x3).bind fun b10 =>
  (fX1_samePart b10 v9 x3 x6 w).bind fun v12 =>
  if v12 = 0 then
  some ((0 : Int32), w)
  else
  (kRc w 1 x3).bind fun b13 =>
  (fX1_endAt b13 x6 w).bind fun v15 =>
  fX4_makes_L27 x0 x1 x2 x3 x4 x5 n k v15 (x7 + (1 : Int32)) w
  else
  (kgP w 4 (some x0) 0).bind fun v16 =>
  (ksI w 14 v16 v5 x6).bind fun w17 =>
  (kRc w17 1 x3).bind fun b18 =>
  (fX1_endAt b18 x6 w17).bind fun v20 =>
  fX4_makes_L27 x0 x1 x2 x3 x4 x5 n k v20 (x7 + (1 : Int32)) w17
  else
  (kRc w 1 x3).bind fun b21 =>
  (fX1_at b21 x6 w).bind fun v23 =>
  (kRc w 1 x1).bind fun b24 =>
  (fX1_at b24 x7 w).bind fun v26 =>
  if v23 = v26 then
  fX4_makes_L27 x0 x1 x2 x3 x4 x5 n k (x6 + (1 : Int32)) (x7 + (1 : Int32)) w
  else
  some ((0 : Int32), w)

noncomputable def fX4_makes (x0 : Nat) (x1 : Option Nat) (x2 : Int32) (x3 : Option Nat) (x4 : Int32) (w : kW) : Option (Int32 × kW) :=
  (kpP w 4 (some x0) 1 x3).bind fun w1 =>
  (kgP w1 4 (some x0) 0).bind fun v2 =>
  (fJ7_fill_53178 v2 (-1 : Int32) w1).bind fun w3 =>
  (kRc w3 1 x1).bind fun b5 =>
  (fX1_endAt b5 x2 w3).bind fun v7 =>
  fX4_makes_L27 x0 x1 x2 x3 x4 v7 kFU (fun y6_8 y7_9 w10 => some ((1 : Int32), w10)) x4 x2 w3

set_option maxHeartbeats 4000000 in
set_option maxRecDepth 100000 in
theorem rX4_makes (l : Launch) (D : va_G) (aC : Nat → ClassId) {x0 : Nat} {x1 : Option Nat} {x2 : Int32} {x3 : Option Nat} {x4 : Int32} {w : kW} {wR : kW} {oR : Int32} (h : fX4_makes x0 x1 x2 x3 x4 w = some (oR, wR)) : kC l D aC yX4_makes cX4_makes 9 (some .boolean) 3 58 [.ref x0, va_rf x1, .int x2, va_rf x3, .int x4] w (some (.int oR)) wR 0 0 := by
  refine kOf (own := RX4) (by decide) rfl (by simp [lg_sl, kcat_rf, kcat_i, kcat_r, kcat_l]) ?_
  intro p e s m below meth c ls F hml hr hlocks hnm hX hZ hl
  obtain ⟨hx, hb, hts, hown, hK⟩ := id F
  have hl : lv_has ls 9 [(0, .ref x0), (1, va_rf x1), (2, .int x2), (3, va_rf x3), (4, .int x4)] := by simpa [lv_args, kcat_rf, kcat_i, kcat_r, kcat_l] using hl
  have hf := h
  rw [fX4_makes] at hf
  refine lv_aload_n hx hb (kd dtX4_makes_0 0 rfl) rfl (lv_at hl 0 rfl) ?_
  refine kaload_n hx hb (kd dtX4_makes_0 1 rfl) rfl (lv_at hl 3 rfl) ?_
  obtain ⟨w1, hw1, hf⟩ := kbind hf
  refine kputP hw1 F hX hinX4 tyX4_ok nmX4 rfl rfl rfl (by decide) (by decide) wfX4_15 (Or.inl rfl) (kd dtX4_makes_0 2 rfl) (fun H locs hX => ?_)
  refine lv_aload_n hx hb (kd dtX4_makes_0 3 rfl) rfl (lv_at hl 0 rfl) ?_
  obtain ⟨v2, hv2, hf⟩ := kbind hf
  refine kgetP hv2 F hX hinX4 rfl rfl rfl (by decide) (by decide) wfX4_9 (kd dtX4_makes_0 4 rfl) ?_
  refine lv_iconst (v := (-1 : Int32)) hx hb (kd dtX4_makes_0 5 rfl) (by decide) ?_
  obtain ⟨w3, h4, hf⟩ := kbind hf
  refine kcallS (n := 2) [va_rf v2, .int (-1 : Int32)] [] [] (rJ7_fill_53178 l D aC h4) F hml hX hZ hl.1 mwJ7_fill_53178 wmX4_19 (by decide +kernel) ⟨(by decide), (by decide)⟩ rfl rfl rfl (Nat.le_of_ble_eq_true rfl) (kd dtX4_makes_0 6 rfl) ⟨Nat.zero_le _, Nat.zero_le _⟩ (fun H locs hX => ?_)
  refine kaload_n hx hb (kd dtX4_makes_0 7 rfl) rfl (lv_at hl 1 rfl) ?_
  refine lv_iload_n hx hb (kd dtX4_makes_0 8 rfl) rfl (lv_at hl 2 rfl) ?_
  obtain ⟨b5, hb5, hf⟩ := kbind hf
  obtain ⟨hrb5, hkb5⟩ := kRc_s hb5
  obtain ⟨v7, h6, hf⟩ := kbind hf
  refine kcallV (n := 1) [.int x2] [] [.int v7] (rX1_endAt l D aC h6) hrb5 hkb5 F hml hX hZ hl.1 mwX1_endAt wmX4_25 rfl (by decide) (by decide +kernel) ⟨(by decide), (by decide)⟩ rfl rfl rfl (Nat.le_of_ble_eq_true rfl) (kd dtX4_makes_0 9 rfl) ⟨Nat.zero_le _, Nat.zero_le _⟩ (fun H locs hX => ?_)
  refine lv_istore (lv' := [(5, .int v7), (0, .ref x0), (1, va_rf x1), (2, .int x2), (3, va_rf x3), (4, .int x4)]) hx hb (kd dtX4_makes_0 10 rfl) hl (by decide) rfl (fun ls hl => ?_)
  refine lv_iload hx hb (kd dtX4_makes_0 11 rfl) (lv_at hl 5 rfl) ?_
  refine lv_istore (lv' := [(6, .int x4), (5, .int v7), (0, .ref x0), (1, va_rf x1), (2, .int x2), (3, va_rf x3), (4, .int x4)]) hx hb (kd dtX4_makes_0 12 rfl) hl (by decide) rfl (fun ls hl => ?_)
  refine lv_iload_n hx hb (kd dtX4_makes_0 13 rfl) rfl (lv_at hl 4 rfl) ?_
  refine lv_istore (lv' := [(7, .int x2), (6, .int x4), (5, .int v7), (0, .ref x0), (1, va_rf x1), (2, .int x2), (3, va_rf x3), (4, .int x4)]) hx hb (kd dtX4_makes_0 14 rfl) hl (by decide) rfl (fun ls hl => ?_)
  have hL27 : ∀ (n : Nat) (k : Int32 → Int32 → kW → Option (Int32 × kW)), ∀ (z6_27 : Int32) (z7_27 : Int32) (w_27 : kW) (H : Heap) (locs : List Loc) (ls : Array Slot), kX D aC w s.heap w_27 H locs → lv_has ls 9 [(0, .ref x0), (1, va_rf x1), (2, .int x2), (3, va_rf x3), (4, .int x4), (5, .int v7), (6, .int z6_27), (7, .int z7_27)] → fX4_makes_L27 x0 x1 x2 x3 x4 v7 n k z6_27 z7_27 w_27 = some (oR, wR) → (∀ (z6_27 : Int32) (z7_27 : Int32) (w_27 : kW) (H : Heap) (locs : List Loc) (ls : Array Slot), kX D aC w s.heap w_27 H locs → lv_has ls 9 [(0, .ref x0), (1, va_rf x1), (2, .int x2), (3, va_rf x3), (4, .int x4), (5, .int v7), (6, .int z6_27), (7, .int z7_27)] → k z6_27 z7_27 w_27 = some (oR, wR) → W p l e { frames := 3, cells := 0, slots := 0, locals := 58 } s m ([.ref x0, va_rf x1, .int x2, va_rf x3, .int x4] : List Value).toArray below meth c H locs 0 0 (MQ below (kQc D aC w (some (.int oR)) wR) ([.ref x0, va_rf x1, .int x2, va_rf x3, .int x4] : List Value).toArray s 0 0 (kA w)) (F0 m 128 ls [])) → W p l e { frames := 3, cells := 0, slots := 0, locals := 58 } s m ([.ref x0, va_rf x1, .int x2, va_rf x3, .int x4] : List Value).toArray below meth c H locs 0 0 (MQ below (kQc D aC w (some (.int oR)) wR) ([.ref x0, va_rf x1, .int x2, va_rf x3, .int x4] : List Value).toArray s 0 0 (kA w)) (F0 m 27 ls []) := by
    intro n k
    induction n with
    | zero =>
      intro z6_27 z7_27 w_27 H locs ls hX hl hf hk
      rw [fX4_makes_L27] at hf
      cases hf
    | succ n ih =>
      intro z6_27 z7_27 w_27 H locs ls hX hl hf hk
      rw [fX4_makes_L27] at hf
      refine lv_iload hx hb (kd dtX4_makes_0 15 rfl) (lv_at hl 7 rfl) ?_
      refine lv_iload hx hb (kd dtX4_makes_0 16 rfl) (lv_at hl 5 rfl) ?_
      refine lv_icmp_ge (tgt := 128) hx hb (kd dtX4_makes_0 17 rfl) (by decide) (fun hc => ?_) (fun hc => ?_)
      · have hf := kif_pos hc hf
        exact hk z6_27 z7_27 w_27 _ _ _ hX hl hf
      · have hf := kif_neg hc hf
        refine kaload_n hx hb (kd dtX4_makes_0 18 rfl) rfl (lv_at hl 1 rfl) ?_
        refine lv_iload hx hb (kd dtX4_makes_0 19 rfl) (lv_at hl 7 rfl) ?_
        obtain ⟨b11, hb11, hf⟩ := kbind hf
        obtain ⟨hrb11, hkb11⟩ := kRc_s hb11
        obtain ⟨v13, h12, hf⟩ := kbind hf
        refine kcallV (n := 1) [.int z7_27] [] [.int v13] (rX1_at l D aC h12) hrb11 hkb11 F hml hX hZ hl.1 mwX1_at wmX4_31 rfl (by decide) (by decide +kernel) ⟨(by decide), (by decide)⟩ rfl rfl rfl (Nat.le_of_ble_eq_true rfl) (kd dtX4_makes_0 20 rfl) ⟨Nat.zero_le _, Nat.zero_le _⟩ (fun H locs hX => ?_)
        obtain ⟨v15, h14, hf⟩ := kbind hf
        refine kcallSN (n := 1) [.int v13] [] [.int v15] (rX11_letterOf l D aC w_27 h14) F hml hX hZ hl.1 mwX11_letterOf wmX4_34 (by decide +kernel) ⟨(by decide), (by decide)⟩ rfl rfl rfl (Nat.le_of_ble_eq_true rfl) (kd dtX4_makes_0 21 rfl) ⟨Nat.zero_le _, Nat.zero_le _⟩ (fun H locs hX => ?_)
        refine lv_istore (lv' := [(8, .int v15), (0, .ref x0), (1, va_rf x1), (2, .int x2), (3, va_rf x3), (4, .int x4), (5, .int v7), (6, .int z6_27), (7, .int z7_27)]) hx hb (kd dtX4_makes_0 22 rfl) hl (by decide) rfl (fun ls hl => ?_)
        refine lv_iload hx hb (kd dtX4_makes_0 23 rfl) (lv_at hl 0 rfl) ?_
        refine lv_if_ge (tgt := 73) hx hb (kd dtX4_makes_0 24 rfl) (by decide) (fun hc => ?_) (fun hc => ?_)
        · have hf := kif_pos hc hf
          refine lv_aload_n hx hb (kd dtX4_makes_0 36 rfl) rfl (lv_at hl 1 rfl) ?_
          obtain ⟨v16, hv16, hf⟩ := kbind hf
          refine kgetP hv16 F hX hinX4 rfl rfl rfl (by decide) (by decide) wfX4_9 (kd dtX4_makes_0 37 rfl) ?_
          refine lv_iload hx hb (kd dtX4_makes_0 38 rfl) (lv_at hl 0 rfl) ?_
          obtain ⟨v17, hv17, hf⟩ := kbind hf
          refine kald hv17 F hX (kd dtX4_makes_0 39 rfl) ?_
          refine lv_if_ge (tgt := 95) hx hb (kd dtX4_makes_0 40 rfl) (by decide) (fun hc => ?_) (fun hc => ?_)
          · have hf := kif_pos hc hf
            refine kaload_n hx hb (kd dtX4_makes_0 47 rfl) rfl (lv_at hl 4 rfl) ?_
            refine lv_aload_n hx hb (kd dtX4_makes_0 48 rfl) rfl (lv_at hl 1 rfl) ?_
            obtain ⟨v18, hv18, hf⟩ := kbind hf
            refine kgetP hv18 F hX hinX4 rfl rfl rfl (by decide) (by decide) wfX4_9 (kd dtX4_makes_0 49 rfl) ?_
            refine lv_iload hx hb (kd dtX4_makes_0 50 rfl) (lv_at hl 0 rfl) ?_
            obtain ⟨v19, hv19, hf⟩ := kbind hf
            refine kald hv19 F hX (kd dtX4_makes_0 51 rfl) ?_
            refine kaload_n hx hb (kd dtX4_makes_0 52 rfl) rfl (lv_at hl 4 rfl) ?_
            refine lv_iload hx hb (kd dtX4_makes_0 53 rfl) (lv_at hl 7 rfl) ?_
            obtain ⟨b20, hb20, hf⟩ := kbind hf
            obtain ⟨hrb20, hkb20⟩ := kRc_s hb20
            obtain ⟨v22, h21, hf⟩ := kbind hf
            refine kcallV (n := 3) [.int v19, va_rf x3, .int z6_27] [] [.int v22] (rX1_samePart l D aC h21) hrb20 hkb20 F hml hX hZ hl.1 mwX1_samePart wmX4_37 rfl (by decide) (by decide +kernel) ⟨(by decide), (by decide)⟩ rfl rfl rfl (Nat.le_of_ble_eq_true rfl) (kd dtX4_makes_0 54 rfl) ⟨Nat.zero_le _, Nat.zero_le _⟩ (fun H locs hX => ?_)
            refine lv_if_ne (tgt := 114) hx hb (kd dtX4_makes_0 55 rfl) (by decide) (fun hc => ?_) (fun hc => ?_)
            · have hf := kif_neg hc hf
              refine kaload_n hx hb (kd dtX4_makes_0 58 rfl) rfl (lv_at hl 4 rfl) ?_
              refine lv_iload hx hb (kd dtX4_makes_0 59 rfl) (lv_at hl 7 rfl) ?_
              obtain ⟨b23, hb23, hf⟩ := kbind hf
              obtain ⟨hrb23, hkb23⟩ := kRc_s hb23
              obtain ⟨v25, h24, hf⟩ := kbind hf
              refine kcallV (n := 1) [.int z6_27] [] [.int v25] (rX1_endAt l D aC h24) hrb23 hkb23 F hml hX hZ hl.1 mwX1_endAt wmX4_25 rfl (by decide) (by decide +kernel) ⟨(by decide), (by decide)⟩ rfl rfl rfl (Nat.le_of_ble_eq_true rfl) (kd dtX4_makes_0 60 rfl) ⟨Nat.zero_le _, Nat.zero_le _⟩ (fun H locs hX => ?_)
              refine lv_istore (lv' := [(6, .int v25), (8, .int v15), (0, .ref x0), (1, va_rf x1), (2, .int x2), (3, va_rf x3), (4, .int x4), (5, .int v7), (7, .int z7_27)]) hx hb (kd dtX4_makes_0 61 rfl) hl (by decide) rfl (fun ls hl => ?_)
              refine lv_iinc (v := z7_27 + (1 : Int32)) (lv' := [(7, .int (z7_27 + (1 : Int32))), (6, .int v25), (8, .int v15), (0, .ref x0), (1, va_rf x1), (2, .int x2), (3, va_rf x3), (4, .int x4), (5, .int v7)]) hx hb (kd dtX4_makes_0 62 rfl) hl (k := 8) rfl (by rfl) (by decide) rfl (fun ls hl => ?_)
              refine lv_goto (tgt := 27) hx hb (kd dtX4_makes_0 63 rfl) (by decide) ?_
              exact ih v25 (z7_27 + (1 : Int32)) w_27 _ _ _ hX (lv_sub hl [3, 4, 5, 6, 7, 8, 1, 0] rfl) hf hk
            · have hf := kif_pos hc hf
              refine lv_iconst (v := (0 : Int32)) hx hb (kd dtX4_makes_0 56 rfl) (by decide) ?_
              cases hf
              exact kzret F hX hr hlocks rfl rfl (kd dtX4_makes_0 57 rfl)
          · have hf := kif_neg hc hf
            refine lv_aload_n hx hb (kd dtX4_makes_0 41 rfl) rfl (lv_at hl 1 rfl) ?_
            obtain ⟨v26, hv26, hf⟩ := kbind hf
            refine kgetP hv26 F hX hinX4 rfl rfl rfl (by decide) (by decide) wfX4_9 (kd dtX4_makes_0 42 rfl) ?_
            refine lv_iload hx hb (kd dtX4_makes_0 43 rfl) (lv_at hl 0 rfl) ?_
            refine lv_iload hx hb (kd dtX4_makes_0 44 rfl) (lv_at hl 7 rfl) ?_
            obtain ⟨w27, hw27, hf⟩ := kbind hf
            refine kast hw27 F hX (kd dtX4_makes_0 45 rfl) (fun H locs hX => ?_)
            refine lv_goto (tgt := 114) hx hb (kd dtX4_makes_0 46 rfl) (by decide) ?_
            refine kaload_n hx hb (kd dtX4_makes_0 58 rfl) rfl (lv_at hl 4 rfl) ?_
            refine lv_iload hx hb (kd dtX4_makes_0 59 rfl) (lv_at hl 7 rfl) ?_
            obtain ⟨b28, hb28, hf⟩ := kbind hf
            obtain ⟨hrb28, hkb28⟩ := kRc_s hb28
            obtain ⟨v30, h29, hf⟩ := kbind hf
            refine kcallV (n := 1) [.int z6_27] [] [.int v30] (rX1_endAt l D aC h29) hrb28 hkb28 F hml hX hZ hl.1 mwX1_endAt wmX4_25 rfl (by decide) (by decide +kernel) ⟨(by decide), (by decide)⟩ rfl rfl rfl (Nat.le_of_ble_eq_true rfl) (kd dtX4_makes_0 60 rfl) ⟨Nat.zero_le _, Nat.zero_le _⟩ (fun H locs hX => ?_)
            refine lv_istore (lv' := [(6, .int v30), (8, .int v15), (0, .ref x0), (1, va_rf x1), (2, .int x2), (3, va_rf x3), (4, .int x4), (5, .int v7), (7, .int z7_27)]) hx hb (kd dtX4_makes_0 61 rfl) hl (by decide) rfl (fun ls hl => ?_)
            refine lv_iinc (v := z7_27 + (1 : Int32)) (lv' := [(7, .int (z7_27 + (1 : Int32))), (6, .int v30), (8, .int v15), (0, .ref x0), (1, va_rf x1), (2, .int x2), (3, va_rf x3), (4, .int x4), (5, .int v7)]) hx hb (kd dtX4_makes_0 62 rfl) hl (k := 8) rfl (by rfl) (by decide) rfl (fun ls hl => ?_)
            refine lv_goto (tgt := 27) hx hb (kd dtX4_makes_0 63 rfl) (by decide) ?_
            exact ih v30 (z7_27 + (1 : Int32)) w27 _ _ _ hX (lv_sub hl [3, 4, 5, 6, 7, 8, 1, 0] rfl) hf hk
        · have hf := kif_neg hc hf
          refine kaload_n hx hb (kd dtX4_makes_0 25 rfl) rfl (lv_at hl 4 rfl) ?_
          refine lv_iload hx hb (kd dtX4_makes_0 26 rfl) (lv_at hl 7 rfl) ?_
          obtain ⟨b31, hb31, hf⟩ := kbind hf
          obtain ⟨hrb31, hkb31⟩ := kRc_s hb31
          obtain ⟨v33, h32, hf⟩ := kbind hf
          refine kcallV (n := 1) [.int z6_27] [] [.int v33] (rX1_at l D aC h32) hrb31 hkb31 F hml hX hZ hl.1 mwX1_at wmX4_31 rfl (by decide) (by decide +kernel) ⟨(by decide), (by decide)⟩ rfl rfl rfl (Nat.le_of_ble_eq_true rfl) (kd dtX4_makes_0 27 rfl) ⟨Nat.zero_le _, Nat.zero_le _⟩ (fun H locs hX => ?_)
          refine kaload_n hx hb (kd dtX4_makes_0 28 rfl) rfl (lv_at hl 2 rfl) ?_
          refine lv_iload hx hb (kd dtX4_makes_0 29 rfl) (lv_at hl 8 rfl) ?_
          obtain ⟨b34, hb34, hf⟩ := kbind hf
          obtain ⟨hrb34, hkb34⟩ := kRc_s hb34
          obtain ⟨v36, h35, hf⟩ := kbind hf
          refine kcallV (n := 1) [.int z7_27] [.int v33] [.int v36, .int v33] (rX1_at l D aC h35) hrb34 hkb34 F hml hX hZ hl.1 mwX1_at wmX4_31 rfl (by decide) (by decide +kernel) ⟨(by decide), (by decide)⟩ rfl rfl rfl (Nat.le_of_ble_eq_true rfl) (kd dtX4_makes_0 30 rfl) ⟨Nat.zero_le _, Nat.zero_le _⟩ (fun H locs hX => ?_)
          refine lv_icmp_eq (tgt := 67) hx hb (kd dtX4_makes_0 31 rfl) (by decide) (fun hc => ?_) (fun hc => ?_)
          · have hf := kif_pos hc hf
            refine lv_iinc (v := z6_27 + (1 : Int32)) (lv' := [(6, .int (z6_27 + (1 : Int32))), (8, .int v15), (0, .ref x0), (1, va_rf x1), (2, .int x2), (3, va_rf x3), (4, .int x4), (5, .int v7), (7, .int z7_27)]) hx hb (kd dtX4_makes_0 34 rfl) hl (k := 7) rfl (by rfl) (by decide) rfl (fun ls hl => ?_)
            refine lv_goto (tgt := 122) hx hb (kd dtX4_makes_0 35 rfl) (by decide) ?_
            refine lv_iinc (v := z7_27 + (1 : Int32)) (lv' := [(7, .int (z7_27 + (1 : Int32))), (6, .int (z6_27 + (1 : Int32))), (8, .int v15), (0, .ref x0), (1, va_rf x1), (2, .int x2), (3, va_rf x3), (4, .int x4), (5, .int v7)]) hx hb (kd dtX4_makes_0 62 rfl) hl (k := 8) rfl (by rfl) (by decide) rfl (fun ls hl => ?_)
            refine lv_goto (tgt := 27) hx hb (kd dtX4_makes_0 63 rfl) (by decide) ?_
            exact ih (z6_27 + (1 : Int32)) (z7_27 + (1 : Int32)) w_27 _ _ _ hX (lv_sub hl [3, 4, 5, 6, 7, 8, 1, 0] rfl) hf hk
          · have hf := kif_neg hc hf
            refine lv_iconst (v := (0 : Int32)) hx hb (kd dtX4_makes_0 32 rfl) (by decide) ?_
            cases hf
            exact kzret F hX hr hlocks rfl rfl (kd dtX4_makes_0 33 rfl)
  refine hL27 kFU _ x4 x2 w3 _ _ _ hX (lv_sub hl [3, 4, 5, 6, 7, 2, 1, 0] rfl) hf ?_
  intro y6_8 y7_9 w10 H locs ls hX hl hf
  refine lv_iconst (v := (1 : Int32)) hx hb (kd dtX4_makes_0 64 rfl) (by decide) ?_
  cases hf
  exact kzret F hX hr hlocks rfl rfl (kd dtX4_makes_0 65 rfl)
def lX4_startOf_0 : List (Nat × Instr × Nat) := [(0, .iload_n 1, 1), (1, .ifCond .lt 18, 3), (4, .iload_n 1, 1), (5, .bipush 6, 2), (7, .if_icmp .ge 12, 3), (10, .aload_n 0, 1), (11, .getfield 9, 3), (14, .iload_n 1, 1), (15, .iaload, 1), (16, .goto 4, 3), (19, .iconst (-1), 1), (20, .ireturn, 1)]
theorem dtX4_startOf_0 : kDec cX4_startOf lX4_startOf_0 = true := by decide +kernel
noncomputable def fX4_startOf (x0 : Nat) (x1 : Int32) (w : kW) : Option Int32 :=
  if x1 < 0 then
  some (-1 : Int32)
  else
  if (6 : Int32) ≤ x1 then
  some (-1 : Int32)
  else
  (kgP w 4 (some x0) 0).bind fun v1 =>
  (kaI w 14 v1 x1).bind fun v2 =>
  some v2

set_option maxHeartbeats 4000000 in
set_option maxRecDepth 100000 in
theorem rX4_startOf (l : Launch) (D : va_G) (aC : Nat → ClassId) {x0 : Nat} {x1 : Int32} {w : kW} {oR : Int32} (h : fX4_startOf x0 x1 w = some oR) : kC l D aC yX4_startOf cX4_startOf 2 (some .int) 1 12 [.ref x0, .int x1] w (some (.int oR)) w 0 0 := by
  refine kOf (own := RX4) (by decide) rfl (Nat.le_of_ble_eq_true rfl) ?_
  intro p e s m below meth c ls F hml hr hlocks hnm hX hZ hl
  obtain ⟨hx, hb, hts, hown, hK⟩ := id F
  have hl : lv_has ls 2 [(0, .ref x0), (1, .int x1)] := hl
  have hf := h
  rw [fX4_startOf] at hf
  refine lv_iload_n hx hb (kd dtX4_startOf_0 0 rfl) rfl (lv_at hl 1 rfl) ?_
  refine lv_if_lt (tgt := 19) hx hb (kd dtX4_startOf_0 1 rfl) (by decide) (fun hc => ?_) (fun hc => ?_)
  · have hf := kif_pos hc hf
    refine lv_iconst (v := (-1 : Int32)) hx hb (kd dtX4_startOf_0 10 rfl) (by decide) ?_
    cases hf
    exact kiret F hX hr hlocks rfl (kd dtX4_startOf_0 11 rfl)
  · have hf := kif_neg hc hf
    refine lv_iload_n hx hb (kd dtX4_startOf_0 2 rfl) rfl (lv_at hl 1 rfl) ?_
    refine lv_bipush (v := (6 : Int32)) hx hb (kd dtX4_startOf_0 3 rfl) (by decide) ?_
    refine lv_icmp_ge (tgt := 19) hx hb (kd dtX4_startOf_0 4 rfl) (by decide) (fun hc => ?_) (fun hc => ?_)
    · have hf := kif_pos hc hf
      refine lv_iconst (v := (-1 : Int32)) hx hb (kd dtX4_startOf_0 10 rfl) (by decide) ?_
      cases hf
      exact kiret F hX hr hlocks rfl (kd dtX4_startOf_0 11 rfl)
    · have hf := kif_neg hc hf
      refine lv_aload_n hx hb (kd dtX4_startOf_0 5 rfl) rfl (lv_at hl 0 rfl) ?_
      obtain ⟨v1, hv1, hf⟩ := kbind hf
      refine kgetP hv1 F hX hinX4 rfl rfl rfl (by decide) (by decide) wfX4_9 (kd dtX4_startOf_0 6 rfl) ?_
      refine lv_iload_n hx hb (kd dtX4_startOf_0 7 rfl) rfl (lv_at hl 1 rfl) ?_
      obtain ⟨v2, hv2, hf⟩ := kbind hf
      refine kald hv2 F hX (kd dtX4_startOf_0 8 rfl) ?_
      refine lv_goto (tgt := 20) hx hb (kd dtX4_startOf_0 9 rfl) (by decide) ?_
      cases hf
      exact kiret F hX hr hlocks rfl (kd dtX4_startOf_0 11 rfl)
theorem wmX4_41 : Cond.methodLink RX4 41 yX4_startOf ∈ kT := kTm 909 (by decide +kernel) rfl
theorem mwX4_startOf : kMV RX4 yX4_startOf cX4_startOf 2 (some .int) := ⟨kTm 752 (by decide +kernel) rfl, kTm 100 (by decide +kernel) rfl, kTm 750 (by decide +kernel) rfl, kTm 751 (by decide +kernel) rfl⟩
theorem wmX4_48 : Cond.methodLink RX4 48 yX1_add ∈ kT := kTm 911 (by decide +kernel) rfl
theorem wmX4_44 : Cond.methodLink RX4 44 yX1_addPart ∈ kT := kTm 910 (by decide +kernel) rfl
def lX4_addPut_0 : List (Nat × Instr × Nat) := [(0, .aload_n 2, 1), (1, .iload_n 3, 1), (2, .invokevirtual 25, 3), (5, .istore 4, 2), (7, .iload_n 3, 1), (8, .istore 5, 2), (10, .iload 5, 2), (12, .iload 4, 2), (14, .if_icmp .ge 59, 3), (17, .aload_n 0, 1), (18, .aload_n 2, 1), (19, .iload 5, 2), (21, .invokevirtual 31, 3), (24, .invokestatic 34, 3), (27, .invokevirtual 41, 3), (30, .istore 6, 2), (32, .iload 6, 2), (34, .ifCond .lt 23, 3), (37, .aload_n 0, 1), (38, .getfield 15, 3), (41, .ifnull 16, 3), (44, .aload_n 1, 1), (45, .aload_n 0, 1), (46, .getfield 15, 3), (49, .iload 6, 2), (51, .invokevirtual 44, 3), (54, .goto 13, 3), (57, .aload_n 1, 1), (58, .aload_n 2, 1), (59, .iload 5, 2), (61, .invokevirtual 31, 3), (64, .invokevirtual 48, 3), (67, .iinc 5 1, 3), (70, .goto (-60), 3), (73, .return_, 1)]
theorem dtX4_addPut_0 : kDec cX4_addPut lX4_addPut_0 = true := by decide +kernel
noncomputable def fX4_addPut_L10 (x0 : Nat) (x1 : Option Nat) (x2 : Option Nat) (x3 : Int32) (x4 : Int32) : Nat → (Int32 → kW → Option kW) → Int32 → kW → Option kW
  | 0, _, _, _ => none
  | n + 1, k, x5, w =>
  if x4 ≤ x5 then
  k x5 w
  else
  (kRc w 1 x2).bind fun b1 =>
  (fX1_at b1 x5 w).bind fun v3 =>
  (fX11_letterOf v3).bind fun v5 =>
  (kRc w 4 (some x0)).bind fun b6 =>
  (fX4_startOf b6 v5 w).bind fun v8 =>
  if v8 < 0 then
  (kRc w 1 x2).bind fun b9 =>
  (fX1_at b9 x5 w).bind fun v11 =>
  (kRc w 1 x1).bind fun b12 =>
  (fX1_add b12 v11 w).bind fun w13 =>
  fX4_addPut_L10 x0 x1 x2 x3 x4 n k (x5 + (1 : Int32)) w13
  else
  (kgP w 4 (some x0) 1).bind fun v15 =>
  if v15 = none then
  (kRc w 1 x2).bind fun b16 =>
  (fX1_at b16 x5 w).bind fun v18 =>
  (kRc w 1 x1).bind fun b19 =>
  (fX1_add b19 v18 w).bind fun w20 =>
  fX4_addPut_L10 x0 x1 x2 x3 x4 n k (x5 + (1 : Int32)) w20
  else
  (kgP w 4 (some x0) 1).bind fun v22 =>
  (kRc w 1 x1).bind fun b23 =>
  (fX1_addPart b23 v22 v8 w).bind fun w24 =>
  fX4_addPut_L10 x0 x1 x2 x3 x4 n k (x5 + (1 : Int32)) w24

noncomputable def fX4_addPut (x0 : Nat) (x1 : Option Nat) (x2 : Option Nat) (x3 : Int32) (w : kW) : Option kW :=
  (kRc w 1 x2).bind fun b1 =>
  (fX1_endAt b1 x3 w).bind fun v3 =>
  fX4_addPut_L10 x0 x1 x2 x3 v3 kFU (fun y5_4 w5 => some w5) x3 w

set_option maxHeartbeats 4000000 in
set_option maxRecDepth 100000 in
theorem rX4_addPut (l : Launch) (D : va_G) (aC : Nat → ClassId) {x0 : Nat} {x1 : Option Nat} {x2 : Option Nat} {x3 : Int32} {w : kW} {wR : kW} (h : fX4_addPut x0 x1 x2 x3 w = some wR) : kC l D aC yX4_addPut cX4_addPut 7 none 3 57 [.ref x0, va_rf x1, va_rf x2, .int x3] w none wR 0 0 := by
  refine kOf (own := RX4) (by decide) rfl (by simp [lg_sl, kcat_rf, kcat_i, kcat_r, kcat_l]) ?_
  intro p e s m below meth c ls F hml hr hlocks hnm hX hZ hl
  obtain ⟨hx, hb, hts, hown, hK⟩ := id F
  have hl : lv_has ls 7 [(0, .ref x0), (1, va_rf x1), (2, va_rf x2), (3, .int x3)] := by simpa [lv_args, kcat_rf, kcat_i, kcat_r, kcat_l] using hl
  have hf := h
  rw [fX4_addPut] at hf
  refine kaload_n hx hb (kd dtX4_addPut_0 0 rfl) rfl (lv_at hl 2 rfl) ?_
  refine lv_iload_n hx hb (kd dtX4_addPut_0 1 rfl) rfl (lv_at hl 3 rfl) ?_
  obtain ⟨b1, hb1, hf⟩ := kbind hf
  obtain ⟨hrb1, hkb1⟩ := kRc_s hb1
  obtain ⟨v3, h2, hf⟩ := kbind hf
  refine kcallV (n := 1) [.int x3] [] [.int v3] (rX1_endAt l D aC h2) hrb1 hkb1 F hml hX hZ hl.1 mwX1_endAt wmX4_25 rfl (by decide) (by decide +kernel) ⟨(by decide), (by decide)⟩ rfl rfl rfl (Nat.le_of_ble_eq_true rfl) (kd dtX4_addPut_0 2 rfl) ⟨Nat.zero_le _, Nat.zero_le _⟩ (fun H locs hX => ?_)
  refine lv_istore (lv' := [(4, .int v3), (0, .ref x0), (1, va_rf x1), (2, va_rf x2), (3, .int x3)]) hx hb (kd dtX4_addPut_0 3 rfl) hl (by decide) rfl (fun ls hl => ?_)
  refine lv_iload_n hx hb (kd dtX4_addPut_0 4 rfl) rfl (lv_at hl 4 rfl) ?_
  refine lv_istore (lv' := [(5, .int x3), (4, .int v3), (0, .ref x0), (1, va_rf x1), (2, va_rf x2), (3, .int x3)]) hx hb (kd dtX4_addPut_0 5 rfl) hl (by decide) rfl (fun ls hl => ?_)
  have hL10 : ∀ (n : Nat) (k : Int32 → kW → Option kW), ∀ (z5_10 : Int32) (w_10 : kW) (H : Heap) (locs : List Loc) (ls : Array Slot), kX D aC w s.heap w_10 H locs → lv_has ls 7 [(0, .ref x0), (1, va_rf x1), (2, va_rf x2), (3, .int x3), (4, .int v3), (5, .int z5_10)] → fX4_addPut_L10 x0 x1 x2 x3 v3 n k z5_10 w_10 = some wR → (∀ (z5_10 : Int32) (w_10 : kW) (H : Heap) (locs : List Loc) (ls : Array Slot), kX D aC w s.heap w_10 H locs → lv_has ls 7 [(0, .ref x0), (1, va_rf x1), (2, va_rf x2), (3, .int x3), (4, .int v3), (5, .int z5_10)] → k z5_10 w_10 = some wR → W p l e { frames := 3, cells := 0, slots := 0, locals := 57 } s m ([.ref x0, va_rf x1, va_rf x2, .int x3] : List Value).toArray below meth c H locs 0 0 (MQ below (kQc D aC w none wR) ([.ref x0, va_rf x1, va_rf x2, .int x3] : List Value).toArray s 0 0 (kA w)) (F0 m 73 ls [])) → W p l e { frames := 3, cells := 0, slots := 0, locals := 57 } s m ([.ref x0, va_rf x1, va_rf x2, .int x3] : List Value).toArray below meth c H locs 0 0 (MQ below (kQc D aC w none wR) ([.ref x0, va_rf x1, va_rf x2, .int x3] : List Value).toArray s 0 0 (kA w)) (F0 m 10 ls []) := by
    intro n k
    induction n with
    | zero =>
      intro z5_10 w_10 H locs ls hX hl hf hk
      rw [fX4_addPut_L10] at hf
      cases hf
    | succ n ih =>
      intro z5_10 w_10 H locs ls hX hl hf hk
      rw [fX4_addPut_L10] at hf
      refine lv_iload hx hb (kd dtX4_addPut_0 6 rfl) (lv_at hl 5 rfl) ?_
      refine lv_iload hx hb (kd dtX4_addPut_0 7 rfl) (lv_at hl 4 rfl) ?_
      refine lv_icmp_ge (tgt := 73) hx hb (kd dtX4_addPut_0 8 rfl) (by decide) (fun hc => ?_) (fun hc => ?_)
      · have hf := kif_pos hc hf
        exact hk z5_10 w_10 _ _ _ hX hl hf
      · have hf := kif_neg hc hf
        refine lv_aload_n hx hb (kd dtX4_addPut_0 9 rfl) rfl (lv_at hl 0 rfl) ?_
        refine kaload_n hx hb (kd dtX4_addPut_0 10 rfl) rfl (lv_at hl 2 rfl) ?_
        refine lv_iload hx hb (kd dtX4_addPut_0 11 rfl) (lv_at hl 5 rfl) ?_
        obtain ⟨b6, hb6, hf⟩ := kbind hf
        obtain ⟨hrb6, hkb6⟩ := kRc_s hb6
        obtain ⟨v8, h7, hf⟩ := kbind hf
        refine kcallV (n := 1) [.int z5_10] [.ref x0] [.int v8, .ref x0] (rX1_at l D aC h7) hrb6 hkb6 F hml hX hZ hl.1 mwX1_at wmX4_31 rfl (by decide) (by decide +kernel) ⟨(by decide), (by decide)⟩ rfl rfl rfl (Nat.le_of_ble_eq_true rfl) (kd dtX4_addPut_0 12 rfl) ⟨Nat.zero_le _, Nat.zero_le _⟩ (fun H locs hX => ?_)
        obtain ⟨v10, h9, hf⟩ := kbind hf
        refine kcallSN (n := 1) [.int v8] [.ref x0] [.int v10, .ref x0] (rX11_letterOf l D aC w_10 h9) F hml hX hZ hl.1 mwX11_letterOf wmX4_34 (by decide +kernel) ⟨(by decide), (by decide)⟩ rfl rfl rfl (Nat.le_of_ble_eq_true rfl) (kd dtX4_addPut_0 13 rfl) ⟨Nat.zero_le _, Nat.zero_le _⟩ (fun H locs hX => ?_)
        obtain ⟨b11, hb11, hf⟩ := kbind hf
        obtain ⟨hrb11, hkb11⟩ := kRc_s hb11
        obtain ⟨v13, h12, hf⟩ := kbind hf
        refine kcallV (n := 1) [.int v10] [] [.int v13] (rX4_startOf l D aC h12) hrb11 hkb11 F hml hX hZ hl.1 mwX4_startOf wmX4_41 rfl (by decide) (by decide +kernel) ⟨(by decide), (by decide)⟩ rfl rfl rfl (Nat.le_of_ble_eq_true rfl) (kd dtX4_addPut_0 14 rfl) ⟨Nat.zero_le _, Nat.zero_le _⟩ (fun H locs hX => ?_)
        refine lv_istore (lv' := [(6, .int v13), (0, .ref x0), (1, va_rf x1), (2, va_rf x2), (3, .int x3), (4, .int v3), (5, .int z5_10)]) hx hb (kd dtX4_addPut_0 15 rfl) hl (by decide) rfl (fun ls hl => ?_)
        refine lv_iload hx hb (kd dtX4_addPut_0 16 rfl) (lv_at hl 0 rfl) ?_
        refine lv_if_lt (tgt := 57) hx hb (kd dtX4_addPut_0 17 rfl) (by decide) (fun hc => ?_) (fun hc => ?_)
        · have hf := kif_pos hc hf
          refine kaload_n hx hb (kd dtX4_addPut_0 27 rfl) rfl (lv_at hl 2 rfl) ?_
          refine kaload_n hx hb (kd dtX4_addPut_0 28 rfl) rfl (lv_at hl 3 rfl) ?_
          refine lv_iload hx hb (kd dtX4_addPut_0 29 rfl) (lv_at hl 6 rfl) ?_
          obtain ⟨b14, hb14, hf⟩ := kbind hf
          obtain ⟨hrb14, hkb14⟩ := kRc_s hb14
          obtain ⟨v16, h15, hf⟩ := kbind hf
          refine kcallV (n := 1) [.int z5_10] [va_rf x1] [.int v16, va_rf x1] (rX1_at l D aC h15) hrb14 hkb14 F hml hX hZ hl.1 mwX1_at wmX4_31 rfl (by decide) (by decide +kernel) ⟨(by decide), (by decide)⟩ rfl rfl rfl (by simp [kcat_rf, kcat_i, kcat_r, kcat_l]) (kd dtX4_addPut_0 30 rfl) ⟨Nat.zero_le _, Nat.zero_le _⟩ (fun H locs hX => ?_)
          obtain ⟨b17, hb17, hf⟩ := kbind hf
          obtain ⟨hrb17, hkb17⟩ := kRc_s hb17
          obtain ⟨w18, h19, hf⟩ := kbind hf
          refine kcallV (n := 1) [.int v16] [] [] (rX1_add l D aC h19) hrb17 hkb17 F hml hX hZ hl.1 mwX1_add wmX4_48 rfl (by decide) (by decide +kernel) ⟨(by decide), (by decide)⟩ rfl rfl rfl (Nat.le_of_ble_eq_true rfl) (kd dtX4_addPut_0 31 rfl) ⟨Nat.zero_le _, Nat.zero_le _⟩ (fun H locs hX => ?_)
          refine lv_iinc (v := z5_10 + (1 : Int32)) (lv' := [(5, .int (z5_10 + (1 : Int32))), (6, .int v13), (0, .ref x0), (1, va_rf x1), (2, va_rf x2), (3, .int x3), (4, .int v3)]) hx hb (kd dtX4_addPut_0 32 rfl) hl (k := 6) rfl (by rfl) (by decide) rfl (fun ls hl => ?_)
          refine lv_goto (tgt := 10) hx hb (kd dtX4_addPut_0 33 rfl) (by decide) ?_
          exact ih (z5_10 + (1 : Int32)) w18 _ _ _ hX (lv_sub hl [2, 3, 4, 5, 6, 0] rfl) hf hk
        · have hf := kif_neg hc hf
          refine lv_aload_n hx hb (kd dtX4_addPut_0 18 rfl) rfl (lv_at hl 1 rfl) ?_
          obtain ⟨v20, hv20, hf⟩ := kbind hf
          refine kgetP hv20 F hX hinX4 rfl rfl rfl (by decide) (by decide) wfX4_15 (kd dtX4_addPut_0 19 rfl) ?_
          refine kifnull (tgt := 57) hx hb (kd dtX4_addPut_0 20 rfl) (by decide) (fun hc => ?_) (fun hc => ?_)
          · have hf := kif_pos hc hf
            refine kaload_n hx hb (kd dtX4_addPut_0 27 rfl) rfl (lv_at hl 2 rfl) ?_
            refine kaload_n hx hb (kd dtX4_addPut_0 28 rfl) rfl (lv_at hl 3 rfl) ?_
            refine lv_iload hx hb (kd dtX4_addPut_0 29 rfl) (lv_at hl 6 rfl) ?_
            obtain ⟨b21, hb21, hf⟩ := kbind hf
            obtain ⟨hrb21, hkb21⟩ := kRc_s hb21
            obtain ⟨v23, h22, hf⟩ := kbind hf
            refine kcallV (n := 1) [.int z5_10] [va_rf x1] [.int v23, va_rf x1] (rX1_at l D aC h22) hrb21 hkb21 F hml hX hZ hl.1 mwX1_at wmX4_31 rfl (by decide) (by decide +kernel) ⟨(by decide), (by decide)⟩ rfl rfl rfl (by simp [kcat_rf, kcat_i, kcat_r, kcat_l]) (kd dtX4_addPut_0 30 rfl) ⟨Nat.zero_le _, Nat.zero_le _⟩ (fun H locs hX => ?_)
            obtain ⟨b24, hb24, hf⟩ := kbind hf
            obtain ⟨hrb24, hkb24⟩ := kRc_s hb24
            obtain ⟨w25, h26, hf⟩ := kbind hf
            refine kcallV (n := 1) [.int v23] [] [] (rX1_add l D aC h26) hrb24 hkb24 F hml hX hZ hl.1 mwX1_add wmX4_48 rfl (by decide) (by decide +kernel) ⟨(by decide), (by decide)⟩ rfl rfl rfl (Nat.le_of_ble_eq_true rfl) (kd dtX4_addPut_0 31 rfl) ⟨Nat.zero_le _, Nat.zero_le _⟩ (fun H locs hX => ?_)
            refine lv_iinc (v := z5_10 + (1 : Int32)) (lv' := [(5, .int (z5_10 + (1 : Int32))), (6, .int v13), (0, .ref x0), (1, va_rf x1), (2, va_rf x2), (3, .int x3), (4, .int v3)]) hx hb (kd dtX4_addPut_0 32 rfl) hl (k := 6) rfl (by rfl) (by decide) rfl (fun ls hl => ?_)
            refine lv_goto (tgt := 10) hx hb (kd dtX4_addPut_0 33 rfl) (by decide) ?_
            exact ih (z5_10 + (1 : Int32)) w25 _ _ _ hX (lv_sub hl [2, 3, 4, 5, 6, 0] rfl) hf hk
          · have hf := kif_neg hc hf
            refine kaload_n hx hb (kd dtX4_addPut_0 21 rfl) rfl (lv_at hl 2 rfl) ?_
            refine lv_aload_n hx hb (kd dtX4_addPut_0 22 rfl) rfl (lv_at hl 1 rfl) ?_
            obtain ⟨v27, hv27, hf⟩ := kbind hf
            refine kgetP hv27 F hX hinX4 rfl rfl rfl (by decide) (by decide) wfX4_15 (kd dtX4_addPut_0 23 rfl) ?_
            refine lv_iload hx hb (kd dtX4_addPut_0 24 rfl) (lv_at hl 0 rfl) ?_
            obtain ⟨b28, hb28, hf⟩ := kbind hf
            obtain ⟨hrb28, hkb28⟩ := kRc_s hb28
            obtain ⟨w29, h30, hf⟩ := kbind hf
            refine kcallV (n := 2) [va_rf v27, .int v13] [] [] (rX1_addPart l D aC h30) hrb28 hkb28 F hml hX hZ hl.1 mwX1_addPart wmX4_44 rfl (by decide) (by decide +kernel) ⟨(by decide), (by decide)⟩ rfl rfl rfl (Nat.le_of_ble_eq_true rfl) (kd dtX4_addPut_0 25 rfl) ⟨Nat.zero_le _, Nat.zero_le _⟩ (fun H locs hX => ?_)
            refine lv_goto (tgt := 67) hx hb (kd dtX4_addPut_0 26 rfl) (by decide) ?_
            refine lv_iinc (v := z5_10 + (1 : Int32)) (lv' := [(5, .int (z5_10 + (1 : Int32))), (6, .int v13), (0, .ref x0), (1, va_rf x1), (2, va_rf x2), (3, .int x3), (4, .int v3)]) hx hb (kd dtX4_addPut_0 32 rfl) hl (k := 6) rfl (by rfl) (by decide) rfl (fun ls hl => ?_)
            refine lv_goto (tgt := 10) hx hb (kd dtX4_addPut_0 33 rfl) (by decide) ?_
            exact ih (z5_10 + (1 : Int32)) w29 _ _ _ hX (lv_sub hl [2, 3, 4, 5, 6, 0] rfl) hf hk
  refine hL10 kFU _ x3 w _ _ _ hX (lv_sub hl [2, 3, 4, 5, 1, 0] rfl) hf ?_
  intro y5_4 w5 H locs ls hX hl hf
  cases hf
  exact kvret F hX hr hlocks rfl (kd dtX4_addPut_0 34 rfl)
