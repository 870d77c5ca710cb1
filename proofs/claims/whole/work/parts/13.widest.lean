theorem wmX9_3 : Cond.methodLink RX9 3 objectInit ∈ kT := kTm 277 (by decide +kernel) rfl
theorem wkX9_9 : Cond.classLink RX9 9 RX1 ∈ kT := kTm 278 (by decide +kernel) rfl
theorem wmX9_11 : Cond.methodLink RX9 11 yX1_init ∈ kT := kTm 279 (by decide +kernel) rfl
theorem wfX9_14 : Cond.fieldLink RX9 14 (TX9 0).1 (TX9 0).2.1 (TX9 0).2.2.1 ∈ kT := kTm 280 (by decide +kernel) rfl
theorem wfX9_20 : Cond.fieldLink RX9 20 (TX9 1).1 (TX9 1).2.1 (TX9 1).2.2.1 ∈ kT := kTm 282 (by decide +kernel) rfl
theorem wfX9_23 : Cond.fieldLink RX9 23 (TX9 2).1 (TX9 2).2.1 (TX9 2).2.2.1 ∈ kT := kTm 283 (by decide +kernel) rfl
theorem wfX9_26 : Cond.fieldLink RX9 26 (TX9 3).1 (TX9 3).2.1 (TX9 3).2.2.1 ∈ kT := kTm 284 (by decide +kernel) rfl
def lX9_init_0 : List (Nat × Instr × Nat) := [(0, .aload_n 0, 1), (1, .invokespecial 3, 3), (4, .aload_n 0, 1), (5, .new 9, 3), (8, .dup, 1), (9, .sipush 200, 3), (12, .invokespecial 11, 3), (15, .putfield 14, 3), (18, .aload_n 0, 1), (19, .new 9, 3), (22, .dup, 1), (23, .sipush 200, 3), (26, .invokespecial 11, 3), (29, .putfield 20, 3), (32, .aload_n 0, 1), (33, .new 9, 3), (36, .dup, 1), (37, .sipush 200, 3), (40, .invokespecial 11, 3), (43, .putfield 23, 3), (46, .aload_n 0, 1), (47, .new 9, 3), (50, .dup, 1), (51, .sipush 200, 3), (54, .invokespecial 11, 3), (57, .putfield 26, 3), (60, .return_, 1)]
theorem dtX9_init_0 : kDec cX9_init lX9_init_0 = true := by decide +kernel
noncomputable def fX9_init (x0 : Nat) (w : kW) : Option kW :=
  (knO w 1).bind fun w1 =>
  (fX1_init (kSz w) (200 : Int32) w1).bind fun w2 =>
  (kpP w2 9 (some x0) 0 (some (kSz w))).bind fun w4 =>
  (knO w4 1).bind fun w5 =>
  (fX1_init (kSz w4) (200 : Int32) w5).bind fun w6 =>
  (kpP w6 9 (some x0) 1 (some (kSz w4))).bind fun w8 =>
  (knO w8 1).bind fun w9 =>
  (fX1_init (kSz w8) (200 : Int32) w9).bind fun w10 =>
  (kpP w10 9 (some x0) 2 (some (kSz w8))).bind fun w12 =>
  (knO w12 1).bind fun w13 =>
  (fX1_init (kSz w12) (200 : Int32) w13).bind fun w14 =>
  (kpP w14 9 (some x0) 3 (some (kSz w12))).bind fun w16 =>
  some w16

set_option maxHeartbeats 4000000 in
set_option maxRecDepth 100000 in
theorem rX9_init (l : Launch) (D : va_G) (aC : Nat → ClassId) {x0 : Nat} {w : kW} {wR : kW} (h : fX9_init x0 w = some wR) : kC l D aC yX9_init cX9_init 1 none 2 43 [.ref x0] w none wR 24 4032 := by
  refine kOf (own := RX9) (by decide) rfl (Nat.le_of_ble_eq_true rfl) ?_
  intro p e s m below meth c ls F hml hr hlocks hnm hX hZ hl
  obtain ⟨hx, hb, hts, hown, hK⟩ := id F
  have hl : lv_has ls 1 [(0, .ref x0)] := hl
  have hf := h
  rw [fX9_init] at hf
  refine lv_aload_n hx hb (kd dtX9_init_0 0 rfl) rfl (lv_at hl 0 rfl) ?_
  refine kobj F (hml.trans hl.1.symm) wmX9_3 (Nat.le_of_ble_eq_true rfl) (Nat.le_of_ble_eq_true rfl) (kd dtX9_init_0 1 rfl) ?_
  refine lv_aload_n hx hb (kd dtX9_init_0 2 rfl) rfl (lv_at hl 0 rfl) ?_
  obtain ⟨w1, hw1, hf⟩ := kbind hf
  refine knewo (k := 1) hw1 F hX hinX1 tyX1_ok (by decide +kernel) rfl rfl (by decide) wkX9_9 wnX1 wiX1 (Nat.le_of_ble_eq_true rfl) (Nat.le_of_ble_eq_true rfl) (kd dtX9_init_0 3 rfl) (fun H hX => ?_)
  refine lv_dup hx hb (kd dtX9_init_0 4 rfl) rfl ?_
  refine lv_sipush (v := (200 : Int32)) hx hb (kd dtX9_init_0 5 rfl) (by decide) ?_
  obtain ⟨w2, h3, hf⟩ := kbind hf
  refine kcallI (n := 1) [.int (200 : Int32)] [.ref (kSz w), .ref x0] [.ref (kSz w), .ref x0] (rX1_init l D aC h3) F hml hX hZ hl.1 mwX1_init wmX9_11 rfl (by decide +kernel) ⟨(by decide), (by decide)⟩ rfl rfl rfl (Nat.le_of_ble_eq_true rfl) (kd dtX9_init_0 6 rfl) ⟨Nat.le_of_ble_eq_true rfl, Nat.le_of_ble_eq_true rfl⟩ (fun H locs hX => ?_)
  obtain ⟨w4, hw4, hf⟩ := kbind hf
  refine kputP hw4 F hX hinX9 tyX9_ok nmX9 rfl rfl rfl (by decide) (by decide) wfX9_14 (Or.inr ⟨rfl, hnm, rfl⟩) (kd dtX9_init_0 7 rfl) (fun H locs hX => ?_)
  refine lv_aload_n hx hb (kd dtX9_init_0 8 rfl) rfl (lv_at hl 0 rfl) ?_
  obtain ⟨w5, hw5, hf⟩ := kbind hf
  refine knewo (k := 1) hw5 F hX hinX1 tyX1_ok (by decide +kernel) rfl rfl (by decide) wkX9_9 wnX1 wiX1 (Nat.le_of_ble_eq_true rfl) (Nat.le_of_ble_eq_true rfl) (kd dtX9_init_0 9 rfl) (fun H hX => ?_)
  refine lv_dup hx hb (kd dtX9_init_0 10 rfl) rfl ?_
  refine lv_sipush (v := (200 : Int32)) hx hb (kd dtX9_init_0 11 rfl) (by decide) ?_
  obtain ⟨w6, h7, hf⟩ := kbind hf
  refine kcallI (n := 1) [.int (200 : Int32)] [.ref (kSz w4), .ref x0] [.ref (kSz w4), .ref x0] (rX1_init l D aC h7) F hml hX hZ hl.1 mwX1_init wmX9_11 rfl (by decide +kernel) ⟨(by decide), (by decide)⟩ rfl rfl rfl (Nat.le_of_ble_eq_true rfl) (kd dtX9_init_0 12 rfl) ⟨Nat.le_of_ble_eq_true rfl, Nat.le_of_ble_eq_true rfl⟩ (fun H locs hX => ?_)
  obtain ⟨w8, hw8, hf⟩ := kbind hf
  refine kputP hw8 F hX hinX9 tyX9_ok nmX9 rfl rfl rfl (by decide) (by decide) wfX9_20 (Or.inr ⟨rfl, hnm, rfl⟩) (kd dtX9_init_0 13 rfl) (fun H locs hX => ?_)
  refine lv_aload_n hx hb (kd dtX9_init_0 14 rfl) rfl (lv_at hl 0 rfl) ?_
  obtain ⟨w9, hw9, hf⟩ := kbind hf
  refine knewo (k := 1) hw9 F hX hinX1 tyX1_ok (by decide +kernel) rfl rfl (by decide) wkX9_9 wnX1 wiX1 (Nat.le_of_ble_eq_true rfl) (Nat.le_of_ble_eq_true rfl) (kd dtX9_init_0 15 rfl) (fun H hX => ?_)
  refine lv_dup hx hb (kd dtX9_init_0 16 rfl) rfl ?_
  refine lv_sipush (v := (200 : Int32)) hx hb (kd dtX9_init_0 17 rfl) (by decide) ?_
  obtain ⟨w10, h11, hf⟩ := kbind hf
  refine kcallI (n := 1) [.int (200 : Int32)] [.ref (kSz w8), .ref x0] [.ref (kSz w8), .ref x0] (rX1_init l D aC h11) F hml hX hZ hl.1 mwX1_init wmX9_11 rfl (by decide +kernel) ⟨(by decide), (by decide)⟩ rfl rfl rfl (Nat.le_of_ble_eq_true rfl) (kd dtX9_init_0 18 rfl) ⟨Nat.le_of_ble_eq_true rfl, Nat.le_of_ble_eq_true rfl⟩ (fun H locs hX => ?_)
  obtain ⟨w12, hw12, hf⟩ := kbind hf
  refine kputP hw12 F hX hinX9 tyX9_ok nmX9 rfl rfl rfl (by decide) (by decide) wfX9_23 (Or.inr ⟨rfl, hnm, rfl⟩) (kd dtX9_init_0 19 rfl) (fun H locs hX => ?_)
  refine lv_aload_n hx hb (kd dtX9_init_0 20 rfl) rfl (lv_at hl 0 rfl) ?_
  obtain ⟨w13, hw13, hf⟩ := kbind hf
  refine knewo (k := 1) hw13 F hX hinX1 tyX1_ok (by decide +kernel) rfl rfl (by decide) wkX9_9 wnX1 wiX1 (Nat.le_of_ble_eq_true rfl) (Nat.le_of_ble_eq_true rfl) (kd dtX9_init_0 21 rfl) (fun H hX => ?_)
  refine lv_dup hx hb (kd dtX9_init_0 22 rfl) rfl ?_
  refine lv_sipush (v := (200 : Int32)) hx hb (kd dtX9_init_0 23 rfl) (by decide) ?_
  obtain ⟨w14, h15, hf⟩ := kbind hf
  refine kcallI (n := 1) [.int (200 : Int32)] [.ref (kSz w12), .ref x0] [.ref (kSz w12), .ref x0] (rX1_init l D aC h15) F hml hX hZ hl.1 mwX1_init wmX9_11 rfl (by decide +kernel) ⟨(by decide), (by decide)⟩ rfl rfl rfl (Nat.le_of_ble_eq_true rfl) (kd dtX9_init_0 24 rfl) ⟨Nat.le_of_ble_eq_true rfl, Nat.le_of_ble_eq_true rfl⟩ (fun H locs hX => ?_)
  obtain ⟨w16, hw16, hf⟩ := kbind hf
  refine kputP hw16 F hX hinX9 tyX9_ok nmX9 rfl rfl rfl (by decide) (by decide) wfX9_26 (Or.inr ⟨rfl, hnm, rfl⟩) (kd dtX9_init_0 25 rfl) (fun H locs hX => ?_)
  cases hf
  refine W.widen (k := 24) (n := 4032) (Nat.le_of_ble_eq_true rfl) (Nat.le_of_ble_eq_true rfl) ?_
  exact kvret F hX hr hlocks rfl (kd dtX9_init_0 26 rfl)
theorem wfX9_37 : Cond.fieldLinkNest RX9 37 (TX1 5).1 (TX1 5).2.1 (TX1 5).2.2.1 "KitchenCards" ∈ kNs := kNm 194 (by decide +kernel) rfl
theorem wmX9_45 : Cond.methodLink RX9 45 yX1_at ∈ kT := kTm 726 (by decide +kernel) rfl
def lX9_firstUnlike_0 : List (Nat × Instr × Nat) := [(0, .iconst 0, 1), (1, .istore_n 1, 1), (2, .iload_n 1, 1), (3, .aload_n 0, 1), (4, .getfield 14, 3), (7, .getfield 37, 3), (10, .if_icmp .ge 28, 3), (13, .aload_n 0, 1), (14, .getfield 14, 3), (17, .iload_n 1, 1), (18, .invokevirtual 45, 3), (21, .aload_n 0, 1), (22, .getfield 20, 3), (25, .iload_n 1, 1), (26, .invokevirtual 45, 3), (29, .if_icmp .ne 9, 3), (32, .iinc 1 1, 3), (35, .goto (-33), 3), (38, .iload_n 1, 1), (39, .ireturn, 1)]
theorem dtX9_firstUnlike_0 : kDec cX9_firstUnlike lX9_firstUnlike_0 = true := by decide +kernel
noncomputable def fX9_firstUnlike_L2 (x0 : Nat) (w : kW) : Nat → (Int32 → Option Int32) → Int32 → Option Int32
  | 0, _, _ => none
  | n + 1, k, x1 =>
  (kgP w 9 (some x0) 0).bind fun v1 =>
  (kgI w 1 v1 5).bind fun v2 =>
  if v2 ≤ x1 then
  k x1
  else
  (kgP w 9 (some x0) 0).bind fun v3 =>
  (kRc w 1 v3).bind fun b4 =>
  (fX1_at b4 x1 w).bind fun v6 =>
  (kgP w 9 (some x0) 1).bind fun v7 =>
  (kRc w 1 v7).bind fun b8 =>
  (fX1_at b8 x1 w).bind fun v10 =>
  if v6 = v10 then
  fX9_firstUnlike_L2 x0 w n k (x1 + (1 : Int32))
  else
  k x1

noncomputable def fX9_firstUnlike (x0 : Nat) (w : kW) : Option Int32 :=
  fX9_firstUnlike_L2 x0 w kFU (fun y1_1 => some y1_1) (0 : Int32)

set_option maxHeartbeats 4000000 in
set_option maxRecDepth 100000 in
theorem rX9_firstUnlike (l : Launch) (D : va_G) (aC : Nat → ClassId) {x0 : Nat} {w : kW} {oR : Int32} (h : fX9_firstUnlike x0 w = some oR) : kC l D aC yX9_firstUnlike cX9_firstUnlike 2 (some .int) 2 33 [.ref x0] w (some (.int oR)) w 0 0 := by
  refine kOf (own := RX9) (by decide) rfl (Nat.le_of_ble_eq_true rfl) ?_
  intro p e s m below meth c ls F hml hr hlocks hnm hX hZ hl
  obtain ⟨hx, hb, hts, hown, hK⟩ := id F
  have hl : lv_has ls 2 [(0, .ref x0)] := hl
  have hf := h
  rw [fX9_firstUnlike] at hf
  refine lv_iconst (v := (0 : Int32)) hx hb (kd dtX9_firstUnlike_0 0 rfl) (by decide) ?_
  refine lv_istore_n (lv' := [(1, .int (0 : Int32)), (0, .ref x0)]) hx hb (kd dtX9_firstUnlike_0 1 rfl) rfl hl (by decide) rfl (fun ls hl => ?_)
  have hL2 : ∀ (n : Nat) (k : Int32 → Option Int32), ∀ (z1_2 : Int32) (H : Heap) (locs : List Loc) (ls : Array Slot), kX D aC w s.heap w H locs → lv_has ls 2 [(0, .ref x0), (1, .int z1_2)] → fX9_firstUnlike_L2 x0 w n k z1_2 = some oR → (∀ (z1_2 : Int32) (H : Heap) (locs : List Loc) (ls : Array Slot), kX D aC w s.heap w H locs → lv_has ls 2 [(0, .ref x0), (1, .int z1_2)] → k z1_2 = some oR → W p l e { frames := 2, cells := 0, slots := 0, locals := 33 } s m ([.ref x0] : List Value).toArray below meth c H locs 0 0 (MQ below (kQc D aC w (some (.int oR)) w) ([.ref x0] : List Value).toArray s 0 0 (kA w)) (F0 m 38 ls [])) → W p l e { frames := 2, cells := 0, slots := 0, locals := 33 } s m ([.ref x0] : List Value).toArray below meth c H locs 0 0 (MQ below (kQc D aC w (some (.int oR)) w) ([.ref x0] : List Value).toArray s 0 0 (kA w)) (F0 m 2 ls []) := by
    intro n k
    induction n with
    | zero =>
      intro z1_2 H locs ls hX hl hf hk
      rw [fX9_firstUnlike_L2] at hf
      cases hf
    | succ n ih =>
      intro z1_2 H locs ls hX hl hf hk
      rw [fX9_firstUnlike_L2] at hf
      refine lv_iload_n hx hb (kd dtX9_firstUnlike_0 2 rfl) rfl (lv_at hl 1 rfl) ?_
      refine lv_aload_n hx hb (kd dtX9_firstUnlike_0 3 rfl) rfl (lv_at hl 0 rfl) ?_
      obtain ⟨v2, hv2, hf⟩ := kbind hf
      refine kgetP hv2 F hX hinX9 rfl rfl rfl (by decide) (by decide) wfX9_14 (kd dtX9_firstUnlike_0 4 rfl) ?_
      obtain ⟨v3, hv3, hf⟩ := kbind hf
      refine kgetIN hv3 F hX hinX1 rfl rfl rfl (by decide) (by decide) hZ wfX9_37 (kd dtX9_firstUnlike_0 5 rfl) ?_
      refine lv_icmp_ge (tgt := 38) hx hb (kd dtX9_firstUnlike_0 6 rfl) (by decide) (fun hc => ?_) (fun hc => ?_)
      · have hf := kif_pos hc hf
        exact hk z1_2 _ _ _ hX hl hf
      · have hf := kif_neg hc hf
        refine lv_aload_n hx hb (kd dtX9_firstUnlike_0 7 rfl) rfl (lv_at hl 0 rfl) ?_
        obtain ⟨v4, hv4, hf⟩ := kbind hf
        refine kgetP hv4 F hX hinX9 rfl rfl rfl (by decide) (by decide) wfX9_14 (kd dtX9_firstUnlike_0 8 rfl) ?_
        refine lv_iload_n hx hb (kd dtX9_firstUnlike_0 9 rfl) rfl (lv_at hl 1 rfl) ?_
        obtain ⟨b5, hb5, hf⟩ := kbind hf
        obtain ⟨hrb5, hkb5⟩ := kRc_s hb5
        obtain ⟨v7, h6, hf⟩ := kbind hf
        refine kcallV (n := 1) [.int z1_2] [] [.int v7] (rX1_at l D aC h6) hrb5 hkb5 F hml hX hZ hl.1 mwX1_at wmX9_45 rfl (by decide) (by decide +kernel) ⟨(by decide), (by decide)⟩ rfl rfl rfl (Nat.le_of_ble_eq_true rfl) (kd dtX9_firstUnlike_0 10 rfl) ⟨Nat.zero_le _, Nat.zero_le _⟩ (fun H locs hX => ?_)
        refine lv_aload_n hx hb (kd dtX9_firstUnlike_0 11 rfl) rfl (lv_at hl 0 rfl) ?_
        obtain ⟨v8, hv8, hf⟩ := kbind hf
        refine kgetP hv8 F hX hinX9 rfl rfl rfl (by decide) (by decide) wfX9_20 (kd dtX9_firstUnlike_0 12 rfl) ?_
        refine lv_iload_n hx hb (kd dtX9_firstUnlike_0 13 rfl) rfl (lv_at hl 1 rfl) ?_
        obtain ⟨b9, hb9, hf⟩ := kbind hf
        obtain ⟨hrb9, hkb9⟩ := kRc_s hb9
        obtain ⟨v11, h10, hf⟩ := kbind hf
        refine kcallV (n := 1) [.int z1_2] [.int v7] [.int v11, .int v7] (rX1_at l D aC h10) hrb9 hkb9 F hml hX hZ hl.1 mwX1_at wmX9_45 rfl (by decide) (by decide +kernel) ⟨(by decide), (by decide)⟩ rfl rfl rfl (Nat.le_of_ble_eq_true rfl) (kd dtX9_firstUnlike_0 14 rfl) ⟨Nat.zero_le _, Nat.zero_le _⟩ (fun H locs hX => ?_)
        refine lv_icmp_ne (tgt := 38) hx hb (kd dtX9_firstUnlike_0 15 rfl) (by decide) (fun hc => ?_) (fun hc => ?_)
        · have hf := kif_neg hc hf
          exact hk z1_2 _ _ _ hX hl hf
        · have hf := kif_pos hc hf
          refine lv_iinc (v := z1_2 + (1 : Int32)) (lv' := [(1, .int (z1_2 + (1 : Int32))), (0, .ref x0)]) hx hb (kd dtX9_firstUnlike_0 16 rfl) hl (k := 1) rfl (by rfl) (by decide) rfl (fun ls hl => ?_)
          refine lv_goto (tgt := 2) hx hb (kd dtX9_firstUnlike_0 17 rfl) (by decide) ?_
          exact ih (z1_2 + (1 : Int32)) _ _ _ hX (lv_sub hl [1, 0] rfl) hf hk
  refine hL2 kFU _ (0 : Int32) _ _ _ hX (lv_sub hl [1, 0] rfl) hf ?_
  intro y1_1 H locs ls hX hl hf
  refine lv_iload_n hx hb (kd dtX9_firstUnlike_0 18 rfl) rfl (lv_at hl 1 rfl) ?_
  cases hf
  exact kiret F hX hr hlocks rfl (kd dtX9_firstUnlike_0 19 rfl)
theorem wmX9_59 : Cond.methodLink RX9 59 yX1_clear ∈ kT := kTm 740 (by decide +kernel) rfl
theorem wmX9_65 : Cond.methodLink RX9 65 yX1_add ∈ kT := kTm 742 (by decide +kernel) rfl
theorem wmX9_62 : Cond.methodLink RX9 62 yX1_addPart ∈ kT := kTm 741 (by decide +kernel) rfl
theorem wfX9_68 : Cond.fieldLinkNest RX9 68 (TX1 6).1 (TX1 6).2.1 (TX1 6).2.2.1 "KitchenCards" ∈ kNs := kNm 201 (by decide +kernel) rfl
theorem wmX9_72 : Cond.methodLink RX9 72 yX1_settle ∈ kT := kTm 743 (by decide +kernel) rfl
theorem wmX9_29 : Cond.methodLink RX9 29 yX1_become ∈ kT := kTm 721 (by decide +kernel) rfl
def lX9_putEverywhere_0 : List (Nat × Instr × Nat) := [(0, .aload_n 0, 1), (1, .getfield 26, 3), (4, .invokevirtual 59, 3), (7, .iconst 0, 1), (8, .istore_n 3, 1), (9, .iload_n 3, 1), (10, .aload_n 1, 1), (11, .getfield 37, 3), (14, .if_icmp .ge 45, 3), (17, .aload_n 1, 1), (18, .iload_n 3, 1), (19, .invokevirtual 45, 3), (22, .iload_n 2, 1), (23, .if_icmp .ne 18, 3), (26, .aload_n 0, 1), (27, .getfield 26, 3), (30, .aload_n 0, 1), (31, .getfield 23, 3), (34, .iconst 0, 1), (35, .invokevirtual 62, 3), (38, .goto 15, 3), (41, .aload_n 0, 1), (42, .getfield 26, 3), (45, .aload_n 1, 1), (46, .iload_n 3, 1), (47, .invokevirtual 45, 3), (50, .invokevirtual 65, 3), (53, .iinc 3 1, 3), (56, .goto (-47), 3), (59, .aload_n 0, 1), (60, .getfield 26, 3), (63, .getfield 68, 3), (66, .ifCond .eq 5, 3), (69, .iconst 0, 1), (70, .ireturn, 1), (71, .aload_n 0, 1), (72, .getfield 26, 3), (75, .invokevirtual 72, 3), (78, .aload_n 1, 1), (79, .aload_n 0, 1), (80, .getfield 26, 3), (83, .iconst 0, 1), (84, .invokevirtual 29, 3), (87, .iconst 1, 1), (88, .ireturn, 1)]
theorem dtX9_putEverywhere_0 : kDec cX9_putEverywhere lX9_putEverywhere_0 = true := by decide +kernel
noncomputable def fX9_putEverywhere_L9 (x0 : Nat) (x1 : Option Nat) (x2 : Int32) : Nat → (Int32 → kW → Option (Int32 × kW)) → Int32 → kW → Option (Int32 × kW)
  | 0, _, _, _ => none
  | n + 1, k, x3, w =>
  (kgI w 1 x1 5).bind fun v1 =>
  if v1 ≤ x3 then
  k x3 w
  else
  (kRc w 1 x1).bind fun b2 =>
  (fX1_at b2 x3 w).bind fun v4 =>
  if v4 = x2 then
  (kgP w 9 (some x0) 3).bind fun v12 =>
  (kgP w 9 (some x0) 2).bind fun v13 =>
  (kRc w 1 v12).bind fun b14 =>
  (fX1_addPart b14 v13 (0 : Int32) w).bind fun w15 =>
  fX9_putEverywhere_L9 x0 x1 x2 n k (x3 + (1 : Int32)) w15
  else
  (kgP w 9 (some x0) 3).bind fun v5 =>
  (kRc w 1 x1).bind fun b6 =>
  (fX1_at b6 x3 w).bind fun v8 =>
  (kRc w 1 v5).bind fun b9 =>
  (fX1_add b9 v8 w).bind fun w10 =>
  fX9_putEverywhere_L9 x0 x1 x2 n k (x3 + (1 : Int32)) w10

noncomputable def fX9_putEverywhere (x0 : Nat) (x1 : Option Nat) (x2 : Int32) (w : kW) : Option (Int32 × kW) :=
  (kgP w 9 (some x0) 3).bind fun v1 =>
  (kRc w 1 v1).bind fun b2 =>
  (fX1_clear b2 w).bind fun w3 =>
  fX9_putEverywhere_L9 x0 x1 x2 kFU (fun y3_5 w6 => (kgP w6 9 (some x0) 3).bind fun v7 =>
  (kgI w6 1 v7 6).bind fun v8 =>
  if v8 = 0 then
  (kgP w6 9 (some x0) 3).bind fun v9 =>
  (kRc w6 1 v9).bind fun b10 =>
  (fX1_settle b10 w6).bind fun w11 =>
  (kgP w11 9 (some x0) 3).bind fun v13 =>
  (kRc w11 1 x1).bind fun b14 =>
  (fX1_become b14 v13 (0 : Int32) w11).bind fun w15 =>
  some ((1 : Int32), w15)
  else
  some ((0 : Int32), w6)) (0 : Int32) w3

set_option maxHeartbeats 4000000 in
set_option maxRecDepth 100000 in
theorem rX9_putEverywhere (l : Launch) (D : va_G) (aC : Nat → ClassId) {x0 : Nat} {x1 : Option Nat} {x2 : Int32} {w : kW} {wR : kW} {oR : Int32} (h : fX9_putEverywhere x0 x1 x2 w = some (oR, wR)) : kC l D aC yX9_putEverywhere cX9_putEverywhere 4 (some .boolean) 4 85 [.ref x0, va_rf x1, .int x2] w (some (.int oR)) wR 0 0 := by
  refine kOf (own := RX9) (by decide) rfl (by simp [lg_sl, kcat_rf, kcat_i, kcat_r, kcat_l]) ?_
  intro p e s m below meth c ls F hml hr hlocks hnm hX hZ hl
  obtain ⟨hx, hb, hts, hown, hK⟩ := id F
  have hl : lv_has ls 4 [(0, .ref x0), (1, va_rf x1), (2, .int x2)] := by simpa [lv_args, kcat_rf, kcat_i, kcat_r, kcat_l] using hl
  have hf := h
  rw [fX9_putEverywhere] at hf
  refine lv_aload_n hx hb (kd dtX9_putEverywhere_0 0 rfl) rfl (lv_at hl 0 rfl) ?_
  obtain ⟨v1, hv1, hf⟩ := kbind hf
  refine kgetP hv1 F hX hinX9 rfl rfl rfl (by decide) (by decide) wfX9_26 (kd dtX9_putEverywhere_0 1 rfl) ?_
  obtain ⟨b2, hb2, hf⟩ := kbind hf
  obtain ⟨hrb2, hkb2⟩ := kRc_s hb2
  obtain ⟨w3, h4, hf⟩ := kbind hf
  refine kcallV (n := 0) [] [] [] (rX1_clear l D aC h4) hrb2 hkb2 F hml hX hZ hl.1 mwX1_clear wmX9_59 rfl (by decide) (by decide +kernel) ⟨(by decide), (by decide)⟩ rfl rfl rfl (Nat.le_of_ble_eq_true rfl) (kd dtX9_putEverywhere_0 2 rfl) ⟨Nat.zero_le _, Nat.zero_le _⟩ (fun H locs hX => ?_)
  refine lv_iconst (v := (0 : Int32)) hx hb (kd dtX9_putEverywhere_0 3 rfl) (by decide) ?_
  refine lv_istore_n (lv' := [(3, .int (0 : Int32)), (0, .ref x0), (1, va_rf x1), (2, .int x2)]) hx hb (kd dtX9_putEverywhere_0 4 rfl) rfl hl (by decide) rfl (fun ls hl => ?_)
  have hL9 : ∀ (n : Nat) (k : Int32 → kW → Option (Int32 × kW)), ∀ (z3_9 : Int32) (w_9 : kW) (H : Heap) (locs : List Loc) (ls : Array Slot), kX D aC w s.heap w_9 H locs → lv_has ls 4 [(0, .ref x0), (1, va_rf x1), (2, .int x2), (3, .int z3_9)] → fX9_putEverywhere_L9 x0 x1 x2 n k z3_9 w_9 = some (oR, wR) → (∀ (z3_9 : Int32) (w_9 : kW) (H : Heap) (locs : List Loc) (ls : Array Slot), kX D aC w s.heap w_9 H locs → lv_has ls 4 [(0, .ref x0), (1, va_rf x1), (2, .int x2), (3, .int z3_9)] → k z3_9 w_9 = some (oR, wR) → W p l e { frames := 4, cells := 0, slots := 0, locals := 85 } s m ([.ref x0, va_rf x1, .int x2] : List Value).toArray below meth c H locs 0 0 (MQ below (kQc D aC w (some (.int oR)) wR) ([.ref x0, va_rf x1, .int x2] : List Value).toArray s 0 0 (kA w)) (F0 m 59 ls [])) → W p l e { frames := 4, cells := 0, slots := 0, locals := 85 } s m ([.ref x0, va_rf x1, .int x2] : List Value).toArray below meth c H locs 0 0 (MQ below (kQc D aC w (some (.int oR)) wR) ([.ref x0, va_rf x1, .int x2] : List Value).toArray s 0 0 (kA w)) (F0 m 9 ls []) := by
    intro n k
    induction n with
    | zero =>
      intro z3_9 w_9 H locs ls hX hl hf hk
      rw [fX9_putEverywhere_L9] at hf
      cases hf
    | succ n ih =>
      intro z3_9 w_9 H locs ls hX hl hf hk
      rw [fX9_putEverywhere_L9] at hf
      refine lv_iload_n hx hb (kd dtX9_putEverywhere_0 5 rfl) rfl (lv_at hl 3 rfl) ?_
      refine kaload_n hx hb (kd dtX9_putEverywhere_0 6 rfl) rfl (lv_at hl 1 rfl) ?_
      obtain ⟨v17, hv17, hf⟩ := kbind hf
      refine kgetIN hv17 F hX hinX1 rfl rfl rfl (by decide) (by decide) hZ wfX9_37 (kd dtX9_putEverywhere_0 7 rfl) ?_
      refine lv_icmp_ge (tgt := 59) hx hb (kd dtX9_putEverywhere_0 8 rfl) (by decide) (fun hc => ?_) (fun hc => ?_)
      · have hf := kif_pos hc hf
        exact hk z3_9 w_9 _ _ _ hX hl hf
      · have hf := kif_neg hc hf
        refine kaload_n hx hb (kd dtX9_putEverywhere_0 9 rfl) rfl (lv_at hl 1 rfl) ?_
        refine lv_iload_n hx hb (kd dtX9_putEverywhere_0 10 rfl) rfl (lv_at hl 3 rfl) ?_
        obtain ⟨b18, hb18, hf⟩ := kbind hf
        obtain ⟨hrb18, hkb18⟩ := kRc_s hb18
        obtain ⟨v20, h19, hf⟩ := kbind hf
        refine kcallV (n := 1) [.int z3_9] [] [.int v20] (rX1_at l D aC h19) hrb18 hkb18 F hml hX hZ hl.1 mwX1_at wmX9_45 rfl (by decide) (by decide +kernel) ⟨(by decide), (by decide)⟩ rfl rfl rfl (Nat.le_of_ble_eq_true rfl) (kd dtX9_putEverywhere_0 11 rfl) ⟨Nat.zero_le _, Nat.zero_le _⟩ (fun H locs hX => ?_)
        refine lv_iload_n hx hb (kd dtX9_putEverywhere_0 12 rfl) rfl (lv_at hl 2 rfl) ?_
        refine lv_icmp_ne (tgt := 41) hx hb (kd dtX9_putEverywhere_0 13 rfl) (by decide) (fun hc => ?_) (fun hc => ?_)
        · have hf := kif_neg hc hf
          refine lv_aload_n hx hb (kd dtX9_putEverywhere_0 21 rfl) rfl (lv_at hl 0 rfl) ?_
          obtain ⟨v21, hv21, hf⟩ := kbind hf
          refine kgetP hv21 F hX hinX9 rfl rfl rfl (by decide) (by decide) wfX9_26 (kd dtX9_putEverywhere_0 22 rfl) ?_
          refine kaload_n hx hb (kd dtX9_putEverywhere_0 23 rfl) rfl (lv_at hl 1 rfl) ?_
          refine lv_iload_n hx hb (kd dtX9_putEverywhere_0 24 rfl) rfl (lv_at hl 3 rfl) ?_
          obtain ⟨b22, hb22, hf⟩ := kbind hf
          obtain ⟨hrb22, hkb22⟩ := kRc_s hb22
          obtain ⟨v24, h23, hf⟩ := kbind hf
          refine kcallV (n := 1) [.int z3_9] [va_rf v21] [.int v24, va_rf v21] (rX1_at l D aC h23) hrb22 hkb22 F hml hX hZ hl.1 mwX1_at wmX9_45 rfl (by decide) (by decide +kernel) ⟨(by decide), (by decide)⟩ rfl rfl rfl (by simp [kcat_rf, kcat_i, kcat_r, kcat_l]) (kd dtX9_putEverywhere_0 25 rfl) ⟨Nat.zero_le _, Nat.zero_le _⟩ (fun H locs hX => ?_)
          obtain ⟨b25, hb25, hf⟩ := kbind hf
          obtain ⟨hrb25, hkb25⟩ := kRc_s hb25
          obtain ⟨w26, h27, hf⟩ := kbind hf
          refine kcallV (n := 1) [.int v24] [] [] (rX1_add l D aC h27) hrb25 hkb25 F hml hX hZ hl.1 mwX1_add wmX9_65 rfl (by decide) (by decide +kernel) ⟨(by decide), (by decide)⟩ rfl rfl rfl (Nat.le_of_ble_eq_true rfl) (kd dtX9_putEverywhere_0 26 rfl) ⟨Nat.zero_le _, Nat.zero_le _⟩ (fun H locs hX => ?_)
          refine lv_iinc (v := z3_9 + (1 : Int32)) (lv' := [(3, .int (z3_9 + (1 : Int32))), (0, .ref x0), (1, va_rf x1), (2, .int x2)]) hx hb (kd dtX9_putEverywhere_0 27 rfl) hl (k := 3) rfl (by rfl) (by decide) rfl (fun ls hl => ?_)
          refine lv_goto (tgt := 9) hx hb (kd dtX9_putEverywhere_0 28 rfl) (by decide) ?_
          exact ih (z3_9 + (1 : Int32)) w26 _ _ _ hX (lv_sub hl [1, 2, 3, 0] rfl) hf hk
        · have hf := kif_pos hc hf
          refine lv_aload_n hx hb (kd dtX9_putEverywhere_0 14 rfl) rfl (lv_at hl 0 rfl) ?_
          obtain ⟨v28, hv28, hf⟩ := kbind hf
          refine kgetP hv28 F hX hinX9 rfl rfl rfl (by decide) (by decide) wfX9_26 (kd dtX9_putEverywhere_0 15 rfl) ?_
          refine lv_aload_n hx hb (kd dtX9_putEverywhere_0 16 rfl) rfl (lv_at hl 0 rfl) ?_
          obtain ⟨v29, hv29, hf⟩ := kbind hf
          refine kgetP hv29 F hX hinX9 rfl rfl rfl (by decide) (by decide) wfX9_23 (kd dtX9_putEverywhere_0 17 rfl) ?_
          refine lv_iconst (v := (0 : Int32)) hx hb (kd dtX9_putEverywhere_0 18 rfl) (by decide) ?_
          obtain ⟨b30, hb30, hf⟩ := kbind hf
          obtain ⟨hrb30, hkb30⟩ := kRc_s hb30
          obtain ⟨w31, h32, hf⟩ := kbind hf
          refine kcallV (n := 2) [va_rf v29, .int (0 : Int32)] [] [] (rX1_addPart l D aC h32) hrb30 hkb30 F hml hX hZ hl.1 mwX1_addPart wmX9_62 rfl (by decide) (by decide +kernel) ⟨(by decide), (by decide)⟩ rfl rfl rfl (Nat.le_of_ble_eq_true rfl) (kd dtX9_putEverywhere_0 19 rfl) ⟨Nat.zero_le _, Nat.zero_le _⟩ (fun H locs hX => ?_)
          refine lv_goto (tgt := 53) hx hb (kd dtX9_putEverywhere_0 20 rfl) (by decide) ?_
          refine lv_iinc (v := z3_9 + (1 : Int32)) (lv' := [(3, .int (z3_9 + (1 : Int32))), (0, .ref x0), (1, va_rf x1), (2, .int x2)]) hx hb (kd dtX9_putEverywhere_0 27 rfl) hl (k := 3) rfl (by rfl) (by decide) rfl (fun ls hl => ?_)
          refine lv_goto (tgt := 9) hx hb (kd dtX9_putEverywhere_0 28 rfl) (by decide) ?_
          exact ih (z3_9 + (1 : Int32)) w31 _ _ _ hX (lv_sub hl [1, 2, 3, 0] rfl) hf hk
  refine hL9 kFU _ (0 : Int32) w3 _ _ _ hX (lv_sub hl [1, 2, 3, 0] rfl) hf ?_
  intro y3_5 w6 H locs ls hX hl hf
  refine lv_aload_n hx hb (kd dtX9_putEverywhere_0 29 rfl) rfl (lv_at hl 0 rfl) ?_
  obtain ⟨v7, hv7, hf⟩ := kbind hf
  refine kgetP hv7 F hX hinX9 rfl rfl rfl (by decide) (by decide) wfX9_26 (kd dtX9_putEverywhere_0 30 rfl) ?_
  obtain ⟨v8, hv8, hf⟩ := kbind hf
  refine kgetIN hv8 F hX hinX1 rfl rfl rfl (by decide) (by decide) hZ wfX9_68 (kd dtX9_putEverywhere_0 31 rfl) ?_
  refine lv_if_eq (tgt := 71) hx hb (kd dtX9_putEverywhere_0 32 rfl) (by decide) (fun hc => ?_) (fun hc => ?_)
  · have hf := kif_pos hc hf
    refine lv_aload_n hx hb (kd dtX9_putEverywhere_0 35 rfl) rfl (lv_at hl 0 rfl) ?_
    obtain ⟨v9, hv9, hf⟩ := kbind hf
    refine kgetP hv9 F hX hinX9 rfl rfl rfl (by decide) (by decide) wfX9_26 (kd dtX9_putEverywhere_0 36 rfl) ?_
    obtain ⟨b10, hb10, hf⟩ := kbind hf
    obtain ⟨hrb10, hkb10⟩ := kRc_s hb10
    obtain ⟨w11, h12, hf⟩ := kbind hf
    refine kcallV (n := 0) [] [] [] (rX1_settle l D aC h12) hrb10 hkb10 F hml hX hZ hl.1 mwX1_settle wmX9_72 rfl (by decide) (by decide +kernel) ⟨(by decide), (by decide)⟩ rfl rfl rfl (Nat.le_of_ble_eq_true rfl) (kd dtX9_putEverywhere_0 37 rfl) ⟨Nat.zero_le _, Nat.zero_le _⟩ (fun H locs hX => ?_)
    refine kaload_n hx hb (kd dtX9_putEverywhere_0 38 rfl) rfl (lv_at hl 1 rfl) ?_
    refine lv_aload_n hx hb (kd dtX9_putEverywhere_0 39 rfl) rfl (lv_at hl 0 rfl) ?_
    obtain ⟨v13, hv13, hf⟩ := kbind hf
    refine kgetP hv13 F hX hinX9 rfl rfl rfl (by decide) (by decide) wfX9_26 (kd dtX9_putEverywhere_0 40 rfl) ?_
    refine lv_iconst (v := (0 : Int32)) hx hb (kd dtX9_putEverywhere_0 41 rfl) (by decide) ?_
    obtain ⟨b14, hb14, hf⟩ := kbind hf
    obtain ⟨hrb14, hkb14⟩ := kRc_s hb14
    obtain ⟨w15, h16, hf⟩ := kbind hf
    refine kcallV (n := 2) [va_rf v13, .int (0 : Int32)] [] [] (rX1_become l D aC h16) hrb14 hkb14 F hml hX hZ hl.1 mwX1_become wmX9_29 rfl (by decide) (by decide +kernel) ⟨(by decide), (by decide)⟩ rfl rfl rfl (Nat.le_of_ble_eq_true rfl) (kd dtX9_putEverywhere_0 42 rfl) ⟨Nat.zero_le _, Nat.zero_le _⟩ (fun H locs hX => ?_)
    refine lv_iconst (v := (1 : Int32)) hx hb (kd dtX9_putEverywhere_0 43 rfl) (by decide) ?_
    cases hf
    exact kzret F hX hr hlocks rfl rfl (kd dtX9_putEverywhere_0 44 rfl)
  · have hf := kif_neg hc hf
    refine lv_iconst (v := (0 : Int32)) hx hb (kd dtX9_putEverywhere_0 33 rfl) (by decide) ?_
    cases hf
    exact kzret F hX hr hlocks rfl rfl (kd dtX9_putEverywhere_0 34 rfl)
theorem wmX9_49 : Cond.methodLinkNest RX9 49 yX11_letterOf "KitchenCards" ∈ kNs := kNm 731 (by decide +kernel) rfl
theorem wmX9_52 : Cond.methodLink RX9 52 yX1_has ∈ kT := kTm 732 (by decide +kernel) rfl
theorem mwX1_has : kMV RX1 yX1_has cX1_has 3 (some .boolean) := ⟨kTm 735 (by decide +kernel) rfl, kTm 97 (by decide +kernel) rfl, kTm 733 (by decide +kernel) rfl, kTm 734 (by decide +kernel) rfl⟩
theorem wmX9_55 : Cond.methodLink RX9 55 yX9_putEverywhere ∈ kT := kTm 736 (by decide +kernel) rfl
theorem mwX9_putEverywhere : kMV RX9 yX9_putEverywhere cX9_putEverywhere 4 (some .boolean) := ⟨kTm 739 (by decide +kernel) rfl, kTm 101 (by decide +kernel) rfl, kTm 738 (by decide +kernel) rfl, kTm 14 (by decide +kernel) rfl⟩
def lX9_putAt_0 : List (Nat × Instr × Nat) := [(0, .aload_n 0, 1), (1, .getfield 14, 3), (4, .iload_n 1, 1), (5, .invokevirtual 45, 3), (8, .invokestatic 49, 3), (11, .ifCond .lt 7, 3), (14, .iconst 1, 1), (15, .goto 4, 3), (18, .iconst 0, 1), (19, .istore_n 2, 1), (20, .iload_n 2, 1), (21, .ifCond .eq 14, 3), (24, .aload_n 0, 1), (25, .getfield 14, 3), (28, .iload_n 1, 1), (29, .invokevirtual 45, 3), (32, .goto 11, 3), (35, .aload_n 0, 1), (36, .getfield 20, 3), (39, .iload_n 1, 1), (40, .invokevirtual 45, 3), (43, .istore_n 3, 1), (44, .iload_n 3, 1), (45, .invokestatic 49, 3), (48, .ifCond .ge 5, 3), (51, .iconst 0, 1), (52, .ireturn, 1), (53, .aload_n 0, 1), (54, .getfield 23, 3), (57, .iload_n 2, 1), (58, .ifCond .eq 10, 3), (61, .aload_n 0, 1), (62, .getfield 20, 3), (65, .goto 7, 3), (68, .aload_n 0, 1), (69, .getfield 14, 3), (72, .iload_n 1, 1), (73, .invokevirtual 29, 3), (76, .aload_n 0, 1), (77, .getfield 23, 3), (80, .iload_n 3, 1), (81, .invokevirtual 52, 3), (84, .ifCond .ne 31, 3), (87, .aload_n 0, 1), (88, .aload_n 0, 1), (89, .getfield 14, 3), (92, .iload_n 3, 1), (93, .invokevirtual 55, 3), (96, .ifCond .eq 19, 3), (99, .aload_n 0, 1), (100, .aload_n 0, 1), (101, .getfield 20, 3), (104, .iload_n 3, 1), (105, .invokevirtual 55, 3), (108, .ifCond .eq 7, 3), (111, .iconst 1, 1), (112, .goto 4, 3), (115, .iconst 0, 1), (116, .ireturn, 1)]
theorem dtX9_putAt_0 : kDec cX9_putAt lX9_putAt_0 = true := by decide +kernel
noncomputable def fX9_putAt_J72 (x0 : Nat) (x1 : Int32) (x2 : Int32) (x3 : Int32) (s0 : Option Nat) (s1 : Option Nat) (w : kW) : Option (Int32 × kW) :=
  (kRc w 1 s0).bind fun b1 =>
  (fX1_become b1 s1 x1 w).bind fun w2 =>
  (kgP w2 9 (some x0) 2).bind fun v4 =>
  (kRc w2 1 v4).bind fun b5 =>
  (fX1_has b5 x3 w2).bind fun v7 =>
  if v7 = 0 then
  (kgP w2 9 (some x0) 0).bind fun v8 =>
  (kRc w2 9 (some x0)).bind fun b9 =>
  kb2 (fX9_putEverywhere b9 v8 x3 w2) fun v12 w10 =>
  if v12 = 0 then
  some ((0 : Int32), w10)
  else
  (kgP w10 9 (some x0) 1).bind fun v13 =>
  (kRc w10 9 (some x0)).bind fun b14 =>
  kb2 (fX9_putEverywhere b14 v13 x3 w10) fun v17 w15 =>
  if v17 = 0 then
  some ((0 : Int32), w15)
  else
  some ((1 : Int32), w15)
  else
  some ((0 : Int32), w2)

noncomputable def fX9_putAt_J43 (x0 : Nat) (x1 : Int32) (x2 : Int32) (s0 : Int32) (w : kW) : Option (Int32 × kW) :=
  (fX11_letterOf s0).bind fun v2 =>
  if 0 ≤ v2 then
  (kgP w 9 (some x0) 2).bind fun v3 =>
  if x2 = 0 then
  (kgP w 9 (some x0) 0).bind fun v4 =>
  fX9_putAt_J72 x0 x1 x2 s0 v3 v4 w
  else
  (kgP w 9 (some x0) 1).bind fun v5 =>
  fX9_putAt_J72 x0 x1 x2 s0 v3 v5 w
  else
  some ((0 : Int32), w)

noncomputable def fX9_putAt_J19 (x0 : Nat) (x1 : Int32) (s0 : Int32) (w : kW) : Option (Int32 × kW) :=
  if s0 = 0 then
  (kgP w 9 (some x0) 1).bind fun v1 =>
  (kRc w 1 v1).bind fun b2 =>
  (fX1_at b2 x1 w).bind fun v4 =>
  fX9_putAt_J43 x0 x1 s0 v4 w
  else
  (kgP w 9 (some x0) 0).bind fun v5 =>
  (kRc w 1 v5).bind fun b6 =>
  (fX1_at b6 x1 w).bind fun v8 =>
  fX9_putAt_J43 x0 x1 s0 v8 w

noncomputable def fX9_putAt (x0 : Nat) (x1 : Int32) (w : kW) : Option (Int32 × kW) :=
  (kgP w 9 (some x0) 0).bind fun v1 =>
  (kRc w 1 v1).bind fun b2 =>
  (fX1_at b2 x1 w).bind fun v4 =>
  (fX11_letterOf v4).bind fun v6 =>
  if v6 < 0 then
  fX9_putAt_J19 x0 x1 (0 : Int32) w
  else
  fX9_putAt_J19 x0 x1 (1 : Int32) w

set_option maxHeartbeats 4000000 in
set_option maxRecDepth 100000 in
theorem rX9_putAt (l : Launch) (D : va_G) (aC : Nat → ClassId) {x0 : Nat} {x1 : Int32} {w : kW} {wR : kW} {oR : Int32} (h : fX9_putAt x0 x1 w = some (oR, wR)) : kC l D aC yX9_putAt cX9_putAt 4 (some .boolean) 5 108 [.ref x0, .int x1] w (some (.int oR)) wR 0 0 := by
  refine kOf (own := RX9) (by decide) rfl (Nat.le_of_ble_eq_true rfl) ?_
  intro p e s m below meth c ls F hml hr hlocks hnm hX hZ hl
  obtain ⟨hx, hb, hts, hown, hK⟩ := id F
  have hl : lv_has ls 4 [(0, .ref x0), (1, .int x1)] := hl
  have hJ0_72 : ∀ (j0_72 : Nat) (j1_72 : Int32) (j2_72 : Int32) (j3_72 : Int32) (t0_72 : Option Nat) (t1_72 : Option Nat) (w_j72 : kW) (H : Heap) (locs : List Loc) (ls : Array Slot), kX D aC w s.heap w_j72 H locs → lv_has ls 4 [(0, .ref j0_72), (1, .int j1_72), (2, .int j2_72), (3, .int j3_72)] → fX9_putAt_J72 j0_72 j1_72 j2_72 j3_72 t0_72 t1_72 w_j72 = some (oR, wR) → W p l e { frames := 5, cells := 0, slots := 0, locals := 108 } s m ([.ref x0, .int x1] : List Value).toArray below meth c H locs 0 0 (MQ below (kQc D aC w (some (.int oR)) wR) ([.ref x0, .int x1] : List Value).toArray s 0 0 (kA w)) (F0 m 72 ls [va_rf t1_72, va_rf t0_72]) := by
    intro j0_72 j1_72 j2_72 j3_72 t0_72 t1_72 w_j72 H locs ls hX hl hf
    rw [fX9_putAt_J72] at hf
    refine lv_iload_n hx hb (kd dtX9_putAt_0 36 rfl) rfl (lv_at hl 1 rfl) ?_
    obtain ⟨b20, hb20, hf⟩ := kbind hf
    obtain ⟨hrb20, hkb20⟩ := kRc_s hb20
    obtain ⟨w21, h22, hf⟩ := kbind hf
    refine kcallV (n := 2) [va_rf t1_72, .int j1_72] [] [] (rX1_become l D aC h22) hrb20 hkb20 F hml hX hZ hl.1 mwX1_become wmX9_29 rfl (by decide) (by decide +kernel) ⟨(by decide), (by decide)⟩ rfl rfl rfl (Nat.le_of_ble_eq_true rfl) (kd dtX9_putAt_0 37 rfl) ⟨Nat.zero_le _, Nat.zero_le _⟩ (fun H locs hX => ?_)
    refine lv_aload_n hx hb (kd dtX9_putAt_0 38 rfl) rfl (lv_at hl 0 rfl) ?_
    obtain ⟨v23, hv23, hf⟩ := kbind hf
    refine kgetP hv23 F hX hinX9 rfl rfl rfl (by decide) (by decide) wfX9_23 (kd dtX9_putAt_0 39 rfl) ?_
    refine lv_iload_n hx hb (kd dtX9_putAt_0 40 rfl) rfl (lv_at hl 3 rfl) ?_
    obtain ⟨b24, hb24, hf⟩ := kbind hf
    obtain ⟨hrb24, hkb24⟩ := kRc_s hb24
    obtain ⟨v26, h25, hf⟩ := kbind hf
    refine kcallV (n := 1) [.int j3_72] [] [.int v26] (rX1_has l D aC h25) hrb24 hkb24 F hml hX hZ hl.1 mwX1_has wmX9_52 rfl (by decide) (by decide +kernel) ⟨(by decide), (by decide)⟩ rfl rfl rfl (Nat.le_of_ble_eq_true rfl) (kd dtX9_putAt_0 41 rfl) ⟨Nat.zero_le _, Nat.zero_le _⟩ (fun H locs hX => ?_)
    refine lv_if_ne (tgt := 115) hx hb (kd dtX9_putAt_0 42 rfl) (by decide) (fun hc => ?_) (fun hc => ?_)
    · have hf := kif_neg hc hf
      refine lv_iconst (v := (0 : Int32)) hx hb (kd dtX9_putAt_0 57 rfl) (by decide) ?_
      cases hf
      exact kzret F hX hr hlocks rfl rfl (kd dtX9_putAt_0 58 rfl)
    · have hf := kif_pos hc hf
      refine lv_aload_n hx hb (kd dtX9_putAt_0 43 rfl) rfl (lv_at hl 0 rfl) ?_
      refine lv_aload_n hx hb (kd dtX9_putAt_0 44 rfl) rfl (lv_at hl 0 rfl) ?_
      obtain ⟨v27, hv27, hf⟩ := kbind hf
      refine kgetP hv27 F hX hinX9 rfl rfl rfl (by decide) (by decide) wfX9_14 (kd dtX9_putAt_0 45 rfl) ?_
      refine lv_iload_n hx hb (kd dtX9_putAt_0 46 rfl) rfl (lv_at hl 3 rfl) ?_
      obtain ⟨b28, hb28, hf⟩ := kbind hf
      obtain ⟨hrb28, hkb28⟩ := kRc_s hb28
      obtain ⟨v31, w29, h30, hf⟩ := kbind2 hf
      refine kcallV (n := 2) [va_rf v27, .int j3_72] [] [.int v31] (rX9_putEverywhere l D aC h30) hrb28 hkb28 F hml hX hZ hl.1 mwX9_putEverywhere wmX9_55 rfl (by decide) (by decide +kernel) ⟨(by decide), (by decide)⟩ rfl rfl rfl (Nat.le_of_ble_eq_true rfl) (kd dtX9_putAt_0 47 rfl) ⟨Nat.zero_le _, Nat.zero_le _⟩ (fun H locs hX => ?_)
      refine lv_if_eq (tgt := 115) hx hb (kd dtX9_putAt_0 48 rfl) (by decide) (fun hc => ?_) (fun hc => ?_)
      · have hf := kif_pos hc hf
        refine lv_iconst (v := (0 : Int32)) hx hb (kd dtX9_putAt_0 57 rfl) (by decide) ?_
        cases hf
        exact kzret F hX hr hlocks rfl rfl (kd dtX9_putAt_0 58 rfl)
      · have hf := kif_neg hc hf
        refine lv_aload_n hx hb (kd dtX9_putAt_0 49 rfl) rfl (lv_at hl 0 rfl) ?_
        refine lv_aload_n hx hb (kd dtX9_putAt_0 50 rfl) rfl (lv_at hl 0 rfl) ?_
        obtain ⟨v32, hv32, hf⟩ := kbind hf
        refine kgetP hv32 F hX hinX9 rfl rfl rfl (by decide) (by decide) wfX9_20 (kd dtX9_putAt_0 51 rfl) ?_
        refine lv_iload_n hx hb (kd dtX9_putAt_0 52 rfl) rfl (lv_at hl 3 rfl) ?_
        obtain ⟨b33, hb33, hf⟩ := kbind hf
        obtain ⟨hrb33, hkb33⟩ := kRc_s hb33
        obtain ⟨v36, w34, h35, hf⟩ := kbind2 hf
        refine kcallV (n := 2) [va_rf v32, .int j3_72] [] [.int v36] (rX9_putEverywhere l D aC h35) hrb33 hkb33 F hml hX hZ hl.1 mwX9_putEverywhere wmX9_55 rfl (by decide) (by decide +kernel) ⟨(by decide), (by decide)⟩ rfl rfl rfl (Nat.le_of_ble_eq_true rfl) (kd dtX9_putAt_0 53 rfl) ⟨Nat.zero_le _, Nat.zero_le _⟩ (fun H locs hX => ?_)
        refine lv_if_eq (tgt := 115) hx hb (kd dtX9_putAt_0 54 rfl) (by decide) (fun hc => ?_) (fun hc => ?_)
        · have hf := kif_pos hc hf
          refine lv_iconst (v := (0 : Int32)) hx hb (kd dtX9_putAt_0 57 rfl) (by decide) ?_
          cases hf
          exact kzret F hX hr hlocks rfl rfl (kd dtX9_putAt_0 58 rfl)
        · have hf := kif_neg hc hf
          refine lv_iconst (v := (1 : Int32)) hx hb (kd dtX9_putAt_0 55 rfl) (by decide) ?_
          refine lv_goto (tgt := 116) hx hb (kd dtX9_putAt_0 56 rfl) (by decide) ?_
          cases hf
          exact kzret F hX hr hlocks rfl rfl (kd dtX9_putAt_0 58 rfl)
  have hJ0_43 : ∀ (j0_43 : Nat) (j1_43 : Int32) (j2_43 : Int32) (t0_43 : Int32) (w_j43 : kW) (H : Heap) (locs : List Loc) (ls : Array Slot), kX D aC w s.heap w_j43 H locs → lv_has ls 4 [(0, .ref j0_43), (1, .int j1_43), (2, .int j2_43)] → fX9_putAt_J43 j0_43 j1_43 j2_43 t0_43 w_j43 = some (oR, wR) → W p l e { frames := 5, cells := 0, slots := 0, locals := 108 } s m ([.ref x0, .int x1] : List Value).toArray below meth c H locs 0 0 (MQ below (kQc D aC w (some (.int oR)) wR) ([.ref x0, .int x1] : List Value).toArray s 0 0 (kA w)) (F0 m 43 ls [.int t0_43]) := by
    intro j0_43 j1_43 j2_43 t0_43 w_j43 H locs ls hX hl hf
    rw [fX9_putAt_J43] at hf
    refine lv_istore_n (lv' := [(3, .int t0_43), (0, .ref j0_43), (1, .int j1_43), (2, .int j2_43)]) hx hb (kd dtX9_putAt_0 21 rfl) rfl hl (by decide) rfl (fun ls hl => ?_)
    refine lv_iload_n hx hb (kd dtX9_putAt_0 22 rfl) rfl (lv_at hl 0 rfl) ?_
    obtain ⟨v16, h15, hf⟩ := kbind hf
    refine kcallSN (n := 1) [.int t0_43] [] [.int v16] (rX11_letterOf l D aC w_j43 h15) F hml hX hZ hl.1 mwX11_letterOf wmX9_49 (by decide +kernel) ⟨(by decide), (by decide)⟩ rfl rfl rfl (Nat.le_of_ble_eq_true rfl) (kd dtX9_putAt_0 23 rfl) ⟨Nat.zero_le _, Nat.zero_le _⟩ (fun H locs hX => ?_)
    refine lv_if_ge (tgt := 53) hx hb (kd dtX9_putAt_0 24 rfl) (by decide) (fun hc => ?_) (fun hc => ?_)
    · have hf := kif_pos hc hf
      refine lv_aload_n hx hb (kd dtX9_putAt_0 27 rfl) rfl (lv_at hl 1 rfl) ?_
      obtain ⟨v17, hv17, hf⟩ := kbind hf
      refine kgetP hv17 F hX hinX9 rfl rfl rfl (by decide) (by decide) wfX9_23 (kd dtX9_putAt_0 28 rfl) ?_
      refine lv_iload_n hx hb (kd dtX9_putAt_0 29 rfl) rfl (lv_at hl 3 rfl) ?_
      refine lv_if_eq (tgt := 68) hx hb (kd dtX9_putAt_0 30 rfl) (by decide) (fun hc => ?_) (fun hc => ?_)
      · have hf := kif_pos hc hf
        refine lv_aload_n hx hb (kd dtX9_putAt_0 34 rfl) rfl (lv_at hl 1 rfl) ?_
        obtain ⟨v18, hv18, hf⟩ := kbind hf
        refine kgetP hv18 F hX hinX9 rfl rfl rfl (by decide) (by decide) wfX9_14 (kd dtX9_putAt_0 35 rfl) ?_
        exact hJ0_72 j0_43 j1_43 j2_43 t0_43 v17 v18 w_j43 _ _ _ hX (lv_sub hl [1, 2, 3, 0] rfl) hf
      · have hf := kif_neg hc hf
        refine lv_aload_n hx hb (kd dtX9_putAt_0 31 rfl) rfl (lv_at hl 1 rfl) ?_
        obtain ⟨v19, hv19, hf⟩ := kbind hf
        refine kgetP hv19 F hX hinX9 rfl rfl rfl (by decide) (by decide) wfX9_20 (kd dtX9_putAt_0 32 rfl) ?_
        refine lv_goto (tgt := 72) hx hb (kd dtX9_putAt_0 33 rfl) (by decide) ?_
        exact hJ0_72 j0_43 j1_43 j2_43 t0_43 v17 v19 w_j43 _ _ _ hX (lv_sub hl [1, 2, 3, 0] rfl) hf
    · have hf := kif_neg hc hf
      refine lv_iconst (v := (0 : Int32)) hx hb (kd dtX9_putAt_0 25 rfl) (by decide) ?_
      cases hf
      exact kzret F hX hr hlocks rfl rfl (kd dtX9_putAt_0 26 rfl)
  have hJ0_19 : ∀ (j0_19 : Nat) (j1_19 : Int32) (t0_19 : Int32) (w_j19 : kW) (H : Heap) (locs : List Loc) (ls : Array Slot), kX D aC w s.heap w_j19 H locs → lv_has ls 4 [(0, .ref j0_19), (1, .int j1_19)] → fX9_putAt_J19 j0_19 j1_19 t0_19 w_j19 = some (oR, wR) → W p l e { frames := 5, cells := 0, slots := 0, locals := 108 } s m ([.ref x0, .int x1] : List Value).toArray below meth c H locs 0 0 (MQ below (kQc D aC w (some (.int oR)) wR) ([.ref x0, .int x1] : List Value).toArray s 0 0 (kA w)) (F0 m 19 ls [.int t0_19]) := by
    intro j0_19 j1_19 t0_19 w_j19 H locs ls hX hl hf
    rw [fX9_putAt_J19] at hf
    refine lv_istore_n (lv' := [(2, .int t0_19), (0, .ref j0_19), (1, .int j1_19)]) hx hb (kd dtX9_putAt_0 9 rfl) rfl hl (by decide) rfl (fun ls hl => ?_)
    refine lv_iload_n hx hb (kd dtX9_putAt_0 10 rfl) rfl (lv_at hl 0 rfl) ?_
    refine lv_if_eq (tgt := 35) hx hb (kd dtX9_putAt_0 11 rfl) (by decide) (fun hc => ?_) (fun hc => ?_)
    · have hf := kif_pos hc hf
      refine lv_aload_n hx hb (kd dtX9_putAt_0 17 rfl) rfl (lv_at hl 1 rfl) ?_
      obtain ⟨v7, hv7, hf⟩ := kbind hf
      refine kgetP hv7 F hX hinX9 rfl rfl rfl (by decide) (by decide) wfX9_20 (kd dtX9_putAt_0 18 rfl) ?_
      refine lv_iload_n hx hb (kd dtX9_putAt_0 19 rfl) rfl (lv_at hl 2 rfl) ?_
      obtain ⟨b8, hb8, hf⟩ := kbind hf
      obtain ⟨hrb8, hkb8⟩ := kRc_s hb8
      obtain ⟨v10, h9, hf⟩ := kbind hf
      refine kcallV (n := 1) [.int j1_19] [] [.int v10] (rX1_at l D aC h9) hrb8 hkb8 F hml hX hZ hl.1 mwX1_at wmX9_45 rfl (by decide) (by decide +kernel) ⟨(by decide), (by decide)⟩ rfl rfl rfl (Nat.le_of_ble_eq_true rfl) (kd dtX9_putAt_0 20 rfl) ⟨Nat.zero_le _, Nat.zero_le _⟩ (fun H locs hX => ?_)
      exact hJ0_43 j0_19 j1_19 t0_19 v10 w_j19 _ _ _ hX (lv_sub hl [1, 2, 0] rfl) hf
    · have hf := kif_neg hc hf
      refine lv_aload_n hx hb (kd dtX9_putAt_0 12 rfl) rfl (lv_at hl 1 rfl) ?_
      obtain ⟨v11, hv11, hf⟩ := kbind hf
      refine kgetP hv11 F hX hinX9 rfl rfl rfl (by decide) (by decide) wfX9_14 (kd dtX9_putAt_0 13 rfl) ?_
      refine lv_iload_n hx hb (kd dtX9_putAt_0 14 rfl) rfl (lv_at hl 2 rfl) ?_
      obtain ⟨b12, hb12, hf⟩ := kbind hf
      obtain ⟨hrb12, hkb12⟩ := kRc_s hb12
      obtain ⟨v14, h13, hf⟩ := kbind hf
      refine kcallV (n := 1) [.int j1_19] [] [.int v14] (rX1_at l D aC h13) hrb12 hkb12 F hml hX hZ hl.1 mwX1_at wmX9_45 rfl (by decide) (by decide +kernel) ⟨(by decide), (by decide)⟩ rfl rfl rfl (Nat.le_of_ble_eq_true rfl) (kd dtX9_putAt_0 15 rfl) ⟨Nat.zero_le _, Nat.zero_le _⟩ (fun H locs hX => ?_)
      refine lv_goto (tgt := 43) hx hb (kd dtX9_putAt_0 16 rfl) (by decide) ?_
      exact hJ0_43 j0_19 j1_19 t0_19 v14 w_j19 _ _ _ hX (lv_sub hl [1, 2, 0] rfl) hf
  have hf := h
  rw [fX9_putAt] at hf
  refine lv_aload_n hx hb (kd dtX9_putAt_0 0 rfl) rfl (lv_at hl 0 rfl) ?_
  obtain ⟨v1, hv1, hf⟩ := kbind hf
  refine kgetP hv1 F hX hinX9 rfl rfl rfl (by decide) (by decide) wfX9_14 (kd dtX9_putAt_0 1 rfl) ?_
  refine lv_iload_n hx hb (kd dtX9_putAt_0 2 rfl) rfl (lv_at hl 1 rfl) ?_
  obtain ⟨b2, hb2, hf⟩ := kbind hf
  obtain ⟨hrb2, hkb2⟩ := kRc_s hb2
  obtain ⟨v4, h3, hf⟩ := kbind hf
  refine kcallV (n := 1) [.int x1] [] [.int v4] (rX1_at l D aC h3) hrb2 hkb2 F hml hX hZ hl.1 mwX1_at wmX9_45 rfl (by decide) (by decide +kernel) ⟨(by decide), (by decide)⟩ rfl rfl rfl (Nat.le_of_ble_eq_true rfl) (kd dtX9_putAt_0 3 rfl) ⟨Nat.zero_le _, Nat.zero_le _⟩ (fun H locs hX => ?_)
  obtain ⟨v6, h5, hf⟩ := kbind hf
  refine kcallSN (n := 1) [.int v4] [] [.int v6] (rX11_letterOf l D aC w h5) F hml hX hZ hl.1 mwX11_letterOf wmX9_49 (by decide +kernel) ⟨(by decide), (by decide)⟩ rfl rfl rfl (Nat.le_of_ble_eq_true rfl) (kd dtX9_putAt_0 4 rfl) ⟨Nat.zero_le _, Nat.zero_le _⟩ (fun H locs hX => ?_)
  refine lv_if_lt (tgt := 18) hx hb (kd dtX9_putAt_0 5 rfl) (by decide) (fun hc => ?_) (fun hc => ?_)
  · have hf := kif_pos hc hf
    refine lv_iconst (v := (0 : Int32)) hx hb (kd dtX9_putAt_0 8 rfl) (by decide) ?_
    exact hJ0_19 x0 x1 (0 : Int32) w _ _ _ hX hl hf
  · have hf := kif_neg hc hf
    refine lv_iconst (v := (1 : Int32)) hx hb (kd dtX9_putAt_0 6 rfl) (by decide) ?_
    refine lv_goto (tgt := 19) hx hb (kd dtX9_putAt_0 7 rfl) (by decide) ?_
    exact hJ0_19 x0 x1 (1 : Int32) w _ _ _ hX hl hf
theorem wmX9_33 : Cond.methodLink RX9 33 yX9_firstUnlike ∈ kT := kTm 722 (by decide +kernel) rfl
theorem mwX9_firstUnlike : kMV RX9 yX9_firstUnlike cX9_firstUnlike 2 (some .int) := ⟨kTm 725 (by decide +kernel) rfl, kTm 101 (by decide +kernel) rfl, kTm 724 (by decide +kernel) rfl, kTm 12 (by decide +kernel) rfl⟩
theorem wmX9_41 : Cond.methodLink RX9 41 yX9_putAt ∈ kT := kTm 727 (by decide +kernel) rfl
theorem mwX9_putAt : kMV RX9 yX9_putAt cX9_putAt 4 (some .boolean) := ⟨kTm 730 (by decide +kernel) rfl, kTm 101 (by decide +kernel) rfl, kTm 729 (by decide +kernel) rfl, kTm 13 (by decide +kernel) rfl⟩
def lX9_makeAlike_0 : List (Nat × Instr × Nat) := [(0, .aload_n 0, 1), (1, .getfield 14, 3), (4, .aload_n 1, 1), (5, .iconst 0, 1), (6, .invokevirtual 29, 3), (9, .aload_n 0, 1), (10, .getfield 20, 3), (13, .aload_n 2, 1), (14, .iconst 0, 1), (15, .invokevirtual 29, 3), (18, .iconst 0, 1), (19, .istore_n 3, 1), (20, .iload_n 3, 1), (21, .bipush 6, 2), (23, .if_icmp .gt 40, 3), (26, .aload_n 0, 1), (27, .invokevirtual 33, 3), (30, .istore 4, 2), (32, .iload 4, 2), (34, .aload_n 0, 1), (35, .getfield 14, 3), (38, .getfield 37, 3), (41, .if_icmp .lt 5, 3), (44, .iconst 1, 1), (45, .ireturn, 1), (46, .aload_n 0, 1), (47, .iload 4, 2), (49, .invokevirtual 41, 3), (52, .ifCond .ne 5, 3), (55, .iconst 0, 1), (56, .ireturn, 1), (57, .iinc 3 1, 3), (60, .goto (-40), 3), (63, .iconst 0, 1), (64, .ireturn, 1)]
theorem dtX9_makeAlike_0 : kDec cX9_makeAlike lX9_makeAlike_0 = true := by decide +kernel
noncomputable def fX9_makeAlike_L20 (x0 : Nat) (x1 : Option Nat) (x2 : Option Nat) : Nat → (Int32 → kW → Option (Int32 × kW)) → Int32 → kW → Option (Int32 × kW)
  | 0, _, _, _ => none
  | n + 1, k, x3, w =>
  if (6 : Int32) < x3 then
  k x3 w
  else
  (kRc w 9 (some x0)).bind fun b1 =>
  (fX9_firstUnlike b1 w).bind fun v3 =>
  (kgP w 9 (some x0) 0).bind fun v4 =>
  (kgI w 1 v4 5).bind fun v5 =>
  if v3 < v5 then
  (kRc w 9 (some x0)).bind fun b6 =>
  kb2 (fX9_putAt b6 v3 w) fun v9 w7 =>
  if v9 = 0 then
  some ((0 : Int32), w7)
  else
  fX9_makeAlike_L20 x0 x1 x2 n k (x3 + (1 : Int32)) w7
  else
  some ((1 : Int32), w)

noncomputable def fX9_makeAlike (x0 : Nat) (x1 : Option Nat) (x2 : Option Nat) (w : kW) : Option (Int32 × kW) :=
  (kgP w 9 (some x0) 0).bind fun v1 =>
  (kRc w 1 v1).bind fun b2 =>
  (fX1_become b2 x1 (0 : Int32) w).bind fun w3 =>
  (kgP w3 9 (some x0) 1).bind fun v5 =>
  (kRc w3 1 v5).bind fun b6 =>
  (fX1_become b6 x2 (0 : Int32) w3).bind fun w7 =>
  fX9_makeAlike_L20 x0 x1 x2 kFU (fun y3_9 w10 => some ((0 : Int32), w10)) (0 : Int32) w7

set_option maxHeartbeats 4000000 in
set_option maxRecDepth 100000 in
theorem rX9_makeAlike (l : Launch) (D : va_G) (aC : Nat → ClassId) {x0 : Nat} {x1 : Option Nat} {x2 : Option Nat} {w : kW} {wR : kW} {oR : Int32} (h : fX9_makeAlike x0 x1 x2 w = some (oR, wR)) : kC l D aC yX9_makeAlike cX9_makeAlike 5 (some .boolean) 6 131 [.ref x0, va_rf x1, va_rf x2] w (some (.int oR)) wR 0 0 := by
  refine kOf (own := RX9) (by decide) rfl (by simp [lg_sl, kcat_rf, kcat_i, kcat_r, kcat_l]) ?_
  intro p e s m below meth c ls F hml hr hlocks hnm hX hZ hl
  obtain ⟨hx, hb, hts, hown, hK⟩ := id F
  have hl : lv_has ls 5 [(0, .ref x0), (1, va_rf x1), (2, va_rf x2)] := by simpa [lv_args, kcat_rf, kcat_i, kcat_r, kcat_l] using hl
  have hf := h
  rw [fX9_makeAlike] at hf
  refine lv_aload_n hx hb (kd dtX9_makeAlike_0 0 rfl) rfl (lv_at hl 0 rfl) ?_
  obtain ⟨v1, hv1, hf⟩ := kbind hf
  refine kgetP hv1 F hX hinX9 rfl rfl rfl (by decide) (by decide) wfX9_14 (kd dtX9_makeAlike_0 1 rfl) ?_
  refine kaload_n hx hb (kd dtX9_makeAlike_0 2 rfl) rfl (lv_at hl 1 rfl) ?_
  refine lv_iconst (v := (0 : Int32)) hx hb (kd dtX9_makeAlike_0 3 rfl) (by decide) ?_
  obtain ⟨b2, hb2, hf⟩ := kbind hf
  obtain ⟨hrb2, hkb2⟩ := kRc_s hb2
  obtain ⟨w3, h4, hf⟩ := kbind hf
  refine kcallV (n := 2) [va_rf x1, .int (0 : Int32)] [] [] (rX1_become l D aC h4) hrb2 hkb2 F hml hX hZ hl.1 mwX1_become wmX9_29 rfl (by decide) (by decide +kernel) ⟨(by decide), (by decide)⟩ rfl rfl rfl (Nat.le_of_ble_eq_true rfl) (kd dtX9_makeAlike_0 4 rfl) ⟨Nat.zero_le _, Nat.zero_le _⟩ (fun H locs hX => ?_)
  refine lv_aload_n hx hb (kd dtX9_makeAlike_0 5 rfl) rfl (lv_at hl 0 rfl) ?_
  obtain ⟨v5, hv5, hf⟩ := kbind hf
  refine kgetP hv5 F hX hinX9 rfl rfl rfl (by decide) (by decide) wfX9_20 (kd dtX9_makeAlike_0 6 rfl) ?_
  refine kaload_n hx hb (kd dtX9_makeAlike_0 7 rfl) rfl (lv_at hl 2 rfl) ?_
  refine lv_iconst (v := (0 : Int32)) hx hb (kd dtX9_makeAlike_0 8 rfl) (by decide) ?_
  obtain ⟨b6, hb6, hf⟩ := kbind hf
  obtain ⟨hrb6, hkb6⟩ := kRc_s hb6
  obtain ⟨w7, h8, hf⟩ := kbind hf
  refine kcallV (n := 2) [va_rf x2, .int (0 : Int32)] [] [] (rX1_become l D aC h8) hrb6 hkb6 F hml hX hZ hl.1 mwX1_become wmX9_29 rfl (by decide) (by decide +kernel) ⟨(by decide), (by decide)⟩ rfl rfl rfl (Nat.le_of_ble_eq_true rfl) (kd dtX9_makeAlike_0 9 rfl) ⟨Nat.zero_le _, Nat.zero_le _⟩ (fun H locs hX => ?_)
  refine lv_iconst (v := (0 : Int32)) hx hb (kd dtX9_makeAlike_0 10 rfl) (by decide) ?_
  refine lv_istore_n (i := 3) (lv' := [(3, .int (0 : Int32)), (0, .ref x0), (1, va_rf x1), (2, va_rf x2)]) hx hb (kd dtX9_makeAlike_0 11 rfl) rfl hl (by decide) (by simp [kcat_rf, kcat_i, kcat_r, kcat_l]) (fun ls hl => ?_)
  have hL20 : ∀ (n : Nat) (k : Int32 → kW → Option (Int32 × kW)), ∀ (z3_20 : Int32) (w_20 : kW) (H : Heap) (locs : List Loc) (ls : Array Slot), kX D aC w s.heap w_20 H locs → lv_has ls 5 [(0, .ref x0), (1, va_rf x1), (2, va_rf x2), (3, .int z3_20)] → fX9_makeAlike_L20 x0 x1 x2 n k z3_20 w_20 = some (oR, wR) → (∀ (z3_20 : Int32) (w_20 : kW) (H : Heap) (locs : List Loc) (ls : Array Slot), kX D aC w s.heap w_20 H locs → lv_has ls 5 [(0, .ref x0), (1, va_rf x1), (2, va_rf x2), (3, .int z3_20)] → k z3_20 w_20 = some (oR, wR) → W p l e { frames := 6, cells := 0, slots := 0, locals := 131 } s m ([.ref x0, va_rf x1, va_rf x2] : List Value).toArray below meth c H locs 0 0 (MQ below (kQc D aC w (some (.int oR)) wR) ([.ref x0, va_rf x1, va_rf x2] : List Value).toArray s 0 0 (kA w)) (F0 m 63 ls [])) → W p l e { frames := 6, cells := 0, slots := 0, locals := 131 } s m ([.ref x0, va_rf x1, va_rf x2] : List Value).toArray below meth c H locs 0 0 (MQ below (kQc D aC w (some (.int oR)) wR) ([.ref x0, va_rf x1, va_rf x2] : List Value).toArray s 0 0 (kA w)) (F0 m 20 ls []) := by
    intro n k
    induction n with
    | zero =>
      intro z3_20 w_20 H locs ls hX hl hf hk
      rw [fX9_makeAlike_L20] at hf
      cases hf
    | succ n ih =>
      intro z3_20 w_20 H locs ls hX hl hf hk
      rw [fX9_makeAlike_L20] at hf
      refine lv_iload_n hx hb (kd dtX9_makeAlike_0 12 rfl) rfl (lv_at hl 3 rfl) ?_
      refine lv_bipush (v := (6 : Int32)) hx hb (kd dtX9_makeAlike_0 13 rfl) (by decide) ?_
      refine lv_icmp_gt (tgt := 63) hx hb (kd dtX9_makeAlike_0 14 rfl) (by decide) (fun hc => ?_) (fun hc => ?_)
      · have hf := kif_pos hc hf
        exact hk z3_20 w_20 _ _ _ hX hl hf
      · have hf := kif_neg hc hf
        refine lv_aload_n hx hb (kd dtX9_makeAlike_0 15 rfl) rfl (lv_at hl 0 rfl) ?_
        obtain ⟨b11, hb11, hf⟩ := kbind hf
        obtain ⟨hrb11, hkb11⟩ := kRc_s hb11
        obtain ⟨v13, h12, hf⟩ := kbind hf
        refine kcallV (n := 0) [] [] [.int v13] (rX9_firstUnlike l D aC h12) hrb11 hkb11 F hml hX hZ hl.1 mwX9_firstUnlike wmX9_33 rfl (by decide) (by decide +kernel) ⟨(by decide), (by decide)⟩ rfl rfl rfl (Nat.le_of_ble_eq_true rfl) (kd dtX9_makeAlike_0 16 rfl) ⟨Nat.zero_le _, Nat.zero_le _⟩ (fun H locs hX => ?_)
        refine lv_istore (lv' := [(4, .int v13), (0, .ref x0), (1, va_rf x1), (2, va_rf x2), (3, .int z3_20)]) hx hb (kd dtX9_makeAlike_0 17 rfl) hl (by decide) rfl (fun ls hl => ?_)
        refine lv_iload hx hb (kd dtX9_makeAlike_0 18 rfl) (lv_at hl 0 rfl) ?_
        refine lv_aload_n hx hb (kd dtX9_makeAlike_0 19 rfl) rfl (lv_at hl 1 rfl) ?_
        obtain ⟨v14, hv14, hf⟩ := kbind hf
        refine kgetP hv14 F hX hinX9 rfl rfl rfl (by decide) (by decide) wfX9_14 (kd dtX9_makeAlike_0 20 rfl) ?_
        obtain ⟨v15, hv15, hf⟩ := kbind hf
        refine kgetIN hv15 F hX hinX1 rfl rfl rfl (by decide) (by decide) hZ wfX9_37 (kd dtX9_makeAlike_0 21 rfl) ?_
        refine lv_icmp_lt (tgt := 46) hx hb (kd dtX9_makeAlike_0 22 rfl) (by decide) (fun hc => ?_) (fun hc => ?_)
        · have hf := kif_pos hc hf
          refine lv_aload_n hx hb (kd dtX9_makeAlike_0 25 rfl) rfl (lv_at hl 1 rfl) ?_
          refine lv_iload hx hb (kd dtX9_makeAlike_0 26 rfl) (lv_at hl 0 rfl) ?_
          obtain ⟨b16, hb16, hf⟩ := kbind hf
          obtain ⟨hrb16, hkb16⟩ := kRc_s hb16
          obtain ⟨v19, w17, h18, hf⟩ := kbind2 hf
          refine kcallV (n := 1) [.int v13] [] [.int v19] (rX9_putAt l D aC h18) hrb16 hkb16 F hml hX hZ hl.1 mwX9_putAt wmX9_41 rfl (by decide) (by decide +kernel) ⟨(by decide), (by decide)⟩ rfl rfl rfl (Nat.le_of_ble_eq_true rfl) (kd dtX9_makeAlike_0 27 rfl) ⟨Nat.zero_le _, Nat.zero_le _⟩ (fun H locs hX => ?_)
          refine lv_if_ne (tgt := 57) hx hb (kd dtX9_makeAlike_0 28 rfl) (by decide) (fun hc => ?_) (fun hc => ?_)
          · have hf := kif_neg hc hf
            refine lv_iinc (v := z3_20 + (1 : Int32)) (lv' := [(3, .int (z3_20 + (1 : Int32))), (4, .int v13), (0, .ref x0), (1, va_rf x1), (2, va_rf x2)]) hx hb (kd dtX9_makeAlike_0 31 rfl) hl (k := 4) rfl (by rfl) (by decide) (by simp [kcat_rf, kcat_i, kcat_r, kcat_l]) (fun ls hl => ?_)
            refine lv_goto (tgt := 20) hx hb (kd dtX9_makeAlike_0 32 rfl) (by decide) ?_
            exact ih (z3_20 + (1 : Int32)) w17 _ _ _ hX (lv_sub hl [2, 3, 4, 0] rfl) hf hk
          · have hf := kif_pos hc hf
            refine lv_iconst (v := (0 : Int32)) hx hb (kd dtX9_makeAlike_0 29 rfl) (by decide) ?_
            cases hf
            exact kzret F hX hr hlocks rfl rfl (kd dtX9_makeAlike_0 30 rfl)
        · have hf := kif_neg hc hf
          refine lv_iconst (v := (1 : Int32)) hx hb (kd dtX9_makeAlike_0 23 rfl) (by decide) ?_
          cases hf
          exact kzret F hX hr hlocks rfl rfl (kd dtX9_makeAlike_0 24 rfl)
  refine hL20 kFU _ (0 : Int32) w7 _ _ _ hX (lv_sub hl [1, 2, 3, 0] rfl) hf ?_
  intro y3_9 w10 H locs ls hX hl hf
  refine lv_iconst (v := (0 : Int32)) hx hb (kd dtX9_makeAlike_0 33 rfl) (by decide) ?_
  cases hf
  exact kzret F hX hr hlocks rfl rfl (kd dtX9_makeAlike_0 34 rfl)
