def lJ7_fill_53178_0 : List (Nat × Instr × Nat) := [(0, .iconst 0, 1), (1, .istore_n 2, 1), (2, .aload_n 0, 1), (3, .arraylength, 1), (4, .istore_n 3, 1), (5, .iload_n 2, 1), (6, .iload_n 3, 1), (7, .if_icmp .ge 13, 3), (10, .aload_n 0, 1), (11, .iload_n 2, 1), (12, .iload_n 1, 1), (13, .iastore, 1), (14, .iinc 2 1, 3), (17, .goto (-12), 3), (20, .return_, 1)]
theorem dtJ7_fill_53178_0 : kDec cJ7_fill_53178 lJ7_fill_53178_0 = true := by decide +kernel
noncomputable def fJ7_fill_53178_L5 (x0 : Option Nat) (x1 : Int32) (x3 : Int32) : Nat → (Int32 → kW → Option kW) → Int32 → kW → Option kW
  | 0, _, _, _ => none
  | n + 1, k, x2, w =>
  if x3 ≤ x2 then
  k x2 w
  else
  (ksI w 14 x0 x2 x1).bind fun w1 =>
  fJ7_fill_53178_L5 x0 x1 x3 n k (x2 + (1 : Int32)) w1

noncomputable def fJ7_fill_53178 (x0 : Option Nat) (x1 : Int32) (w : kW) : Option kW :=
  (kal w 14 x0).bind fun v1 =>
  fJ7_fill_53178_L5 x0 x1 v1 kFU (fun y2_2 w3 => some w3) (0 : Int32) w

set_option maxHeartbeats 4000000 in
set_option maxRecDepth 100000 in
theorem rJ7_fill_53178 (l : Launch) (D : va_G) (aC : Nat → ClassId) {x0 : Option Nat} {x1 : Int32} {w : kW} {wR : kW} (h : fJ7_fill_53178 x0 x1 w = some wR) : kC l D aC yJ7_fill_53178 cJ7_fill_53178 4 none 1 12 [va_rf x0, .int x1] w none wR 0 0 := by
  refine kOf (own := RJ7) (by decide) rfl (by simp [lg_sl, kcat_rf, kcat_i, kcat_r, kcat_l]) ?_
  intro p e s m below meth c ls F hml hr hlocks hnm hX hZ hl
  obtain ⟨hx, hb, hts, hown, hK⟩ := id F
  have hl : lv_has ls 4 [(0, va_rf x0), (1, .int x1)] := by simpa [lv_args, kcat_rf, kcat_i, kcat_r, kcat_l] using hl
  have hf := h
  rw [fJ7_fill_53178] at hf
  refine lv_iconst (v := (0 : Int32)) hx hb (kd dtJ7_fill_53178_0 0 rfl) (by decide) ?_
  refine lv_istore_n (lv' := [(2, .int (0 : Int32)), (0, va_rf x0), (1, .int x1)]) hx hb (kd dtJ7_fill_53178_0 1 rfl) rfl hl (by decide) rfl (fun ls hl => ?_)
  refine kaload_n hx hb (kd dtJ7_fill_53178_0 2 rfl) rfl (lv_at hl 1 rfl) ?_
  obtain ⟨v1, hv1, hf⟩ := kbind hf
  refine kalen hv1 (by decide) (by decide) F hX (kd dtJ7_fill_53178_0 3 rfl) ?_
  refine lv_istore_n (lv' := [(3, .int v1), (2, .int (0 : Int32)), (0, va_rf x0), (1, .int x1)]) hx hb (kd dtJ7_fill_53178_0 4 rfl) rfl hl (by decide) rfl (fun ls hl => ?_)
  have hL5 : ∀ (n : Nat) (k : Int32 → kW → Option kW), ∀ (z2_5 : Int32) (w_5 : kW) (H : Heap) (locs : List Loc) (ls : Array Slot), kX D aC w s.heap w_5 H locs → lv_has ls 4 [(0, va_rf x0), (1, .int x1), (2, .int z2_5), (3, .int v1)] → fJ7_fill_53178_L5 x0 x1 v1 n k z2_5 w_5 = some wR → (∀ (z2_5 : Int32) (w_5 : kW) (H : Heap) (locs : List Loc) (ls : Array Slot), kX D aC w s.heap w_5 H locs → lv_has ls 4 [(0, va_rf x0), (1, .int x1), (2, .int z2_5), (3, .int v1)] → k z2_5 w_5 = some wR → W p l e { frames := 1, cells := 0, slots := 0, locals := 12 } s m ([va_rf x0, .int x1] : List Value).toArray below meth c H locs 0 0 (MQ below (kQc D aC w none wR) ([va_rf x0, .int x1] : List Value).toArray s 0 0 (kA w)) (F0 m 20 ls [])) → W p l e { frames := 1, cells := 0, slots := 0, locals := 12 } s m ([va_rf x0, .int x1] : List Value).toArray below meth c H locs 0 0 (MQ below (kQc D aC w none wR) ([va_rf x0, .int x1] : List Value).toArray s 0 0 (kA w)) (F0 m 5 ls []) := by
    intro n k
    induction n with
    | zero =>
      intro z2_5 w_5 H locs ls hX hl hf hk
      rw [fJ7_fill_53178_L5] at hf
      cases hf
    | succ n ih =>
      intro z2_5 w_5 H locs ls hX hl hf hk
      rw [fJ7_fill_53178_L5] at hf
      refine lv_iload_n hx hb (kd dtJ7_fill_53178_0 5 rfl) rfl (lv_at hl 2 rfl) ?_
      refine lv_iload_n hx hb (kd dtJ7_fill_53178_0 6 rfl) rfl (lv_at hl 3 rfl) ?_
      refine lv_icmp_ge (tgt := 20) hx hb (kd dtJ7_fill_53178_0 7 rfl) (by decide) (fun hc => ?_) (fun hc => ?_)
      · have hf := kif_pos hc hf
        exact hk z2_5 w_5 _ _ _ hX hl hf
      · have hf := kif_neg hc hf
        refine kaload_n hx hb (kd dtJ7_fill_53178_0 8 rfl) rfl (lv_at hl 0 rfl) ?_
        refine lv_iload_n hx hb (kd dtJ7_fill_53178_0 9 rfl) rfl (lv_at hl 2 rfl) ?_
        refine lv_iload_n hx hb (kd dtJ7_fill_53178_0 10 rfl) rfl (lv_at hl 1 rfl) ?_
        obtain ⟨w4, hw4, hf⟩ := kbind hf
        refine kast hw4 F hX (kd dtJ7_fill_53178_0 11 rfl) (fun H locs hX => ?_)
        refine lv_iinc (v := z2_5 + (1 : Int32)) (lv' := [(2, .int (z2_5 + (1 : Int32))), (0, va_rf x0), (1, .int x1), (3, .int v1)]) hx hb (kd dtJ7_fill_53178_0 12 rfl) hl (k := 2) rfl (by rfl) (by decide) rfl (fun ls hl => ?_)
        refine lv_goto (tgt := 5) hx hb (kd dtJ7_fill_53178_0 13 rfl) (by decide) ?_
        exact ih (z2_5 + (1 : Int32)) w4 _ _ _ hX (lv_sub hl [1, 2, 0, 3] rfl) hf hk
  refine hL5 kFU _ (0 : Int32) w _ _ _ hX (lv_sub hl [2, 3, 1, 0] rfl) hf ?_
  intro y2_2 w3 H locs ls hX hl hf
  cases hf
  exact kvret F hX hr hlocks rfl (kd dtJ7_fill_53178_0 14 rfl)
theorem wmX6_3 : Cond.methodLink RX6 3 objectInit ∈ kT := kTm 429 (by decide +kernel) rfl
theorem wfX6_9 : Cond.fieldLink RX6 9 (TX6 0).1 (TX6 0).2.1 (TX6 0).2.2.1 ∈ kT := kTm 430 (by decide +kernel) rfl
theorem wfX6_15 : Cond.fieldLink RX6 15 (TX6 1).1 (TX6 1).2.1 (TX6 1).2.2.1 ∈ kT := kTm 432 (by decide +kernel) rfl
theorem wfX6_19 : Cond.fieldLink RX6 19 (TX6 2).1 (TX6 2).2.1 (TX6 2).2.2.1 ∈ kT := kTm 434 (by decide +kernel) rfl
theorem wfX6_22 : Cond.fieldLink RX6 22 (TX6 3).1 (TX6 3).2.1 (TX6 3).2.2.1 ∈ kT := kTm 436 (by decide +kernel) rfl
def lX6_init_0 : List (Nat × Instr × Nat) := [(0, .aload_n 0, 1), (1, .invokespecial 3, 3), (4, .aload_n 0, 1), (5, .bipush 120, 2), (7, .newarray .int, 2), (9, .putfield 9, 3), (12, .aload_n 0, 1), (13, .iconst (-1), 1), (14, .putfield 15, 3), (17, .aload_n 0, 1), (18, .iconst 0, 1), (19, .putfield 19, 3), (22, .aload_n 0, 1), (23, .aconst_null, 1), (24, .putfield 22, 3), (27, .return_, 1)]
theorem dtX6_init_0 : kDec cX6_init lX6_init_0 = true := by decide +kernel
noncomputable def fX6_init (x0 : Nat) (w : kW) : Option kW :=
  (knA w 14 (120 : Int32)).bind fun w1 =>
  (kpP w1 6 (some x0) 0 (some (kSz w))).bind fun w2 =>
  (kpI w2 6 (some x0) 1 (-1 : Int32)).bind fun w3 =>
  (kpI w3 6 (some x0) 2 (0 : Int32)).bind fun w4 =>
  (kpP w4 6 (some x0) 3 none).bind fun w5 =>
  some w5

set_option maxHeartbeats 4000000 in
set_option maxRecDepth 100000 in
theorem rX6_init (l : Launch) (D : va_G) (aC : Nat → ClassId) {x0 : Nat} {w : kW} {wR : kW} (h : fX6_init x0 w = some wR) : kC l D aC yX6_init cX6_init 1 none 1 20 [.ref x0] w none wR 1 120 := by
  refine kOf (own := RX6) (by decide) rfl (Nat.le_of_ble_eq_true rfl) ?_
  intro p e s m below meth c ls F hml hr hlocks hnm hX hZ hl
  obtain ⟨hx, hb, hts, hown, hK⟩ := id F
  have hl : lv_has ls 1 [(0, .ref x0)] := hl
  have hf := h
  rw [fX6_init] at hf
  refine lv_aload_n hx hb (kd dtX6_init_0 0 rfl) rfl (lv_at hl 0 rfl) ?_
  refine kobj F (hml.trans hl.1.symm) wmX6_3 (Nat.le_of_ble_eq_true rfl) (Nat.le_of_ble_eq_true rfl) (kd dtX6_init_0 1 rfl) ?_
  refine lv_aload_n hx hb (kd dtX6_init_0 2 rfl) rfl (lv_at hl 0 rfl) ?_
  refine lv_bipush (v := (120 : Int32)) hx hb (kd dtX6_init_0 3 rfl) (by decide) ?_
  obtain ⟨w1, hw1, hf⟩ := kbind hf
  refine knewa (mx := 120) hw1 rfl (fun _ => rfl) (by decide) (by decide) F hX wA14 (by decide) (by decide) (Nat.le_of_ble_eq_true rfl) (Nat.le_of_ble_eq_true rfl) (kd dtX6_init_0 4 rfl) (fun H hX => ?_)
  obtain ⟨w2, hw2, hf⟩ := kbind hf
  refine kputP hw2 F hX hinX6 tyX6_ok nmX6 rfl rfl rfl (by decide) (by decide) wfX6_9 (Or.inr ⟨rfl, hnm, rfl⟩) (kd dtX6_init_0 5 rfl) (fun H locs hX => ?_)
  refine lv_aload_n hx hb (kd dtX6_init_0 6 rfl) rfl (lv_at hl 0 rfl) ?_
  refine lv_iconst (v := (-1 : Int32)) hx hb (kd dtX6_init_0 7 rfl) (by decide) ?_
  obtain ⟨w3, hw3, hf⟩ := kbind hf
  refine kputI hw3 F hX hinX6 tyX6_ok nmX6 rfl rfl rfl (by decide) (by decide) wfX6_15 rfl rfl (Or.inl rfl) (kd dtX6_init_0 8 rfl) (fun H locs hX => ?_)
  refine lv_aload_n hx hb (kd dtX6_init_0 9 rfl) rfl (lv_at hl 0 rfl) ?_
  refine lv_iconst (v := (0 : Int32)) hx hb (kd dtX6_init_0 10 rfl) (by decide) ?_
  obtain ⟨w4, hw4, hf⟩ := kbind hf
  refine kputI hw4 F hX hinX6 tyX6_ok nmX6 rfl rfl rfl (by decide) (by decide) wfX6_19 rfl rfl (Or.inl rfl) (kd dtX6_init_0 11 rfl) (fun H locs hX => ?_)
  refine lv_aload_n hx hb (kd dtX6_init_0 12 rfl) rfl (lv_at hl 0 rfl) ?_
  refine lv_null hx hb (kd dtX6_init_0 13 rfl) ?_
  obtain ⟨w5, hw5, hf⟩ := kbind hf
  refine kputP hw5 F hX hinX6 tyX6_ok nmX6 rfl rfl rfl (by decide) (by decide) wfX6_22 (Or.inl rfl) (kd dtX6_init_0 14 rfl) (fun H locs hX => ?_)
  cases hf
  refine W.widen (k := 1) (n := 120) (Nat.le_of_ble_eq_true rfl) (Nat.le_of_ble_eq_true rfl) ?_
  exact kvret F hX hr hlocks rfl (kd dtX6_init_0 15 rfl)
def lX6_rowRefusal_0 : List (Nat × Instr × Nat) := [(0, .aload_n 0, 1), (1, .getfield 15, 3), (4, .iconst (-1), 1), (5, .if_icmp .eq 7, 3), (8, .iconst 0, 1), (9, .goto 17, 3), (12, .aload_n 0, 1), (13, .getfield 22, 3), (16, .ifnonnull 8, 3), (19, .bipush (-11), 2), (21, .goto 5, 3), (24, .bipush (-12), 2), (26, .ireturn, 1)]
theorem dtX6_rowRefusal_0 : kDec cX6_rowRefusal lX6_rowRefusal_0 = true := by decide +kernel
noncomputable def fX6_rowRefusal (x0 : Nat) (w : kW) : Option Int32 :=
  (kgI w 6 (some x0) 1).bind fun v1 =>
  if v1 = (-1 : Int32) then
  (kgP w 6 (some x0) 3).bind fun v2 =>
  if v2 = none then
  some (-11 : Int32)
  else
  some (-12 : Int32)
  else
  some (0 : Int32)

set_option maxHeartbeats 4000000 in
set_option maxRecDepth 100000 in
theorem rX6_rowRefusal (l : Launch) (D : va_G) (aC : Nat → ClassId) {x0 : Nat} {w : kW} {oR : Int32} (h : fX6_rowRefusal x0 w = some oR) : kC l D aC yX6_rowRefusal cX6_rowRefusal 1 (some .int) 1 12 [.ref x0] w (some (.int oR)) w 0 0 := by
  refine kOf (own := RX6) (by decide) rfl (Nat.le_of_ble_eq_true rfl) ?_
  intro p e s m below meth c ls F hml hr hlocks hnm hX hZ hl
  obtain ⟨hx, hb, hts, hown, hK⟩ := id F
  have hl : lv_has ls 1 [(0, .ref x0)] := hl
  have hf := h
  rw [fX6_rowRefusal] at hf
  refine lv_aload_n hx hb (kd dtX6_rowRefusal_0 0 rfl) rfl (lv_at hl 0 rfl) ?_
  obtain ⟨v1, hv1, hf⟩ := kbind hf
  refine kgetI hv1 F hX hinX6 rfl rfl rfl (by decide) (by decide) wfX6_15 (kd dtX6_rowRefusal_0 1 rfl) ?_
  refine lv_iconst (v := (-1 : Int32)) hx hb (kd dtX6_rowRefusal_0 2 rfl) (by decide) ?_
  refine lv_icmp_eq (tgt := 12) hx hb (kd dtX6_rowRefusal_0 3 rfl) (by decide) (fun hc => ?_) (fun hc => ?_)
  · have hf := kif_pos hc hf
    refine lv_aload_n hx hb (kd dtX6_rowRefusal_0 6 rfl) rfl (lv_at hl 0 rfl) ?_
    obtain ⟨v2, hv2, hf⟩ := kbind hf
    refine kgetP hv2 F hX hinX6 rfl rfl rfl (by decide) (by decide) wfX6_22 (kd dtX6_rowRefusal_0 7 rfl) ?_
    refine kifnonnull (tgt := 24) hx hb (kd dtX6_rowRefusal_0 8 rfl) (by decide) (fun hc => ?_) (fun hc => ?_)
    · have hf := kif_pos hc hf
      refine lv_bipush (v := (-11 : Int32)) hx hb (kd dtX6_rowRefusal_0 9 rfl) (by decide) ?_
      refine lv_goto (tgt := 26) hx hb (kd dtX6_rowRefusal_0 10 rfl) (by decide) ?_
      cases hf
      exact kiret F hX hr hlocks rfl (kd dtX6_rowRefusal_0 12 rfl)
    · have hf := kif_neg hc hf
      refine lv_bipush (v := (-12 : Int32)) hx hb (kd dtX6_rowRefusal_0 11 rfl) (by decide) ?_
      cases hf
      exact kiret F hX hr hlocks rfl (kd dtX6_rowRefusal_0 12 rfl)
  · have hf := kif_neg hc hf
    refine lv_iconst (v := (0 : Int32)) hx hb (kd dtX6_rowRefusal_0 4 rfl) (by decide) ?_
    refine lv_goto (tgt := 26) hx hb (kd dtX6_rowRefusal_0 5 rfl) (by decide) ?_
    cases hf
    exact kiret F hX hr hlocks rfl (kd dtX6_rowRefusal_0 12 rfl)
theorem wmX6_35 : Cond.methodLink RX6 35 yX6_rowRefusal ∈ kT := kTm 507 (by decide +kernel) rfl
theorem mwX6_rowRefusal : kMV RX6 yX6_rowRefusal cX6_rowRefusal 1 (some .int) := ⟨kTm 510 (by decide +kernel) rfl, kTm 105 (by decide +kernel) rfl, kTm 508 (by decide +kernel) rfl, kTm 509 (by decide +kernel) rfl⟩
def lX6_bytesRefusal_0 : List (Nat × Instr × Nat) := [(0, .aload_n 0, 1), (1, .getfield 15, 3), (4, .ifCond .le 8, 3), (7, .bipush (-12), 2), (9, .goto 7, 3), (12, .aload_n 0, 1), (13, .invokevirtual 35, 3), (16, .ireturn, 1)]
theorem dtX6_bytesRefusal_0 : kDec cX6_bytesRefusal lX6_bytesRefusal_0 = true := by decide +kernel
noncomputable def fX6_bytesRefusal (x0 : Nat) (w : kW) : Option Int32 :=
  (kgI w 6 (some x0) 1).bind fun v1 =>
  if v1 ≤ 0 then
  (kRc w 6 (some x0)).bind fun b2 =>
  (fX6_rowRefusal b2 w).bind fun v4 =>
  some v4
  else
  some (-12 : Int32)

set_option maxHeartbeats 4000000 in
set_option maxRecDepth 100000 in
theorem rX6_bytesRefusal (l : Launch) (D : va_G) (aC : Nat → ClassId) {x0 : Nat} {w : kW} {oR : Int32} (h : fX6_bytesRefusal x0 w = some oR) : kC l D aC yX6_bytesRefusal cX6_bytesRefusal 1 (some .int) 2 32 [.ref x0] w (some (.int oR)) w 0 0 := by
  refine kOf (own := RX6) (by decide) rfl (Nat.le_of_ble_eq_true rfl) ?_
  intro p e s m below meth c ls F hml hr hlocks hnm hX hZ hl
  obtain ⟨hx, hb, hts, hown, hK⟩ := id F
  have hl : lv_has ls 1 [(0, .ref x0)] := hl
  have hf := h
  rw [fX6_bytesRefusal] at hf
  refine lv_aload_n hx hb (kd dtX6_bytesRefusal_0 0 rfl) rfl (lv_at hl 0 rfl) ?_
  obtain ⟨v1, hv1, hf⟩ := kbind hf
  refine kgetI hv1 F hX hinX6 rfl rfl rfl (by decide) (by decide) wfX6_15 (kd dtX6_bytesRefusal_0 1 rfl) ?_
  refine lv_if_le (tgt := 12) hx hb (kd dtX6_bytesRefusal_0 2 rfl) (by decide) (fun hc => ?_) (fun hc => ?_)
  · have hf := kif_pos hc hf
    refine lv_aload_n hx hb (kd dtX6_bytesRefusal_0 5 rfl) rfl (lv_at hl 0 rfl) ?_
    obtain ⟨b2, hb2, hf⟩ := kbind hf
    obtain ⟨hrb2, hkb2⟩ := kRc_s hb2
    obtain ⟨v4, h3, hf⟩ := kbind hf
    refine kcallV (n := 0) [] [] [.int v4] (rX6_rowRefusal l D aC h3) hrb2 hkb2 F hml hX hZ hl.1 mwX6_rowRefusal wmX6_35 rfl (by decide) (by decide +kernel) ⟨(by decide), (by decide)⟩ rfl rfl rfl (Nat.le_of_ble_eq_true rfl) (kd dtX6_bytesRefusal_0 6 rfl) ⟨Nat.zero_le _, Nat.zero_le _⟩ (fun H locs hX => ?_)
    cases hf
    exact kiret F hX hr hlocks rfl (kd dtX6_bytesRefusal_0 7 rfl)
  · have hf := kif_neg hc hf
    refine lv_bipush (v := (-12 : Int32)) hx hb (kd dtX6_bytesRefusal_0 3 rfl) (by decide) ?_
    refine lv_goto (tgt := 16) hx hb (kd dtX6_bytesRefusal_0 4 rfl) (by decide) ?_
    cases hf
    exact kiret F hX hr hlocks rfl (kd dtX6_bytesRefusal_0 7 rfl)
def lX6_hasPlace_0 : List (Nat × Instr × Nat) := [(0, .iload_n 1, 1), (1, .ifCond .lt 21, 3), (4, .iload_n 1, 1), (5, .aload_n 0, 1), (6, .getfield 19, 3), (9, .if_icmp .ge 13, 3), (12, .iload_n 1, 1), (13, .bipush 120, 2), (15, .if_icmp .ge 7, 3), (18, .iconst 1, 1), (19, .goto 4, 3), (22, .iconst 0, 1), (23, .ireturn, 1)]
theorem dtX6_hasPlace_0 : kDec cX6_hasPlace lX6_hasPlace_0 = true := by decide +kernel
noncomputable def fX6_hasPlace (x0 : Nat) (x1 : Int32) (w : kW) : Option Int32 :=
  if x1 < 0 then
  some (0 : Int32)
  else
  (kgI w 6 (some x0) 2).bind fun v1 =>
  if v1 ≤ x1 then
  some (0 : Int32)
  else
  if (120 : Int32) ≤ x1 then
  some (0 : Int32)
  else
  some (1 : Int32)

set_option maxHeartbeats 4000000 in
set_option maxRecDepth 100000 in
theorem rX6_hasPlace (l : Launch) (D : va_G) (aC : Nat → ClassId) {x0 : Nat} {x1 : Int32} {w : kW} {oR : Int32} (h : fX6_hasPlace x0 x1 w = some oR) : kC l D aC yX6_hasPlace cX6_hasPlace 2 (some .boolean) 1 12 [.ref x0, .int x1] w (some (.int oR)) w 0 0 := by
  refine kOf (own := RX6) (by decide) rfl (Nat.le_of_ble_eq_true rfl) ?_
  intro p e s m below meth c ls F hml hr hlocks hnm hX hZ hl
  obtain ⟨hx, hb, hts, hown, hK⟩ := id F
  have hl : lv_has ls 2 [(0, .ref x0), (1, .int x1)] := hl
  have hf := h
  rw [fX6_hasPlace] at hf
  refine lv_iload_n hx hb (kd dtX6_hasPlace_0 0 rfl) rfl (lv_at hl 1 rfl) ?_
  refine lv_if_lt (tgt := 22) hx hb (kd dtX6_hasPlace_0 1 rfl) (by decide) (fun hc => ?_) (fun hc => ?_)
  · have hf := kif_pos hc hf
    refine lv_iconst (v := (0 : Int32)) hx hb (kd dtX6_hasPlace_0 11 rfl) (by decide) ?_
    cases hf
    exact kzret F hX hr hlocks rfl rfl (kd dtX6_hasPlace_0 12 rfl)
  · have hf := kif_neg hc hf
    refine lv_iload_n hx hb (kd dtX6_hasPlace_0 2 rfl) rfl (lv_at hl 1 rfl) ?_
    refine lv_aload_n hx hb (kd dtX6_hasPlace_0 3 rfl) rfl (lv_at hl 0 rfl) ?_
    obtain ⟨v1, hv1, hf⟩ := kbind hf
    refine kgetI hv1 F hX hinX6 rfl rfl rfl (by decide) (by decide) wfX6_19 (kd dtX6_hasPlace_0 4 rfl) ?_
    refine lv_icmp_ge (tgt := 22) hx hb (kd dtX6_hasPlace_0 5 rfl) (by decide) (fun hc => ?_) (fun hc => ?_)
    · have hf := kif_pos hc hf
      refine lv_iconst (v := (0 : Int32)) hx hb (kd dtX6_hasPlace_0 11 rfl) (by decide) ?_
      cases hf
      exact kzret F hX hr hlocks rfl rfl (kd dtX6_hasPlace_0 12 rfl)
    · have hf := kif_neg hc hf
      refine lv_iload_n hx hb (kd dtX6_hasPlace_0 6 rfl) rfl (lv_at hl 1 rfl) ?_
      refine lv_bipush (v := (120 : Int32)) hx hb (kd dtX6_hasPlace_0 7 rfl) (by decide) ?_
      refine lv_icmp_ge (tgt := 22) hx hb (kd dtX6_hasPlace_0 8 rfl) (by decide) (fun hc => ?_) (fun hc => ?_)
      · have hf := kif_pos hc hf
        refine lv_iconst (v := (0 : Int32)) hx hb (kd dtX6_hasPlace_0 11 rfl) (by decide) ?_
        cases hf
        exact kzret F hX hr hlocks rfl rfl (kd dtX6_hasPlace_0 12 rfl)
      · have hf := kif_neg hc hf
        refine lv_iconst (v := (1 : Int32)) hx hb (kd dtX6_hasPlace_0 9 rfl) (by decide) ?_
        refine lv_goto (tgt := 23) hx hb (kd dtX6_hasPlace_0 10 rfl) (by decide) ?_
        cases hf
        exact kzret F hX hr hlocks rfl rfl (kd dtX6_hasPlace_0 12 rfl)
theorem wmX6_39 : Cond.methodLink RX6 39 yX6_hasPlace ∈ kT := kTm 979 (by decide +kernel) rfl
theorem mwX6_hasPlace : kMV RX6 yX6_hasPlace cX6_hasPlace 2 (some .boolean) := ⟨kTm 982 (by decide +kernel) rfl, kTm 105 (by decide +kernel) rfl, kTm 980 (by decide +kernel) rfl, kTm 981 (by decide +kernel) rfl⟩
def lX6_elementAt_0 : List (Nat × Instr × Nat) := [(0, .aload_n 0, 1), (1, .iload_n 1, 1), (2, .invokevirtual 39, 3), (5, .ifCond .eq 12, 3), (8, .aload_n 0, 1), (9, .getfield 9, 3), (12, .iload_n 1, 1), (13, .iaload, 1), (14, .goto 4, 3), (17, .iconst 0, 1), (18, .ireturn, 1)]
theorem dtX6_elementAt_0 : kDec cX6_elementAt lX6_elementAt_0 = true := by decide +kernel
noncomputable def fX6_elementAt (x0 : Nat) (x1 : Int32) (w : kW) : Option Int32 :=
  (kRc w 6 (some x0)).bind fun b1 =>
  (fX6_hasPlace b1 x1 w).bind fun v3 =>
  if v3 = 0 then
  some (0 : Int32)
  else
  (kgP w 6 (some x0) 0).bind fun v4 =>
  (kaI w 14 v4 x1).bind fun v5 =>
  some v5

set_option maxHeartbeats 4000000 in
set_option maxRecDepth 100000 in
theorem rX6_elementAt (l : Launch) (D : va_G) (aC : Nat → ClassId) {x0 : Nat} {x1 : Int32} {w : kW} {oR : Int32} (h : fX6_elementAt x0 x1 w = some oR) : kC l D aC yX6_elementAt cX6_elementAt 2 (some .int) 2 33 [.ref x0, .int x1] w (some (.int oR)) w 0 0 := by
  refine kOf (own := RX6) (by decide) rfl (Nat.le_of_ble_eq_true rfl) ?_
  intro p e s m below meth c ls F hml hr hlocks hnm hX hZ hl
  obtain ⟨hx, hb, hts, hown, hK⟩ := id F
  have hl : lv_has ls 2 [(0, .ref x0), (1, .int x1)] := hl
  have hf := h
  rw [fX6_elementAt] at hf
  refine lv_aload_n hx hb (kd dtX6_elementAt_0 0 rfl) rfl (lv_at hl 0 rfl) ?_
  refine lv_iload_n hx hb (kd dtX6_elementAt_0 1 rfl) rfl (lv_at hl 1 rfl) ?_
  obtain ⟨b1, hb1, hf⟩ := kbind hf
  obtain ⟨hrb1, hkb1⟩ := kRc_s hb1
  obtain ⟨v3, h2, hf⟩ := kbind hf
  refine kcallV (n := 1) [.int x1] [] [.int v3] (rX6_hasPlace l D aC h2) hrb1 hkb1 F hml hX hZ hl.1 mwX6_hasPlace wmX6_39 rfl (by decide) (by decide +kernel) ⟨(by decide), (by decide)⟩ rfl rfl rfl (Nat.le_of_ble_eq_true rfl) (kd dtX6_elementAt_0 2 rfl) ⟨Nat.zero_le _, Nat.zero_le _⟩ (fun H locs hX => ?_)
  refine lv_if_eq (tgt := 17) hx hb (kd dtX6_elementAt_0 3 rfl) (by decide) (fun hc => ?_) (fun hc => ?_)
  · have hf := kif_pos hc hf
    refine lv_iconst (v := (0 : Int32)) hx hb (kd dtX6_elementAt_0 9 rfl) (by decide) ?_
    cases hf
    exact kiret F hX hr hlocks rfl (kd dtX6_elementAt_0 10 rfl)
  · have hf := kif_neg hc hf
    refine lv_aload_n hx hb (kd dtX6_elementAt_0 4 rfl) rfl (lv_at hl 0 rfl) ?_
    obtain ⟨v4, hv4, hf⟩ := kbind hf
    refine kgetP hv4 F hX hinX6 rfl rfl rfl (by decide) (by decide) wfX6_9 (kd dtX6_elementAt_0 5 rfl) ?_
    refine lv_iload_n hx hb (kd dtX6_elementAt_0 6 rfl) rfl (lv_at hl 1 rfl) ?_
    obtain ⟨v5, hv5, hf⟩ := kbind hf
    refine kald hv5 F hX (kd dtX6_elementAt_0 7 rfl) ?_
    refine lv_goto (tgt := 18) hx hb (kd dtX6_elementAt_0 8 rfl) (by decide) ?_
    cases hf
    exact kiret F hX hr hlocks rfl (kd dtX6_elementAt_0 10 rfl)
def lX6_holdNothing_0 : List (Nat × Instr × Nat) := [(0, .aload_n 0, 1), (1, .aconst_null, 1), (2, .putfield 22, 3), (5, .aload_n 0, 1), (6, .iconst (-1), 1), (7, .putfield 15, 3), (10, .aload_n 0, 1), (11, .iconst 0, 1), (12, .putfield 19, 3), (15, .return_, 1)]
theorem dtX6_holdNothing_0 : kDec cX6_holdNothing lX6_holdNothing_0 = true := by decide +kernel
noncomputable def fX6_holdNothing (x0 : Nat) (w : kW) : Option kW :=
  (kpP w 6 (some x0) 3 none).bind fun w1 =>
  (kpI w1 6 (some x0) 1 (-1 : Int32)).bind fun w2 =>
  (kpI w2 6 (some x0) 2 (0 : Int32)).bind fun w3 =>
  some w3

set_option maxHeartbeats 4000000 in
set_option maxRecDepth 100000 in
theorem rX6_holdNothing (l : Launch) (D : va_G) (aC : Nat → ClassId) {x0 : Nat} {w : kW} {wR : kW} (h : fX6_holdNothing x0 w = some wR) : kC l D aC yX6_holdNothing cX6_holdNothing 1 none 1 12 [.ref x0] w none wR 0 0 := by
  refine kOf (own := RX6) (by decide) rfl (Nat.le_of_ble_eq_true rfl) ?_
  intro p e s m below meth c ls F hml hr hlocks hnm hX hZ hl
  obtain ⟨hx, hb, hts, hown, hK⟩ := id F
  have hl : lv_has ls 1 [(0, .ref x0)] := hl
  have hf := h
  rw [fX6_holdNothing] at hf
  refine lv_aload_n hx hb (kd dtX6_holdNothing_0 0 rfl) rfl (lv_at hl 0 rfl) ?_
  refine lv_null hx hb (kd dtX6_holdNothing_0 1 rfl) ?_
  obtain ⟨w1, hw1, hf⟩ := kbind hf
  refine kputP hw1 F hX hinX6 tyX6_ok nmX6 rfl rfl rfl (by decide) (by decide) wfX6_22 (Or.inl rfl) (kd dtX6_holdNothing_0 2 rfl) (fun H locs hX => ?_)
  refine lv_aload_n hx hb (kd dtX6_holdNothing_0 3 rfl) rfl (lv_at hl 0 rfl) ?_
  refine lv_iconst (v := (-1 : Int32)) hx hb (kd dtX6_holdNothing_0 4 rfl) (by decide) ?_
  obtain ⟨w2, hw2, hf⟩ := kbind hf
  refine kputI hw2 F hX hinX6 tyX6_ok nmX6 rfl rfl rfl (by decide) (by decide) wfX6_15 rfl rfl (Or.inl rfl) (kd dtX6_holdNothing_0 5 rfl) (fun H locs hX => ?_)
  refine lv_aload_n hx hb (kd dtX6_holdNothing_0 6 rfl) rfl (lv_at hl 0 rfl) ?_
  refine lv_iconst (v := (0 : Int32)) hx hb (kd dtX6_holdNothing_0 7 rfl) (by decide) ?_
  obtain ⟨w3, hw3, hf⟩ := kbind hf
  refine kputI hw3 F hX hinX6 tyX6_ok nmX6 rfl rfl rfl (by decide) (by decide) wfX6_19 rfl rfl (Or.inl rfl) (kd dtX6_holdNothing_0 8 rfl) (fun H locs hX => ?_)
  cases hf
  exact kvret F hX hr hlocks rfl (kd dtX6_holdNothing_0 9 rfl)
theorem wmX6_26 : Cond.methodLink RX6 26 yX6_holdNothing ∈ kT := kTm 1064 (by decide +kernel) rfl
theorem mwX6_holdNothing : kMV RX6 yX6_holdNothing cX6_holdNothing 1 none := ⟨kTm 1043 (by decide +kernel) rfl, kTm 105 (by decide +kernel) rfl, kTm 1041 (by decide +kernel) rfl, kTm 1042 (by decide +kernel) rfl⟩
def lX6_holdCard_0 : List (Nat × Instr × Nat) := [(0, .aload_n 0, 1), (1, .invokevirtual 26, 3), (4, .aload_n 0, 1), (5, .aload_n 1, 1), (6, .putfield 22, 3), (9, .return_, 1)]
theorem dtX6_holdCard_0 : kDec cX6_holdCard lX6_holdCard_0 = true := by decide +kernel
noncomputable def fX6_holdCard (x0 : Nat) (x1 : Option Nat) (w : kW) : Option kW :=
  (kRc w 6 (some x0)).bind fun b1 =>
  (fX6_holdNothing b1 w).bind fun w2 =>
  (kpP w2 6 (some x0) 3 x1).bind fun w4 =>
  some w4

set_option maxHeartbeats 4000000 in
set_option maxRecDepth 100000 in
theorem rX6_holdCard (l : Launch) (D : va_G) (aC : Nat → ClassId) {x0 : Nat} {x1 : Option Nat} {w : kW} {wR : kW} (h : fX6_holdCard x0 x1 w = some wR) : kC l D aC yX6_holdCard cX6_holdCard 2 none 2 32 [.ref x0, va_rf x1] w none wR 0 0 := by
  refine kOf (own := RX6) (by decide) rfl (by simp [lg_sl, kcat_rf, kcat_i, kcat_r, kcat_l]) ?_
  intro p e s m below meth c ls F hml hr hlocks hnm hX hZ hl
  obtain ⟨hx, hb, hts, hown, hK⟩ := id F
  have hl : lv_has ls 2 [(0, .ref x0), (1, va_rf x1)] := by simpa [lv_args, kcat_rf, kcat_i, kcat_r, kcat_l] using hl
  have hf := h
  rw [fX6_holdCard] at hf
  refine lv_aload_n hx hb (kd dtX6_holdCard_0 0 rfl) rfl (lv_at hl 0 rfl) ?_
  obtain ⟨b1, hb1, hf⟩ := kbind hf
  obtain ⟨hrb1, hkb1⟩ := kRc_s hb1
  obtain ⟨w2, h3, hf⟩ := kbind hf
  refine kcallV (n := 0) [] [] [] (rX6_holdNothing l D aC h3) hrb1 hkb1 F hml hX hZ hl.1 mwX6_holdNothing wmX6_26 rfl (by decide) (by decide +kernel) ⟨(by decide), (by decide)⟩ rfl rfl rfl (Nat.le_of_ble_eq_true rfl) (kd dtX6_holdCard_0 1 rfl) ⟨Nat.zero_le _, Nat.zero_le _⟩ (fun H locs hX => ?_)
  refine lv_aload_n hx hb (kd dtX6_holdCard_0 2 rfl) rfl (lv_at hl 0 rfl) ?_
  refine kaload_n hx hb (kd dtX6_holdCard_0 3 rfl) rfl (lv_at hl 1 rfl) ?_
  obtain ⟨w4, hw4, hf⟩ := kbind hf
  refine kputP hw4 F hX hinX6 tyX6_ok nmX6 rfl rfl rfl (by decide) (by decide) wfX6_22 (Or.inl rfl) (kd dtX6_holdCard_0 4 rfl) (fun H locs hX => ?_)
  cases hf
  exact kvret F hX hr hlocks rfl (kd dtX6_holdCard_0 5 rfl)
theorem wmX6_29 : Cond.methodLink RX6 29 yJ7_fill_53178 ∈ kT := kTm 1073 (by decide +kernel) rfl
theorem mwJ7_fill_53178 : kMS yJ7_fill_53178 cJ7_fill_53178 4 none := ⟨kTm 708 (by decide +kernel) rfl, kTm 109 (by decide +kernel) rfl, kTm 707 (by decide +kernel) rfl⟩
def lX6_holdRow_0 : List (Nat × Instr × Nat) := [(0, .aload_n 0, 1), (1, .aconst_null, 1), (2, .putfield 22, 3), (5, .aload_n 0, 1), (6, .iload_n 1, 1), (7, .putfield 15, 3), (10, .aload_n 0, 1), (11, .iload_n 2, 1), (12, .putfield 19, 3), (15, .aload_n 0, 1), (16, .getfield 9, 3), (19, .iconst 0, 1), (20, .invokestatic 29, 3), (23, .return_, 1)]
theorem dtX6_holdRow_0 : kDec cX6_holdRow lX6_holdRow_0 = true := by decide +kernel
noncomputable def fX6_holdRow (x0 : Nat) (x1 : Int32) (x2 : Int32) (w : kW) : Option kW :=
  (kpP w 6 (some x0) 3 none).bind fun w1 =>
  (kpI w1 6 (some x0) 1 x1).bind fun w2 =>
  (kpI w2 6 (some x0) 2 x2).bind fun w3 =>
  (kgP w3 6 (some x0) 0).bind fun v4 =>
  (fJ7_fill_53178 v4 (0 : Int32) w3).bind fun w5 =>
  some w5

set_option maxHeartbeats 4000000 in
set_option maxRecDepth 100000 in
theorem rX6_holdRow (l : Launch) (D : va_G) (aC : Nat → ClassId) {x0 : Nat} {x1 : Int32} {x2 : Int32} {w : kW} {wR : kW} (h : fX6_holdRow x0 x1 x2 w = some wR) : kC l D aC yX6_holdRow cX6_holdRow 3 none 2 35 [.ref x0, .int x1, .int x2] w none wR 0 0 := by
  refine kOf (own := RX6) (by decide) rfl (Nat.le_of_ble_eq_true rfl) ?_
  intro p e s m below meth c ls F hml hr hlocks hnm hX hZ hl
  obtain ⟨hx, hb, hts, hown, hK⟩ := id F
  have hl : lv_has ls 3 [(0, .ref x0), (1, .int x1), (2, .int x2)] := hl
  have hf := h
  rw [fX6_holdRow] at hf
  refine lv_aload_n hx hb (kd dtX6_holdRow_0 0 rfl) rfl (lv_at hl 0 rfl) ?_
  refine lv_null hx hb (kd dtX6_holdRow_0 1 rfl) ?_
  obtain ⟨w1, hw1, hf⟩ := kbind hf
  refine kputP hw1 F hX hinX6 tyX6_ok nmX6 rfl rfl rfl (by decide) (by decide) wfX6_22 (Or.inl rfl) (kd dtX6_holdRow_0 2 rfl) (fun H locs hX => ?_)
  refine lv_aload_n hx hb (kd dtX6_holdRow_0 3 rfl) rfl (lv_at hl 0 rfl) ?_
  refine lv_iload_n hx hb (kd dtX6_holdRow_0 4 rfl) rfl (lv_at hl 1 rfl) ?_
  obtain ⟨w2, hw2, hf⟩ := kbind hf
  refine kputI hw2 F hX hinX6 tyX6_ok nmX6 rfl rfl rfl (by decide) (by decide) wfX6_15 rfl rfl (Or.inl rfl) (kd dtX6_holdRow_0 5 rfl) (fun H locs hX => ?_)
  refine lv_aload_n hx hb (kd dtX6_holdRow_0 6 rfl) rfl (lv_at hl 0 rfl) ?_
  refine lv_iload_n hx hb (kd dtX6_holdRow_0 7 rfl) rfl (lv_at hl 2 rfl) ?_
  obtain ⟨w3, hw3, hf⟩ := kbind hf
  refine kputI hw3 F hX hinX6 tyX6_ok nmX6 rfl rfl rfl (by decide) (by decide) wfX6_19 rfl rfl (Or.inl rfl) (kd dtX6_holdRow_0 8 rfl) (fun H locs hX => ?_)
  refine lv_aload_n hx hb (kd dtX6_holdRow_0 9 rfl) rfl (lv_at hl 0 rfl) ?_
  obtain ⟨v4, hv4, hf⟩ := kbind hf
  refine kgetP hv4 F hX hinX6 rfl rfl rfl (by decide) (by decide) wfX6_9 (kd dtX6_holdRow_0 10 rfl) ?_
  refine lv_iconst (v := (0 : Int32)) hx hb (kd dtX6_holdRow_0 11 rfl) (by decide) ?_
  obtain ⟨w5, h6, hf⟩ := kbind hf
  refine kcallS (n := 2) [va_rf v4, .int (0 : Int32)] [] [] (rJ7_fill_53178 l D aC h6) F hml hX hZ hl.1 mwJ7_fill_53178 wmX6_29 (by decide +kernel) ⟨(by decide), (by decide)⟩ rfl rfl rfl (Nat.le_of_ble_eq_true rfl) (kd dtX6_holdRow_0 12 rfl) ⟨Nat.zero_le _, Nat.zero_le _⟩ (fun H locs hX => ?_)
  cases hf
  exact kvret F hX hr hlocks rfl (kd dtX6_holdRow_0 13 rfl)
def lX6_setElement_0 : List (Nat × Instr × Nat) := [(0, .aload_n 0, 1), (1, .iload_n 1, 1), (2, .invokevirtual 39, 3), (5, .ifCond .ne 5, 3), (8, .iconst 0, 1), (9, .ireturn, 1), (10, .aload_n 0, 1), (11, .getfield 9, 3), (14, .iload_n 1, 1), (15, .aload_n 0, 1), (16, .getfield 15, 3), (19, .ifCond .ne 8, 3), (22, .iload_n 2, 1), (23, .i2b, 1), (24, .goto 17, 3), (27, .aload_n 0, 1), (28, .getfield 15, 3), (31, .iconst 1, 1), (32, .if_icmp .ne 8, 3), (35, .iload_n 2, 1), (36, .i2s, 1), (37, .goto 4, 3), (40, .iload_n 2, 1), (41, .iastore, 1), (42, .iconst 1, 1), (43, .ireturn, 1)]
theorem dtX6_setElement_0 : kDec cX6_setElement lX6_setElement_0 = true := by decide +kernel
noncomputable def fX6_setElement (x0 : Nat) (x1 : Int32) (x2 : Int32) (w : kW) : Option (Int32 × kW) :=
  (kRc w 6 (some x0)).bind fun b1 =>
  (fX6_hasPlace b1 x1 w).bind fun v3 =>
  if v3 = 0 then
  some ((0 : Int32), w)
  else
  (kgP w 6 (some x0) 0).bind fun v4 =>
  (kgI w 6 (some x0) 1).bind fun v5 =>
  if v5 = 0 then
  (ksI w 14 v4 x1 x2.toInt8.toInt32).bind fun w9 =>
  some ((1 : Int32), w9)
  else
  (kgI w 6 (some x0) 1).bind fun v6 =>
  if v6 = (1 : Int32) then
  (ksI w 14 v4 x1 x2.toInt16.toInt32).bind fun w8 =>
  some ((1 : Int32), w8)
  else
  (ksI w 14 v4 x1 x2).bind fun w7 =>
  some ((1 : Int32), w7)

set_option maxHeartbeats 4000000 in
set_option maxRecDepth 100000 in
theorem rX6_setElement (l : Launch) (D : va_G) (aC : Nat → ClassId) {x0 : Nat} {x1 : Int32} {x2 : Int32} {w : kW} {wR : kW} {oR : Int32} (h : fX6_setElement x0 x1 x2 w = some (oR, wR)) : kC l D aC yX6_setElement cX6_setElement 3 (some .boolean) 2 33 [.ref x0, .int x1, .int x2] w (some (.int oR)) wR 0 0 := by
  refine kOf (own := RX6) (by decide) rfl (Nat.le_of_ble_eq_true rfl) ?_
  intro p e s m below meth c ls F hml hr hlocks hnm hX hZ hl
  obtain ⟨hx, hb, hts, hown, hK⟩ := id F
  have hl : lv_has ls 3 [(0, .ref x0), (1, .int x1), (2, .int x2)] := hl
  have hf := h
  rw [fX6_setElement] at hf
  refine lv_aload_n hx hb (kd dtX6_setElement_0 0 rfl) rfl (lv_at hl 0 rfl) ?_
  refine lv_iload_n hx hb (kd dtX6_setElement_0 1 rfl) rfl (lv_at hl 1 rfl) ?_
  obtain ⟨b1, hb1, hf⟩ := kbind hf
  obtain ⟨hrb1, hkb1⟩ := kRc_s hb1
  obtain ⟨v3, h2, hf⟩ := kbind hf
  refine kcallV (n := 1) [.int x1] [] [.int v3] (rX6_hasPlace l D aC h2) hrb1 hkb1 F hml hX hZ hl.1 mwX6_hasPlace wmX6_39 rfl (by decide) (by decide +kernel) ⟨(by decide), (by decide)⟩ rfl rfl rfl (Nat.le_of_ble_eq_true rfl) (kd dtX6_setElement_0 2 rfl) ⟨Nat.zero_le _, Nat.zero_le _⟩ (fun H locs hX => ?_)
  refine lv_if_ne (tgt := 10) hx hb (kd dtX6_setElement_0 3 rfl) (by decide) (fun hc => ?_) (fun hc => ?_)
  · have hf := kif_neg hc hf
    refine lv_aload_n hx hb (kd dtX6_setElement_0 6 rfl) rfl (lv_at hl 0 rfl) ?_
    obtain ⟨v4, hv4, hf⟩ := kbind hf
    refine kgetP hv4 F hX hinX6 rfl rfl rfl (by decide) (by decide) wfX6_9 (kd dtX6_setElement_0 7 rfl) ?_
    refine lv_iload_n hx hb (kd dtX6_setElement_0 8 rfl) rfl (lv_at hl 1 rfl) ?_
    refine lv_aload_n hx hb (kd dtX6_setElement_0 9 rfl) rfl (lv_at hl 0 rfl) ?_
    obtain ⟨v5, hv5, hf⟩ := kbind hf
    refine kgetI hv5 F hX hinX6 rfl rfl rfl (by decide) (by decide) wfX6_15 (kd dtX6_setElement_0 10 rfl) ?_
    refine lv_if_ne (tgt := 27) hx hb (kd dtX6_setElement_0 11 rfl) (by decide) (fun hc => ?_) (fun hc => ?_)
    · have hf := kif_neg hc hf
      refine lv_aload_n hx hb (kd dtX6_setElement_0 15 rfl) rfl (lv_at hl 0 rfl) ?_
      obtain ⟨v6, hv6, hf⟩ := kbind hf
      refine kgetI hv6 F hX hinX6 rfl rfl rfl (by decide) (by decide) wfX6_15 (kd dtX6_setElement_0 16 rfl) ?_
      refine lv_iconst (v := (1 : Int32)) hx hb (kd dtX6_setElement_0 17 rfl) (by decide) ?_
      refine lv_icmp_ne (tgt := 40) hx hb (kd dtX6_setElement_0 18 rfl) (by decide) (fun hc => ?_) (fun hc => ?_)
      · have hf := kif_neg hc hf
        refine lv_iload_n hx hb (kd dtX6_setElement_0 22 rfl) rfl (lv_at hl 2 rfl) ?_
        obtain ⟨w7, hw7, hf⟩ := kbind hf
        refine kast hw7 F hX (kd dtX6_setElement_0 23 rfl) (fun H locs hX => ?_)
        refine lv_iconst (v := (1 : Int32)) hx hb (kd dtX6_setElement_0 24 rfl) (by decide) ?_
        cases hf
        exact kzret F hX hr hlocks rfl rfl (kd dtX6_setElement_0 25 rfl)
      · have hf := kif_pos hc hf
        refine lv_iload_n hx hb (kd dtX6_setElement_0 19 rfl) rfl (lv_at hl 2 rfl) ?_
        refine lv_i2s (v := x2.toInt16.toInt32) hx hb (kd dtX6_setElement_0 20 rfl) rfl ?_
        refine lv_goto (tgt := 41) hx hb (kd dtX6_setElement_0 21 rfl) (by decide) ?_
        obtain ⟨w8, hw8, hf⟩ := kbind hf
        refine kast hw8 F hX (kd dtX6_setElement_0 23 rfl) (fun H locs hX => ?_)
        refine lv_iconst (v := (1 : Int32)) hx hb (kd dtX6_setElement_0 24 rfl) (by decide) ?_
        cases hf
        exact kzret F hX hr hlocks rfl rfl (kd dtX6_setElement_0 25 rfl)
    · have hf := kif_pos hc hf
      refine lv_iload_n hx hb (kd dtX6_setElement_0 12 rfl) rfl (lv_at hl 2 rfl) ?_
      refine lv_i2b (v := x2.toInt8.toInt32) hx hb (kd dtX6_setElement_0 13 rfl) rfl ?_
      refine lv_goto (tgt := 41) hx hb (kd dtX6_setElement_0 14 rfl) (by decide) ?_
      obtain ⟨w9, hw9, hf⟩ := kbind hf
      refine kast hw9 F hX (kd dtX6_setElement_0 23 rfl) (fun H locs hX => ?_)
      refine lv_iconst (v := (1 : Int32)) hx hb (kd dtX6_setElement_0 24 rfl) (by decide) ?_
      cases hf
      exact kzret F hX hr hlocks rfl rfl (kd dtX6_setElement_0 25 rfl)
  · have hf := kif_pos hc hf
    refine lv_iconst (v := (0 : Int32)) hx hb (kd dtX6_setElement_0 4 rfl) (by decide) ?_
    cases hf
    exact kzret F hX hr hlocks rfl rfl (kd dtX6_setElement_0 5 rfl)
def lX6_isEmpty_0 : List (Nat × Instr × Nat) := [(0, .aload_n 0, 1), (1, .getfield 22, 3), (4, .ifnonnull 15, 3), (7, .aload_n 0, 1), (8, .getfield 15, 3), (11, .iconst (-1), 1), (12, .if_icmp .ne 7, 3), (15, .iconst 1, 1), (16, .goto 4, 3), (19, .iconst 0, 1), (20, .ireturn, 1)]
theorem dtX6_isEmpty_0 : kDec cX6_isEmpty lX6_isEmpty_0 = true := by decide +kernel
noncomputable def fX6_isEmpty (x0 : Nat) (w : kW) : Option Int32 :=
  (kgP w 6 (some x0) 3).bind fun v1 =>
  if v1 = none then
  (kgI w 6 (some x0) 1).bind fun v2 =>
  if v2 = (-1 : Int32) then
  some (1 : Int32)
  else
  some (0 : Int32)
  else
  some (0 : Int32)

set_option maxHeartbeats 4000000 in
set_option maxRecDepth 100000 in
theorem rX6_isEmpty (l : Launch) (D : va_G) (aC : Nat → ClassId) {x0 : Nat} {w : kW} {oR : Int32} (h : fX6_isEmpty x0 w = some oR) : kC l D aC yX6_isEmpty cX6_isEmpty 1 (some .boolean) 1 12 [.ref x0] w (some (.int oR)) w 0 0 := by
  refine kOf (own := RX6) (by decide) rfl (Nat.le_of_ble_eq_true rfl) ?_
  intro p e s m below meth c ls F hml hr hlocks hnm hX hZ hl
  obtain ⟨hx, hb, hts, hown, hK⟩ := id F
  have hl : lv_has ls 1 [(0, .ref x0)] := hl
  have hf := h
  rw [fX6_isEmpty] at hf
  refine lv_aload_n hx hb (kd dtX6_isEmpty_0 0 rfl) rfl (lv_at hl 0 rfl) ?_
  obtain ⟨v1, hv1, hf⟩ := kbind hf
  refine kgetP hv1 F hX hinX6 rfl rfl rfl (by decide) (by decide) wfX6_22 (kd dtX6_isEmpty_0 1 rfl) ?_
  refine kifnonnull (tgt := 19) hx hb (kd dtX6_isEmpty_0 2 rfl) (by decide) (fun hc => ?_) (fun hc => ?_)
  · have hf := kif_pos hc hf
    refine lv_aload_n hx hb (kd dtX6_isEmpty_0 3 rfl) rfl (lv_at hl 0 rfl) ?_
    obtain ⟨v2, hv2, hf⟩ := kbind hf
    refine kgetI hv2 F hX hinX6 rfl rfl rfl (by decide) (by decide) wfX6_15 (kd dtX6_isEmpty_0 4 rfl) ?_
    refine lv_iconst (v := (-1 : Int32)) hx hb (kd dtX6_isEmpty_0 5 rfl) (by decide) ?_
    refine lv_icmp_ne (tgt := 19) hx hb (kd dtX6_isEmpty_0 6 rfl) (by decide) (fun hc => ?_) (fun hc => ?_)
    · have hf := kif_neg hc hf
      refine lv_iconst (v := (0 : Int32)) hx hb (kd dtX6_isEmpty_0 9 rfl) (by decide) ?_
      cases hf
      exact kzret F hX hr hlocks rfl rfl (kd dtX6_isEmpty_0 10 rfl)
    · have hf := kif_pos hc hf
      refine lv_iconst (v := (1 : Int32)) hx hb (kd dtX6_isEmpty_0 7 rfl) (by decide) ?_
      refine lv_goto (tgt := 20) hx hb (kd dtX6_isEmpty_0 8 rfl) (by decide) ?_
      cases hf
      exact kzret F hX hr hlocks rfl rfl (kd dtX6_isEmpty_0 10 rfl)
  · have hf := kif_neg hc hf
    refine lv_iconst (v := (0 : Int32)) hx hb (kd dtX6_isEmpty_0 9 rfl) (by decide) ?_
    cases hf
    exact kzret F hX hr hlocks rfl rfl (kd dtX6_isEmpty_0 10 rfl)
def lX6_hasPlaces_0 : List (Nat × Instr × Nat) := [(0, .iload_n 1, 1), (1, .ifCond .lt 29, 3), (4, .iload_n 2, 1), (5, .ifCond .lt 25, 3), (8, .iload_n 2, 1), (9, .aload_n 0, 1), (10, .getfield 19, 3), (13, .if_icmp .gt 17, 3), (16, .iload_n 1, 1), (17, .aload_n 0, 1), (18, .getfield 19, 3), (21, .iload_n 2, 1), (22, .isub, 1), (23, .if_icmp .gt 7, 3), (26, .iconst 1, 1), (27, .goto 4, 3), (30, .iconst 0, 1), (31, .ireturn, 1)]
theorem dtX6_hasPlaces_0 : kDec cX6_hasPlaces lX6_hasPlaces_0 = true := by decide +kernel
noncomputable def fX6_hasPlaces (x0 : Nat) (x1 : Int32) (x2 : Int32) (w : kW) : Option Int32 :=
  if x1 < 0 then
  some (0 : Int32)
  else
  if x2 < 0 then
  some (0 : Int32)
  else
  (kgI w 6 (some x0) 2).bind fun v1 =>
  if v1 < x2 then
  some (0 : Int32)
  else
  (kgI w 6 (some x0) 2).bind fun v2 =>
  if (v2 - x2) < x1 then
  some (0 : Int32)
  else
  some (1 : Int32)

set_option maxHeartbeats 4000000 in
set_option maxRecDepth 100000 in
theorem rX6_hasPlaces (l : Launch) (D : va_G) (aC : Nat → ClassId) {x0 : Nat} {x1 : Int32} {x2 : Int32} {w : kW} {oR : Int32} (h : fX6_hasPlaces x0 x1 x2 w = some oR) : kC l D aC yX6_hasPlaces cX6_hasPlaces 3 (some .boolean) 1 12 [.ref x0, .int x1, .int x2] w (some (.int oR)) w 0 0 := by
  refine kOf (own := RX6) (by decide) rfl (Nat.le_of_ble_eq_true rfl) ?_
  intro p e s m below meth c ls F hml hr hlocks hnm hX hZ hl
  obtain ⟨hx, hb, hts, hown, hK⟩ := id F
  have hl : lv_has ls 3 [(0, .ref x0), (1, .int x1), (2, .int x2)] := hl
  have hf := h
  rw [fX6_hasPlaces] at hf
  refine lv_iload_n hx hb (kd dtX6_hasPlaces_0 0 rfl) rfl (lv_at hl 1 rfl) ?_
  refine lv_if_lt (tgt := 30) hx hb (kd dtX6_hasPlaces_0 1 rfl) (by decide) (fun hc => ?_) (fun hc => ?_)
  · have hf := kif_pos hc hf
    refine lv_iconst (v := (0 : Int32)) hx hb (kd dtX6_hasPlaces_0 16 rfl) (by decide) ?_
    cases hf
    exact kzret F hX hr hlocks rfl rfl (kd dtX6_hasPlaces_0 17 rfl)
  · have hf := kif_neg hc hf
    refine lv_iload_n hx hb (kd dtX6_hasPlaces_0 2 rfl) rfl (lv_at hl 2 rfl) ?_
    refine lv_if_lt (tgt := 30) hx hb (kd dtX6_hasPlaces_0 3 rfl) (by decide) (fun hc => ?_) (fun hc => ?_)
    · have hf := kif_pos hc hf
      refine lv_iconst (v := (0 : Int32)) hx hb (kd dtX6_hasPlaces_0 16 rfl) (by decide) ?_
      cases hf
      exact kzret F hX hr hlocks rfl rfl (kd dtX6_hasPlaces_0 17 rfl)
    · have hf := kif_neg hc hf
      refine lv_iload_n hx hb (kd dtX6_hasPlaces_0 4 rfl) rfl (lv_at hl 2 rfl) ?_
      refine lv_aload_n hx hb (kd dtX6_hasPlaces_0 5 rfl) rfl (lv_at hl 0 rfl) ?_
      obtain ⟨v1, hv1, hf⟩ := kbind hf
      refine kgetI hv1 F hX hinX6 rfl rfl rfl (by decide) (by decide) wfX6_19 (kd dtX6_hasPlaces_0 6 rfl) ?_
      refine lv_icmp_gt (tgt := 30) hx hb (kd dtX6_hasPlaces_0 7 rfl) (by decide) (fun hc => ?_) (fun hc => ?_)
      · have hf := kif_pos hc hf
        refine lv_iconst (v := (0 : Int32)) hx hb (kd dtX6_hasPlaces_0 16 rfl) (by decide) ?_
        cases hf
        exact kzret F hX hr hlocks rfl rfl (kd dtX6_hasPlaces_0 17 rfl)
      · have hf := kif_neg hc hf
        refine lv_iload_n hx hb (kd dtX6_hasPlaces_0 8 rfl) rfl (lv_at hl 1 rfl) ?_
        refine lv_aload_n hx hb (kd dtX6_hasPlaces_0 9 rfl) rfl (lv_at hl 0 rfl) ?_
        obtain ⟨v2, hv2, hf⟩ := kbind hf
        refine kgetI hv2 F hX hinX6 rfl rfl rfl (by decide) (by decide) wfX6_19 (kd dtX6_hasPlaces_0 10 rfl) ?_
        refine lv_iload_n hx hb (kd dtX6_hasPlaces_0 11 rfl) rfl (lv_at hl 2 rfl) ?_
        refine lv_isub hx hb (kd dtX6_hasPlaces_0 12 rfl) ?_
        refine lv_icmp_gt (tgt := 30) hx hb (kd dtX6_hasPlaces_0 13 rfl) (by decide) (fun hc => ?_) (fun hc => ?_)
        · have hf := kif_pos hc hf
          refine lv_iconst (v := (0 : Int32)) hx hb (kd dtX6_hasPlaces_0 16 rfl) (by decide) ?_
          cases hf
          exact kzret F hX hr hlocks rfl rfl (kd dtX6_hasPlaces_0 17 rfl)
        · have hf := kif_neg hc hf
          refine lv_iconst (v := (1 : Int32)) hx hb (kd dtX6_hasPlaces_0 14 rfl) (by decide) ?_
          refine lv_goto (tgt := 31) hx hb (kd dtX6_hasPlaces_0 15 rfl) (by decide) ?_
          cases hf
          exact kzret F hX hr hlocks rfl rfl (kd dtX6_hasPlaces_0 17 rfl)
def lX6_cardRefusal_0 : List (Nat × Instr × Nat) := [(0, .aload_n 0, 1), (1, .getfield 22, 3), (4, .ifnull 7, 3), (7, .iconst 0, 1), (8, .goto 18, 3), (11, .aload_n 0, 1), (12, .getfield 15, 3), (15, .iconst (-1), 1), (16, .if_icmp .ne 8, 3), (19, .bipush (-11), 2), (21, .goto 5, 3), (24, .bipush (-12), 2), (26, .ireturn, 1)]
theorem dtX6_cardRefusal_0 : kDec cX6_cardRefusal lX6_cardRefusal_0 = true := by decide +kernel
noncomputable def fX6_cardRefusal (x0 : Nat) (w : kW) : Option Int32 :=
  (kgP w 6 (some x0) 3).bind fun v1 =>
  if v1 = none then
  (kgI w 6 (some x0) 1).bind fun v2 =>
  if v2 = (-1 : Int32) then
  some (-11 : Int32)
  else
  some (-12 : Int32)
  else
  some (0 : Int32)

set_option maxHeartbeats 4000000 in
set_option maxRecDepth 100000 in
theorem rX6_cardRefusal (l : Launch) (D : va_G) (aC : Nat → ClassId) {x0 : Nat} {w : kW} {oR : Int32} (h : fX6_cardRefusal x0 w = some oR) : kC l D aC yX6_cardRefusal cX6_cardRefusal 1 (some .int) 1 12 [.ref x0] w (some (.int oR)) w 0 0 := by
  refine kOf (own := RX6) (by decide) rfl (Nat.le_of_ble_eq_true rfl) ?_
  intro p e s m below meth c ls F hml hr hlocks hnm hX hZ hl
  obtain ⟨hx, hb, hts, hown, hK⟩ := id F
  have hl : lv_has ls 1 [(0, .ref x0)] := hl
  have hf := h
  rw [fX6_cardRefusal] at hf
  refine lv_aload_n hx hb (kd dtX6_cardRefusal_0 0 rfl) rfl (lv_at hl 0 rfl) ?_
  obtain ⟨v1, hv1, hf⟩ := kbind hf
  refine kgetP hv1 F hX hinX6 rfl rfl rfl (by decide) (by decide) wfX6_22 (kd dtX6_cardRefusal_0 1 rfl) ?_
  refine kifnull (tgt := 11) hx hb (kd dtX6_cardRefusal_0 2 rfl) (by decide) (fun hc => ?_) (fun hc => ?_)
  · have hf := kif_pos hc hf
    refine lv_aload_n hx hb (kd dtX6_cardRefusal_0 5 rfl) rfl (lv_at hl 0 rfl) ?_
    obtain ⟨v2, hv2, hf⟩ := kbind hf
    refine kgetI hv2 F hX hinX6 rfl rfl rfl (by decide) (by decide) wfX6_15 (kd dtX6_cardRefusal_0 6 rfl) ?_
    refine lv_iconst (v := (-1 : Int32)) hx hb (kd dtX6_cardRefusal_0 7 rfl) (by decide) ?_
    refine lv_icmp_ne (tgt := 24) hx hb (kd dtX6_cardRefusal_0 8 rfl) (by decide) (fun hc => ?_) (fun hc => ?_)
    · have hf := kif_neg hc hf
      refine lv_bipush (v := (-12 : Int32)) hx hb (kd dtX6_cardRefusal_0 11 rfl) (by decide) ?_
      cases hf
      exact kiret F hX hr hlocks rfl (kd dtX6_cardRefusal_0 12 rfl)
    · have hf := kif_pos hc hf
      refine lv_bipush (v := (-11 : Int32)) hx hb (kd dtX6_cardRefusal_0 9 rfl) (by decide) ?_
      refine lv_goto (tgt := 26) hx hb (kd dtX6_cardRefusal_0 10 rfl) (by decide) ?_
      cases hf
      exact kiret F hX hr hlocks rfl (kd dtX6_cardRefusal_0 12 rfl)
  · have hf := kif_neg hc hf
    refine lv_iconst (v := (0 : Int32)) hx hb (kd dtX6_cardRefusal_0 3 rfl) (by decide) ?_
    refine lv_goto (tgt := 26) hx hb (kd dtX6_cardRefusal_0 4 rfl) (by decide) ?_
    cases hf
    exact kiret F hX hr hlocks rfl (kd dtX6_cardRefusal_0 12 rfl)
