theorem wmX7_3 : Cond.methodLink RX7 3 objectInit ∈ kT := kTm 299 (by decide +kernel) rfl
theorem wkX7_9 : Cond.classLink RX7 9 RX4 ∈ kT := kTm 300 (by decide +kernel) rfl
theorem wnX4 : Cond.instantiable RX4 2 ∈ kT := kTm 260 (by decide +kernel) rfl
theorem wiX4 : Cond.initialized RX4 ∈ kT := kTm 100 (by decide +kernel) rfl
theorem wmX7_11 : Cond.methodLinkNest RX7 11 yX4_init "KitchenCards" ∈ kNs := kNm 301 (by decide +kernel) rfl
theorem mwX4_init : kMI yX4_init cX4_init 1 := ⟨kTm 263 (by decide +kernel) rfl, kTm 100 (by decide +kernel) rfl, kTm 262 (by decide +kernel) rfl⟩
theorem wfX7_12 : Cond.fieldLink RX7 12 (TX7 0).1 (TX7 0).2.1 (TX7 0).2.2.1 ∈ kT := kTm 302 (by decide +kernel) rfl
theorem wfX7_18 : Cond.fieldLink RX7 18 (TX7 1).1 (TX7 1).2.1 (TX7 1).2.2.1 ∈ kT := kTm 303 (by decide +kernel) rfl
def lX7_init_0 : List (Nat × Instr × Nat) := [(0, .aload_n 0, 1), (1, .invokespecial 3, 3), (4, .aload_n 0, 1), (5, .new 9, 3), (8, .dup, 1), (9, .invokespecial 11, 3), (12, .putfield 12, 3), (15, .aload_n 0, 1), (16, .bipush 40, 2), (18, .newarray .int, 2), (20, .putfield 18, 3), (23, .return_, 1)]
theorem dtX7_init_0 : kDec cX7_init lX7_init_0 = true := by decide +kernel
noncomputable def fX7_init (x0 : Nat) (w : kW) : Option kW :=
  (knO w 4).bind fun w1 =>
  (fX4_init (kSz w) w1).bind fun w2 =>
  (kpP w2 7 (some x0) 0 (some (kSz w))).bind fun w4 =>
  (knA w4 14 (40 : Int32)).bind fun w5 =>
  (kpP w5 7 (some x0) 1 (some (kSz w4))).bind fun w6 =>
  some w6

set_option maxHeartbeats 4000000 in
set_option maxRecDepth 100000 in
theorem rX7_init (l : Launch) (D : va_G) (aC : Nat → ClassId) {x0 : Nat} {w : kW} {wR : kW} (h : fX7_init x0 w = some wR) : kC l D aC yX7_init cX7_init 1 none 2 40 [.ref x0] w none wR 3 48 := by
  refine kOf (own := RX7) (by decide) rfl (Nat.le_of_ble_eq_true rfl) ?_
  intro p e s m below meth c ls F hml hr hlocks hnm hX hZ hl
  obtain ⟨hx, hb, hts, hown, hK⟩ := id F
  have hl : lv_has ls 1 [(0, .ref x0)] := hl
  have hf := h
  rw [fX7_init] at hf
  refine lv_aload_n hx hb (kd dtX7_init_0 0 rfl) rfl (lv_at hl 0 rfl) ?_
  refine kobj F (hml.trans hl.1.symm) wmX7_3 (Nat.le_of_ble_eq_true rfl) (Nat.le_of_ble_eq_true rfl) (kd dtX7_init_0 1 rfl) ?_
  refine lv_aload_n hx hb (kd dtX7_init_0 2 rfl) rfl (lv_at hl 0 rfl) ?_
  obtain ⟨w1, hw1, hf⟩ := kbind hf
  refine knewo (k := 4) hw1 F hX hinX4 tyX4_ok (by decide +kernel) rfl rfl (by decide) wkX7_9 wnX4 wiX4 (Nat.le_of_ble_eq_true rfl) (Nat.le_of_ble_eq_true rfl) (kd dtX7_init_0 3 rfl) (fun H hX => ?_)
  refine lv_dup hx hb (kd dtX7_init_0 4 rfl) rfl ?_
  obtain ⟨w2, h3, hf⟩ := kbind hf
  refine kcallIN (n := 0) [] [.ref (kSz w), .ref x0] [.ref (kSz w), .ref x0] (rX4_init l D aC h3) F hml hX hZ hl.1 mwX4_init wmX7_11 rfl (by decide +kernel) ⟨(by decide), (by decide)⟩ rfl rfl rfl (Nat.le_of_ble_eq_true rfl) (kd dtX7_init_0 5 rfl) ⟨Nat.le_of_ble_eq_true rfl, Nat.le_of_ble_eq_true rfl⟩ (fun H locs hX => ?_)
  obtain ⟨w4, hw4, hf⟩ := kbind hf
  refine kputP hw4 F hX hinX7 tyX7_ok nmX7 rfl rfl rfl (by decide) (by decide) wfX7_12 (Or.inr ⟨rfl, hnm, rfl⟩) (kd dtX7_init_0 6 rfl) (fun H locs hX => ?_)
  refine lv_aload_n hx hb (kd dtX7_init_0 7 rfl) rfl (lv_at hl 0 rfl) ?_
  refine lv_bipush (v := (40 : Int32)) hx hb (kd dtX7_init_0 8 rfl) (by decide) ?_
  obtain ⟨w5, hw5, hf⟩ := kbind hf
  refine knewa (mx := 40) hw5 rfl (fun _ => rfl) (by decide) (by decide) F hX wA14 (by decide) (by decide) (Nat.le_of_ble_eq_true rfl) (Nat.le_of_ble_eq_true rfl) (kd dtX7_init_0 9 rfl) (fun H hX => ?_)
  obtain ⟨w6, hw6, hf⟩ := kbind hf
  refine kputP hw6 F hX hinX7 tyX7_ok nmX7 rfl rfl rfl (by decide) (by decide) wfX7_18 (Or.inr ⟨rfl, hnm, rfl⟩) (kd dtX7_init_0 10 rfl) (fun H locs hX => ?_)
  cases hf
  refine W.widen (k := 3) (n := 48) (Nat.le_of_ble_eq_true rfl) (Nat.le_of_ble_eq_true rfl) ?_
  exact kvret F hX hr hlocks rfl (kd dtX7_init_0 11 rfl)
theorem wmX7_55 : Cond.methodLink RX7 55 yX1_isIf ∈ kT := kTm 773 (by decide +kernel) rfl
theorem mwX1_isIf : kMV RX1 yX1_isIf cX1_isIf 1 (some .boolean) := ⟨kTm 776 (by decide +kernel) rfl, kTm 97 (by decide +kernel) rfl, kTm 774 (by decide +kernel) rfl, kTm 775 (by decide +kernel) rfl⟩
theorem wmX7_61 : Cond.methodLink RX7 61 yX1_samePart ∈ kT := kTm 777 (by decide +kernel) rfl
theorem wmX7_65 : Cond.methodLink RX7 65 yX1_second ∈ kT := kTm 778 (by decide +kernel) rfl
theorem mwX1_second : kMV RX1 yX1_second cX1_second 1 (some .int) := ⟨kTm 781 (by decide +kernel) rfl, kTm 97 (by decide +kernel) rfl, kTm 779 (by decide +kernel) rfl, kTm 780 (by decide +kernel) rfl⟩
def lX7_isThen_0 : List (Nat × Instr × Nat) := [(0, .aload_n 3, 1), (1, .invokevirtual 55, 3), (4, .ifCond .eq 30, 3), (7, .aload_n 3, 1), (8, .iconst 1, 1), (9, .aload_n 2, 1), (10, .iconst 0, 1), (11, .invokevirtual 61, 3), (14, .ifCond .eq 20, 3), (17, .aload_n 3, 1), (18, .aload_n 3, 1), (19, .invokevirtual 65, 3), (22, .aload_n 1, 1), (23, .iconst 0, 1), (24, .invokevirtual 61, 3), (27, .ifCond .eq 7, 3), (30, .iconst 1, 1), (31, .goto 4, 3), (34, .iconst 0, 1), (35, .ireturn, 1)]
theorem dtX7_isThen_0 : kDec cX7_isThen lX7_isThen_0 = true := by decide +kernel
noncomputable def fX7_isThen (x0 : Nat) (x1 : Option Nat) (x2 : Option Nat) (x3 : Option Nat) (w : kW) : Option Int32 :=
  (kRc w 1 x3).bind fun b1 =>
  (fX1_isIf b1 w).bind fun v3 =>
  if v3 = 0 then
  some (0 : Int32)
  else
  (kRc w 1 x3).bind fun b4 =>
  (fX1_samePart b4 (1 : Int32) x2 (0 : Int32) w).bind fun v6 =>
  if v6 = 0 then
  some (0 : Int32)
  else
  (kRc w 1 x3).bind fun b7 =>
  (fX1_second b7 w).bind fun v9 =>
  (kRc w 1 x3).bind fun b10 =>
  (fX1_samePart b10 v9 x1 (0 : Int32) w).bind fun v12 =>
  if v12 = 0 then
  some (0 : Int32)
  else
  some (1 : Int32)

set_option maxHeartbeats 4000000 in
set_option maxRecDepth 100000 in
theorem rX7_isThen (l : Launch) (D : va_G) (aC : Nat → ClassId) {x0 : Nat} {x1 : Option Nat} {x2 : Option Nat} {x3 : Option Nat} {w : kW} {oR : Int32} (h : fX7_isThen x0 x1 x2 x3 w = some oR) : kC l D aC yX7_isThen cX7_isThen 4 (some .boolean) 3 58 [.ref x0, va_rf x1, va_rf x2, va_rf x3] w (some (.int oR)) w 0 0 := by
  refine kOf (own := RX7) (by decide) rfl (by simp [lg_sl, kcat_rf, kcat_i, kcat_r, kcat_l]) ?_
  intro p e s m below meth c ls F hml hr hlocks hnm hX hZ hl
  obtain ⟨hx, hb, hts, hown, hK⟩ := id F
  have hl : lv_has ls 4 [(0, .ref x0), (1, va_rf x1), (2, va_rf x2), (3, va_rf x3)] := by simpa [lv_args, kcat_rf, kcat_i, kcat_r, kcat_l] using hl
  have hf := h
  rw [fX7_isThen] at hf
  refine kaload_n hx hb (kd dtX7_isThen_0 0 rfl) rfl (lv_at hl 3 rfl) ?_
  obtain ⟨b1, hb1, hf⟩ := kbind hf
  obtain ⟨hrb1, hkb1⟩ := kRc_s hb1
  obtain ⟨v3, h2, hf⟩ := kbind hf
  refine kcallV (n := 0) [] [] [.int v3] (rX1_isIf l D aC h2) hrb1 hkb1 F hml hX hZ hl.1 mwX1_isIf wmX7_55 rfl (by decide) (by decide +kernel) ⟨(by decide), (by decide)⟩ rfl rfl rfl (Nat.le_of_ble_eq_true rfl) (kd dtX7_isThen_0 1 rfl) ⟨Nat.zero_le _, Nat.zero_le _⟩ (fun H locs hX => ?_)
  refine lv_if_eq (tgt := 34) hx hb (kd dtX7_isThen_0 2 rfl) (by decide) (fun hc => ?_) (fun hc => ?_)
  · have hf := kif_pos hc hf
    refine lv_iconst (v := (0 : Int32)) hx hb (kd dtX7_isThen_0 18 rfl) (by decide) ?_
    cases hf
    exact kzret F hX hr hlocks rfl rfl (kd dtX7_isThen_0 19 rfl)
  · have hf := kif_neg hc hf
    refine kaload_n hx hb (kd dtX7_isThen_0 3 rfl) rfl (lv_at hl 3 rfl) ?_
    refine lv_iconst (v := (1 : Int32)) hx hb (kd dtX7_isThen_0 4 rfl) (by decide) ?_
    refine kaload_n hx hb (kd dtX7_isThen_0 5 rfl) rfl (lv_at hl 2 rfl) ?_
    refine lv_iconst (v := (0 : Int32)) hx hb (kd dtX7_isThen_0 6 rfl) (by decide) ?_
    obtain ⟨b4, hb4, hf⟩ := kbind hf
    obtain ⟨hrb4, hkb4⟩ := kRc_s hb4
    obtain ⟨v6, h5, hf⟩ := kbind hf
    refine kcallV (n := 3) [.int (1 : Int32), va_rf x2, .int (0 : Int32)] [] [.int v6] (rX1_samePart l D aC h5) hrb4 hkb4 F hml hX hZ hl.1 mwX1_samePart wmX7_61 rfl (by decide) (by decide +kernel) ⟨(by decide), (by decide)⟩ rfl rfl rfl (Nat.le_of_ble_eq_true rfl) (kd dtX7_isThen_0 7 rfl) ⟨Nat.zero_le _, Nat.zero_le _⟩ (fun H locs hX => ?_)
    refine lv_if_eq (tgt := 34) hx hb (kd dtX7_isThen_0 8 rfl) (by decide) (fun hc => ?_) (fun hc => ?_)
    · have hf := kif_pos hc hf
      refine lv_iconst (v := (0 : Int32)) hx hb (kd dtX7_isThen_0 18 rfl) (by decide) ?_
      cases hf
      exact kzret F hX hr hlocks rfl rfl (kd dtX7_isThen_0 19 rfl)
    · have hf := kif_neg hc hf
      refine kaload_n hx hb (kd dtX7_isThen_0 9 rfl) rfl (lv_at hl 3 rfl) ?_
      refine kaload_n hx hb (kd dtX7_isThen_0 10 rfl) rfl (lv_at hl 3 rfl) ?_
      obtain ⟨b7, hb7, hf⟩ := kbind hf
      obtain ⟨hrb7, hkb7⟩ := kRc_s hb7
      obtain ⟨v9, h8, hf⟩ := kbind hf
      refine kcallV (n := 0) [] [va_rf x3] [.int v9, va_rf x3] (rX1_second l D aC h8) hrb7 hkb7 F hml hX hZ hl.1 mwX1_second wmX7_65 rfl (by decide) (by decide +kernel) ⟨(by decide), (by decide)⟩ rfl rfl rfl (by simp [kcat_rf, kcat_i, kcat_r, kcat_l]) (kd dtX7_isThen_0 11 rfl) ⟨Nat.zero_le _, Nat.zero_le _⟩ (fun H locs hX => ?_)
      refine kaload_n hx hb (kd dtX7_isThen_0 12 rfl) rfl (lv_at hl 1 rfl) ?_
      refine lv_iconst (v := (0 : Int32)) hx hb (kd dtX7_isThen_0 13 rfl) (by decide) ?_
      obtain ⟨b10, hb10, hf⟩ := kbind hf
      obtain ⟨hrb10, hkb10⟩ := kRc_s hb10
      obtain ⟨v12, h11, hf⟩ := kbind hf
      refine kcallV (n := 3) [.int v9, va_rf x1, .int (0 : Int32)] [] [.int v12] (rX1_samePart l D aC h11) hrb10 hkb10 F hml hX hZ hl.1 mwX1_samePart wmX7_61 rfl (by decide) (by decide +kernel) ⟨(by decide), (by decide)⟩ rfl rfl rfl (Nat.le_of_ble_eq_true rfl) (kd dtX7_isThen_0 14 rfl) ⟨Nat.zero_le _, Nat.zero_le _⟩ (fun H locs hX => ?_)
      refine lv_if_eq (tgt := 34) hx hb (kd dtX7_isThen_0 15 rfl) (by decide) (fun hc => ?_) (fun hc => ?_)
      · have hf := kif_pos hc hf
        refine lv_iconst (v := (0 : Int32)) hx hb (kd dtX7_isThen_0 18 rfl) (by decide) ?_
        cases hf
        exact kzret F hX hr hlocks rfl rfl (kd dtX7_isThen_0 19 rfl)
      · have hf := kif_neg hc hf
        refine lv_iconst (v := (1 : Int32)) hx hb (kd dtX7_isThen_0 16 rfl) (by decide) ?_
        refine lv_goto (tgt := 35) hx hb (kd dtX7_isThen_0 17 rfl) (by decide) ?_
        cases hf
        exact kzret F hX hr hlocks rfl rfl (kd dtX7_isThen_0 19 rfl)
def lX7_isChain_0 : List (Nat × Instr × Nat) := [(0, .aload_n 2, 1), (1, .invokevirtual 55, 3), (4, .ifCond .eq 60, 3), (7, .aload_n 3, 1), (8, .invokevirtual 55, 3), (11, .ifCond .eq 53, 3), (14, .aload_n 1, 1), (15, .invokevirtual 55, 3), (18, .ifCond .eq 46, 3), (21, .aload_n 2, 1), (22, .aload_n 2, 1), (23, .invokevirtual 65, 3), (26, .aload_n 3, 1), (27, .iconst 1, 1), (28, .invokevirtual 61, 3), (31, .ifCond .eq 33, 3), (34, .aload_n 1, 1), (35, .iconst 1, 1), (36, .aload_n 2, 1), (37, .iconst 1, 1), (38, .invokevirtual 61, 3), (41, .ifCond .eq 23, 3), (44, .aload_n 1, 1), (45, .aload_n 1, 1), (46, .invokevirtual 65, 3), (49, .aload_n 3, 1), (50, .aload_n 3, 1), (51, .invokevirtual 65, 3), (54, .invokevirtual 61, 3), (57, .ifCond .eq 7, 3), (60, .iconst 1, 1), (61, .goto 4, 3), (64, .iconst 0, 1), (65, .ireturn, 1)]
theorem dtX7_isChain_0 : kDec cX7_isChain lX7_isChain_0 = true := by decide +kernel
noncomputable def fX7_isChain (x0 : Nat) (x1 : Option Nat) (x2 : Option Nat) (x3 : Option Nat) (w : kW) : Option Int32 :=
  (kRc w 1 x2).bind fun b1 =>
  (fX1_isIf b1 w).bind fun v3 =>
  if v3 = 0 then
  some (0 : Int32)
  else
  (kRc w 1 x3).bind fun b4 =>
  (fX1_isIf b4 w).bind fun v6 =>
  if v6 = 0 then
  some (0 : Int32)
  else
  (kRc w 1 x1).bind fun b7 =>
  (fX1_isIf b7 w).bind fun v9 =>
  if v9 = 0 then
  some (0 : Int32)
  else
  (kRc w 1 x2).bind fun b10 =>
  (fX1_second b10 w).bind fun v12 =>
  (kRc w 1 x2).bind fun b13 =>
  (fX1_samePart b13 v12 x3 (1 : Int32) w).bind fun v15 =>
  if v15 = 0 then
  some (0 : Int32)
  else
  (kRc w 1 x1).bind fun b16 =>
  (fX1_samePart b16 (1 : Int32) x2 (1 : Int32) w).bind fun v18 =>
  if v18 = 0 then
  some (0 : Int32)
  else
  (kRc w 1 x1).bind fun b19 =>
  (fX1_second b19 w).bind fun v21 =>
  (kRc w 1 x3).bind fun b22 =>
  (fX1_second b22 w).bind fun v24 =>
  (kRc w 1 x1).bind fun b25 =>
  (fX1_samePart b25 v21 x3 v24 w).bind fun v27 =>
  if v27 = 0 then
  some (0 : Int32)
  else
  some (1 : Int32)

set_option maxHeartbeats 4000000 in
set_option maxRecDepth 100000 in
theorem rX7_isChain (l : Launch) (D : va_G) (aC : Nat → ClassId) {x0 : Nat} {x1 : Option Nat} {x2 : Option Nat} {x3 : Option Nat} {w : kW} {oR : Int32} (h : fX7_isChain x0 x1 x2 x3 w = some oR) : kC l D aC yX7_isChain cX7_isChain 4 (some .boolean) 3 58 [.ref x0, va_rf x1, va_rf x2, va_rf x3] w (some (.int oR)) w 0 0 := by
  refine kOf (own := RX7) (by decide) rfl (by simp [lg_sl, kcat_rf, kcat_i, kcat_r, kcat_l]) ?_
  intro p e s m below meth c ls F hml hr hlocks hnm hX hZ hl
  obtain ⟨hx, hb, hts, hown, hK⟩ := id F
  have hl : lv_has ls 4 [(0, .ref x0), (1, va_rf x1), (2, va_rf x2), (3, va_rf x3)] := by simpa [lv_args, kcat_rf, kcat_i, kcat_r, kcat_l] using hl
  have hf := h
  rw [fX7_isChain] at hf
  refine kaload_n hx hb (kd dtX7_isChain_0 0 rfl) rfl (lv_at hl 2 rfl) ?_
  obtain ⟨b1, hb1, hf⟩ := kbind hf
  obtain ⟨hrb1, hkb1⟩ := kRc_s hb1
  obtain ⟨v3, h2, hf⟩ := kbind hf
  refine kcallV (n := 0) [] [] [.int v3] (rX1_isIf l D aC h2) hrb1 hkb1 F hml hX hZ hl.1 mwX1_isIf wmX7_55 rfl (by decide) (by decide +kernel) ⟨(by decide), (by decide)⟩ rfl rfl rfl (Nat.le_of_ble_eq_true rfl) (kd dtX7_isChain_0 1 rfl) ⟨Nat.zero_le _, Nat.zero_le _⟩ (fun H locs hX => ?_)
  refine lv_if_eq (tgt := 64) hx hb (kd dtX7_isChain_0 2 rfl) (by decide) (fun hc => ?_) (fun hc => ?_)
  · have hf := kif_pos hc hf
    refine lv_iconst (v := (0 : Int32)) hx hb (kd dtX7_isChain_0 32 rfl) (by decide) ?_
    cases hf
    exact kzret F hX hr hlocks rfl rfl (kd dtX7_isChain_0 33 rfl)
  · have hf := kif_neg hc hf
    refine kaload_n hx hb (kd dtX7_isChain_0 3 rfl) rfl (lv_at hl 3 rfl) ?_
    obtain ⟨b4, hb4, hf⟩ := kbind hf
    obtain ⟨hrb4, hkb4⟩ := kRc_s hb4
    obtain ⟨v6, h5, hf⟩ := kbind hf
    refine kcallV (n := 0) [] [] [.int v6] (rX1_isIf l D aC h5) hrb4 hkb4 F hml hX hZ hl.1 mwX1_isIf wmX7_55 rfl (by decide) (by decide +kernel) ⟨(by decide), (by decide)⟩ rfl rfl rfl (Nat.le_of_ble_eq_true rfl) (kd dtX7_isChain_0 4 rfl) ⟨Nat.zero_le _, Nat.zero_le _⟩ (fun H locs hX => ?_)
    refine lv_if_eq (tgt := 64) hx hb (kd dtX7_isChain_0 5 rfl) (by decide) (fun hc => ?_) (fun hc => ?_)
    · have hf := kif_pos hc hf
      refine lv_iconst (v := (0 : Int32)) hx hb (kd dtX7_isChain_0 32 rfl) (by decide) ?_
      cases hf
      exact kzret F hX hr hlocks rfl rfl (kd dtX7_isChain_0 33 rfl)
    · have hf := kif_neg hc hf
      refine kaload_n hx hb (kd dtX7_isChain_0 6 rfl) rfl (lv_at hl 1 rfl) ?_
      obtain ⟨b7, hb7, hf⟩ := kbind hf
      obtain ⟨hrb7, hkb7⟩ := kRc_s hb7
      obtain ⟨v9, h8, hf⟩ := kbind hf
      refine kcallV (n := 0) [] [] [.int v9] (rX1_isIf l D aC h8) hrb7 hkb7 F hml hX hZ hl.1 mwX1_isIf wmX7_55 rfl (by decide) (by decide +kernel) ⟨(by decide), (by decide)⟩ rfl rfl rfl (Nat.le_of_ble_eq_true rfl) (kd dtX7_isChain_0 7 rfl) ⟨Nat.zero_le _, Nat.zero_le _⟩ (fun H locs hX => ?_)
      refine lv_if_eq (tgt := 64) hx hb (kd dtX7_isChain_0 8 rfl) (by decide) (fun hc => ?_) (fun hc => ?_)
      · have hf := kif_pos hc hf
        refine lv_iconst (v := (0 : Int32)) hx hb (kd dtX7_isChain_0 32 rfl) (by decide) ?_
        cases hf
        exact kzret F hX hr hlocks rfl rfl (kd dtX7_isChain_0 33 rfl)
      · have hf := kif_neg hc hf
        refine kaload_n hx hb (kd dtX7_isChain_0 9 rfl) rfl (lv_at hl 2 rfl) ?_
        refine kaload_n hx hb (kd dtX7_isChain_0 10 rfl) rfl (lv_at hl 2 rfl) ?_
        obtain ⟨b10, hb10, hf⟩ := kbind hf
        obtain ⟨hrb10, hkb10⟩ := kRc_s hb10
        obtain ⟨v12, h11, hf⟩ := kbind hf
        refine kcallV (n := 0) [] [va_rf x2] [.int v12, va_rf x2] (rX1_second l D aC h11) hrb10 hkb10 F hml hX hZ hl.1 mwX1_second wmX7_65 rfl (by decide) (by decide +kernel) ⟨(by decide), (by decide)⟩ rfl rfl rfl (by simp [kcat_rf, kcat_i, kcat_r, kcat_l]) (kd dtX7_isChain_0 11 rfl) ⟨Nat.zero_le _, Nat.zero_le _⟩ (fun H locs hX => ?_)
        refine kaload_n hx hb (kd dtX7_isChain_0 12 rfl) rfl (lv_at hl 3 rfl) ?_
        refine lv_iconst (v := (1 : Int32)) hx hb (kd dtX7_isChain_0 13 rfl) (by decide) ?_
        obtain ⟨b13, hb13, hf⟩ := kbind hf
        obtain ⟨hrb13, hkb13⟩ := kRc_s hb13
        obtain ⟨v15, h14, hf⟩ := kbind hf
        refine kcallV (n := 3) [.int v12, va_rf x3, .int (1 : Int32)] [] [.int v15] (rX1_samePart l D aC h14) hrb13 hkb13 F hml hX hZ hl.1 mwX1_samePart wmX7_61 rfl (by decide) (by decide +kernel) ⟨(by decide), (by decide)⟩ rfl rfl rfl (Nat.le_of_ble_eq_true rfl) (kd dtX7_isChain_0 14 rfl) ⟨Nat.zero_le _, Nat.zero_le _⟩ (fun H locs hX => ?_)
        refine lv_if_eq (tgt := 64) hx hb (kd dtX7_isChain_0 15 rfl) (by decide) (fun hc => ?_) (fun hc => ?_)
        · have hf := kif_pos hc hf
          refine lv_iconst (v := (0 : Int32)) hx hb (kd dtX7_isChain_0 32 rfl) (by decide) ?_
          cases hf
          exact kzret F hX hr hlocks rfl rfl (kd dtX7_isChain_0 33 rfl)
        · have hf := kif_neg hc hf
          refine kaload_n hx hb (kd dtX7_isChain_0 16 rfl) rfl (lv_at hl 1 rfl) ?_
          refine lv_iconst (v := (1 : Int32)) hx hb (kd dtX7_isChain_0 17 rfl) (by decide) ?_
          refine kaload_n hx hb (kd dtX7_isChain_0 18 rfl) rfl (lv_at hl 2 rfl) ?_
          refine lv_iconst (v := (1 : Int32)) hx hb (kd dtX7_isChain_0 19 rfl) (by decide) ?_
          obtain ⟨b16, hb16, hf⟩ := kbind hf
          obtain ⟨hrb16, hkb16⟩ := kRc_s hb16
          obtain ⟨v18, h17, hf⟩ := kbind hf
          refine kcallV (n := 3) [.int (1 : Int32), va_rf x2, .int (1 : Int32)] [] [.int v18] (rX1_samePart l D aC h17) hrb16 hkb16 F hml hX hZ hl.1 mwX1_samePart wmX7_61 rfl (by decide) (by decide +kernel) ⟨(by decide), (by decide)⟩ rfl rfl rfl (Nat.le_of_ble_eq_true rfl) (kd dtX7_isChain_0 20 rfl) ⟨Nat.zero_le _, Nat.zero_le _⟩ (fun H locs hX => ?_)
          refine lv_if_eq (tgt := 64) hx hb (kd dtX7_isChain_0 21 rfl) (by decide) (fun hc => ?_) (fun hc => ?_)
          · have hf := kif_pos hc hf
            refine lv_iconst (v := (0 : Int32)) hx hb (kd dtX7_isChain_0 32 rfl) (by decide) ?_
            cases hf
            exact kzret F hX hr hlocks rfl rfl (kd dtX7_isChain_0 33 rfl)
          · have hf := kif_neg hc hf
            refine kaload_n hx hb (kd dtX7_isChain_0 22 rfl) rfl (lv_at hl 1 rfl) ?_
            refine kaload_n hx hb (kd dtX7_isChain_0 23 rfl) rfl (lv_at hl 1 rfl) ?_
            obtain ⟨b19, hb19, hf⟩ := kbind hf
            obtain ⟨hrb19, hkb19⟩ := kRc_s hb19
            obtain ⟨v21, h20, hf⟩ := kbind hf
            refine kcallV (n := 0) [] [va_rf x1] [.int v21, va_rf x1] (rX1_second l D aC h20) hrb19 hkb19 F hml hX hZ hl.1 mwX1_second wmX7_65 rfl (by decide) (by decide +kernel) ⟨(by decide), (by decide)⟩ rfl rfl rfl (by simp [kcat_rf, kcat_i, kcat_r, kcat_l]) (kd dtX7_isChain_0 24 rfl) ⟨Nat.zero_le _, Nat.zero_le _⟩ (fun H locs hX => ?_)
            refine kaload_n hx hb (kd dtX7_isChain_0 25 rfl) rfl (lv_at hl 3 rfl) ?_
            refine kaload_n hx hb (kd dtX7_isChain_0 26 rfl) rfl (lv_at hl 3 rfl) ?_
            obtain ⟨b22, hb22, hf⟩ := kbind hf
            obtain ⟨hrb22, hkb22⟩ := kRc_s hb22
            obtain ⟨v24, h23, hf⟩ := kbind hf
            refine kcallV (n := 0) [] [va_rf x3, .int v21, va_rf x1] [.int v24, va_rf x3, .int v21, va_rf x1] (rX1_second l D aC h23) hrb22 hkb22 F hml hX hZ hl.1 mwX1_second wmX7_65 rfl (by decide) (by decide +kernel) ⟨(by decide), (by decide)⟩ rfl rfl rfl (by simp [kcat_rf, kcat_i, kcat_r, kcat_l]) (kd dtX7_isChain_0 27 rfl) ⟨Nat.zero_le _, Nat.zero_le _⟩ (fun H locs hX => ?_)
            obtain ⟨b25, hb25, hf⟩ := kbind hf
            obtain ⟨hrb25, hkb25⟩ := kRc_s hb25
            obtain ⟨v27, h26, hf⟩ := kbind hf
            refine kcallV (n := 3) [.int v21, va_rf x3, .int v24] [] [.int v27] (rX1_samePart l D aC h26) hrb25 hkb25 F hml hX hZ hl.1 mwX1_samePart wmX7_61 rfl (by decide) (by decide +kernel) ⟨(by decide), (by decide)⟩ rfl rfl rfl (Nat.le_of_ble_eq_true rfl) (kd dtX7_isChain_0 28 rfl) ⟨Nat.zero_le _, Nat.zero_le _⟩ (fun H locs hX => ?_)
            refine lv_if_eq (tgt := 64) hx hb (kd dtX7_isChain_0 29 rfl) (by decide) (fun hc => ?_) (fun hc => ?_)
            · have hf := kif_pos hc hf
              refine lv_iconst (v := (0 : Int32)) hx hb (kd dtX7_isChain_0 32 rfl) (by decide) ?_
              cases hf
              exact kzret F hX hr hlocks rfl rfl (kd dtX7_isChain_0 33 rfl)
            · have hf := kif_neg hc hf
              refine lv_iconst (v := (1 : Int32)) hx hb (kd dtX7_isChain_0 30 rfl) (by decide) ?_
              refine lv_goto (tgt := 65) hx hb (kd dtX7_isChain_0 31 rfl) (by decide) ?_
              cases hf
              exact kzret F hX hr hlocks rfl rfl (kd dtX7_isChain_0 33 rfl)
theorem wfX7_69 : Cond.fieldLinkNest RX7 69 (TX1 5).1 (TX1 5).2.1 (TX1 5).2.2.1 "KitchenCards" ∈ kNs := kNm 198 (by decide +kernel) rfl
theorem wmX7_72 : Cond.methodLink RX7 72 yX1_at ∈ kT := kTm 790 (by decide +kernel) rfl
def lX7_opensIf_0 : List (Nat × Instr × Nat) := [(0, .aload_n 2, 1), (1, .getfield 69, 3), (4, .aload_n 1, 1), (5, .getfield 69, 3), (8, .iconst 1, 1), (9, .iadd, 1), (10, .if_icmp .eq 5, 3), (13, .iconst 0, 1), (14, .ireturn, 1), (15, .iconst 0, 1), (16, .istore_n 3, 1), (17, .iload_n 3, 1), (18, .aload_n 1, 1), (19, .getfield 69, 3), (22, .if_icmp .ge 22, 3), (25, .aload_n 1, 1), (26, .iload_n 3, 1), (27, .invokevirtual 72, 3), (30, .aload_n 2, 1), (31, .iload_n 3, 1), (32, .invokevirtual 72, 3), (35, .if_icmp .ne 9, 3), (38, .iinc 3 1, 3), (41, .goto (-24), 3), (44, .aload_n 1, 1), (45, .iload_n 3, 1), (46, .invokevirtual 72, 3), (49, .bipush 62, 2), (51, .if_icmp .ne 25, 3), (54, .aload_n 2, 1), (55, .iload_n 3, 1), (56, .invokevirtual 72, 3), (59, .bipush 118, 2), (61, .if_icmp .ne 15, 3), (64, .aload_n 2, 1), (65, .iload_n 3, 1), (66, .iconst 1, 1), (67, .iadd, 1), (68, .invokevirtual 72, 3), (71, .bipush 126, 2), (73, .if_icmp .eq 5, 3), (76, .iconst 0, 1), (77, .ireturn, 1), (78, .iload_n 3, 1), (79, .iconst 1, 1), (80, .iadd, 1), (81, .istore 4, 2), (83, .iload 4, 2), (85, .aload_n 1, 1), (86, .getfield 69, 3), (89, .if_icmp .ge 28, 3), (92, .aload_n 1, 1), (93, .iload 4, 2), (95, .invokevirtual 72, 3), (98, .aload_n 2, 1), (99, .iload 4, 2), (101, .iconst 1, 1), (102, .iadd, 1), (103, .invokevirtual 72, 3), (106, .if_icmp .eq 5, 3), (109, .iconst 0, 1), (110, .ireturn, 1), (111, .iinc 4 1, 3), (114, .goto (-31), 3), (117, .iconst 1, 1), (118, .ireturn, 1)]
theorem dtX7_opensIf_0 : kDec cX7_opensIf lX7_opensIf_0 = true := by decide +kernel
noncomputable def fX7_opensIf_L17 (x0 : Nat) (x1 : Option Nat) (x2 : Option Nat) (w : kW) : Nat → (Int32 → Option Int32) → Int32 → Option Int32
  | 0, _, _ => none
  | n + 1, k, x3 =>
  (kgI w 1 x1 5).bind fun v1 =>
  if v1 ≤ x3 then
  k x3
  else
  (kRc w 1 x1).bind fun b2 =>
  (fX1_at b2 x3 w).bind fun v4 =>
  (kRc w 1 x2).bind fun b5 =>
  (fX1_at b5 x3 w).bind fun v7 =>
  if v4 = v7 then
  fX7_opensIf_L17 x0 x1 x2 w n k (x3 + (1 : Int32))
  else
  k x3

noncomputable def fX7_opensIf_L83 (x0 : Nat) (x1 : Option Nat) (x2 : Option Nat) (x3 : Int32) (w : kW) : Nat → (Int32 → Option Int32) → Int32 → Option Int32
  | 0, _, _ => none
  | n + 1, k, x4 =>
  (kgI w 1 x1 5).bind fun v1 =>
  if v1 ≤ x4 then
  k x4
  else
  (kRc w 1 x1).bind fun b2 =>
  (fX1_at b2 x4 w).bind fun v4 =>
  (kRc w 1 x2).bind fun b5 =>
  (fX1_at b5 (x4 + (1 : Int32)) w).bind fun v7 =>
  if v4 = v7 then
  fX7_opensIf_L83 x0 x1 x2 x3 w n k (x4 + (1 : Int32))
  else
  some (0 : Int32)

noncomputable def fX7_opensIf (x0 : Nat) (x1 : Option Nat) (x2 : Option Nat) (w : kW) : Option Int32 :=
  (kgI w 1 x2 5).bind fun v1 =>
  (kgI w 1 x1 5).bind fun v2 =>
  if v1 = (v2 + (1 : Int32)) then
  fX7_opensIf_L17 x0 x1 x2 w kFU (fun y3_3 => (kRc w 1 x1).bind fun b4 =>
  (fX1_at b4 y3_3 w).bind fun v6 =>
  if v6 = (62 : Int32) then
  (kRc w 1 x2).bind fun b7 =>
  (fX1_at b7 y3_3 w).bind fun v9 =>
  if v9 = (118 : Int32) then
  (kRc w 1 x2).bind fun b10 =>
  (fX1_at b10 (y3_3 + (1 : Int32)) w).bind fun v12 =>
  if v12 = (126 : Int32) then
  fX7_opensIf_L83 x0 x1 x2 y3_3 w kFU (fun y4_13 => some (1 : Int32)) (y3_3 + (1 : Int32))
  else
  some (0 : Int32)
  else
  some (0 : Int32)
  else
  some (0 : Int32)) (0 : Int32)
  else
  some (0 : Int32)

set_option maxHeartbeats 4000000 in
set_option maxRecDepth 100000 in
theorem rX7_opensIf (l : Launch) (D : va_G) (aC : Nat → ClassId) {x0 : Nat} {x1 : Option Nat} {x2 : Option Nat} {w : kW} {oR : Int32} (h : fX7_opensIf x0 x1 x2 w = some oR) : kC l D aC yX7_opensIf cX7_opensIf 5 (some .boolean) 2 33 [.ref x0, va_rf x1, va_rf x2] w (some (.int oR)) w 0 0 := by
  refine kOf (own := RX7) (by decide) rfl (by simp [lg_sl, kcat_rf, kcat_i, kcat_r, kcat_l]) ?_
  intro p e s m below meth c ls F hml hr hlocks hnm hX hZ hl
  obtain ⟨hx, hb, hts, hown, hK⟩ := id F
  have hl : lv_has ls 5 [(0, .ref x0), (1, va_rf x1), (2, va_rf x2)] := by simpa [lv_args, kcat_rf, kcat_i, kcat_r, kcat_l] using hl
  have hf := h
  rw [fX7_opensIf] at hf
  refine kaload_n hx hb (kd dtX7_opensIf_0 0 rfl) rfl (lv_at hl 2 rfl) ?_
  obtain ⟨v1, hv1, hf⟩ := kbind hf
  refine kgetIN hv1 F hX hinX1 rfl rfl rfl (by decide) (by decide) hZ wfX7_69 (kd dtX7_opensIf_0 1 rfl) ?_
  refine kaload_n hx hb (kd dtX7_opensIf_0 2 rfl) rfl (lv_at hl 1 rfl) ?_
  obtain ⟨v2, hv2, hf⟩ := kbind hf
  refine kgetIN hv2 F hX hinX1 rfl rfl rfl (by decide) (by decide) hZ wfX7_69 (kd dtX7_opensIf_0 3 rfl) ?_
  refine lv_iconst (v := (1 : Int32)) hx hb (kd dtX7_opensIf_0 4 rfl) (by decide) ?_
  refine lv_iadd hx hb (kd dtX7_opensIf_0 5 rfl) ?_
  refine lv_icmp_eq (tgt := 15) hx hb (kd dtX7_opensIf_0 6 rfl) (by decide) (fun hc => ?_) (fun hc => ?_)
  · have hf := kif_pos hc hf
    refine lv_iconst (v := (0 : Int32)) hx hb (kd dtX7_opensIf_0 9 rfl) (by decide) ?_
    refine lv_istore_n (i := 3) (lv' := [(3, .int (0 : Int32)), (0, .ref x0), (1, va_rf x1), (2, va_rf x2)]) hx hb (kd dtX7_opensIf_0 10 rfl) rfl hl (by decide) (by simp [kcat_rf, kcat_i, kcat_r, kcat_l]) (fun ls hl => ?_)
    have hL17 : ∀ (n : Nat) (k : Int32 → Option Int32), ∀ (z3_17 : Int32) (H : Heap) (locs : List Loc) (ls : Array Slot), kX D aC w s.heap w H locs → lv_has ls 5 [(0, .ref x0), (1, va_rf x1), (2, va_rf x2), (3, .int z3_17)] → fX7_opensIf_L17 x0 x1 x2 w n k z3_17 = some oR → (∀ (z3_17 : Int32) (H : Heap) (locs : List Loc) (ls : Array Slot), kX D aC w s.heap w H locs → lv_has ls 5 [(0, .ref x0), (1, va_rf x1), (2, va_rf x2), (3, .int z3_17)] → k z3_17 = some oR → W p l e { frames := 2, cells := 0, slots := 0, locals := 33 } s m ([.ref x0, va_rf x1, va_rf x2] : List Value).toArray below meth c H locs 0 0 (MQ below (kQc D aC w (some (.int oR)) w) ([.ref x0, va_rf x1, va_rf x2] : List Value).toArray s 0 0 (kA w)) (F0 m 44 ls [])) → W p l e { frames := 2, cells := 0, slots := 0, locals := 33 } s m ([.ref x0, va_rf x1, va_rf x2] : List Value).toArray below meth c H locs 0 0 (MQ below (kQc D aC w (some (.int oR)) w) ([.ref x0, va_rf x1, va_rf x2] : List Value).toArray s 0 0 (kA w)) (F0 m 17 ls []) := by
      intro n k
      induction n with
      | zero =>
        intro z3_17 H locs ls hX hl hf hk
        rw [fX7_opensIf_L17] at hf
        cases hf
      | succ n ih =>
        intro z3_17 H locs ls hX hl hf hk
        rw [fX7_opensIf_L17] at hf
        refine lv_iload_n hx hb (kd dtX7_opensIf_0 11 rfl) rfl (lv_at hl 3 rfl) ?_
        refine kaload_n hx hb (kd dtX7_opensIf_0 12 rfl) rfl (lv_at hl 1 rfl) ?_
        obtain ⟨v21, hv21, hf⟩ := kbind hf
        refine kgetIN hv21 F hX hinX1 rfl rfl rfl (by decide) (by decide) hZ wfX7_69 (kd dtX7_opensIf_0 13 rfl) ?_
        refine lv_icmp_ge (tgt := 44) hx hb (kd dtX7_opensIf_0 14 rfl) (by decide) (fun hc => ?_) (fun hc => ?_)
        · have hf := kif_pos hc hf
          exact hk z3_17 _ _ _ hX hl hf
        · have hf := kif_neg hc hf
          refine kaload_n hx hb (kd dtX7_opensIf_0 15 rfl) rfl (lv_at hl 1 rfl) ?_
          refine lv_iload_n hx hb (kd dtX7_opensIf_0 16 rfl) rfl (lv_at hl 3 rfl) ?_
          obtain ⟨b22, hb22, hf⟩ := kbind hf
          obtain ⟨hrb22, hkb22⟩ := kRc_s hb22
          obtain ⟨v24, h23, hf⟩ := kbind hf
          refine kcallV (n := 1) [.int z3_17] [] [.int v24] (rX1_at l D aC h23) hrb22 hkb22 F hml hX hZ hl.1 mwX1_at wmX7_72 rfl (by decide) (by decide +kernel) ⟨(by decide), (by decide)⟩ rfl rfl rfl (Nat.le_of_ble_eq_true rfl) (kd dtX7_opensIf_0 17 rfl) ⟨Nat.zero_le _, Nat.zero_le _⟩ (fun H locs hX => ?_)
          refine kaload_n hx hb (kd dtX7_opensIf_0 18 rfl) rfl (lv_at hl 2 rfl) ?_
          refine lv_iload_n hx hb (kd dtX7_opensIf_0 19 rfl) rfl (lv_at hl 3 rfl) ?_
          obtain ⟨b25, hb25, hf⟩ := kbind hf
          obtain ⟨hrb25, hkb25⟩ := kRc_s hb25
          obtain ⟨v27, h26, hf⟩ := kbind hf
          refine kcallV (n := 1) [.int z3_17] [.int v24] [.int v27, .int v24] (rX1_at l D aC h26) hrb25 hkb25 F hml hX hZ hl.1 mwX1_at wmX7_72 rfl (by decide) (by decide +kernel) ⟨(by decide), (by decide)⟩ rfl rfl rfl (Nat.le_of_ble_eq_true rfl) (kd dtX7_opensIf_0 20 rfl) ⟨Nat.zero_le _, Nat.zero_le _⟩ (fun H locs hX => ?_)
          refine lv_icmp_ne (tgt := 44) hx hb (kd dtX7_opensIf_0 21 rfl) (by decide) (fun hc => ?_) (fun hc => ?_)
          · have hf := kif_neg hc hf
            exact hk z3_17 _ _ _ hX hl hf
          · have hf := kif_pos hc hf
            refine lv_iinc (v := z3_17 + (1 : Int32)) (lv' := [(3, .int (z3_17 + (1 : Int32))), (0, .ref x0), (1, va_rf x1), (2, va_rf x2)]) hx hb (kd dtX7_opensIf_0 22 rfl) hl (k := 3) rfl (by rfl) (by decide) (by simp [kcat_rf, kcat_i, kcat_r, kcat_l]) (fun ls hl => ?_)
            refine lv_goto (tgt := 17) hx hb (kd dtX7_opensIf_0 23 rfl) (by decide) ?_
            exact ih (z3_17 + (1 : Int32)) _ _ _ hX (lv_sub hl [1, 2, 3, 0] rfl) hf hk
    refine hL17 kFU _ (0 : Int32) _ _ _ hX (lv_sub hl [1, 2, 3, 0] rfl) hf ?_
    intro y3_3 H locs ls hX hl hf
    refine kaload_n hx hb (kd dtX7_opensIf_0 24 rfl) rfl (lv_at hl 1 rfl) ?_
    refine lv_iload_n hx hb (kd dtX7_opensIf_0 25 rfl) rfl (lv_at hl 3 rfl) ?_
    obtain ⟨b4, hb4, hf⟩ := kbind hf
    obtain ⟨hrb4, hkb4⟩ := kRc_s hb4
    obtain ⟨v6, h5, hf⟩ := kbind hf
    refine kcallV (n := 1) [.int y3_3] [] [.int v6] (rX1_at l D aC h5) hrb4 hkb4 F hml hX hZ hl.1 mwX1_at wmX7_72 rfl (by decide) (by decide +kernel) ⟨(by decide), (by decide)⟩ rfl rfl rfl (Nat.le_of_ble_eq_true rfl) (kd dtX7_opensIf_0 26 rfl) ⟨Nat.zero_le _, Nat.zero_le _⟩ (fun H locs hX => ?_)
    refine lv_bipush (v := (62 : Int32)) hx hb (kd dtX7_opensIf_0 27 rfl) (by decide) ?_
    refine lv_icmp_ne (tgt := 76) hx hb (kd dtX7_opensIf_0 28 rfl) (by decide) (fun hc => ?_) (fun hc => ?_)
    · have hf := kif_neg hc hf
      refine lv_iconst (v := (0 : Int32)) hx hb (kd dtX7_opensIf_0 41 rfl) (by decide) ?_
      cases hf
      exact kzret F hX hr hlocks rfl rfl (kd dtX7_opensIf_0 42 rfl)
    · have hf := kif_pos hc hf
      refine kaload_n hx hb (kd dtX7_opensIf_0 29 rfl) rfl (lv_at hl 2 rfl) ?_
      refine lv_iload_n hx hb (kd dtX7_opensIf_0 30 rfl) rfl (lv_at hl 3 rfl) ?_
      obtain ⟨b7, hb7, hf⟩ := kbind hf
      obtain ⟨hrb7, hkb7⟩ := kRc_s hb7
      obtain ⟨v9, h8, hf⟩ := kbind hf
      refine kcallV (n := 1) [.int y3_3] [] [.int v9] (rX1_at l D aC h8) hrb7 hkb7 F hml hX hZ hl.1 mwX1_at wmX7_72 rfl (by decide) (by decide +kernel) ⟨(by decide), (by decide)⟩ rfl rfl rfl (Nat.le_of_ble_eq_true rfl) (kd dtX7_opensIf_0 31 rfl) ⟨Nat.zero_le _, Nat.zero_le _⟩ (fun H locs hX => ?_)
      refine lv_bipush (v := (118 : Int32)) hx hb (kd dtX7_opensIf_0 32 rfl) (by decide) ?_
      refine lv_icmp_ne (tgt := 76) hx hb (kd dtX7_opensIf_0 33 rfl) (by decide) (fun hc => ?_) (fun hc => ?_)
      · have hf := kif_neg hc hf
        refine lv_iconst (v := (0 : Int32)) hx hb (kd dtX7_opensIf_0 41 rfl) (by decide) ?_
        cases hf
        exact kzret F hX hr hlocks rfl rfl (kd dtX7_opensIf_0 42 rfl)
      · have hf := kif_pos hc hf
        refine kaload_n hx hb (kd dtX7_opensIf_0 34 rfl) rfl (lv_at hl 2 rfl) ?_
        refine lv_iload_n hx hb (kd dtX7_opensIf_0 35 rfl) rfl (lv_at hl 3 rfl) ?_
        refine lv_iconst (v := (1 : Int32)) hx hb (kd dtX7_opensIf_0 36 rfl) (by decide) ?_
        refine lv_iadd hx hb (kd dtX7_opensIf_0 37 rfl) ?_
        obtain ⟨b10, hb10, hf⟩ := kbind hf
        obtain ⟨hrb10, hkb10⟩ := kRc_s hb10
        obtain ⟨v12, h11, hf⟩ := kbind hf
        refine kcallV (n := 1) [.int (y3_3 + (1 : Int32))] [] [.int v12] (rX1_at l D aC h11) hrb10 hkb10 F hml hX hZ hl.1 mwX1_at wmX7_72 rfl (by decide) (by decide +kernel) ⟨(by decide), (by decide)⟩ rfl rfl rfl (Nat.le_of_ble_eq_true rfl) (kd dtX7_opensIf_0 38 rfl) ⟨Nat.zero_le _, Nat.zero_le _⟩ (fun H locs hX => ?_)
        refine lv_bipush (v := (126 : Int32)) hx hb (kd dtX7_opensIf_0 39 rfl) (by decide) ?_
        refine lv_icmp_eq (tgt := 78) hx hb (kd dtX7_opensIf_0 40 rfl) (by decide) (fun hc => ?_) (fun hc => ?_)
        · have hf := kif_pos hc hf
          refine lv_iload_n hx hb (kd dtX7_opensIf_0 43 rfl) rfl (lv_at hl 3 rfl) ?_
          refine lv_iconst (v := (1 : Int32)) hx hb (kd dtX7_opensIf_0 44 rfl) (by decide) ?_
          refine lv_iadd hx hb (kd dtX7_opensIf_0 45 rfl) ?_
          refine lv_istore (lv' := [(4, .int (y3_3 + (1 : Int32))), (0, .ref x0), (1, va_rf x1), (2, va_rf x2), (3, .int y3_3)]) hx hb (kd dtX7_opensIf_0 46 rfl) hl (by decide) rfl (fun ls hl => ?_)
          have hL83 : ∀ (n : Nat) (k : Int32 → Option Int32), ∀ (z4_83 : Int32) (H : Heap) (locs : List Loc) (ls : Array Slot), kX D aC w s.heap w H locs → lv_has ls 5 [(0, .ref x0), (1, va_rf x1), (2, va_rf x2), (3, .int y3_3), (4, .int z4_83)] → fX7_opensIf_L83 x0 x1 x2 y3_3 w n k z4_83 = some oR → (∀ (z4_83 : Int32) (H : Heap) (locs : List Loc) (ls : Array Slot), kX D aC w s.heap w H locs → lv_has ls 5 [(0, .ref x0), (1, va_rf x1), (2, va_rf x2), (3, .int y3_3), (4, .int z4_83)] → k z4_83 = some oR → W p l e { frames := 2, cells := 0, slots := 0, locals := 33 } s m ([.ref x0, va_rf x1, va_rf x2] : List Value).toArray below meth c H locs 0 0 (MQ below (kQc D aC w (some (.int oR)) w) ([.ref x0, va_rf x1, va_rf x2] : List Value).toArray s 0 0 (kA w)) (F0 m 117 ls [])) → W p l e { frames := 2, cells := 0, slots := 0, locals := 33 } s m ([.ref x0, va_rf x1, va_rf x2] : List Value).toArray below meth c H locs 0 0 (MQ below (kQc D aC w (some (.int oR)) w) ([.ref x0, va_rf x1, va_rf x2] : List Value).toArray s 0 0 (kA w)) (F0 m 83 ls []) := by
            intro n k
            induction n with
            | zero =>
              intro z4_83 H locs ls hX hl hf hk
              rw [fX7_opensIf_L83] at hf
              cases hf
            | succ n ih =>
              intro z4_83 H locs ls hX hl hf hk
              rw [fX7_opensIf_L83] at hf
              refine lv_iload hx hb (kd dtX7_opensIf_0 47 rfl) (lv_at hl 4 rfl) ?_
              refine kaload_n hx hb (kd dtX7_opensIf_0 48 rfl) rfl (lv_at hl 1 rfl) ?_
              obtain ⟨v14, hv14, hf⟩ := kbind hf
              refine kgetIN hv14 F hX hinX1 rfl rfl rfl (by decide) (by decide) hZ wfX7_69 (kd dtX7_opensIf_0 49 rfl) ?_
              refine lv_icmp_ge (tgt := 117) hx hb (kd dtX7_opensIf_0 50 rfl) (by decide) (fun hc => ?_) (fun hc => ?_)
              · have hf := kif_pos hc hf
                exact hk z4_83 _ _ _ hX hl hf
              · have hf := kif_neg hc hf
                refine kaload_n hx hb (kd dtX7_opensIf_0 51 rfl) rfl (lv_at hl 1 rfl) ?_
                refine lv_iload hx hb (kd dtX7_opensIf_0 52 rfl) (lv_at hl 4 rfl) ?_
                obtain ⟨b15, hb15, hf⟩ := kbind hf
                obtain ⟨hrb15, hkb15⟩ := kRc_s hb15
                obtain ⟨v17, h16, hf⟩ := kbind hf
                refine kcallV (n := 1) [.int z4_83] [] [.int v17] (rX1_at l D aC h16) hrb15 hkb15 F hml hX hZ hl.1 mwX1_at wmX7_72 rfl (by decide) (by decide +kernel) ⟨(by decide), (by decide)⟩ rfl rfl rfl (Nat.le_of_ble_eq_true rfl) (kd dtX7_opensIf_0 53 rfl) ⟨Nat.zero_le _, Nat.zero_le _⟩ (fun H locs hX => ?_)
                refine kaload_n hx hb (kd dtX7_opensIf_0 54 rfl) rfl (lv_at hl 2 rfl) ?_
                refine lv_iload hx hb (kd dtX7_opensIf_0 55 rfl) (lv_at hl 4 rfl) ?_
                refine lv_iconst (v := (1 : Int32)) hx hb (kd dtX7_opensIf_0 56 rfl) (by decide) ?_
                refine lv_iadd hx hb (kd dtX7_opensIf_0 57 rfl) ?_
                obtain ⟨b18, hb18, hf⟩ := kbind hf
                obtain ⟨hrb18, hkb18⟩ := kRc_s hb18
                obtain ⟨v20, h19, hf⟩ := kbind hf
                refine kcallV (n := 1) [.int (z4_83 + (1 : Int32))] [.int v17] [.int v20, .int v17] (rX1_at l D aC h19) hrb18 hkb18 F hml hX hZ hl.1 mwX1_at wmX7_72 rfl (by decide) (by decide +kernel) ⟨(by decide), (by decide)⟩ rfl rfl rfl (Nat.le_of_ble_eq_true rfl) (kd dtX7_opensIf_0 58 rfl) ⟨Nat.zero_le _, Nat.zero_le _⟩ (fun H locs hX => ?_)
                refine lv_icmp_eq (tgt := 111) hx hb (kd dtX7_opensIf_0 59 rfl) (by decide) (fun hc => ?_) (fun hc => ?_)
                · have hf := kif_pos hc hf
                  refine lv_iinc (v := z4_83 + (1 : Int32)) (lv' := [(4, .int (z4_83 + (1 : Int32))), (0, .ref x0), (1, va_rf x1), (2, va_rf x2), (3, .int y3_3)]) hx hb (kd dtX7_opensIf_0 62 rfl) hl (k := 4) rfl (by rfl) (by decide) rfl (fun ls hl => ?_)
                  refine lv_goto (tgt := 83) hx hb (kd dtX7_opensIf_0 63 rfl) (by decide) ?_
                  exact ih (z4_83 + (1 : Int32)) _ _ _ hX (lv_sub hl [1, 2, 3, 4, 0] rfl) hf hk
                · have hf := kif_neg hc hf
                  refine lv_iconst (v := (0 : Int32)) hx hb (kd dtX7_opensIf_0 60 rfl) (by decide) ?_
                  cases hf
                  exact kzret F hX hr hlocks rfl rfl (kd dtX7_opensIf_0 61 rfl)
          refine hL83 kFU _ (y3_3 + (1 : Int32)) _ _ _ hX (lv_sub hl [1, 2, 3, 4, 0] rfl) hf ?_
          intro y4_13 H locs ls hX hl hf
          refine lv_iconst (v := (1 : Int32)) hx hb (kd dtX7_opensIf_0 64 rfl) (by decide) ?_
          cases hf
          exact kzret F hX hr hlocks rfl rfl (kd dtX7_opensIf_0 65 rfl)
        · have hf := kif_neg hc hf
          refine lv_iconst (v := (0 : Int32)) hx hb (kd dtX7_opensIf_0 41 rfl) (by decide) ?_
          cases hf
          exact kzret F hX hr hlocks rfl rfl (kd dtX7_opensIf_0 42 rfl)
  · have hf := kif_neg hc hf
    refine lv_iconst (v := (0 : Int32)) hx hb (kd dtX7_opensIf_0 7 rfl) (by decide) ?_
    cases hf
    exact kzret F hX hr hlocks rfl rfl (kd dtX7_opensIf_0 8 rfl)
theorem wmX7_22 : Cond.methodLink RX7 22 yX4_makes ∈ kT := kTm 768 (by decide +kernel) rfl
theorem mwX4_makes : kMV RX4 yX4_makes cX4_makes 9 (some .boolean) := ⟨kTm 705 (by decide +kernel) rfl, kTm 100 (by decide +kernel) rfl, kTm 703 (by decide +kernel) rfl, kTm 704 (by decide +kernel) rfl⟩
theorem wmX7_26 : Cond.methodLink RX7 26 yX7_isThen ∈ kT := kTm 769 (by decide +kernel) rfl
theorem mwX7_isThen : kMV RX7 yX7_isThen cX7_isThen 4 (some .boolean) := ⟨kTm 772 (by decide +kernel) rfl, kTm 102 (by decide +kernel) rfl, kTm 771 (by decide +kernel) rfl, kTm 16 (by decide +kernel) rfl⟩
theorem wmX7_30 : Cond.methodLink RX7 30 yX7_isChain ∈ kT := kTm 782 (by decide +kernel) rfl
theorem mwX7_isChain : kMV RX7 yX7_isChain cX7_isChain 4 (some .boolean) := ⟨kTm 785 (by decide +kernel) rfl, kTm 102 (by decide +kernel) rfl, kTm 784 (by decide +kernel) rfl, kTm 17 (by decide +kernel) rfl⟩
theorem wmX7_33 : Cond.methodLink RX7 33 yX7_opensIf ∈ kT := kTm 786 (by decide +kernel) rfl
theorem mwX7_opensIf : kMV RX7 yX7_opensIf cX7_opensIf 5 (some .boolean) := ⟨kTm 789 (by decide +kernel) rfl, kTm 102 (by decide +kernel) rfl, kTm 788 (by decide +kernel) rfl, kTm 18 (by decide +kernel) rfl⟩
def lX7_allow_0 : List (Nat × Instr × Nat) := [(0, .aload_n 1, 1), (1, .ifnull 7, 3), (4, .aload_n 3, 1), (5, .ifnonnull 5, 3), (8, .iconst 0, 1), (9, .ireturn, 1), (10, .iload_n 2, 1), (11, .tableswitch 109 0 3 #[29, 41, 63, 85], 29), (40, .aload_n 0, 1), (41, .getfield 12, 3), (44, .aload_n 3, 1), (45, .iconst 0, 1), (46, .aload_n 1, 1), (47, .iconst 0, 1), (48, .invokevirtual 22, 3), (51, .ireturn, 1), (52, .aload 4, 2), (54, .ifnull 18, 3), (57, .aload_n 0, 1), (58, .aload_n 1, 1), (59, .aload_n 3, 1), (60, .aload 4, 2), (62, .invokevirtual 26, 3), (65, .ifCond .eq 7, 3), (68, .iconst 1, 1), (69, .goto 4, 3), (72, .iconst 0, 1), (73, .ireturn, 1), (74, .aload 4, 2), (76, .ifnull 18, 3), (79, .aload_n 0, 1), (80, .aload_n 1, 1), (81, .aload_n 3, 1), (82, .aload 4, 2), (84, .invokevirtual 30, 3), (87, .ifCond .eq 7, 3), (90, .iconst 1, 1), (91, .goto 4, 3), (94, .iconst 0, 1), (95, .ireturn, 1), (96, .aload_n 0, 1), (97, .aload_n 3, 1), (98, .aload_n 1, 1), (99, .invokevirtual 33, 3), (102, .ifCond .ne 12, 3), (105, .aload_n 0, 1), (106, .aload_n 1, 1), (107, .aload_n 3, 1), (108, .invokevirtual 33, 3), (111, .ifCond .eq 7, 3), (114, .iconst 1, 1), (115, .goto 4, 3), (118, .iconst 0, 1), (119, .ireturn, 1), (120, .iconst 0, 1), (121, .ireturn, 1)]
theorem dtX7_allow_0 : kDec cX7_allow lX7_allow_0 = true := by decide +kernel
noncomputable def fX7_allow (x0 : Nat) (x1 : Option Nat) (x2 : Int32) (x3 : Option Nat) (x4 : Option Nat) (w : kW) : Option (Int32 × kW) :=
  if x1 = none then
  some ((0 : Int32), w)
  else
  if x3 = none then
  some ((0 : Int32), w)
  else
  if x2 = (0 : Int32) then
  (kgP w 7 (some x0) 0).bind fun v1 =>
  (kRc w 4 v1).bind fun b2 =>
  kb2 (fX4_makes b2 x3 (0 : Int32) x1 (0 : Int32) w) fun v5 w3 =>
  (kBl v5).bind fun v6 =>
  some (v6, w3)
  else if x2 = (1 : Int32) then
  if x4 = none then
  some ((0 : Int32), w)
  else
  (kRc w 7 (some x0)).bind fun b7 =>
  (fX7_isThen b7 x1 x3 x4 w).bind fun v9 =>
  if v9 = 0 then
  some ((0 : Int32), w)
  else
  some ((1 : Int32), w)
  else if x2 = (2 : Int32) then
  if x4 = none then
  some ((0 : Int32), w)
  else
  (kRc w 7 (some x0)).bind fun b10 =>
  (fX7_isChain b10 x1 x3 x4 w).bind fun v12 =>
  if v12 = 0 then
  some ((0 : Int32), w)
  else
  some ((1 : Int32), w)
  else if x2 = (3 : Int32) then
  (kRc w 7 (some x0)).bind fun b13 =>
  (fX7_opensIf b13 x3 x1 w).bind fun v15 =>
  if v15 = 0 then
  (kRc w 7 (some x0)).bind fun b16 =>
  (fX7_opensIf b16 x1 x3 w).bind fun v18 =>
  if v18 = 0 then
  some ((0 : Int32), w)
  else
  some ((1 : Int32), w)
  else
  some ((1 : Int32), w)
  else 
  some ((0 : Int32), w)

set_option maxHeartbeats 4000000 in
set_option maxRecDepth 100000 in
theorem rX7_allow (l : Launch) (D : va_G) (aC : Nat → ClassId) {x0 : Nat} {x1 : Option Nat} {x2 : Int32} {x3 : Option Nat} {x4 : Option Nat} {w : kW} {wR : kW} {oR : Int32} (h : fX7_allow x0 x1 x2 x3 x4 w = some (oR, wR)) : kC l D aC yX7_allow cX7_allow 5 (some .boolean) 4 86 [.ref x0, va_rf x1, .int x2, va_rf x3, va_rf x4] w (some (.int oR)) wR 0 0 := by
  refine kOf (own := RX7) (by decide) rfl (by simp [lg_sl, kcat_rf, kcat_i, kcat_r, kcat_l]) ?_
  intro p e s m below meth c ls F hml hr hlocks hnm hX hZ hl
  obtain ⟨hx, hb, hts, hown, hK⟩ := id F
  have hl : lv_has ls 5 [(0, .ref x0), (1, va_rf x1), (2, .int x2), (3, va_rf x3), (4, va_rf x4)] := by simpa [lv_args, kcat_rf, kcat_i, kcat_r, kcat_l] using hl
  have hf := h
  rw [fX7_allow] at hf
  refine kaload_n hx hb (kd dtX7_allow_0 0 rfl) rfl (lv_at hl 1 rfl) ?_
  refine kifnull (tgt := 8) hx hb (kd dtX7_allow_0 1 rfl) (by decide) (fun hc => ?_) (fun hc => ?_)
  · have hf := kif_pos hc hf
    refine lv_iconst (v := (0 : Int32)) hx hb (kd dtX7_allow_0 4 rfl) (by decide) ?_
    cases hf
    exact kzret F hX hr hlocks rfl rfl (kd dtX7_allow_0 5 rfl)
  · have hf := kif_neg hc hf
    refine kaload_n hx hb (kd dtX7_allow_0 2 rfl) rfl (lv_at hl 3 rfl) ?_
    refine kifnonnull (tgt := 10) hx hb (kd dtX7_allow_0 3 rfl) (by decide) (fun hc => ?_) (fun hc => ?_)
    · have hf := kif_pos hc hf
      refine lv_iconst (v := (0 : Int32)) hx hb (kd dtX7_allow_0 4 rfl) (by decide) ?_
      cases hf
      exact kzret F hX hr hlocks rfl rfl (kd dtX7_allow_0 5 rfl)
    · have hf := kif_neg hc hf
      refine lv_iload_n hx hb (kd dtX7_allow_0 6 rfl) rfl (lv_at hl 2 rfl) ?_
      by_cases hc0 : x2 = (0 : Int32)
      · have hf := kif_pos hc0 hf
        have hq : (x2).toInt = 0 := by rw [hc0]; rfl
        refine lv_tableIn (off := 29) (tgt := 40) hx hb (kd dtX7_allow_0 7 rfl) (by rw [hq]; decide) (by rw [hq]; decide) (by rw [hq]; rfl) (by decide) ?_
        refine lv_aload_n hx hb (kd dtX7_allow_0 8 rfl) rfl (lv_at hl 0 rfl) ?_
        obtain ⟨v1, hv1, hf⟩ := kbind hf
        refine kgetP hv1 F hX hinX7 rfl rfl rfl (by decide) (by decide) wfX7_12 (kd dtX7_allow_0 9 rfl) ?_
        refine kaload_n hx hb (kd dtX7_allow_0 10 rfl) rfl (lv_at hl 3 rfl) ?_
        refine lv_iconst (v := (0 : Int32)) hx hb (kd dtX7_allow_0 11 rfl) (by decide) ?_
        refine kaload_n hx hb (kd dtX7_allow_0 12 rfl) rfl (lv_at hl 1 rfl) ?_
        refine lv_iconst (v := (0 : Int32)) hx hb (kd dtX7_allow_0 13 rfl) (by decide) ?_
        obtain ⟨b2, hb2, hf⟩ := kbind hf
        obtain ⟨hrb2, hkb2⟩ := kRc_s hb2
        obtain ⟨v5, w3, h4, hf⟩ := kbind2 hf
        refine kcallV (n := 4) [va_rf x3, .int (0 : Int32), va_rf x1, .int (0 : Int32)] [] [.int v5] (rX4_makes l D aC h4) hrb2 hkb2 F hml hX hZ hl.1 mwX4_makes wmX7_22 rfl (by decide) (by decide +kernel) ⟨(by decide), (by decide)⟩ rfl rfl rfl (Nat.le_of_ble_eq_true rfl) (kd dtX7_allow_0 14 rfl) ⟨Nat.zero_le _, Nat.zero_le _⟩ (fun H locs hX => ?_)
        obtain ⟨v6, hv6, hf⟩ := kbind hf
        obtain rfl := kBl_e hv6
        cases hf
        exact kzret F hX hr hlocks hv6 rfl (kd dtX7_allow_0 15 rfl)
      have hf := kif_neg hc0 hf
      by_cases hc1 : x2 = (1 : Int32)
      · have hf := kif_pos hc1 hf
        have hq : (x2).toInt = 1 := by rw [hc1]; rfl
        refine lv_tableIn (off := 41) (tgt := 52) hx hb (kd dtX7_allow_0 7 rfl) (by rw [hq]; decide) (by rw [hq]; decide) (by rw [hq]; rfl) (by decide) ?_
        refine kaload hx hb (kd dtX7_allow_0 16 rfl) (lv_at hl 4 rfl) ?_
        refine kifnull (tgt := 72) hx hb (kd dtX7_allow_0 17 rfl) (by decide) (fun hc => ?_) (fun hc => ?_)
        · have hf := kif_pos hc hf
          refine lv_iconst (v := (0 : Int32)) hx hb (kd dtX7_allow_0 26 rfl) (by decide) ?_
          cases hf
          exact kzret F hX hr hlocks rfl rfl (kd dtX7_allow_0 27 rfl)
        · have hf := kif_neg hc hf
          refine lv_aload_n hx hb (kd dtX7_allow_0 18 rfl) rfl (lv_at hl 0 rfl) ?_
          refine kaload_n hx hb (kd dtX7_allow_0 19 rfl) rfl (lv_at hl 1 rfl) ?_
          refine kaload_n hx hb (kd dtX7_allow_0 20 rfl) rfl (lv_at hl 3 rfl) ?_
          refine kaload hx hb (kd dtX7_allow_0 21 rfl) (lv_at hl 4 rfl) ?_
          obtain ⟨b7, hb7, hf⟩ := kbind hf
          obtain ⟨hrb7, hkb7⟩ := kRc_s hb7
          obtain ⟨v9, h8, hf⟩ := kbind hf
          refine kcallV (n := 3) [va_rf x1, va_rf x3, va_rf x4] [] [.int v9] (rX7_isThen l D aC h8) hrb7 hkb7 F hml hX hZ hl.1 mwX7_isThen wmX7_26 rfl (by decide) (by decide +kernel) ⟨(by decide), (by decide)⟩ rfl rfl rfl (Nat.le_of_ble_eq_true rfl) (kd dtX7_allow_0 22 rfl) ⟨Nat.zero_le _, Nat.zero_le _⟩ (fun H locs hX => ?_)
          refine lv_if_eq (tgt := 72) hx hb (kd dtX7_allow_0 23 rfl) (by decide) (fun hc => ?_) (fun hc => ?_)
          · have hf := kif_pos hc hf
            refine lv_iconst (v := (0 : Int32)) hx hb (kd dtX7_allow_0 26 rfl) (by decide) ?_
            cases hf
            exact kzret F hX hr hlocks rfl rfl (kd dtX7_allow_0 27 rfl)
          · have hf := kif_neg hc hf
            refine lv_iconst (v := (1 : Int32)) hx hb (kd dtX7_allow_0 24 rfl) (by decide) ?_
            refine lv_goto (tgt := 73) hx hb (kd dtX7_allow_0 25 rfl) (by decide) ?_
            cases hf
            exact kzret F hX hr hlocks rfl rfl (kd dtX7_allow_0 27 rfl)
      have hf := kif_neg hc1 hf
      by_cases hc2 : x2 = (2 : Int32)
      · have hf := kif_pos hc2 hf
        have hq : (x2).toInt = 2 := by rw [hc2]; rfl
        refine lv_tableIn (off := 63) (tgt := 74) hx hb (kd dtX7_allow_0 7 rfl) (by rw [hq]; decide) (by rw [hq]; decide) (by rw [hq]; rfl) (by decide) ?_
        refine kaload hx hb (kd dtX7_allow_0 28 rfl) (lv_at hl 4 rfl) ?_
        refine kifnull (tgt := 94) hx hb (kd dtX7_allow_0 29 rfl) (by decide) (fun hc => ?_) (fun hc => ?_)
        · have hf := kif_pos hc hf
          refine lv_iconst (v := (0 : Int32)) hx hb (kd dtX7_allow_0 38 rfl) (by decide) ?_
          cases hf
          exact kzret F hX hr hlocks rfl rfl (kd dtX7_allow_0 39 rfl)
        · have hf := kif_neg hc hf
          refine lv_aload_n hx hb (kd dtX7_allow_0 30 rfl) rfl (lv_at hl 0 rfl) ?_
          refine kaload_n hx hb (kd dtX7_allow_0 31 rfl) rfl (lv_at hl 1 rfl) ?_
          refine kaload_n hx hb (kd dtX7_allow_0 32 rfl) rfl (lv_at hl 3 rfl) ?_
          refine kaload hx hb (kd dtX7_allow_0 33 rfl) (lv_at hl 4 rfl) ?_
          obtain ⟨b10, hb10, hf⟩ := kbind hf
          obtain ⟨hrb10, hkb10⟩ := kRc_s hb10
          obtain ⟨v12, h11, hf⟩ := kbind hf
          refine kcallV (n := 3) [va_rf x1, va_rf x3, va_rf x4] [] [.int v12] (rX7_isChain l D aC h11) hrb10 hkb10 F hml hX hZ hl.1 mwX7_isChain wmX7_30 rfl (by decide) (by decide +kernel) ⟨(by decide), (by decide)⟩ rfl rfl rfl (Nat.le_of_ble_eq_true rfl) (kd dtX7_allow_0 34 rfl) ⟨Nat.zero_le _, Nat.zero_le _⟩ (fun H locs hX => ?_)
          refine lv_if_eq (tgt := 94) hx hb (kd dtX7_allow_0 35 rfl) (by decide) (fun hc => ?_) (fun hc => ?_)
          · have hf := kif_pos hc hf
            refine lv_iconst (v := (0 : Int32)) hx hb (kd dtX7_allow_0 38 rfl) (by decide) ?_
            cases hf
            exact kzret F hX hr hlocks rfl rfl (kd dtX7_allow_0 39 rfl)
          · have hf := kif_neg hc hf
            refine lv_iconst (v := (1 : Int32)) hx hb (kd dtX7_allow_0 36 rfl) (by decide) ?_
            refine lv_goto (tgt := 95) hx hb (kd dtX7_allow_0 37 rfl) (by decide) ?_
            cases hf
            exact kzret F hX hr hlocks rfl rfl (kd dtX7_allow_0 39 rfl)
      have hf := kif_neg hc2 hf
      by_cases hc3 : x2 = (3 : Int32)
      · have hf := kif_pos hc3 hf
        have hq : (x2).toInt = 3 := by rw [hc3]; rfl
        refine lv_tableIn (off := 85) (tgt := 96) hx hb (kd dtX7_allow_0 7 rfl) (by rw [hq]; decide) (by rw [hq]; decide) (by rw [hq]; rfl) (by decide) ?_
        refine lv_aload_n hx hb (kd dtX7_allow_0 40 rfl) rfl (lv_at hl 0 rfl) ?_
        refine kaload_n hx hb (kd dtX7_allow_0 41 rfl) rfl (lv_at hl 3 rfl) ?_
        refine kaload_n hx hb (kd dtX7_allow_0 42 rfl) rfl (lv_at hl 1 rfl) ?_
        obtain ⟨b13, hb13, hf⟩ := kbind hf
        obtain ⟨hrb13, hkb13⟩ := kRc_s hb13
        obtain ⟨v15, h14, hf⟩ := kbind hf
        refine kcallV (n := 2) [va_rf x3, va_rf x1] [] [.int v15] (rX7_opensIf l D aC h14) hrb13 hkb13 F hml hX hZ hl.1 mwX7_opensIf wmX7_33 rfl (by decide) (by decide +kernel) ⟨(by decide), (by decide)⟩ rfl rfl rfl (Nat.le_of_ble_eq_true rfl) (kd dtX7_allow_0 43 rfl) ⟨Nat.zero_le _, Nat.zero_le _⟩ (fun H locs hX => ?_)
        refine lv_if_ne (tgt := 114) hx hb (kd dtX7_allow_0 44 rfl) (by decide) (fun hc => ?_) (fun hc => ?_)
        · have hf := kif_neg hc hf
          refine lv_iconst (v := (1 : Int32)) hx hb (kd dtX7_allow_0 50 rfl) (by decide) ?_
          refine lv_goto (tgt := 119) hx hb (kd dtX7_allow_0 51 rfl) (by decide) ?_
          cases hf
          exact kzret F hX hr hlocks rfl rfl (kd dtX7_allow_0 53 rfl)
        · have hf := kif_pos hc hf
          refine lv_aload_n hx hb (kd dtX7_allow_0 45 rfl) rfl (lv_at hl 0 rfl) ?_
          refine kaload_n hx hb (kd dtX7_allow_0 46 rfl) rfl (lv_at hl 1 rfl) ?_
          refine kaload_n hx hb (kd dtX7_allow_0 47 rfl) rfl (lv_at hl 3 rfl) ?_
          obtain ⟨b16, hb16, hf⟩ := kbind hf
          obtain ⟨hrb16, hkb16⟩ := kRc_s hb16
          obtain ⟨v18, h17, hf⟩ := kbind hf
          refine kcallV (n := 2) [va_rf x1, va_rf x3] [] [.int v18] (rX7_opensIf l D aC h17) hrb16 hkb16 F hml hX hZ hl.1 mwX7_opensIf wmX7_33 rfl (by decide) (by decide +kernel) ⟨(by decide), (by decide)⟩ rfl rfl rfl (Nat.le_of_ble_eq_true rfl) (kd dtX7_allow_0 48 rfl) ⟨Nat.zero_le _, Nat.zero_le _⟩ (fun H locs hX => ?_)
          refine lv_if_eq (tgt := 118) hx hb (kd dtX7_allow_0 49 rfl) (by decide) (fun hc => ?_) (fun hc => ?_)
          · have hf := kif_pos hc hf
            refine lv_iconst (v := (0 : Int32)) hx hb (kd dtX7_allow_0 52 rfl) (by decide) ?_
            cases hf
            exact kzret F hX hr hlocks rfl rfl (kd dtX7_allow_0 53 rfl)
          · have hf := kif_neg hc hf
            refine lv_iconst (v := (1 : Int32)) hx hb (kd dtX7_allow_0 50 rfl) (by decide) ?_
            refine lv_goto (tgt := 119) hx hb (kd dtX7_allow_0 51 rfl) (by decide) ?_
            cases hf
            exact kzret F hX hr hlocks rfl rfl (kd dtX7_allow_0 53 rfl)
      have hf := kif_neg hc3 hf
      have hq0 := lv_neT (k := (0 : Int32)) hc0 (a := 0) rfl
      have hq1 := lv_neT (k := (1 : Int32)) hc1 (a := 1) rfl
      have hq2 := lv_neT (k := (2 : Int32)) hc2 (a := 2) rfl
      have hq3 := lv_neT (k := (3 : Int32)) hc3 (a := 3) rfl
      refine lv_tableOut (tgt := 120) hx hb (kd dtX7_allow_0 7 rfl) (by omega) (by decide) ?_
      refine lv_iconst (v := (0 : Int32)) hx hb (kd dtX7_allow_0 54 rfl) (by decide) ?_
      cases hf
      exact kzret F hX hr hlocks rfl rfl (kd dtX7_allow_0 55 rfl)
def lX7_hasHeightBelow_0 : List (Nat × Instr × Nat) := [(0, .aload_n 0, 1), (1, .getfield 18, 3), (4, .iload_n 1, 1), (5, .iaload, 1), (6, .ifCond .lt 17, 3), (9, .aload_n 0, 1), (10, .getfield 18, 3), (13, .iload_n 1, 1), (14, .iaload, 1), (15, .iload_n 2, 1), (16, .if_icmp .ge 7, 3), (19, .iconst 1, 1), (20, .goto 4, 3), (23, .iconst 0, 1), (24, .ireturn, 1)]
theorem dtX7_hasHeightBelow_0 : kDec cX7_hasHeightBelow lX7_hasHeightBelow_0 = true := by decide +kernel
noncomputable def fX7_hasHeightBelow (x0 : Nat) (x1 : Int32) (x2 : Int32) (w : kW) : Option Int32 :=
  (kgP w 7 (some x0) 1).bind fun v1 =>
  (kaI w 14 v1 x1).bind fun v2 =>
  if v2 < 0 then
  some (0 : Int32)
  else
  (kgP w 7 (some x0) 1).bind fun v3 =>
  (kaI w 14 v3 x1).bind fun v4 =>
  if x2 ≤ v4 then
  some (0 : Int32)
  else
  some (1 : Int32)

set_option maxHeartbeats 4000000 in
set_option maxRecDepth 100000 in
theorem rX7_hasHeightBelow (l : Launch) (D : va_G) (aC : Nat → ClassId) {x0 : Nat} {x1 : Int32} {x2 : Int32} {w : kW} {oR : Int32} (h : fX7_hasHeightBelow x0 x1 x2 w = some oR) : kC l D aC yX7_hasHeightBelow cX7_hasHeightBelow 3 (some .boolean) 1 12 [.ref x0, .int x1, .int x2] w (some (.int oR)) w 0 0 := by
  refine kOf (own := RX7) (by decide) rfl (Nat.le_of_ble_eq_true rfl) ?_
  intro p e s m below meth c ls F hml hr hlocks hnm hX hZ hl
  obtain ⟨hx, hb, hts, hown, hK⟩ := id F
  have hl : lv_has ls 3 [(0, .ref x0), (1, .int x1), (2, .int x2)] := hl
  have hf := h
  rw [fX7_hasHeightBelow] at hf
  refine lv_aload_n hx hb (kd dtX7_hasHeightBelow_0 0 rfl) rfl (lv_at hl 0 rfl) ?_
  obtain ⟨v1, hv1, hf⟩ := kbind hf
  refine kgetP hv1 F hX hinX7 rfl rfl rfl (by decide) (by decide) wfX7_18 (kd dtX7_hasHeightBelow_0 1 rfl) ?_
  refine lv_iload_n hx hb (kd dtX7_hasHeightBelow_0 2 rfl) rfl (lv_at hl 1 rfl) ?_
  obtain ⟨v2, hv2, hf⟩ := kbind hf
  refine kald hv2 F hX (kd dtX7_hasHeightBelow_0 3 rfl) ?_
  refine lv_if_lt (tgt := 23) hx hb (kd dtX7_hasHeightBelow_0 4 rfl) (by decide) (fun hc => ?_) (fun hc => ?_)
  · have hf := kif_pos hc hf
    refine lv_iconst (v := (0 : Int32)) hx hb (kd dtX7_hasHeightBelow_0 13 rfl) (by decide) ?_
    cases hf
    exact kzret F hX hr hlocks rfl rfl (kd dtX7_hasHeightBelow_0 14 rfl)
  · have hf := kif_neg hc hf
    refine lv_aload_n hx hb (kd dtX7_hasHeightBelow_0 5 rfl) rfl (lv_at hl 0 rfl) ?_
    obtain ⟨v3, hv3, hf⟩ := kbind hf
    refine kgetP hv3 F hX hinX7 rfl rfl rfl (by decide) (by decide) wfX7_18 (kd dtX7_hasHeightBelow_0 6 rfl) ?_
    refine lv_iload_n hx hb (kd dtX7_hasHeightBelow_0 7 rfl) rfl (lv_at hl 1 rfl) ?_
    obtain ⟨v4, hv4, hf⟩ := kbind hf
    refine kald hv4 F hX (kd dtX7_hasHeightBelow_0 8 rfl) ?_
    refine lv_iload_n hx hb (kd dtX7_hasHeightBelow_0 9 rfl) rfl (lv_at hl 2 rfl) ?_
    refine lv_icmp_ge (tgt := 23) hx hb (kd dtX7_hasHeightBelow_0 10 rfl) (by decide) (fun hc => ?_) (fun hc => ?_)
    · have hf := kif_pos hc hf
      refine lv_iconst (v := (0 : Int32)) hx hb (kd dtX7_hasHeightBelow_0 13 rfl) (by decide) ?_
      cases hf
      exact kzret F hX hr hlocks rfl rfl (kd dtX7_hasHeightBelow_0 14 rfl)
    · have hf := kif_neg hc hf
      refine lv_iconst (v := (1 : Int32)) hx hb (kd dtX7_hasHeightBelow_0 11 rfl) (by decide) ?_
      refine lv_goto (tgt := 24) hx hb (kd dtX7_hasHeightBelow_0 12 rfl) (by decide) ?_
      cases hf
      exact kzret F hX hr hlocks rfl rfl (kd dtX7_hasHeightBelow_0 14 rfl)
theorem wfX7_47 : Cond.fieldLinkNest RX7 47 (TX8 7).1 (TX8 7).2.1 (TX8 7).2.2.1 "KitchenCards" ∈ kNs := kNm 144 (by decide +kernel) rfl
theorem wmX7_75 : Cond.methodLink RX7 75 yX7_hasHeightBelow ∈ kT := kTm 958 (by decide +kernel) rfl
theorem mwX7_hasHeightBelow : kMV RX7 yX7_hasHeightBelow cX7_hasHeightBelow 3 (some .boolean) := ⟨kTm 961 (by decide +kernel) rfl, kTm 102 (by decide +kernel) rfl, kTm 960 (by decide +kernel) rfl, kTm 34 (by decide +kernel) rfl⟩
theorem wmX7_37 : Cond.methodLink RX7 37 yX8_lineAt ∈ kT := kTm 952 (by decide +kernel) rfl
theorem wmX7_79 : Cond.methodLink RX7 79 yX7_allow ∈ kT := kTm 962 (by decide +kernel) rfl
theorem mwX7_allow : kMV RX7 yX7_allow cX7_allow 5 (some .boolean) := ⟨kTm 767 (by decide +kernel) rfl, kTm 102 (by decide +kernel) rfl, kTm 765 (by decide +kernel) rfl, kTm 766 (by decide +kernel) rfl⟩
def lX7_isReached_0 : List (Nat × Instr × Nat) := [(0, .iconst 0, 1), (1, .istore 4, 2), (3, .iload 4, 2), (5, .aload_n 1, 1), (6, .getfield 47, 3), (9, .if_icmp .ge 198, 3), (12, .iload 4, 2), (14, .bipush 40, 2), (16, .if_icmp .ge 191, 3), (19, .aload_n 0, 1), (20, .iload 4, 2), (22, .iload_n 3, 1), (23, .invokevirtual 75, 3), (26, .ifCond .ne 6, 3), (29, .goto 172, 3), (32, .aload_n 1, 1), (33, .iload 4, 2), (35, .invokevirtual 37, 3), (38, .astore 5, 2), (40, .aload_n 0, 1), (41, .getfield 18, 3), (44, .iload 4, 2), (46, .iaload, 1), (47, .iload_n 3, 1), (48, .iconst 1, 1), (49, .isub, 1), (50, .if_icmp .ne 7, 3), (53, .iconst 1, 1), (54, .goto 4, 3), (57, .iconst 0, 1), (58, .istore 6, 2), (60, .iload 6, 2), (62, .ifCond .eq 29, 3), (65, .aload_n 0, 1), (66, .aload_n 2, 1), (67, .iconst 0, 1), (68, .aload 5, 2), (70, .aconst_null, 1), (71, .invokevirtual 79, 3), (74, .ifCond .ne 15, 3), (77, .aload_n 0, 1), (78, .aload_n 2, 1), (79, .iconst 3, 1), (80, .aload 5, 2), (82, .aconst_null, 1), (83, .invokevirtual 79, 3), (86, .ifCond .eq 5, 3), (89, .iconst 1, 1), (90, .ireturn, 1), (91, .iconst 0, 1), (92, .istore 7, 2), (94, .iload 7, 2), (96, .aload_n 1, 1), (97, .getfield 47, 3), (100, .if_icmp .ge 101, 3), (103, .iload 7, 2), (105, .bipush 40, 2), (107, .if_icmp .ge 94, 3), (110, .aload_n 0, 1), (111, .iload 7, 2), (113, .iload_n 3, 1), (114, .invokevirtual 75, 3), (117, .ifCond .eq 25, 3), (120, .iload 6, 2), (122, .ifCond .ne 16, 3), (125, .aload_n 0, 1), (126, .getfield 18, 3), (129, .iload 7, 2), (131, .iaload, 1), (132, .iload_n 3, 1), (133, .iconst 1, 1), (134, .isub, 1), (135, .if_icmp .ne 7, 3), (138, .iconst 1, 1), (139, .goto 4, 3), (142, .iconst 0, 1), (143, .istore 8, 2), (145, .iload 8, 2), (147, .ifCond .eq 12, 3), (150, .aload_n 1, 1)]
theorem dtX7_isReached_0 : kDec cX7_isReached lX7_isReached_0 = true := by decide +kernel
def lX7_isReached_1 : List (Nat × Instr × Nat) := [(151, .iload 7, 2), (153, .invokevirtual 37, 3), (156, .goto 4, 3), (159, .aconst_null, 1), (160, .astore 9, 2), (162, .aload 9, 2), (164, .ifnull 31, 3), (167, .aload_n 0, 1), (168, .aload_n 2, 1), (169, .iconst 1, 1), (170, .aload 5, 2), (172, .aload 9, 2), (174, .invokevirtual 79, 3), (177, .ifCond .ne 16, 3), (180, .aload_n 0, 1), (181, .aload_n 2, 1), (182, .iconst 2, 1), (183, .aload 5, 2), (185, .aload 9, 2), (187, .invokevirtual 79, 3), (190, .ifCond .eq 5, 3), (193, .iconst 1, 1), (194, .ireturn, 1), (195, .iinc 7 1, 3), (198, .goto (-104), 3), (201, .iinc 4 1, 3), (204, .goto (-201), 3), (207, .iconst 0, 1), (208, .ireturn, 1)]
theorem dtX7_isReached_1 : kDec cX7_isReached lX7_isReached_1 = true := by decide +kernel
noncomputable def fX7_isReached_J94_160 (b k : Int32 → kW → Option (Int32 × kW)) (x0 : Nat) (x1 : Option Nat) (x2 : Option Nat) (x3 : Int32) (x4 : Int32) (x5 : Option Nat) (x6 : Int32) (x7 : Int32) (x8 : Int32) (s0 : Option Nat) (w : kW) : Option (Int32 × kW) :=
  if s0 = none then
  b (x7 + (1 : Int32)) w
  else
  (kRc w 7 (some x0)).bind fun b1 =>
  kb2 (fX7_allow b1 x2 (1 : Int32) x5 s0 w) fun v4 w2 =>
  if v4 = 0 then
  (kRc w2 7 (some x0)).bind fun b5 =>
  kb2 (fX7_allow b5 x2 (2 : Int32) x5 s0 w2) fun v8 w6 =>
  if v8 = 0 then
  b (x7 + (1 : Int32)) w6
  else
  some ((1 : Int32), w6)
  else
  some ((1 : Int32), w2)

noncomputable def fX7_isReached_J94_143 (b k : Int32 → kW → Option (Int32 × kW)) (x0 : Nat) (x1 : Option Nat) (x2 : Option Nat) (x3 : Int32) (x4 : Int32) (x5 : Option Nat) (x6 : Int32) (x7 : Int32) (s0 : Int32) (w : kW) : Option (Int32 × kW) :=
  if s0 = 0 then
  fX7_isReached_J94_160 b k x0 x1 x2 x3 x4 x5 x6 x7 s0 none w
  else
  (kRc w 8 x1).bind fun b1 =>
  (fX8_lineAt b1 x7 w).bind fun v3 =>
  fX7_isReached_J94_160 b k x0 x1 x2 x3 x4 x5 x6 x7 s0 v3 w

noncomputable def fX7_isReached_J94_142 (b k : Int32 → kW → Option (Int32 × kW)) (x0 : Nat) (x1 : Option Nat) (x2 : Option Nat) (x3 : Int32) (x4 : Int32) (x5 : Option Nat) (x6 : Int32) (x7 : Int32) (w : kW) : Option (Int32 × kW) :=
  fX7_isReached_J94_143 b k x0 x1 x2 x3 x4 x5 x6 x7 (0 : Int32) w

noncomputable def fX7_isReached_J94_138 (b k : Int32 → kW → Option (Int32 × kW)) (x0 : Nat) (x1 : Option Nat) (x2 : Option Nat) (x3 : Int32) (x4 : Int32) (x5 : Option Nat) (x6 : Int32) (x7 : Int32) (w : kW) : Option (Int32 × kW) :=
  fX7_isReached_J94_143 b k x0 x1 x2 x3 x4 x5 x6 x7 (1 : Int32) w

noncomputable def fX7_isReached_L94 (x0 : Nat) (x1 : Option Nat) (x2 : Option Nat) (x3 : Int32) (x4 : Int32) (x5 : Option Nat) (x6 : Int32) : Nat → (Int32 → kW → Option (Int32 × kW)) → Int32 → kW → Option (Int32 × kW)
  | 0, _, _, _ => none
  | n + 1, k, x7, w =>
  (kgI w 8 x1 7).bind fun v1 =>
  if v1 ≤ x7 then
  k x7 w
  else
  if (40 : Int32) ≤ x7 then
  k x7 w
  else
  (kRc w 7 (some x0)).bind fun b2 =>
  (fX7_hasHeightBelow b2 x7 x3 w).bind fun v4 =>
  if v4 = 0 then
  fX7_isReached_J94_142 (fun q7 qw => fX7_isReached_L94 x0 x1 x2 x3 x4 x5 x6 n k q7 qw) k x0 x1 x2 x3 x4 x5 x6 x7 w
  else
  if x6 = 0 then
  (kgP w 7 (some x0) 1).bind fun v5 =>
  (kaI w 14 v5 x7).bind fun v6 =>
  if v6 = (x3 - (1 : Int32)) then
  fX7_isReached_J94_138 (fun q7 qw => fX7_isReached_L94 x0 x1 x2 x3 x4 x5 x6 n k q7 qw) k x0 x1 x2 x3 x4 x5 x6 x7 w
  else
  fX7_isReached_J94_142 (fun q7 qw => fX7_isReached_L94 x0 x1 x2 x3 x4 x5 x6 n k q7 qw) k x0 x1 x2 x3 x4 x5 x6 x7 w
  else
  fX7_isReached_J94_138 (fun q7 qw => fX7_isReached_L94 x0 x1 x2 x3 x4 x5 x6 n k q7 qw) k x0 x1 x2 x3 x4 x5 x6 x7 w

noncomputable def fX7_isReached_J3_91 (b k : Int32 → kW → Option (Int32 × kW)) (x0 : Nat) (x1 : Option Nat) (x2 : Option Nat) (x3 : Int32) (x4 : Int32) (x5 : Option Nat) (x6 : Int32) (w : kW) : Option (Int32 × kW) :=
  fX7_isReached_L94 x0 x1 x2 x3 x4 x5 x6 kFU (fun y7_1 w2 => b (x4 + (1 : Int32)) w2) (0 : Int32) w

noncomputable def fX7_isReached_J3_58 (b k : Int32 → kW → Option (Int32 × kW)) (x0 : Nat) (x1 : Option Nat) (x2 : Option Nat) (x3 : Int32) (x4 : Int32) (x5 : Option Nat) (s0 : Int32) (w : kW) : Option (Int32 × kW) :=
  if s0 = 0 then
  fX7_isReached_J3_91 b k x0 x1 x2 x3 x4 x5 s0 w
  else
  (kRc w 7 (some x0)).bind fun b1 =>
  kb2 (fX7_allow b1 x2 (0 : Int32) x5 none w) fun v4 w2 =>
  if v4 = 0 then
  (kRc w2 7 (some x0)).bind fun b5 =>
  kb2 (fX7_allow b5 x2 (3 : Int32) x5 none w2) fun v8 w6 =>
  if v8 = 0 then
  fX7_isReached_J3_91 b k x0 x1 x2 x3 x4 x5 s0 w6
  else
  some ((1 : Int32), w6)
  else
  some ((1 : Int32), w2)

noncomputable def fX7_isReached_L3 (x0 : Nat) (x1 : Option Nat) (x2 : Option Nat) (x3 : Int32) : Nat → (Int32 → kW → Option (Int32 × kW)) → Int32 → kW → Option (Int32 × kW)
  | 0, _, _, _ => none
  | n + 1, k, x4, w =>
  (kgI w 8 x1 7).bind fun v1 =>
  if v1 ≤ x4 then
  k x4 w
  else
  if (40 : Int32) ≤ x4 then
  k x4 w
  else
  (kRc w 7 (some x0)).bind fun b2 =>
  (fX7_hasHeightBelow b2 x4 x3 w).bind fun v4 =>
  if v4 = 0 then
  fX7_isReached_L3 x0 x1 x2 x3 n k (x4 + (1 : Int32)) w
  else
  (kRc w 8 x1).bind fun b5 =>
  (fX8_lineAt b5 x4 w).bind fun v7 =>
  (kgP w 7 (some x0) 1).bind fun v8 =>
  (kaI w 14 v8 x4).bind fun v9 =>
  if v9 = (x3 - (1 : Int32)) then
  fX7_isReached_J3_58 (fun q4 qw => fX7_isReached_L3 x0 x1 x2 x3 n k q4 qw) k x0 x1 x2 x3 x4 v7 (1 : Int32) w
  else
  fX7_isReached_J3_58 (fun q4 qw => fX7_isReached_L3 x0 x1 x2 x3 n k q4 qw) k x0 x1 x2 x3 x4 v7 (0 : Int32) w

noncomputable def fX7_isReached (x0 : Nat) (x1 : Option Nat) (x2 : Option Nat) (x3 : Int32) (w : kW) : Option (Int32 × kW) :=
  fX7_isReached_L3 x0 x1 x2 x3 kFU (fun y4_1 w2 => some ((0 : Int32), w2)) (0 : Int32) w

set_option maxHeartbeats 4000000 in
set_option maxRecDepth 100000 in
theorem rX7_isReached (l : Launch) (D : va_G) (aC : Nat → ClassId) {x0 : Nat} {x1 : Option Nat} {x2 : Option Nat} {x3 : Int32} {w : kW} {wR : kW} {oR : Int32} (h : fX7_isReached x0 x1 x2 x3 w = some (oR, wR)) : kC l D aC yX7_isReached cX7_isReached 10 (some .boolean) 5 110 [.ref x0, va_rf x1, va_rf x2, .int x3] w (some (.int oR)) wR 0 0 := by
  refine kOf (own := RX7) (by decide) rfl (by simp [lg_sl, kcat_rf, kcat_i, kcat_r, kcat_l]) ?_
  intro p e s m below meth c ls F hml hr hlocks hnm hX hZ hl
  obtain ⟨hx, hb, hts, hown, hK⟩ := id F
  have hl : lv_has ls 10 [(0, .ref x0), (1, va_rf x1), (2, va_rf x2), (3, .int x3)] := by simpa [lv_args, kcat_rf, kcat_i, kcat_r, kcat_l] using hl
  have hf := h
  rw [fX7_isReached] at hf
  refine lv_iconst (v := (0 : Int32)) hx hb (kd dtX7_isReached_0 0 rfl) (by decide) ?_
  refine lv_istore (lv' := [(4, .int (0 : Int32)), (0, .ref x0), (1, va_rf x1), (2, va_rf x2), (3, .int x3)]) hx hb (kd dtX7_isReached_0 1 rfl) hl (by decide) rfl (fun ls hl => ?_)
  have hL3 : ∀ (n : Nat) (k : Int32 → kW → Option (Int32 × kW)), ∀ (z4_3 : Int32) (w_3 : kW) (H : Heap) (locs : List Loc) (ls : Array Slot), kX D aC w s.heap w_3 H locs → lv_has ls 10 [(0, .ref x0), (1, va_rf x1), (2, va_rf x2), (3, .int x3), (4, .int z4_3)] → fX7_isReached_L3 x0 x1 x2 x3 n k z4_3 w_3 = some (oR, wR) → (∀ (z4_3 : Int32) (w_3 : kW) (H : Heap) (locs : List Loc) (ls : Array Slot), kX D aC w s.heap w_3 H locs → lv_has ls 10 [(0, .ref x0), (1, va_rf x1), (2, va_rf x2), (3, .int x3), (4, .int z4_3)] → k z4_3 w_3 = some (oR, wR) → W p l e { frames := 5, cells := 0, slots := 0, locals := 110 } s m ([.ref x0, va_rf x1, va_rf x2, .int x3] : List Value).toArray below meth c H locs 0 0 (MQ below (kQc D aC w (some (.int oR)) wR) ([.ref x0, va_rf x1, va_rf x2, .int x3] : List Value).toArray s 0 0 (kA w)) (F0 m 207 ls [])) → W p l e { frames := 5, cells := 0, slots := 0, locals := 110 } s m ([.ref x0, va_rf x1, va_rf x2, .int x3] : List Value).toArray below meth c H locs 0 0 (MQ below (kQc D aC w (some (.int oR)) wR) ([.ref x0, va_rf x1, va_rf x2, .int x3] : List Value).toArray s 0 0 (kA w)) (F0 m 3 ls []) := by
    intro n k
    induction n with
    | zero =>
      intro z4_3 w_3 H locs ls hX hl hf hk
      rw [fX7_isReached_L3] at hf
      cases hf
    | succ n ih =>
      intro z4_3 w_3 H locs ls hX hl hf hk
      have hJ3_91 : ∀ (j4_91 : Int32) (j5_91 : Option Nat) (j6_91 : Int32) (w_j91 : kW) (H : Heap) (locs : List Loc) (ls : Array Slot), kX D aC w s.heap w_j91 H locs → lv_has ls 10 [(0, .ref x0), (1, va_rf x1), (2, va_rf x2), (3, .int x3), (4, .int j4_91), (5, va_rf j5_91), (6, .int j6_91)] → fX7_isReached_J3_91 (fun q4 qw => fX7_isReached_L3 x0 x1 x2 x3 n k q4 qw) k x0 x1 x2 x3 j4_91 j5_91 j6_91 w_j91 = some (oR, wR) → W p l e { frames := 5, cells := 0, slots := 0, locals := 110 } s m ([.ref x0, va_rf x1, va_rf x2, .int x3] : List Value).toArray below meth c H locs 0 0 (MQ below (kQc D aC w (some (.int oR)) wR) ([.ref x0, va_rf x1, va_rf x2, .int x3] : List Value).toArray s 0 0 (kA w)) (F0 m 91 ls []) := by
        intro j4_91 j5_91 j6_91 w_j91 H locs ls hX hl hf
        rw [fX7_isReached_J3_91] at hf
        refine lv_iconst (v := (0 : Int32)) hx hb (kd dtX7_isReached_0 49 rfl) (by decide) ?_
        refine lv_istore (lv' := [(7, .int (0 : Int32)), (0, .ref x0), (1, va_rf x1), (2, va_rf x2), (3, .int x3), (4, .int j4_91), (5, va_rf j5_91), (6, .int j6_91)]) hx hb (kd dtX7_isReached_0 50 rfl) hl (by decide) rfl (fun ls hl => ?_)
        have hL94 : ∀ (n : Nat) (k : Int32 → kW → Option (Int32 × kW)), ∀ (z7_94 : Int32) (w_94 : kW) (H : Heap) (locs : List Loc) (ls : Array Slot), kX D aC w s.heap w_94 H locs → lv_has ls 10 [(0, .ref x0), (1, va_rf x1), (2, va_rf x2), (3, .int x3), (4, .int j4_91), (5, va_rf j5_91), (6, .int j6_91), (7, .int z7_94)] → fX7_isReached_L94 x0 x1 x2 x3 j4_91 j5_91 j6_91 n k z7_94 w_94 = some (oR, wR) → (∀ (z7_94 : Int32) (w_94 : kW) (H : Heap) (locs : List Loc) (ls : Array Slot), kX D aC w s.heap w_94 H locs → lv_has ls 10 [(0, .ref x0), (1, va_rf x1), (2, va_rf x2), (3, .int x3), (4, .int j4_91), (5, va_rf j5_91), (6, .int j6_91), (7, .int z7_94)] → k z7_94 w_94 = some (oR, wR) → W p l e { frames := 5, cells := 0, slots := 0, locals := 110 } s m ([.ref x0, va_rf x1, va_rf x2, .int x3] : List Value).toArray below meth c H locs 0 0 (MQ below (kQc D aC w (some (.int oR)) wR) ([.ref x0, va_rf x1, va_rf x2, .int x3] : List Value).toArray s 0 0 (kA w)) (F0 m 201 ls [])) → W p l e { frames := 5, cells := 0, slots := 0, locals := 110 } s m ([.ref x0, va_rf x1, va_rf x2, .int x3] : List Value).toArray below meth c H locs 0 0 (MQ below (kQc D aC w (some (.int oR)) wR) ([.ref x0, va_rf x1, va_rf x2, .int x3] : List Value).toArray s 0 0 (kA w)) (F0 m 94 ls []) := by
          intro n k
          induction n with
          | zero =>
            intro z7_94 w_94 H locs ls hX hl hf hk
            rw [fX7_isReached_L94] at hf
            cases hf
          | succ n ih =>
            intro z7_94 w_94 H locs ls hX hl hf hk
            have hJ94_160 : ∀ (j7_160 : Int32) (j8_160 : Int32) (t0_160 : Option Nat) (w_j160 : kW) (H : Heap) (locs : List Loc) (ls : Array Slot), kX D aC w s.heap w_j160 H locs → lv_has ls 10 [(0, .ref x0), (1, va_rf x1), (2, va_rf x2), (3, .int x3), (4, .int j4_91), (5, va_rf j5_91), (6, .int j6_91), (7, .int j7_160), (8, .int j8_160)] → fX7_isReached_J94_160 (fun q7 qw => fX7_isReached_L94 x0 x1 x2 x3 j4_91 j5_91 j6_91 n k q7 qw) k x0 x1 x2 x3 j4_91 j5_91 j6_91 j7_160 j8_160 t0_160 w_j160 = some (oR, wR) → W p l e { frames := 5, cells := 0, slots := 0, locals := 110 } s m ([.ref x0, va_rf x1, va_rf x2, .int x3] : List Value).toArray below meth c H locs 0 0 (MQ below (kQc D aC w (some (.int oR)) wR) ([.ref x0, va_rf x1, va_rf x2, .int x3] : List Value).toArray s 0 0 (kA w)) (F0 m 160 ls [va_rf t0_160]) := by
              intro j7_160 j8_160 t0_160 w_j160 H locs ls hX hl hf
              rw [fX7_isReached_J94_160] at hf
              refine kastore (lv' := [(9, va_rf t0_160), (0, .ref x0), (1, va_rf x1), (2, va_rf x2), (3, .int x3), (4, .int j4_91), (5, va_rf j5_91), (6, .int j6_91), (7, .int j7_160), (8, .int j8_160)]) hx hb (kd dtX7_isReached_1 4 rfl) hl (by decide) rfl (fun ls hl => ?_)
              refine kaload hx hb (kd dtX7_isReached_1 5 rfl) (lv_at hl 0 rfl) ?_
              refine kifnull (tgt := 195) hx hb (kd dtX7_isReached_1 6 rfl) (by decide) (fun hc => ?_) (fun hc => ?_)
              · have hf := kif_pos hc hf
                refine lv_iinc (v := j7_160 + (1 : Int32)) (lv' := [(7, .int (j7_160 + (1 : Int32))), (9, va_rf t0_160), (0, .ref x0), (1, va_rf x1), (2, va_rf x2), (3, .int x3), (4, .int j4_91), (5, va_rf j5_91), (6, .int j6_91), (8, .int j8_160)]) hx hb (kd dtX7_isReached_1 23 rfl) hl (k := 8) rfl (by rfl) (by decide) rfl (fun ls hl => ?_)
                refine lv_goto (tgt := 94) hx hb (kd dtX7_isReached_1 24 rfl) (by decide) ?_
                exact ih (j7_160 + (1 : Int32)) w_j160 _ _ _ hX (lv_sub hl [2, 3, 4, 5, 6, 7, 8, 0] rfl) hf hk
              · have hf := kif_neg hc hf
                refine lv_aload_n hx hb (kd dtX7_isReached_1 7 rfl) rfl (lv_at hl 1 rfl) ?_
                refine kaload_n hx hb (kd dtX7_isReached_1 8 rfl) rfl (lv_at hl 3 rfl) ?_
                refine lv_iconst (v := (1 : Int32)) hx hb (kd dtX7_isReached_1 9 rfl) (by decide) ?_
                refine kaload hx hb (kd dtX7_isReached_1 10 rfl) (lv_at hl 6 rfl) ?_
                refine kaload hx hb (kd dtX7_isReached_1 11 rfl) (lv_at hl 0 rfl) ?_
                obtain ⟨b31, hb31, hf⟩ := kbind hf
                obtain ⟨hrb31, hkb31⟩ := kRc_s hb31
                obtain ⟨v34, w32, h33, hf⟩ := kbind2 hf
                refine kcallV (n := 4) [va_rf x2, .int (1 : Int32), va_rf j5_91, va_rf t0_160] [] [.int v34] (rX7_allow l D aC h33) hrb31 hkb31 F hml hX hZ hl.1 mwX7_allow wmX7_79 rfl (by decide) (by decide +kernel) ⟨(by decide), (by decide)⟩ rfl rfl rfl (Nat.le_of_ble_eq_true rfl) (kd dtX7_isReached_1 12 rfl) ⟨Nat.zero_le _, Nat.zero_le _⟩ (fun H locs hX => ?_)
                refine lv_if_ne (tgt := 193) hx hb (kd dtX7_isReached_1 13 rfl) (by decide) (fun hc => ?_) (fun hc => ?_)
                · have hf := kif_neg hc hf
                  refine lv_iconst (v := (1 : Int32)) hx hb (kd dtX7_isReached_1 21 rfl) (by decide) ?_
                  cases hf
                  exact kzret F hX hr hlocks rfl rfl (kd dtX7_isReached_1 22 rfl)
                · have hf := kif_pos hc hf
                  refine lv_aload_n hx hb (kd dtX7_isReached_1 14 rfl) rfl (lv_at hl 1 rfl) ?_
                  refine kaload_n hx hb (kd dtX7_isReached_1 15 rfl) rfl (lv_at hl 3 rfl) ?_
                  refine lv_iconst (v := (2 : Int32)) hx hb (kd dtX7_isReached_1 16 rfl) (by decide) ?_
                  refine kaload hx hb (kd dtX7_isReached_1 17 rfl) (lv_at hl 6 rfl) ?_
                  refine kaload hx hb (kd dtX7_isReached_1 18 rfl) (lv_at hl 0 rfl) ?_
                  obtain ⟨b35, hb35, hf⟩ := kbind hf
                  obtain ⟨hrb35, hkb35⟩ := kRc_s hb35
                  obtain ⟨v38, w36, h37, hf⟩ := kbind2 hf
                  refine kcallV (n := 4) [va_rf x2, .int (2 : Int32), va_rf j5_91, va_rf t0_160] [] [.int v38] (rX7_allow l D aC h37) hrb35 hkb35 F hml hX hZ hl.1 mwX7_allow wmX7_79 rfl (by decide) (by decide +kernel) ⟨(by decide), (by decide)⟩ rfl rfl rfl (Nat.le_of_ble_eq_true rfl) (kd dtX7_isReached_1 19 rfl) ⟨Nat.zero_le _, Nat.zero_le _⟩ (fun H locs hX => ?_)
                  refine lv_if_eq (tgt := 195) hx hb (kd dtX7_isReached_1 20 rfl) (by decide) (fun hc => ?_) (fun hc => ?_)
                  · have hf := kif_pos hc hf
                    refine lv_iinc (v := j7_160 + (1 : Int32)) (lv' := [(7, .int (j7_160 + (1 : Int32))), (9, va_rf t0_160), (0, .ref x0), (1, va_rf x1), (2, va_rf x2), (3, .int x3), (4, .int j4_91), (5, va_rf j5_91), (6, .int j6_91), (8, .int j8_160)]) hx hb (kd dtX7_isReached_1 23 rfl) hl (k := 8) rfl (by rfl) (by decide) rfl (fun ls hl => ?_)
                    refine lv_goto (tgt := 94) hx hb (kd dtX7_isReached_1 24 rfl) (by decide) ?_
                    exact ih (j7_160 + (1 : Int32)) w36 _ _ _ hX (lv_sub hl [2, 3, 4, 5, 6, 7, 8, 0] rfl) hf hk
                  · have hf := kif_neg hc hf
                    refine lv_iconst (v := (1 : Int32)) hx hb (kd dtX7_isReached_1 21 rfl) (by decide) ?_
                    cases hf
                    exact kzret F hX hr hlocks rfl rfl (kd dtX7_isReached_1 22 rfl)
            have hJ94_143 : ∀ (j7_143 : Int32) (t0_143 : Int32) (w_j143 : kW) (H : Heap) (locs : List Loc) (ls : Array Slot), kX D aC w s.heap w_j143 H locs → lv_has ls 10 [(0, .ref x0), (1, va_rf x1), (2, va_rf x2), (3, .int x3), (4, .int j4_91), (5, va_rf j5_91), (6, .int j6_91), (7, .int j7_143)] → fX7_isReached_J94_143 (fun q7 qw => fX7_isReached_L94 x0 x1 x2 x3 j4_91 j5_91 j6_91 n k q7 qw) k x0 x1 x2 x3 j4_91 j5_91 j6_91 j7_143 t0_143 w_j143 = some (oR, wR) → W p l e { frames := 5, cells := 0, slots := 0, locals := 110 } s m ([.ref x0, va_rf x1, va_rf x2, .int x3] : List Value).toArray below meth c H locs 0 0 (MQ below (kQc D aC w (some (.int oR)) wR) ([.ref x0, va_rf x1, va_rf x2, .int x3] : List Value).toArray s 0 0 (kA w)) (F0 m 143 ls [.int t0_143]) := by
              intro j7_143 t0_143 w_j143 H locs ls hX hl hf
              rw [fX7_isReached_J94_143] at hf
              refine lv_istore (lv' := [(8, .int t0_143), (0, .ref x0), (1, va_rf x1), (2, va_rf x2), (3, .int x3), (4, .int j4_91), (5, va_rf j5_91), (6, .int j6_91), (7, .int j7_143)]) hx hb (kd dtX7_isReached_0 76 rfl) hl (by decide) rfl (fun ls hl => ?_)
              refine lv_iload hx hb (kd dtX7_isReached_0 77 rfl) (lv_at hl 0 rfl) ?_
              refine lv_if_eq (tgt := 159) hx hb (kd dtX7_isReached_0 78 rfl) (by decide) (fun hc => ?_) (fun hc => ?_)
              · have hf := kif_pos hc hf
                refine lv_null hx hb (kd dtX7_isReached_1 3 rfl) ?_
                exact hJ94_160 j7_143 t0_143 none w_j143 _ _ _ hX (lv_sub hl [1, 2, 3, 4, 5, 6, 7, 8, 0] rfl) hf
              · have hf := kif_neg hc hf
                refine kaload_n hx hb (kd dtX7_isReached_0 79 rfl) rfl (lv_at hl 2 rfl) ?_
                refine lv_iload hx hb (kd dtX7_isReached_1 0 rfl) (lv_at hl 8 rfl) ?_
                obtain ⟨b28, hb28, hf⟩ := kbind hf
                obtain ⟨hrb28, hkb28⟩ := kRc_s hb28
                obtain ⟨v30, h29, hf⟩ := kbind hf
                refine kcallV (n := 1) [.int j7_143] [] [va_rf v30] (rX8_lineAt l D aC h29) hrb28 hkb28 F hml hX hZ hl.1 mwX8_lineAt wmX7_37 rfl (by decide) (by decide +kernel) ⟨(by decide), (by decide)⟩ rfl rfl rfl (Nat.le_of_ble_eq_true rfl) (kd dtX7_isReached_1 1 rfl) ⟨Nat.zero_le _, Nat.zero_le _⟩ (fun H locs hX => ?_)
                refine lv_goto (tgt := 160) hx hb (kd dtX7_isReached_1 2 rfl) (by decide) ?_
                exact hJ94_160 j7_143 t0_143 v30 w_j143 _ _ _ hX (lv_sub hl [1, 2, 3, 4, 5, 6, 7, 8, 0] rfl) hf
            have hJ94_142 : ∀ (j7_142 : Int32) (w_j142 : kW) (H : Heap) (locs : List Loc) (ls : Array Slot), kX D aC w s.heap w_j142 H locs → lv_has ls 10 [(0, .ref x0), (1, va_rf x1), (2, va_rf x2), (3, .int x3), (4, .int j4_91), (5, va_rf j5_91), (6, .int j6_91), (7, .int j7_142)] → fX7_isReached_J94_142 (fun q7 qw => fX7_isReached_L94 x0 x1 x2 x3 j4_91 j5_91 j6_91 n k q7 qw) k x0 x1 x2 x3 j4_91 j5_91 j6_91 j7_142 w_j142 = some (oR, wR) → W p l e { frames := 5, cells := 0, slots := 0, locals := 110 } s m ([.ref x0, va_rf x1, va_rf x2, .int x3] : List Value).toArray below meth c H locs 0 0 (MQ below (kQc D aC w (some (.int oR)) wR) ([.ref x0, va_rf x1, va_rf x2, .int x3] : List Value).toArray s 0 0 (kA w)) (F0 m 142 ls []) := by
              intro j7_142 w_j142 H locs ls hX hl hf
              rw [fX7_isReached_J94_142] at hf
              refine lv_iconst (v := (0 : Int32)) hx hb (kd dtX7_isReached_0 75 rfl) (by decide) ?_
              exact hJ94_143 j7_142 (0 : Int32) w_j142 _ _ _ hX hl hf
            have hJ94_138 : ∀ (j7_138 : Int32) (w_j138 : kW) (H : Heap) (locs : List Loc) (ls : Array Slot), kX D aC w s.heap w_j138 H locs → lv_has ls 10 [(0, .ref x0), (1, va_rf x1), (2, va_rf x2), (3, .int x3), (4, .int j4_91), (5, va_rf j5_91), (6, .int j6_91), (7, .int j7_138)] → fX7_isReached_J94_138 (fun q7 qw => fX7_isReached_L94 x0 x1 x2 x3 j4_91 j5_91 j6_91 n k q7 qw) k x0 x1 x2 x3 j4_91 j5_91 j6_91 j7_138 w_j138 = some (oR, wR) → W p l e { frames := 5, cells := 0, slots := 0, locals := 110 } s m ([.ref x0, va_rf x1, va_rf x2, .int x3] : List Value).toArray below meth c H locs 0 0 (MQ below (kQc D aC w (some (.int oR)) wR) ([.ref x0, va_rf x1, va_rf x2, .int x3] : List Value).toArray s 0 0 (kA w)) (F0 m 138 ls []) := by
              intro j7_138 w_j138 H locs ls hX hl hf
              rw [fX7_isReached_J94_138] at hf
              refine lv_iconst (v := (1 : Int32)) hx hb (kd dtX7_isReached_0 73 rfl) (by decide) ?_
              refine lv_goto (tgt := 143) hx hb (kd dtX7_isReached_0 74 rfl) (by decide) ?_
              exact hJ94_143 j7_138 (1 : Int32) w_j138 _ _ _ hX hl hf
            rw [fX7_isReached_L94] at hf
            refine lv_iload hx hb (kd dtX7_isReached_0 51 rfl) (lv_at hl 7 rfl) ?_
            refine kaload_n hx hb (kd dtX7_isReached_0 52 rfl) rfl (lv_at hl 1 rfl) ?_
            obtain ⟨v22, hv22, hf⟩ := kbind hf
            refine kgetIN hv22 F hX hinX8 rfl rfl rfl (by decide) (by decide) hZ wfX7_47 (kd dtX7_isReached_0 53 rfl) ?_
            refine lv_icmp_ge (tgt := 201) hx hb (kd dtX7_isReached_0 54 rfl) (by decide) (fun hc => ?_) (fun hc => ?_)
            · have hf := kif_pos hc hf
              exact hk z7_94 w_94 _ _ _ hX hl hf
            · have hf := kif_neg hc hf
              refine lv_iload hx hb (kd dtX7_isReached_0 55 rfl) (lv_at hl 7 rfl) ?_
              refine lv_bipush (v := (40 : Int32)) hx hb (kd dtX7_isReached_0 56 rfl) (by decide) ?_
              refine lv_icmp_ge (tgt := 201) hx hb (kd dtX7_isReached_0 57 rfl) (by decide) (fun hc => ?_) (fun hc => ?_)
              · have hf := kif_pos hc hf
                exact hk z7_94 w_94 _ _ _ hX hl hf
              · have hf := kif_neg hc hf
                refine lv_aload_n hx hb (kd dtX7_isReached_0 58 rfl) rfl (lv_at hl 0 rfl) ?_
                refine lv_iload hx hb (kd dtX7_isReached_0 59 rfl) (lv_at hl 7 rfl) ?_
                refine lv_iload_n hx hb (kd dtX7_isReached_0 60 rfl) rfl (lv_at hl 3 rfl) ?_
                obtain ⟨b23, hb23, hf⟩ := kbind hf
                obtain ⟨hrb23, hkb23⟩ := kRc_s hb23
                obtain ⟨v25, h24, hf⟩ := kbind hf
                refine kcallV (n := 2) [.int z7_94, .int x3] [] [.int v25] (rX7_hasHeightBelow l D aC h24) hrb23 hkb23 F hml hX hZ hl.1 mwX7_hasHeightBelow wmX7_75 rfl (by decide) (by decide +kernel) ⟨(by decide), (by decide)⟩ rfl rfl rfl (Nat.le_of_ble_eq_true rfl) (kd dtX7_isReached_0 61 rfl) ⟨Nat.zero_le _, Nat.zero_le _⟩ (fun H locs hX => ?_)
                refine lv_if_eq (tgt := 142) hx hb (kd dtX7_isReached_0 62 rfl) (by decide) (fun hc => ?_) (fun hc => ?_)
                · have hf := kif_pos hc hf
                  exact hJ94_142 z7_94 w_94 _ _ _ hX hl hf
                · have hf := kif_neg hc hf
                  refine lv_iload hx hb (kd dtX7_isReached_0 63 rfl) (lv_at hl 6 rfl) ?_
                  refine lv_if_ne (tgt := 138) hx hb (kd dtX7_isReached_0 64 rfl) (by decide) (fun hc => ?_) (fun hc => ?_)
                  · have hf := kif_neg hc hf
                    exact hJ94_138 z7_94 w_94 _ _ _ hX hl hf
                  · have hf := kif_pos hc hf
                    refine lv_aload_n hx hb (kd dtX7_isReached_0 65 rfl) rfl (lv_at hl 0 rfl) ?_
                    obtain ⟨v26, hv26, hf⟩ := kbind hf
                    refine kgetP hv26 F hX hinX7 rfl rfl rfl (by decide) (by decide) wfX7_18 (kd dtX7_isReached_0 66 rfl) ?_
                    refine lv_iload hx hb (kd dtX7_isReached_0 67 rfl) (lv_at hl 7 rfl) ?_
                    obtain ⟨v27, hv27, hf⟩ := kbind hf
                    refine kald hv27 F hX (kd dtX7_isReached_0 68 rfl) ?_
                    refine lv_iload_n hx hb (kd dtX7_isReached_0 69 rfl) rfl (lv_at hl 3 rfl) ?_
                    refine lv_iconst (v := (1 : Int32)) hx hb (kd dtX7_isReached_0 70 rfl) (by decide) ?_
                    refine lv_isub hx hb (kd dtX7_isReached_0 71 rfl) ?_
                    refine lv_icmp_ne (tgt := 142) hx hb (kd dtX7_isReached_0 72 rfl) (by decide) (fun hc => ?_) (fun hc => ?_)
                    · have hf := kif_neg hc hf
                      exact hJ94_142 z7_94 w_94 _ _ _ hX hl hf
                    · have hf := kif_pos hc hf
                      exact hJ94_138 z7_94 w_94 _ _ _ hX hl hf
        refine hL94 kFU _ (0 : Int32) w_j91 _ _ _ hX (lv_sub hl [1, 2, 3, 4, 5, 6, 7, 0] rfl) hf ?_
        intro y7_20 w21 H locs ls hX hl hf
        refine lv_iinc (v := j4_91 + (1 : Int32)) (lv' := [(4, .int (j4_91 + (1 : Int32))), (0, .ref x0), (1, va_rf x1), (2, va_rf x2), (3, .int x3), (5, va_rf j5_91), (6, .int j6_91), (7, .int y7_20)]) hx hb (kd dtX7_isReached_1 25 rfl) hl (k := 4) rfl (by rfl) (by decide) rfl (fun ls hl => ?_)
        refine lv_goto (tgt := 3) hx hb (kd dtX7_isReached_1 26 rfl) (by decide) ?_
        exact ih (j4_91 + (1 : Int32)) w21 _ _ _ hX (lv_sub hl [1, 2, 3, 4, 0] rfl) hf hk
      have hJ3_58 : ∀ (j4_58 : Int32) (j5_58 : Option Nat) (t0_58 : Int32) (w_j58 : kW) (H : Heap) (locs : List Loc) (ls : Array Slot), kX D aC w s.heap w_j58 H locs → lv_has ls 10 [(0, .ref x0), (1, va_rf x1), (2, va_rf x2), (3, .int x3), (4, .int j4_58), (5, va_rf j5_58)] → fX7_isReached_J3_58 (fun q4 qw => fX7_isReached_L3 x0 x1 x2 x3 n k q4 qw) k x0 x1 x2 x3 j4_58 j5_58 t0_58 w_j58 = some (oR, wR) → W p l e { frames := 5, cells := 0, slots := 0, locals := 110 } s m ([.ref x0, va_rf x1, va_rf x2, .int x3] : List Value).toArray below meth c H locs 0 0 (MQ below (kQc D aC w (some (.int oR)) wR) ([.ref x0, va_rf x1, va_rf x2, .int x3] : List Value).toArray s 0 0 (kA w)) (F0 m 58 ls [.int t0_58]) := by
        intro j4_58 j5_58 t0_58 w_j58 H locs ls hX hl hf
        rw [fX7_isReached_J3_58] at hf
        refine lv_istore (i := 6) (lv' := [(6, .int t0_58), (0, .ref x0), (1, va_rf x1), (2, va_rf x2), (3, .int x3), (4, .int j4_58), (5, va_rf j5_58)]) hx hb (kd dtX7_isReached_0 30 rfl) hl (by decide) (by simp [kcat_rf, kcat_i, kcat_r, kcat_l]) (fun ls hl => ?_)
        refine lv_iload hx hb (kd dtX7_isReached_0 31 rfl) (lv_at hl 0 rfl) ?_
        refine lv_if_eq (tgt := 91) hx hb (kd dtX7_isReached_0 32 rfl) (by decide) (fun hc => ?_) (fun hc => ?_)
        · have hf := kif_pos hc hf
          exact hJ3_91 j4_58 j5_58 t0_58 w_j58 _ _ _ hX (lv_sub hl [1, 2, 3, 4, 5, 6, 0] rfl) hf
        · have hf := kif_neg hc hf
          refine lv_aload_n hx hb (kd dtX7_isReached_0 33 rfl) rfl (lv_at hl 1 rfl) ?_
          refine kaload_n hx hb (kd dtX7_isReached_0 34 rfl) rfl (lv_at hl 3 rfl) ?_
          refine lv_iconst (v := (0 : Int32)) hx hb (kd dtX7_isReached_0 35 rfl) (by decide) ?_
          refine kaload hx hb (kd dtX7_isReached_0 36 rfl) (lv_at hl 6 rfl) ?_
          refine lv_null hx hb (kd dtX7_isReached_0 37 rfl) ?_
          obtain ⟨b12, hb12, hf⟩ := kbind hf
          obtain ⟨hrb12, hkb12⟩ := kRc_s hb12
          obtain ⟨v15, w13, h14, hf⟩ := kbind2 hf
          refine kcallV (n := 4) [va_rf x2, .int (0 : Int32), va_rf j5_58, va_rf none] [] [.int v15] (rX7_allow l D aC h14) hrb12 hkb12 F hml hX hZ hl.1 mwX7_allow wmX7_79 rfl (by decide) (by decide +kernel) ⟨(by decide), (by decide)⟩ rfl rfl rfl (Nat.le_of_ble_eq_true rfl) (kd dtX7_isReached_0 38 rfl) ⟨Nat.zero_le _, Nat.zero_le _⟩ (fun H locs hX => ?_)
          refine lv_if_ne (tgt := 89) hx hb (kd dtX7_isReached_0 39 rfl) (by decide) (fun hc => ?_) (fun hc => ?_)
          · have hf := kif_neg hc hf
            refine lv_iconst (v := (1 : Int32)) hx hb (kd dtX7_isReached_0 47 rfl) (by decide) ?_
            cases hf
            exact kzret F hX hr hlocks rfl rfl (kd dtX7_isReached_0 48 rfl)
          · have hf := kif_pos hc hf
            refine lv_aload_n hx hb (kd dtX7_isReached_0 40 rfl) rfl (lv_at hl 1 rfl) ?_
            refine kaload_n hx hb (kd dtX7_isReached_0 41 rfl) rfl (lv_at hl 3 rfl) ?_
            refine lv_iconst (v := (3 : Int32)) hx hb (kd dtX7_isReached_0 42 rfl) (by decide) ?_
            refine kaload hx hb (kd dtX7_isReached_0 43 rfl) (lv_at hl 6 rfl) ?_
            refine lv_null hx hb (kd dtX7_isReached_0 44 rfl) ?_
            obtain ⟨b16, hb16, hf⟩ := kbind hf
            obtain ⟨hrb16, hkb16⟩ := kRc_s hb16
            obtain ⟨v19, w17, h18, hf⟩ := kbind2 hf
            refine kcallV (n := 4) [va_rf x2, .int (3 : Int32), va_rf j5_58, va_rf none] [] [.int v19] (rX7_allow l D aC h18) hrb16 hkb16 F hml hX hZ hl.1 mwX7_allow wmX7_79 rfl (by decide) (by decide +kernel) ⟨(by decide), (by decide)⟩ rfl rfl rfl (Nat.le_of_ble_eq_true rfl) (kd dtX7_isReached_0 45 rfl) ⟨Nat.zero_le _, Nat.zero_le _⟩ (fun H locs hX => ?_)
            refine lv_if_eq (tgt := 91) hx hb (kd dtX7_isReached_0 46 rfl) (by decide) (fun hc => ?_) (fun hc => ?_)
            · have hf := kif_pos hc hf
              exact hJ3_91 j4_58 j5_58 t0_58 w17 _ _ _ hX (lv_sub hl [1, 2, 3, 4, 5, 6, 0] rfl) hf
            · have hf := kif_neg hc hf
              refine lv_iconst (v := (1 : Int32)) hx hb (kd dtX7_isReached_0 47 rfl) (by decide) ?_
              cases hf
              exact kzret F hX hr hlocks rfl rfl (kd dtX7_isReached_0 48 rfl)
      rw [fX7_isReached_L3] at hf
      refine lv_iload hx hb (kd dtX7_isReached_0 2 rfl) (lv_at hl 4 rfl) ?_
      refine kaload_n hx hb (kd dtX7_isReached_0 3 rfl) rfl (lv_at hl 1 rfl) ?_
      obtain ⟨v3, hv3, hf⟩ := kbind hf
      refine kgetIN hv3 F hX hinX8 rfl rfl rfl (by decide) (by decide) hZ wfX7_47 (kd dtX7_isReached_0 4 rfl) ?_
      refine lv_icmp_ge (tgt := 207) hx hb (kd dtX7_isReached_0 5 rfl) (by decide) (fun hc => ?_) (fun hc => ?_)
      · have hf := kif_pos hc hf
        exact hk z4_3 w_3 _ _ _ hX hl hf
      · have hf := kif_neg hc hf
        refine lv_iload hx hb (kd dtX7_isReached_0 6 rfl) (lv_at hl 4 rfl) ?_
        refine lv_bipush (v := (40 : Int32)) hx hb (kd dtX7_isReached_0 7 rfl) (by decide) ?_
        refine lv_icmp_ge (tgt := 207) hx hb (kd dtX7_isReached_0 8 rfl) (by decide) (fun hc => ?_) (fun hc => ?_)
        · have hf := kif_pos hc hf
          exact hk z4_3 w_3 _ _ _ hX hl hf
        · have hf := kif_neg hc hf
          refine lv_aload_n hx hb (kd dtX7_isReached_0 9 rfl) rfl (lv_at hl 0 rfl) ?_
          refine lv_iload hx hb (kd dtX7_isReached_0 10 rfl) (lv_at hl 4 rfl) ?_
          refine lv_iload_n hx hb (kd dtX7_isReached_0 11 rfl) rfl (lv_at hl 3 rfl) ?_
          obtain ⟨b4, hb4, hf⟩ := kbind hf
          obtain ⟨hrb4, hkb4⟩ := kRc_s hb4
          obtain ⟨v6, h5, hf⟩ := kbind hf
          refine kcallV (n := 2) [.int z4_3, .int x3] [] [.int v6] (rX7_hasHeightBelow l D aC h5) hrb4 hkb4 F hml hX hZ hl.1 mwX7_hasHeightBelow wmX7_75 rfl (by decide) (by decide +kernel) ⟨(by decide), (by decide)⟩ rfl rfl rfl (Nat.le_of_ble_eq_true rfl) (kd dtX7_isReached_0 12 rfl) ⟨Nat.zero_le _, Nat.zero_le _⟩ (fun H locs hX => ?_)
          refine lv_if_ne (tgt := 32) hx hb (kd dtX7_isReached_0 13 rfl) (by decide) (fun hc => ?_) (fun hc => ?_)
          · have hf := kif_neg hc hf
            refine kaload_n hx hb (kd dtX7_isReached_0 15 rfl) rfl (lv_at hl 1 rfl) ?_
            refine lv_iload hx hb (kd dtX7_isReached_0 16 rfl) (lv_at hl 4 rfl) ?_
            obtain ⟨b7, hb7, hf⟩ := kbind hf
            obtain ⟨hrb7, hkb7⟩ := kRc_s hb7
            obtain ⟨v9, h8, hf⟩ := kbind hf
            refine kcallV (n := 1) [.int z4_3] [] [va_rf v9] (rX8_lineAt l D aC h8) hrb7 hkb7 F hml hX hZ hl.1 mwX8_lineAt wmX7_37 rfl (by decide) (by decide +kernel) ⟨(by decide), (by decide)⟩ rfl rfl rfl (Nat.le_of_ble_eq_true rfl) (kd dtX7_isReached_0 17 rfl) ⟨Nat.zero_le _, Nat.zero_le _⟩ (fun H locs hX => ?_)
            refine kastore (lv' := [(5, va_rf v9), (0, .ref x0), (1, va_rf x1), (2, va_rf x2), (3, .int x3), (4, .int z4_3)]) hx hb (kd dtX7_isReached_0 18 rfl) hl (by decide) rfl (fun ls hl => ?_)
            refine lv_aload_n hx hb (kd dtX7_isReached_0 19 rfl) rfl (lv_at hl 1 rfl) ?_
            obtain ⟨v10, hv10, hf⟩ := kbind hf
            refine kgetP hv10 F hX hinX7 rfl rfl rfl (by decide) (by decide) wfX7_18 (kd dtX7_isReached_0 20 rfl) ?_
            refine lv_iload hx hb (kd dtX7_isReached_0 21 rfl) (lv_at hl 5 rfl) ?_
            obtain ⟨v11, hv11, hf⟩ := kbind hf
            refine kald hv11 F hX (kd dtX7_isReached_0 22 rfl) ?_
            refine lv_iload_n hx hb (kd dtX7_isReached_0 23 rfl) rfl (lv_at hl 4 rfl) ?_
            refine lv_iconst (v := (1 : Int32)) hx hb (kd dtX7_isReached_0 24 rfl) (by decide) ?_
            refine lv_isub hx hb (kd dtX7_isReached_0 25 rfl) ?_
            refine lv_icmp_ne (tgt := 57) hx hb (kd dtX7_isReached_0 26 rfl) (by decide) (fun hc => ?_) (fun hc => ?_)
            · have hf := kif_neg hc hf
              refine lv_iconst (v := (0 : Int32)) hx hb (kd dtX7_isReached_0 29 rfl) (by decide) ?_
              exact hJ3_58 z4_3 v9 (0 : Int32) w_3 _ _ _ hX (lv_sub hl [1, 2, 3, 4, 5, 0] rfl) hf
            · have hf := kif_pos hc hf
              refine lv_iconst (v := (1 : Int32)) hx hb (kd dtX7_isReached_0 27 rfl) (by decide) ?_
              refine lv_goto (tgt := 58) hx hb (kd dtX7_isReached_0 28 rfl) (by decide) ?_
              exact hJ3_58 z4_3 v9 (1 : Int32) w_3 _ _ _ hX (lv_sub hl [1, 2, 3, 4, 5, 0] rfl) hf
          · have hf := kif_pos hc hf
            refine lv_goto (tgt := 201) hx hb (kd dtX7_isReached_0 14 rfl) (by decide) ?_
            refine lv_iinc (v := z4_3 + (1 : Int32)) (lv' := [(4, .int (z4_3 + (1 : Int32))), (0, .ref x0), (1, va_rf x1), (2, va_rf x2), (3, .int x3)]) hx hb (kd dtX7_isReached_1 25 rfl) hl (k := 4) rfl (by rfl) (by decide) rfl (fun ls hl => ?_)
            refine lv_goto (tgt := 3) hx hb (kd dtX7_isReached_1 26 rfl) (by decide) ?_
            exact ih (z4_3 + (1 : Int32)) w_3 _ _ _ hX (lv_sub hl [1, 2, 3, 4, 0] rfl) hf hk
  refine hL3 kFU _ (0 : Int32) w _ _ _ hX (lv_sub hl [1, 2, 3, 4, 0] rfl) hf ?_
  intro y4_1 w2 H locs ls hX hl hf
  refine lv_iconst (v := (0 : Int32)) hx hb (kd dtX7_isReached_1 27 rfl) (by decide) ?_
  cases hf
  exact kzret F hX hr hlocks rfl rfl (kd dtX7_isReached_1 28 rfl)
theorem wmX7_43 : Cond.methodLink RX7 43 yX8_howIs ∈ kT := kTm 953 (by decide +kernel) rfl
theorem wmX7_51 : Cond.methodLink RX7 51 yX7_isReached ∈ kT := kTm 954 (by decide +kernel) rfl
theorem mwX7_isReached : kMV RX7 yX7_isReached cX7_isReached 10 (some .boolean) := ⟨kTm 957 (by decide +kernel) rfl, kTm 102 (by decide +kernel) rfl, kTm 956 (by decide +kernel) rfl, kTm 33 (by decide +kernel) rfl⟩
def lX7_heightOf_0 : List (Nat × Instr × Nat) := [(0, .iconst 0, 1), (1, .istore_n 3, 1), (2, .iload_n 3, 1), (3, .bipush 40, 2), (5, .if_icmp .ge 38, 3), (8, .aload_n 0, 1), (9, .getfield 18, 3), (12, .iload_n 3, 1), (13, .aload_n 1, 1), (14, .iload_n 3, 1), (15, .invokevirtual 37, 3), (18, .ifnull 16, 3), (21, .aload_n 1, 1), (22, .iload_n 3, 1), (23, .invokevirtual 43, 3), (26, .iconst 1, 1), (27, .if_icmp .ne 7, 3), (30, .iconst 0, 1), (31, .goto 5, 3), (34, .bipush (-4), 2), (36, .iastore, 1), (37, .iinc 3 1, 3), (40, .goto (-38), 3), (43, .iconst 1, 1), (44, .istore_n 3, 1), (45, .iconst 1, 1), (46, .istore 4, 2), (48, .iload 4, 2), (50, .bipush 40, 2), (52, .if_icmp .gt 79, 3), (55, .iload_n 3, 1), (56, .ifCond .eq 75, 3), (59, .iconst 0, 1), (60, .istore_n 3, 1), (61, .iconst 0, 1), (62, .istore 5, 2), (64, .iload 5, 2), (66, .aload_n 1, 1), (67, .getfield 47, 3), (70, .if_icmp .ge 55, 3), (73, .iload 5, 2), (75, .bipush 40, 2), (77, .if_icmp .ge 48, 3), (80, .aload_n 0, 1), (81, .getfield 18, 3), (84, .iload 5, 2), (86, .iaload, 1), (87, .bipush (-4), 2), (89, .if_icmp .ne 30, 3), (92, .aload_n 0, 1), (93, .aload_n 1, 1), (94, .aload_n 1, 1), (95, .iload 5, 2), (97, .invokevirtual 37, 3), (100, .iload 4, 2), (102, .invokevirtual 51, 3), (105, .ifCond .eq 14, 3), (108, .aload_n 0, 1), (109, .getfield 18, 3), (112, .iload 5, 2), (114, .iload 4, 2), (116, .iastore, 1), (117, .iconst 1, 1), (118, .istore_n 3, 1), (119, .iinc 5 1, 3), (122, .goto (-58), 3), (125, .iinc 4 1, 3), (128, .goto (-80), 3), (131, .iload_n 2, 1), (132, .ifCond .lt 18, 3), (135, .iload_n 2, 1), (136, .bipush 40, 2), (138, .if_icmp .ge 12, 3), (141, .aload_n 0, 1), (142, .getfield 18, 3), (145, .iload_n 2, 1), (146, .iaload, 1), (147, .goto 5, 3), (150, .bipush (-4), 2), (152, .ireturn, 1)]
theorem dtX7_heightOf_0 : kDec cX7_heightOf lX7_heightOf_0 = true := by decide +kernel
noncomputable def fX7_heightOf_L2 (x0 : Nat) (x1 : Option Nat) (x2 : Int32) : Nat → (Int32 → kW → Option (Int32 × kW)) → Int32 → kW → Option (Int32 × kW)
  | 0, _, _, _ => none
  | n + 1, k, x3, w =>
  if (40 : Int32) ≤ x3 then
  k x3 w
  else
  (kgP w 7 (some x0) 1).bind fun v1 =>
  (kRc w 8 x1).bind fun b2 =>
  (fX8_lineAt b2 x3 w).bind fun v4 =>
  if v4 = none then
  (ksI w 14 v1 x3 (-4 : Int32)).bind fun w5 =>
  fX7_heightOf_L2 x0 x1 x2 n k (x3 + (1 : Int32)) w5
  else
  (kRc w 8 x1).bind fun b6 =>
  (fX8_howIs b6 x3 w).bind fun v8 =>
  if v8 = (1 : Int32) then
  (ksI w 14 v1 x3 (0 : Int32)).bind fun w10 =>
  fX7_heightOf_L2 x0 x1 x2 n k (x3 + (1 : Int32)) w10
  else
  (ksI w 14 v1 x3 (-4 : Int32)).bind fun w9 =>
  fX7_heightOf_L2 x0 x1 x2 n k (x3 + (1 : Int32)) w9

noncomputable def fX7_heightOf_L64 (x0 : Nat) (x1 : Option Nat) (x2 : Int32) (x4 : Int32) : Nat → (Int32 → Int32 → kW → Option (Int32 × kW)) → Int32 → Int32 → kW → Option (Int32 × kW)
  | 0, _, _, _, _ => none
  | n + 1, k, x3, x5, w =>
  (kgI w 8 x1 7).bind fun v1 =>
  if v1 ≤ x5 then
  k x3 x5 w
  else
  if (40 : Int32) ≤ x5 then
  k x3 x5 w
  else
  (kgP w 7 (some x0) 1).bind fun v2 =>
  (kaI w 14 v2 x5).bind fun v3 =>
  if v3 = (-4 : Int32) then
  (kRc w 8 x1).bind fun b4 =>
  (fX8_lineAt b4 x5 w).bind fun v6 =>
  (kRc w 7 (some x0)).bind fun b7 =>
  kb2 (fX7_isReached b7 x1 v6 x4 w) fun v10 w8 =>
  if v10 = 0 then
  fX7_heightOf_L64 x0 x1 x2 x4 n k x3 (x5 + (1 : Int32)) w8
  else
  (kgP w8 7 (some x0) 1).bind fun v11 =>
  (ksI w8 14 v11 x5 x4).bind fun w12 =>
  fX7_heightOf_L64 x0 x1 x2 x4 n k (1 : Int32) (x5 + (1 : Int32)) w12
  else
  fX7_heightOf_L64 x0 x1 x2 x4 n k x3 (x5 + (1 : Int32)) w

noncomputable def fX7_heightOf_L48 (x0 : Nat) (x1 : Option Nat) (x2 : Int32) : Nat → (Int32 → Int32 → kW → Option (Int32 × kW)) → Int32 → Int32 → kW → Option (Int32 × kW)
  | 0, _, _, _, _ => none
  | n + 1, k, x3, x4, w =>
  if (40 : Int32) < x4 then
  k x3 x4 w
  else
  if x3 = 0 then
  k x3 x4 w
  else
  fX7_heightOf_L64 x0 x1 x2 x4 kFU (fun y3_1 y5_2 w3 => fX7_heightOf_L48 x0 x1 x2 n k y3_1 (x4 + (1 : Int32)) w3) (0 : Int32) (0 : Int32) w

noncomputable def fX7_heightOf (x0 : Nat) (x1 : Option Nat) (x2 : Int32) (w : kW) : Option (Int32 × kW) :=
  fX7_heightOf_L2 x0 x1 x2 kFU (fun y3_1 w2 => fX7_heightOf_L48 x0 x1 x2 kFU (fun y3_3 y4_4 w5 => if x2 < 0 then
  some ((-4 : Int32), w5)
  else
  if (40 : Int32) ≤ x2 then
  some ((-4 : Int32), w5)
  else
  (kgP w5 7 (some x0) 1).bind fun v6 =>
  (kaI w5 14 v6 x2).bind fun v7 =>
  some (v7, w5)) (1 : Int32) (1 : Int32) w2) (0 : Int32) w

set_option maxHeartbeats 4000000 in
set_option maxRecDepth 100000 in
theorem rX7_heightOf (l : Launch) (D : va_G) (aC : Nat → ClassId) {x0 : Nat} {x1 : Option Nat} {x2 : Int32} {w : kW} {wR : kW} {oR : Int32} (h : fX7_heightOf x0 x1 x2 w = some (oR, wR)) : kC l D aC yX7_heightOf cX7_heightOf 6 (some .int) 6 139 [.ref x0, va_rf x1, .int x2] w (some (.int oR)) wR 0 0 := by
  refine kOf (own := RX7) (by decide) rfl (by simp [lg_sl, kcat_rf, kcat_i, kcat_r, kcat_l]) ?_
  intro p e s m below meth c ls F hml hr hlocks hnm hX hZ hl
  obtain ⟨hx, hb, hts, hown, hK⟩ := id F
  have hl : lv_has ls 6 [(0, .ref x0), (1, va_rf x1), (2, .int x2)] := by simpa [lv_args, kcat_rf, kcat_i, kcat_r, kcat_l] using hl
  have hf := h
  rw [fX7_heightOf] at hf
  refine lv_iconst (v := (0 : Int32)) hx hb (kd dtX7_heightOf_0 0 rfl) (by decide) ?_
  refine lv_istore_n (lv' := [(3, .int (0 : Int32)), (0, .ref x0), (1, va_rf x1), (2, .int x2)]) hx hb (kd dtX7_heightOf_0 1 rfl) rfl hl (by decide) rfl (fun ls hl => ?_)
  have hL2 : ∀ (n : Nat) (k : Int32 → kW → Option (Int32 × kW)), ∀ (z3_2 : Int32) (w_2 : kW) (H : Heap) (locs : List Loc) (ls : Array Slot), kX D aC w s.heap w_2 H locs → lv_has ls 6 [(0, .ref x0), (1, va_rf x1), (2, .int x2), (3, .int z3_2)] → fX7_heightOf_L2 x0 x1 x2 n k z3_2 w_2 = some (oR, wR) → (∀ (z3_2 : Int32) (w_2 : kW) (H : Heap) (locs : List Loc) (ls : Array Slot), kX D aC w s.heap w_2 H locs → lv_has ls 6 [(0, .ref x0), (1, va_rf x1), (2, .int x2), (3, .int z3_2)] → k z3_2 w_2 = some (oR, wR) → W p l e { frames := 6, cells := 0, slots := 0, locals := 139 } s m ([.ref x0, va_rf x1, .int x2] : List Value).toArray below meth c H locs 0 0 (MQ below (kQc D aC w (some (.int oR)) wR) ([.ref x0, va_rf x1, .int x2] : List Value).toArray s 0 0 (kA w)) (F0 m 43 ls [])) → W p l e { frames := 6, cells := 0, slots := 0, locals := 139 } s m ([.ref x0, va_rf x1, .int x2] : List Value).toArray below meth c H locs 0 0 (MQ below (kQc D aC w (some (.int oR)) wR) ([.ref x0, va_rf x1, .int x2] : List Value).toArray s 0 0 (kA w)) (F0 m 2 ls []) := by
    intro n k
    induction n with
    | zero =>
      intro z3_2 w_2 H locs ls hX hl hf hk
      rw [fX7_heightOf_L2] at hf
      cases hf
    | succ n ih =>
      intro z3_2 w_2 H locs ls hX hl hf hk
      rw [fX7_heightOf_L2] at hf
      refine lv_iload_n hx hb (kd dtX7_heightOf_0 2 rfl) rfl (lv_at hl 3 rfl) ?_
      refine lv_bipush (v := (40 : Int32)) hx hb (kd dtX7_heightOf_0 3 rfl) (by decide) ?_
      refine lv_icmp_ge (tgt := 43) hx hb (kd dtX7_heightOf_0 4 rfl) (by decide) (fun hc => ?_) (fun hc => ?_)
      · have hf := kif_pos hc hf
        exact hk z3_2 w_2 _ _ _ hX hl hf
      · have hf := kif_neg hc hf
        refine lv_aload_n hx hb (kd dtX7_heightOf_0 5 rfl) rfl (lv_at hl 0 rfl) ?_
        obtain ⟨v23, hv23, hf⟩ := kbind hf
        refine kgetP hv23 F hX hinX7 rfl rfl rfl (by decide) (by decide) wfX7_18 (kd dtX7_heightOf_0 6 rfl) ?_
        refine lv_iload_n hx hb (kd dtX7_heightOf_0 7 rfl) rfl (lv_at hl 3 rfl) ?_
        refine kaload_n hx hb (kd dtX7_heightOf_0 8 rfl) rfl (lv_at hl 1 rfl) ?_
        refine lv_iload_n hx hb (kd dtX7_heightOf_0 9 rfl) rfl (lv_at hl 3 rfl) ?_
        obtain ⟨b24, hb24, hf⟩ := kbind hf
        obtain ⟨hrb24, hkb24⟩ := kRc_s hb24
        obtain ⟨v26, h25, hf⟩ := kbind hf
        refine kcallV (n := 1) [.int z3_2] [.int z3_2, va_rf v23] [va_rf v26, .int z3_2, va_rf v23] (rX8_lineAt l D aC h25) hrb24 hkb24 F hml hX hZ hl.1 mwX8_lineAt wmX7_37 rfl (by decide) (by decide +kernel) ⟨(by decide), (by decide)⟩ rfl rfl rfl (by simp [kcat_rf, kcat_i, kcat_r, kcat_l]) (kd dtX7_heightOf_0 10 rfl) ⟨Nat.zero_le _, Nat.zero_le _⟩ (fun H locs hX => ?_)
        refine kifnull (tgt := 34) hx hb (kd dtX7_heightOf_0 11 rfl) (by decide) (fun hc => ?_) (fun hc => ?_)
        · have hf := kif_pos hc hf
          refine lv_bipush (v := (-4 : Int32)) hx hb (kd dtX7_heightOf_0 19 rfl) (by decide) ?_
          obtain ⟨w27, hw27, hf⟩ := kbind hf
          refine kast hw27 F hX (kd dtX7_heightOf_0 20 rfl) (fun H locs hX => ?_)
          refine lv_iinc (v := z3_2 + (1 : Int32)) (lv' := [(3, .int (z3_2 + (1 : Int32))), (0, .ref x0), (1, va_rf x1), (2, .int x2)]) hx hb (kd dtX7_heightOf_0 21 rfl) hl (k := 3) rfl (by rfl) (by decide) rfl (fun ls hl => ?_)
          refine lv_goto (tgt := 2) hx hb (kd dtX7_heightOf_0 22 rfl) (by decide) ?_
          exact ih (z3_2 + (1 : Int32)) w27 _ _ _ hX (lv_sub hl [1, 2, 3, 0] rfl) hf hk
        · have hf := kif_neg hc hf
          refine kaload_n hx hb (kd dtX7_heightOf_0 12 rfl) rfl (lv_at hl 1 rfl) ?_
          refine lv_iload_n hx hb (kd dtX7_heightOf_0 13 rfl) rfl (lv_at hl 3 rfl) ?_
          obtain ⟨b28, hb28, hf⟩ := kbind hf
          obtain ⟨hrb28, hkb28⟩ := kRc_s hb28
          obtain ⟨v30, h29, hf⟩ := kbind hf
          refine kcallV (n := 1) [.int z3_2] [.int z3_2, va_rf v23] [.int v30, .int z3_2, va_rf v23] (rX8_howIs l D aC h29) hrb28 hkb28 F hml hX hZ hl.1 mwX8_howIs wmX7_43 rfl (by decide) (by decide +kernel) ⟨(by decide), (by decide)⟩ rfl rfl rfl (by simp [kcat_rf, kcat_i, kcat_r, kcat_l]) (kd dtX7_heightOf_0 14 rfl) ⟨Nat.zero_le _, Nat.zero_le _⟩ (fun H locs hX => ?_)
          refine lv_iconst (v := (1 : Int32)) hx hb (kd dtX7_heightOf_0 15 rfl) (by decide) ?_
          refine lv_icmp_ne (tgt := 34) hx hb (kd dtX7_heightOf_0 16 rfl) (by decide) (fun hc => ?_) (fun hc => ?_)
          · have hf := kif_neg hc hf
            refine lv_bipush (v := (-4 : Int32)) hx hb (kd dtX7_heightOf_0 19 rfl) (by decide) ?_
            obtain ⟨w31, hw31, hf⟩ := kbind hf
            refine kast hw31 F hX (kd dtX7_heightOf_0 20 rfl) (fun H locs hX => ?_)
            refine lv_iinc (v := z3_2 + (1 : Int32)) (lv' := [(3, .int (z3_2 + (1 : Int32))), (0, .ref x0), (1, va_rf x1), (2, .int x2)]) hx hb (kd dtX7_heightOf_0 21 rfl) hl (k := 3) rfl (by rfl) (by decide) rfl (fun ls hl => ?_)
            refine lv_goto (tgt := 2) hx hb (kd dtX7_heightOf_0 22 rfl) (by decide) ?_
            exact ih (z3_2 + (1 : Int32)) w31 _ _ _ hX (lv_sub hl [1, 2, 3, 0] rfl) hf hk
          · have hf := kif_pos hc hf
            refine lv_iconst (v := (0 : Int32)) hx hb (kd dtX7_heightOf_0 17 rfl) (by decide) ?_
            refine lv_goto (tgt := 36) hx hb (kd dtX7_heightOf_0 18 rfl) (by decide) ?_
            obtain ⟨w32, hw32, hf⟩ := kbind hf
            refine kast hw32 F hX (kd dtX7_heightOf_0 20 rfl) (fun H locs hX => ?_)
            refine lv_iinc (v := z3_2 + (1 : Int32)) (lv' := [(3, .int (z3_2 + (1 : Int32))), (0, .ref x0), (1, va_rf x1), (2, .int x2)]) hx hb (kd dtX7_heightOf_0 21 rfl) hl (k := 3) rfl (by rfl) (by decide) rfl (fun ls hl => ?_)
            refine lv_goto (tgt := 2) hx hb (kd dtX7_heightOf_0 22 rfl) (by decide) ?_
            exact ih (z3_2 + (1 : Int32)) w32 _ _ _ hX (lv_sub hl [1, 2, 3, 0] rfl) hf hk
  refine hL2 kFU _ (0 : Int32) w _ _ _ hX (lv_sub hl [1, 2, 3, 0] rfl) hf ?_
  intro y3_1 w2 H locs ls hX hl hf
  refine lv_iconst (v := (1 : Int32)) hx hb (kd dtX7_heightOf_0 23 rfl) (by decide) ?_
  refine lv_istore_n (lv' := [(3, .int (1 : Int32)), (0, .ref x0), (1, va_rf x1), (2, .int x2)]) hx hb (kd dtX7_heightOf_0 24 rfl) rfl hl (by decide) rfl (fun ls hl => ?_)
  refine lv_iconst (v := (1 : Int32)) hx hb (kd dtX7_heightOf_0 25 rfl) (by decide) ?_
  refine lv_istore (lv' := [(4, .int (1 : Int32)), (3, .int (1 : Int32)), (0, .ref x0), (1, va_rf x1), (2, .int x2)]) hx hb (kd dtX7_heightOf_0 26 rfl) hl (by decide) rfl (fun ls hl => ?_)
  have hL48 : ∀ (n : Nat) (k : Int32 → Int32 → kW → Option (Int32 × kW)), ∀ (z3_48 : Int32) (z4_48 : Int32) (w_48 : kW) (H : Heap) (locs : List Loc) (ls : Array Slot), kX D aC w s.heap w_48 H locs → lv_has ls 6 [(0, .ref x0), (1, va_rf x1), (2, .int x2), (3, .int z3_48), (4, .int z4_48)] → fX7_heightOf_L48 x0 x1 x2 n k z3_48 z4_48 w_48 = some (oR, wR) → (∀ (z3_48 : Int32) (z4_48 : Int32) (w_48 : kW) (H : Heap) (locs : List Loc) (ls : Array Slot), kX D aC w s.heap w_48 H locs → lv_has ls 6 [(0, .ref x0), (1, va_rf x1), (2, .int x2), (3, .int z3_48), (4, .int z4_48)] → k z3_48 z4_48 w_48 = some (oR, wR) → W p l e { frames := 6, cells := 0, slots := 0, locals := 139 } s m ([.ref x0, va_rf x1, .int x2] : List Value).toArray below meth c H locs 0 0 (MQ below (kQc D aC w (some (.int oR)) wR) ([.ref x0, va_rf x1, .int x2] : List Value).toArray s 0 0 (kA w)) (F0 m 131 ls [])) → W p l e { frames := 6, cells := 0, slots := 0, locals := 139 } s m ([.ref x0, va_rf x1, .int x2] : List Value).toArray below meth c H locs 0 0 (MQ below (kQc D aC w (some (.int oR)) wR) ([.ref x0, va_rf x1, .int x2] : List Value).toArray s 0 0 (kA w)) (F0 m 48 ls []) := by
    intro n k
    induction n with
    | zero =>
      intro z3_48 z4_48 w_48 H locs ls hX hl hf hk
      rw [fX7_heightOf_L48] at hf
      cases hf
    | succ n ih =>
      intro z3_48 z4_48 w_48 H locs ls hX hl hf hk
      rw [fX7_heightOf_L48] at hf
      refine lv_iload hx hb (kd dtX7_heightOf_0 27 rfl) (lv_at hl 4 rfl) ?_
      refine lv_bipush (v := (40 : Int32)) hx hb (kd dtX7_heightOf_0 28 rfl) (by decide) ?_
      refine lv_icmp_gt (tgt := 131) hx hb (kd dtX7_heightOf_0 29 rfl) (by decide) (fun hc => ?_) (fun hc => ?_)
      · have hf := kif_pos hc hf
        exact hk z3_48 z4_48 w_48 _ _ _ hX hl hf
      · have hf := kif_neg hc hf
        refine lv_iload_n hx hb (kd dtX7_heightOf_0 30 rfl) rfl (lv_at hl 3 rfl) ?_
        refine lv_if_eq (tgt := 131) hx hb (kd dtX7_heightOf_0 31 rfl) (by decide) (fun hc => ?_) (fun hc => ?_)
        · have hf := kif_pos hc hf
          exact hk z3_48 z4_48 w_48 _ _ _ hX hl hf
        · have hf := kif_neg hc hf
          refine lv_iconst (v := (0 : Int32)) hx hb (kd dtX7_heightOf_0 32 rfl) (by decide) ?_
          refine lv_istore_n (lv' := [(3, .int (0 : Int32)), (0, .ref x0), (1, va_rf x1), (2, .int x2), (4, .int z4_48)]) hx hb (kd dtX7_heightOf_0 33 rfl) rfl hl (by decide) rfl (fun ls hl => ?_)
          refine lv_iconst (v := (0 : Int32)) hx hb (kd dtX7_heightOf_0 34 rfl) (by decide) ?_
          refine lv_istore (lv' := [(5, .int (0 : Int32)), (3, .int (0 : Int32)), (0, .ref x0), (1, va_rf x1), (2, .int x2), (4, .int z4_48)]) hx hb (kd dtX7_heightOf_0 35 rfl) hl (by decide) rfl (fun ls hl => ?_)
          have hL64 : ∀ (n : Nat) (k : Int32 → Int32 → kW → Option (Int32 × kW)), ∀ (z3_64 : Int32) (z5_64 : Int32) (w_64 : kW) (H : Heap) (locs : List Loc) (ls : Array Slot), kX D aC w s.heap w_64 H locs → lv_has ls 6 [(0, .ref x0), (1, va_rf x1), (2, .int x2), (3, .int z3_64), (4, .int z4_48), (5, .int z5_64)] → fX7_heightOf_L64 x0 x1 x2 z4_48 n k z3_64 z5_64 w_64 = some (oR, wR) → (∀ (z3_64 : Int32) (z5_64 : Int32) (w_64 : kW) (H : Heap) (locs : List Loc) (ls : Array Slot), kX D aC w s.heap w_64 H locs → lv_has ls 6 [(0, .ref x0), (1, va_rf x1), (2, .int x2), (3, .int z3_64), (4, .int z4_48), (5, .int z5_64)] → k z3_64 z5_64 w_64 = some (oR, wR) → W p l e { frames := 6, cells := 0, slots := 0, locals := 139 } s m ([.ref x0, va_rf x1, .int x2] : List Value).toArray below meth c H locs 0 0 (MQ below (kQc D aC w (some (.int oR)) wR) ([.ref x0, va_rf x1, .int x2] : List Value).toArray s 0 0 (kA w)) (F0 m 125 ls [])) → W p l e { frames := 6, cells := 0, slots := 0, locals := 139 } s m ([.ref x0, va_rf x1, .int x2] : List Value).toArray below meth c H locs 0 0 (MQ below (kQc D aC w (some (.int oR)) wR) ([.ref x0, va_rf x1, .int x2] : List Value).toArray s 0 0 (kA w)) (F0 m 64 ls []) := by
            intro n k
            induction n with
            | zero =>
              intro z3_64 z5_64 w_64 H locs ls hX hl hf hk
              rw [fX7_heightOf_L64] at hf
              cases hf
            | succ n ih =>
              intro z3_64 z5_64 w_64 H locs ls hX hl hf hk
              rw [fX7_heightOf_L64] at hf
              refine lv_iload hx hb (kd dtX7_heightOf_0 36 rfl) (lv_at hl 5 rfl) ?_
              refine kaload_n hx hb (kd dtX7_heightOf_0 37 rfl) rfl (lv_at hl 1 rfl) ?_
              obtain ⟨v11, hv11, hf⟩ := kbind hf
              refine kgetIN hv11 F hX hinX8 rfl rfl rfl (by decide) (by decide) hZ wfX7_47 (kd dtX7_heightOf_0 38 rfl) ?_
              refine lv_icmp_ge (tgt := 125) hx hb (kd dtX7_heightOf_0 39 rfl) (by decide) (fun hc => ?_) (fun hc => ?_)
              · have hf := kif_pos hc hf
                exact hk z3_64 z5_64 w_64 _ _ _ hX hl hf
              · have hf := kif_neg hc hf
                refine lv_iload hx hb (kd dtX7_heightOf_0 40 rfl) (lv_at hl 5 rfl) ?_
                refine lv_bipush (v := (40 : Int32)) hx hb (kd dtX7_heightOf_0 41 rfl) (by decide) ?_
                refine lv_icmp_ge (tgt := 125) hx hb (kd dtX7_heightOf_0 42 rfl) (by decide) (fun hc => ?_) (fun hc => ?_)
                · have hf := kif_pos hc hf
                  exact hk z3_64 z5_64 w_64 _ _ _ hX hl hf
                · have hf := kif_neg hc hf
                  refine lv_aload_n hx hb (kd dtX7_heightOf_0 43 rfl) rfl (lv_at hl 0 rfl) ?_
                  obtain ⟨v12, hv12, hf⟩ := kbind hf
                  refine kgetP hv12 F hX hinX7 rfl rfl rfl (by decide) (by decide) wfX7_18 (kd dtX7_heightOf_0 44 rfl) ?_
                  refine lv_iload hx hb (kd dtX7_heightOf_0 45 rfl) (lv_at hl 5 rfl) ?_
                  obtain ⟨v13, hv13, hf⟩ := kbind hf
                  refine kald hv13 F hX (kd dtX7_heightOf_0 46 rfl) ?_
                  refine lv_bipush (v := (-4 : Int32)) hx hb (kd dtX7_heightOf_0 47 rfl) (by decide) ?_
                  refine lv_icmp_ne (tgt := 119) hx hb (kd dtX7_heightOf_0 48 rfl) (by decide) (fun hc => ?_) (fun hc => ?_)
                  · have hf := kif_neg hc hf
                    refine lv_iinc (v := z5_64 + (1 : Int32)) (lv' := [(5, .int (z5_64 + (1 : Int32))), (0, .ref x0), (1, va_rf x1), (2, .int x2), (3, .int z3_64), (4, .int z4_48)]) hx hb (kd dtX7_heightOf_0 64 rfl) hl (k := 5) rfl (by rfl) (by decide) rfl (fun ls hl => ?_)
                    refine lv_goto (tgt := 64) hx hb (kd dtX7_heightOf_0 65 rfl) (by decide) ?_
                    exact ih z3_64 (z5_64 + (1 : Int32)) w_64 _ _ _ hX (lv_sub hl [1, 2, 3, 4, 5, 0] rfl) hf hk
                  · have hf := kif_pos hc hf
                    refine lv_aload_n hx hb (kd dtX7_heightOf_0 49 rfl) rfl (lv_at hl 0 rfl) ?_
                    refine kaload_n hx hb (kd dtX7_heightOf_0 50 rfl) rfl (lv_at hl 1 rfl) ?_
                    refine kaload_n hx hb (kd dtX7_heightOf_0 51 rfl) rfl (lv_at hl 1 rfl) ?_
                    refine lv_iload hx hb (kd dtX7_heightOf_0 52 rfl) (lv_at hl 5 rfl) ?_
                    obtain ⟨b14, hb14, hf⟩ := kbind hf
                    obtain ⟨hrb14, hkb14⟩ := kRc_s hb14
                    obtain ⟨v16, h15, hf⟩ := kbind hf
                    refine kcallV (n := 1) [.int z5_64] [va_rf x1, .ref x0] [va_rf v16, va_rf x1, .ref x0] (rX8_lineAt l D aC h15) hrb14 hkb14 F hml hX hZ hl.1 mwX8_lineAt wmX7_37 rfl (by decide) (by decide +kernel) ⟨(by decide), (by decide)⟩ rfl rfl rfl (by simp [kcat_rf, kcat_i, kcat_r, kcat_l]) (kd dtX7_heightOf_0 53 rfl) ⟨Nat.zero_le _, Nat.zero_le _⟩ (fun H locs hX => ?_)
                    refine lv_iload hx hb (kd dtX7_heightOf_0 54 rfl) (lv_at hl 4 rfl) ?_
                    obtain ⟨b17, hb17, hf⟩ := kbind hf
                    obtain ⟨hrb17, hkb17⟩ := kRc_s hb17
                    obtain ⟨v20, w18, h19, hf⟩ := kbind2 hf
                    refine kcallV (n := 3) [va_rf x1, va_rf v16, .int z4_48] [] [.int v20] (rX7_isReached l D aC h19) hrb17 hkb17 F hml hX hZ hl.1 mwX7_isReached wmX7_51 rfl (by decide) (by decide +kernel) ⟨(by decide), (by decide)⟩ rfl rfl rfl (Nat.le_of_ble_eq_true rfl) (kd dtX7_heightOf_0 55 rfl) ⟨Nat.zero_le _, Nat.zero_le _⟩ (fun H locs hX => ?_)
                    refine lv_if_eq (tgt := 119) hx hb (kd dtX7_heightOf_0 56 rfl) (by decide) (fun hc => ?_) (fun hc => ?_)
                    · have hf := kif_pos hc hf
                      refine lv_iinc (v := z5_64 + (1 : Int32)) (lv' := [(5, .int (z5_64 + (1 : Int32))), (0, .ref x0), (1, va_rf x1), (2, .int x2), (3, .int z3_64), (4, .int z4_48)]) hx hb (kd dtX7_heightOf_0 64 rfl) hl (k := 5) rfl (by rfl) (by decide) rfl (fun ls hl => ?_)
                      refine lv_goto (tgt := 64) hx hb (kd dtX7_heightOf_0 65 rfl) (by decide) ?_
                      exact ih z3_64 (z5_64 + (1 : Int32)) w18 _ _ _ hX (lv_sub hl [1, 2, 3, 4, 5, 0] rfl) hf hk
                    · have hf := kif_neg hc hf
                      refine lv_aload_n hx hb (kd dtX7_heightOf_0 57 rfl) rfl (lv_at hl 0 rfl) ?_
                      obtain ⟨v21, hv21, hf⟩ := kbind hf
                      refine kgetP hv21 F hX hinX7 rfl rfl rfl (by decide) (by decide) wfX7_18 (kd dtX7_heightOf_0 58 rfl) ?_
                      refine lv_iload hx hb (kd dtX7_heightOf_0 59 rfl) (lv_at hl 5 rfl) ?_
                      refine lv_iload hx hb (kd dtX7_heightOf_0 60 rfl) (lv_at hl 4 rfl) ?_
                      obtain ⟨w22, hw22, hf⟩ := kbind hf
                      refine kast hw22 F hX (kd dtX7_heightOf_0 61 rfl) (fun H locs hX => ?_)
                      refine lv_iconst (v := (1 : Int32)) hx hb (kd dtX7_heightOf_0 62 rfl) (by decide) ?_
                      refine lv_istore_n (lv' := [(3, .int (1 : Int32)), (0, .ref x0), (1, va_rf x1), (2, .int x2), (4, .int z4_48), (5, .int z5_64)]) hx hb (kd dtX7_heightOf_0 63 rfl) rfl hl (by decide) rfl (fun ls hl => ?_)
                      refine lv_iinc (v := z5_64 + (1 : Int32)) (lv' := [(5, .int (z5_64 + (1 : Int32))), (3, .int (1 : Int32)), (0, .ref x0), (1, va_rf x1), (2, .int x2), (4, .int z4_48)]) hx hb (kd dtX7_heightOf_0 64 rfl) hl (k := 5) rfl (by rfl) (by decide) rfl (fun ls hl => ?_)
                      refine lv_goto (tgt := 64) hx hb (kd dtX7_heightOf_0 65 rfl) (by decide) ?_
                      exact ih (1 : Int32) (z5_64 + (1 : Int32)) w22 _ _ _ hX (lv_sub hl [2, 3, 4, 1, 5, 0] rfl) hf hk
          refine hL64 kFU _ (0 : Int32) (0 : Int32) w_48 _ _ _ hX (lv_sub hl [2, 3, 4, 1, 5, 0] rfl) hf ?_
          intro y3_8 y5_9 w10 H locs ls hX hl hf
          refine lv_iinc (v := z4_48 + (1 : Int32)) (lv' := [(4, .int (z4_48 + (1 : Int32))), (0, .ref x0), (1, va_rf x1), (2, .int x2), (3, .int y3_8), (5, .int y5_9)]) hx hb (kd dtX7_heightOf_0 66 rfl) hl (k := 4) rfl (by rfl) (by decide) rfl (fun ls hl => ?_)
          refine lv_goto (tgt := 48) hx hb (kd dtX7_heightOf_0 67 rfl) (by decide) ?_
          exact ih y3_8 (z4_48 + (1 : Int32)) w10 _ _ _ hX (lv_sub hl [1, 2, 3, 4, 0] rfl) hf hk
  refine hL48 kFU _ (1 : Int32) (1 : Int32) w2 _ _ _ hX (lv_sub hl [2, 3, 4, 1, 0] rfl) hf ?_
  intro y3_3 y4_4 w5 H locs ls hX hl hf
  refine lv_iload_n hx hb (kd dtX7_heightOf_0 68 rfl) rfl (lv_at hl 2 rfl) ?_
  refine lv_if_lt (tgt := 150) hx hb (kd dtX7_heightOf_0 69 rfl) (by decide) (fun hc => ?_) (fun hc => ?_)
  · have hf := kif_pos hc hf
    refine lv_bipush (v := (-4 : Int32)) hx hb (kd dtX7_heightOf_0 78 rfl) (by decide) ?_
    cases hf
    exact kiret F hX hr hlocks rfl (kd dtX7_heightOf_0 79 rfl)
  · have hf := kif_neg hc hf
    refine lv_iload_n hx hb (kd dtX7_heightOf_0 70 rfl) rfl (lv_at hl 2 rfl) ?_
    refine lv_bipush (v := (40 : Int32)) hx hb (kd dtX7_heightOf_0 71 rfl) (by decide) ?_
    refine lv_icmp_ge (tgt := 150) hx hb (kd dtX7_heightOf_0 72 rfl) (by decide) (fun hc => ?_) (fun hc => ?_)
    · have hf := kif_pos hc hf
      refine lv_bipush (v := (-4 : Int32)) hx hb (kd dtX7_heightOf_0 78 rfl) (by decide) ?_
      cases hf
      exact kiret F hX hr hlocks rfl (kd dtX7_heightOf_0 79 rfl)
    · have hf := kif_neg hc hf
      refine lv_aload_n hx hb (kd dtX7_heightOf_0 73 rfl) rfl (lv_at hl 0 rfl) ?_
      obtain ⟨v6, hv6, hf⟩ := kbind hf
      refine kgetP hv6 F hX hinX7 rfl rfl rfl (by decide) (by decide) wfX7_18 (kd dtX7_heightOf_0 74 rfl) ?_
      refine lv_iload_n hx hb (kd dtX7_heightOf_0 75 rfl) rfl (lv_at hl 2 rfl) ?_
      obtain ⟨v7, hv7, hf⟩ := kbind hf
      refine kald hv7 F hX (kd dtX7_heightOf_0 76 rfl) ?_
      refine lv_goto (tgt := 152) hx hb (kd dtX7_heightOf_0 77 rfl) (by decide) ?_
      cases hf
      exact kiret F hX hr hlocks rfl (kd dtX7_heightOf_0 79 rfl)
