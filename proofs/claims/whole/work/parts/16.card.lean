theorem wmX0_3 : Cond.methodLink RX0 3 objectInit ∈ kT := kTm 1049 (by decide +kernel) rfl
theorem wfX0_9 : Cond.fieldLink RX0 9 (TX0 0).1 (TX0 0).2.1 (TX0 0).2.2.1 ∈ kT := kTm 1050 (by decide +kernel) rfl
theorem wfX0_15 : Cond.fieldLink RX0 15 (TX0 1).1 (TX0 1).2.1 (TX0 1).2.2.1 ∈ kT := kTm 1051 (by decide +kernel) rfl
theorem wfX0_18 : Cond.fieldLink RX0 18 (TX0 2).1 (TX0 2).2.1 (TX0 2).2.2.1 ∈ kT := kTm 1052 (by decide +kernel) rfl
def lX0_init_0 : List (Nat × Instr × Nat) := [(0, .aload_n 0, 1), (1, .invokespecial 3, 3), (4, .aload_n 0, 1), (5, .iload_n 1, 1), (6, .putfield 9, 3), (9, .aload_n 0, 1), (10, .iload_n 2, 1), (11, .putfield 15, 3), (14, .aload_n 0, 1), (15, .aload_n 3, 1), (16, .putfield 18, 3), (19, .return_, 1)]
theorem dtX0_init_0 : kDec cX0_init lX0_init_0 = true := by decide +kernel
noncomputable def fX0_init (x0 : Nat) (x1 : Int32) (x2 : Int32) (x3 : Option Nat) (w : kW) : Option kW :=
  (kpI w 0 (some x0) 0 x1).bind fun w1 =>
  (kpI w1 0 (some x0) 1 x2).bind fun w2 =>
  (kpP w2 0 (some x0) 2 x3).bind fun w3 =>
  some w3

set_option maxHeartbeats 4000000 in
set_option maxRecDepth 100000 in
theorem rX0_init (l : Launch) (D : va_G) (aC : Nat → ClassId) {x0 : Nat} {x1 : Int32} {x2 : Int32} {x3 : Option Nat} {w : kW} {wR : kW} (h : fX0_init x0 x1 x2 x3 w = some wR) : kC l D aC yX0_init cX0_init 4 none 1 20 [.ref x0, .int x1, .int x2, va_rf x3] w none wR 0 0 := by
  refine kOf (own := RX0) (by decide) rfl (by simp [lg_sl, kcat_rf, kcat_i, kcat_r, kcat_l]) ?_
  intro p e s m below meth c ls F hml hr hlocks hnm hX hZ hl
  obtain ⟨hx, hb, hts, hown, hK⟩ := id F
  have hl : lv_has ls 4 [(0, .ref x0), (1, .int x1), (2, .int x2), (3, va_rf x3)] := by simpa [lv_args, kcat_rf, kcat_i, kcat_r, kcat_l] using hl
  have hf := h
  rw [fX0_init] at hf
  refine lv_aload_n hx hb (kd dtX0_init_0 0 rfl) rfl (lv_at hl 0 rfl) ?_
  refine kobj F (hml.trans hl.1.symm) wmX0_3 (Nat.le_of_ble_eq_true rfl) (Nat.le_of_ble_eq_true rfl) (kd dtX0_init_0 1 rfl) ?_
  refine lv_aload_n hx hb (kd dtX0_init_0 2 rfl) rfl (lv_at hl 0 rfl) ?_
  refine lv_iload_n hx hb (kd dtX0_init_0 3 rfl) rfl (lv_at hl 1 rfl) ?_
  obtain ⟨w1, hw1, hf⟩ := kbind hf
  refine kputI hw1 F hX hinX0 tyX0_ok nmX0 rfl rfl rfl (by decide) (by decide) wfX0_9 rfl rfl (Or.inr ⟨rfl, hnm, rfl⟩) (kd dtX0_init_0 4 rfl) (fun H locs hX => ?_)
  refine lv_aload_n hx hb (kd dtX0_init_0 5 rfl) rfl (lv_at hl 0 rfl) ?_
  refine lv_iload_n hx hb (kd dtX0_init_0 6 rfl) rfl (lv_at hl 2 rfl) ?_
  obtain ⟨w2, hw2, hf⟩ := kbind hf
  refine kputI hw2 F hX hinX0 tyX0_ok nmX0 rfl rfl rfl (by decide) (by decide) wfX0_15 rfl rfl (Or.inr ⟨rfl, hnm, rfl⟩) (kd dtX0_init_0 7 rfl) (fun H locs hX => ?_)
  refine lv_aload_n hx hb (kd dtX0_init_0 8 rfl) rfl (lv_at hl 0 rfl) ?_
  refine kaload_n hx hb (kd dtX0_init_0 9 rfl) rfl (lv_at hl 3 rfl) ?_
  obtain ⟨w3, hw3, hf⟩ := kbind hf
  refine kputP hw3 F hX hinX0 tyX0_ok nmX0 rfl rfl rfl (by decide) (by decide) wfX0_18 (Or.inr ⟨rfl, hnm, rfl⟩) (kd dtX0_init_0 10 rfl) (fun H locs hX => ?_)
  obtain rfl := Option.some.inj hf
  exact kvret F hX hr hlocks rfl (kd dtX0_init_0 11 rfl)
theorem wfX0_35 : Cond.fieldLinkNest RX0 35 (TX1 5).1 (TX1 5).2.1 (TX1 5).2.2.1 "KitchenCards" ∈ kNs := kNm 195 (by decide +kernel) rfl
theorem wmX0_48 : Cond.methodLink RX0 48 yX1_placesAt ∈ kT := kTm 1114 (by decide +kernel) rfl
def lX0_matchWork_0 : List (Nat × Instr × Nat) := [(0, .aload_n 0, 1), (1, .getfield 18, 3), (4, .getfield 35, 3), (7, .aload_n 0, 1), (8, .getfield 18, 3), (11, .iconst 0, 1), (12, .invokevirtual 48, 3), (15, .iadd, 1), (16, .ireturn, 1)]
theorem dtX0_matchWork_0 : kDec cX0_matchWork lX0_matchWork_0 = true := by decide +kernel
noncomputable def fX0_matchWork (x0 : Nat) (w : kW) : Option Int32 :=
  (kgP w 0 (some x0) 2).bind fun v1 =>
  (kgI w 1 v1 5).bind fun v2 =>
  (kgP w 0 (some x0) 2).bind fun v3 =>
  (kRc w 1 v3).bind fun b4 =>
  (fX1_placesAt b4 (0 : Int32) w).bind fun v6 =>
  some (v2 + v6)

set_option maxHeartbeats 4000000 in
set_option maxRecDepth 100000 in
theorem rX0_matchWork (l : Launch) (D : va_G) (aC : Nat → ClassId) {x0 : Nat} {w : kW} {oR : Int32} (h : fX0_matchWork x0 w = some oR) : kC l D aC yX0_matchWork cX0_matchWork 1 (some .int) 2 33 [.ref x0] w (some (.int oR)) w 0 0 := by
  refine kOf (own := RX0) (by decide) rfl (Nat.le_of_ble_eq_true rfl) ?_
  intro p e s m below meth c ls F hml hr hlocks hnm hX hZ hl
  obtain ⟨hx, hb, hts, hown, hK⟩ := id F
  have hl : lv_has ls 1 [(0, .ref x0)] := hl
  have hf := h
  rw [fX0_matchWork] at hf
  refine lv_aload_n hx hb (kd dtX0_matchWork_0 0 rfl) rfl (lv_at hl 0 rfl) ?_
  obtain ⟨v1, hv1, hf⟩ := kbind hf
  refine kgetP hv1 F hX hinX0 rfl rfl rfl (by decide) (by decide) wfX0_18 (kd dtX0_matchWork_0 1 rfl) ?_
  obtain ⟨v2, hv2, hf⟩ := kbind hf
  refine kgetIN hv2 F hX hinX1 rfl rfl rfl (by decide) (by decide) hZ wfX0_35 (kd dtX0_matchWork_0 2 rfl) ?_
  refine lv_aload_n hx hb (kd dtX0_matchWork_0 3 rfl) rfl (lv_at hl 0 rfl) ?_
  obtain ⟨v3, hv3, hf⟩ := kbind hf
  refine kgetP hv3 F hX hinX0 rfl rfl rfl (by decide) (by decide) wfX0_18 (kd dtX0_matchWork_0 4 rfl) ?_
  refine lv_iconst (v := (0 : Int32)) hx hb (kd dtX0_matchWork_0 5 rfl) (by decide) ?_
  obtain ⟨b4, hb4, hf⟩ := kbind hf
  obtain ⟨hrb4, hkb4⟩ := kRc_s hb4
  obtain ⟨v6, h5, hf⟩ := kbind hf
  refine kcallV (n := 1) [.int (0 : Int32)] [.int v2] [.int v6, .int v2] (rX1_placesAt l D aC h5) hrb4 hkb4 F hml hX hZ hl.1 mwX1_placesAt wmX0_48 rfl (by decide) (by decide +kernel) ⟨(by decide), (by decide)⟩ rfl rfl rfl (Nat.le_of_ble_eq_true rfl) (kd dtX0_matchWork_0 6 rfl) ⟨Nat.zero_le _, Nat.zero_le _⟩ (fun H locs hX => ?_)
  refine lv_iadd hx hb (kd dtX0_matchWork_0 7 rfl) ?_
  obtain rfl := Option.some.inj hf
  exact kiret F hX hr hlocks rfl (kd dtX0_matchWork_0 8 rfl)
def lX0_backWork_0 : List (Nat × Instr × Nat) := [(0, .iconst 2, 1), (1, .aload_n 0, 1), (2, .getfield 18, 3), (5, .getfield 35, 3), (8, .imul, 1), (9, .ireturn, 1)]
theorem dtX0_backWork_0 : kDec cX0_backWork lX0_backWork_0 = true := by decide +kernel
noncomputable def fX0_backWork (x0 : Nat) (w : kW) : Option Int32 :=
  (kgP w 0 (some x0) 2).bind fun v1 =>
  (kgI w 1 v1 5).bind fun v2 =>
  some ((2 : Int32) * v2)

set_option maxHeartbeats 4000000 in
set_option maxRecDepth 100000 in
theorem rX0_backWork (l : Launch) (D : va_G) (aC : Nat → ClassId) {x0 : Nat} {w : kW} {oR : Int32} (h : fX0_backWork x0 w = some oR) : kC l D aC yX0_backWork cX0_backWork 1 (some .int) 1 12 [.ref x0] w (some (.int oR)) w 0 0 := by
  refine kOf (own := RX0) (by decide) rfl (Nat.le_of_ble_eq_true rfl) ?_
  intro p e s m below meth c ls F hml hr hlocks hnm hX hZ hl
  obtain ⟨hx, hb, hts, hown, hK⟩ := id F
  have hl : lv_has ls 1 [(0, .ref x0)] := hl
  have hf := h
  rw [fX0_backWork] at hf
  refine lv_iconst (v := (2 : Int32)) hx hb (kd dtX0_backWork_0 0 rfl) (by decide) ?_
  refine lv_aload_n hx hb (kd dtX0_backWork_0 1 rfl) rfl (lv_at hl 0 rfl) ?_
  obtain ⟨v1, hv1, hf⟩ := kbind hf
  refine kgetP hv1 F hX hinX0 rfl rfl rfl (by decide) (by decide) wfX0_18 (kd dtX0_backWork_0 2 rfl) ?_
  obtain ⟨v2, hv2, hf⟩ := kbind hf
  refine kgetIN hv2 F hX hinX1 rfl rfl rfl (by decide) (by decide) hZ wfX0_35 (kd dtX0_backWork_0 3 rfl) ?_
  refine lv_imul hx hb (kd dtX0_backWork_0 4 rfl) ?_
  obtain rfl := Option.some.inj hf
  exact kiret F hX hr hlocks rfl (kd dtX0_backWork_0 5 rfl)
theorem wmX0_22 : Cond.methodLink RX0 22 yX0_matchWork ∈ kT := kTm 1110 (by decide +kernel) rfl
theorem mwX0_matchWork : kMV RX0 yX0_matchWork cX0_matchWork 1 (some .int) := ⟨kTm 1113 (by decide +kernel) rfl, kTm 110 (by decide +kernel) rfl, kTm 1112 (by decide +kernel) rfl, kTm 39 (by decide +kernel) rfl⟩
theorem wmX0_26 : Cond.methodLink RX0 26 yX0_backWork ∈ kT := kTm 1115 (by decide +kernel) rfl
theorem mwX0_backWork : kMV RX0 yX0_backWork cX0_backWork 1 (some .int) := ⟨kTm 1118 (by decide +kernel) rfl, kTm 110 (by decide +kernel) rfl, kTm 1117 (by decide +kernel) rfl, kTm 40 (by decide +kernel) rfl⟩
theorem wmX0_29 : Cond.methodLink RX0 29 yX1_levelAt ∈ kT := kTm 1119 (by decide +kernel) rfl
theorem wmX0_38 : Cond.methodLink RX0 38 yX1_unlikeAt ∈ kT := kTm 1120 (by decide +kernel) rfl
def lX0_work_0 : List (Nat × Instr × Nat) := [(0, .aload_n 0, 1), (1, .getfield 9, 3), (4, .tableswitch 98 1 6 #[40, 45, 50, 64, 81, 91], 40), (44, .aload_n 0, 1), (45, .invokevirtual 22, 3), (48, .ireturn, 1), (49, .aload_n 0, 1), (50, .invokevirtual 26, 3), (53, .ireturn, 1), (54, .aload_n 0, 1), (55, .invokevirtual 26, 3), (58, .aload_n 0, 1), (59, .getfield 18, 3), (62, .iconst 0, 1), (63, .invokevirtual 29, 3), (66, .iadd, 1), (67, .ireturn, 1), (68, .aload_n 0, 1), (69, .getfield 18, 3), (72, .getfield 35, 3), (75, .aload_n 0, 1), (76, .getfield 18, 3), (79, .iconst 0, 1), (80, .invokevirtual 38, 3), (83, .iadd, 1), (84, .ireturn, 1), (85, .aload_n 0, 1), (86, .getfield 18, 3), (89, .getfield 35, 3), (92, .iconst 1, 1), (93, .isub, 1), (94, .ireturn, 1), (95, .iconst 2, 1), (96, .aload_n 0, 1), (97, .invokevirtual 22, 3), (100, .imul, 1), (101, .ireturn, 1), (102, .aload_n 0, 1), (103, .getfield 18, 3), (106, .getfield 35, 3), (109, .ireturn, 1)]
theorem dtX0_work_0 : kDec cX0_work lX0_work_0 = true := by decide +kernel
noncomputable def fX0_work (x0 : Nat) (w : kW) : Option Int32 :=
  (kgI w 0 (some x0) 0).bind fun v1 =>
  if v1 = (1 : Int32) then
  (kRc w 0 (some x0)).bind fun b2 =>
  (fX0_matchWork b2 w).bind fun v4 =>
  some v4
  else if v1 = (2 : Int32) then
  (kRc w 0 (some x0)).bind fun b5 =>
  (fX0_backWork b5 w).bind fun v7 =>
  some v7
  else if v1 = (3 : Int32) then
  (kRc w 0 (some x0)).bind fun b8 =>
  (fX0_backWork b8 w).bind fun v10 =>
  (kgP w 0 (some x0) 2).bind fun v11 =>
  (kRc w 1 v11).bind fun b12 =>
  (fX1_levelAt b12 (0 : Int32) w).bind fun v14 =>
  some (v10 + v14)
  else if v1 = (4 : Int32) then
  (kgP w 0 (some x0) 2).bind fun v15 =>
  (kgI w 1 v15 5).bind fun v16 =>
  (kgP w 0 (some x0) 2).bind fun v17 =>
  (kRc w 1 v17).bind fun b18 =>
  (fX1_unlikeAt b18 (0 : Int32) w).bind fun v20 =>
  some (v16 + v20)
  else if v1 = (5 : Int32) then
  (kgP w 0 (some x0) 2).bind fun v21 =>
  (kgI w 1 v21 5).bind fun v22 =>
  some (v22 - (1 : Int32))
  else if v1 = (6 : Int32) then
  (kRc w 0 (some x0)).bind fun b23 =>
  (fX0_matchWork b23 w).bind fun v25 =>
  some ((2 : Int32) * v25)
  else 
  (kgP w 0 (some x0) 2).bind fun v26 =>
  (kgI w 1 v26 5).bind fun v27 =>
  some v27

set_option maxHeartbeats 4000000 in
set_option maxRecDepth 100000 in
theorem rX0_work (l : Launch) (D : va_G) (aC : Nat → ClassId) {x0 : Nat} {w : kW} {oR : Int32} (h : fX0_work x0 w = some oR) : kC l D aC yX0_work cX0_work 1 (some .int) 3 53 [.ref x0] w (some (.int oR)) w 0 0 := by
  refine kOf (own := RX0) (by decide) rfl (Nat.le_of_ble_eq_true rfl) ?_
  intro p e s m below meth c ls F hml hr hlocks hnm hX hZ hl
  obtain ⟨hx, hb, hts, hown, hK⟩ := id F
  have hl : lv_has ls 1 [(0, .ref x0)] := hl
  have hf := h
  rw [fX0_work] at hf
  refine lv_aload_n hx hb (kd dtX0_work_0 0 rfl) rfl (lv_at hl 0 rfl) ?_
  obtain ⟨v1, hv1, hf⟩ := kbind hf
  refine kgetI hv1 F hX hinX0 rfl rfl rfl (by decide) (by decide) wfX0_9 (kd dtX0_work_0 1 rfl) ?_
  by_cases hc1 : v1 = (1 : Int32)
  · have hf := kif_pos hc1 hf
    have hq : (v1).toInt = 1 := by rw [hc1]; rfl
    refine lv_tableIn (off := 40) (tgt := 44) hx hb (kd dtX0_work_0 2 rfl) (by rw [hq]; decide) (by rw [hq]; decide) (by rw [hq]; rfl) (by decide) ?_
    refine lv_aload_n hx hb (kd dtX0_work_0 3 rfl) rfl (lv_at hl 0 rfl) ?_
    obtain ⟨b2, hb2, hf⟩ := kbind hf
    obtain ⟨hrb2, hkb2⟩ := kRc_s hb2
    obtain ⟨v4, h3, hf⟩ := kbind hf
    refine kcallV (n := 0) [] [] [.int v4] (rX0_matchWork l D aC h3) hrb2 hkb2 F hml hX hZ hl.1 mwX0_matchWork wmX0_22 rfl (by decide) (by decide +kernel) ⟨(by decide), (by decide)⟩ rfl rfl rfl (Nat.le_of_ble_eq_true rfl) (kd dtX0_work_0 4 rfl) ⟨Nat.zero_le _, Nat.zero_le _⟩ (fun H locs hX => ?_)
    obtain rfl := Option.some.inj hf
    exact kiret F hX hr hlocks rfl (kd dtX0_work_0 5 rfl)
  have hf := kif_neg hc1 hf
  by_cases hc2 : v1 = (2 : Int32)
  · have hf := kif_pos hc2 hf
    have hq : (v1).toInt = 2 := by rw [hc2]; rfl
    refine lv_tableIn (off := 45) (tgt := 49) hx hb (kd dtX0_work_0 2 rfl) (by rw [hq]; decide) (by rw [hq]; decide) (by rw [hq]; rfl) (by decide) ?_
    refine lv_aload_n hx hb (kd dtX0_work_0 6 rfl) rfl (lv_at hl 0 rfl) ?_
    obtain ⟨b5, hb5, hf⟩ := kbind hf
    obtain ⟨hrb5, hkb5⟩ := kRc_s hb5
    obtain ⟨v7, h6, hf⟩ := kbind hf
    refine kcallV (n := 0) [] [] [.int v7] (rX0_backWork l D aC h6) hrb5 hkb5 F hml hX hZ hl.1 mwX0_backWork wmX0_26 rfl (by decide) (by decide +kernel) ⟨(by decide), (by decide)⟩ rfl rfl rfl (Nat.le_of_ble_eq_true rfl) (kd dtX0_work_0 7 rfl) ⟨Nat.zero_le _, Nat.zero_le _⟩ (fun H locs hX => ?_)
    obtain rfl := Option.some.inj hf
    exact kiret F hX hr hlocks rfl (kd dtX0_work_0 8 rfl)
  have hf := kif_neg hc2 hf
  by_cases hc3 : v1 = (3 : Int32)
  · have hf := kif_pos hc3 hf
    have hq : (v1).toInt = 3 := by rw [hc3]; rfl
    refine lv_tableIn (off := 50) (tgt := 54) hx hb (kd dtX0_work_0 2 rfl) (by rw [hq]; decide) (by rw [hq]; decide) (by rw [hq]; rfl) (by decide) ?_
    refine lv_aload_n hx hb (kd dtX0_work_0 9 rfl) rfl (lv_at hl 0 rfl) ?_
    obtain ⟨b8, hb8, hf⟩ := kbind hf
    obtain ⟨hrb8, hkb8⟩ := kRc_s hb8
    obtain ⟨v10, h9, hf⟩ := kbind hf
    refine kcallV (n := 0) [] [] [.int v10] (rX0_backWork l D aC h9) hrb8 hkb8 F hml hX hZ hl.1 mwX0_backWork wmX0_26 rfl (by decide) (by decide +kernel) ⟨(by decide), (by decide)⟩ rfl rfl rfl (Nat.le_of_ble_eq_true rfl) (kd dtX0_work_0 10 rfl) ⟨Nat.zero_le _, Nat.zero_le _⟩ (fun H locs hX => ?_)
    refine lv_aload_n hx hb (kd dtX0_work_0 11 rfl) rfl (lv_at hl 0 rfl) ?_
    obtain ⟨v11, hv11, hf⟩ := kbind hf
    refine kgetP hv11 F hX hinX0 rfl rfl rfl (by decide) (by decide) wfX0_18 (kd dtX0_work_0 12 rfl) ?_
    refine lv_iconst (v := (0 : Int32)) hx hb (kd dtX0_work_0 13 rfl) (by decide) ?_
    obtain ⟨b12, hb12, hf⟩ := kbind hf
    obtain ⟨hrb12, hkb12⟩ := kRc_s hb12
    obtain ⟨v14, h13, hf⟩ := kbind hf
    refine kcallV (n := 1) [.int (0 : Int32)] [.int v10] [.int v14, .int v10] (rX1_levelAt l D aC h13) hrb12 hkb12 F hml hX hZ hl.1 mwX1_levelAt wmX0_29 rfl (by decide) (by decide +kernel) ⟨(by decide), (by decide)⟩ rfl rfl rfl (Nat.le_of_ble_eq_true rfl) (kd dtX0_work_0 14 rfl) ⟨Nat.zero_le _, Nat.zero_le _⟩ (fun H locs hX => ?_)
    refine lv_iadd hx hb (kd dtX0_work_0 15 rfl) ?_
    obtain rfl := Option.some.inj hf
    exact kiret F hX hr hlocks rfl (kd dtX0_work_0 16 rfl)
  have hf := kif_neg hc3 hf
  by_cases hc4 : v1 = (4 : Int32)
  · have hf := kif_pos hc4 hf
    have hq : (v1).toInt = 4 := by rw [hc4]; rfl
    refine lv_tableIn (off := 64) (tgt := 68) hx hb (kd dtX0_work_0 2 rfl) (by rw [hq]; decide) (by rw [hq]; decide) (by rw [hq]; rfl) (by decide) ?_
    refine lv_aload_n hx hb (kd dtX0_work_0 17 rfl) rfl (lv_at hl 0 rfl) ?_
    obtain ⟨v15, hv15, hf⟩ := kbind hf
    refine kgetP hv15 F hX hinX0 rfl rfl rfl (by decide) (by decide) wfX0_18 (kd dtX0_work_0 18 rfl) ?_
    obtain ⟨v16, hv16, hf⟩ := kbind hf
    refine kgetIN hv16 F hX hinX1 rfl rfl rfl (by decide) (by decide) hZ wfX0_35 (kd dtX0_work_0 19 rfl) ?_
    refine lv_aload_n hx hb (kd dtX0_work_0 20 rfl) rfl (lv_at hl 0 rfl) ?_
    obtain ⟨v17, hv17, hf⟩ := kbind hf
    refine kgetP hv17 F hX hinX0 rfl rfl rfl (by decide) (by decide) wfX0_18 (kd dtX0_work_0 21 rfl) ?_
    refine lv_iconst (v := (0 : Int32)) hx hb (kd dtX0_work_0 22 rfl) (by decide) ?_
    obtain ⟨b18, hb18, hf⟩ := kbind hf
    obtain ⟨hrb18, hkb18⟩ := kRc_s hb18
    obtain ⟨v20, h19, hf⟩ := kbind hf
    refine kcallV (n := 1) [.int (0 : Int32)] [.int v16] [.int v20, .int v16] (rX1_unlikeAt l D aC h19) hrb18 hkb18 F hml hX hZ hl.1 mwX1_unlikeAt wmX0_38 rfl (by decide) (by decide +kernel) ⟨(by decide), (by decide)⟩ rfl rfl rfl (Nat.le_of_ble_eq_true rfl) (kd dtX0_work_0 23 rfl) ⟨Nat.zero_le _, Nat.zero_le _⟩ (fun H locs hX => ?_)
    refine lv_iadd hx hb (kd dtX0_work_0 24 rfl) ?_
    obtain rfl := Option.some.inj hf
    exact kiret F hX hr hlocks rfl (kd dtX0_work_0 25 rfl)
  have hf := kif_neg hc4 hf
  by_cases hc5 : v1 = (5 : Int32)
  · have hf := kif_pos hc5 hf
    have hq : (v1).toInt = 5 := by rw [hc5]; rfl
    refine lv_tableIn (off := 81) (tgt := 85) hx hb (kd dtX0_work_0 2 rfl) (by rw [hq]; decide) (by rw [hq]; decide) (by rw [hq]; rfl) (by decide) ?_
    refine lv_aload_n hx hb (kd dtX0_work_0 26 rfl) rfl (lv_at hl 0 rfl) ?_
    obtain ⟨v21, hv21, hf⟩ := kbind hf
    refine kgetP hv21 F hX hinX0 rfl rfl rfl (by decide) (by decide) wfX0_18 (kd dtX0_work_0 27 rfl) ?_
    obtain ⟨v22, hv22, hf⟩ := kbind hf
    refine kgetIN hv22 F hX hinX1 rfl rfl rfl (by decide) (by decide) hZ wfX0_35 (kd dtX0_work_0 28 rfl) ?_
    refine lv_iconst (v := (1 : Int32)) hx hb (kd dtX0_work_0 29 rfl) (by decide) ?_
    refine lv_isub hx hb (kd dtX0_work_0 30 rfl) ?_
    obtain rfl := Option.some.inj hf
    exact kiret F hX hr hlocks rfl (kd dtX0_work_0 31 rfl)
  have hf := kif_neg hc5 hf
  by_cases hc6 : v1 = (6 : Int32)
  · have hf := kif_pos hc6 hf
    have hq : (v1).toInt = 6 := by rw [hc6]; rfl
    refine lv_tableIn (off := 91) (tgt := 95) hx hb (kd dtX0_work_0 2 rfl) (by rw [hq]; decide) (by rw [hq]; decide) (by rw [hq]; rfl) (by decide) ?_
    refine lv_iconst (v := (2 : Int32)) hx hb (kd dtX0_work_0 32 rfl) (by decide) ?_
    refine lv_aload_n hx hb (kd dtX0_work_0 33 rfl) rfl (lv_at hl 0 rfl) ?_
    obtain ⟨b23, hb23, hf⟩ := kbind hf
    obtain ⟨hrb23, hkb23⟩ := kRc_s hb23
    obtain ⟨v25, h24, hf⟩ := kbind hf
    refine kcallV (n := 0) [] [.int (2 : Int32)] [.int v25, .int (2 : Int32)] (rX0_matchWork l D aC h24) hrb23 hkb23 F hml hX hZ hl.1 mwX0_matchWork wmX0_22 rfl (by decide) (by decide +kernel) ⟨(by decide), (by decide)⟩ rfl rfl rfl (Nat.le_of_ble_eq_true rfl) (kd dtX0_work_0 34 rfl) ⟨Nat.zero_le _, Nat.zero_le _⟩ (fun H locs hX => ?_)
    refine lv_imul hx hb (kd dtX0_work_0 35 rfl) ?_
    obtain rfl := Option.some.inj hf
    exact kiret F hX hr hlocks rfl (kd dtX0_work_0 36 rfl)
  have hf := kif_neg hc6 hf
  have hq1 := lv_neT (k := (1 : Int32)) hc1 (a := 1) rfl
  have hq2 := lv_neT (k := (2 : Int32)) hc2 (a := 2) rfl
  have hq3 := lv_neT (k := (3 : Int32)) hc3 (a := 3) rfl
  have hq4 := lv_neT (k := (4 : Int32)) hc4 (a := 4) rfl
  have hq5 := lv_neT (k := (5 : Int32)) hc5 (a := 5) rfl
  have hq6 := lv_neT (k := (6 : Int32)) hc6 (a := 6) rfl
  refine lv_tableOut (tgt := 102) hx hb (kd dtX0_work_0 2 rfl) (by omega) (by decide) ?_
  refine lv_aload_n hx hb (kd dtX0_work_0 37 rfl) rfl (lv_at hl 0 rfl) ?_
  obtain ⟨v26, hv26, hf⟩ := kbind hf
  refine kgetP hv26 F hX hinX0 rfl rfl rfl (by decide) (by decide) wfX0_18 (kd dtX0_work_0 38 rfl) ?_
  obtain ⟨v27, hv27, hf⟩ := kbind hf
  refine kgetIN hv27 F hX hinX1 rfl rfl rfl (by decide) (by decide) hZ wfX0_35 (kd dtX0_work_0 39 rfl) ?_
  obtain rfl := Option.some.inj hf
  exact kiret F hX hr hlocks rfl (kd dtX0_work_0 40 rfl)
def lX0_failureNumber_0 : List (Nat × Instr × Nat) := [(0, .aload_n 0, 1), (1, .getfield 9, 3), (4, .lookupswitch 49 #[(3, 28), (6, 36)], 28), (32, .aload_n 0, 1), (33, .getfield 15, 3), (36, .bipush 100, 2), (38, .iadd, 1), (39, .ireturn, 1), (40, .sipush 200, 3), (43, .aload_n 0, 1), (44, .getfield 18, 3), (47, .iconst 0, 1), (48, .invokevirtual 29, 3), (51, .iadd, 1), (52, .ireturn, 1), (53, .aload_n 0, 1), (54, .getfield 15, 3), (57, .ireturn, 1)]
theorem dtX0_failureNumber_0 : kDec cX0_failureNumber lX0_failureNumber_0 = true := by decide +kernel
noncomputable def fX0_failureNumber (x0 : Nat) (w : kW) : Option Int32 :=
  (kgI w 0 (some x0) 0).bind fun v1 =>
  if v1 = (3 : Int32) then
  (kgI w 0 (some x0) 1).bind fun v2 =>
  some (v2 + (100 : Int32))
  else if v1 = (6 : Int32) then
  (kgP w 0 (some x0) 2).bind fun v3 =>
  (kRc w 1 v3).bind fun b4 =>
  (fX1_levelAt b4 (0 : Int32) w).bind fun v6 =>
  some ((200 : Int32) + v6)
  else 
  (kgI w 0 (some x0) 1).bind fun v7 =>
  some v7

set_option maxHeartbeats 4000000 in
set_option maxRecDepth 100000 in
theorem rX0_failureNumber (l : Launch) (D : va_G) (aC : Nat → ClassId) {x0 : Nat} {w : kW} {oR : Int32} (h : fX0_failureNumber x0 w = some oR) : kC l D aC yX0_failureNumber cX0_failureNumber 1 (some .int) 2 33 [.ref x0] w (some (.int oR)) w 0 0 := by
  refine kOf (own := RX0) (by decide) rfl (Nat.le_of_ble_eq_true rfl) ?_
  intro p e s m below meth c ls F hml hr hlocks hnm hX hZ hl
  obtain ⟨hx, hb, hts, hown, hK⟩ := id F
  have hl : lv_has ls 1 [(0, .ref x0)] := hl
  have hf := h
  rw [fX0_failureNumber] at hf
  refine lv_aload_n hx hb (kd dtX0_failureNumber_0 0 rfl) rfl (lv_at hl 0 rfl) ?_
  obtain ⟨v1, hv1, hf⟩ := kbind hf
  refine kgetI hv1 F hX hinX0 rfl rfl rfl (by decide) (by decide) wfX0_9 (kd dtX0_failureNumber_0 1 rfl) ?_
  by_cases hc3 : v1 = (3 : Int32)
  · have hf := kif_pos hc3 hf
    refine lv_lookup (off := 28) (tgt := 32) hx hb (kd dtX0_failureNumber_0 2 rfl) (by decide) (by rw [hc3]; rfl) (by decide) ?_
    refine lv_aload_n hx hb (kd dtX0_failureNumber_0 3 rfl) rfl (lv_at hl 0 rfl) ?_
    obtain ⟨v2, hv2, hf⟩ := kbind hf
    refine kgetI hv2 F hX hinX0 rfl rfl rfl (by decide) (by decide) wfX0_15 (kd dtX0_failureNumber_0 4 rfl) ?_
    refine lv_bipush (v := (100 : Int32)) hx hb (kd dtX0_failureNumber_0 5 rfl) (by decide) ?_
    refine lv_iadd hx hb (kd dtX0_failureNumber_0 6 rfl) ?_
    obtain rfl := Option.some.inj hf
    exact kiret F hX hr hlocks rfl (kd dtX0_failureNumber_0 7 rfl)
  have hf := kif_neg hc3 hf
  by_cases hc6 : v1 = (6 : Int32)
  · have hf := kif_pos hc6 hf
    refine lv_lookup (off := 36) (tgt := 40) hx hb (kd dtX0_failureNumber_0 2 rfl) (by decide) (by rw [hc6]; rfl) (by decide) ?_
    refine lv_sipush (v := (200 : Int32)) hx hb (kd dtX0_failureNumber_0 8 rfl) (by decide) ?_
    refine lv_aload_n hx hb (kd dtX0_failureNumber_0 9 rfl) rfl (lv_at hl 0 rfl) ?_
    obtain ⟨v3, hv3, hf⟩ := kbind hf
    refine kgetP hv3 F hX hinX0 rfl rfl rfl (by decide) (by decide) wfX0_18 (kd dtX0_failureNumber_0 10 rfl) ?_
    refine lv_iconst (v := (0 : Int32)) hx hb (kd dtX0_failureNumber_0 11 rfl) (by decide) ?_
    obtain ⟨b4, hb4, hf⟩ := kbind hf
    obtain ⟨hrb4, hkb4⟩ := kRc_s hb4
    obtain ⟨v6, h5, hf⟩ := kbind hf
    refine kcallV (n := 1) [.int (0 : Int32)] [.int (200 : Int32)] [.int v6, .int (200 : Int32)] (rX1_levelAt l D aC h5) hrb4 hkb4 F hml hX hZ hl.1 mwX1_levelAt wmX0_29 rfl (by decide) (by decide +kernel) ⟨(by decide), (by decide)⟩ rfl rfl rfl (Nat.le_of_ble_eq_true rfl) (kd dtX0_failureNumber_0 12 rfl) ⟨Nat.zero_le _, Nat.zero_le _⟩ (fun H locs hX => ?_)
    refine lv_iadd hx hb (kd dtX0_failureNumber_0 13 rfl) ?_
    obtain rfl := Option.some.inj hf
    exact kiret F hX hr hlocks rfl (kd dtX0_failureNumber_0 14 rfl)
  have hf := kif_neg hc6 hf
  refine lv_lookup (off := 49) (tgt := 53) hx hb (kd dtX0_failureNumber_0 2 rfl) (by decide) (by show Op.lookupswitch.offset [(3, 28), (6, 36)] _ _ = _; rw [lv_osw hc3 (a := 3) rfl, lv_osw hc6 (a := 6) rfl]; rfl) (by decide) ?_
  refine lv_aload_n hx hb (kd dtX0_failureNumber_0 15 rfl) rfl (lv_at hl 0 rfl) ?_
  obtain ⟨v7, hv7, hf⟩ := kbind hf
  refine kgetI hv7 F hX hinX0 rfl rfl rfl (by decide) (by decide) wfX0_15 (kd dtX0_failureNumber_0 16 rfl) ?_
  obtain rfl := Option.some.inj hf
  exact kiret F hX hr hlocks rfl (kd dtX0_failureNumber_0 17 rfl)
