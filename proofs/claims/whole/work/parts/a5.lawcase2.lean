/-! .. -/
section LWD
variable {p : Program} {l : Launch} {e : Env} {s : State} {m : MethodId} {below : List Frame} {meth : Method} {c : Code} {H : Heap} {locs : List Loc} {cells slots : Nat} {Q : State → Prop}
variable {ls : Array Slot} {D : va_G} {aC : Nat → ClassId} {b L x k : Nat} {xs : Nat → Int32} {ow : Nat → Nat × Nat} {w : kW} {S : AS} {r : rW}
set_option maxHeartbeats 4000000 in
set_option maxRecDepth 100000 in
theorem lc_show (C : LwC p s m b L xs c D aC) (j : J ow x w S r S) (hX : kX D aC (wZ s) s.heap w H locs) (hl : lv_has ls 8 (lwv b x k)) (hk : 6 * k + 6 ≤ L) (hc : cells ≤ 500000 ∧ slots ≤ 7000000) (kk : LwK p l e s m b below meth c D aC x k cells slots Q) : W p l e room_1 s m #[Value.ref b] below meth c H locs cells slots Q (F0 m 811 ls []) := by
  obtain ⟨F, hml, hZ, -⟩ := id C
  obtain ⟨hx, hb, -⟩ := id F
  obtain ⟨d1, h1, e1⟩ := i32_of (xs (6 * k + 1))
  obtain ⟨d2, h2, e2⟩ := i32_of (xs (6 * k + 2))
  refine lv_aload_n hx hb (kd dtLw_9 40 rfl) rfl (lv_at hl 3 rfl) ?_
  refine larg_ok C hX hl hk e1 (by omega) (kd dtLw_9 41 rfl) (kd dtLw_9 42 rfl) (kd dtLw_9 43 rfl) (kd dtLw_9 44 rfl) (kd dtLw_9 45 rfl) ?_
  refine larg_ok C hX hl hk e2 (by omega) (kd dtLw_9 46 rfl) (kd dtLw_9 47 rfl) (kd dtLw_9 48 rfl) (kd dtLw_9 49 rfl) (kd dtLw_10 0 rfl) ?_
  obtain ⟨w1, ow1, E1, K1, F1⟩ := kc_show  j.1 h1 h2
  have j1 := j.cls K1 F1
  refine kcallV (n := 2) (r := some x) [.int (iI d1), .int (iI d2)] [] [.int _] (rX11_show l D aC E1) rfl j.1.2.1.1.1 F hml hX hZ hl.1 mwX11_show wmL_85 rfl (by decide) (by decide +kernel) ⟨Nat.le_of_ble_eq_true rfl, Nat.le_of_ble_eq_true rfl⟩ rfl rfl rfl (Nat.le_of_ble_eq_true rfl) (kd dtLw_10 1 rfl) ⟨lroomC hc (Nat.le_of_ble_eq_true rfl), lroomS hc (Nat.le_of_ble_eq_true rfl)⟩ (fun H locs hX => ?_)
  have hX := j1.asM hX
  refine lv_aload_n hx hb (kd dtLw_10 2 rfl) rfl (lv_at hl 2 rfl) ?_
  refine larg_ok C hX hl hk e1 (by omega) (kd dtLw_10 3 rfl) (kd dtLw_10 4 rfl) (kd dtLw_10 5 rfl) (kd dtLw_10 6 rfl) (kd dtLw_10 7 rfl) ?_
  refine larg_ok C hX hl hk e2 (by omega) (kd dtLw_10 8 rfl) (kd dtLw_10 9 rfl) (kd dtLw_10 10 rfl) (kd dtLw_10 11 rfl) (kd dtLw_10 12 rfl) ?_
  obtain ⟨r2, E2, M2⟩ := m_show  j1.2.1.2.2 h1 h2
  have j2 := j1.mdl M2
  refine kcallV (n := 2) (r := some (x + 237)) [.int (iI d1), .int (iI d2)] [.int _] [.int _, .int _] (rX12_show l D aC j1.2.1.1 E2) rfl j1.2.1.1.1 F hml hX hZ hl.1 mwX12_show wmL_88 rfl (by decide) (by decide +kernel) ⟨Nat.le_of_ble_eq_true rfl, Nat.le_of_ble_eq_true rfl⟩ rfl rfl rfl (Nat.le_of_ble_eq_true rfl) (kd dtLw_10 13 rfl) ⟨lroomC2 hc (Nat.le_of_ble_eq_true rfl), lroomS2 hc (Nat.le_of_ble_eq_true rfl)⟩ (fun H locs hX => ?_)
  refine lv_icmp_eq (tgt := 1495) hx hb (kd dtLw_10 14 rfl) (by decide) (fun _ => ?_) (fun z => absurd rfl z)
  exact kk _ _ _ _ _ _ _ _ _ j2 hX hl (by omega) (by omega)
set_option maxHeartbeats 4000000 in
set_option maxRecDepth 100000 in
theorem lc_tree (C : LwC p s m b L xs c D aC) (j : J ow x w S r S) (hX : kX D aC (wZ s) s.heap w H locs) (hl : lv_has ls 8 (lwv b x k)) (hk : 6 * k + 6 ≤ L) (hc : cells ≤ 500000 ∧ slots ≤ 7000000) (kk : LwK p l e s m b below meth c D aC x k cells slots Q) : W p l e room_1 s m #[Value.ref b] below meth c H locs cells slots Q (F0 m 848 ls []) := by
  obtain ⟨F, hml, hZ, -⟩ := id C
  obtain ⟨hx, hb, -⟩ := id F
  obtain ⟨d1, h1, e1⟩ := i32_of (xs (6 * k + 1))
  obtain ⟨d2, h2, e2⟩ := i32_of (xs (6 * k + 2))
  refine lv_aload_n hx hb (kd dtLw_10 17 rfl) rfl (lv_at hl 3 rfl) ?_
  refine larg_ok C hX hl hk e1 (by omega) (kd dtLw_10 18 rfl) (kd dtLw_10 19 rfl) (kd dtLw_10 20 rfl) (kd dtLw_10 21 rfl) (kd dtLw_10 22 rfl) ?_
  refine larg_ok C hX hl hk e2 (by omega) (kd dtLw_10 23 rfl) (kd dtLw_10 24 rfl) (kd dtLw_10 25 rfl) (kd dtLw_10 26 rfl) (kd dtLw_10 27 rfl) ?_
  obtain ⟨w1, ow1, E1, K1, F1⟩ := kc_tree  j.1 h1 h2
  have j1 := j.cls K1 F1
  refine kcallV (n := 2) (r := some x) [.int (iI d1), .int (iI d2)] [] [.int _] (rX11_tree l D aC E1) rfl j.1.2.1.1.1 F hml hX hZ hl.1 mwX11_tree wmL_89 rfl (by decide) (by decide +kernel) ⟨Nat.le_of_ble_eq_true rfl, Nat.le_of_ble_eq_true rfl⟩ rfl rfl rfl (Nat.le_of_ble_eq_true rfl) (kd dtLw_10 28 rfl) ⟨lroomC hc (Nat.le_of_ble_eq_true rfl), lroomS hc (Nat.le_of_ble_eq_true rfl)⟩ (fun H locs hX => ?_)
  have hX := j1.asM hX
  refine lv_aload_n hx hb (kd dtLw_10 29 rfl) rfl (lv_at hl 2 rfl) ?_
  refine larg_ok C hX hl hk e1 (by omega) (kd dtLw_10 30 rfl) (kd dtLw_10 31 rfl) (kd dtLw_10 32 rfl) (kd dtLw_10 33 rfl) (kd dtLw_10 34 rfl) ?_
  refine larg_ok C hX hl hk e2 (by omega) (kd dtLw_10 35 rfl) (kd dtLw_10 36 rfl) (kd dtLw_10 37 rfl) (kd dtLw_10 38 rfl) (kd dtLw_10 39 rfl) ?_
  obtain ⟨r2, E2, M2⟩ := m_tree  j1.2.1.2.2 h1 h2
  have j2 := j1.mdl M2
  refine kcallV (n := 2) (r := some (x + 237)) [.int (iI d1), .int (iI d2)] [.int _] [.int _, .int _] (rX12_tree l D aC j1.2.1.1 E2) rfl j1.2.1.1.1 F hml hX hZ hl.1 mwX12_tree wmL_92 rfl (by decide) (by decide +kernel) ⟨Nat.le_of_ble_eq_true rfl, Nat.le_of_ble_eq_true rfl⟩ rfl rfl rfl (Nat.le_of_ble_eq_true rfl) (kd dtLw_10 40 rfl) ⟨lroomC2 hc (Nat.le_of_ble_eq_true rfl), lroomS2 hc (Nat.le_of_ble_eq_true rfl)⟩ (fun H locs hX => ?_)
  refine lv_icmp_eq (tgt := 1495) hx hb (kd dtLw_10 41 rfl) (by decide) (fun _ => ?_) (fun z => absurd rfl z)
  exact kk _ _ _ _ _ _ _ _ _ j2 hX hl (by omega) (by omega)
set_option maxHeartbeats 4000000 in
set_option maxRecDepth 100000 in
theorem lc_height (C : LwC p s m b L xs c D aC) (j : J ow x w S r S) (hX : kX D aC (wZ s) s.heap w H locs) (hl : lv_has ls 8 (lwv b x k)) (hk : 6 * k + 6 ≤ L) (hc : cells ≤ 500000 ∧ slots ≤ 7000000) (kk : LwK p l e s m b below meth c D aC x k cells slots Q) : W p l e room_1 s m #[Value.ref b] below meth c H locs cells slots Q (F0 m 885 ls []) := by
  obtain ⟨F, hml, hZ, -⟩ := id C
  obtain ⟨hx, hb, -⟩ := id F
  obtain ⟨d1, h1, e1⟩ := i32_of (xs (6 * k + 1))
  refine lv_aload_n hx hb (kd dtLw_10 44 rfl) rfl (lv_at hl 3 rfl) ?_
  refine larg_ok C hX hl hk e1 (by omega) (kd dtLw_10 45 rfl) (kd dtLw_10 46 rfl) (kd dtLw_10 47 rfl) (kd dtLw_10 48 rfl) (kd dtLw_10 49 rfl) ?_
  obtain ⟨w1, ow1, E1, K1, F1⟩ := kc_height  j.1 h1
  have j1 := j.cls K1 F1
  refine kcallV (n := 1) (r := some x) [.int (iI d1)] [] [.int _] (rX11_height l D aC E1) rfl j.1.2.1.1.1 F hml hX hZ hl.1 mwX11_height wmL_93 rfl (by decide) (by decide +kernel) ⟨Nat.le_of_ble_eq_true rfl, Nat.le_of_ble_eq_true rfl⟩ rfl rfl rfl (Nat.le_of_ble_eq_true rfl) (kd dtLw_11 0 rfl) ⟨lroomC hc (Nat.le_of_ble_eq_true rfl), lroomS hc (Nat.le_of_ble_eq_true rfl)⟩ (fun H locs hX => ?_)
  have hX := j1.asM hX
  refine lv_aload_n hx hb (kd dtLw_11 1 rfl) rfl (lv_at hl 2 rfl) ?_
  refine larg_ok C hX hl hk e1 (by omega) (kd dtLw_11 2 rfl) (kd dtLw_11 3 rfl) (kd dtLw_11 4 rfl) (kd dtLw_11 5 rfl) (kd dtLw_11 6 rfl) ?_
  obtain ⟨r2, E2, M2⟩ := m_height  j1.2.1.2.2 h1
  have j2 := j1.mdl M2
  refine kcallV (n := 1) (r := some (x + 237)) [.int (iI d1)] [.int _] [.int _, .int _] (rX12_height l D aC j1.2.1.1 E2) rfl j1.2.1.1.1 F hml hX hZ hl.1 mwX12_height wmL_96 rfl (by decide) (by decide +kernel) ⟨Nat.le_of_ble_eq_true rfl, Nat.le_of_ble_eq_true rfl⟩ rfl rfl rfl (Nat.le_of_ble_eq_true rfl) (kd dtLw_11 7 rfl) ⟨lroomC2 hc (Nat.le_of_ble_eq_true rfl), lroomS2 hc (Nat.le_of_ble_eq_true rfl)⟩ (fun H locs hX => ?_)
  refine lv_icmp_eq (tgt := 1495) hx hb (kd dtLw_11 8 rfl) (by decide) (fun _ => ?_) (fun z => absurd rfl z)
  exact kk _ _ _ _ _ _ _ _ _ j2 hX hl (by omega) (by omega)
set_option maxHeartbeats 4000000 in
set_option maxRecDepth 100000 in
theorem lc_never (C : LwC p s m b L xs c D aC) (j : J ow x w S r S) (hX : kX D aC (wZ s) s.heap w H locs) (hl : lv_has ls 8 (lwv b x k)) (hk : 6 * k + 6 ≤ L) (hc : cells ≤ 500000 ∧ slots ≤ 7000000) (kk : LwK p l e s m b below meth c D aC x k cells slots Q) : W p l e room_1 s m #[Value.ref b] below meth c H locs cells slots Q (F0 m 910 ls []) := by
  obtain ⟨F, hml, hZ, -⟩ := id C
  obtain ⟨hx, hb, -⟩ := id F
  refine lv_aload_n hx hb (kd dtLw_11 11 rfl) rfl (lv_at hl 3 rfl) ?_
  have E1 := kc_never  j.1 
  have j1 := j
  refine kcallV (n := 0) (r := some x) [] [] [.long _] (rX11_never l D aC E1) rfl j.1.2.1.1.1 F hml hX hZ hl.1 mwX11_never wmL_97 rfl (by decide) (by decide +kernel) ⟨Nat.le_of_ble_eq_true rfl, Nat.le_of_ble_eq_true rfl⟩ rfl rfl rfl (Nat.le_of_ble_eq_true rfl) (kd dtLw_11 12 rfl) ⟨lroomC hc (Nat.le_of_ble_eq_true rfl), lroomS hc (Nat.le_of_ble_eq_true rfl)⟩ (fun H locs hX => ?_)
  have hX := j1.asM hX
  refine lv_aload_n hx hb (kd dtLw_11 13 rfl) rfl (lv_at hl 2 rfl) ?_
  have E2 := m_never  j1.2.1.2.2 
  have j2 := j1.mdl j1.2.1.2.2
  refine kcallV (n := 0) (r := some (x + 237)) [] [.long _] [.long _, .long _] (rX12_never l D aC j1.2.1.1 E2) rfl j1.2.1.1.1 F hml hX hZ hl.1 mwX12_never wmL_101 rfl (by decide) (by decide +kernel) ⟨Nat.le_of_ble_eq_true rfl, Nat.le_of_ble_eq_true rfl⟩ rfl rfl rfl (Nat.le_of_ble_eq_true rfl) (kd dtLw_11 14 rfl) ⟨lroomC2 hc (Nat.le_of_ble_eq_true rfl), lroomS2 hc (Nat.le_of_ble_eq_true rfl)⟩ (fun H locs hX => ?_)
  refine W.lcmp hx hb (kd dtLw_11 15 rfl) ?_
  refine lv_if_eq (tgt := 1495) hx hb (kd dtLw_11 16 rfl) (by decide) (fun _ => ?_) (fun z => absurd (lgc_0 _) z)
  exact kk _ _ _ _ _ _ _ _ _ j2 hX hl (by omega) (by omega)
set_option maxHeartbeats 4000000 in
set_option maxRecDepth 100000 in
theorem lc_order (C : LwC p s m b L xs c D aC) (j : J ow x w S r S) (hX : kX D aC (wZ s) s.heap w H locs) (hl : lv_has ls 8 (lwv b x k)) (hk : 6 * k + 6 ≤ L) (hc : cells ≤ 500000 ∧ slots ≤ 7000000) (kk : LwK p l e s m b below meth c D aC x k cells slots Q) : W p l e room_1 s m #[Value.ref b] below meth c H locs cells slots Q (F0 m 924 ls []) := by
  obtain ⟨F, hml, hZ, -⟩ := id C
  obtain ⟨hx, hb, -⟩ := id F
  obtain ⟨d1, h1, e1⟩ := i32_of (xs (6 * k + 1))
  obtain ⟨d2, h2, e2⟩ := i32_of (xs (6 * k + 2))
  obtain ⟨d3, h3, e3⟩ := i32_of (xs (6 * k + 3))
  refine lv_aload_n hx hb (kd dtLw_11 19 rfl) rfl (lv_at hl 3 rfl) ?_
  refine larg_ok C hX hl hk e1 (by omega) (kd dtLw_11 20 rfl) (kd dtLw_11 21 rfl) (kd dtLw_11 22 rfl) (kd dtLw_11 23 rfl) (kd dtLw_11 24 rfl) ?_
  refine larg_ok C hX hl hk e2 (by omega) (kd dtLw_11 25 rfl) (kd dtLw_11 26 rfl) (kd dtLw_11 27 rfl) (kd dtLw_11 28 rfl) (kd dtLw_11 29 rfl) ?_
  refine larg_ok C hX hl hk e3 (by omega) (kd dtLw_11 30 rfl) (kd dtLw_11 31 rfl) (kd dtLw_11 32 rfl) (kd dtLw_11 33 rfl) (kd dtLw_11 34 rfl) ?_
  obtain ⟨w1, ow1, E1, K1, F1⟩ := kc_order  j.1 h1 h2 h3
  have j1 := j.cls K1 F1
  refine kcallV (n := 3) (r := some x) [.int (iI d1), .int (iI d2), .int (iI d3)] [] [.int _] (rX11_order l D aC E1) rfl j.1.2.1.1.1 F hml hX hZ hl.1 mwX11_order wmL_102 rfl (by decide) (by decide +kernel) ⟨Nat.le_of_ble_eq_true rfl, Nat.le_of_ble_eq_true rfl⟩ rfl rfl rfl (Nat.le_of_ble_eq_true rfl) (kd dtLw_11 35 rfl) ⟨lroomC hc (Nat.le_of_ble_eq_true rfl), lroomS hc (Nat.le_of_ble_eq_true rfl)⟩ (fun H locs hX => ?_)
  have hX := j1.asM hX
  refine lv_aload_n hx hb (kd dtLw_11 36 rfl) rfl (lv_at hl 2 rfl) ?_
  refine larg_ok C hX hl hk e1 (by omega) (kd dtLw_11 37 rfl) (kd dtLw_11 38 rfl) (kd dtLw_11 39 rfl) (kd dtLw_11 40 rfl) (kd dtLw_11 41 rfl) ?_
  refine larg_ok C hX hl hk e2 (by omega) (kd dtLw_11 42 rfl) (kd dtLw_11 43 rfl) (kd dtLw_11 44 rfl) (kd dtLw_11 45 rfl) (kd dtLw_11 46 rfl) ?_
  refine larg_ok C hX hl hk e3 (by omega) (kd dtLw_11 47 rfl) (kd dtLw_11 48 rfl) (kd dtLw_11 49 rfl) (kd dtLw_12 0 rfl) (kd dtLw_12 1 rfl) ?_
  obtain ⟨r2, E2, M2⟩ := m_order  j1.2.1.2.2 h1 h2 h3
  have j2 := j1.mdl M2
  refine kcallV (n := 3) (r := some (x + 237)) [.int (iI d1), .int (iI d2), .int (iI d3)] [.int _] [.int _, .int _] (rX12_order l D aC j1.2.1.1 E2) rfl j1.2.1.1.1 F hml hX hZ hl.1 mwX12_order wmL_105 rfl (by decide) (by decide +kernel) ⟨Nat.le_of_ble_eq_true rfl, Nat.le_of_ble_eq_true rfl⟩ rfl rfl rfl (Nat.le_of_ble_eq_true rfl) (kd dtLw_12 2 rfl) ⟨lroomC2 hc (Nat.le_of_ble_eq_true rfl), lroomS2 hc (Nat.le_of_ble_eq_true rfl)⟩ (fun H locs hX => ?_)
  refine lv_icmp_eq (tgt := 1495) hx hb (kd dtLw_12 3 rfl) (by decide) (fun _ => ?_) (fun z => absurd rfl z)
  exact kk _ _ _ _ _ _ _ _ _ j2 hX hl (by omega) (by omega)
set_option maxHeartbeats 4000000 in
set_option maxRecDepth 100000 in
theorem lc_bestOrder (C : LwC p s m b L xs c D aC) (j : J ow x w S r S) (hX : kX D aC (wZ s) s.heap w H locs) (hl : lv_has ls 8 (lwv b x k)) (hk : 6 * k + 6 ≤ L) (hc : cells ≤ 500000 ∧ slots ≤ 7000000) (kk : LwK p l e s m b below meth c D aC x k cells slots Q) : W p l e room_1 s m #[Value.ref b] below meth c H locs cells slots Q (F0 m 973 ls []) := by
  obtain ⟨F, hml, hZ, -⟩ := id C
  obtain ⟨hx, hb, -⟩ := id F
  obtain ⟨d1, h1, e1⟩ := i32_of (xs (6 * k + 1))
  obtain ⟨d2, h2, e2⟩ := i32_of (xs (6 * k + 2))
  obtain ⟨d3, h3, e3⟩ := i32_of (xs (6 * k + 3))
  refine lv_aload_n hx hb (kd dtLw_12 6 rfl) rfl (lv_at hl 3 rfl) ?_
  refine larg_ok C hX hl hk e1 (by omega) (kd dtLw_12 7 rfl) (kd dtLw_12 8 rfl) (kd dtLw_12 9 rfl) (kd dtLw_12 10 rfl) (kd dtLw_12 11 rfl) ?_
  refine larg_ok C hX hl hk e2 (by omega) (kd dtLw_12 12 rfl) (kd dtLw_12 13 rfl) (kd dtLw_12 14 rfl) (kd dtLw_12 15 rfl) (kd dtLw_12 16 rfl) ?_
  refine larg_ok C hX hl hk e3 (by omega) (kd dtLw_12 17 rfl) (kd dtLw_12 18 rfl) (kd dtLw_12 19 rfl) (kd dtLw_12 20 rfl) (kd dtLw_12 21 rfl) ?_
  obtain ⟨w1, ow1, E1, K1, F1⟩ := kc_best  j.1 h1 h2 h3
  have j1 := j.cls K1 F1
  refine kcallV (n := 3) (r := some x) [.int (iI d1), .int (iI d2), .int (iI d3)] [] [.int _] (rX11_bestOrder l D aC E1) rfl j.1.2.1.1.1 F hml hX hZ hl.1 mwX11_bestOrder wmL_106 rfl (by decide) (by decide +kernel) ⟨Nat.le_of_ble_eq_true rfl, Nat.le_of_ble_eq_true rfl⟩ rfl rfl rfl (Nat.le_of_ble_eq_true rfl) (kd dtLw_12 22 rfl) ⟨lroomC hc (Nat.le_of_ble_eq_true rfl), lroomS hc (Nat.le_of_ble_eq_true rfl)⟩ (fun H locs hX => ?_)
  have hX := j1.asM hX
  refine lv_aload_n hx hb (kd dtLw_12 23 rfl) rfl (lv_at hl 2 rfl) ?_
  refine larg_ok C hX hl hk e1 (by omega) (kd dtLw_12 24 rfl) (kd dtLw_12 25 rfl) (kd dtLw_12 26 rfl) (kd dtLw_12 27 rfl) (kd dtLw_12 28 rfl) ?_
  refine larg_ok C hX hl hk e2 (by omega) (kd dtLw_12 29 rfl) (kd dtLw_12 30 rfl) (kd dtLw_12 31 rfl) (kd dtLw_12 32 rfl) (kd dtLw_12 33 rfl) ?_
  refine larg_ok C hX hl hk e3 (by omega) (kd dtLw_12 34 rfl) (kd dtLw_12 35 rfl) (kd dtLw_12 36 rfl) (kd dtLw_12 37 rfl) (kd dtLw_12 38 rfl) ?_
  obtain ⟨r2, E2, M2⟩ := m_best  j1.2.1.2.2 h1 h2 h3
  have j2 := j1.mdl M2
  refine kcallV (n := 3) (r := some (x + 237)) [.int (iI d1), .int (iI d2), .int (iI d3)] [.int _] [.int _, .int _] (rX12_bestOrder l D aC j1.2.1.1 E2) rfl j1.2.1.1.1 F hml hX hZ hl.1 mwX12_bestOrder wmL_109 rfl (by decide) (by decide +kernel) ⟨Nat.le_of_ble_eq_true rfl, Nat.le_of_ble_eq_true rfl⟩ rfl rfl rfl (Nat.le_of_ble_eq_true rfl) (kd dtLw_12 39 rfl) ⟨lroomC2 hc (Nat.le_of_ble_eq_true rfl), lroomS2 hc (Nat.le_of_ble_eq_true rfl)⟩ (fun H locs hX => ?_)
  refine lv_icmp_eq (tgt := 1495) hx hb (kd dtLw_12 40 rfl) (by decide) (fun _ => ?_) (fun z => absurd rfl z)
  exact kk _ _ _ _ _ _ _ _ _ j2 hX hl (by omega) (by omega)
set_option maxHeartbeats 4000000 in
set_option maxRecDepth 100000 in
theorem lc_slips (C : LwC p s m b L xs c D aC) (j : J ow x w S r S) (hX : kX D aC (wZ s) s.heap w H locs) (hl : lv_has ls 8 (lwv b x k)) (hk : 6 * k + 6 ≤ L) (hc : cells ≤ 500000 ∧ slots ≤ 7000000) (kk : LwK p l e s m b below meth c D aC x k cells slots Q) : W p l e room_1 s m #[Value.ref b] below meth c H locs cells slots Q (F0 m 1022 ls []) := by
  obtain ⟨F, hml, hZ, -⟩ := id C
  obtain ⟨hx, hb, -⟩ := id F
  obtain ⟨d1, h1, e1⟩ := i32_of (xs (6 * k + 1))
  obtain ⟨d2, h2, e2⟩ := i32_of (xs (6 * k + 2))
  obtain ⟨d3, h3, e3⟩ := i32_of (xs (6 * k + 3))
  obtain ⟨d4, h4, e4⟩ := i32_of (xs (6 * k + 4))
  obtain ⟨d5, h5, e5⟩ := i32_of (xs (6 * k + 5))
  refine lv_aload_n hx hb (kd dtLw_12 43 rfl) rfl (lv_at hl 3 rfl) ?_
  refine larg_ok C hX hl hk e1 (by omega) (kd dtLw_12 44 rfl) (kd dtLw_12 45 rfl) (kd dtLw_12 46 rfl) (kd dtLw_12 47 rfl) (kd dtLw_12 48 rfl) ?_
  refine larg_ok C hX hl hk e2 (by omega) (kd dtLw_12 49 rfl) (kd dtLw_13 0 rfl) (kd dtLw_13 1 rfl) (kd dtLw_13 2 rfl) (kd dtLw_13 3 rfl) ?_
  refine larg_ok C hX hl hk e3 (by omega) (kd dtLw_13 4 rfl) (kd dtLw_13 5 rfl) (kd dtLw_13 6 rfl) (kd dtLw_13 7 rfl) (kd dtLw_13 8 rfl) ?_
  refine larg_ok C hX hl hk e4 (by omega) (kd dtLw_13 9 rfl) (kd dtLw_13 10 rfl) (kd dtLw_13 11 rfl) (kd dtLw_13 12 rfl) (kd dtLw_13 13 rfl) ?_
  refine larg_ok C hX hl hk e5 (by omega) (kd dtLw_13 14 rfl) (kd dtLw_13 15 rfl) (kd dtLw_13 16 rfl) (kd dtLw_13 17 rfl) (kd dtLw_13 18 rfl) ?_
  obtain ⟨w1, ow1, E1, K1, F1⟩ := kc_slips (z := d3) j.1 h1 h2 h4 h5
  have j1 := j.cls K1 F1
  refine kcallV (n := 5) (r := some x) [.int (iI d1), .int (iI d2), .int (iI d3), .int (iI d4), .int (iI d5)] [] [.int _] (rX11_slips l D aC E1) rfl j.1.2.1.1.1 F hml hX hZ hl.1 mwX11_slips wmL_110 rfl (by decide) (by decide +kernel) ⟨Nat.le_of_ble_eq_true rfl, Nat.le_of_ble_eq_true rfl⟩ rfl rfl rfl (Nat.le_of_ble_eq_true rfl) (kd dtLw_13 19 rfl) ⟨lroomC hc (Nat.le_of_ble_eq_true rfl), lroomS hc (Nat.le_of_ble_eq_true rfl)⟩ (fun H locs hX => ?_)
  have hX := j1.asM hX
  refine lv_aload_n hx hb (kd dtLw_13 20 rfl) rfl (lv_at hl 2 rfl) ?_
  refine larg_ok C hX hl hk e1 (by omega) (kd dtLw_13 21 rfl) (kd dtLw_13 22 rfl) (kd dtLw_13 23 rfl) (kd dtLw_13 24 rfl) (kd dtLw_13 25 rfl) ?_
  refine larg_ok C hX hl hk e2 (by omega) (kd dtLw_13 26 rfl) (kd dtLw_13 27 rfl) (kd dtLw_13 28 rfl) (kd dtLw_13 29 rfl) (kd dtLw_13 30 rfl) ?_
  refine larg_ok C hX hl hk e3 (by omega) (kd dtLw_13 31 rfl) (kd dtLw_13 32 rfl) (kd dtLw_13 33 rfl) (kd dtLw_13 34 rfl) (kd dtLw_13 35 rfl) ?_
  refine larg_ok C hX hl hk e4 (by omega) (kd dtLw_13 36 rfl) (kd dtLw_13 37 rfl) (kd dtLw_13 38 rfl) (kd dtLw_13 39 rfl) (kd dtLw_13 40 rfl) ?_
  refine larg_ok C hX hl hk e5 (by omega) (kd dtLw_13 41 rfl) (kd dtLw_13 42 rfl) (kd dtLw_13 43 rfl) (kd dtLw_13 44 rfl) (kd dtLw_13 45 rfl) ?_
  obtain ⟨r2, E2, M2⟩ := m_slips (z := d3) j1.2.1.2.2 h1 h2 h4 h5
  have j2 := j1.mdl M2
  refine kcallV (n := 5) (r := some (x + 237)) [.int (iI d1), .int (iI d2), .int (iI d3), .int (iI d4), .int (iI d5)] [.int _] [.int _, .int _] (rX12_slips l D aC j1.2.1.1 E2) rfl j1.2.1.1.1 F hml hX hZ hl.1 mwX12_slips wmL_114 rfl (by decide) (by decide +kernel) ⟨Nat.le_of_ble_eq_true rfl, Nat.le_of_ble_eq_true rfl⟩ rfl rfl rfl (Nat.le_of_ble_eq_true rfl) (kd dtLw_13 46 rfl) ⟨lroomC2 hc (Nat.le_of_ble_eq_true rfl), lroomS2 hc (Nat.le_of_ble_eq_true rfl)⟩ (fun H locs hX => ?_)
  refine lv_icmp_eq (tgt := 1495) hx hb (kd dtLw_13 47 rfl) (by decide) (fun _ => ?_) (fun z => absurd rfl z)
  exact kk _ _ _ _ _ _ _ _ _ j2 hX hl (by omega) (by omega)
set_option maxHeartbeats 4000000 in
set_option maxRecDepth 100000 in
theorem lc_image (C : LwC p s m b L xs c D aC) (j : J ow x w S r S) (hX : kX D aC (wZ s) s.heap w H locs) (hl : lv_has ls 8 (lwv b x k)) (hk : 6 * k + 6 ≤ L) (hc : cells ≤ 500000 ∧ slots ≤ 7000000) (kk : LwK p l e s m b below meth c D aC x k cells slots Q) : W p l e room_1 s m #[Value.ref b] below meth c H locs cells slots Q (F0 m 1095 ls []) := by
  obtain ⟨F, hml, hZ, -⟩ := id C
  obtain ⟨hx, hb, -⟩ := id F
  refine lv_aload_n hx hb (kd dtLw_14 0 rfl) rfl (lv_at hl 3 rfl) ?_
  obtain ⟨w1, ow1, E1, K1, F1⟩ := kc_image  j.1 
  have j1 := j.cls K1 F1
  refine kcallV (n := 0) (r := some x) [] [] [.int _] (rX11_image l D aC E1) rfl j.1.2.1.1.1 F hml hX hZ hl.1 mwX11_image wmL_115 rfl (by decide) (by decide +kernel) ⟨Nat.le_of_ble_eq_true rfl, Nat.le_of_ble_eq_true rfl⟩ rfl rfl rfl (Nat.le_of_ble_eq_true rfl) (kd dtLw_14 1 rfl) ⟨lroomC hc (Nat.le_of_ble_eq_true rfl), lroomS hc (Nat.le_of_ble_eq_true rfl)⟩ (fun H locs hX => ?_)
  have hX := j1.asM hX
  refine lv_aload_n hx hb (kd dtLw_14 2 rfl) rfl (lv_at hl 2 rfl) ?_
  obtain ⟨r2, E2, M2⟩ := m_image  j1.2.1.2.2 
  have j2 := j1.mdl M2
  refine kcallV (n := 0) (r := some (x + 237)) [] [.int _] [.int _, .int _] (rX12_image l D aC j1.2.1.1 E2) rfl j1.2.1.1.1 F hml hX hZ hl.1 mwX12_image wmL_119 rfl (by decide) (by decide +kernel) ⟨Nat.le_of_ble_eq_true rfl, Nat.le_of_ble_eq_true rfl⟩ rfl rfl rfl (Nat.le_of_ble_eq_true rfl) (kd dtLw_14 3 rfl) ⟨lroomC2 hc (Nat.le_of_ble_eq_true rfl), lroomS2 hc (Nat.le_of_ble_eq_true rfl)⟩ (fun H locs hX => ?_)
  refine lv_icmp_eq (tgt := 1495) hx hb (kd dtLw_14 4 rfl) (by decide) (fun _ => ?_) (fun z => absurd rfl z)
  exact kk _ _ _ _ _ _ _ _ _ j2 hX hl (by omega) (by omega)
set_option maxHeartbeats 4000000 in
set_option maxRecDepth 100000 in
theorem lc_restore (C : LwC p s m b L xs c D aC) (j : J ow x w S r S) (hX : kX D aC (wZ s) s.heap w H locs) (hl : lv_has ls 8 (lwv b x k)) (hk : 6 * k + 6 ≤ L) (hc : cells ≤ 500000 ∧ slots ≤ 7000000) (kk : LwK p l e s m b below meth c D aC x k cells slots Q) : W p l e room_1 s m #[Value.ref b] below meth c H locs cells slots Q (F0 m 1108 ls []) := by
  obtain ⟨F, hml, hZ, -⟩ := id C
  obtain ⟨hx, hb, -⟩ := id F
  refine lv_aload_n hx hb (kd dtLw_14 7 rfl) rfl (lv_at hl 3 rfl) ?_
  obtain ⟨w1, ow1, E1, K1, F1⟩ := kc_restore  j.1 
  have j1 := j.cls K1 F1
  refine kcallV (n := 0) (r := some x) [] [] [.int _] (rX11_restore l D aC E1) rfl j.1.2.1.1.1 F hml hX hZ hl.1 mwX11_restore wmL_120 rfl (by decide) (by decide +kernel) ⟨Nat.le_of_ble_eq_true rfl, Nat.le_of_ble_eq_true rfl⟩ rfl rfl rfl (Nat.le_of_ble_eq_true rfl) (kd dtLw_14 8 rfl) ⟨lroomC hc (Nat.le_of_ble_eq_true rfl), lroomS hc (Nat.le_of_ble_eq_true rfl)⟩ (fun H locs hX => ?_)
  have hX := j1.asM hX
  refine lv_aload_n hx hb (kd dtLw_14 9 rfl) rfl (lv_at hl 2 rfl) ?_
  obtain ⟨r2, E2, M2⟩ := m_restore  j1.2.1.2.2 
  have j2 := j1.mdl M2
  refine kcallV (n := 0) (r := some (x + 237)) [] [.int _] [.int _, .int _] (rX12_restore l D aC j1.2.1.1 E2) rfl j1.2.1.1.1 F hml hX hZ hl.1 mwX12_restore wmL_123 rfl (by decide) (by decide +kernel) ⟨Nat.le_of_ble_eq_true rfl, Nat.le_of_ble_eq_true rfl⟩ rfl rfl rfl (Nat.le_of_ble_eq_true rfl) (kd dtLw_14 10 rfl) ⟨lroomC2 hc (Nat.le_of_ble_eq_true rfl), lroomS2 hc (Nat.le_of_ble_eq_true rfl)⟩ (fun H locs hX => ?_)
  refine lv_icmp_eq (tgt := 1495) hx hb (kd dtLw_14 11 rfl) (by decide) (fun _ => ?_) (fun z => absurd rfl z)
  exact kk _ _ _ _ _ _ _ _ _ j2 hX hl (by omega) (by omega)
set_option maxHeartbeats 4000000 in
set_option maxRecDepth 100000 in
theorem lc_count (C : LwC p s m b L xs c D aC) (j : J ow x w S r S) (hX : kX D aC (wZ s) s.heap w H locs) (hl : lv_has ls 8 (lwv b x k)) (hk : 6 * k + 6 ≤ L) (hc : cells ≤ 500000 ∧ slots ≤ 7000000) (kk : LwK p l e s m b below meth c D aC x k cells slots Q) : W p l e room_1 s m #[Value.ref b] below meth c H locs cells slots Q (F0 m 1121 ls []) := by
  obtain ⟨F, hml, hZ, -⟩ := id C
  obtain ⟨hx, hb, -⟩ := id F
  obtain ⟨d1, h1, e1⟩ := i32_of (xs (6 * k + 1))
  refine lv_aload_n hx hb (kd dtLw_14 14 rfl) rfl (lv_at hl 3 rfl) ?_
  refine larg_ok C hX hl hk e1 (by omega) (kd dtLw_14 15 rfl) (kd dtLw_14 16 rfl) (kd dtLw_14 17 rfl) (kd dtLw_14 18 rfl) (kd dtLw_14 19 rfl) ?_
  have E1 := kc_count  j.1 h1
  have j1 := j
  refine kcallV (n := 1) (r := some x) [.int (iI d1)] [] [.int _] (rX11_count l D aC E1) rfl j.1.2.1.1.1 F hml hX hZ hl.1 mwX11_count wmL_124 rfl (by decide) (by decide +kernel) ⟨Nat.le_of_ble_eq_true rfl, Nat.le_of_ble_eq_true rfl⟩ rfl rfl rfl (Nat.le_of_ble_eq_true rfl) (kd dtLw_14 20 rfl) ⟨lroomC hc (Nat.le_of_ble_eq_true rfl), lroomS hc (Nat.le_of_ble_eq_true rfl)⟩ (fun H locs hX => ?_)
  have hX := j1.asM hX
  refine lv_aload_n hx hb (kd dtLw_14 21 rfl) rfl (lv_at hl 2 rfl) ?_
  refine larg_ok C hX hl hk e1 (by omega) (kd dtLw_14 22 rfl) (kd dtLw_14 23 rfl) (kd dtLw_14 24 rfl) (kd dtLw_14 25 rfl) (kd dtLw_14 26 rfl) ?_
  have E2 := m_count  j1.2.1.2.2 h1
  have j2 := j1.mdl j1.2.1.2.2
  refine kcallV (n := 1) (r := some (x + 237)) [.int (iI d1)] [.int _] [.int _, .int _] (rX12_count l D aC j1.2.1.1 E2) rfl j1.2.1.1.1 F hml hX hZ hl.1 mwX12_count wmL_127 rfl (by decide) (by decide +kernel) ⟨Nat.le_of_ble_eq_true rfl, Nat.le_of_ble_eq_true rfl⟩ rfl rfl rfl (Nat.le_of_ble_eq_true rfl) (kd dtLw_14 27 rfl) ⟨lroomC2 hc (Nat.le_of_ble_eq_true rfl), lroomS2 hc (Nat.le_of_ble_eq_true rfl)⟩ (fun H locs hX => ?_)
  refine lv_icmp_eq (tgt := 1495) hx hb (kd dtLw_14 28 rfl) (by decide) (fun _ => ?_) (fun z => absurd rfl z)
  exact kk _ _ _ _ _ _ _ _ _ j2 hX hl (by omega) (by omega)
set_option maxHeartbeats 4000000 in
set_option maxRecDepth 100000 in
theorem lc_keep (C : LwC p s m b L xs c D aC) (j : J ow x w S r S) (hX : kX D aC (wZ s) s.heap w H locs) (hl : lv_has ls 8 (lwv b x k)) (hk : 6 * k + 6 ≤ L) (hc : cells ≤ 500000 ∧ slots ≤ 7000000) (kk : LwK p l e s m b below meth c D aC x k cells slots Q) : W p l e room_1 s m #[Value.ref b] below meth c H locs cells slots Q (F0 m 1146 ls []) := by
  obtain ⟨F, hml, hZ, -⟩ := id C
  obtain ⟨hx, hb, -⟩ := id F
  obtain ⟨d1, h1, e1⟩ := i32_of (xs (6 * k + 1))
  obtain ⟨d2, h2, e2⟩ := i32_of (xs (6 * k + 2))
  obtain ⟨d3, h3, e3⟩ := i32_of (xs (6 * k + 3))
  obtain ⟨d4, h4, e4⟩ := i32_of (xs (6 * k + 4))
  refine lv_aload_n hx hb (kd dtLw_14 31 rfl) rfl (lv_at hl 3 rfl) ?_
  refine larg_ok C hX hl hk e1 (by omega) (kd dtLw_14 32 rfl) (kd dtLw_14 33 rfl) (kd dtLw_14 34 rfl) (kd dtLw_14 35 rfl) (kd dtLw_14 36 rfl) ?_
  refine larg_ok C hX hl hk e2 (by omega) (kd dtLw_14 37 rfl) (kd dtLw_14 38 rfl) (kd dtLw_14 39 rfl) (kd dtLw_14 40 rfl) (kd dtLw_14 41 rfl) ?_
  refine larg_ok C hX hl hk e3 (by omega) (kd dtLw_14 42 rfl) (kd dtLw_14 43 rfl) (kd dtLw_14 44 rfl) (kd dtLw_14 45 rfl) (kd dtLw_14 46 rfl) ?_
  refine larg_ok C hX hl hk e4 (by omega) (kd dtLw_14 47 rfl) (kd dtLw_14 48 rfl) (kd dtLw_14 49 rfl) (kd dtLw_15 0 rfl) (kd dtLw_15 1 rfl) ?_
  obtain ⟨w1, ow1, E1, K1, F1⟩ := kc_keep  j.1 h1 h2 h3 h4
  have j1 := j.cls K1 F1
  refine kcallV (n := 4) (r := some x) [.int (iI d1), .int (iI d2), .int (iI d3), .int (iI d4)] [] [.int _] (rX11_keep l D aC E1) rfl j.1.2.1.1.1 F hml hX hZ hl.1 mwX11_keep wmL_128 rfl (by decide) (by decide +kernel) ⟨Nat.le_of_ble_eq_true rfl, Nat.le_of_ble_eq_true rfl⟩ rfl rfl rfl (Nat.le_of_ble_eq_true rfl) (kd dtLw_15 2 rfl) ⟨lroomC hc (Nat.le_of_ble_eq_true rfl), lroomS hc (Nat.le_of_ble_eq_true rfl)⟩ (fun H locs hX => ?_)
  have hX := j1.asM hX
  refine lv_aload_n hx hb (kd dtLw_15 3 rfl) rfl (lv_at hl 2 rfl) ?_
  refine larg_ok C hX hl hk e1 (by omega) (kd dtLw_15 4 rfl) (kd dtLw_15 5 rfl) (kd dtLw_15 6 rfl) (kd dtLw_15 7 rfl) (kd dtLw_15 8 rfl) ?_
  refine larg_ok C hX hl hk e2 (by omega) (kd dtLw_15 9 rfl) (kd dtLw_15 10 rfl) (kd dtLw_15 11 rfl) (kd dtLw_15 12 rfl) (kd dtLw_15 13 rfl) ?_
  refine larg_ok C hX hl hk e3 (by omega) (kd dtLw_15 14 rfl) (kd dtLw_15 15 rfl) (kd dtLw_15 16 rfl) (kd dtLw_15 17 rfl) (kd dtLw_15 18 rfl) ?_
  refine larg_ok C hX hl hk e4 (by omega) (kd dtLw_15 19 rfl) (kd dtLw_15 20 rfl) (kd dtLw_15 21 rfl) (kd dtLw_15 22 rfl) (kd dtLw_15 23 rfl) ?_
  obtain ⟨r2, E2, M2⟩ := m_keep  j1.2.1.2.2 h1 h2 h3 h4
  have j2 := j1.mdl M2
  refine kcallV (n := 4) (r := some (x + 237)) [.int (iI d1), .int (iI d2), .int (iI d3), .int (iI d4)] [.int _] [.int _, .int _] (rX12_keep l D aC j1.2.1.1 E2) rfl j1.2.1.1.1 F hml hX hZ hl.1 mwX12_keep wmL_131 rfl (by decide) (by decide +kernel) ⟨Nat.le_of_ble_eq_true rfl, Nat.le_of_ble_eq_true rfl⟩ rfl rfl rfl (Nat.le_of_ble_eq_true rfl) (kd dtLw_15 24 rfl) ⟨lroomC2 hc (Nat.le_of_ble_eq_true rfl), lroomS2 hc (Nat.le_of_ble_eq_true rfl)⟩ (fun H locs hX => ?_)
  refine lv_icmp_eq (tgt := 1495) hx hb (kd dtLw_15 25 rfl) (by decide) (fun _ => ?_) (fun z => absurd rfl z)
  exact kk _ _ _ _ _ _ _ _ _ j2 hX hl (by omega) (by omega)
set_option maxHeartbeats 4000000 in
set_option maxRecDepth 100000 in
theorem lc_row (C : LwC p s m b L xs c D aC) (j : J ow x w S r S) (hX : kX D aC (wZ s) s.heap w H locs) (hl : lv_has ls 8 (lwv b x k)) (hk : 6 * k + 6 ≤ L) (hc : cells ≤ 500000 ∧ slots ≤ 7000000) (kk : LwK p l e s m b below meth c D aC x k cells slots Q) : W p l e room_1 s m #[Value.ref b] below meth c H locs cells slots Q (F0 m 1207 ls []) := by
  obtain ⟨F, hml, hZ, -⟩ := id C
  obtain ⟨hx, hb, -⟩ := id F
  obtain ⟨d1, h1, e1⟩ := i32_of (xs (6 * k + 1))
  obtain ⟨d2, h2, e2⟩ := i32_of (xs (6 * k + 2))
  obtain ⟨d3, h3, e3⟩ := i32_of (xs (6 * k + 3))
  refine lv_aload_n hx hb (kd dtLw_15 28 rfl) rfl (lv_at hl 3 rfl) ?_
  refine larg_ok C hX hl hk e1 (by omega) (kd dtLw_15 29 rfl) (kd dtLw_15 30 rfl) (kd dtLw_15 31 rfl) (kd dtLw_15 32 rfl) (kd dtLw_15 33 rfl) ?_
  refine larg_ok C hX hl hk e2 (by omega) (kd dtLw_15 34 rfl) (kd dtLw_15 35 rfl) (kd dtLw_15 36 rfl) (kd dtLw_15 37 rfl) (kd dtLw_15 38 rfl) ?_
  refine larg_ok C hX hl hk e3 (by omega) (kd dtLw_15 39 rfl) (kd dtLw_15 40 rfl) (kd dtLw_15 41 rfl) (kd dtLw_15 42 rfl) (kd dtLw_15 43 rfl) ?_
  obtain ⟨w1, ow1, E1, K1, F1⟩ := kc_row  j.1 h1 h2 h3
  have j1 := j.cls K1 F1
  refine kcallV (n := 3) (r := some x) [.int (iI d1), .int (iI d2), .int (iI d3)] [] [.int _] (rX11_row l D aC E1) rfl j.1.2.1.1.1 F hml hX hZ hl.1 mwX11_row wmL_132 rfl (by decide) (by decide +kernel) ⟨Nat.le_of_ble_eq_true rfl, Nat.le_of_ble_eq_true rfl⟩ rfl rfl rfl (Nat.le_of_ble_eq_true rfl) (kd dtLw_15 44 rfl) ⟨lroomC hc (Nat.le_of_ble_eq_true rfl), lroomS hc (Nat.le_of_ble_eq_true rfl)⟩ (fun H locs hX => ?_)
  have hX := j1.asM hX
  refine lv_aload_n hx hb (kd dtLw_15 45 rfl) rfl (lv_at hl 2 rfl) ?_
  refine larg_ok C hX hl hk e1 (by omega) (kd dtLw_15 46 rfl) (kd dtLw_15 47 rfl) (kd dtLw_15 48 rfl) (kd dtLw_15 49 rfl) (kd dtLw_16 0 rfl) ?_
  refine larg_ok C hX hl hk e2 (by omega) (kd dtLw_16 1 rfl) (kd dtLw_16 2 rfl) (kd dtLw_16 3 rfl) (kd dtLw_16 4 rfl) (kd dtLw_16 5 rfl) ?_
  refine larg_ok C hX hl hk e3 (by omega) (kd dtLw_16 6 rfl) (kd dtLw_16 7 rfl) (kd dtLw_16 8 rfl) (kd dtLw_16 9 rfl) (kd dtLw_16 10 rfl) ?_
  obtain ⟨r2, E2, M2⟩ := m_row  j1.2.1.2.2 h1 h2 h3
  have j2 := j1.mdl M2
  refine kcallV (n := 3) (r := some (x + 237)) [.int (iI d1), .int (iI d2), .int (iI d3)] [.int _] [.int _, .int _] (rX12_row l D aC j1.2.1.1 E2) rfl j1.2.1.1.1 F hml hX hZ hl.1 mwX12_row wmL_135 rfl (by decide) (by decide +kernel) ⟨Nat.le_of_ble_eq_true rfl, Nat.le_of_ble_eq_true rfl⟩ rfl rfl rfl (Nat.le_of_ble_eq_true rfl) (kd dtLw_16 11 rfl) ⟨lroomC2 hc (Nat.le_of_ble_eq_true rfl), lroomS2 hc (Nat.le_of_ble_eq_true rfl)⟩ (fun H locs hX => ?_)
  refine lv_icmp_eq (tgt := 1495) hx hb (kd dtLw_16 12 rfl) (by decide) (fun _ => ?_) (fun z => absurd rfl z)
  exact kk _ _ _ _ _ _ _ _ _ j2 hX hl (by omega) (by omega)
set_option maxHeartbeats 4000000 in
set_option maxRecDepth 100000 in
theorem lc_put (C : LwC p s m b L xs c D aC) (j : J ow x w S r S) (hX : kX D aC (wZ s) s.heap w H locs) (hl : lv_has ls 8 (lwv b x k)) (hk : 6 * k + 6 ≤ L) (hc : cells ≤ 500000 ∧ slots ≤ 7000000) (kk : LwK p l e s m b below meth c D aC x k cells slots Q) : W p l e room_1 s m #[Value.ref b] below meth c H locs cells slots Q (F0 m 1256 ls []) := by
  obtain ⟨F, hml, hZ, -⟩ := id C
  obtain ⟨hx, hb, -⟩ := id F
  obtain ⟨d1, h1, e1⟩ := i32_of (xs (6 * k + 1))
  obtain ⟨d2, h2, e2⟩ := i32_of (xs (6 * k + 2))
  obtain ⟨d3, h3, e3⟩ := i32_of (xs (6 * k + 3))
  refine lv_aload_n hx hb (kd dtLw_16 15 rfl) rfl (lv_at hl 3 rfl) ?_
  refine larg_ok C hX hl hk e1 (by omega) (kd dtLw_16 16 rfl) (kd dtLw_16 17 rfl) (kd dtLw_16 18 rfl) (kd dtLw_16 19 rfl) (kd dtLw_16 20 rfl) ?_
  refine larg_ok C hX hl hk e2 (by omega) (kd dtLw_16 21 rfl) (kd dtLw_16 22 rfl) (kd dtLw_16 23 rfl) (kd dtLw_16 24 rfl) (kd dtLw_16 25 rfl) ?_
  refine larg_ok C hX hl hk e3 (by omega) (kd dtLw_16 26 rfl) (kd dtLw_16 27 rfl) (kd dtLw_16 28 rfl) (kd dtLw_16 29 rfl) (kd dtLw_16 30 rfl) ?_
  obtain ⟨w1, ow1, E1, K1, F1⟩ := kc_put  j.1 h1 h2 h3
  have j1 := j.cls K1 F1
  refine kcallV (n := 3) (r := some x) [.int (iI d1), .int (iI d2), .int (iI d3)] [] [.int _] (rX11_put l D aC E1) rfl j.1.2.1.1.1 F hml hX hZ hl.1 mwX11_put wmL_136 rfl (by decide) (by decide +kernel) ⟨Nat.le_of_ble_eq_true rfl, Nat.le_of_ble_eq_true rfl⟩ rfl rfl rfl (Nat.le_of_ble_eq_true rfl) (kd dtLw_16 31 rfl) ⟨lroomC hc (Nat.le_of_ble_eq_true rfl), lroomS hc (Nat.le_of_ble_eq_true rfl)⟩ (fun H locs hX => ?_)
  have hX := j1.asM hX
  refine lv_aload_n hx hb (kd dtLw_16 32 rfl) rfl (lv_at hl 2 rfl) ?_
  refine larg_ok C hX hl hk e1 (by omega) (kd dtLw_16 33 rfl) (kd dtLw_16 34 rfl) (kd dtLw_16 35 rfl) (kd dtLw_16 36 rfl) (kd dtLw_16 37 rfl) ?_
  refine larg_ok C hX hl hk e2 (by omega) (kd dtLw_16 38 rfl) (kd dtLw_16 39 rfl) (kd dtLw_16 40 rfl) (kd dtLw_16 41 rfl) (kd dtLw_16 42 rfl) ?_
  refine larg_ok C hX hl hk e3 (by omega) (kd dtLw_16 43 rfl) (kd dtLw_16 44 rfl) (kd dtLw_16 45 rfl) (kd dtLw_16 46 rfl) (kd dtLw_16 47 rfl) ?_
  obtain ⟨r2, E2, M2⟩ := m_put  j1.2.1.2.2 h1 h2 h3
  have j2 := j1.mdl M2
  refine kcallV (n := 3) (r := some (x + 237)) [.int (iI d1), .int (iI d2), .int (iI d3)] [.int _] [.int _, .int _] (rX12_put l D aC j1.2.1.1 E2) rfl j1.2.1.1.1 F hml hX hZ hl.1 mwX12_put wmL_139 rfl (by decide) (by decide +kernel) ⟨Nat.le_of_ble_eq_true rfl, Nat.le_of_ble_eq_true rfl⟩ rfl rfl rfl (Nat.le_of_ble_eq_true rfl) (kd dtLw_16 48 rfl) ⟨lroomC2 hc (Nat.le_of_ble_eq_true rfl), lroomS2 hc (Nat.le_of_ble_eq_true rfl)⟩ (fun H locs hX => ?_)
  refine lv_icmp_eq (tgt := 1495) hx hb (kd dtLw_16 49 rfl) (by decide) (fun _ => ?_) (fun z => absurd rfl z)
  exact kk _ _ _ _ _ _ _ _ _ j2 hX hl (by omega) (by omega)
set_option maxHeartbeats 4000000 in
set_option maxRecDepth 100000 in
theorem lc_copy (C : LwC p s m b L xs c D aC) (j : J ow x w S r S) (hX : kX D aC (wZ s) s.heap w H locs) (hl : lv_has ls 8 (lwv b x k)) (hk : 6 * k + 6 ≤ L) (hc : cells ≤ 500000 ∧ slots ≤ 7000000) (kk : LwK p l e s m b below meth c D aC x k cells slots Q) : W p l e room_1 s m #[Value.ref b] below meth c H locs cells slots Q (F0 m 1372 ls []) := by
  obtain ⟨F, hml, hZ, -⟩ := id C
  obtain ⟨hx, hb, -⟩ := id F
  obtain ⟨d1, h1, e1⟩ := i32_of (xs (6 * k + 1))
  obtain ⟨d2, h2, e2⟩ := i32_of (xs (6 * k + 2))
  obtain ⟨d3, h3, e3⟩ := i32_of (xs (6 * k + 3))
  obtain ⟨d4, h4, e4⟩ := i32_of (xs (6 * k + 4))
  obtain ⟨d5, h5, e5⟩ := i32_of (xs (6 * k + 5))
  refine lv_aload_n hx hb (kd dtLw_17 46 rfl) rfl (lv_at hl 3 rfl) ?_
  refine larg_ok C hX hl hk e1 (by omega) (kd dtLw_17 47 rfl) (kd dtLw_17 48 rfl) (kd dtLw_17 49 rfl) (kd dtLw_18 0 rfl) (kd dtLw_18 1 rfl) ?_
  refine larg_ok C hX hl hk e2 (by omega) (kd dtLw_18 2 rfl) (kd dtLw_18 3 rfl) (kd dtLw_18 4 rfl) (kd dtLw_18 5 rfl) (kd dtLw_18 6 rfl) ?_
  refine larg_ok C hX hl hk e3 (by omega) (kd dtLw_18 7 rfl) (kd dtLw_18 8 rfl) (kd dtLw_18 9 rfl) (kd dtLw_18 10 rfl) (kd dtLw_18 11 rfl) ?_
  refine larg_ok C hX hl hk e4 (by omega) (kd dtLw_18 12 rfl) (kd dtLw_18 13 rfl) (kd dtLw_18 14 rfl) (kd dtLw_18 15 rfl) (kd dtLw_18 16 rfl) ?_
  refine larg_ok C hX hl hk e5 (by omega) (kd dtLw_18 17 rfl) (kd dtLw_18 18 rfl) (kd dtLw_18 19 rfl) (kd dtLw_18 20 rfl) (kd dtLw_18 21 rfl) ?_
  obtain ⟨w1, ow1, E1, K1, F1⟩ := kc_copy  j.1 h1 h2 h3 h4 h5
  have j1 := j.cls K1 F1
  refine kcallV (n := 5) (r := some x) [.int (iI d1), .int (iI d2), .int (iI d3), .int (iI d4), .int (iI d5)] [] [.int _] (rX11_copy l D aC E1) rfl j.1.2.1.1.1 F hml hX hZ hl.1 mwX11_copy wmL_149 rfl (by decide) (by decide +kernel) ⟨Nat.le_of_ble_eq_true rfl, Nat.le_of_ble_eq_true rfl⟩ rfl rfl rfl (Nat.le_of_ble_eq_true rfl) (kd dtLw_18 22 rfl) ⟨lroomC hc (Nat.le_of_ble_eq_true rfl), lroomS hc (Nat.le_of_ble_eq_true rfl)⟩ (fun H locs hX => ?_)
  have hX := j1.asM hX
  refine lv_aload_n hx hb (kd dtLw_18 23 rfl) rfl (lv_at hl 2 rfl) ?_
  refine larg_ok C hX hl hk e1 (by omega) (kd dtLw_18 24 rfl) (kd dtLw_18 25 rfl) (kd dtLw_18 26 rfl) (kd dtLw_18 27 rfl) (kd dtLw_18 28 rfl) ?_
  refine larg_ok C hX hl hk e2 (by omega) (kd dtLw_18 29 rfl) (kd dtLw_18 30 rfl) (kd dtLw_18 31 rfl) (kd dtLw_18 32 rfl) (kd dtLw_18 33 rfl) ?_
  refine larg_ok C hX hl hk e3 (by omega) (kd dtLw_18 34 rfl) (kd dtLw_18 35 rfl) (kd dtLw_18 36 rfl) (kd dtLw_18 37 rfl) (kd dtLw_18 38 rfl) ?_
  refine larg_ok C hX hl hk e4 (by omega) (kd dtLw_18 39 rfl) (kd dtLw_18 40 rfl) (kd dtLw_18 41 rfl) (kd dtLw_18 42 rfl) (kd dtLw_18 43 rfl) ?_
  refine larg_ok C hX hl hk e5 (by omega) (kd dtLw_18 44 rfl) (kd dtLw_18 45 rfl) (kd dtLw_18 46 rfl) (kd dtLw_18 47 rfl) (kd dtLw_18 48 rfl) ?_
  obtain ⟨r2, E2, M2⟩ := m_copy  j1.2.1.2.2 h1 h2 h3 h4 h5
  have j2 := j1.mdl M2
  refine kcallV (n := 5) (r := some (x + 237)) [.int (iI d1), .int (iI d2), .int (iI d3), .int (iI d4), .int (iI d5)] [.int _] [.int _, .int _] (rX12_copy l D aC j1.2.1.1 E2) rfl j1.2.1.1.1 F hml hX hZ hl.1 mwX12_copy wmL_152 rfl (by decide) (by decide +kernel) ⟨Nat.le_of_ble_eq_true rfl, Nat.le_of_ble_eq_true rfl⟩ rfl rfl rfl (Nat.le_of_ble_eq_true rfl) (kd dtLw_18 49 rfl) ⟨lroomC2 hc (Nat.le_of_ble_eq_true rfl), lroomS2 hc (Nat.le_of_ble_eq_true rfl)⟩ (fun H locs hX => ?_)
  refine lv_icmp_eq (tgt := 1495) hx hb (kd dtLw_19 0 rfl) (by decide) (fun _ => ?_) (fun z => absurd rfl z)
  exact kk _ _ _ _ _ _ _ _ _ j2 hX hl (by omega) (by omega)
set_option maxHeartbeats 4000000 in
set_option maxRecDepth 100000 in
theorem lc_effort (C : LwC p s m b L xs c D aC) (j : J ow x w S r S) (hX : kX D aC (wZ s) s.heap w H locs) (hl : lv_has ls 8 (lwv b x k)) (hk : 6 * k + 6 ≤ L) (hc : cells ≤ 500000 ∧ slots ≤ 7000000) (kk : LwK p l e s m b below meth c D aC x k cells slots Q) : W p l e room_1 s m #[Value.ref b] below meth c H locs cells slots Q (F0 m 1445 ls []) := by
  obtain ⟨F, hml, hZ, -⟩ := id C
  obtain ⟨hx, hb, -⟩ := id F
  obtain ⟨d1, h1, e1⟩ := i32_of (xs (6 * k + 1))
  refine lv_aload_n hx hb (kd dtLw_19 3 rfl) rfl (lv_at hl 3 rfl) ?_
  refine larg_ok C hX hl hk e1 (by omega) (kd dtLw_19 4 rfl) (kd dtLw_19 5 rfl) (kd dtLw_19 6 rfl) (kd dtLw_19 7 rfl) (kd dtLw_19 8 rfl) ?_
  have E1 := kc_effort  j.1 h1
  have j1 := j
  refine kcallV (n := 1) (r := some x) [.int (iI d1)] [] [.int _] (rX11_effort l D aC E1) rfl j.1.2.1.1.1 F hml hX hZ hl.1 mwX11_effort wmL_153 rfl (by decide) (by decide +kernel) ⟨Nat.le_of_ble_eq_true rfl, Nat.le_of_ble_eq_true rfl⟩ rfl rfl rfl (Nat.le_of_ble_eq_true rfl) (kd dtLw_19 9 rfl) ⟨lroomC hc (Nat.le_of_ble_eq_true rfl), lroomS hc (Nat.le_of_ble_eq_true rfl)⟩ (fun H locs hX => ?_)
  have hX := j1.asM hX
  refine lv_aload_n hx hb (kd dtLw_19 10 rfl) rfl (lv_at hl 2 rfl) ?_
  refine larg_ok C hX hl hk e1 (by omega) (kd dtLw_19 11 rfl) (kd dtLw_19 12 rfl) (kd dtLw_19 13 rfl) (kd dtLw_19 14 rfl) (kd dtLw_19 15 rfl) ?_
  have E2 := m_effort  j1.2.1.2.2 h1
  have E2 := E2.1
  have j2 := j1.mdl j1.2.1.2.2
  refine kcallV (n := 1) (r := some (x + 237)) [.int (iI d1)] [.int _] [.int _, .int _] (rX12_effort l D aC j1.2.1.1 E2) rfl j1.2.1.1.1 F hml hX hZ hl.1 mwX12_effort wmL_156 rfl (by decide) (by decide +kernel) ⟨Nat.le_of_ble_eq_true rfl, Nat.le_of_ble_eq_true rfl⟩ rfl rfl rfl (Nat.le_of_ble_eq_true rfl) (kd dtLw_19 16 rfl) ⟨lroomC2 hc (Nat.le_of_ble_eq_true rfl), lroomS2 hc (Nat.le_of_ble_eq_true rfl)⟩ (fun H locs hX => ?_)
  refine lv_icmp_eq (tgt := 1495) hx hb (kd dtLw_19 17 rfl) (by decide) (fun _ => ?_) (fun z => absurd rfl z)
  exact kk _ _ _ _ _ _ _ _ _ j2 hX hl (by omega) (by omega)
end LWD
