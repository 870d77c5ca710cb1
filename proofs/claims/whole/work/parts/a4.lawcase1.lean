/-! THE LAW: its cases -/
section LWC
variable {p : Program} {l : Launch} {e : Env} {s : State} {m : MethodId} {below : List Frame} {meth : Method} {c : Code} {H : Heap} {locs : List Loc} {cells slots : Nat} {Q : State → Prop}
variable {ls : Array Slot} {D : va_G} {aC : Nat → ClassId} {b L x k : Nat} {xs : Nat → Int32} {ow : Nat → Nat × Nat} {w : kW} {S : AS} {r : rW}
set_option maxHeartbeats 4000000 in
set_option maxRecDepth 100000 in
theorem lc_fault (C : LwC p s m b L xs c D aC) (j : J ow x w S r S) (hX : kX D aC (wZ s) s.heap w H locs) (hl : lv_has ls 8 (lwv b x k)) (hk : 6 * k + 6 ≤ L) (hc : cells ≤ 500000 ∧ slots ≤ 7000000) (kk : LwK p l e s m b below meth c D aC x k cells slots Q) : W p l e room_1 s m #[Value.ref b] below meth c H locs cells slots Q (F0 m 184 ls []) := by
  obtain ⟨F, hml, hZ, -⟩ := id C
  obtain ⟨hx, hb, -⟩ := id F
  obtain ⟨d1, h1, e1⟩ := i32_of (xs (6 * k + 1))
  refine lv_aload_n hx hb (kd dtLw_0 25 rfl) rfl (lv_at hl 3 rfl) ?_
  refine larg_ok C hX hl hk e1 (by omega) (kd dtLw_0 26 rfl) (kd dtLw_0 27 rfl) (kd dtLw_0 28 rfl) (kd dtLw_0 29 rfl) (kd dtLw_0 30 rfl) ?_
  obtain ⟨w1, ow1, E1, K1, F1⟩ := kc_fault  j.1 h1
  have j1 := j.cls K1 F1
  refine kcallV (n := 1) (r := some x) [.int (iI d1)] [] [.int _] (rX11_fault l D aC E1) rfl j.1.2.1.1.1 F hml hX hZ hl.1 mwX11_fault wmL_21 rfl (by decide) (by decide +kernel) ⟨Nat.le_of_ble_eq_true rfl, Nat.le_of_ble_eq_true rfl⟩ rfl rfl rfl (Nat.le_of_ble_eq_true rfl) (kd dtLw_0 31 rfl) ⟨lroomC hc (Nat.le_of_ble_eq_true rfl), lroomS hc (Nat.le_of_ble_eq_true rfl)⟩ (fun H locs hX => ?_)
  have hX := j1.asM hX
  refine lv_aload_n hx hb (kd dtLw_0 32 rfl) rfl (lv_at hl 2 rfl) ?_
  refine larg_ok C hX hl hk e1 (by omega) (kd dtLw_0 33 rfl) (kd dtLw_0 34 rfl) (kd dtLw_0 35 rfl) (kd dtLw_0 36 rfl) (kd dtLw_0 37 rfl) ?_
  obtain ⟨r2, E2, M2⟩ := m_fault  j1.2.1.2.2 h1
  have j2 := j1.mdl M2
  refine kcallV (n := 1) (r := some (x + 237)) [.int (iI d1)] [.int _] [.int _, .int _] (rX12_fault l D aC j1.2.1.1 E2) rfl j1.2.1.1.1 F hml hX hZ hl.1 mwX12_fault wmL_25 rfl (by decide) (by decide +kernel) ⟨Nat.le_of_ble_eq_true rfl, Nat.le_of_ble_eq_true rfl⟩ rfl rfl rfl (Nat.le_of_ble_eq_true rfl) (kd dtLw_0 38 rfl) ⟨lroomC2 hc (Nat.le_of_ble_eq_true rfl), lroomS2 hc (Nat.le_of_ble_eq_true rfl)⟩ (fun H locs hX => ?_)
  refine lv_icmp_eq (tgt := 1495) hx hb (kd dtLw_0 39 rfl) (by decide) (fun _ => ?_) (fun z => absurd rfl z)
  exact kk _ _ _ _ _ _ _ _ _ j2 hX hl (by omega) (by omega)
set_option maxHeartbeats 4000000 in
set_option maxRecDepth 100000 in
theorem lc_line (C : LwC p s m b L xs c D aC) (j : J ow x w S r S) (hX : kX D aC (wZ s) s.heap w H locs) (hl : lv_has ls 8 (lwv b x k)) (hk : 6 * k + 6 ≤ L) (hc : cells ≤ 500000 ∧ slots ≤ 7000000) (kk : LwK p l e s m b below meth c D aC x k cells slots Q) : W p l e room_1 s m #[Value.ref b] below meth c H locs cells slots Q (F0 m 209 ls []) := by
  obtain ⟨F, hml, hZ, -⟩ := id C
  obtain ⟨hx, hb, -⟩ := id F
  obtain ⟨d1, h1, e1⟩ := i32_of (xs (6 * k + 1))
  refine lv_aload_n hx hb (kd dtLw_0 42 rfl) rfl (lv_at hl 3 rfl) ?_
  refine larg_ok C hX hl hk e1 (by omega) (kd dtLw_0 43 rfl) (kd dtLw_0 44 rfl) (kd dtLw_0 45 rfl) (kd dtLw_0 46 rfl) (kd dtLw_0 47 rfl) ?_
  obtain ⟨w1, ow1, E1, K1, F1⟩ := kc_line  j.1 h1
  have j1 := j.cls K1 F1
  refine kcallV (n := 1) (r := some x) [.int (iI d1)] [] [.int _] (rX11_line l D aC E1) rfl j.1.2.1.1.1 F hml hX hZ hl.1 mwX11_line wmL_26 rfl (by decide) (by decide +kernel) ⟨Nat.le_of_ble_eq_true rfl, Nat.le_of_ble_eq_true rfl⟩ rfl rfl rfl (Nat.le_of_ble_eq_true rfl) (kd dtLw_0 48 rfl) ⟨lroomC hc (Nat.le_of_ble_eq_true rfl), lroomS hc (Nat.le_of_ble_eq_true rfl)⟩ (fun H locs hX => ?_)
  have hX := j1.asM hX
  refine lv_aload_n hx hb (kd dtLw_0 49 rfl) rfl (lv_at hl 2 rfl) ?_
  refine larg_ok C hX hl hk e1 (by omega) (kd dtLw_1 0 rfl) (kd dtLw_1 1 rfl) (kd dtLw_1 2 rfl) (kd dtLw_1 3 rfl) (kd dtLw_1 4 rfl) ?_
  obtain ⟨r2, E2, M2⟩ := m_line  j1.2.1.2.2 h1
  have j2 := j1.mdl M2
  refine kcallV (n := 1) (r := some (x + 237)) [.int (iI d1)] [.int _] [.int _, .int _] (rX12_line l D aC j1.2.1.1 E2) rfl j1.2.1.1.1 F hml hX hZ hl.1 mwX12_line wmL_29 rfl (by decide) (by decide +kernel) ⟨Nat.le_of_ble_eq_true rfl, Nat.le_of_ble_eq_true rfl⟩ rfl rfl rfl (Nat.le_of_ble_eq_true rfl) (kd dtLw_1 5 rfl) ⟨lroomC2 hc (Nat.le_of_ble_eq_true rfl), lroomS2 hc (Nat.le_of_ble_eq_true rfl)⟩ (fun H locs hX => ?_)
  refine lv_icmp_eq (tgt := 1495) hx hb (kd dtLw_1 6 rfl) (by decide) (fun _ => ?_) (fun z => absurd rfl z)
  exact kk _ _ _ _ _ _ _ _ _ j2 hX hl (by omega) (by omega)
set_option maxHeartbeats 4000000 in
set_option maxRecDepth 100000 in
theorem lc_of (C : LwC p s m b L xs c D aC) (j : J ow x w S r S) (hX : kX D aC (wZ s) s.heap w H locs) (hl : lv_has ls 8 (lwv b x k)) (hk : 6 * k + 6 ≤ L) (hc : cells ≤ 500000 ∧ slots ≤ 7000000) (kk : LwK p l e s m b below meth c D aC x k cells slots Q) : W p l e room_1 s m #[Value.ref b] below meth c H locs cells slots Q (F0 m 234 ls []) := by
  obtain ⟨F, hml, hZ, -⟩ := id C
  obtain ⟨hx, hb, -⟩ := id F
  obtain ⟨d1, h1, e1⟩ := i32_of (xs (6 * k + 1))
  obtain ⟨d2, h2, e2⟩ := i32_of (xs (6 * k + 2))
  refine lv_aload_n hx hb (kd dtLw_1 9 rfl) rfl (lv_at hl 3 rfl) ?_
  refine larg_ok C hX hl hk e1 (by omega) (kd dtLw_1 10 rfl) (kd dtLw_1 11 rfl) (kd dtLw_1 12 rfl) (kd dtLw_1 13 rfl) (kd dtLw_1 14 rfl) ?_
  refine larg_ok C hX hl hk e2 (by omega) (kd dtLw_1 15 rfl) (kd dtLw_1 16 rfl) (kd dtLw_1 17 rfl) (kd dtLw_1 18 rfl) (kd dtLw_1 19 rfl) ?_
  have E1 := kc_of  j.1 h1 h2
  have j1 := j
  refine kcallV (n := 2) (r := some x) [.int (iI d1), .int (iI d2)] [] [.int _] (rX11_of l D aC E1) rfl j.1.2.1.1.1 F hml hX hZ hl.1 mwX11_of wmL_30 rfl (by decide) (by decide +kernel) ⟨Nat.le_of_ble_eq_true rfl, Nat.le_of_ble_eq_true rfl⟩ rfl rfl rfl (Nat.le_of_ble_eq_true rfl) (kd dtLw_1 20 rfl) ⟨lroomC hc (Nat.le_of_ble_eq_true rfl), lroomS hc (Nat.le_of_ble_eq_true rfl)⟩ (fun H locs hX => ?_)
  have hX := j1.asM hX
  refine lv_aload_n hx hb (kd dtLw_1 21 rfl) rfl (lv_at hl 2 rfl) ?_
  refine larg_ok C hX hl hk e1 (by omega) (kd dtLw_1 22 rfl) (kd dtLw_1 23 rfl) (kd dtLw_1 24 rfl) (kd dtLw_1 25 rfl) (kd dtLw_1 26 rfl) ?_
  refine larg_ok C hX hl hk e2 (by omega) (kd dtLw_1 27 rfl) (kd dtLw_1 28 rfl) (kd dtLw_1 29 rfl) (kd dtLw_1 30 rfl) (kd dtLw_1 31 rfl) ?_
  have E2 := m_of  j1.2.1.2.2 h1 h2
  have j2 := j1.mdl j1.2.1.2.2
  refine kcallV (n := 2) (r := some (x + 237)) [.int (iI d1), .int (iI d2)] [.int _] [.int _, .int _] (rX12_of l D aC j1.2.1.1 E2) rfl j1.2.1.1.1 F hml hX hZ hl.1 mwX12_of wmL_34 rfl (by decide) (by decide +kernel) ⟨Nat.le_of_ble_eq_true rfl, Nat.le_of_ble_eq_true rfl⟩ rfl rfl rfl (Nat.le_of_ble_eq_true rfl) (kd dtLw_1 32 rfl) ⟨lroomC2 hc (Nat.le_of_ble_eq_true rfl), lroomS2 hc (Nat.le_of_ble_eq_true rfl)⟩ (fun H locs hX => ?_)
  refine lv_icmp_eq (tgt := 1495) hx hb (kd dtLw_1 33 rfl) (by decide) (fun _ => ?_) (fun z => absurd rfl z)
  exact kk _ _ _ _ _ _ _ _ _ j2 hX hl (by omega) (by omega)
set_option maxHeartbeats 4000000 in
set_option maxRecDepth 100000 in
theorem lc_letter (C : LwC p s m b L xs c D aC) (j : J ow x w S r S) (hX : kX D aC (wZ s) s.heap w H locs) (hl : lv_has ls 8 (lwv b x k)) (hk : 6 * k + 6 ≤ L) (hc : cells ≤ 500000 ∧ slots ≤ 7000000) (kk : LwK p l e s m b below meth c D aC x k cells slots Q) : W p l e room_1 s m #[Value.ref b] below meth c H locs cells slots Q (F0 m 271 ls []) := by
  obtain ⟨F, hml, hZ, -⟩ := id C
  obtain ⟨hx, hb, -⟩ := id F
  obtain ⟨d1, h1, e1⟩ := i32_of (xs (6 * k + 1))
  obtain ⟨d2, h2, e2⟩ := i32_of (xs (6 * k + 2))
  refine lv_aload_n hx hb (kd dtLw_1 36 rfl) rfl (lv_at hl 3 rfl) ?_
  refine larg_ok C hX hl hk e1 (by omega) (kd dtLw_1 37 rfl) (kd dtLw_1 38 rfl) (kd dtLw_1 39 rfl) (kd dtLw_1 40 rfl) (kd dtLw_1 41 rfl) ?_
  refine larg_ok C hX hl hk e2 (by omega) (kd dtLw_1 42 rfl) (kd dtLw_1 43 rfl) (kd dtLw_1 44 rfl) (kd dtLw_1 45 rfl) (kd dtLw_1 46 rfl) ?_
  obtain ⟨w1, ow1, E1, K1, F1⟩ := kc_letter  j.1 h1 h2
  have j1 := j.cls K1 F1
  refine kcallV (n := 2) (r := some x) [.int (iI d1), .int (iI d2)] [] [.int _] (rX11_letter l D aC E1) rfl j.1.2.1.1.1 F hml hX hZ hl.1 mwX11_letter wmL_35 rfl (by decide) (by decide +kernel) ⟨Nat.le_of_ble_eq_true rfl, Nat.le_of_ble_eq_true rfl⟩ rfl rfl rfl (Nat.le_of_ble_eq_true rfl) (kd dtLw_1 47 rfl) ⟨lroomC hc (Nat.le_of_ble_eq_true rfl), lroomS hc (Nat.le_of_ble_eq_true rfl)⟩ (fun H locs hX => ?_)
  have hX := j1.asM hX
  refine lv_aload_n hx hb (kd dtLw_1 48 rfl) rfl (lv_at hl 2 rfl) ?_
  refine larg_ok C hX hl hk e1 (by omega) (kd dtLw_1 49 rfl) (kd dtLw_2 0 rfl) (kd dtLw_2 1 rfl) (kd dtLw_2 2 rfl) (kd dtLw_2 3 rfl) ?_
  refine larg_ok C hX hl hk e2 (by omega) (kd dtLw_2 4 rfl) (kd dtLw_2 5 rfl) (kd dtLw_2 6 rfl) (kd dtLw_2 7 rfl) (kd dtLw_2 8 rfl) ?_
  have E2 := m_letter  j1.2.1.2.2 h1 h2
  have j2 := j1.mdl j1.2.1.2.2
  refine kcallV (n := 2) (r := some (x + 237)) [.int (iI d1), .int (iI d2)] [.int _] [.int _, .int _] (rX12_letter l D aC j1.2.1.1 E2) rfl j1.2.1.1.1 F hml hX hZ hl.1 mwX12_letter wmL_38 rfl (by decide) (by decide +kernel) ⟨Nat.le_of_ble_eq_true rfl, Nat.le_of_ble_eq_true rfl⟩ rfl rfl rfl (Nat.le_of_ble_eq_true rfl) (kd dtLw_2 9 rfl) ⟨lroomC2 hc (Nat.le_of_ble_eq_true rfl), lroomS2 hc (Nat.le_of_ble_eq_true rfl)⟩ (fun H locs hX => ?_)
  refine lv_icmp_eq (tgt := 1495) hx hb (kd dtLw_2 10 rfl) (by decide) (fun _ => ?_) (fun z => absurd rfl z)
  exact kk _ _ _ _ _ _ _ _ _ j2 hX hl (by omega) (by omega)
set_option maxHeartbeats 4000000 in
set_option maxRecDepth 100000 in
theorem lc_give (C : LwC p s m b L xs c D aC) (j : J ow x w S r S) (hX : kX D aC (wZ s) s.heap w H locs) (hl : lv_has ls 8 (lwv b x k)) (hk : 6 * k + 6 ≤ L) (hc : cells ≤ 500000 ∧ slots ≤ 7000000) (kk : LwK p l e s m b below meth c D aC x k cells slots Q) : W p l e room_1 s m #[Value.ref b] below meth c H locs cells slots Q (F0 m 308 ls []) := by
  obtain ⟨F, hml, hZ, -⟩ := id C
  obtain ⟨hx, hb, -⟩ := id F
  obtain ⟨d1, h1, e1⟩ := i32_of (xs (6 * k + 1))
  refine lv_aload_n hx hb (kd dtLw_2 13 rfl) rfl (lv_at hl 3 rfl) ?_
  refine larg_ok C hX hl hk e1 (by omega) (kd dtLw_2 14 rfl) (kd dtLw_2 15 rfl) (kd dtLw_2 16 rfl) (kd dtLw_2 17 rfl) (kd dtLw_2 18 rfl) ?_
  obtain ⟨w1, ow1, E1, K1, F1⟩ := kc_give  j.1 h1
  have j1 := j.cls K1 F1
  refine kcallV (n := 1) (r := some x) [.int (iI d1)] [] [.int _] (rX11_give l D aC E1) rfl j.1.2.1.1.1 F hml hX hZ hl.1 mwX11_give wmL_39 rfl (by decide) (by decide +kernel) ⟨Nat.le_of_ble_eq_true rfl, Nat.le_of_ble_eq_true rfl⟩ rfl rfl rfl (Nat.le_of_ble_eq_true rfl) (kd dtLw_2 19 rfl) ⟨lroomC hc (Nat.le_of_ble_eq_true rfl), lroomS hc (Nat.le_of_ble_eq_true rfl)⟩ (fun H locs hX => ?_)
  have hX := j1.asM hX
  refine lv_aload_n hx hb (kd dtLw_2 20 rfl) rfl (lv_at hl 2 rfl) ?_
  refine larg_ok C hX hl hk e1 (by omega) (kd dtLw_2 21 rfl) (kd dtLw_2 22 rfl) (kd dtLw_2 23 rfl) (kd dtLw_2 24 rfl) (kd dtLw_2 25 rfl) ?_
  obtain ⟨r2, E2, M2⟩ := m_give  j1.2.1.2.2 h1
  have j2 := j1.mdl M2
  refine kcallV (n := 1) (r := some (x + 237)) [.int (iI d1)] [.int _] [.int _, .int _] (rX12_give l D aC j1.2.1.1 E2) rfl j1.2.1.1.1 F hml hX hZ hl.1 mwX12_give wmL_42 rfl (by decide) (by decide +kernel) ⟨Nat.le_of_ble_eq_true rfl, Nat.le_of_ble_eq_true rfl⟩ rfl rfl rfl (Nat.le_of_ble_eq_true rfl) (kd dtLw_2 26 rfl) ⟨lroomC2 hc (Nat.le_of_ble_eq_true rfl), lroomS2 hc (Nat.le_of_ble_eq_true rfl)⟩ (fun H locs hX => ?_)
  refine lv_icmp_eq (tgt := 1495) hx hb (kd dtLw_2 27 rfl) (by decide) (fun _ => ?_) (fun z => absurd rfl z)
  exact kk _ _ _ _ _ _ _ _ _ j2 hX hl (by omega) (by omega)
set_option maxHeartbeats 4000000 in
set_option maxRecDepth 100000 in
theorem lc_table (C : LwC p s m b L xs c D aC) (j : J ow x w S r S) (hX : kX D aC (wZ s) s.heap w H locs) (hl : lv_has ls 8 (lwv b x k)) (hk : 6 * k + 6 ≤ L) (hc : cells ≤ 500000 ∧ slots ≤ 7000000) (kk : LwK p l e s m b below meth c D aC x k cells slots Q) : W p l e room_1 s m #[Value.ref b] below meth c H locs cells slots Q (F0 m 333 ls []) := by
  obtain ⟨F, hml, hZ, -⟩ := id C
  obtain ⟨hx, hb, -⟩ := id F
  obtain ⟨d1, h1, e1⟩ := i32_of (xs (6 * k + 1))
  refine lv_aload_n hx hb (kd dtLw_2 30 rfl) rfl (lv_at hl 3 rfl) ?_
  refine larg_ok C hX hl hk e1 (by omega) (kd dtLw_2 31 rfl) (kd dtLw_2 32 rfl) (kd dtLw_2 33 rfl) (kd dtLw_2 34 rfl) (kd dtLw_2 35 rfl) ?_
  have E1 := kc_table  j.1 h1
  have j1 := j
  refine kcallV (n := 1) (r := some x) [.int (iI d1)] [] [.int _] (rX11_table l D aC E1) rfl j.1.2.1.1.1 F hml hX hZ hl.1 mwX11_table wmL_43 rfl (by decide) (by decide +kernel) ⟨Nat.le_of_ble_eq_true rfl, Nat.le_of_ble_eq_true rfl⟩ rfl rfl rfl (Nat.le_of_ble_eq_true rfl) (kd dtLw_2 36 rfl) ⟨lroomC hc (Nat.le_of_ble_eq_true rfl), lroomS hc (Nat.le_of_ble_eq_true rfl)⟩ (fun H locs hX => ?_)
  have hX := j1.asM hX
  refine lv_aload_n hx hb (kd dtLw_2 37 rfl) rfl (lv_at hl 2 rfl) ?_
  refine larg_ok C hX hl hk e1 (by omega) (kd dtLw_2 38 rfl) (kd dtLw_2 39 rfl) (kd dtLw_2 40 rfl) (kd dtLw_2 41 rfl) (kd dtLw_2 42 rfl) ?_
  have E2 := m_table  j1.2.1.2.2 h1
  have j2 := j1.mdl j1.2.1.2.2
  refine kcallV (n := 1) (r := some (x + 237)) [.int (iI d1)] [.int _] [.int _, .int _] (rX12_table l D aC j1.2.1.1 E2) rfl j1.2.1.1.1 F hml hX hZ hl.1 mwX12_table wmL_46 rfl (by decide) (by decide +kernel) ⟨Nat.le_of_ble_eq_true rfl, Nat.le_of_ble_eq_true rfl⟩ rfl rfl rfl (Nat.le_of_ble_eq_true rfl) (kd dtLw_2 43 rfl) ⟨lroomC2 hc (Nat.le_of_ble_eq_true rfl), lroomS2 hc (Nat.le_of_ble_eq_true rfl)⟩ (fun H locs hX => ?_)
  refine lv_icmp_eq (tgt := 1495) hx hb (kd dtLw_2 44 rfl) (by decide) (fun _ => ?_) (fun z => absurd rfl z)
  exact kk _ _ _ _ _ _ _ _ _ j2 hX hl (by omega) (by omega)
set_option maxHeartbeats 4000000 in
set_option maxRecDepth 100000 in
theorem lc_pair (C : LwC p s m b L xs c D aC) (j : J ow x w S r S) (hX : kX D aC (wZ s) s.heap w H locs) (hl : lv_has ls 8 (lwv b x k)) (hk : 6 * k + 6 ≤ L) (hc : cells ≤ 500000 ∧ slots ≤ 7000000) (kk : LwK p l e s m b below meth c D aC x k cells slots Q) : W p l e room_1 s m #[Value.ref b] below meth c H locs cells slots Q (F0 m 358 ls []) := by
  obtain ⟨F, hml, hZ, -⟩ := id C
  obtain ⟨hx, hb, -⟩ := id F
  obtain ⟨d1, h1, e1⟩ := i32_of (xs (6 * k + 1))
  obtain ⟨d2, h2, e2⟩ := i32_of (xs (6 * k + 2))
  obtain ⟨d3, h3, e3⟩ := i32_of (xs (6 * k + 3))
  refine lv_aload_n hx hb (kd dtLw_2 47 rfl) rfl (lv_at hl 3 rfl) ?_
  refine larg_ok C hX hl hk e1 (by omega) (kd dtLw_2 48 rfl) (kd dtLw_2 49 rfl) (kd dtLw_3 0 rfl) (kd dtLw_3 1 rfl) (kd dtLw_3 2 rfl) ?_
  refine larg_ok C hX hl hk e2 (by omega) (kd dtLw_3 3 rfl) (kd dtLw_3 4 rfl) (kd dtLw_3 5 rfl) (kd dtLw_3 6 rfl) (kd dtLw_3 7 rfl) ?_
  refine larg_ok C hX hl hk e3 (by omega) (kd dtLw_3 8 rfl) (kd dtLw_3 9 rfl) (kd dtLw_3 10 rfl) (kd dtLw_3 11 rfl) (kd dtLw_3 12 rfl) ?_
  obtain ⟨w1, ow1, E1, K1, F1⟩ := kc_pair  j.1 h1 h2 h3
  have j1 := j.cls K1 F1
  refine kcallV (n := 3) (r := some x) [.int (iI d1), .int (iI d2), .int (iI d3)] [] [.int _] (rX11_pair l D aC E1) rfl j.1.2.1.1.1 F hml hX hZ hl.1 mwX11_pair wmL_47 rfl (by decide) (by decide +kernel) ⟨Nat.le_of_ble_eq_true rfl, Nat.le_of_ble_eq_true rfl⟩ rfl rfl rfl (Nat.le_of_ble_eq_true rfl) (kd dtLw_3 13 rfl) ⟨lroomC hc (Nat.le_of_ble_eq_true rfl), lroomS hc (Nat.le_of_ble_eq_true rfl)⟩ (fun H locs hX => ?_)
  have hX := j1.asM hX
  refine lv_aload_n hx hb (kd dtLw_3 14 rfl) rfl (lv_at hl 2 rfl) ?_
  refine larg_ok C hX hl hk e1 (by omega) (kd dtLw_3 15 rfl) (kd dtLw_3 16 rfl) (kd dtLw_3 17 rfl) (kd dtLw_3 18 rfl) (kd dtLw_3 19 rfl) ?_
  refine larg_ok C hX hl hk e2 (by omega) (kd dtLw_3 20 rfl) (kd dtLw_3 21 rfl) (kd dtLw_3 22 rfl) (kd dtLw_3 23 rfl) (kd dtLw_3 24 rfl) ?_
  refine larg_ok C hX hl hk e3 (by omega) (kd dtLw_3 25 rfl) (kd dtLw_3 26 rfl) (kd dtLw_3 27 rfl) (kd dtLw_3 28 rfl) (kd dtLw_3 29 rfl) ?_
  obtain ⟨r2, E2, M2⟩ := m_pair  j1.2.1.2.2 h1 h2 h3
  have j2 := j1.mdl M2
  refine kcallV (n := 3) (r := some (x + 237)) [.int (iI d1), .int (iI d2), .int (iI d3)] [.int _] [.int _, .int _] (rX12_pair l D aC j1.2.1.1 E2) rfl j1.2.1.1.1 F hml hX hZ hl.1 mwX12_pair wmL_51 rfl (by decide) (by decide +kernel) ⟨Nat.le_of_ble_eq_true rfl, Nat.le_of_ble_eq_true rfl⟩ rfl rfl rfl (Nat.le_of_ble_eq_true rfl) (kd dtLw_3 30 rfl) ⟨lroomC2 hc (Nat.le_of_ble_eq_true rfl), lroomS2 hc (Nat.le_of_ble_eq_true rfl)⟩ (fun H locs hX => ?_)
  refine lv_icmp_eq (tgt := 1495) hx hb (kd dtLw_3 31 rfl) (by decide) (fun _ => ?_) (fun z => absurd rfl z)
  exact kk _ _ _ _ _ _ _ _ _ j2 hX hl (by omega) (by omega)
set_option maxHeartbeats 4000000 in
set_option maxRecDepth 100000 in
theorem lc_widest (C : LwC p s m b L xs c D aC) (j : J ow x w S r S) (hX : kX D aC (wZ s) s.heap w H locs) (hl : lv_has ls 8 (lwv b x k)) (hk : 6 * k + 6 ≤ L) (hc : cells ≤ 500000 ∧ slots ≤ 7000000) (kk : LwK p l e s m b below meth c D aC x k cells slots Q) : W p l e room_1 s m #[Value.ref b] below meth c H locs cells slots Q (F0 m 407 ls []) := by
  obtain ⟨F, hml, hZ, -⟩ := id C
  obtain ⟨hx, hb, -⟩ := id F
  obtain ⟨d1, h1, e1⟩ := i32_of (xs (6 * k + 1))
  obtain ⟨d2, h2, e2⟩ := i32_of (xs (6 * k + 2))
  obtain ⟨d3, h3, e3⟩ := i32_of (xs (6 * k + 3))
  refine lv_aload_n hx hb (kd dtLw_3 34 rfl) rfl (lv_at hl 3 rfl) ?_
  refine larg_ok C hX hl hk e1 (by omega) (kd dtLw_3 35 rfl) (kd dtLw_3 36 rfl) (kd dtLw_3 37 rfl) (kd dtLw_3 38 rfl) (kd dtLw_3 39 rfl) ?_
  refine larg_ok C hX hl hk e2 (by omega) (kd dtLw_3 40 rfl) (kd dtLw_3 41 rfl) (kd dtLw_3 42 rfl) (kd dtLw_3 43 rfl) (kd dtLw_3 44 rfl) ?_
  refine larg_ok C hX hl hk e3 (by omega) (kd dtLw_3 45 rfl) (kd dtLw_3 46 rfl) (kd dtLw_3 47 rfl) (kd dtLw_3 48 rfl) (kd dtLw_3 49 rfl) ?_
  obtain ⟨w1, ow1, E1, K1, F1⟩ := kc_widest  j.1 h1 h2 h3
  have j1 := j.cls K1 F1
  refine kcallV (n := 3) (r := some x) [.int (iI d1), .int (iI d2), .int (iI d3)] [] [.int _] (rX11_widest l D aC E1) rfl j.1.2.1.1.1 F hml hX hZ hl.1 mwX11_widest wmL_52 rfl (by decide) (by decide +kernel) ⟨Nat.le_of_ble_eq_true rfl, Nat.le_of_ble_eq_true rfl⟩ rfl rfl rfl (Nat.le_of_ble_eq_true rfl) (kd dtLw_4 0 rfl) ⟨lroomC hc (Nat.le_of_ble_eq_true rfl), lroomS hc (Nat.le_of_ble_eq_true rfl)⟩ (fun H locs hX => ?_)
  have hX := j1.asM hX
  refine lv_aload_n hx hb (kd dtLw_4 1 rfl) rfl (lv_at hl 2 rfl) ?_
  refine larg_ok C hX hl hk e1 (by omega) (kd dtLw_4 2 rfl) (kd dtLw_4 3 rfl) (kd dtLw_4 4 rfl) (kd dtLw_4 5 rfl) (kd dtLw_4 6 rfl) ?_
  refine larg_ok C hX hl hk e2 (by omega) (kd dtLw_4 7 rfl) (kd dtLw_4 8 rfl) (kd dtLw_4 9 rfl) (kd dtLw_4 10 rfl) (kd dtLw_4 11 rfl) ?_
  refine larg_ok C hX hl hk e3 (by omega) (kd dtLw_4 12 rfl) (kd dtLw_4 13 rfl) (kd dtLw_4 14 rfl) (kd dtLw_4 15 rfl) (kd dtLw_4 16 rfl) ?_
  obtain ⟨r2, E2, M2⟩ := m_widest  j1.2.1.2.2 h1 h2 h3
  have j2 := j1.mdl M2
  refine kcallV (n := 3) (r := some (x + 237)) [.int (iI d1), .int (iI d2), .int (iI d3)] [.int _] [.int _, .int _] (rX12_widest l D aC j1.2.1.1 E2) rfl j1.2.1.1.1 F hml hX hZ hl.1 mwX12_widest wmL_55 rfl (by decide) (by decide +kernel) ⟨Nat.le_of_ble_eq_true rfl, Nat.le_of_ble_eq_true rfl⟩ rfl rfl rfl (Nat.le_of_ble_eq_true rfl) (kd dtLw_4 17 rfl) ⟨lroomC2 hc (Nat.le_of_ble_eq_true rfl), lroomS2 hc (Nat.le_of_ble_eq_true rfl)⟩ (fun H locs hX => ?_)
  refine lv_icmp_eq (tgt := 1495) hx hb (kd dtLw_4 18 rfl) (by decide) (fun _ => ?_) (fun z => absurd rfl z)
  exact kk _ _ _ _ _ _ _ _ _ j2 hX hl (by omega) (by omega)
set_option maxHeartbeats 4000000 in
set_option maxRecDepth 100000 in
theorem lc_must (C : LwC p s m b L xs c D aC) (j : J ow x w S r S) (hX : kX D aC (wZ s) s.heap w H locs) (hl : lv_has ls 8 (lwv b x k)) (hk : 6 * k + 6 ≤ L) (hc : cells ≤ 500000 ∧ slots ≤ 7000000) (kk : LwK p l e s m b below meth c D aC x k cells slots Q) : W p l e room_1 s m #[Value.ref b] below meth c H locs cells slots Q (F0 m 456 ls []) := by
  obtain ⟨F, hml, hZ, -⟩ := id C
  obtain ⟨hx, hb, -⟩ := id F
  obtain ⟨d1, h1, e1⟩ := i32_of (xs (6 * k + 1))
  obtain ⟨d2, h2, e2⟩ := i32_of (xs (6 * k + 2))
  obtain ⟨d3, h3, e3⟩ := i32_of (xs (6 * k + 3))
  obtain ⟨d4, h4, e4⟩ := i32_of (xs (6 * k + 4))
  refine lv_aload_n hx hb (kd dtLw_4 21 rfl) rfl (lv_at hl 3 rfl) ?_
  refine larg_ok C hX hl hk e1 (by omega) (kd dtLw_4 22 rfl) (kd dtLw_4 23 rfl) (kd dtLw_4 24 rfl) (kd dtLw_4 25 rfl) (kd dtLw_4 26 rfl) ?_
  refine larg_ok C hX hl hk e2 (by omega) (kd dtLw_4 27 rfl) (kd dtLw_4 28 rfl) (kd dtLw_4 29 rfl) (kd dtLw_4 30 rfl) (kd dtLw_4 31 rfl) ?_
  refine larg_ok C hX hl hk e3 (by omega) (kd dtLw_4 32 rfl) (kd dtLw_4 33 rfl) (kd dtLw_4 34 rfl) (kd dtLw_4 35 rfl) (kd dtLw_4 36 rfl) ?_
  refine larg_ok C hX hl hk e4 (by omega) (kd dtLw_4 37 rfl) (kd dtLw_4 38 rfl) (kd dtLw_4 39 rfl) (kd dtLw_4 40 rfl) (kd dtLw_4 41 rfl) ?_
  obtain ⟨w1, ow1, E1, K1, F1⟩ := kc_must  j.1 h1 h2 h3 h4
  have j1 := j.cls K1 F1
  refine kcallV (n := 4) (r := some x) [.int (iI d1), .int (iI d2), .int (iI d3), .int (iI d4)] [] [.int _] (rX11_must l D aC E1) rfl j.1.2.1.1.1 F hml hX hZ hl.1 mwX11_must wmL_56 rfl (by decide) (by decide +kernel) ⟨Nat.le_of_ble_eq_true rfl, Nat.le_of_ble_eq_true rfl⟩ rfl rfl rfl (Nat.le_of_ble_eq_true rfl) (kd dtLw_4 42 rfl) ⟨lroomC hc (Nat.le_of_ble_eq_true rfl), lroomS hc (Nat.le_of_ble_eq_true rfl)⟩ (fun H locs hX => ?_)
  have hX := j1.asM hX
  refine lv_aload_n hx hb (kd dtLw_4 43 rfl) rfl (lv_at hl 2 rfl) ?_
  refine larg_ok C hX hl hk e1 (by omega) (kd dtLw_4 44 rfl) (kd dtLw_4 45 rfl) (kd dtLw_4 46 rfl) (kd dtLw_4 47 rfl) (kd dtLw_4 48 rfl) ?_
  refine larg_ok C hX hl hk e2 (by omega) (kd dtLw_4 49 rfl) (kd dtLw_5 0 rfl) (kd dtLw_5 1 rfl) (kd dtLw_5 2 rfl) (kd dtLw_5 3 rfl) ?_
  refine larg_ok C hX hl hk e3 (by omega) (kd dtLw_5 4 rfl) (kd dtLw_5 5 rfl) (kd dtLw_5 6 rfl) (kd dtLw_5 7 rfl) (kd dtLw_5 8 rfl) ?_
  refine larg_ok C hX hl hk e4 (by omega) (kd dtLw_5 9 rfl) (kd dtLw_5 10 rfl) (kd dtLw_5 11 rfl) (kd dtLw_5 12 rfl) (kd dtLw_5 13 rfl) ?_
  obtain ⟨r2, E2, M2⟩ := m_must  j1.2.1.2.2 h1 h2 h3 h4
  have j2 := j1.mdl M2
  refine kcallV (n := 4) (r := some (x + 237)) [.int (iI d1), .int (iI d2), .int (iI d3), .int (iI d4)] [.int _] [.int _, .int _] (rX12_must l D aC j1.2.1.1 E2) rfl j1.2.1.1.1 F hml hX hZ hl.1 mwX12_must wmL_60 rfl (by decide) (by decide +kernel) ⟨Nat.le_of_ble_eq_true rfl, Nat.le_of_ble_eq_true rfl⟩ rfl rfl rfl (Nat.le_of_ble_eq_true rfl) (kd dtLw_5 14 rfl) ⟨lroomC2 hc (Nat.le_of_ble_eq_true rfl), lroomS2 hc (Nat.le_of_ble_eq_true rfl)⟩ (fun H locs hX => ?_)
  refine lv_icmp_eq (tgt := 1495) hx hb (kd dtLw_5 15 rfl) (by decide) (fun _ => ?_) (fun z => absurd rfl z)
  exact kk _ _ _ _ _ _ _ _ _ j2 hX hl (by omega) (by omega)
set_option maxHeartbeats 4000000 in
set_option maxRecDepth 100000 in
theorem lc_step (C : LwC p s m b L xs c D aC) (j : J ow x w S r S) (hX : kX D aC (wZ s) s.heap w H locs) (hl : lv_has ls 8 (lwv b x k)) (hk : 6 * k + 6 ≤ L) (hc : cells ≤ 500000 ∧ slots ≤ 7000000) (kk : LwK p l e s m b below meth c D aC x k cells slots Q) : W p l e room_1 s m #[Value.ref b] below meth c H locs cells slots Q (F0 m 517 ls []) := by
  obtain ⟨F, hml, hZ, -⟩ := id C
  obtain ⟨hx, hb, -⟩ := id F
  obtain ⟨d1, h1, e1⟩ := i32_of (xs (6 * k + 1))
  obtain ⟨d2, h2, e2⟩ := i32_of (xs (6 * k + 2))
  obtain ⟨d3, h3, e3⟩ := i32_of (xs (6 * k + 3))
  obtain ⟨d4, h4, e4⟩ := i32_of (xs (6 * k + 4))
  refine lv_aload_n hx hb (kd dtLw_5 18 rfl) rfl (lv_at hl 3 rfl) ?_
  refine larg_ok C hX hl hk e1 (by omega) (kd dtLw_5 19 rfl) (kd dtLw_5 20 rfl) (kd dtLw_5 21 rfl) (kd dtLw_5 22 rfl) (kd dtLw_5 23 rfl) ?_
  refine larg_ok C hX hl hk e2 (by omega) (kd dtLw_5 24 rfl) (kd dtLw_5 25 rfl) (kd dtLw_5 26 rfl) (kd dtLw_5 27 rfl) (kd dtLw_5 28 rfl) ?_
  refine larg_ok C hX hl hk e3 (by omega) (kd dtLw_5 29 rfl) (kd dtLw_5 30 rfl) (kd dtLw_5 31 rfl) (kd dtLw_5 32 rfl) (kd dtLw_5 33 rfl) ?_
  refine larg_ok C hX hl hk e4 (by omega) (kd dtLw_5 34 rfl) (kd dtLw_5 35 rfl) (kd dtLw_5 36 rfl) (kd dtLw_5 37 rfl) (kd dtLw_5 38 rfl) ?_
  obtain ⟨w1, ow1, E1, K1, F1⟩ := kc_step  j.1 h1 h2 h3 h4
  have j1 := j.cls K1 F1
  refine kcallV (n := 4) (r := some x) [.int (iI d1), .int (iI d2), .int (iI d3), .int (iI d4)] [] [.int _] (rX11_step l D aC E1) rfl j.1.2.1.1.1 F hml hX hZ hl.1 mwX11_step wmL_61 rfl (by decide) (by decide +kernel) ⟨Nat.le_of_ble_eq_true rfl, Nat.le_of_ble_eq_true rfl⟩ rfl rfl rfl (Nat.le_of_ble_eq_true rfl) (kd dtLw_5 39 rfl) ⟨lroomC hc (Nat.le_of_ble_eq_true rfl), lroomS hc (Nat.le_of_ble_eq_true rfl)⟩ (fun H locs hX => ?_)
  have hX := j1.asM hX
  refine lv_aload_n hx hb (kd dtLw_5 40 rfl) rfl (lv_at hl 2 rfl) ?_
  refine larg_ok C hX hl hk e1 (by omega) (kd dtLw_5 41 rfl) (kd dtLw_5 42 rfl) (kd dtLw_5 43 rfl) (kd dtLw_5 44 rfl) (kd dtLw_5 45 rfl) ?_
  refine larg_ok C hX hl hk e2 (by omega) (kd dtLw_5 46 rfl) (kd dtLw_5 47 rfl) (kd dtLw_5 48 rfl) (kd dtLw_5 49 rfl) (kd dtLw_6 0 rfl) ?_
  refine larg_ok C hX hl hk e3 (by omega) (kd dtLw_6 1 rfl) (kd dtLw_6 2 rfl) (kd dtLw_6 3 rfl) (kd dtLw_6 4 rfl) (kd dtLw_6 5 rfl) ?_
  refine larg_ok C hX hl hk e4 (by omega) (kd dtLw_6 6 rfl) (kd dtLw_6 7 rfl) (kd dtLw_6 8 rfl) (kd dtLw_6 9 rfl) (kd dtLw_6 10 rfl) ?_
  obtain ⟨r2, E2, M2⟩ := m_step  j1.2.1.2.2 h1 h2 h3 h4
  have j2 := j1.mdl M2
  refine kcallV (n := 4) (r := some (x + 237)) [.int (iI d1), .int (iI d2), .int (iI d3), .int (iI d4)] [.int _] [.int _, .int _] (rX12_step l D aC j1.2.1.1 E2) rfl j1.2.1.1.1 F hml hX hZ hl.1 mwX12_step wmL_64 rfl (by decide) (by decide +kernel) ⟨Nat.le_of_ble_eq_true rfl, Nat.le_of_ble_eq_true rfl⟩ rfl rfl rfl (Nat.le_of_ble_eq_true rfl) (kd dtLw_6 11 rfl) ⟨lroomC2 hc (Nat.le_of_ble_eq_true rfl), lroomS2 hc (Nat.le_of_ble_eq_true rfl)⟩ (fun H locs hX => ?_)
  refine lv_icmp_eq (tgt := 1495) hx hb (kd dtLw_6 12 rfl) (by decide) (fun _ => ?_) (fun z => absurd rfl z)
  exact kk _ _ _ _ _ _ _ _ _ j2 hX hl (by omega) (by omega)
set_option maxHeartbeats 4000000 in
set_option maxRecDepth 100000 in
theorem lc_check (C : LwC p s m b L xs c D aC) (j : J ow x w S r S) (hX : kX D aC (wZ s) s.heap w H locs) (hl : lv_has ls 8 (lwv b x k)) (hk : 6 * k + 6 ≤ L) (hc : cells ≤ 500000 ∧ slots ≤ 7000000) (kk : LwK p l e s m b below meth c D aC x k cells slots Q) : W p l e room_1 s m #[Value.ref b] below meth c H locs cells slots Q (F0 m 578 ls []) := by
  obtain ⟨F, hml, hZ, -⟩ := id C
  obtain ⟨hx, hb, -⟩ := id F
  obtain ⟨d1, h1, e1⟩ := i32_of (xs (6 * k + 1))
  obtain ⟨d2, h2, e2⟩ := i32_of (xs (6 * k + 2))
  obtain ⟨d3, h3, e3⟩ := i32_of (xs (6 * k + 3))
  obtain ⟨d4, h4, e4⟩ := i32_of (xs (6 * k + 4))
  refine lv_aload_n hx hb (kd dtLw_6 15 rfl) rfl (lv_at hl 3 rfl) ?_
  refine larg_ok C hX hl hk e1 (by omega) (kd dtLw_6 16 rfl) (kd dtLw_6 17 rfl) (kd dtLw_6 18 rfl) (kd dtLw_6 19 rfl) (kd dtLw_6 20 rfl) ?_
  refine larg_ok C hX hl hk e2 (by omega) (kd dtLw_6 21 rfl) (kd dtLw_6 22 rfl) (kd dtLw_6 23 rfl) (kd dtLw_6 24 rfl) (kd dtLw_6 25 rfl) ?_
  refine larg_ok C hX hl hk e3 (by omega) (kd dtLw_6 26 rfl) (kd dtLw_6 27 rfl) (kd dtLw_6 28 rfl) (kd dtLw_6 29 rfl) (kd dtLw_6 30 rfl) ?_
  refine larg_ok C hX hl hk e4 (by omega) (kd dtLw_6 31 rfl) (kd dtLw_6 32 rfl) (kd dtLw_6 33 rfl) (kd dtLw_6 34 rfl) (kd dtLw_6 35 rfl) ?_
  obtain ⟨w1, ow1, E1, K1, F1⟩ := kc_check  j.1 h1 h2 h3 h4
  have j1 := j.cls K1 F1
  refine kcallV (n := 4) (r := some x) [.int (iI d1), .int (iI d2), .int (iI d3), .int (iI d4)] [] [.int _] (rX11_check l D aC E1) rfl j.1.2.1.1.1 F hml hX hZ hl.1 mwX11_check wmL_65 rfl (by decide) (by decide +kernel) ⟨Nat.le_of_ble_eq_true rfl, Nat.le_of_ble_eq_true rfl⟩ rfl rfl rfl (Nat.le_of_ble_eq_true rfl) (kd dtLw_6 36 rfl) ⟨lroomC hc (Nat.le_of_ble_eq_true rfl), lroomS hc (Nat.le_of_ble_eq_true rfl)⟩ (fun H locs hX => ?_)
  have hX := j1.asM hX
  refine lv_aload_n hx hb (kd dtLw_6 37 rfl) rfl (lv_at hl 2 rfl) ?_
  refine larg_ok C hX hl hk e1 (by omega) (kd dtLw_6 38 rfl) (kd dtLw_6 39 rfl) (kd dtLw_6 40 rfl) (kd dtLw_6 41 rfl) (kd dtLw_6 42 rfl) ?_
  refine larg_ok C hX hl hk e2 (by omega) (kd dtLw_6 43 rfl) (kd dtLw_6 44 rfl) (kd dtLw_6 45 rfl) (kd dtLw_6 46 rfl) (kd dtLw_6 47 rfl) ?_
  refine larg_ok C hX hl hk e3 (by omega) (kd dtLw_6 48 rfl) (kd dtLw_6 49 rfl) (kd dtLw_7 0 rfl) (kd dtLw_7 1 rfl) (kd dtLw_7 2 rfl) ?_
  refine larg_ok C hX hl hk e4 (by omega) (kd dtLw_7 3 rfl) (kd dtLw_7 4 rfl) (kd dtLw_7 5 rfl) (kd dtLw_7 6 rfl) (kd dtLw_7 7 rfl) ?_
  obtain ⟨r2, E2, M2⟩ := m_check  j1.2.1.2.2 h1 h2 h3 h4
  have j2 := j1.mdl M2
  refine kcallV (n := 4) (r := some (x + 237)) [.int (iI d1), .int (iI d2), .int (iI d3), .int (iI d4)] [.int _] [.int _, .int _] (rX12_check l D aC j1.2.1.1 E2) rfl j1.2.1.1.1 F hml hX hZ hl.1 mwX12_check wmL_68 rfl (by decide) (by decide +kernel) ⟨Nat.le_of_ble_eq_true rfl, Nat.le_of_ble_eq_true rfl⟩ rfl rfl rfl (Nat.le_of_ble_eq_true rfl) (kd dtLw_7 8 rfl) ⟨lroomC2 hc (Nat.le_of_ble_eq_true rfl), lroomS2 hc (Nat.le_of_ble_eq_true rfl)⟩ (fun H locs hX => ?_)
  refine lv_icmp_eq (tgt := 1495) hx hb (kd dtLw_7 9 rfl) (by decide) (fun _ => ?_) (fun z => absurd rfl z)
  exact kk _ _ _ _ _ _ _ _ _ j2 hX hl (by omega) (by omega)
set_option maxHeartbeats 4000000 in
set_option maxRecDepth 100000 in
theorem lc_from (C : LwC p s m b L xs c D aC) (j : J ow x w S r S) (hX : kX D aC (wZ s) s.heap w H locs) (hl : lv_has ls 8 (lwv b x k)) (hk : 6 * k + 6 ≤ L) (hc : cells ≤ 500000 ∧ slots ≤ 7000000) (kk : LwK p l e s m b below meth c D aC x k cells slots Q) : W p l e room_1 s m #[Value.ref b] below meth c H locs cells slots Q (F0 m 639 ls []) := by
  obtain ⟨F, hml, hZ, -⟩ := id C
  obtain ⟨hx, hb, -⟩ := id F
  obtain ⟨d1, h1, e1⟩ := i32_of (xs (6 * k + 1))
  obtain ⟨d2, h2, e2⟩ := i32_of (xs (6 * k + 2))
  refine lv_aload_n hx hb (kd dtLw_7 12 rfl) rfl (lv_at hl 3 rfl) ?_
  refine larg_ok C hX hl hk e1 (by omega) (kd dtLw_7 13 rfl) (kd dtLw_7 14 rfl) (kd dtLw_7 15 rfl) (kd dtLw_7 16 rfl) (kd dtLw_7 17 rfl) ?_
  refine larg_ok C hX hl hk e2 (by omega) (kd dtLw_7 18 rfl) (kd dtLw_7 19 rfl) (kd dtLw_7 20 rfl) (kd dtLw_7 21 rfl) (kd dtLw_7 22 rfl) ?_
  have E1 := kc_from  j.1 h1 h2
  have j1 := j
  refine kcallV (n := 2) (r := some x) [.int (iI d1), .int (iI d2)] [] [.int _] (rX11_from l D aC E1) rfl j.1.2.1.1.1 F hml hX hZ hl.1 mwX11_from wmL_69 rfl (by decide) (by decide +kernel) ⟨Nat.le_of_ble_eq_true rfl, Nat.le_of_ble_eq_true rfl⟩ rfl rfl rfl (Nat.le_of_ble_eq_true rfl) (kd dtLw_7 23 rfl) ⟨lroomC hc (Nat.le_of_ble_eq_true rfl), lroomS hc (Nat.le_of_ble_eq_true rfl)⟩ (fun H locs hX => ?_)
  have hX := j1.asM hX
  refine lv_aload_n hx hb (kd dtLw_7 24 rfl) rfl (lv_at hl 2 rfl) ?_
  refine larg_ok C hX hl hk e1 (by omega) (kd dtLw_7 25 rfl) (kd dtLw_7 26 rfl) (kd dtLw_7 27 rfl) (kd dtLw_7 28 rfl) (kd dtLw_7 29 rfl) ?_
  refine larg_ok C hX hl hk e2 (by omega) (kd dtLw_7 30 rfl) (kd dtLw_7 31 rfl) (kd dtLw_7 32 rfl) (kd dtLw_7 33 rfl) (kd dtLw_7 34 rfl) ?_
  have E2 := m_from  j1.2.1.2.2 h1 h2
  have j2 := j1.mdl j1.2.1.2.2
  refine kcallV (n := 2) (r := some (x + 237)) [.int (iI d1), .int (iI d2)] [.int _] [.int _, .int _] (rX12_from l D aC j1.2.1.1 E2) rfl j1.2.1.1.1 F hml hX hZ hl.1 mwX12_from wmL_72 rfl (by decide) (by decide +kernel) ⟨Nat.le_of_ble_eq_true rfl, Nat.le_of_ble_eq_true rfl⟩ rfl rfl rfl (Nat.le_of_ble_eq_true rfl) (kd dtLw_7 35 rfl) ⟨lroomC2 hc (Nat.le_of_ble_eq_true rfl), lroomS2 hc (Nat.le_of_ble_eq_true rfl)⟩ (fun H locs hX => ?_)
  refine lv_icmp_eq (tgt := 1495) hx hb (kd dtLw_7 36 rfl) (by decide) (fun _ => ?_) (fun z => absurd rfl z)
  exact kk _ _ _ _ _ _ _ _ _ j2 hX hl (by omega) (by omega)
set_option maxHeartbeats 4000000 in
set_option maxRecDepth 100000 in
theorem lc_program (C : LwC p s m b L xs c D aC) (j : J ow x w S r S) (hX : kX D aC (wZ s) s.heap w H locs) (hl : lv_has ls 8 (lwv b x k)) (hk : 6 * k + 6 ≤ L) (hc : cells ≤ 500000 ∧ slots ≤ 7000000) (kk : LwK p l e s m b below meth c D aC x k cells slots Q) : W p l e room_1 s m #[Value.ref b] below meth c H locs cells slots Q (F0 m 676 ls []) := by
  obtain ⟨F, hml, hZ, -⟩ := id C
  obtain ⟨hx, hb, -⟩ := id F
  obtain ⟨d1, h1, e1⟩ := i32_of (xs (6 * k + 1))
  refine lv_aload_n hx hb (kd dtLw_7 39 rfl) rfl (lv_at hl 3 rfl) ?_
  refine larg_ok C hX hl hk e1 (by omega) (kd dtLw_7 40 rfl) (kd dtLw_7 41 rfl) (kd dtLw_7 42 rfl) (kd dtLw_7 43 rfl) (kd dtLw_7 44 rfl) ?_
  obtain ⟨w1, ow1, E1, K1, F1⟩ := kc_program  j.1 h1
  have j1 := j.cls K1 F1
  refine kcallV (n := 1) (r := some x) [.int (iI d1)] [] [.int _] (rX11_program l D aC E1) rfl j.1.2.1.1.1 F hml hX hZ hl.1 mwX11_program wmL_73 rfl (by decide) (by decide +kernel) ⟨Nat.le_of_ble_eq_true rfl, Nat.le_of_ble_eq_true rfl⟩ rfl rfl rfl (Nat.le_of_ble_eq_true rfl) (kd dtLw_7 45 rfl) ⟨lroomC hc (Nat.le_of_ble_eq_true rfl), lroomS hc (Nat.le_of_ble_eq_true rfl)⟩ (fun H locs hX => ?_)
  have hX := j1.asM hX
  refine lv_aload_n hx hb (kd dtLw_7 46 rfl) rfl (lv_at hl 2 rfl) ?_
  refine larg_ok C hX hl hk e1 (by omega) (kd dtLw_7 47 rfl) (kd dtLw_7 48 rfl) (kd dtLw_7 49 rfl) (kd dtLw_8 0 rfl) (kd dtLw_8 1 rfl) ?_
  obtain ⟨r2, E2, M2⟩ := m_program  j1.2.1.2.2 h1
  have j2 := j1.mdl M2
  refine kcallV (n := 1) (r := some (x + 237)) [.int (iI d1)] [.int _] [.int _, .int _] (rX12_program l D aC j1.2.1.1 E2) rfl j1.2.1.1.1 F hml hX hZ hl.1 mwX12_program wmL_76 rfl (by decide) (by decide +kernel) ⟨Nat.le_of_ble_eq_true rfl, Nat.le_of_ble_eq_true rfl⟩ rfl rfl rfl (Nat.le_of_ble_eq_true rfl) (kd dtLw_8 2 rfl) ⟨lroomC2 hc (Nat.le_of_ble_eq_true rfl), lroomS2 hc (Nat.le_of_ble_eq_true rfl)⟩ (fun H locs hX => ?_)
  refine lv_icmp_eq (tgt := 1495) hx hb (kd dtLw_8 3 rfl) (by decide) (fun _ => ?_) (fun z => absurd rfl z)
  exact kk _ _ _ _ _ _ _ _ _ j2 hX hl (by omega) (by omega)
set_option maxHeartbeats 4000000 in
set_option maxRecDepth 100000 in
theorem lc_run (C : LwC p s m b L xs c D aC) (j : J ow x w S r S) (hX : kX D aC (wZ s) s.heap w H locs) (hl : lv_has ls 8 (lwv b x k)) (hk : 6 * k + 6 ≤ L) (hc : cells ≤ 500000 ∧ slots ≤ 7000000) (kk : LwK p l e s m b below meth c D aC x k cells slots Q) : W p l e room_1 s m #[Value.ref b] below meth c H locs cells slots Q (F0 m 701 ls []) := by
  obtain ⟨F, hml, hZ, -⟩ := id C
  obtain ⟨hx, hb, -⟩ := id F
  obtain ⟨d1, h1, e1⟩ := i32_of (xs (6 * k + 1))
  obtain ⟨d2, h2, e2⟩ := i32_of (xs (6 * k + 2))
  obtain ⟨d3, h3, e3⟩ := i32_of (xs (6 * k + 3))
  refine lv_aload_n hx hb (kd dtLw_8 6 rfl) rfl (lv_at hl 3 rfl) ?_
  refine larg_ok C hX hl hk e1 (by omega) (kd dtLw_8 7 rfl) (kd dtLw_8 8 rfl) (kd dtLw_8 9 rfl) (kd dtLw_8 10 rfl) (kd dtLw_8 11 rfl) ?_
  refine larg_ok C hX hl hk e2 (by omega) (kd dtLw_8 12 rfl) (kd dtLw_8 13 rfl) (kd dtLw_8 14 rfl) (kd dtLw_8 15 rfl) (kd dtLw_8 16 rfl) ?_
  refine larg_ok C hX hl hk e3 (by omega) (kd dtLw_8 17 rfl) (kd dtLw_8 18 rfl) (kd dtLw_8 19 rfl) (kd dtLw_8 20 rfl) (kd dtLw_8 21 rfl) ?_
  obtain ⟨w1, ow1, E1, K1, F1⟩ := kc_run  j.1 h1 h2 h3
  have j1 := j.cls K1 F1
  refine kcallV (n := 3) (r := some x) [.int (iI d1), .int (iI d2), .int (iI d3)] [] [.int _] (rX11_run l D aC E1) rfl j.1.2.1.1.1 F hml hX hZ hl.1 mwX11_run wmL_77 rfl (by decide) (by decide +kernel) ⟨Nat.le_of_ble_eq_true rfl, Nat.le_of_ble_eq_true rfl⟩ rfl rfl rfl (Nat.le_of_ble_eq_true rfl) (kd dtLw_8 22 rfl) ⟨lroomC hc (Nat.le_of_ble_eq_true rfl), lroomS hc (Nat.le_of_ble_eq_true rfl)⟩ (fun H locs hX => ?_)
  have hX := j1.asM hX
  refine lv_aload_n hx hb (kd dtLw_8 23 rfl) rfl (lv_at hl 2 rfl) ?_
  refine larg_ok C hX hl hk e1 (by omega) (kd dtLw_8 24 rfl) (kd dtLw_8 25 rfl) (kd dtLw_8 26 rfl) (kd dtLw_8 27 rfl) (kd dtLw_8 28 rfl) ?_
  refine larg_ok C hX hl hk e2 (by omega) (kd dtLw_8 29 rfl) (kd dtLw_8 30 rfl) (kd dtLw_8 31 rfl) (kd dtLw_8 32 rfl) (kd dtLw_8 33 rfl) ?_
  refine larg_ok C hX hl hk e3 (by omega) (kd dtLw_8 34 rfl) (kd dtLw_8 35 rfl) (kd dtLw_8 36 rfl) (kd dtLw_8 37 rfl) (kd dtLw_8 38 rfl) ?_
  obtain ⟨r2, E2, M2⟩ := m_run  j1.2.1.2.2 h1 h2 h3
  have j2 := j1.mdl M2
  refine kcallV (n := 3) (r := some (x + 237)) [.int (iI d1), .int (iI d2), .int (iI d3)] [.int _] [.int _, .int _] (rX12_run l D aC j1.2.1.1 E2) rfl j1.2.1.1.1 F hml hX hZ hl.1 mwX12_run wmL_80 rfl (by decide) (by decide +kernel) ⟨Nat.le_of_ble_eq_true rfl, Nat.le_of_ble_eq_true rfl⟩ rfl rfl rfl (Nat.le_of_ble_eq_true rfl) (kd dtLw_8 39 rfl) ⟨lroomC2 hc (Nat.le_of_ble_eq_true rfl), lroomS2 hc (Nat.le_of_ble_eq_true rfl)⟩ (fun H locs hX => ?_)
  refine lv_icmp_eq (tgt := 1495) hx hb (kd dtLw_8 40 rfl) (by decide) (fun _ => ?_) (fun z => absurd rfl z)
  exact kk _ _ _ _ _ _ _ _ _ j2 hX hl (by omega) (by omega)
set_option maxHeartbeats 4000000 in
set_option maxRecDepth 100000 in
theorem lc_need (C : LwC p s m b L xs c D aC) (j : J ow x w S r S) (hX : kX D aC (wZ s) s.heap w H locs) (hl : lv_has ls 8 (lwv b x k)) (hk : 6 * k + 6 ≤ L) (hc : cells ≤ 500000 ∧ slots ≤ 7000000) (kk : LwK p l e s m b below meth c D aC x k cells slots Q) : W p l e room_1 s m #[Value.ref b] below meth c H locs cells slots Q (F0 m 750 ls []) := by
  obtain ⟨F, hml, hZ, -⟩ := id C
  obtain ⟨hx, hb, -⟩ := id F
  obtain ⟨d1, h1, e1⟩ := i32_of (xs (6 * k + 1))
  obtain ⟨d2, h2, e2⟩ := i32_of (xs (6 * k + 2))
  obtain ⟨d3, h3, e3⟩ := i32_of (xs (6 * k + 3))
  obtain ⟨d4, h4, e4⟩ := i32_of (xs (6 * k + 4))
  refine lv_aload_n hx hb (kd dtLw_8 43 rfl) rfl (lv_at hl 3 rfl) ?_
  refine larg_ok C hX hl hk e1 (by omega) (kd dtLw_8 44 rfl) (kd dtLw_8 45 rfl) (kd dtLw_8 46 rfl) (kd dtLw_8 47 rfl) (kd dtLw_8 48 rfl) ?_
  refine larg_ok C hX hl hk e2 (by omega) (kd dtLw_8 49 rfl) (kd dtLw_9 0 rfl) (kd dtLw_9 1 rfl) (kd dtLw_9 2 rfl) (kd dtLw_9 3 rfl) ?_
  refine larg_ok C hX hl hk e3 (by omega) (kd dtLw_9 4 rfl) (kd dtLw_9 5 rfl) (kd dtLw_9 6 rfl) (kd dtLw_9 7 rfl) (kd dtLw_9 8 rfl) ?_
  refine larg_ok C hX hl hk e4 (by omega) (kd dtLw_9 9 rfl) (kd dtLw_9 10 rfl) (kd dtLw_9 11 rfl) (kd dtLw_9 12 rfl) (kd dtLw_9 13 rfl) ?_
  obtain ⟨w1, ow1, E1, K1, F1⟩ := kc_need  j.1 h1 h2 h3 h4
  have j1 := j.cls K1 F1
  refine kcallV (n := 4) (r := some x) [.int (iI d1), .int (iI d2), .int (iI d3), .int (iI d4)] [] [.int _] (rX11_need l D aC E1) rfl j.1.2.1.1.1 F hml hX hZ hl.1 mwX11_need wmL_81 rfl (by decide) (by decide +kernel) ⟨Nat.le_of_ble_eq_true rfl, Nat.le_of_ble_eq_true rfl⟩ rfl rfl rfl (Nat.le_of_ble_eq_true rfl) (kd dtLw_9 14 rfl) ⟨lroomC hc (Nat.le_of_ble_eq_true rfl), lroomS hc (Nat.le_of_ble_eq_true rfl)⟩ (fun H locs hX => ?_)
  have hX := j1.asM hX
  refine lv_aload_n hx hb (kd dtLw_9 15 rfl) rfl (lv_at hl 2 rfl) ?_
  refine larg_ok C hX hl hk e1 (by omega) (kd dtLw_9 16 rfl) (kd dtLw_9 17 rfl) (kd dtLw_9 18 rfl) (kd dtLw_9 19 rfl) (kd dtLw_9 20 rfl) ?_
  refine larg_ok C hX hl hk e2 (by omega) (kd dtLw_9 21 rfl) (kd dtLw_9 22 rfl) (kd dtLw_9 23 rfl) (kd dtLw_9 24 rfl) (kd dtLw_9 25 rfl) ?_
  refine larg_ok C hX hl hk e3 (by omega) (kd dtLw_9 26 rfl) (kd dtLw_9 27 rfl) (kd dtLw_9 28 rfl) (kd dtLw_9 29 rfl) (kd dtLw_9 30 rfl) ?_
  refine larg_ok C hX hl hk e4 (by omega) (kd dtLw_9 31 rfl) (kd dtLw_9 32 rfl) (kd dtLw_9 33 rfl) (kd dtLw_9 34 rfl) (kd dtLw_9 35 rfl) ?_
  obtain ⟨r2, E2, M2⟩ := m_need  j1.2.1.2.2 h1 h2 h3 h4
  have j2 := j1.mdl M2
  refine kcallV (n := 4) (r := some (x + 237)) [.int (iI d1), .int (iI d2), .int (iI d3), .int (iI d4)] [.int _] [.int _, .int _] (rX12_need l D aC j1.2.1.1 E2) rfl j1.2.1.1.1 F hml hX hZ hl.1 mwX12_need wmL_84 rfl (by decide) (by decide +kernel) ⟨Nat.le_of_ble_eq_true rfl, Nat.le_of_ble_eq_true rfl⟩ rfl rfl rfl (Nat.le_of_ble_eq_true rfl) (kd dtLw_9 36 rfl) ⟨lroomC2 hc (Nat.le_of_ble_eq_true rfl), lroomS2 hc (Nat.le_of_ble_eq_true rfl)⟩ (fun H locs hX => ?_)
  refine lv_icmp_eq (tgt := 1495) hx hb (kd dtLw_9 37 rfl) (by decide) (fun _ => ?_) (fun z => absurd rfl z)
  exact kk _ _ _ _ _ _ _ _ _ j2 hX hl (by omega) (by omega)
end LWC
