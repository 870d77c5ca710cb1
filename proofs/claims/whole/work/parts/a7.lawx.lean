/-! THE LAW: the cases that throw -/
theorem wmL_140 : Cond.methodLink RL 140 yL_element ∈ kT := kTm 1200 (by decide +kernel) rfl
theorem wmL_145 : Cond.methodLink RL 145 yX12_element ∈ kT := kTm 1716 (by decide +kernel) rfl
theorem wmL_146 : Cond.methodLink RL 146 yX12_thrown ∈ kT := kTm 1358 (by decide +kernel) rfl
theorem wmL_157 : Cond.methodLink RL 157 yX11_toss ∈ kT := kTm 1121 (by decide +kernel) rfl
theorem wmL_160 : Cond.methodLink RL 160 yX12_toss ∈ kT := kTm 1732 (by decide +kernel) rfl
theorem mwX12_toss : kMV RX12 yX12_toss cX12_toss 3 (some .int) := ⟨kTm 1735 (by decide +kernel) rfl, kTm 106 (by decide +kernel) rfl, kTm 1733 (by decide +kernel) rfl, kTm 1734 (by decide +kernel) rfl⟩
theorem mwX12_thrown : kMV RX12 yX12_thrown cX12_thrown 1 (some .int) := ⟨kTm 1361 (by decide +kernel) rfl, kTm 106 (by decide +kernel) rfl, kTm 1359 (by decide +kernel) rfl, kTm 1360 (by decide +kernel) rfl⟩
theorem mwX12_element : kMV RX12 yX12_element cX12_element 3 (some .long) := ⟨kTm 1719 (by decide +kernel) rfl, kTm 106 (by decide +kernel) rfl, kTm 1717 (by decide +kernel) rfl, kTm 1718 (by decide +kernel) rfl⟩
theorem mwL_element : Cond.codeWith yL_element cL_element 5 (some .int) [(0, 9, 12, 13), (0, 9, 16, 15)] ∈ kT ∧ Cond.initialized yL_element.cls ∈ kT ∧ Cond.static yL_element ∈ kT := ⟨kTm 1202 (by decide +kernel) rfl, kTm 93 (by decide +kernel) rfl, kTm 1201 (by decide +kernel) rfl⟩
theorem mwX11_toss : Cond.codeWith yX11_toss cX11_toss 5 (some .int) [(26, 30, 33, 323)] ∈ kT ∧ Cond.initialized yX11_toss.cls ∈ kT ∧ Cond.instanceMethod yX11_toss ∈ kT ∧ Cond.selects RX11 yX11_toss yX11_toss ∈ kT := ⟨kTm 1124 (by decide +kernel) rfl, kTm 94 (by decide +kernel) rfl, kTm 1122 (by decide +kernel) rfl, kTm 1123 (by decide +kernel) rfl⟩
section LWX
variable {p : Program} {l : Launch} {e : Env} {s : State} {m : MethodId} {below : List Frame} {meth : Method} {c : Code} {H : Heap} {locs : List Loc} {cells slots : Nat} {Q : State → Prop}
variable {ls : Array Slot} {D : va_G} {aC : Nat → ClassId} {b L x k : Nat} {xs : Nat → Int32} {ow : Nat → Nat × Nat} {w : kW} {S : AS} {r : rW}
set_option maxHeartbeats 4000000 in
set_option maxRecDepth 100000 in
theorem lc_toss (C : LwC p s m b L xs c D aC) (hfl : l.flags = flags0 ∧ kEx (kA (wZ s)) s) (j : J ow x w S r S) (hX : kX D aC (wZ s) s.heap w H locs) (hl : lv_has ls 8 (lwv b x k)) (hk : 6 * k + 6 ≤ L) (hc : cells ≤ 500000 ∧ slots ≤ 7000000) (kk : LwK p l e s m b below meth c D aC x k cells slots Q) : W p l e room_1 s m #[Value.ref b] below meth c H locs cells slots Q (F0 m 1470 ls []) := by
  obtain ⟨F, hml, hZ, -⟩ := id C
  obtain ⟨hx, hb, -⟩ := id F
  obtain ⟨d1, h1, e1⟩ := i32_of (xs (6 * k + 1))
  refine lv_aload_n hx hb (kd dtLw_19 20 rfl) rfl (lv_at hl 3 rfl) ?_
  refine larg_ok C hX hl hk e1 (by omega) (kd dtLw_19 21 rfl) (kd dtLw_19 22 rfl) (kd dtLw_19 23 rfl) (kd dtLw_19 24 rfl) (kd dtLw_19 25 rfl) ?_
  refine kcallVH (n := 1) (b := x) [.int (iI d1)] [] [.int _] (rX11_toss l hfl.1 D aC j.1 h1) (kExt.rf w) j.1.2.1.1.1 F hml hX hZ hfl.2 hl.1 mwX11_toss wmL_157 rfl (by decide) (by decide +kernel) ⟨Nat.le_of_ble_eq_true rfl, Nat.le_of_ble_eq_true rfl⟩ rfl rfl rfl (Nat.le_of_ble_eq_true rfl) (kd dtLw_19 26 rfl) ⟨lroomC hc (Nat.le_of_ble_eq_true rfl), lroomS hc (Nat.le_of_ble_eq_true rfl)⟩ (fun n H locs hn hX => ?_)
  have j1 := j.sk hn
  have hX := j1.asM hX
  refine lv_aload_n hx hb (kd dtLw_19 27 rfl) rfl (lv_at hl 2 rfl) ?_
  refine larg_ok C hX hl hk e1 (by omega) (kd dtLw_19 28 rfl) (kd dtLw_19 29 rfl) (kd dtLw_19 30 rfl) (kd dtLw_19 31 rfl) (kd dtLw_19 32 rfl) ?_
  have E2 := (m_effort j1.2.1.2.2 h1).2
  have j2 := j1.mdl j1.2.1.2.2
  refine kcallV (n := 1) (r := some (x + 237)) [.int (iI d1)] [.int _] [.int _, .int _] (rX12_toss l D aC j1.2.1.1 E2) rfl j1.2.1.1.1 F hml hX hZ hl.1 mwX12_toss wmL_160 rfl (by decide) (by decide +kernel) ⟨Nat.le_of_ble_eq_true rfl, Nat.le_of_ble_eq_true rfl⟩ rfl rfl rfl (Nat.le_of_ble_eq_true rfl) (kd dtLw_19 33 rfl) ⟨lroomC2 hc (Nat.le_of_ble_eq_true rfl), lroomS2 hc (Nat.le_of_ble_eq_true rfl)⟩ (fun H locs hX => ?_)
  refine lv_icmp_eq (tgt := 1495) hx hb (kd dtLw_19 34 rfl) (by decide) (fun _ => ?_) (fun z => absurd rfl z)
  exact kk _ _ _ _ _ _ _ _ _ j2 hX hl (by omega) (by omega)
set_option maxHeartbeats 4000000 in
set_option maxRecDepth 100000 in
theorem lc_element (C : LwC p s m b L xs c D aC) (hfl : l.flags = flags0 ∧ kEx (kA (wZ s)) s) (j : J ow x w S r S) (hX : kX D aC (wZ s) s.heap w H locs) (hl : lv_has ls 8 (lwv b x k)) (hk : 6 * k + 6 ≤ L) (hc : cells ≤ 500000 ∧ slots ≤ 7000000) (kk : LwK p l e s m b below meth c D aC x k cells slots Q) : W p l e room_1 s m #[Value.ref b] below meth c H locs cells slots Q (F0 m 1305 ls []) := by
  obtain ⟨F, hml, hZ, -⟩ := id C
  obtain ⟨hx, hb, -⟩ := id F
  obtain ⟨d1, h1, e1⟩ := i32_of (xs (6 * k + 1))
  obtain ⟨d2, h2, e2⟩ := i32_of (xs (6 * k + 2))
  refine lv_aload_n hx hb (kd dtLw_17 2 rfl) rfl (lv_at hl 3 rfl) ?_
  refine larg_ok C hX hl hk e1 (by omega) (kd dtLw_17 3 rfl) (kd dtLw_17 4 rfl) (kd dtLw_17 5 rfl) (kd dtLw_17 6 rfl) (kd dtLw_17 7 rfl) ?_
  refine larg_ok C hX hl hk e2 (by omega) (kd dtLw_17 8 rfl) (kd dtLw_17 9 rfl) (kd dtLw_17 10 rfl) (kd dtLw_17 11 rfl) (kd dtLw_17 12 rfl) ?_
  refine lv_aload_n hx hb (kd dtLw_17 13 rfl) rfl (lv_at hl 1 rfl) ?_
  refine kcallSH (n := 4) [.ref x, .int (iI d1), .int (iI d2), .ref (x + 255)] [] [.int (iI (aElT S d1 d2))] (rL_element l hfl.1 D aC j h1 h2) elW_ext.1 F hml hX hZ hfl.2 hl.1 mwL_element wmL_140 (by decide +kernel) ⟨Nat.le_of_ble_eq_true rfl, Nat.le_of_ble_eq_true rfl⟩ rfl rfl rfl (Nat.le_of_ble_eq_true rfl) (kd dtLw_17 14 rfl) ⟨lroomC hc (Nat.le_of_ble_eq_true rfl), lroomS hc (Nat.le_of_ble_eq_true rfl)⟩ (fun n H locs hn hX => ?_)
  have j0 : J ow x (elW w x S d1 d2) S r S := by
    unfold elW
    split
    · exact j.sj
    · exact j
  have jv : aElT S d1 d2 = 0 → kJ (kSk (elW w x S d1 d2) n) (x + 255) 0 = (iI (aElV S d1 d2)).toInt64 := fun z => by
    unfold elW
    rw [if_pos z]
    exact if_pos ⟨rfl, rfl⟩
  have j1 := j0.sk hn
  have hX := j1.asM hX
  generalize kSk (elW w x S d1 d2) n = w1 at j1 hX jv
  refine lv_istore (lv' := (5, .int (iI (aElT S d1 d2))) :: lwv b x k) hx hb (kd dtLw_17 15 rfl) hl (by decide) rfl (fun ls hl => ?_)
  have hl' : lv_has ls 8 (lwv b x k) := lv_sub hl [1, 2, 3, 4, 5] rfl
  refine lv_aload_n hx hb (kd dtLw_17 16 rfl) rfl (lv_at hl 3 rfl) ?_
  refine larg_ok C hX hl' hk e1 (by omega) (kd dtLw_17 17 rfl) (kd dtLw_17 18 rfl) (kd dtLw_17 19 rfl) (kd dtLw_17 20 rfl) (kd dtLw_17 21 rfl) ?_
  refine larg_ok C hX hl' hk e2 (by omega) (kd dtLw_17 22 rfl) (kd dtLw_17 23 rfl) (kd dtLw_17 24 rfl) (kd dtLw_17 25 rfl) (kd dtLw_17 26 rfl) ?_
  obtain ⟨r2, v, E2, M2, T2, V2⟩ := m_element j1.2.1.2.2 h1 h2
  have j2 := j1.mdl M2
  refine kcallV (n := 2) (r := some (x + 237)) [.int (iI d1), .int (iI d2)] [] [.long v] (rX12_element l D aC j1.2.1.1 E2) rfl j1.2.1.1.1 F hml hX hZ hl.1 mwX12_element wmL_145 rfl (by decide) (by decide +kernel) ⟨Nat.le_of_ble_eq_true rfl, Nat.le_of_ble_eq_true rfl⟩ rfl rfl rfl (Nat.le_of_ble_eq_true rfl) (kd dtLw_17 27 rfl) ⟨lroomC2 hc (Nat.le_of_ble_eq_true rfl), lroomS2 hc (Nat.le_of_ble_eq_true rfl)⟩ (fun H locs hX => ?_)
  refine lv_lstore (lv' := (6, .long v) :: (5, .int (iI (aElT S d1 d2))) :: lwv b x k) hx hb (kd dtLw_17 28 rfl) hl (by decide) rfl (fun ls hl => ?_)
  have hl' : lv_has ls 8 (lwv b x k) := lv_sub hl [2, 3, 4, 5, 6] rfl
  refine lv_aload_n hx hb (kd dtLw_17 29 rfl) rfl (lv_at hl 4 rfl) ?_
  have E3 : fX12_thrown r2 = some (iI (aElT S d1 d2)) := by rw [fX12_thrown, T2]
  refine kcallV (n := 0) (r := some (x + 237)) [] [] [.int (iI (aElT S d1 d2))] (rX12_thrown l D aC j1.2.1.1 E3) rfl j1.2.1.1.1 F hml hX hZ hl.1 mwX12_thrown wmL_146 rfl (by decide) (by decide +kernel) ⟨Nat.le_of_ble_eq_true rfl, Nat.le_of_ble_eq_true rfl⟩ rfl rfl rfl (Nat.le_of_ble_eq_true rfl) (kd dtLw_17 30 rfl) ⟨lroomC2 (mc := 1 + 0) hc (Nat.le_of_ble_eq_true rfl), lroomS2 (ms := 6 + 0) hc (Nat.le_of_ble_eq_true rfl)⟩ (fun H locs hX => ?_)
  refine lv_iload hx hb (kd dtLw_17 31 rfl) (lv_at hl 1 rfl) ?_
  refine lv_icmp_eq (tgt := 1353) hx hb (kd dtLw_17 32 rfl) (by decide) (fun _ => ?_) (fun z => absurd rfl z)
  refine lv_iload hx hb (kd dtLw_17 35 rfl) (lv_at hl 1 rfl) ?_
  have fin : W p l e room_1 s m #[Value.ref b] below meth c H locs (cells + 1 + 0 + 0) (slots + 6 + 0 + 0) Q (F0 m 1369 ls []) := by
    refine lv_goto (tgt := 1495) hx hb (kd dtLw_17 45 rfl) (by decide) ?_
    exact kk _ _ _ _ _ _ _ _ _ j2 hX hl' (by omega) (by omega)
  refine lv_if_ne (tgt := 1369) hx hb (kd dtLw_17 36 rfl) (by decide) (fun _ => fin) (fun z => ?_)
  have z0 : aElT S d1 d2 = 0 := by
    have b3 : aElT S d1 d2 = 0 ∨ aElT S d1 d2 = 1 ∨ aElT S d1 d2 = 2 := by
      unfold aElT
      cases shAt S d1 with
      | none => exact Or.inr (Or.inl rfl)
      | some q =>
        by_cases cq : rRef q = 0 ∧ 0 ≤ d2 ∧ d2 < (rowL q).length
        · exact Or.inl (if_pos cq)
        · exact Or.inr (Or.inr (if_neg cq))
    rcases b3 with b3 | b3 | b3
    · exact b3
    · rw [b3] at z; exact absurd z (by decide +kernel)
    · rw [b3] at z; exact absurd z (by decide +kernel)
  refine lv_aload_n hx hb (kd dtLw_17 37 rfl) rfl (lv_at hl 3 rfl) ?_
  refine lv_iconst (v := 0) hx hb (kd dtLw_17 38 rfl) (by decide) ?_
  have hv : kaJ (rWo (x + 237) w1 r2) (some (x + 255)) 0 = some v := by
    have k15 : kKd (rWo (x + 237) w1 r2) (x + 255) = 15 := j2.2.2.2.1
    have n1 : kLn (rWo (x + 237) w1 r2) (x + 255) = 1 := j2.2.2.2.2
    unfold kaJ
    rw [Option.bind_some, if_pos k15, n1]
    show some (kJ w1 (x + 255) 0) = some v
    rw [jv z0, V2 z0]
  refine klld (r := some (x + 255)) hv F hX (kd dtLw_17 39 rfl) ?_
  refine lv_lload hx hb (kd dtLw_17 40 rfl) (lv_at hl 0 rfl) ?_
  refine W.lcmp hx hb (kd dtLw_17 41 rfl) ?_
  exact lv_if_eq (tgt := 1369) hx hb (kd dtLw_17 42 rfl) (by decide) (fun _ => fin) (fun z => absurd (lgc_0 _) z)
end LWX
