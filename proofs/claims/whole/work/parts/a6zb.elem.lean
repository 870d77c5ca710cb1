/-! THROWS: an element -/
theorem rRef_z {q : Sh} (h : rRef q = 0) : ∃ so l, q = some (.inr (so, l)) := by
  cases q with
  | none => exact absurd h (by decide)
  | some q =>
    cases q with
    | inl q => exact absurd h (by show ¬ ((-12 : Int) = 0); decide)
    | inr q => exact ⟨q.1, q.2, rfl⟩
theorem wmX11_320 : Cond.methodLink RX11 320 yX6_hasPlace ∈ kT := kTm 1225 (by decide +kernel) rfl
def lX11_element_0 : List (Nat × Instr × Nat) := [(0, .aload_n 0, 1), (1, .iload_n 1, 1), (2, .invokevirtual 99, 3), (5, .astore_n 3, 1), (6, .aload_n 3, 1), (7, .ifnonnull 14, 3), (10, .new 313, 3), (13, .dup, 1), (14, .ldc_w 315, 3), (17, .invokespecial 317, 3), (20, .athrow, 1), (21, .aload_n 3, 1), (22, .invokevirtual 307, 3), (25, .ifCond .ne 11, 3), (28, .aload_n 3, 1), (29, .iload_n 2, 1), (30, .invokevirtual 320, 3), (33, .ifCond .ne 14, 3), (36, .new 323, 3), (39, .dup, 1), (40, .ldc_w 325, 3), (43, .invokespecial 327, 3), (46, .athrow, 1), (47, .aload_n 3, 1), (48, .iload_n 2, 1), (49, .invokevirtual 328, 3), (52, .i2l, 1), (53, .lreturn, 1)]
theorem dtX11_element_0 : kDec cX11_element lX11_element_0 = true := by decide +kernel
set_option maxHeartbeats 4000000 in
set_option maxRecDepth 100000 in
theorem rX11_elemR (l : Launch) (D : va_G) (aC : Nat → ClassId) {ow : Nat → Nat × Nat} {x : Nat} {w : kW} {S : AS} (h : Kc ow x w S) {d i : Int} (hd : I32 d) (hi : I32 i) (h0 : aElT S d i = 0) : kC l D aC yX11_element cX11_element 4 (some .long) 8 300 [.ref x, .int (iI d), .int (iI i)] w (some (.long (iI (aElV S d i)).toInt64)) w 0 0 := by
  refine kOf (own := RX11) (by decide) rfl (Nat.le_of_ble_eq_true rfl) ?_
  intro p e s m below meth c ls F hml hr hlocks hnm hX hZ hl
  obtain ⟨hx, hb, hts, hown, hK⟩ := id F
  have hl : lv_has ls 4 [(0, .ref x), (1, .int (iI d)), (2, .int (iI i))] := hl
  have hkx : kKd w x = 11 := h.2.1.1.1
  obtain ⟨s1, s2⟩ := shelfAt_ok h hd
  unfold aElT at h0
  unfold aElV
  cases hs : shAt S d with
  | none => rw [hs] at h0; exact absurd (show (1 : Int) = 0 from h0) (by decide)
  | some q =>
    rw [hs] at h0
    have h0' : (if rRef q = 0 ∧ 0 ≤ i ∧ i < (rowL q).length then (0 : Int) else 2) = 0 := h0
    by_cases cq : rRef q = 0 ∧ 0 ≤ i ∧ i < (rowL q).length
    · obtain ⟨r0, i0, i1⟩ := cq
      obtain ⟨so, lw, rfl⟩ := rRef_z r0
      obtain ⟨e1, o1, d8, -⟩ := s2 _ hs
      have hks := o1.1.1
      have i1' : i < lw.length := i1
      have hp := hasPlace_ok o1 hi
      rw [decide_eq_true (by omega)] at hp
      refine lv_aload_n hx hb (kd dtX11_element_0 0 rfl) rfl (lv_at hl 0 rfl) ?_
      refine lv_iload_n hx hb (kd dtX11_element_0 1 rfl) rfl (lv_at hl 1 rfl) ?_
      refine kcallV (n := 1) (r := some x) [.int (iI d)] [] [.ref (x + 221 + 2 * d.toNat)] (rX11_shelfAt l D aC e1) rfl hkx F hml hX hZ hl.1 mwX11_shelfAt wmX11_99 rfl (by decide) (by decide +kernel) ⟨(by decide), (by decide)⟩ rfl rfl rfl (Nat.le_of_ble_eq_true rfl) (kd dtX11_element_0 2 rfl) ⟨Nat.zero_le _, Nat.zero_le _⟩ (fun H locs hX => ?_)
      refine lv_astore_n (lv' := [(3, .ref (x + 221 + 2 * d.toNat)), (0, .ref x), (1, .int (iI d)), (2, .int (iI i))]) hx hb (kd dtX11_element_0 3 rfl) rfl hl (by decide) rfl (fun ls hl => ?_)
      refine lv_aload_n hx hb (kd dtX11_element_0 4 rfl) rfl (lv_at hl 0 rfl) ?_
      refine lv_ifnonnull (tgt := 21) hx hb (kd dtX11_element_0 5 rfl) (by decide) ?_
      refine lv_aload_n hx hb (kd dtX11_element_0 11 rfl) rfl (lv_at hl 0 rfl) ?_
      refine kcallV (n := 0) (r := some (x + 221 + 2 * d.toNat)) [] [] [.int (iI (rRef (some (.inr (so, lw)))))] (rX6_rowRefusal l D aC (rowRef_ok o1)) rfl hks F hml hX hZ hl.1 mwX6_rowRefusal wmX11_307 rfl (by decide) (by decide +kernel) ⟨(by decide), (by decide)⟩ rfl rfl rfl (Nat.le_of_ble_eq_true rfl) (kd dtX11_element_0 12 rfl) ⟨Nat.zero_le _, Nat.zero_le _⟩ (fun H locs hX => ?_)
      refine lv_if_ne (tgt := 36) hx hb (kd dtX11_element_0 13 rfl) (by decide) (fun z => absurd (show iI 0 = 0 by decide +kernel) z) (fun _ => ?_)
      refine lv_aload_n hx hb (kd dtX11_element_0 14 rfl) rfl (lv_at hl 0 rfl) ?_
      refine lv_iload_n hx hb (kd dtX11_element_0 15 rfl) rfl (lv_at hl 3 rfl) ?_
      refine kcallV (n := 1) (r := some (x + 221 + 2 * d.toNat)) [.int (iI i)] [] [.int (iB true)] (rX6_hasPlace l D aC hp) rfl hks F hml hX hZ hl.1 mwX6_hasPlace wmX11_320 rfl (by decide) (by decide +kernel) ⟨(by decide), (by decide)⟩ rfl rfl rfl (Nat.le_of_ble_eq_true rfl) (kd dtX11_element_0 16 rfl) ⟨Nat.zero_le _, Nat.zero_le _⟩ (fun H locs hX => ?_)
      refine lv_if_ne (tgt := 47) hx hb (kd dtX11_element_0 17 rfl) (by decide) (fun _ => ?_) (fun z => absurd z (by decide +kernel))
      refine lv_aload_n hx hb (kd dtX11_element_0 23 rfl) rfl (lv_at hl 0 rfl) ?_
      refine lv_iload_n hx hb (kd dtX11_element_0 24 rfl) rfl (lv_at hl 3 rfl) ?_
      refine kcallV (n := 1) (r := some (x + 221 + 2 * d.toNat)) [.int (iI i)] [] [.int (iI (elV lw i))] (rX6_elementAt l D aC (elementAt_ok o1 hi)) rfl hks F hml hX hZ hl.1 mwX6_elementAt wmX11_328 rfl (by decide) (by decide +kernel) ⟨(by decide), (by decide)⟩ rfl rfl rfl (Nat.le_of_ble_eq_true rfl) (kd dtX11_element_0 25 rfl) ⟨Nat.zero_le _, Nat.zero_le _⟩ (fun H locs hX => ?_)
      refine lv_i2l hx hb (kd dtX11_element_0 26 rfl) rfl ?_
      exact klret F hX hr hlocks rfl (kd dtX11_element_0 27 rfl)
    · rw [if_neg cq] at h0'
      exact absurd h0' (by decide)
set_option maxHeartbeats 4000000 in
set_option maxRecDepth 100000 in
theorem rX11_elemT1 (l : Launch) (hfl : l.flags = flags0) (D : va_G) (aC : Nat → ClassId) {ow : Nat → Nat × Nat} {x : Nat} {w : kW} {S : AS} (h : Kc ow x w S) {d i : Int} (hd : I32 d) (hs : shAt S d = none) : vx_Met l yX11_element (Cond.code yX11_element cX11_element 4 (some .long) :: kT) { frames := 8, cells := 1, slots := 6, locals := 300 } (kPx D aC [.ref x, .int (iI d), .int (iI i)] w) (fun _ _ _ _ => False) (kXc D aC w xIAE) 1 6 (kA w) := by
  refine kOfX (own := RX11) (by decide) rfl (Nat.le_of_ble_eq_true rfl) ?_
  intro p e s m below meth c ls F hml ht hr hlocks hX hZ hE hl
  obtain ⟨hx, hb, hts, hown, hK⟩ := id F
  obtain ⟨⟨hU, hN⟩, ⟨-, ⟨sa, hsa⟩, -⟩, -, hW⟩ := id hE
  have hl : lv_has ls 4 [(0, .ref x), (1, .int (iI d)), (2, .int (iI i))] := hl
  have hkx : kKd w x = 11 := h.2.1.1.1
  obtain ⟨s1, -⟩ := shelfAt_ok h hd
  refine lv_aload_n hx hb (kd dtX11_element_0 0 rfl) rfl (lv_at hl 0 rfl) ?_
  refine lv_iload_n hx hb (kd dtX11_element_0 1 rfl) rfl (lv_at hl 1 rfl) ?_
  refine kcallV (n := 1) (r := some x) [.int (iI d)] [] [.null] (rX11_shelfAt l D aC (s1 hs)) rfl hkx F hml hX hZ hl.1 mwX11_shelfAt wmX11_99 rfl (by decide) (by decide +kernel) ⟨(by decide), (by decide)⟩ rfl rfl rfl (Nat.le_of_ble_eq_true rfl) (kd dtX11_element_0 2 rfl) ⟨Nat.le_of_ble_eq_true rfl, Nat.le_of_ble_eq_true rfl⟩ (fun H locs hX => ?_)
  refine kastore_n (r := none) (lv' := [(3, .null), (0, .ref x), (1, .int (iI d)), (2, .int (iI i))]) hx hb (kd dtX11_element_0 3 rfl) rfl hl (by decide) rfl (fun ls hl => ?_)
  refine kaload_n (r := none) hx hb (kd dtX11_element_0 4 rfl) rfl (lv_at hl 0 rfl) ?_
  refine kifnonnull (r := none) (tgt := 21) hx hb (kd dtX11_element_0 5 rfl) (by decide) (fun _ => ?_) (fun z => absurd rfl z)
  refine vx_throwSW (own := RX11) (cls := xIAE) (names := xNs) hx hb (flagsTr hfl) hown xfitA xfitN (hts _ wkX11_313) (hts _ wiIAE) hsa (hatOk xat2 hts hW) (fun w hw => List.all_eq_true.mp xgd2 w hw) hU hN hX.2.1 (hl.1.trans hml.symm) (kd dtX11_element_0 6 rfl) (kd dtX11_element_0 7 rfl) (kd dtX11_element_0 8 rfl) (kd dtX11_element_0 9 rfl) (kd dtX11_element_0 10 rfl) (fun x hx => (ht x hx).elim) (by decide) (by decide) (by decide) (by decide) hlocks (fun t _ z q => ?_) (fun z hz => hX.2.1.2.2 z hz) (by decide) (by decide)
  exact ⟨rfl, ⟨t.heap.size, by rw [← hX.1.1]; exact z, kH_sk hX.1 rfl q⟩, ⟨Nat.le_trans hX.2.1.1 z, fun q' h1 h2 => (q q' (Nat.lt_of_lt_of_le h1 hX.2.1.1)).trans (hX.2.1.2.1 q' h1 h2)⟩⟩
set_option maxHeartbeats 4000000 in
set_option maxRecDepth 100000 in
theorem rX11_elemT2 (l : Launch) (hfl : l.flags = flags0) (D : va_G) (aC : Nat → ClassId) {ow : Nat → Nat × Nat} {x : Nat} {w : kW} {S : AS} (h : Kc ow x w S) {d i : Int} (hd : I32 d) (hi : I32 i) {q : Sh} (hs : shAt S d = some q) (hq : ¬ (rRef q = 0 ∧ 0 ≤ i ∧ i < (rowL q).length)) : vx_Met l yX11_element (Cond.code yX11_element cX11_element 4 (some .long) :: kT) { frames := 8, cells := 1, slots := 6, locals := 300 } (kPx D aC [.ref x, .int (iI d), .int (iI i)] w) (fun _ _ _ _ => False) (kXc D aC w xISE) 1 6 (kA w) := by
  refine kOfX (own := RX11) (by decide) rfl (Nat.le_of_ble_eq_true rfl) ?_
  intro p e s m below meth c ls F hml ht hr hlocks hX hZ hE hl
  obtain ⟨hx, hb, hts, hown, hK⟩ := id F
  obtain ⟨⟨hU, hN⟩, ⟨-, -, ⟨sa, hsa⟩⟩, -, hW⟩ := id hE
  have hl : lv_has ls 4 [(0, .ref x), (1, .int (iI d)), (2, .int (iI i))] := hl
  have hkx : kKd w x = 11 := h.2.1.1.1
  obtain ⟨-, s2⟩ := shelfAt_ok h hd
  obtain ⟨e1, o1, d8, -⟩ := s2 q hs
  have hks := o1.1.1
  have out : ∀ (H : Heap) (locs : List Loc) (ls : Array Slot), ls.size = 4 → kX D aC w s.heap w H locs → W p l e { frames := 8, cells := 1, slots := 6, locals := 300 } s m [.ref x, .int (iI d), .int (iI i)].toArray below meth c H locs 0 0 (vx_MQ below (fun _ _ _ _ => False) (kXc D aC w xISE) [.ref x, .int (iI d), .int (iI i)].toArray s 1 6 (kA w)) (F0 m 36 ls []) := by
    intro H locs ls hl4 hX
    refine vx_throwSW (own := RX11) (cls := xISE) (names := xNs) hx hb (flagsTr hfl) hown xfitI xfitN (hts _ wkX11_323) (hts _ wiISE) hsa (hatOk xat3 hts hW) (fun w hw => List.all_eq_true.mp xgd3 w hw) hU hN hX.2.1 (hl4.trans hml.symm) (kd dtX11_element_0 18 rfl) (kd dtX11_element_0 19 rfl) (kd dtX11_element_0 20 rfl) (kd dtX11_element_0 21 rfl) (kd dtX11_element_0 22 rfl) (fun x hx => (ht x hx).elim) (by decide) (by decide) (by decide) (by decide) hlocks (fun t _ z q => ?_) (fun z hz => hX.2.1.2.2 z hz) (by decide) (by decide)
    exact ⟨rfl, ⟨t.heap.size, by rw [← hX.1.1]; exact z, kH_sk hX.1 rfl q⟩, ⟨Nat.le_trans hX.2.1.1 z, fun q' h1 h2 => (q q' (Nat.lt_of_lt_of_le h1 hX.2.1.1)).trans (hX.2.1.2.1 q' h1 h2)⟩⟩
  refine lv_aload_n hx hb (kd dtX11_element_0 0 rfl) rfl (lv_at hl 0 rfl) ?_
  refine lv_iload_n hx hb (kd dtX11_element_0 1 rfl) rfl (lv_at hl 1 rfl) ?_
  refine kcallV (n := 1) (r := some x) [.int (iI d)] [] [.ref (x + 221 + 2 * d.toNat)] (rX11_shelfAt l D aC e1) rfl hkx F hml hX hZ hl.1 mwX11_shelfAt wmX11_99 rfl (by decide) (by decide +kernel) ⟨(by decide), (by decide)⟩ rfl rfl rfl (Nat.le_of_ble_eq_true rfl) (kd dtX11_element_0 2 rfl) ⟨Nat.le_of_ble_eq_true rfl, Nat.le_of_ble_eq_true rfl⟩ (fun H locs hX => ?_)
  refine lv_astore_n (lv' := [(3, .ref (x + 221 + 2 * d.toNat)), (0, .ref x), (1, .int (iI d)), (2, .int (iI i))]) hx hb (kd dtX11_element_0 3 rfl) rfl hl (by decide) rfl (fun ls hl => ?_)
  refine lv_aload_n hx hb (kd dtX11_element_0 4 rfl) rfl (lv_at hl 0 rfl) ?_
  refine lv_ifnonnull (tgt := 21) hx hb (kd dtX11_element_0 5 rfl) (by decide) ?_
  refine lv_aload_n hx hb (kd dtX11_element_0 11 rfl) rfl (lv_at hl 0 rfl) ?_
  refine kcallV (n := 0) (r := some (x + 221 + 2 * d.toNat)) [] [] [.int (iI (rRef q))] (rX6_rowRefusal l D aC (rowRef_ok o1)) rfl hks F hml hX hZ hl.1 mwX6_rowRefusal wmX11_307 rfl (by decide) (by decide +kernel) ⟨(by decide), (by decide)⟩ rfl rfl rfl (Nat.le_of_ble_eq_true rfl) (kd dtX11_element_0 12 rfl) ⟨Nat.le_of_ble_eq_true rfl, Nat.le_of_ble_eq_true rfl⟩ (fun H locs hX => ?_)
  refine lv_if_ne (tgt := 36) hx hb (kd dtX11_element_0 13 rfl) (by decide) (fun _ => out _ _ _ hl.1 hX) (fun z => ?_)
  have r0 : rRef q = 0 := by
    have b : rRef q = 0 ∨ rRef q = -11 ∨ rRef q = -12 := by
      cases q with
      | none => exact Or.inr (Or.inl rfl)
      | some q =>
        cases q with
        | inl q => exact Or.inr (Or.inr rfl)
        | inr q => exact Or.inl rfl
    rcases b with b | b | b
    · exact b
    · rw [b] at z; exact absurd z (by decide +kernel)
    · rw [b] at z; exact absurd z (by decide +kernel)
  obtain ⟨so, lw, rfl⟩ := rRef_z r0
  have hp := hasPlace_ok o1 hi
  have hq' : ¬ (0 ≤ i ∧ i < lw.length) := fun z => hq ⟨r0, z⟩
  rw [decide_eq_false hq'] at hp
  refine lv_aload_n hx hb (kd dtX11_element_0 14 rfl) rfl (lv_at hl 0 rfl) ?_
  refine lv_iload_n hx hb (kd dtX11_element_0 15 rfl) rfl (lv_at hl 3 rfl) ?_
  refine kcallV (n := 1) (r := some (x + 221 + 2 * d.toNat)) [.int (iI i)] [] [.int (iB false)] (rX6_hasPlace l D aC hp) rfl hks F hml hX hZ hl.1 mwX6_hasPlace wmX11_320 rfl (by decide) (by decide +kernel) ⟨(by decide), (by decide)⟩ rfl rfl rfl (Nat.le_of_ble_eq_true rfl) (kd dtX11_element_0 16 rfl) ⟨Nat.le_of_ble_eq_true rfl, Nat.le_of_ble_eq_true rfl⟩ (fun H locs hX => ?_)
  exact lv_if_ne (tgt := 47) hx hb (kd dtX11_element_0 17 rfl) (by decide) (fun z => absurd (by decide +kernel) z) (fun _ => out _ _ _ hl.1 hX)
