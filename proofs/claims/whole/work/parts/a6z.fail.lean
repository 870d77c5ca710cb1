/-! THROWS: a card's failing -/
def xNs : List String := ["java/lang/RuntimeException", "java/lang/Exception"]
theorem flagsTr {l : Launch} (h : l.flags = flags0) : l.stackTraces = false := by
  unfold Launch.stackTraces
  rw [h]
  decide +kernel
theorem hatOk {args : Array Value} {s : State} {L : List Cond} (hL : L.all (fun w => (goodWord w || kIsX w) && decide (w ∈ lw_tbl)) = true) (hts : ∀ u ∈ kT, u.before args s = true) (hE : ∀ u ∈ lw_tbl, kIsX u = true → va_Nw u s) : ∀ w ∈ L, w.before args s = true := by
  intro w hw
  have h := List.all_eq_true.mp hL w hw
  simp only [Bool.and_eq_true, Bool.or_eq_true, decide_eq_true_eq] at h
  rcases h.1 with g | g
  · exact hts w (List.mem_filter.mpr ⟨h.2, g⟩)
  · have n := hE w h.2 g
    cases w <;> first | (cases g; done) | exact va_Nw.use rfl n
theorem xfitI : Bundle.fit xISE = true := by decide +kernel
theorem xfitA : Bundle.fit xIAE = true := by decide +kernel
theorem xfitN : ∀ n ∈ xNs, Bundle.fit n = true := by decide +kernel
set_option maxRecDepth 100000 in
theorem xat1 : (vx_atS RX0 45 xISE xNs).all (fun w => (goodWord w || kIsX w) && decide (w ∈ lw_tbl)) = true := by decide +kernel
set_option maxRecDepth 100000 in
theorem xat2 : (vx_atS RX11 317 xIAE xNs).all (fun w => (goodWord w || kIsX w) && decide (w ∈ lw_tbl)) = true := by decide +kernel
set_option maxRecDepth 100000 in
theorem xat3 : (vx_atS RX11 327 xISE xNs).all (fun w => (goodWord w || kIsX w) && decide (w ∈ lw_tbl)) = true := by decide +kernel
set_option maxRecDepth 100000 in
theorem xgd1 : (Cond.classLink RX0 41 xISE :: Cond.initialized xISE :: vx_atS RX0 45 xISE xNs).all vx_ot = true := by decide +kernel
set_option maxRecDepth 100000 in
theorem xgd2 : (Cond.classLink RX11 313 xIAE :: Cond.initialized xIAE :: vx_atS RX11 317 xIAE xNs).all vx_ot = true := by decide +kernel
set_option maxRecDepth 100000 in
theorem xgd3 : (Cond.classLink RX11 323 xISE :: Cond.initialized xISE :: vx_atS RX11 327 xISE xNs).all vx_ot = true := by decide +kernel
theorem wkX0_41 : Cond.classLink RX0 41 xISE ∈ kT := kTm 1130 (by decide +kernel) rfl
theorem wkX11_313 : Cond.classLink RX11 313 xIAE ∈ kT := kTm 1209 (by decide +kernel) rfl
theorem wkX11_323 : Cond.classLink RX11 323 xISE ∈ kT := kTm 1125 (by decide +kernel) rfl
theorem wiISE : Cond.initialized xISE ∈ kT := kTm 115 (by decide +kernel) rfl
theorem wiIAE : Cond.initialized xIAE ∈ kT := kTm 114 (by decide +kernel) rfl
def lX0_fail_0 : List (Nat × Instr × Nat) := [(0, .aload_n 0, 1), (1, .getfield 9, 3), (4, .iconst 5, 1), (5, .if_icmp .eq 24, 3), (8, .aload_n 0, 1), (9, .getfield 18, 3), (12, .getfield 35, 3), (15, .iconst 1, 1), (16, .if_icmp .le 13, 3), (19, .new 41, 3), (22, .dup, 1), (23, .ldc 43, 2), (25, .invokespecial 45, 3), (28, .athrow, 1), (29, .return_, 1)]
theorem dtX0_fail_0 : kDec cX0_fail lX0_fail_0 = true := by decide +kernel
set_option maxHeartbeats 4000000 in
set_option maxRecDepth 100000 in
theorem rX0_failR (l : Launch) (D : va_G) (aC : Nat → ClassId) {c0 a : Nat} {w : kW} (hk : kKd w c0 = 0) (hp : kP w c0 2 = some a) (ha : kKd w a = 1) (hn : kI w c0 0 = 5 ∨ kI w a 5 ≤ 1) : kC l D aC yX0_fail cX0_fail 1 none 1 12 [.ref c0] w none w 0 0 := by
  refine kOf (own := RX0) (by decide) rfl (Nat.le_of_ble_eq_true rfl) ?_
  intro p e s m below meth c ls F hml hr hlocks hnm hX hZ hl
  obtain ⟨hx, hb, hts, hown, hK⟩ := id F
  have hl : lv_has ls 1 [(0, .ref c0)] := hl
  have g1 : kgI w 0 (some c0) 0 = some (kI w c0 0) := kgI_e hk
  have g2 : kgP w 0 (some c0) 2 = some (some a) := by rw [kgP_e hk, hp]
  have g3 : kgI w 1 (some a) 5 = some (kI w a 5) := kgI_e ha
  refine lv_aload_n hx hb (kd dtX0_fail_0 0 rfl) rfl (lv_at hl 0 rfl) ?_
  refine kgetI (r := some c0) g1 F hX hinX0 rfl rfl rfl (by decide) (by decide) wfX0_9 (kd dtX0_fail_0 1 rfl) ?_
  refine lv_iconst (v := 5) hx hb (kd dtX0_fail_0 2 rfl) (by decide) ?_
  refine lv_icmp_eq (tgt := 29) hx hb (kd dtX0_fail_0 3 rfl) (by decide) (fun _ => ?_) (fun h5 => ?_)
  · exact kvret F hX hr hlocks rfl (kd dtX0_fail_0 14 rfl)
  · refine lv_aload_n hx hb (kd dtX0_fail_0 4 rfl) rfl (lv_at hl 0 rfl) ?_
    refine kgetP (r := some c0) g2 F hX hinX0 rfl rfl rfl (by decide) (by decide) wfX0_18 (kd dtX0_fail_0 5 rfl) ?_
    refine kgetIN g3 F hX hinX1 rfl rfl rfl (by decide) (by decide) hZ wfX0_35 (kd dtX0_fail_0 6 rfl) ?_
    refine lv_iconst (v := 1) hx hb (kd dtX0_fail_0 7 rfl) (by decide) ?_
    refine lv_icmp_le (tgt := 29) hx hb (kd dtX0_fail_0 8 rfl) (by decide) (fun _ => ?_) (fun h1 => ?_)
    · exact kvret F hX hr hlocks rfl (kd dtX0_fail_0 14 rfl)
    · rcases hn with h | h
      · exact absurd h h5
      · exact absurd h h1
set_option maxHeartbeats 4000000 in
set_option maxRecDepth 100000 in
theorem rX0_failT (l : Launch) (hfl : l.flags = flags0) (D : va_G) (aC : Nat → ClassId) {c0 a : Nat} {w : kW} (hk : kKd w c0 = 0) (hp : kP w c0 2 = some a) (ha : kKd w a = 1) (h5 : ¬ kI w c0 0 = 5) (h1 : ¬ kI w a 5 ≤ 1) : vx_Met l yX0_fail (Cond.code yX0_fail cX0_fail 1 none :: kT) { frames := 6, cells := 1, slots := 6, locals := 100 } (kPx D aC [.ref c0] w) (fun _ _ _ _ => False) (kXc D aC w xISE) 1 6 (kA w) := by
  refine kOfX (own := RX0) (by decide) rfl (Nat.le_of_ble_eq_true rfl) ?_
  intro p e s m below meth c ls F hml ht hr hlocks hX hZ hE hl
  obtain ⟨hx, hb, hts, hown, hK⟩ := id F
  obtain ⟨⟨hU, hN⟩, ⟨⟨sa, hsa⟩, -⟩, -, hW⟩ := id hE
  have hl : lv_has ls 1 [(0, .ref c0)] := hl
  have g1 : kgI w 0 (some c0) 0 = some (kI w c0 0) := kgI_e hk
  have g2 : kgP w 0 (some c0) 2 = some (some a) := by rw [kgP_e hk, hp]
  have g3 : kgI w 1 (some a) 5 = some (kI w a 5) := kgI_e ha
  refine lv_aload_n hx hb (kd dtX0_fail_0 0 rfl) rfl (lv_at hl 0 rfl) ?_
  refine kgetI (r := some c0) g1 F hX hinX0 rfl rfl rfl (by decide) (by decide) wfX0_9 (kd dtX0_fail_0 1 rfl) ?_
  refine lv_iconst (v := 5) hx hb (kd dtX0_fail_0 2 rfl) (by decide) ?_
  refine lv_icmp_eq (tgt := 29) hx hb (kd dtX0_fail_0 3 rfl) (by decide) (fun z => absurd z h5) (fun _ => ?_)
  refine lv_aload_n hx hb (kd dtX0_fail_0 4 rfl) rfl (lv_at hl 0 rfl) ?_
  refine kgetP (r := some c0) g2 F hX hinX0 rfl rfl rfl (by decide) (by decide) wfX0_18 (kd dtX0_fail_0 5 rfl) ?_
  refine kgetIN g3 F hX hinX1 rfl rfl rfl (by decide) (by decide) hZ wfX0_35 (kd dtX0_fail_0 6 rfl) ?_
  refine lv_iconst (v := 1) hx hb (kd dtX0_fail_0 7 rfl) (by decide) ?_
  refine lv_icmp_le (tgt := 29) hx hb (kd dtX0_fail_0 8 rfl) (by decide) (fun z => absurd z h1) (fun _ => ?_)
  refine vx_throwS (own := RX0) (cls := xISE) (names := xNs) hx hb (flagsTr hfl) hown xfitI xfitN (hts _ wkX0_41) (hts _ wiISE) hsa (hatOk xat1 hts hW) (fun w hw => List.all_eq_true.mp xgd1 w hw) hU hN hX.2.1 (hl.1.trans hml.symm) (kd dtX0_fail_0 9 rfl) (kd dtX0_fail_0 10 rfl) (kd dtX0_fail_0 11 rfl) (kd dtX0_fail_0 12 rfl) (kd dtX0_fail_0 13 rfl) (fun x hx => (ht x hx).elim) (by decide) (by decide) (by decide) (by decide) hlocks (fun t _ z q => ?_) (fun z hz => hX.2.1.2.2 z hz) (by decide) (by decide)
  exact ⟨rfl, ⟨t.heap.size, by rw [← hX.1.1]; exact z, kH_sk hX.1 rfl q⟩, ⟨z, fun q' h _ => q q' h⟩⟩
