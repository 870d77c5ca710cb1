/-! THE LAW: from its entry -/
set_option maxRecDepth 100000 in
theorem v2_z : (fX11_init 0 (kNw vE 11 0)).map kSz = some 237 := by decide +kernel
theorem st_parts {w : kW} : ∃ w2 w4, fX11_init (kSz w) (kNw w 11 0) = some w2 ∧ kSz w2 = kSz w + 237 ∧ fX12_init (kSz w2) (kNw w2 12 0) = some w4 ∧ kSz w4 = kSz w + 255 ∧ knA w4 15 (1 : Int32) = some (Rl (kSz w) w vF) := by
  have h := stF_at (w := w)
  rw [stF] at h
  obtain ⟨w1, h1, h⟩ := kbind h
  obtain rfl := Option.some.inj h1
  obtain ⟨w2, h2, h⟩ := kbind h
  obtain ⟨w3, h3, h⟩ := kbind h
  obtain rfl := Option.some.inj h3
  obtain ⟨w4, h4, h⟩ := kbind h
  obtain ⟨v2, e1, e2⟩ := Option.map_eq_some_iff.mp v2_z
  have g := (sX11_init (x := kSz w) (wB := w) (w := kNw vE 11 0) (vE_ve.nw) (x0 := 0) v2 e1).2
  rw [← Rl_Nw, Rl_0] at g
  have g' : fX11_init (kSz w) (kNw w 11 0) = some (Rl (kSz w) w v2) := g
  have e3 : w2 = Rl (kSz w) w v2 := Option.some.inj (h2.symm.trans g')
  have z2 : kSz w2 = kSz w + 237 := by
    rw [e3]
    show kSz w + kSz v2 = _
    rw [e2]
  have z4 : kSz w4 = kSz w + 255 := by
    unfold knA at h
    rw [if_neg (by decide)] at h
    have h5 := congrArg kSz (Option.some.inj h)
    have h6 : kSz w4 + 1 = kSz w + kSz vF := h5
    rw [vF_z] at h6
    omega
  exact ⟨w2, w4, h2, z2, h4, z4, h⟩
theorem wkL_8 : Cond.classLink RL 8 RX11 ∈ kT := kTm 117 (by decide +kernel) rfl
theorem wkL_18 : Cond.classLink RL 18 RX12 ∈ kT := kTm 1228 (by decide +kernel) rfl
theorem wiX12 : Cond.initialized RX12 ∈ kT := kTm 106 (by decide +kernel) rfl
theorem wmL_17 : Cond.methodLink RL 17 yX11_init ∈ kT := kTm 119 (by decide +kernel) rfl
theorem wmL_20 : Cond.methodLink RL 20 yX12_init ∈ kT := kTm 1230 (by decide +kernel) rfl
theorem mwX11_init : kMI yX11_init cX11_init 2 := ⟨kTm 121 (by decide +kernel) rfl, kTm 94 (by decide +kernel) rfl, kTm 120 (by decide +kernel) rfl⟩
theorem mwX12_init : kMI yX12_init cX12_init 1 := ⟨kTm 1232 (by decide +kernel) rfl, kTm 106 (by decide +kernel) rfl, kTm 1231 (by decide +kernel) rfl⟩
set_option maxHeartbeats 4000000 in
set_option maxRecDepth 100000 in
theorem whole_start {p : Program} {e : Env} {s : State} {m : MethodId} {below : List Frame} {meth : Method} {c : Code} (l : Launch) (hflags : l.flags = flags0) {b L : Nat} {xs : Nat → Int32} (hL : L ≤ 3072) (C0 : lw_At p s m meth c b L xs) : W p l e room_1 s m #[Value.ref b] below meth c s.heap [] 0 0 (lw_Z below #[Value.ref b] s) (entryFrame m ([Value.ref b] : List Value).toArray 8) := by
  obtain ⟨hx, hb, hr, hml, hown, hts, hV, hbl, hlocks, hgv⟩ := id C0
  obtain ⟨D, aC, hK⟩ := kkStart hts
  have hZ := kzStart hts hgv
  have F : kFx p c code s #[Value.ref b] RL m D aC := ⟨hx, hb, fun u hu => hts u (kT_tbl hu), hown, hK⟩
  have C : LwC p s m b L xs c D aC := ⟨F, hml, hZ, hV, hbl, hL⟩
  have hX : kX D aC (wZ s) s.heap (wZ s) s.heap [] := ⟨wzH, va_S.rf, kExt.rf _, rfl⟩
  obtain ⟨w2, w4, p2, z2, p4, z4, p5⟩ := st_parts (w := wZ s)
  have hl := lv_entry ([.ref b]) (n := 8) (Nat.le_of_ble_eq_true rfl)
  rw [lg_entry_eq]
  generalize (lg_sl ([.ref b]) ++ List.replicate (8 - (lg_sl ([.ref b])).length) Slot.unset).toArray = ls at hl ⊢
  have hl : lv_has ls 8 [(0, .ref b)] := hl
  refine knewo (k := 11) (w' := kNw (wZ s) 11 0) rfl F hX hinX11 tyX11_ok (by decide +kernel) rfl rfl (by decide) wkL_8 wnX11 wiX11 (Nat.le_of_ble_eq_true rfl) (Nat.le_of_ble_eq_true rfl) (kd dtLw_0 0 rfl) (fun H hX => ?_)
  refine lv_dup hx hb (kd dtLw_0 1 rfl) rfl ?_
  refine kcallI (n := 0) [] [.ref (kSz (wZ s))] [.ref (kSz (wZ s))] (rX11_init l D aC p2) F hml hX hZ hl.1 mwX11_init wmL_17 rfl (by decide +kernel) ⟨Nat.le_of_ble_eq_true rfl, Nat.le_of_ble_eq_true rfl⟩ rfl rfl rfl (Nat.le_of_ble_eq_true rfl) (kd dtLw_0 2 rfl) ⟨Nat.le_of_ble_eq_true rfl, Nat.le_of_ble_eq_true rfl⟩ (fun H locs hX => ?_)
  refine lv_astore_n (lv' := [(1, .ref (kSz (wZ s))), (0, .ref b)]) hx hb (kd dtLw_0 3 rfl) rfl hl (by decide) rfl (fun ls hl => ?_)
  refine knewo (k := 12) (w' := kNw w2 12 0) rfl F hX hinX12 tyX12_ok (by decide +kernel) rfl rfl (by decide) wkL_18 wnX12 wiX12 (Nat.le_of_ble_eq_true rfl) (Nat.le_of_ble_eq_true rfl) (kd dtLw_0 4 rfl) (fun H hX => ?_)
  refine lv_dup hx hb (kd dtLw_0 5 rfl) rfl ?_
  refine kcallI (n := 0) [] [.ref (kSz w2)] [.ref (kSz w2)] (rX12_init l D aC p4) F hml hX hZ hl.1 mwX12_init wmL_20 rfl (by decide +kernel) ⟨Nat.le_of_ble_eq_true rfl, Nat.le_of_ble_eq_true rfl⟩ rfl rfl rfl (Nat.le_of_ble_eq_true rfl) (kd dtLw_0 6 rfl) ⟨Nat.le_of_ble_eq_true rfl, Nat.le_of_ble_eq_true rfl⟩ (fun H locs hX => ?_)
  refine lv_astore_n (lv' := [(2, .ref (kSz w2)), (1, .ref (kSz (wZ s))), (0, .ref b)]) hx hb (kd dtLw_0 7 rfl) rfl hl (by decide) rfl (fun ls hl => ?_)
  refine lv_iconst (v := 1) hx hb (kd dtLw_0 8 rfl) (by decide) ?_
  refine knewa (mx := 1) p5 rfl (fun _ => rfl) (by decide) (by decide) F hX wA15 (by decide) (by decide) (Nat.le_of_ble_eq_true rfl) (Nat.le_of_ble_eq_true rfl) (kd dtLw_0 9 rfl) (fun H hX => ?_)
  refine lv_astore_n (lv' := [(3, .ref (kSz w4)), (2, .ref (kSz w2)), (1, .ref (kSz (wZ s))), (0, .ref b)]) hx hb (kd dtLw_0 10 rfl) rfl hl (by decide) rfl (fun ls hl => ?_)
  refine lv_iconst (v := iI 0) hx hb (kd dtLw_0 11 rfl) (by decide +kernel) ?_
  refine lv_istore (lv' := [(4, .int (iI 0)), (3, .ref (kSz w4)), (2, .ref (kSz w2)), (1, .ref (kSz (wZ s))), (0, .ref b)]) hx hb (kd dtLw_0 12 rfl) hl (by decide) rfl (fun ls hl => ?_)
  rw [z2, z4] at hl
  exact law_loop C ⟨hflags, kxStart hts hgv⟩ hr hlocks 513 0 _ _ S0 _ _ _ _ _ ls (by omega) (by omega) (j_start (w := wZ s) (x := kSz (wZ s)) (fun _ => rfl)) hX hl (by decide) (by decide)
