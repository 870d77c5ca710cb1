/-! THE LAW: its loop -/
theorem and31 (v : Int32) : ∃ n : Nat, n < 32 ∧ v &&& 31 = iI n := by
  refine ⟨(v.toBitVec &&& 31#32).toNat, ?_, ?_⟩
  · rw [BitVec.toNat_and]
    exact Nat.lt_of_le_of_lt Nat.and_le_right (by decide)
  · apply Int32.toBitVec_inj.mp
    show v.toBitVec &&& 31#32 = BitVec.ofInt 32 _
    rw [BitVec.ofInt_natCast, BitVec.ofNat_toNat, BitVec.setWidth_eq]
section LWL
variable {p : Program} {l : Launch} {e : Env} {s : State} {m : MethodId} {below : List Frame} {meth : Method} {c : Code} {H : Heap} {locs : List Loc} {cells slots : Nat} {Q : State → Prop}
variable {ls : Array Slot} {D : va_G} {aC : Nat → ClassId} {b L x k : Nat} {xs : Nat → Int32} {ow : Nat → Nat × Nat} {w : kW} {S : AS} {r : rW}
set_option maxHeartbeats 4000000 in
set_option maxRecDepth 100000 in
theorem law_case (C : LwC p s m b L xs c D aC) (hfl : l.flags = flags0 ∧ kEx (kA (wZ s)) s) (j : J ow x w S r S) (hX : kX D aC (wZ s) s.heap w H locs) (hl : lv_has ls 8 (lwv b x k)) (hk : 6 * k + 6 ≤ L) (hc : cells ≤ 500000 ∧ slots ≤ 7000000) (kk : LwK p l e s m b below meth c D aC x k cells slots Q) {n : Nat} (hn : n < 32) : W p l e room_1 s m #[Value.ref b] below meth c H locs cells slots Q (F0 m 40 ls [.int (iI n)]) := by
  obtain ⟨F, hml, hZ, -⟩ := id C
  obtain ⟨hx, hb, -⟩ := id F
  rcases (show n = 0 ∨ n = 1 ∨ n = 2 ∨ n = 3 ∨ n = 4 ∨ n = 5 ∨ n = 6 ∨ n = 7 ∨ n = 8 ∨ n = 9 ∨ n = 10 ∨ n = 11 ∨ n = 12 ∨ n = 13 ∨ n = 14 ∨ n = 15 ∨ n = 16 ∨ n = 17 ∨ n = 18 ∨ n = 19 ∨ n = 20 ∨ n = 21 ∨ n = 22 ∨ n = 23 ∨ n = 24 ∨ n = 25 ∨ n = 26 ∨ n = 27 ∨ n = 28 ∨ n = 29 ∨ n = 30 ∨ n = 31 by omega) with rfl | rfl | rfl | rfl | rfl | rfl | rfl | rfl | rfl | rfl | rfl | rfl | rfl | rfl | rfl | rfl | rfl | rfl | rfl | rfl | rfl | rfl | rfl | rfl | rfl | rfl | rfl | rfl | rfl | rfl | rfl | rfl
  · refine lv_tableIn (off := 144) (tgt := 184) hx hb (kd dtLw_0 24 rfl) (by decide +kernel) (by decide +kernel) (by decide +kernel) (by decide) ?_
    exact lc_fault C j hX hl hk hc kk
  · refine lv_tableIn (off := 169) (tgt := 209) hx hb (kd dtLw_0 24 rfl) (by decide +kernel) (by decide +kernel) (by decide +kernel) (by decide) ?_
    exact lc_line C j hX hl hk hc kk
  · refine lv_tableIn (off := 194) (tgt := 234) hx hb (kd dtLw_0 24 rfl) (by decide +kernel) (by decide +kernel) (by decide +kernel) (by decide) ?_
    exact lc_of C j hX hl hk hc kk
  · refine lv_tableIn (off := 231) (tgt := 271) hx hb (kd dtLw_0 24 rfl) (by decide +kernel) (by decide +kernel) (by decide +kernel) (by decide) ?_
    exact lc_letter C j hX hl hk hc kk
  · refine lv_tableIn (off := 268) (tgt := 308) hx hb (kd dtLw_0 24 rfl) (by decide +kernel) (by decide +kernel) (by decide +kernel) (by decide) ?_
    exact lc_give C j hX hl hk hc kk
  · refine lv_tableIn (off := 293) (tgt := 333) hx hb (kd dtLw_0 24 rfl) (by decide +kernel) (by decide +kernel) (by decide +kernel) (by decide) ?_
    exact lc_table C j hX hl hk hc kk
  · refine lv_tableIn (off := 318) (tgt := 358) hx hb (kd dtLw_0 24 rfl) (by decide +kernel) (by decide +kernel) (by decide +kernel) (by decide) ?_
    exact lc_pair C j hX hl hk hc kk
  · refine lv_tableIn (off := 367) (tgt := 407) hx hb (kd dtLw_0 24 rfl) (by decide +kernel) (by decide +kernel) (by decide +kernel) (by decide) ?_
    exact lc_widest C j hX hl hk hc kk
  · refine lv_tableIn (off := 416) (tgt := 456) hx hb (kd dtLw_0 24 rfl) (by decide +kernel) (by decide +kernel) (by decide +kernel) (by decide) ?_
    exact lc_must C j hX hl hk hc kk
  · refine lv_tableIn (off := 477) (tgt := 517) hx hb (kd dtLw_0 24 rfl) (by decide +kernel) (by decide +kernel) (by decide +kernel) (by decide) ?_
    exact lc_step C j hX hl hk hc kk
  · refine lv_tableIn (off := 538) (tgt := 578) hx hb (kd dtLw_0 24 rfl) (by decide +kernel) (by decide +kernel) (by decide +kernel) (by decide) ?_
    exact lc_check C j hX hl hk hc kk
  · refine lv_tableIn (off := 599) (tgt := 639) hx hb (kd dtLw_0 24 rfl) (by decide +kernel) (by decide +kernel) (by decide +kernel) (by decide) ?_
    exact lc_from C j hX hl hk hc kk
  · refine lv_tableIn (off := 636) (tgt := 676) hx hb (kd dtLw_0 24 rfl) (by decide +kernel) (by decide +kernel) (by decide +kernel) (by decide) ?_
    exact lc_program C j hX hl hk hc kk
  · refine lv_tableIn (off := 661) (tgt := 701) hx hb (kd dtLw_0 24 rfl) (by decide +kernel) (by decide +kernel) (by decide +kernel) (by decide) ?_
    exact lc_run C j hX hl hk hc kk
  · refine lv_tableIn (off := 710) (tgt := 750) hx hb (kd dtLw_0 24 rfl) (by decide +kernel) (by decide +kernel) (by decide +kernel) (by decide) ?_
    exact lc_need C j hX hl hk hc kk
  · refine lv_tableIn (off := 771) (tgt := 811) hx hb (kd dtLw_0 24 rfl) (by decide +kernel) (by decide +kernel) (by decide +kernel) (by decide) ?_
    exact lc_show C j hX hl hk hc kk
  · refine lv_tableIn (off := 808) (tgt := 848) hx hb (kd dtLw_0 24 rfl) (by decide +kernel) (by decide +kernel) (by decide +kernel) (by decide) ?_
    exact lc_tree C j hX hl hk hc kk
  · refine lv_tableIn (off := 845) (tgt := 885) hx hb (kd dtLw_0 24 rfl) (by decide +kernel) (by decide +kernel) (by decide +kernel) (by decide) ?_
    exact lc_height C j hX hl hk hc kk
  · refine lv_tableIn (off := 870) (tgt := 910) hx hb (kd dtLw_0 24 rfl) (by decide +kernel) (by decide +kernel) (by decide +kernel) (by decide) ?_
    exact lc_never C j hX hl hk hc kk
  · refine lv_tableIn (off := 884) (tgt := 924) hx hb (kd dtLw_0 24 rfl) (by decide +kernel) (by decide +kernel) (by decide +kernel) (by decide) ?_
    exact lc_order C j hX hl hk hc kk
  · refine lv_tableIn (off := 933) (tgt := 973) hx hb (kd dtLw_0 24 rfl) (by decide +kernel) (by decide +kernel) (by decide +kernel) (by decide) ?_
    exact lc_bestOrder C j hX hl hk hc kk
  · refine lv_tableIn (off := 982) (tgt := 1022) hx hb (kd dtLw_0 24 rfl) (by decide +kernel) (by decide +kernel) (by decide +kernel) (by decide) ?_
    exact lc_slips C j hX hl hk hc kk
  · refine lv_tableIn (off := 1055) (tgt := 1095) hx hb (kd dtLw_0 24 rfl) (by decide +kernel) (by decide +kernel) (by decide +kernel) (by decide) ?_
    exact lc_image C j hX hl hk hc kk
  · refine lv_tableIn (off := 1068) (tgt := 1108) hx hb (kd dtLw_0 24 rfl) (by decide +kernel) (by decide +kernel) (by decide +kernel) (by decide) ?_
    exact lc_restore C j hX hl hk hc kk
  · refine lv_tableIn (off := 1081) (tgt := 1121) hx hb (kd dtLw_0 24 rfl) (by decide +kernel) (by decide +kernel) (by decide +kernel) (by decide) ?_
    exact lc_count C j hX hl hk hc kk
  · refine lv_tableIn (off := 1106) (tgt := 1146) hx hb (kd dtLw_0 24 rfl) (by decide +kernel) (by decide +kernel) (by decide +kernel) (by decide) ?_
    exact lc_keep C j hX hl hk hc kk
  · refine lv_tableIn (off := 1167) (tgt := 1207) hx hb (kd dtLw_0 24 rfl) (by decide +kernel) (by decide +kernel) (by decide +kernel) (by decide) ?_
    exact lc_row C j hX hl hk hc kk
  · refine lv_tableIn (off := 1216) (tgt := 1256) hx hb (kd dtLw_0 24 rfl) (by decide +kernel) (by decide +kernel) (by decide +kernel) (by decide) ?_
    exact lc_put C j hX hl hk hc kk
  · refine lv_tableIn (off := 1265) (tgt := 1305) hx hb (kd dtLw_0 24 rfl) (by decide +kernel) (by decide +kernel) (by decide +kernel) (by decide) ?_
    exact lc_element C hfl j hX hl hk hc kk
  · refine lv_tableIn (off := 1332) (tgt := 1372) hx hb (kd dtLw_0 24 rfl) (by decide +kernel) (by decide +kernel) (by decide +kernel) (by decide) ?_
    exact lc_copy C j hX hl hk hc kk
  · refine lv_tableIn (off := 1405) (tgt := 1445) hx hb (kd dtLw_0 24 rfl) (by decide +kernel) (by decide +kernel) (by decide +kernel) (by decide) ?_
    exact lc_effort C j hX hl hk hc kk
  · refine lv_tableIn (off := 1430) (tgt := 1470) hx hb (kd dtLw_0 24 rfl) (by decide +kernel) (by decide +kernel) (by decide +kernel) (by decide) ?_
    exact lc_toss C hfl j hX hl hk hc kk
set_option maxHeartbeats 4000000 in
set_option maxRecDepth 100000 in
theorem law_loop (C : LwC p s m b L xs c D aC) (hfl : l.flags = flags0 ∧ kEx (kA (wZ s)) s) (hr : meth.sig.returnType = ret) (hlocks : meth.locks = false) : ∀ (n k : Nat) (ow : Nat → Nat × Nat) (w : kW) (S : AS) (r : rW) (H : Heap) (locs : List Loc) (cells slots : Nat) (ls : Array Slot), 6 * k ≤ L → 513 ≤ k + n → J ow x w S r S → kX D aC (wZ s) s.heap w H locs → lv_has ls 8 (lwv b x k) → cells ≤ 1000 + 16 * k → slots ≤ 100000 + 1200 * k → W p l e room_1 s m #[Value.ref b] below meth c H locs cells slots (lw_Z below #[Value.ref b] s) (F0 m 23 ls []) := by
  obtain ⟨F, hml, hZ, hV, hbl, hL⟩ := id C
  obtain ⟨hx, hb, -⟩ := id F
  have hb' : ¬ kA (wZ s) b := fun z => by have := wzA z; omega
  intro n
  induction n with
  | zero =>
    intro k ow w S r H locs cells slots ls h1 h2
    omega
  | succ n ih =>
    intro k ow w S r H locs cells slots ls h1 h2 j hX hl h3 h4
    refine lv_iload hx hb (kd dtLw_0 13 rfl) (lv_at hl 0 rfl) ?_
    refine lv_aload_n hx hb (kd dtLw_0 14 rfl) rfl (lv_at hl 4 rfl) ?_
    refine va_slen hx hb hV hbl hb' hX.2.1 (kd dtLw_0 15 rfl) ?_
    refine lv_bipush (v := iI 6) hx hb (kd dtLw_0 16 rfl) (by decide +kernel) ?_
    refine lv_isub hx hb (kd dtLw_0 17 rfl) ?_
    have eL : Int32.ofNat L - iI 6 = iI ((L : Int) - 6) := by
      have : Int32.ofNat L = iI (L : Int) := rfl
      rw [this, iI_sub]
    rw [eL]
    refine lv_icmp_gt (tgt := 1501) hx hb (kd dtLw_0 18 rfl) (by decide) (fun hc => ?_) (fun hc => ?_)
    · refine lv_iconst (v := 1) hx hb (kd dtLw_19 39 rfl) (by decide) ?_
      refine va_forget (fun q hq => wzA (hX.2.1.2.2 q hq)) ?_
      refine W.widen (k := 601024) (n := 7293034) (by omega) (by omega) ?_
      exact lw_ret hx hb hr hlocks (kd dtLw_19 40 rfl)
    · have hk : 6 * k + 6 ≤ L := by
        rw [iI_lt (by omega) (by omega) (by omega) (by omega)] at hc
        omega
      refine lv_aload_n hx hb (kd dtLw_0 19 rfl) rfl (lv_at hl 4 rfl) ?_
      refine lv_iload hx hb (kd dtLw_0 20 rfl) (lv_at hl 0 rfl) ?_
      have hi : vp_in (iI (6 * k : Nat)) L := vp_in_nI (n := 6 * k) (N := L) (by omega) (by omega)
      refine va_sld hx hb hV hbl hb' hX.2.1 hi (kd dtLw_0 21 rfl) ?_
      refine lv_bipush (v := 31) hx hb (kd dtLw_0 22 rfl) (by decide +kernel) ?_
      refine lv_iand hx hb (kd dtLw_0 23 rfl) ?_
      obtain ⟨v, hv, ev⟩ := and31 (xs (iI (6 * k : Nat)).toNatClampNeg)
      rw [ev]
      refine law_case C hfl j hX hl hk ⟨by omega, by omega⟩ ?_ hv
      intro ow' w' S' r' H' locs' cells' slots' ls' j' hX' hl' c1 c2
      refine lv_iinc (v := iI (6 * (k + 1) : Nat)) (k := 0) (lv' := lwv b x (k + 1)) hx hb (kd dtLw_19 37 rfl) hl' rfl ?_ (by decide) rfl (fun ls hl => ?_)
      · have : Int32.ofInt 6 = iI 6 := rfl
        rw [this, iI_add]
        exact congrArg iI (by omega)
      · refine lv_goto (tgt := 23) hx hb (kd dtLw_19 38 rfl) (by decide) ?_
        exact ih (k + 1) ow' w' S' r' H' locs' cells' slots' ls (by omega) (by omega) j' hX' hl (by omega) (by omega)
end LWL
