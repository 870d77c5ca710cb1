/-! THE LAW: what every turn stands on -/
def LwC (p : Program) (s : State) (m : MethodId) (b L : Nat) (xs : Nat → Int32) (c : Code) (D : va_G) (aC : Nat → ClassId) : Prop := kFx p c code s #[Value.ref b] RL m D aC ∧ c.maxLocals = 8 ∧ kZ (wZ s) s ∧ va_X b L xs s s.heap ∧ b < s.heap.size ∧ L ≤ 3072
def lwv (b x k : Nat) : List (Nat × Value) := [(4, .int (iI (6 * k : Nat))), (3, .ref (x + 255)), (2, .ref (x + 237)), (1, .ref x), (0, .ref b)]
def LwK (p : Program) (l : Launch) (e : Env) (s : State) (m : MethodId) (b : Nat) (below : List Frame) (meth : Method) (c : Code) (D : va_G) (aC : Nat → ClassId) (x k cells slots : Nat) (Q : State → Prop) : Prop := ∀ (ow : Nat → Nat × Nat) (w : kW) (S : AS) (r : rW) (H : Heap) (locs : List Loc) (cells' slots' : Nat) (ls : Array Slot), J ow x w S r S → kX D aC (wZ s) s.heap w H locs → lv_has ls 8 (lwv b x k) → cells' ≤ cells + 16 → slots' ≤ slots + 1200 → W p l e room_1 s m #[Value.ref b] below meth c H locs cells' slots' Q (F0 m 1495 ls [])
theorem i32_of (v : Int32) : ∃ d : Int, I32 d ∧ v = iI d := ⟨v.toInt, ⟨Int32.le_toInt v, Int32.toInt_lt v⟩, (Int32.ofInt_toInt v).symm⟩
theorem lroomC {cells slots mc : Nat} (hc : cells ≤ 500000 ∧ slots ≤ 7000000) (h : mc ≤ 50000) : cells + mc ≤ room_1.cells := by show cells + mc ≤ 601024; omega
theorem lroomS {cells slots ms : Nat} (hc : cells ≤ 500000 ∧ slots ≤ 7000000) (h : ms ≤ 50000) : slots + ms ≤ room_1.slots := by show slots + ms ≤ 7293034; omega
theorem lroomC2 {cells slots mc mc2 : Nat} (hc : cells ≤ 500000 ∧ slots ≤ 7000000) (h : mc + mc2 ≤ 50000) : cells + mc + mc2 ≤ room_1.cells := by show cells + mc + mc2 ≤ 601024; omega
theorem lroomS2 {cells slots ms ms2 : Nat} (hc : cells ≤ 500000 ∧ slots ≤ 7000000) (h : ms + ms2 ≤ 50000) : slots + ms + ms2 ≤ room_1.slots := by show slots + ms + ms2 ≤ 7293034; omega
theorem J.asM {ow : Nat → Nat × Nat} {x : Nat} {w : kW} {S S2 : AS} {r : rW} (j : J ow x w S r S2) {D : va_G} {aC : Nat → ClassId} {w0 : kW} {H0 H : Heap} {locs : List Loc} (hX : kX D aC w0 H0 w H locs) : kX D aC w0 H0 (rWo (x + 237) w r) H locs := by
  rw [j.2.1.2.1]
  exact hX
theorem lgc_0 (v : Int64) : lg_cmp v v = 0 := by
  unfold lg_cmp
  rw [if_neg (by rw [gt_iff_lt, Int64.lt_iff_toInt_lt]; omega), if_pos rfl]
section LWR
variable {p : Program} {l : Launch} {e : Env} {R : Room} {s : State} {m : MethodId} {below : List Frame} {meth : Method} {c : Code} {H : Heap} {locs : List Loc} {cells slots : Nat} {Q : State → Prop}
variable {ls : Array Slot} {D : va_G} {aC : Nat → ClassId} {b L x k : Nat} {xs : Nat → Int32} {w : kW}
theorem larg_ok {pc : Nat} {rest : List Value} {v : Int32} {j : Int} {jn : Nat} (C : LwC p s m b L xs c D aC) (hX : kX D aC (wZ s) s.heap w H locs) (hl : lv_has ls 8 (lwv b x k)) (hk : 6 * k + 6 ≤ L) (hv : xs (6 * k + jn) = v) (hj : j = (jn : Int) ∧ jn < 6) (d0 : decode code pc = .ok (.aload_n 0, 1)) (d1 : decode code (pc + 1) = .ok (.iload 4, 2)) (d2 : decode code (pc + 3) = .ok (.iconst j, 1)) (d3 : decode code (pc + 4) = .ok (.iadd, 1)) (d4 : decode code (pc + 5) = .ok (.iaload, 1))
    (kk : W p l e R s m #[Value.ref b] below meth c H locs cells slots Q (F0 m (pc + 6) ls (.int v :: rest))) : W p l e R s m #[Value.ref b] below meth c H locs cells slots Q (F0 m pc ls rest) := by
  obtain ⟨F, hml, hZ, hV, hbl, hL⟩ := C
  obtain ⟨hx, hb, -⟩ := id F
  obtain ⟨rfl, j6⟩ := hj
  have hb' : ¬ kA (wZ s) b := fun z => by have := wzA z; omega
  refine lv_aload_n hx hb d0 rfl (lv_at hl 4 rfl) ?_
  refine lv_iload hx hb d1 (lv_at hl 0 rfl) ?_
  refine lv_iconst (v := iI jn) hx hb d2 rfl ?_
  refine lv_iadd hx hb d3 ?_
  have e1 : iI (6 * k : Nat) + iI jn = iI (6 * k + jn : Nat) := by rw [iI_add]; rfl
  rw [e1]
  have hi : vp_in (iI (6 * k + jn : Nat)) L := by
    have := vp_in_nI (n := 6 * k + jn) (N := L) (by omega) (by omega)
    exact this
  have e2 : (iI (6 * k + jn : Nat)).toNatClampNeg = 6 * k + jn := iI_clamp (by omega) (by omega)
  refine va_sld hx hb hV hbl hb' hX.2.1 hi d4 ?_
  rw [e2, hv]
  exact kk
end LWR
