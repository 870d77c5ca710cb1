/-! THE LAW: the cases that throw -/
section LWX
variable {p : Program} {l : Launch} {e : Env} {s : State} {m : MethodId} {below : List Frame} {meth : Method} {c : Code} {H : Heap} {locs : List Loc} {cells slots : Nat} {Q : State → Prop}
variable {ls : Array Slot} {D : va_G} {aC : Nat → ClassId} {b L x k : Nat} {xs : Nat → Int32} {ow : Nat → Nat × Nat} {w : kW} {S : AS} {r : rW}
set_option maxHeartbeats 4000000 in
set_option maxRecDepth 100000 in
theorem lc_element (C : LwC p s m b L xs c D aC) (hfl : l.flags = flags0) (j : J ow x w S r S) (hX : kX D aC (wZ s) s.heap w H locs) (hl : lv_has ls 8 (lwv b x k)) (hk : 6 * k + 6 ≤ L) (hc : cells ≤ 500000 ∧ slots ≤ 7000000) (kk : LwK p l e s m b below meth c D aC x k cells slots Q) : W p l e room_1 s m #[Value.ref b] below meth c H locs cells slots Q (F0 m 1305 ls []) := by
  sorry
set_option maxHeartbeats 4000000 in
set_option maxRecDepth 100000 in
theorem lc_toss (C : LwC p s m b L xs c D aC) (hfl : l.flags = flags0) (j : J ow x w S r S) (hX : kX D aC (wZ s) s.heap w H locs) (hl : lv_has ls 8 (lwv b x k)) (hk : 6 * k + 6 ≤ L) (hc : cells ≤ 500000 ∧ slots ≤ 7000000) (kk : LwK p l e s m b below meth c D aC x k cells slots Q) : W p l e room_1 s m #[Value.ref b] below meth c H locs cells slots Q (F0 m 1470 ls []) := by
  sorry
end LWX
