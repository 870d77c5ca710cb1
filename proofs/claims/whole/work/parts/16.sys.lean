/-! System.arraycopy of ints -/
def kSR (w : kW) (a : Nat) (f : Nat → Int32) : kW := kMk (kKd w) (kLn w) (fun b k => if b = a then f k else kI w b k) (kP w) (kJ w) (kSz w)
def kcp (w : kW) (r0 : Option Nat) (sp : Int32) (r1 : Option Nat) (dp n : Int32) : Option kW := r0.bind fun a0 => r1.bind fun a =>
  if (kKd w a0 = 14 ∧ kKd w a = 14) ∧ (¬ sp < 0 ∧ ¬ dp < 0 ∧ ¬ n < 0) ∧ sp.toNatClampNeg + n.toNatClampNeg ≤ kLn w a0 ∧ dp.toNatClampNeg + n.toNatClampNeg ≤ kLn w a then some (kSR w a (va_cpy (kI w a0) (kI w a) sp.toNatClampNeg dp.toNatClampNeg n.toNatClampNeg)) else none
theorem kcp_s {w w' : kW} {r0 r1 : Option Nat} {sp dp n : Int32} (h : kcp w r0 sp r1 dp n = some w') : ∃ a0 a, r0 = some a0 ∧ r1 = some a ∧ (kKd w a0 = 14 ∧ kKd w a = 14) ∧ (¬ sp < 0 ∧ ¬ dp < 0 ∧ ¬ n < 0) ∧ sp.toNatClampNeg + n.toNatClampNeg ≤ kLn w a0 ∧ dp.toNatClampNeg + n.toNatClampNeg ≤ kLn w a ∧ kSR w a (va_cpy (kI w a0) (kI w a) sp.toNatClampNeg dp.toNatClampNeg n.toNatClampNeg) = w' := by
  unfold kcp at h
  obtain ⟨a0, h0, h⟩ := kbind h
  obtain ⟨a, h1, h⟩ := kbind h
  by_cases e : (kKd w a0 = 14 ∧ kKd w a = 14) ∧ (¬ sp < 0 ∧ ¬ dp < 0 ∧ ¬ n < 0) ∧ sp.toNatClampNeg + n.toNatClampNeg ≤ kLn w a0 ∧ dp.toNatClampNeg + n.toNatClampNeg ≤ kLn w a
  · rw [if_pos e] at h
    exact ⟨a0, a, h0, h1, e.1, e.2.1, e.2.2.1, e.2.2.2, Option.some.inj h⟩
  · rw [if_neg e] at h; cases h
theorem wSn : Cond.native arraycopyName ∈ kT := kTm 1097 (by decide +kernel) rfl
theorem wSs : Cond.static arraycopyName ∈ kT := kTm 1096 (by decide +kernel) rfl
theorem wSi : Cond.initialized "java/lang/System" ∈ kT := kTm 116 (by decide +kernel) rfl
section VKS
variable {p : Program} {l : Launch} {e : Env} {R : Room} {s : State} {m : MethodId} {args : Array Value} {below : List Frame} {meth : Method} {c : Code} {H : Heap} {locs : List Loc} {cells slots : Nat} {Q : State → Prop}
variable {cc : ByteArray} {pc : Nat} {ls : Array Slot} {rest : List Value} {D : va_G} {aC : Nat → ClassId} {H0 : Heap} {own : String} {w w0 : kW}
theorem kcopy {index : Nat} {r0 r1 : Option Nat} {sp dp n : Int32} {w' : kW} (hv : kcp w r0 sp r1 dp n = some w') (F : kFx p c cc s args own m D aC) (hml : c.maxLocals = ls.size) (hX : kX D aC w0 H0 w H locs) (hlink : Cond.methodLink own index arraycopyName ∈ kT) (hframes : 1 ≤ R.frames) (hlocals : (rest.map fun v => v.category).sum + (nativeFrameWords "java/lang/System" "arraycopy" 5 + 11) ≤ R.locals) (hdg : decode cc pc = .ok (.invokestatic index, 3))
    (kk : ∀ (H1 : Heap) (locs1 : List Loc), kX D aC w0 H0 w' H1 locs1 → W p l e R s m args below meth c H1 locs1 cells slots Q (F0 m (pc + 3) ls rest)) : W p l e R s m args below meth c H locs cells slots Q (F0 m pc ls (.int n :: .int dp :: va_rf r1 :: .int sp :: va_rf r0 :: rest)) := by
  obtain ⟨a0, a, rfl, rfl, ⟨hk0, hk1⟩, ⟨h1, h2, h3⟩, h4, h5, rfl⟩ := kcp_s hv
  obtain ⟨hx, hb, hts, hown, hK⟩ := F
  have nn : ∀ z : Int32, ¬ z < 0 → z.toInt = (z.toNatClampNeg : Int) := by
    intro z hz
    have hz0 : (0 : Int) ≤ z.toInt := by
      have := Int32.not_lt.mp hz
      simpa using Int32.le_iff_toInt_le.mp this
    show z.toInt = ((z.toInt.toNat : Nat) : Int)
    omega
  intro T hT X
  have hc0 : H[a0]? = some (vp_cell (aC 14) (kLn w a0, .inl (kI w a0))) := hX.arr hk0 (by decide) (by decide)
  have hc1 : H[a]? = some (vp_cell (aC 14) (kLn w a, .inl (kI w a))) := hX.arr hk1 (by decide) (by decide)
  have hAr := (hK.arr (k := 14) (by decide) (by decide)).1
  obtain ⟨-, k0, hq0, cm0, hkk0⟩ := hAr (kLn w a0) (fun j => .int (kI w a0 j))
  obtain ⟨-, k1, hq1, cm1, hkk1⟩ := hAr (kLn w a) (fun j => .int (kI w a j))
  obtain ⟨vm', X', step⟩ := X.arraycopy hx hown (hts _ hlink) (hts _ wSn) (hts _ wSs) (hts _ wSi) (src := a0) (dst := a) (cs := vp_cell (aC 14) (kLn w a0, .inl (kI w a0))) (cd := vp_cell (aC 14) (kLn w a, .inl (kI w a))) (srcPos := sp) (destPos := dp) (n := n) (by rw [hT]; exact hc0) (by rw [hT]; exact hc1)
    (fun _ h => by cases h) (fun _ h => by cases h) (fun h => by cases h) (fun h => by cases h) hq0 hq1 hkk0 hkk1 (by simp [kTyA, refKind]) h1 h2 h3
    (by rw [nn sp h1, nn n h3]; show ¬ _ > ((arrV (aC 14) (kLn w a0) (fun j => .int (kI w a0 j))).slots.size : Int); rw [arrV_size]; omega)
    (by rw [nn dp h2, nn n h3]; show ¬ _ > ((arrV (aC 14) (kLn w a) (fun j => .int (kI w a j))).slots.size : Int); rw [arrV_size]; omega)
    (fun vm₁ _ i hi => by
      have e : (vp_cell (aC 14) (kLn w a0, .inl (kI w a0))).slots.getD (sp.toNatClampNeg + i) .null = .int (kI w a0 (sp.toNatClampNeg + i)) := by
        show (arrV (aC 14) (kLn w a0) (fun j => .int (kI w a0 j))).slots.getD _ _ = _
        rw [Array.getD_eq_getD_getElem?, arrV_read _ _ (by omega)]
        rfl
      refine ⟨?_, ?_⟩
      · rw [e]; rfl
      · rw [e]; exact trivial)
    (g := F0 m pc ls (.int n :: .int dp :: .ref a :: .int sp :: .ref a0 :: rest)) rfl (by rw [hml]) (rest := rest) rfl (by rw [hb]; exact hdg) hframes (by show 2 * 0 + _ + _ ≤ _; omega)
  have e1 : copied (vp_cell (aC 14) (kLn w a0, .inl (kI w a0))) (vp_cell (aC 14) (kLn w a, .inl (kI w a))) sp dp n = vp_cell (aC 14) (kLn w a, .inl (va_cpy (kI w a0) (kI w a) sp.toNatClampNeg dp.toNatClampNeg n.toNatClampNeg)) := va_copied (fun z => .int z) (aC 14) (aC 14) (kI w a0) (kI w a) h4
  rw [e1] at X' step
  have hl : a < H.size := (Array.getElem?_eq_some_iff.mp hc1).1
  generalize hcell : vp_cell (aC 14) (kLn w a, .inl (va_cpy (kI w a0) (kI w a) sp.toNatClampNeg dp.toNatClampNeg n.toNatClampNeg)) = cellN at X' step
  have hheap : ((T.setVm vm').setCell a cellN).heap = H.setIfInBounds a cellN := by rw [← hT]; rfl
  have oq : ∀ q : Nat, q ≠ a → (H.setIfInBounds a cellN)[q]? = H[q]? := fun q hq => by simp [Array.getElem?_setIfInBounds, Ne.symm hq]
  have hself : (H.setIfInBounds a cellN)[a]? = some cellN := by simp [Array.getElem?_setIfInBounds, hl]
  obtain ⟨q1, hS, q3, q4⟩ := hX
  have hAa : kA w0 a := q3.A a (Or.inl (by rw [hk1]; decide))
  generalize va_cpy (kI w a0) (kI w a) sp.toNatClampNeg dp.toNatClampNeg n.toNatClampNeg = fN at hcell kk
  obtain ⟨t, a1, b1⟩ := kk (H.setIfInBounds a cellN) _ ⟨kH_store (a := a) (w1 := kSR w a fN) q1 rfl rfl rfl (fun b e => by funext k; exact if_neg e) (fun _ _ => rfl) (fun _ _ => rfl) (by simp) oq (kAt_arr (k := 14) hk1 (by decide) (by
      rw [hself, ← hcell]
      show some (arrV (aC 14) (kLn w a) (fun q => .int (fN q))) = some (arrV (aC 14) (kLn w a) (fun q => .int (kI (kSR w a fN) a q)))
      have e2 : kI (kSR w a fN) a = fN := by funext k; exact if_pos rfl
      rw [e2])), ⟨by simp; exact hS.1, fun q g1 g2 => by
      rw [oq q (fun e => g2 (by rw [e]; exact hAa))]
      exact hS.2.1 q g1 g2, fun q hq => by
      rcases List.mem_append.mp hq with h | h
      · exact hS.2.2 q h
      · obtain ⟨z, -, hz⟩ := List.mem_map.mp h
        rw [← hz]
        exact hAa⟩, q3.tr (kExt.st rfl rfl rfl), q4⟩ _ hheap X'
  exact ⟨t, step t a1, b1⟩
end VKS
