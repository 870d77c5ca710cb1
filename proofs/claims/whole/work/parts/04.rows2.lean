theorem kAr_i {w : kW} {a : Nat} : kAr w a 14 = (kLn w a, .inl (kI w a)) := rfl
theorem upd_kI {w : kW} {a j : Nat} {x : Int32} : (fun q => Value.int (kI (kSI w a j x) a q)) = updV (fun q => .int (kI w a q)) j (.int x) := by
  funext q
  show Value.int (kU (kI w) a j x a q) = _
  unfold updV kU
  by_cases h : q = j
  · subst h; simp
  · simp [h]
theorem upd_kP {w : kW} {a j : Nat} {x : Option Nat} : (fun q => va_rf (kP (kSP w a j x) a q)) = updV (fun q => va_rf (kP w a q)) j (va_rf x) := by
  funext q
  show va_rf (kU (kP w) a j x a q) = _
  unfold updV kU
  by_cases h : q = j
  · subst h; simp
  · simp [h]
theorem upd_kJ {w : kW} {a j : Nat} {x : Int64} : (fun q => Value.long (kJ (kSJ w a j x) a q)) = updV (fun q => .long (kJ w a q)) j (.long x) := by
  funext q
  show Value.long (kU (kJ w) a j x a q) = _
  unfold updV kU
  by_cases h : q = j
  · subst h; simp
  · simp [h]
section VKR2
variable {p : Program} {l : Launch} {e : Env} {R : Room} {s : State} {m : MethodId} {args : Array Value} {below : List Frame} {meth : Method} {c : Code} {H : Heap} {locs : List Loc} {cells slots : Nat} {Q : State → Prop}
variable {cc : ByteArray} {pc : Nat} {ls : Array Slot} {rest : List Value} {D : va_G} {aC : Nat → ClassId} {H0 : Heap} {own : String} {w w0 : kW}
theorem kast {r : Option Nat} {i x : Int32} {w' : kW} (hv : ksI w 14 r i x = some w') (F : kFx p c cc s args own m D aC) (hX : kX D aC w0 H0 w H locs) (hdg : decode cc pc = .ok (.iastore, 1))
    (kk : ∀ (H1 : Heap) (locs1 : List Loc), kX D aC w0 H0 w' H1 locs1 → W p l e R s m args below meth c H1 locs1 cells slots Q (F0 m (pc + 1) ls rest)) : W p l e R s m args below meth c H locs cells slots Q (F0 m pc ls (.int x :: .int i :: va_rf r :: rest)) := by
  obtain ⟨a, rfl, hk, hi, rfl⟩ := ksI_s hv
  obtain ⟨hx, hb, hts, hown, hK⟩ := F
  refine W.iast hx hb (hX.arr hk (by decide) (by decide)) ((hK.arr (k := 14) (by decide) (by decide)).1 (kLn w a) (fun j => .int (kI w a j))) (fun q => by cases q) (by show ¬ (i < 0 ∨ (arrV (aC 14) (kLn w a) (fun j => .int (kI w a j))).slots.size ≤ _); rw [arrV_size]; exact hi) rfl rfl hdg fun H1 e z oq => ?_
  refine kk H1 _ (hX.put (w1 := kSI w a i.toNatClampNeg x) (by rw [hk]; decide) (kExt.st rfl rfl rfl) z oq (kH_SI hX.1 z oq (kAt_arr hk (by decide) ?_)) _)
  rw [e]
  show some ((arrV (aC 14) (kLn w a) (fun q => .int (kI w a q))).setSlot _ _) = some (arrV (aC 14) (kLn w a) (fun q => .int (kI (kSI w a i.toNatClampNeg x) a q)))
  rw [upd_kI, arrV_store]
theorem kbst {r : Option Nat} {i x : Int32} {w' : kW} (hv : ksI w 13 r i x = some w') (F : kFx p c cc s args own m D aC) (hX : kX D aC w0 H0 w H locs) (hdg : decode cc pc = .ok (.bastore, 1))
    (kk : ∀ (H1 : Heap) (locs1 : List Loc), kX D aC w0 H0 w' H1 locs1 → W p l e R s m args below meth c H1 locs1 cells slots Q (F0 m (pc + 1) ls rest)) : W p l e R s m args below meth c H locs cells slots Q (F0 m pc ls (.int x :: .int i :: va_rf r :: rest)) := by
  obtain ⟨a, rfl, hk, hi, rfl⟩ := ksI_s hv
  obtain ⟨hx, hb, hts, hown, hK⟩ := F
  refine W.bast hx hb (hX.arr hk (by decide) (by decide)) ((hK.arr (k := 13) (by decide) (by decide)).1 (kLn w a) (fun j => .int (kI w a j))) (fun q => by cases q) (by show ¬ (i < 0 ∨ (arrV (aC 13) (kLn w a) (fun j => .int (kI w a j))).slots.size ≤ _); rw [arrV_size]; exact hi) rfl rfl hdg fun H1 e z oq => ?_
  refine kk H1 _ (hX.put (w1 := kSI w a i.toNatClampNeg (vp_nar .byte x)) (by rw [hk]; decide) (kExt.st rfl rfl rfl) z oq (kH_SI hX.1 z oq (kAt_arr hk (by decide) ?_)) _)
  rw [e]
  show some ((arrV (aC 13) (kLn w a) (fun q => .int (kI w a q))).setSlot _ (.int (vp_nar .byte x))) = some (arrV (aC 13) (kLn w a) (fun q => .int (kI (kSI w a i.toNatClampNeg (vp_nar .byte x)) a q)))
  rw [upd_kI, arrV_store]
theorem klst {r : Option Nat} {i : Int32} {x : Int64} {w' : kW} (hv : ksJ w r i x = some w') (F : kFx p c cc s args own m D aC) (hX : kX D aC w0 H0 w H locs) (hdg : decode cc pc = .ok (.lastore, 1))
    (kk : ∀ (H1 : Heap) (locs1 : List Loc), kX D aC w0 H0 w' H1 locs1 → W p l e R s m args below meth c H1 locs1 cells slots Q (F0 m (pc + 1) ls rest)) : W p l e R s m args below meth c H locs cells slots Q (F0 m pc ls (.long x :: .int i :: va_rf r :: rest)) := by
  obtain ⟨a, rfl, hk, hi, rfl⟩ := ksJ_s hv
  obtain ⟨hx, hb, hts, hown, hK⟩ := F
  refine W.last hx hb (hX.arr hk (by decide) (by decide)) ((hK.arr (k := 15) (by decide) (by decide)).1 (kLn w a) (fun j => .long (kJ w a j))) (fun q => by cases q) (by show ¬ (i < 0 ∨ (arrV (aC 15) (kLn w a) (fun j => .long (kJ w a j))).slots.size ≤ _); rw [arrV_size]; exact hi) rfl rfl hdg fun H1 e z oq => ?_
  refine kk H1 _ (hX.put (w1 := kSJ w a i.toNatClampNeg x) (by rw [hk]; decide) (kExt.st rfl rfl rfl) z oq (kH_SJ hX.1 z oq (kAt_arr hk (by decide) ?_)) _)
  rw [e]
  show some ((arrV (aC 15) (kLn w a) (fun q => .long (kJ w a q))).setSlot _ _) = some (arrV (aC 15) (kLn w a) (fun q => .long (kJ (kSJ w a i.toNatClampNeg x) a q)))
  rw [upd_kJ, arrV_store]
theorem kcls {k : Nat} {a : Nat} {C : String} {T : u_T} {N : Nat} (hK : kK D aC s) (hX : kX D aC w0 H0 w H locs) (hk : kKd w a = k) (hk13 : k < 13) (hc : vwCl[k]? = some (C, T, N)) : ∃ cell : Cell, H[a]? = some cell ∧ cell.vm = .none ∧ cell.cls = D.1 k ∧ ClassAt s C (D.1 k) := by
  obtain ⟨cell, q1, q2, q3, -⟩ := (hX.1.2 a).1 (by rw [hk]; exact hk13)
  rw [hk] at q2
  exact ⟨cell, q1, q3, q2, (hK.1 k _ hc).2⟩
theorem kqst16 {r x : Option Nat} {i : Int32} {w' : kW} (hv : ksP w 16 r i x = some w') (F : kFx p c cc s args own m D aC) (hX : kX D aC w0 H0 w H locs) (hdg : decode cc pc = .ok (.aastore, 1))
    (kk : ∀ (H1 : Heap) (locs1 : List Loc), kX D aC w0 H0 w' H1 locs1 → W p l e R s m args below meth c H1 locs1 cells slots Q (F0 m (pc + 1) ls rest)) : W p l e R s m args below meth c H locs cells slots Q (F0 m pc ls (va_rf x :: .int i :: va_rf r :: rest)) := by
  obtain ⟨a, rfl, hk, hcx, hi, rfl⟩ := ksP_s hv
  obtain ⟨hx, hb, hts, hown, hK⟩ := F
  have hlt : i.toNatClampNeg < kLn w a := Nat.not_le.mp fun q => hi (Or.inr q)
  have h0 : ¬ i < 0 := fun q => hi (Or.inl q)
  have fin : ∀ (H1 : Heap), H1[a]? = some ((vp_cell (aC 16) (kAr w a 16)).setSlot i.toNatClampNeg (va_rf x)) → H1.size = H.size → (∀ q, q ≠ a → H1[q]? = H[q]?) → kX D aC w0 H0 (kSP w a i.toNatClampNeg x) H1 (locs ++ [⟨a, i.toNatClampNeg⟩]) := by
    intro H1 e z oq
    refine hX.put (w1 := kSP w a i.toNatClampNeg x) (by rw [hk]; decide) (kExt.st rfl rfl rfl) z oq (kH_SP hX.1 z oq (kAt_arr hk (by decide) ?_)) _
    rw [e]
    show some ((arrV (aC 16) (kLn w a) (fun q => va_rf (kP w a q))).setSlot _ _) = some (arrV (aC 16) (kLn w a) (fun q => va_rf (kP (kSP w a i.toNatClampNeg x) a q)))
    rw [upd_kP, arrV_store]
  cases x with
  | none =>
    refine va_WaastN (C := RX1) hx hb (hX.arr hk (by decide) (by decide)) ((hK.arr (k := 16) (by decide) (by decide)).1 (kLn w a) (fun j => va_rf (kP w a j))) (fun h => by cases h) (by show ¬ (i < 0 ∨ (arrV (aC 16) (kLn w a) (fun j => va_rf (kP w a j))).slots.size ≤ _); rw [arrV_size]; exact hi) rfl rfl hdg fun H1 e z oq => ?_
    exact kk H1 _ (fin H1 e z oq)
  | some v =>
    obtain ⟨cellV, g1, g3, g2, hcls⟩ := kcls (C := RX1) hK hX (hcx v rfl) (by decide) rfl
    obtain ⟨kA, comp, k1, k2, k3, -⟩ := (hK.arr (k := 16) (by decide) (by decide)).2
    have hcomp : comp = D.1 1 := Option.some.inj (k3.symm.trans hcls.1)
    subst hcomp
    obtain ⟨kC, hkC, hkind⟩ := hcls.2
    refine W.aast hx hb (hX.arr hk (by decide) (by decide)) (fun q h => by cases h) (fun h => by cases h) k1 k2 rfl hkC ⟨h0, by show _ < (arrV (aC 16) (kLn w a) (fun j => va_rf (kP w a j))).slots.size; rw [arrV_size]; exact hlt⟩ g1 (fun q h => by rw [g3] at h; cases h) (by rw [g2]; exact hkC) (by rw [g2]; exact va_assign ⟨hcls.1, kC, hkC, hkind⟩) rfl rfl hdg fun H1 e z oq => ?_
    exact kk H1 _ (fin H1 e z oq)
theorem kqst17 {r x : Option Nat} {i : Int32} {w' : kW} (hv : ksP w 17 r i x = some w') (F : kFx p c cc s args own m D aC) (hX : kX D aC w0 H0 w H locs) (hdg : decode cc pc = .ok (.aastore, 1))
    (kk : ∀ (H1 : Heap) (locs1 : List Loc), kX D aC w0 H0 w' H1 locs1 → W p l e R s m args below meth c H1 locs1 cells slots Q (F0 m (pc + 1) ls rest)) : W p l e R s m args below meth c H locs cells slots Q (F0 m pc ls (va_rf x :: .int i :: va_rf r :: rest)) := by
  obtain ⟨a, rfl, hk, hcx, hi, rfl⟩ := ksP_s hv
  obtain ⟨hx, hb, hts, hown, hK⟩ := F
  have hlt : i.toNatClampNeg < kLn w a := Nat.not_le.mp fun q => hi (Or.inr q)
  have h0 : ¬ i < 0 := fun q => hi (Or.inl q)
  have fin : ∀ (H1 : Heap), H1[a]? = some ((vp_cell (aC 17) (kAr w a 17)).setSlot i.toNatClampNeg (va_rf x)) → H1.size = H.size → (∀ q, q ≠ a → H1[q]? = H[q]?) → kX D aC w0 H0 (kSP w a i.toNatClampNeg x) H1 (locs ++ [⟨a, i.toNatClampNeg⟩]) := by
    intro H1 e z oq
    refine hX.put (w1 := kSP w a i.toNatClampNeg x) (by rw [hk]; decide) (kExt.st rfl rfl rfl) z oq (kH_SP hX.1 z oq (kAt_arr hk (by decide) ?_)) _
    rw [e]
    show some ((arrV (aC 17) (kLn w a) (fun q => va_rf (kP w a q))).setSlot _ _) = some (arrV (aC 17) (kLn w a) (fun q => va_rf (kP (kSP w a i.toNatClampNeg x) a q)))
    rw [upd_kP, arrV_store]
  cases x with
  | none =>
    refine va_WaastN (C := RX3) hx hb (hX.arr hk (by decide) (by decide)) ((hK.arr (k := 17) (by decide) (by decide)).1 (kLn w a) (fun j => va_rf (kP w a j))) (fun h => by cases h) (by show ¬ (i < 0 ∨ (arrV (aC 17) (kLn w a) (fun j => va_rf (kP w a j))).slots.size ≤ _); rw [arrV_size]; exact hi) rfl rfl hdg fun H1 e z oq => ?_
    exact kk H1 _ (fin H1 e z oq)
  | some v =>
    obtain ⟨cellV, g1, g3, g2, hcls⟩ := kcls (C := RX3) hK hX (hcx v rfl) (by decide) rfl
    obtain ⟨kA, comp, k1, k2, k3, -⟩ := (hK.arr (k := 17) (by decide) (by decide)).2
    have hcomp : comp = D.1 3 := Option.some.inj (k3.symm.trans hcls.1)
    subst hcomp
    obtain ⟨kC, hkC, hkind⟩ := hcls.2
    refine W.aast hx hb (hX.arr hk (by decide) (by decide)) (fun q h => by cases h) (fun h => by cases h) k1 k2 rfl hkC ⟨h0, by show _ < (arrV (aC 17) (kLn w a) (fun j => va_rf (kP w a j))).slots.size; rw [arrV_size]; exact hlt⟩ g1 (fun q h => by rw [g3] at h; cases h) (by rw [g2]; exact hkC) (by rw [g2]; exact va_assign ⟨hcls.1, kC, hkC, hkind⟩) rfl rfl hdg fun H1 e z oq => ?_
    exact kk H1 _ (fin H1 e z oq)
theorem kqst18 {r x : Option Nat} {i : Int32} {w' : kW} (hv : ksP w 18 r i x = some w') (F : kFx p c cc s args own m D aC) (hX : kX D aC w0 H0 w H locs) (hdg : decode cc pc = .ok (.aastore, 1))
    (kk : ∀ (H1 : Heap) (locs1 : List Loc), kX D aC w0 H0 w' H1 locs1 → W p l e R s m args below meth c H1 locs1 cells slots Q (F0 m (pc + 1) ls rest)) : W p l e R s m args below meth c H locs cells slots Q (F0 m pc ls (va_rf x :: .int i :: va_rf r :: rest)) := by
  obtain ⟨a, rfl, hk, hcx, hi, rfl⟩ := ksP_s hv
  obtain ⟨hx, hb, hts, hown, hK⟩ := F
  have hlt : i.toNatClampNeg < kLn w a := Nat.not_le.mp fun q => hi (Or.inr q)
  have h0 : ¬ i < 0 := fun q => hi (Or.inl q)
  have fin : ∀ (H1 : Heap), H1[a]? = some ((vp_cell (aC 18) (kAr w a 18)).setSlot i.toNatClampNeg (va_rf x)) → H1.size = H.size → (∀ q, q ≠ a → H1[q]? = H[q]?) → kX D aC w0 H0 (kSP w a i.toNatClampNeg x) H1 (locs ++ [⟨a, i.toNatClampNeg⟩]) := by
    intro H1 e z oq
    refine hX.put (w1 := kSP w a i.toNatClampNeg x) (by rw [hk]; decide) (kExt.st rfl rfl rfl) z oq (kH_SP hX.1 z oq (kAt_arr hk (by decide) ?_)) _
    rw [e]
    show some ((arrV (aC 18) (kLn w a) (fun q => va_rf (kP w a q))).setSlot _ _) = some (arrV (aC 18) (kLn w a) (fun q => va_rf (kP (kSP w a i.toNatClampNeg x) a q)))
    rw [upd_kP, arrV_store]
  cases x with
  | none =>
    refine va_WaastN (C := RX6) hx hb (hX.arr hk (by decide) (by decide)) ((hK.arr (k := 18) (by decide) (by decide)).1 (kLn w a) (fun j => va_rf (kP w a j))) (fun h => by cases h) (by show ¬ (i < 0 ∨ (arrV (aC 18) (kLn w a) (fun j => va_rf (kP w a j))).slots.size ≤ _); rw [arrV_size]; exact hi) rfl rfl hdg fun H1 e z oq => ?_
    exact kk H1 _ (fin H1 e z oq)
  | some v =>
    obtain ⟨cellV, g1, g3, g2, hcls⟩ := kcls (C := RX6) hK hX (hcx v rfl) (by decide) rfl
    obtain ⟨kA, comp, k1, k2, k3, -⟩ := (hK.arr (k := 18) (by decide) (by decide)).2
    have hcomp : comp = D.1 6 := Option.some.inj (k3.symm.trans hcls.1)
    subst hcomp
    obtain ⟨kC, hkC, hkind⟩ := hcls.2
    refine W.aast hx hb (hX.arr hk (by decide) (by decide)) (fun q h => by cases h) (fun h => by cases h) k1 k2 rfl hkC ⟨h0, by show _ < (arrV (aC 18) (kLn w a) (fun j => va_rf (kP w a j))).slots.size; rw [arrV_size]; exact hlt⟩ g1 (fun q h => by rw [g3] at h; cases h) (by rw [g2]; exact hkC) (by rw [g2]; exact va_assign ⟨hcls.1, kC, hkC, hkind⟩) rfl rfl hdg fun H1 e z oq => ?_
    exact kk H1 _ (fin H1 e z oq)
theorem kalen {k : Nat} {r : Option Nat} {x : Int32} (hv : kal w k r = some x) (h13 : 13 ≤ k) (h19 : k < 19) (F : kFx p c cc s args own m D aC) (hX : kX D aC w0 H0 w H locs) (hdg : decode cc pc = .ok (.arraylength, 1))
    (kk : W p l e R s m args below meth c H locs cells slots Q (F0 m (pc + 1) ls (.int x :: rest))) : W p l e R s m args below meth c H locs cells slots Q (F0 m pc ls (va_rf r :: rest)) := by
  obtain ⟨a, rfl, hk, rfl⟩ := kal_s hv
  obtain ⟨hx, hb, hts, hown, hK⟩ := F
  have hA := (hK.arr h13 h19).1
  have hc := hX.arr hk h13 h19
  have e1 : ∃ z : Nat → Value, vp_cell (aC k) (kAr w a k) = arrV (aC k) (kLn w a) z := by
    rcases (show k = 13 ∨ k = 14 ∨ k = 15 ∨ k = 16 ∨ k = 17 ∨ k = 18 by omega) with rfl | rfl | rfl | rfl | rfl | rfl
    · exact ⟨fun j => .int (kI w a j), rfl⟩
    · exact ⟨fun j => .int (kI w a j), rfl⟩
    · exact ⟨fun j => .long (kJ w a j), rfl⟩
    · exact ⟨fun j => va_rf (kP w a j), rfl⟩
    · exact ⟨fun j => va_rf (kP w a j), rfl⟩
    · exact ⟨fun j => va_rf (kP w a j), rfl⟩
  obtain ⟨z, e1⟩ := e1
  rw [e1] at hc
  exact W.alen hx hb hc (hA (kLn w a) z) (by rw [arrV_size]) rfl rfl hdg kk
theorem kH_new {k n : Nat} {H1 : Heap} (h : kH D aC w H) (hz : H1.size = H.size + 1) (o1 : ∀ q : Nat, q < H.size → H1[q]? = H[q]?) (hn : kAt D aC (kNw w k n) (kSz w) H1) (hout : ∀ a, kSz w ≤ a → ¬ kKd w a < 19) : kH D aC (kNw w k n) H1 := by
  refine ⟨by rw [hz, h.1]; rfl, fun b => ?_⟩
  by_cases e : b = kSz w
  · subst e; exact hn
  · have e1 : kKd (kNw w k n) b = kKd w b := if_neg e
    have e2 : kLn (kNw w k n) b = kLn w b := if_neg e
    have e3 : kI (kNw w k n) b = kI w b := by funext j; exact if_neg e
    have e4 : kP (kNw w k n) b = kP w b := by funext j; exact if_neg e
    have e5 : kJ (kNw w k n) b = kJ w b := by funext j; exact if_neg e
    by_cases hb : b < H.size
    · exact kAt_congr e1 e2 e3 e4 e5 (o1 b hb) (h.2 b)
    · have h9 : ¬ kKd w b < 19 := hout b (by rw [← h.1]; omega)
      unfold kAt
      rw [e1]
      exact ⟨fun q => absurd q (by omega), fun _ q => absurd q h9⟩
theorem kH.out (h : kH D aC w H) : ∀ a, kSz w ≤ a → ¬ kKd w a < 19 := fun a ha hk => by
  have := (h.2 a).lt hk
  rw [h.1] at this
  omega
theorem kX.new {k n : Nat} {H1 : Heap} (hX : kX D aC w0 H0 w H locs) (hz : H1.size = H.size + 1) (o1 : ∀ q : Nat, q < H.size → H1[q]? = H[q]?) (hn : kAt D aC (kNw w k n) (kSz w) H1) : kX D aC w0 H0 (kNw w k n) H1 locs := by
  obtain ⟨h1, h2, h3, h4⟩ := hX
  refine ⟨kH_new h1 hz o1 hn h1.out, ⟨Nat.le_trans h2.1 (by omega), fun x q1 q2 => (o1 x (Nat.lt_of_lt_of_le q1 h2.1)).trans (h2.2.1 x q1 q2), h2.2.2⟩, h3.tr ⟨Nat.le_succ _, fun a ha => ⟨if_neg (by omega), if_neg (by omega)⟩⟩, h4⟩
def kZr (k : Nat) : Nat → Value := fun _ => match k with
  | 13 => .int 0
  | 14 => .int 0
  | 15 => .long 0
  | _ => .null
theorem knew_cell {k n : Nat} (h13 : 13 ≤ k) (h19 : k < 19) : vp_cell (aC k) (kAr (kNw w k n) (kSz w) k) = arrV (aC k) n (kZr k) := by
  have e2 : kLn (kNw w k n) (kSz w) = n := if_pos rfl
  have e3 : kI (kNw w k n) (kSz w) = fun _ => 0 := by funext j; exact if_pos rfl
  have e4 : kP (kNw w k n) (kSz w) = fun _ => none := by funext j; exact if_pos rfl
  have e5 : kJ (kNw w k n) (kSz w) = fun _ => 0 := by funext j; exact if_pos rfl
  rcases (show k = 13 ∨ k = 14 ∨ k = 15 ∨ k = 16 ∨ k = 17 ∨ k = 18 by omega) with rfl | rfl | rfl | rfl | rfl | rfl
  · show vp_cell (aC 13) (kLn (kNw w 13 n) (kSz w), .inl (kI (kNw w 13 n) (kSz w))) = _
    rw [e2, e3]; rfl
  · show vp_cell (aC 14) (kLn (kNw w 14 n) (kSz w), .inl (kI (kNw w 14 n) (kSz w))) = _
    rw [e2, e3]; rfl
  · show vp_cell (aC 15) (kLn (kNw w 15 n) (kSz w), .inr (.inl (kJ (kNw w 15 n) (kSz w)))) = _
    rw [e2, e5]; rfl
  · show vp_cell (aC 16) (kLn (kNw w 16 n) (kSz w), .inr (.inr (.inr (.inr (kP (kNw w 16 n) (kSz w)))))) = _
    rw [e2, e4]; rfl
  · show vp_cell (aC 17) (kLn (kNw w 17 n) (kSz w), .inr (.inr (.inr (.inr (kP (kNw w 17 n) (kSz w)))))) = _
    rw [e2, e4]; rfl
  · show vp_cell (aC 18) (kLn (kNw w 18 n) (kSz w), .inr (.inr (.inr (.inr (kP (kNw w 18 n) (kSz w)))))) = _
    rw [e2, e4]; rfl
theorem knA_s {k : Nat} {n : Int32} {w' : kW} (h : knA w k n = some w') : ¬ n < 0 ∧ kNw w k n.toNatClampNeg = w' := by
  unfold knA at h
  by_cases e : n < 0
  · rw [if_pos e] at h; cases h
  · rw [if_neg e] at h; cases h; exact ⟨e, rfl⟩
theorem knewa {k : Nat} {n : Int32} {w' : kW} {mx : Nat} {atype : ArrayType} (hv : knA w k n = some w') (hty : newarray.typeOf atype = kTyA k) (hz0 : ∀ j, kZr k j = defaultValue (kTyA k)) (h13 : 13 ≤ k) (h19 : k < 19) (F : kFx p c cc s args own m D aC) (hX : kX D aC w0 H0 w H locs) (harr : Cond.arrayClass (newarray.typeOf atype) ∈ kT) (hmx : n.toNatClampNeg ≤ mx) (hbytes : mx ≤ 67108864) (hcells : cells + 1 ≤ R.cells) (hslots : slots + mx ≤ R.slots) (hdg : decode cc pc = .ok (.newarray atype, 2))
    (kk : ∀ (H1 : Heap), kX D aC w0 H0 w' H1 locs → W p l e R s m args below meth c H1 locs (cells + 1) (slots + mx) Q (F0 m (pc + 2) ls (va_rf (some (kSz w)) :: rest))) : W p l e R s m args below meth c H locs cells slots Q (F0 m pc ls (.int n :: rest)) := by
  obtain ⟨h0, rfl⟩ := knA_s hv
  obtain ⟨hx, hb, hts, hown, hK⟩ := F
  have hbt : n.toNatClampNeg * componentBytes (newarray.typeOf atype) ≤ 536870912 := by
    have : componentBytes (newarray.typeOf atype) ≤ 8 := by cases atype <;> decide
    exact Nat.le_trans (Nat.mul_le_mul hmx this) (by omega)
  refine va_newaK hx hb (hts _ harr) rfl hdg rfl h0 rfl hbt hcells (by omega) rfl fun H1 cA e1 z1 o1 hAr hNm => ?_
  refine W.widen (k := cells + 1) (n := slots + mx) (Nat.le_refl _) (by omega) ?_
  have hcA : cA = aC k := by
    have h2 := (hK.arr h13 h19).2
    rcases (show k = 13 ∨ k = 14 ∨ k = 15 ∨ k = 16 ∨ k = 17 ∨ k = 18 by omega) with rfl | rfl | rfl | rfl | rfl | rfl
    · rw [hty] at hNm; exact Option.some.inj (hNm.symm.trans h2)
    · rw [hty] at hNm; exact Option.some.inj (hNm.symm.trans h2)
    · rw [hty] at hNm; exact Option.some.inj (hNm.symm.trans h2)
    · cases atype <;> cases hty
    · cases atype <;> cases hty
    · cases atype <;> cases hty
  have hsz : H.size = kSz w := hX.1.1
  rw [hsz]
  refine kk H1 (hX.new z1 o1 (kAt_arr (if_pos rfl) h13 ?_))
  rw [knew_cell h13 h19, ← hsz, ← hcA]
  have e2 : kZr k = fun _ => defaultValue (newarray.typeOf atype) := by funext j; rw [hz0, hty]
  rw [e2]
  exact e1
end VKR2
