theorem kIx_in {n : Nat} {i : Int32} {j : Nat} (h : kIx n i = some j) : vp_in i n ∧ i.toNatClampNeg = j ∧ j < n := by
  unfold kIx at h
  by_cases h0 : i < 0
  · rw [if_pos h0] at h; cases h
  · rw [if_neg h0] at h
    by_cases h1 : i.toNatClampNeg < n
    · rw [if_pos h1] at h
      cases h
      exact ⟨fun q => q.elim h0 (fun z => absurd h1 (Nat.not_lt.mpr z)), rfl, h1⟩
    · rw [if_neg h1] at h; cases h
theorem kgI_s {w : kW} {k j : Nat} {r : Option Nat} {x : Int32} (h : kgI w k r j = some x) : ∃ a, r = some a ∧ kKd w a = k ∧ kI w a j = x := by
  unfold kgI at h
  cases r with
  | none => cases h
  | some a =>
    rw [Option.bind_some] at h
    by_cases e : kKd w a = k
    · rw [if_pos e] at h; cases h; exact ⟨a, rfl, e, rfl⟩
    · rw [if_neg e] at h; cases h
theorem kgP_s {w : kW} {k j : Nat} {r : Option Nat} {x : Option Nat} (h : kgP w k r j = some x) : ∃ a, r = some a ∧ kKd w a = k ∧ kP w a j = x := by
  unfold kgP at h
  cases r with
  | none => cases h
  | some a =>
    rw [Option.bind_some] at h
    by_cases e : kKd w a = k
    · rw [if_pos e] at h; cases h; exact ⟨a, rfl, e, rfl⟩
    · rw [if_neg e] at h; cases h
theorem kpI_s {w w' : kW} {k j : Nat} {r : Option Nat} {x : Int32} (h : kpI w k r j x = some w') : ∃ a, r = some a ∧ kKd w a = k ∧ kSI w a j x = w' := by
  unfold kpI at h
  cases r with
  | none => cases h
  | some a =>
    rw [Option.bind_some] at h
    by_cases e : kKd w a = k
    · rw [if_pos e] at h; cases h; exact ⟨a, rfl, e, rfl⟩
    · rw [if_neg e] at h; cases h
theorem kpP_s {w w' : kW} {k j : Nat} {r : Option Nat} {x : Option Nat} (h : kpP w k r j x = some w') : ∃ a, r = some a ∧ kKd w a = k ∧ kSP w a j x = w' := by
  unfold kpP at h
  cases r with
  | none => cases h
  | some a =>
    rw [Option.bind_some] at h
    by_cases e : kKd w a = k
    · rw [if_pos e] at h; cases h; exact ⟨a, rfl, e, rfl⟩
    · rw [if_neg e] at h; cases h
theorem kal_s {w : kW} {k : Nat} {r : Option Nat} {x : Int32} (h : kal w k r = some x) : ∃ a, r = some a ∧ kKd w a = k ∧ Int32.ofNat (kLn w a) = x := by
  unfold kal at h
  cases r with
  | none => cases h
  | some a =>
    rw [Option.bind_some] at h
    by_cases e : kKd w a = k
    · rw [if_pos e] at h; cases h; exact ⟨a, rfl, e, rfl⟩
    · rw [if_neg e] at h; cases h
theorem kaI_s {w : kW} {k : Nat} {r : Option Nat} {i x : Int32} (h : kaI w k r i = some x) : ∃ a, r = some a ∧ kKd w a = k ∧ vp_in i (kLn w a) ∧ i.toNatClampNeg < kLn w a ∧ kI w a i.toNatClampNeg = x := by
  unfold kaI at h
  cases r with
  | none => cases h
  | some a =>
    rw [Option.bind_some] at h
    by_cases e : kKd w a = k
    · rw [if_pos e] at h
      obtain ⟨j, hj, he⟩ := Option.map_eq_some_iff.mp h
      obtain ⟨h1, h2, h3⟩ := kIx_in hj
      subst h2
      exact ⟨a, rfl, e, h1, h3, he⟩
    · rw [if_neg e] at h; cases h
theorem kaJ_s {w : kW} {r : Option Nat} {i : Int32} {x : Int64} (h : kaJ w r i = some x) : ∃ a, r = some a ∧ kKd w a = 15 ∧ vp_in i (kLn w a) ∧ i.toNatClampNeg < kLn w a ∧ kJ w a i.toNatClampNeg = x := by
  unfold kaJ at h
  cases r with
  | none => cases h
  | some a =>
    rw [Option.bind_some] at h
    by_cases e : kKd w a = 15
    · rw [if_pos e] at h
      obtain ⟨j, hj, he⟩ := Option.map_eq_some_iff.mp h
      obtain ⟨h1, h2, h3⟩ := kIx_in hj
      subst h2
      exact ⟨a, rfl, e, h1, h3, he⟩
    · rw [if_neg e] at h; cases h
theorem kaP_s {w : kW} {k : Nat} {r : Option Nat} {i : Int32} {x : Option Nat} (h : kaP w k r i = some x) : ∃ a, r = some a ∧ kKd w a = k ∧ vp_in i (kLn w a) ∧ i.toNatClampNeg < kLn w a ∧ kP w a i.toNatClampNeg = x := by
  unfold kaP at h
  cases r with
  | none => cases h
  | some a =>
    rw [Option.bind_some] at h
    by_cases e : kKd w a = k
    · rw [if_pos e] at h
      obtain ⟨j, hj, he⟩ := Option.map_eq_some_iff.mp h
      obtain ⟨h1, h2, h3⟩ := kIx_in hj
      subst h2
      exact ⟨a, rfl, e, h1, h3, he⟩
    · rw [if_neg e] at h; cases h
theorem ksI_s {w w' : kW} {k : Nat} {r : Option Nat} {i x : Int32} (h : ksI w k r i x = some w') : ∃ a, r = some a ∧ kKd w a = k ∧ vp_in i (kLn w a) ∧ kSI w a i.toNatClampNeg (if k = 13 then vp_nar .byte x else x) = w' := by
  unfold ksI at h
  cases r with
  | none => cases h
  | some a =>
    rw [Option.bind_some] at h
    by_cases e : kKd w a = k
    · rw [if_pos e] at h
      obtain ⟨j, hj, he⟩ := Option.map_eq_some_iff.mp h
      obtain ⟨h1, h2, h3⟩ := kIx_in hj
      subst h2
      exact ⟨a, rfl, e, h1, he⟩
    · rw [if_neg e] at h; cases h
theorem ksJ_s {w w' : kW} {r : Option Nat} {i : Int32} {x : Int64} (h : ksJ w r i x = some w') : ∃ a, r = some a ∧ kKd w a = 15 ∧ vp_in i (kLn w a) ∧ kSJ w a i.toNatClampNeg x = w' := by
  unfold ksJ at h
  cases r with
  | none => cases h
  | some a =>
    rw [Option.bind_some] at h
    by_cases e : kKd w a = 15
    · rw [if_pos e] at h
      obtain ⟨j, hj, he⟩ := Option.map_eq_some_iff.mp h
      obtain ⟨h1, h2, h3⟩ := kIx_in hj
      subst h2
      exact ⟨a, rfl, e, h1, he⟩
    · rw [if_neg e] at h; cases h
theorem ksP_s {w w' : kW} {k : Nat} {r : Option Nat} {i : Int32} {x : Option Nat} (h : ksP w k r i x = some w') : ∃ a, r = some a ∧ kKd w a = k ∧ (∀ b, x = some b → kKd w b = kCo k) ∧ vp_in i (kLn w a) ∧ kSP w a i.toNatClampNeg x = w' := by
  unfold ksP at h
  cases r with
  | none => cases h
  | some a =>
    rw [Option.bind_some] at h
    by_cases e : kKd w a = k ∧ (x.all fun b => kKd w b == kCo k) = true
    · rw [if_pos e] at h
      obtain ⟨j, hj, he⟩ := Option.map_eq_some_iff.mp h
      obtain ⟨h1, h2, h3⟩ := kIx_in hj
      subst h2
      refine ⟨a, rfl, e.1, fun b hb => ?_, h1, he⟩
      have h5 := e.2
      subst hb
      simpa using h5
    · rw [if_neg e] at h; cases h
section VKR
variable {p : Program} {l : Launch} {e : Env} {R : Room} {s : State} {m : MethodId} {args : Array Value} {below : List Frame} {meth : Method} {c : Code} {H : Heap} {locs : List Loc} {cells slots : Nat} {Q : State → Prop}
variable {cc : ByteArray} {pc : Nat} {ls : Array Slot} {rest : List Value} {D : va_G} {aC : Nat → ClassId} {H0 : Heap} {own : String} {w w0 : kW}
theorem kget {k j a N index : Nat} {C : String} {T : u_T} (F : kFx p c cc s args own m D aC) (hX : kX D aC w0 H0 w H locs) (hin : ∀ u ∈ u_ws C T N, u ∈ kT) (hc : vwCl[k]? = some (C, T, N)) (hN : kN k = N) (hk : kKd w a = k) (hk13 : k < 13) (hj : j < N) (hlink : Cond.fieldLink own index (T j).1 (T j).2.1 (T j).2.2.1 ∈ kT) (hdg : decode cc pc = .ok (.getfield index, 3))
    (kk : W p l e R s m args below meth c H locs cells slots Q (F0 m (pc + 3) ls (kFld w a k j :: rest))) : W p l e R s m args below meth c H locs cells slots Q (F0 m pc ls (.ref a :: rest)) := by
  obtain ⟨hx, hb, hts, hown, hK⟩ := F
  have h1 := (hX.1.2 a).1 (by rw [hk]; exact hk13)
  rw [hk, hN] at h1
  obtain ⟨cell, q1, q2, q3, q4⟩ := h1
  obtain ⟨hS, hfc, kC, hkC, hkind⟩ := hK.1 k _ hc
  obtain ⟨cf, kf, fi, f, hi, hsl⟩ := hS j hj
  refine W.getf hx hb hown (hts _ hlink) hi (u_facts hfc hkC (u_lays hts hin hj) hi).1 q1 (by rw [q3]; exact fun h => by cases h) (v := kFld w a k j) ?_ rfl rfl hdg kk
  rw [hsl, q4 j hj]
theorem kgetI {k j N index : Nat} {C : String} {T : u_T} {r : Option Nat} {x : Int32} (hx : kgI w k r j = some x) (F : kFx p c cc s args own m D aC) (hX : kX D aC w0 H0 w H locs) (hin : ∀ u ∈ u_ws C T N, u ∈ kT) (hc : vwCl[k]? = some (C, T, N)) (hN : kN k = N) (hr : kRf (kTy k j) = false) (hk13 : k < 13) (hj : j < N) (hlink : Cond.fieldLink own index (T j).1 (T j).2.1 (T j).2.2.1 ∈ kT) (hdg : decode cc pc = .ok (.getfield index, 3))
    (kk : W p l e R s m args below meth c H locs cells slots Q (F0 m (pc + 3) ls (.int x :: rest))) : W p l e R s m args below meth c H locs cells slots Q (F0 m pc ls (va_rf r :: rest)) := by
  obtain ⟨a, rfl, hk, rfl⟩ := kgI_s hx
  refine kget F hX hin hc hN hk hk13 hj hlink hdg ?_
  have e1 : kFld w a k j = .int (kI w a j) := by unfold kFld; rw [hr]
  rw [e1]
  exact kk
theorem kgetP {k j N index : Nat} {C : String} {T : u_T} {r : Option Nat} {x : Option Nat} (hx : kgP w k r j = some x) (F : kFx p c cc s args own m D aC) (hX : kX D aC w0 H0 w H locs) (hin : ∀ u ∈ u_ws C T N, u ∈ kT) (hc : vwCl[k]? = some (C, T, N)) (hN : kN k = N) (hr : kRf (kTy k j) = true) (hk13 : k < 13) (hj : j < N) (hlink : Cond.fieldLink own index (T j).1 (T j).2.1 (T j).2.2.1 ∈ kT) (hdg : decode cc pc = .ok (.getfield index, 3))
    (kk : W p l e R s m args below meth c H locs cells slots Q (F0 m (pc + 3) ls (va_rf x :: rest))) : W p l e R s m args below meth c H locs cells slots Q (F0 m pc ls (va_rf r :: rest)) := by
  obtain ⟨a, rfl, hk, rfl⟩ := kgP_s hx
  refine kget F hX hin hc hN hk hk13 hj hlink hdg ?_
  have e1 : kFld w a k j = va_rf (kP w a j) := by unfold kFld; rw [hr]
  rw [e1]
  exact kk
theorem kgetN {k j a N index : Nat} {C : String} {T : u_T} (F : kFx p c cc s args own m D aC) (hX : kX D aC w0 H0 w H locs) (hin : ∀ u ∈ u_ws C T N, u ∈ kT) (hc : vwCl[k]? = some (C, T, N)) (hN : kN k = N) (hk : kKd w a = k) (hk13 : k < 13) (hj : j < N) (hZ : kZ w0 s) (hlink : Cond.fieldLinkNest own index (T j).1 (T j).2.1 (T j).2.2.1 "KitchenCards" ∈ kNs) (hdg : decode cc pc = .ok (.getfield index, 3))
    (kk : W p l e R s m args below meth c H locs cells slots Q (F0 m (pc + 3) ls (kFld w a k j :: rest))) : W p l e R s m args below meth c H locs cells slots Q (F0 m pc ls (.ref a :: rest)) := by
  obtain ⟨hx, hb, hts, hown, hK⟩ := F
  have h1 := (hX.1.2 a).1 (by rw [hk]; exact hk13)
  rw [hk, hN] at h1
  obtain ⟨cell, q1, q2, q3, q4⟩ := h1
  obtain ⟨hS, hfc, kC, hkC, hkind⟩ := hK.1 k _ hc
  obtain ⟨cf, kf, fi, f, hi, hsl⟩ := hS j hj
  refine va_Wgetf hx hb hown (hZ.1.use hlink) hi (u_facts hfc hkC (u_lays hts hin hj) hi).1 q1 (by rw [q3]; exact fun h => by cases h) (v := kFld w a k j) ?_ rfl rfl hdg kk
  rw [hsl, q4 j hj]
theorem kgetIN {k j N index : Nat} {C : String} {T : u_T} {r : Option Nat} {x : Int32} (hx : kgI w k r j = some x) (F : kFx p c cc s args own m D aC) (hX : kX D aC w0 H0 w H locs) (hin : ∀ u ∈ u_ws C T N, u ∈ kT) (hc : vwCl[k]? = some (C, T, N)) (hN : kN k = N) (hr : kRf (kTy k j) = false) (hk13 : k < 13) (hj : j < N) (hZ : kZ w0 s) (hlink : Cond.fieldLinkNest own index (T j).1 (T j).2.1 (T j).2.2.1 "KitchenCards" ∈ kNs) (hdg : decode cc pc = .ok (.getfield index, 3))
    (kk : W p l e R s m args below meth c H locs cells slots Q (F0 m (pc + 3) ls (.int x :: rest))) : W p l e R s m args below meth c H locs cells slots Q (F0 m pc ls (va_rf r :: rest)) := by
  obtain ⟨a, rfl, hk, rfl⟩ := kgI_s hx
  refine kgetN F hX hin hc hN hk hk13 hj hZ hlink hdg ?_
  have e1 : kFld w a k j = .int (kI w a j) := by unfold kFld; rw [hr]
  rw [e1]
  exact kk
theorem kgetPN {k j N index : Nat} {C : String} {T : u_T} {r : Option Nat} {x : Option Nat} (hx : kgP w k r j = some x) (F : kFx p c cc s args own m D aC) (hX : kX D aC w0 H0 w H locs) (hin : ∀ u ∈ u_ws C T N, u ∈ kT) (hc : vwCl[k]? = some (C, T, N)) (hN : kN k = N) (hr : kRf (kTy k j) = true) (hk13 : k < 13) (hj : j < N) (hZ : kZ w0 s) (hlink : Cond.fieldLinkNest own index (T j).1 (T j).2.1 (T j).2.2.1 "KitchenCards" ∈ kNs) (hdg : decode cc pc = .ok (.getfield index, 3))
    (kk : W p l e R s m args below meth c H locs cells slots Q (F0 m (pc + 3) ls (va_rf x :: rest))) : W p l e R s m args below meth c H locs cells slots Q (F0 m pc ls (va_rf r :: rest)) := by
  obtain ⟨a, rfl, hk, rfl⟩ := kgP_s hx
  refine kgetN F hX hin hc hN hk hk13 hj hZ hlink hdg ?_
  have e1 : kFld w a k j = va_rf (kP w a j) := by unfold kFld; rw [hr]
  rw [e1]
  exact kk
theorem kX.put {w1 : kW} {a : Nat} {H1 : Heap} (hX : kX D aC w0 H0 w H locs) (ha : kKd w a < 19) (he : kExt w w1) (hz : H1.size = H.size) (oq : ∀ q : Nat, q ≠ a → H1[q]? = H[q]?) (h1 : kH D aC w1 H1) (i : Nat) : kX D aC w0 H0 w1 H1 (locs ++ [⟨a, i⟩]) :=
  ⟨h1, hX.2.1.put hz oq (hX.2.2.1.A a (Or.inl ha)), hX.2.2.1.tr he, hX.2.2.2⟩
/-- a field's store: what it makes of the cell -/
theorem kput {k j a N index : Nat} {C : String} {T : u_T} {v : Value} (F : kFx p c cc s args own m D aC) (hX : kX D aC w0 H0 w H locs) (hin : ∀ u ∈ u_ws C T N, u ∈ kT) (hty : ∀ i, i < N → parseFieldDescriptor (T i).2.2.1 = some (kTy k i)) (hnm : ∀ a, a < N → ∀ b, b < N → a ≠ b → (T a).2.1 ≠ (T b).2.1) (hc : vwCl[k]? = some (C, T, N)) (hN : kN k = N) (hk : kKd w a = k) (hk13 : k < 13) (hj : j < N) (hlink : Cond.fieldLink own index (T j).1 (T j).2.1 (T j).2.2.1 ∈ kT) (hn : narrow (kTy k j) v = v) (hfit : fits (kTy k j) v = true)
    (hfin : (T j).2.2.2 = false ∨ ((T j).2.2.2 = true ∧ meth.name = "<init>" ∧ (T j).1 = own)) (hdg : decode cc pc = .ok (.putfield index, 3))
    (kk : ∀ (H1 : Heap) (i : Nat), H1.size = H.size → (∀ q : Nat, q ≠ a → H1[q]? = H[q]?) → t_OB a (D.1 k) N (D.2 k) H1 (updV (kFld w a k) j v) → W p l e R s m args below meth c H1 (locs ++ [⟨a, i⟩]) cells slots Q (F0 m (pc + 3) ls rest)) : W p l e R s m args below meth c H locs cells slots Q (F0 m pc ls (v :: .ref a :: rest)) := by
  obtain ⟨hx, hb, hts, hown, hK⟩ := F
  have hap := va_apart (own := own) hts hin (kTy k) hty hnm hK hc
  have h1 := (hX.1.2 a).1 (by rw [hk]; exact hk13)
  rw [hk, hN] at h1
  obtain ⟨cell, q1, q2, q3, q4⟩ := h1
  obtain ⟨hS, hfc, kC, hkC, hkind⟩ := hK.1 k _ hc
  obtain ⟨cf, kf, fi, f, hi, hsl⟩ := hS j hj
  have hlay := hts _ (hin _ (u_in_lay hj))
  unfold u_lay at hlay
  have hst := (u_facts hfc hkC (u_lays hts hin hj) hi).1
  rcases hfin with hfin | ⟨hfin, hin2, hdecl⟩
  · rw [if_neg (by rw [hfin]; decide)] at hlay
    have h6 := u_store hfc hkC hkind hlay hi (hty j hj) hn hfit
    refine W.putK hx hb (f := f) ⟨hown, hts _ hlink, ⟨_, _, _, hi⟩, hst⟩ (by rw [q2]; exact h6) q1 q3 (by rw [hsl]; exact k2_hasslot (q4 j hj)) rfl rfl hdg fun H' e1 e2 e3 => ?_
    rw [hsl] at e1
    exact kk H' _ e2 e3 ⟨_, e1, q2, q3, t_set q4 hap hj v⟩
  · rw [if_pos hfin] at hlay
    have hcf : m.cls = cf := by
      obtain ⟨_, _, c', _, _, _, -, -, hf', -, -, -, hown2, -⟩ := Cond.laysFinal_spec hlay
      have e1 : c' = cf := by have := hi.symm.trans hf'; simp at this; exact this.1.symm
      rw [hdecl] at hown2
      rw [← e1]; exact Option.some.inj (hown.symm.trans hown2)
    have h6 := u_fits hfc hkC hkind (Or.inr hlay) hi (hty j hj) hn hfit
    refine W.putFinK hx hb hown (hts _ hlink) hi hst hcf hin2 (by rw [q2]; exact h6) q1 q3 (by rw [hsl]; exact k2_hasslot (q4 j hj)) rfl rfl hdg fun H' e1 e2 e3 => ?_
    rw [hsl] at e1
    exact kk H' _ e2 e3 ⟨_, e1, q2, q3, t_set q4 hap hj v⟩
/-- a field's store: what it makes of the cell -/
theorem kputN {k j a N index : Nat} {C : String} {T : u_T} {v : Value} (F : kFx p c cc s args own m D aC) (hX : kX D aC w0 H0 w H locs) (hin : ∀ u ∈ u_ws C T N, u ∈ kT) (hty : ∀ i, i < N → parseFieldDescriptor (T i).2.2.1 = some (kTy k i)) (hnm : ∀ a, a < N → ∀ b, b < N → a ≠ b → (T a).2.1 ≠ (T b).2.1) (hc : vwCl[k]? = some (C, T, N)) (hN : kN k = N) (hk : kKd w a = k) (hk13 : k < 13) (hj : j < N) (hZ : kZ w0 s) (hlink : Cond.fieldLinkNest own index (T j).1 (T j).2.1 (T j).2.2.1 "KitchenCards" ∈ kNs) (hn : narrow (kTy k j) v = v) (hfit : fits (kTy k j) v = true)
    (hfin : (T j).2.2.2 = false) (hdg : decode cc pc = .ok (.putfield index, 3))
    (kk : ∀ (H1 : Heap) (i : Nat), H1.size = H.size → (∀ q : Nat, q ≠ a → H1[q]? = H[q]?) → t_OB a (D.1 k) N (D.2 k) H1 (updV (kFld w a k) j v) → W p l e R s m args below meth c H1 (locs ++ [⟨a, i⟩]) cells slots Q (F0 m (pc + 3) ls rest)) : W p l e R s m args below meth c H locs cells slots Q (F0 m pc ls (v :: .ref a :: rest)) := by
  obtain ⟨hx, hb, hts, hown, hK⟩ := F
  have hap := va_apart (own := own) hts hin (kTy k) hty hnm hK hc
  have h1 := (hX.1.2 a).1 (by rw [hk]; exact hk13)
  rw [hk, hN] at h1
  obtain ⟨cell, q1, q2, q3, q4⟩ := h1
  obtain ⟨hS, hfc, kC, hkC, hkind⟩ := hK.1 k _ hc
  obtain ⟨cf, kf, fi, f, hi, hsl⟩ := hS j hj
  have hlay := hts _ (hin _ (u_in_lay hj))
  unfold u_lay at hlay
  have hst := (u_facts hfc hkC (u_lays hts hin hj) hi).1
  rw [if_neg (by rw [hfin]; decide)] at hlay
  have h6 := u_store hfc hkC hkind hlay hi (hty j hj) hn hfit
  refine va_WputK hx hb (f := f) hown (hZ.1.use hlink) hi hst (by rw [q2]; exact h6) q1 q3 (by rw [hsl]; exact k2_hasslot (q4 j hj)) rfl rfl hdg fun H' e1 e2 e3 => ?_
  rw [hsl] at e1
  exact kk H' _ e2 e3 ⟨_, e1, q2, q3, t_set q4 hap hj v⟩
theorem kAt_obj {w1 : kW} {a k N : Nat} {H1 : Heap} (hk : kKd w1 a = k) (hN : kN k = N) (hk13 : k < 13) (h : t_OB a (D.1 k) N (D.2 k) H1 (kFld w1 a k)) : kAt D aC w1 a H1 := by
  subst hk
  subst hN
  exact ⟨fun _ => h, fun h1 => absurd hk13 (by omega)⟩
theorem kAt_arr {w1 : kW} {a k : Nat} {H1 : Heap} (hk : kKd w1 a = k) (hk13 : 13 ≤ k) (h : H1[a]? = some (vp_cell (aC k) (kAr w1 a k))) : kAt D aC w1 a H1 := by
  subst hk
  exact ⟨fun h1 => absurd hk13 (by omega), fun _ _ => h⟩
theorem kputI {k j N index : Nat} {C : String} {T : u_T} {r : Option Nat} {x : Int32} {w' : kW} (hw : kpI w k r j x = some w') (F : kFx p c cc s args own m D aC) (hX : kX D aC w0 H0 w H locs) (hin : ∀ u ∈ u_ws C T N, u ∈ kT) (hty : ∀ i, i < N → parseFieldDescriptor (T i).2.2.1 = some (kTy k i)) (hnm : ∀ a, a < N → ∀ b, b < N → a ≠ b → (T a).2.1 ≠ (T b).2.1) (hc : vwCl[k]? = some (C, T, N)) (hN : kN k = N) (hr : kRf (kTy k j) = false) (hk13 : k < 13) (hj : j < N) (hlink : Cond.fieldLink own index (T j).1 (T j).2.1 (T j).2.2.1 ∈ kT) (hn : narrow (kTy k j) (.int x) = .int x) (hfit : fits (kTy k j) (.int x) = true)
    (hfin : (T j).2.2.2 = false ∨ ((T j).2.2.2 = true ∧ meth.name = "<init>" ∧ (T j).1 = own)) (hdg : decode cc pc = .ok (.putfield index, 3))
    (kk : ∀ (H1 : Heap) (locs1 : List Loc), kX D aC w0 H0 w' H1 locs1 → W p l e R s m args below meth c H1 locs1 cells slots Q (F0 m (pc + 3) ls rest)) : W p l e R s m args below meth c H locs cells slots Q (F0 m pc ls (.int x :: va_rf r :: rest)) := by
  obtain ⟨a, rfl, hk, rfl⟩ := kpI_s hw
  refine kput F hX hin hty hnm hc hN hk hk13 hj hlink hn hfit hfin hdg fun H1 i z oq ho => ?_
  refine kk H1 _ (hX.put (w1 := kSI w a j x) (by rw [hk]; omega) (kExt.st rfl rfl rfl) z oq (kH_SI hX.1 z oq (kAt_obj (N := N) hk hN hk13 (ho.to fun i _ => kFld_SI hr i))) i)
theorem kputP {k j N index : Nat} {C : String} {T : u_T} {r x : Option Nat} {w' : kW} (hw : kpP w k r j x = some w') (F : kFx p c cc s args own m D aC) (hX : kX D aC w0 H0 w H locs) (hin : ∀ u ∈ u_ws C T N, u ∈ kT) (hty : ∀ i, i < N → parseFieldDescriptor (T i).2.2.1 = some (kTy k i)) (hnm : ∀ a, a < N → ∀ b, b < N → a ≠ b → (T a).2.1 ≠ (T b).2.1) (hc : vwCl[k]? = some (C, T, N)) (hN : kN k = N) (hr : kRf (kTy k j) = true) (hk13 : k < 13) (hj : j < N) (hlink : Cond.fieldLink own index (T j).1 (T j).2.1 (T j).2.2.1 ∈ kT)
    (hfin : (T j).2.2.2 = false ∨ ((T j).2.2.2 = true ∧ meth.name = "<init>" ∧ (T j).1 = own)) (hdg : decode cc pc = .ok (.putfield index, 3))
    (kk : ∀ (H1 : Heap) (locs1 : List Loc), kX D aC w0 H0 w' H1 locs1 → W p l e R s m args below meth c H1 locs1 cells slots Q (F0 m (pc + 3) ls rest)) : W p l e R s m args below meth c H locs cells slots Q (F0 m pc ls (va_rf x :: va_rf r :: rest)) := by
  obtain ⟨a, rfl, hk, rfl⟩ := kpP_s hw
  have hn : narrow (kTy k j) (va_rf x) = va_rf x := by
    revert hr
    cases kTy k j <;> intro hr <;> first | (cases x <;> rfl) | (exact absurd hr Bool.false_ne_true)
  have hfit : fits (kTy k j) (va_rf x) = true := by
    revert hr
    cases kTy k j <;> intro hr <;> first | (cases x <;> rfl) | (exact absurd hr Bool.false_ne_true)
  refine kput F hX hin hty hnm hc hN hk hk13 hj hlink hn hfit hfin hdg fun H1 i z oq ho => ?_
  refine kk H1 _ (hX.put (w1 := kSP w a j x) (by rw [hk]; omega) (kExt.st rfl rfl rfl) z oq (kH_SP hX.1 z oq (kAt_obj (N := N) hk hN hk13 (ho.to fun i _ => kFld_SP hr i))) i)
theorem kputIN {k j N index : Nat} {C : String} {T : u_T} {r : Option Nat} {x : Int32} {w' : kW} (hw : kpI w k r j x = some w') (F : kFx p c cc s args own m D aC) (hX : kX D aC w0 H0 w H locs) (hin : ∀ u ∈ u_ws C T N, u ∈ kT) (hty : ∀ i, i < N → parseFieldDescriptor (T i).2.2.1 = some (kTy k i)) (hnm : ∀ a, a < N → ∀ b, b < N → a ≠ b → (T a).2.1 ≠ (T b).2.1) (hc : vwCl[k]? = some (C, T, N)) (hN : kN k = N) (hr : kRf (kTy k j) = false) (hk13 : k < 13) (hj : j < N) (hZ : kZ w0 s) (hlink : Cond.fieldLinkNest own index (T j).1 (T j).2.1 (T j).2.2.1 "KitchenCards" ∈ kNs) (hn : narrow (kTy k j) (.int x) = .int x) (hfit : fits (kTy k j) (.int x) = true)
    (hfin : (T j).2.2.2 = false) (hdg : decode cc pc = .ok (.putfield index, 3))
    (kk : ∀ (H1 : Heap) (locs1 : List Loc), kX D aC w0 H0 w' H1 locs1 → W p l e R s m args below meth c H1 locs1 cells slots Q (F0 m (pc + 3) ls rest)) : W p l e R s m args below meth c H locs cells slots Q (F0 m pc ls (.int x :: va_rf r :: rest)) := by
  obtain ⟨a, rfl, hk, rfl⟩ := kpI_s hw
  refine kputN F hX hin hty hnm hc hN hk hk13 hj hZ hlink hn hfit hfin hdg fun H1 i z oq ho => ?_
  refine kk H1 _ (hX.put (w1 := kSI w a j x) (by rw [hk]; omega) (kExt.st rfl rfl rfl) z oq (kH_SI hX.1 z oq (kAt_obj (N := N) hk hN hk13 (ho.to fun i _ => kFld_SI hr i))) i)
theorem kputPN {k j N index : Nat} {C : String} {T : u_T} {r x : Option Nat} {w' : kW} (hw : kpP w k r j x = some w') (F : kFx p c cc s args own m D aC) (hX : kX D aC w0 H0 w H locs) (hin : ∀ u ∈ u_ws C T N, u ∈ kT) (hty : ∀ i, i < N → parseFieldDescriptor (T i).2.2.1 = some (kTy k i)) (hnm : ∀ a, a < N → ∀ b, b < N → a ≠ b → (T a).2.1 ≠ (T b).2.1) (hc : vwCl[k]? = some (C, T, N)) (hN : kN k = N) (hr : kRf (kTy k j) = true) (hk13 : k < 13) (hj : j < N) (hZ : kZ w0 s) (hlink : Cond.fieldLinkNest own index (T j).1 (T j).2.1 (T j).2.2.1 "KitchenCards" ∈ kNs)
    (hfin : (T j).2.2.2 = false) (hdg : decode cc pc = .ok (.putfield index, 3))
    (kk : ∀ (H1 : Heap) (locs1 : List Loc), kX D aC w0 H0 w' H1 locs1 → W p l e R s m args below meth c H1 locs1 cells slots Q (F0 m (pc + 3) ls rest)) : W p l e R s m args below meth c H locs cells slots Q (F0 m pc ls (va_rf x :: va_rf r :: rest)) := by
  obtain ⟨a, rfl, hk, rfl⟩ := kpP_s hw
  have hn : narrow (kTy k j) (va_rf x) = va_rf x := by
    revert hr
    cases kTy k j <;> intro hr <;> first | (cases x <;> rfl) | (exact absurd hr Bool.false_ne_true)
  have hfit : fits (kTy k j) (va_rf x) = true := by
    revert hr
    cases kTy k j <;> intro hr <;> first | (cases x <;> rfl) | (exact absurd hr Bool.false_ne_true)
  refine kputN F hX hin hty hnm hc hN hk hk13 hj hZ hlink hn hfit hfin hdg fun H1 i z oq ho => ?_
  refine kk H1 _ (hX.put (w1 := kSP w a j x) (by rw [hk]; omega) (kExt.st rfl rfl rfl) z oq (kH_SP hX.1 z oq (kAt_obj (N := N) hk hN hk13 (ho.to fun i _ => kFld_SP hr i))) i)
theorem kX.arr {k a : Nat} (hX : kX D aC w0 H0 w H locs) (hk : kKd w a = k) (h1 : 13 ≤ k) (h2 : k < 19) : H[a]? = some (vp_cell (aC k) (kAr w a k)) := by
  subst hk
  exact (hX.1.2 a).2 h1 h2
theorem kald {r : Option Nat} {i x : Int32} (hv : kaI w 14 r i = some x) (F : kFx p c cc s args own m D aC) (hX : kX D aC w0 H0 w H locs) (hdg : decode cc pc = .ok (.iaload, 1))
    (kk : W p l e R s m args below meth c H locs cells slots Q (F0 m (pc + 1) ls (.int x :: rest))) : W p l e R s m args below meth c H locs cells slots Q (F0 m pc ls (.int i :: va_rf r :: rest)) := by
  obtain ⟨a, rfl, hk, hi, hlt, rfl⟩ := kaI_s hv
  obtain ⟨hx, hb, hts, hown, hK⟩ := F
  exact W.iald (v := .int (kI w a i.toNatClampNeg)) hx hb (hX.arr hk (by decide) (by decide)) ((hK.arr (k := 14) (by decide) (by decide)).1 (kLn w a) (fun j => .int (kI w a j))) (fun q => by cases q) (by show ¬ (i < 0 ∨ (arrV (aC 14) (kLn w a) (fun j => .int (kI w a j))).slots.size ≤ _); rw [arrV_size]; exact hi) (by show (arrV (aC 14) (kLn w a) (fun j => .int (kI w a j))).slots[_]? = _; rw [arrV_read _ _ hlt]) rfl rfl hdg kk
theorem kbld {r : Option Nat} {i x : Int32} (hv : kaI w 13 r i = some x) (F : kFx p c cc s args own m D aC) (hX : kX D aC w0 H0 w H locs) (hdg : decode cc pc = .ok (.baload, 1))
    (kk : W p l e R s m args below meth c H locs cells slots Q (F0 m (pc + 1) ls (.int x :: rest))) : W p l e R s m args below meth c H locs cells slots Q (F0 m pc ls (.int i :: va_rf r :: rest)) := by
  obtain ⟨a, rfl, hk, hi, hlt, rfl⟩ := kaI_s hv
  obtain ⟨hx, hb, hts, hown, hK⟩ := F
  exact W.bald (v := .int (kI w a i.toNatClampNeg)) hx hb (hX.arr hk (by decide) (by decide)) ((hK.arr (k := 13) (by decide) (by decide)).1 (kLn w a) (fun j => .int (kI w a j))) (fun q => by cases q) (by show ¬ (i < 0 ∨ (arrV (aC 13) (kLn w a) (fun j => .int (kI w a j))).slots.size ≤ _); rw [arrV_size]; exact hi) (by show (arrV (aC 13) (kLn w a) (fun j => .int (kI w a j))).slots[_]? = _; rw [arrV_read _ _ hlt]) rfl rfl hdg kk
theorem klld {r : Option Nat} {i : Int32} {x : Int64} (hv : kaJ w r i = some x) (F : kFx p c cc s args own m D aC) (hX : kX D aC w0 H0 w H locs) (hdg : decode cc pc = .ok (.laload, 1))
    (kk : W p l e R s m args below meth c H locs cells slots Q (F0 m (pc + 1) ls (.long x :: rest))) : W p l e R s m args below meth c H locs cells slots Q (F0 m pc ls (.int i :: va_rf r :: rest)) := by
  obtain ⟨a, rfl, hk, hi, hlt, rfl⟩ := kaJ_s hv
  obtain ⟨hx, hb, hts, hown, hK⟩ := F
  exact W.lald (v := .long (kJ w a i.toNatClampNeg)) hx hb (hX.arr hk (by decide) (by decide)) ((hK.arr (k := 15) (by decide) (by decide)).1 (kLn w a) (fun j => .long (kJ w a j))) (fun q => by cases q) (by show ¬ (i < 0 ∨ (arrV (aC 15) (kLn w a) (fun j => .long (kJ w a j))).slots.size ≤ _); rw [arrV_size]; exact hi) (by show (arrV (aC 15) (kLn w a) (fun j => .long (kJ w a j))).slots[_]? = _; rw [arrV_read _ _ hlt]) rfl rfl hdg kk
theorem kqld16 {r x : Option Nat} {i : Int32} (hv : kaP w 16 r i = some x) (F : kFx p c cc s args own m D aC) (hX : kX D aC w0 H0 w H locs) (hdg : decode cc pc = .ok (.aaload, 1))
    (kk : W p l e R s m args below meth c H locs cells slots Q (F0 m (pc + 1) ls (va_rf x :: rest))) : W p l e R s m args below meth c H locs cells slots Q (F0 m pc ls (.int i :: va_rf r :: rest)) := by
  obtain ⟨a, rfl, hk, hi, hlt, rfl⟩ := kaP_s hv
  obtain ⟨hx, hb, hts, hown, hK⟩ := F
  exact W.aald (v := va_rf (kP w a i.toNatClampNeg)) (ty := .object RX1) hx hb (hX.arr hk (by decide) (by decide)) ((hK.arr (k := 16) (by decide) (by decide)).1 (kLn w a) (fun j => va_rf (kP w a j))) rfl (fun q => by cases q) (by show ¬ (i < 0 ∨ (arrV (aC 16) (kLn w a) (fun j => va_rf (kP w a j))).slots.size ≤ _); rw [arrV_size]; exact hi) (by show (arrV (aC 16) (kLn w a) (fun j => va_rf (kP w a j))).slots[_]? = _; rw [arrV_read _ _ hlt]) rfl rfl hdg kk
theorem kqld17 {r x : Option Nat} {i : Int32} (hv : kaP w 17 r i = some x) (F : kFx p c cc s args own m D aC) (hX : kX D aC w0 H0 w H locs) (hdg : decode cc pc = .ok (.aaload, 1))
    (kk : W p l e R s m args below meth c H locs cells slots Q (F0 m (pc + 1) ls (va_rf x :: rest))) : W p l e R s m args below meth c H locs cells slots Q (F0 m pc ls (.int i :: va_rf r :: rest)) := by
  obtain ⟨a, rfl, hk, hi, hlt, rfl⟩ := kaP_s hv
  obtain ⟨hx, hb, hts, hown, hK⟩ := F
  exact W.aald (v := va_rf (kP w a i.toNatClampNeg)) (ty := .object RX3) hx hb (hX.arr hk (by decide) (by decide)) ((hK.arr (k := 17) (by decide) (by decide)).1 (kLn w a) (fun j => va_rf (kP w a j))) rfl (fun q => by cases q) (by show ¬ (i < 0 ∨ (arrV (aC 17) (kLn w a) (fun j => va_rf (kP w a j))).slots.size ≤ _); rw [arrV_size]; exact hi) (by show (arrV (aC 17) (kLn w a) (fun j => va_rf (kP w a j))).slots[_]? = _; rw [arrV_read _ _ hlt]) rfl rfl hdg kk
theorem kqld18 {r x : Option Nat} {i : Int32} (hv : kaP w 18 r i = some x) (F : kFx p c cc s args own m D aC) (hX : kX D aC w0 H0 w H locs) (hdg : decode cc pc = .ok (.aaload, 1))
    (kk : W p l e R s m args below meth c H locs cells slots Q (F0 m (pc + 1) ls (va_rf x :: rest))) : W p l e R s m args below meth c H locs cells slots Q (F0 m pc ls (.int i :: va_rf r :: rest)) := by
  obtain ⟨a, rfl, hk, hi, hlt, rfl⟩ := kaP_s hv
  obtain ⟨hx, hb, hts, hown, hK⟩ := F
  exact W.aald (v := va_rf (kP w a i.toNatClampNeg)) (ty := .object RX6) hx hb (hX.arr hk (by decide) (by decide)) ((hK.arr (k := 18) (by decide) (by decide)).1 (kLn w a) (fun j => va_rf (kP w a j))) rfl (fun q => by cases q) (by show ¬ (i < 0 ∨ (arrV (aC 18) (kLn w a) (fun j => va_rf (kP w a j))).slots.size ≤ _); rw [arrV_size]; exact hi) (by show (arrV (aC 18) (kLn w a) (fun j => va_rf (kP w a j))).slots[_]? = _; rw [arrV_read _ _ hlt]) rfl rfl hdg kk
end VKR
