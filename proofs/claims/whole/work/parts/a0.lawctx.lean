/-! THE LAW: what holds at its entry -/
def wZ (s : State) : kW := kMk (fun _ => 99) (fun _ => 0) (fun _ _ => 0) (fun _ _ => none) (fun _ _ => 0) s.heap.size
theorem wnX11 : Cond.instantiable RX11 14 ∈ kT := kTm 118 (by decide +kernel) rfl
theorem wiX11 : Cond.initialized RX11 ∈ kT := kTm 94 (by decide +kernel) rfl
theorem wnX12 : Cond.instantiable RX12 41 ∈ kT := kTm 1229 (by decide +kernel) rfl
theorem wo1 : Cond.arrayOver (.object RX1) ∈ lw_tbl := List.mem_of_getElem? (i := 132) (by decide +kernel)
theorem wo3 : Cond.arrayOver (.object RX3) ∈ lw_tbl := List.mem_of_getElem? (i := 134) (by decide +kernel)
theorem wo6 : Cond.arrayOver (.object RX6) ∈ lw_tbl := List.mem_of_getElem? (i := 172) (by decide +kernel)
theorem wls : Cond.laysStatic "KitchenCards" "LETTER_WAYS" "[J" ∈ lw_tbl := List.mem_of_getElem? (i := 602) (by decide +kernel)
theorem wzH {s : State} {D : va_G} {aC : Nat → ClassId} : kH D aC (wZ s) s.heap := ⟨rfl, fun a => ⟨fun h => absurd h (by show ¬ (99 < 13); omega), fun _ h => absurd h (by show ¬ (99 < 19); omega)⟩⟩
theorem wzA {s : State} {q : Nat} (h : kA (wZ s) q) : s.heap.size ≤ q := by
  rcases h with h | h
  · exact absurd h (by show ¬ (99 < 19); omega)
  · exact h
theorem aSt {s : State} {A : Array Value} {ty : FieldType} (hne : va_RA s = va_RA s) (h : (Cond.arrayClass ty).before A s = true) (ho : ∀ C, ty ≠ .object C) : ∃ cA, ArrOfT s cA ty ∧ s.vm.findClass ("[" ++ ty.toString) = some cA := by
  obtain ⟨cA, kA, comp, h1, h2, h3⟩ := Cond.arrayClass_spec h
  exact ⟨cA, fun n z => ⟨fun k h => (by cases h), kA, h2, comp, h3⟩, h1⟩
theorem oStA {s : State} {A : Array Value} {C : String} (h : (Cond.arrayOver (.object C)).before A s = true) : ∃ cA, ArrOfT s cA (.object C) ∧ va_RA s cA (.object C) := by
  obtain ⟨comp, cA, kA, h1, h2, h3, h4, h5⟩ := Cond.arrayOver_spec h
  exact ⟨cA, fun n z => ⟨fun k h => (by cases h), kA, h3, comp, h4⟩, kA, comp, h3, h4, h1, h5⟩
theorem cSt {s : State} {A : Array Value} (hK : ∀ u, u ∈ kT → u.before A s = true) {k : Nat} {C : String} {T : u_T} {N n : Nat} (e : vwCl[k]? = some (C, T, N)) (h1 : ∀ u ∈ u_ws C T N, u ∈ kT) (h2 : Cond.instantiable C n ∈ kT) : ∃ z : ClassId × (Nat → Nat), ∀ q : vw_C, vwCl[k]? = some q → u_Kn s q.1 q.2.1 q.2.2 z.1 z.2 := by
  obtain ⟨cC, iS, h⟩ := u_known (ws := kT) hK h1 (hK _ h2)
  refine ⟨(cC, iS), fun q hq => ?_⟩
  rw [e] at hq
  cases hq
  exact h
theorem kkStart {s : State} {A : Array Value} (hts : ∀ w ∈ lw_tbl, w.before A s = true) : ∃ (D : va_G) (aC : Nat → ClassId), kK D aC s := by
  have hK : ∀ u, u ∈ kT → u.before A s = true := fun u hu => hts u (kT_tbl hu)
  have c1 : ∀ k : Nat, ∃ z : ClassId × (Nat → Nat), ∀ q : vw_C, vwCl[k]? = some q → u_Kn s q.1 q.2.1 q.2.2 z.1 z.2 := by
    intro k
    by_cases hk : k < 13
    · rcases (show k = 0 ∨ k = 1 ∨ k = 2 ∨ k = 3 ∨ k = 4 ∨ k = 5 ∨ k = 6 ∨ k = 7 ∨ k = 8 ∨ k = 9 ∨ k = 10 ∨ k = 11 ∨ k = 12 by omega) with rfl | rfl | rfl | rfl | rfl | rfl | rfl | rfl | rfl | rfl | rfl | rfl | rfl
      · exact cSt hK rfl hinX0 wnX0
      · exact cSt hK rfl hinX1 wnX1
      · exact cSt hK rfl hinX2 wnX2
      · exact cSt hK rfl hinX3 wnX3
      · exact cSt hK rfl hinX4 wnX4
      · exact cSt hK rfl hinX5 wnX5
      · exact cSt hK rfl hinX6 wnX6
      · exact cSt hK rfl hinX7 wnX7
      · exact cSt hK rfl hinX8 wnX8
      · exact cSt hK rfl hinX9 wnX9
      · exact cSt hK rfl hinX10 wnX10
      · exact cSt hK rfl hinX11 wnX11
      · exact cSt hK rfl hinX12 wnX12
    · refine ⟨(0, fun _ => 0), fun q hq => ?_⟩
      have := (List.getElem?_eq_some_iff.mp hq).1
      exact absurd this (by show ¬ (k < 13); exact hk)
  have c2 : ∀ k : Nat, ∃ cA : ClassId, 13 ≤ k → k < 19 → ArrOfT s cA (kTyA k) ∧ va_RA s cA (kTyA k) := by
    intro k
    by_cases hk : 13 ≤ k ∧ k < 19
    · rcases (show k = 13 ∨ k = 14 ∨ k = 15 ∨ k = 16 ∨ k = 17 ∨ k = 18 by omega) with rfl | rfl | rfl | rfl | rfl | rfl
      · obtain ⟨cA, h1, h2⟩ := aSt rfl (hK _ wA13) (fun C z => by cases z)
        exact ⟨cA, fun _ _ => ⟨h1, h2⟩⟩
      · obtain ⟨cA, h1, h2⟩ := aSt rfl (hK _ wA14) (fun C z => by cases z)
        exact ⟨cA, fun _ _ => ⟨h1, h2⟩⟩
      · obtain ⟨cA, h1, h2⟩ := aSt rfl (hK _ wA15) (fun C z => by cases z)
        exact ⟨cA, fun _ _ => ⟨h1, h2⟩⟩
      · obtain ⟨cA, h1, h2⟩ := oStA (hts _ wo1)
        exact ⟨cA, fun _ _ => ⟨h1, h2⟩⟩
      · obtain ⟨cA, h1, h2⟩ := oStA (hts _ wo3)
        exact ⟨cA, fun _ _ => ⟨h1, h2⟩⟩
      · obtain ⟨cA, h1, h2⟩ := oStA (hts _ wo6)
        exact ⟨cA, fun _ _ => ⟨h1, h2⟩⟩
    · exact ⟨0, fun a b => absurd ⟨a, b⟩ hk⟩
  obtain ⟨f, hf⟩ := Classical.axiomOfChoice c1
  obtain ⟨g, hg⟩ := Classical.axiomOfChoice c2
  refine ⟨(fun k => (f k).1, fun k => (f k).2), g, hf, ?_⟩
  intro k q hq
  have hl := (List.getElem?_eq_some_iff.mp hq).1
  have hl' : k < 6 := hl
  match k, hl', hq with
  | 0, _, hq => cases hq; exact hg 13 (by omega) (by omega)
  | 1, _, hq => cases hq; exact hg 14 (by omega) (by omega)
  | 2, _, hq => cases hq; exact hg 15 (by omega) (by omega)
  | 3, _, hq => cases hq; exact hg 16 (by omega) (by omega)
  | 4, _, hq => cases hq; exact hg 17 (by omega) (by omega)
  | 5, _, hq => cases hq; exact hg 18 (by omega) (by omega)
theorem kzStart {s : State} {A : Array Value} (hts : ∀ w ∈ lw_tbl, w.before A s = true) (hgv : (Jvm.Cond.and given_1 narrow_1).before A s = true) : kZ (wZ s) s := by
  have hs := flat_of_before _ hgv
  have hA : ∀ a : Nat, a < s.heap.size → ¬ kA (wZ s) a := fun a h z => by have := wzA z; omega
  refine ⟨fun u hu => ?_, ⟨va_AO.of (hts _ wo1), va_AO.of (hts _ wo3), va_AO.of (hts _ wo6)⟩, ?_⟩
  · have h1 := hts u (List.mem_filter.mp hu).1
    have h2 := (List.mem_filter.mp hu).2
    cases u <;> first | (cases h2; done) | exact va_Nw.of rfl h1
  · have e0 := va_eqtl (hs (Cond.eq (.elem (.static "KitchenCards" "LETTER_WAYS" "[J") (.int 0)) (.long (-6148914691236517206))) (by decide +kernel))
    have e1 := va_eqtl (hs (Cond.eq (.elem (.static "KitchenCards" "LETTER_WAYS" "[J") (.int 1)) (.long (-3689348814741910324))) (by decide +kernel))
    have e2 := va_eqtl (hs (Cond.eq (.elem (.static "KitchenCards" "LETTER_WAYS" "[J") (.int 2)) (.long (-1085102592571150096))) (by decide +kernel))
    have e3 := va_eqtl (hs (Cond.eq (.elem (.static "KitchenCards" "LETTER_WAYS" "[J") (.int 3)) (.long (-71777214294589696))) (by decide +kernel))
    have e4 := va_eqtl (hs (Cond.eq (.elem (.static "KitchenCards" "LETTER_WAYS" "[J") (.int 4)) (.long (-281470681808896))) (by decide +kernel))
    have e5 := va_eqtl (hs (Cond.eq (.elem (.static "KitchenCards" "LETTER_WAYS" "[J") (.int 5)) (.long (-4294967296))) (by decide +kernel))
    have el := va_eqt (hs (Cond.eq (.length (.static "KitchenCards" "LETTER_WAYS" "[J")) (.int 6)) (by decide +kernel))
    obtain ⟨t, ht, hT⟩ := va_Tof (ty := .long) (N := 6) (f := fun j => .long (kLet j)) (A := kA (wZ s)) (by decide) (hs (Cond.arrayOf (.static "KitchenCards" "LETTER_WAYS" "[J") .long) (by decide +kernel)) el (fun j hj => by
      rcases (show j = 0 ∨ j = 1 ∨ j = 2 ∨ j = 3 ∨ j = 4 ∨ j = 5 by omega) with rfl | rfl | rfl | rfl | rfl | rfl
      · exact e0
      · exact e1
      · exact e2
      · exact e3
      · exact e4
      · exact e5) hA
    exact ⟨t, va_Zref (hts _ wls) (hts _ (kT_tbl wiX11)) ht hA, hT⟩
