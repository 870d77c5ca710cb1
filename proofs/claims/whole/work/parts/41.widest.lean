/-! THE WIDEST PUTTING, the class's -/
def WdS (ow : Nat → Nat × Nat) (w : kW) (d l r t s : Nat) : Prop := (kKd w d = 9 ∧ ow d = (d, 0) ∧ kP w d 0 = some l ∧ kP w d 1 = some r ∧ kP w d 2 = some t ∧ kP w d 3 = some s) ∧ (LnS ow w l 200 ∧ LnS ow w r 200 ∧ LnS ow w t 200 ∧ LnS ow w s 200) ∧ l ≠ r ∧ l ≠ t ∧ l ≠ s ∧ r ≠ t ∧ r ≠ s ∧ t ≠ s
def WdO (l r t s : Nat) : Nat → Prop := fun q => q = l ∨ q = r ∨ q = t ∨ q = s
theorem WdS.sm {ow : Nat → Nat × Nat} {S : Nat → Prop} {w w1 : kW} {d l r t s : Nat} (h : WdS ow w d l r t s) (hs : Sm ow S w w1) : WdS ow w1 d l r t s := by
  obtain ⟨⟨h1, h2, h3, h4, h5, h6⟩, ⟨h7, h8, h9, h10⟩, h11⟩ := h
  refine ⟨⟨by rw [hs.1]; exact h1, h2, ?_, ?_, ?_, ?_⟩, ⟨h7.sm hs, h8.sm hs, h9.sm hs, h10.sm hs⟩, h11⟩ <;> rw [hs.2.2.2.1] <;> assumption
theorem WdS.sq {ow : Nat → Nat × Nat} {S : Nat → Prop} {w w1 : kW} {d l r t s : Nat} (h : WdS ow w d l r t s) (hs : Sq ow S w w1) (n1 : ¬ S d) (n2 : ¬ S l) (n3 : ¬ S r) (n4 : ¬ S t) (n5 : ¬ S s) : WdS ow w1 d l r t s := by
  obtain ⟨⟨h1, h2, h3, h4, h5, h6⟩, ⟨h7, h8, h9, h10⟩, h11⟩ := h
  refine ⟨⟨by rw [hs.1]; exact h1, h2, ?_, ?_, ?_, ?_⟩, ⟨h7.sq hs n2, h8.sq hs n3, h9.sq hs n4, h10.sq hs n5⟩, h11⟩ <;> rw [(hs.2.2.2 d (by rw [h2]; exact n1)).2.1] <;> assumption
theorem Lf.sm {ow : Nat → Nat × Nat} {S : Nat → Prop} {w w1 : kW} {a cap : Nat} {f : Fo} (h : Lf ow w a cap f) (hs : Sm ow S w w1) (ha : ¬ S a) : Lf ow w1 a cap f := h.sq hs.q ha
theorem firstUnlike_loop {ow : Nat → Nat × Nat} {w : kW} {d l r t s : Nat} {v u X Z Z' : List Nat} (hw : WdS ow w d l r t s) (h : Ln ow w l 200 v) (hr : Ln ow w r 200 u) (hv : ∀ c ∈ v, c < 128) (hu : ∀ c ∈ u, c < 128) (e : v = X ++ Z) (e' : u = X ++ Z') (hz : Z = [] ∨ ∃ c D c' D', Z = c :: D ∧ Z' = c' :: D' ∧ c ≠ c') (kont : Int32 → Option Int32) : ∀ (k n i : Nat), k < n → i + k = X.length →
    fX9_firstUnlike_L2 d w n kont (iI i) = kont (iI X.length) := by
  intro k
  have hkd := hw.1.1
  have p0 := hw.1.2.2.1
  have p1 := hw.1.2.2.2.1
  have hkl := h.1.1
  have hkr := hr.1.1
  have h5 := h.2.2.1.1
  have b1 := h.2.1
  have b2 := h.1.2.2.1
  have b3 := hr.2.1
  have b4 := hr.1.2.2.1
  have l1 : v.length = X.length + Z.length := by rw [e]; simp
  have l2 : u.length = X.length + Z'.length := by rw [e']; simp
  induction k with
  | zero =>
    intro n i hn hi
    obtain ⟨n, rfl⟩ : ∃ z, n = z + 1 := ⟨n - 1, by omega⟩
    have hi' : i = X.length := by omega
    subst hi'
    rw [fX9_firstUnlike_L2]
    rcases hz with hz | ⟨c, D, c', D', z1, z2, z3⟩
    · have l3 : v.length = X.length := by rw [l1, hz]; simp
      simp (disch := omega) only [kgI_e, kgP_e, kpI_e, kpP_e, kal_e, kaI_e, kaP_e, kaJ_e, ksI_e, ksP_e, ksJ_e, kRc_e, kIx_i, Option.bind_some, Option.map_some, iI_lt, iI_le, iI_eq, p0, h5, if_pos]
    · have f1 := at_at (X := X) (c := c) (Y := D) h (by rw [e, z1])
      have f2 := at_at (X := X) (c := c') (Y := D') hr (by rw [e', z2])
      have g1 : c < 128 := hv c (by rw [e, z1]; simp)
      have g2 : c' < 128 := hu c' (by rw [e', z2]; simp)
      have l3 : X.length < v.length := by rw [l1, z1]; simp
      simp (disch := omega) only [kgI_e, kgP_e, kpI_e, kpP_e, kal_e, kaI_e, kaP_e, kaJ_e, ksI_e, ksP_e, ksJ_e, kRc_e, kIx_i, Option.bind_some, Option.map_some, iI_lt, iI_le, iI_eq, p0, p1, h5, f1, f2, if_neg]
  | succ k ih =>
    intro n i hn hi
    obtain ⟨n, rfl⟩ : ∃ z, n = z + 1 := ⟨n - 1, by omega⟩
    have q1 : i < v.length := by omega
    have q2 : i < u.length := by omega
    have f1 := at_in h q1
    have f2 := at_in hr q2
    have g1 := hv _ (List.getElem_mem q1)
    have e3 : v[i] = u[i] := by
      have z1 : v[i] = X[i]'(by omega) := by subst e; exact List.getElem_append_left (by omega)
      have z2 : u[i] = X[i]'(by omega) := by subst e'; exact List.getElem_append_left (by omega)
      rw [z1, z2]
    rw [← e3] at f2
    have ih' := ih n (i + 1) (by omega) (by omega)
    push_cast at ih'
    rw [fX9_firstUnlike_L2]
    simp (disch := omega) only [kgI_e, kgP_e, kpI_e, kpP_e, kal_e, kaI_e, kaP_e, kaJ_e, ksI_e, ksP_e, ksJ_e, kRc_e, kIx_i, Option.bind_some, Option.map_some, iI_lt, iI_le, iI_eq, p0, p1, h5, f1, f2, if_neg, if_pos, ite_true, iI_add, iL_1, ih']
theorem firstUnlike_ok {ow : Nat → Nat × Nat} {w : kW} {d l r t s : Nat} {v u X Z Z' : List Nat} (hw : WdS ow w d l r t s) (h : Ln ow w l 200 v) (hr : Ln ow w r 200 u) (hv : ∀ c ∈ v, c < 128) (hu : ∀ c ∈ u, c < 128) (e : v = X ++ Z) (e' : u = X ++ Z') (hz : Z = [] ∨ ∃ c D c' D', Z = c :: D ∧ Z' = c' :: D' ∧ c ≠ c') :
    fX9_firstUnlike d w = some (iI X.length) := by
  have b1 := h.2.1
  have b2 := h.1.2.2.1
  have l1 : v.length = X.length + Z.length := by rw [e]; simp
  have f := firstUnlike_loop hw h hr hv hu e e' hz (fun z => some z) X.length kFU 0 (by unfold kFU; omega) (by omega)
  rw [fX9_firstUnlike]
  have e0 : (0 : Int32) = iI ((0 : Nat) : Int) := by decide +kernel
  rw [e0]
  exact f
theorem putEv_loop {ow : Nat → Nat × Nat} {d a t s : Nat} {F p : Fo} {k : Nat} (hk6 : k < 6) (n1 : s ≠ a) (n2 : s ≠ t) (kont : kW → Option (Int32 × kW)) : ∀ (m n i : Nat) (w : kW) (ov : Option (List Nat)), m < n → i + m = (fPre F).length → kKd w d = 9 → kP w d 2 = some t → kP w d 3 = some s → Lf ow w a 200 F → Lf ow w t 200 p → Lx ow w s 200 ov →
    ∃ w', fX9_putEverywhere_L9 d (some a) (iI (112 + k : Nat)) n (fun _ q => kont q) (iI i) w = kont w' ∧ Lx ow w' s 200 (apc 200 ov (sL k p ((fPre F).drop i))) ∧ Sm ow (fun q => q = s) w w' := by
  intro m
  induction m with
  | zero =>
    intro n i w ov hn hi hkd p2 p3 h ht hx
    obtain ⟨n, rfl⟩ : ∃ z, n = z + 1 := ⟨n - 1, by omega⟩
    have hk := h.2.1.1.1
    have h5 := h.2.1.2.2.1.1
    have b1 := h.2.1.2.1
    refine ⟨w, ?_, ?_, Sm.rf w⟩
    · rw [fX9_putEverywhere_L9]
      simp (disch := omega) only [kgI_e, kgP_e, kpI_e, kpP_e, kal_e, kaI_e, kaP_e, kaJ_e, ksI_e, ksP_e, ksJ_e, kRc_e, kIx_i, Option.bind_some, Option.map_some, iI_lt, iI_le, iI_eq, h5, if_pos]
    · rw [List.drop_eq_nil_of_le (by omega)]
      cases ov with
      | none => exact hx
      | some u =>
        have e : apc 200 (some u) (sL k p []) = some u := by
          have := hx.2.1
          simp [apc, sL]; omega
        rw [e]; exact hx
  | succ m ih =>
    intro n i w ov hn hi hkd p2 p3 h ht hx
    obtain ⟨n, rfl⟩ : ∃ z, n = z + 1 := ⟨n - 1, by omega⟩
    have hk := h.2.1.1.1
    have h5 := h.2.1.2.2.1.1
    have b1 := h.2.1.2.1
    have hkt := ht.2.1.1.1
    have hks := hx.S.1
    have hlt : i < (fPre F).length := by omega
    have f1 := at_in h.2.1 hlt
    have g1 := h.lt _ (List.getElem_mem hlt)
    have hd : (fPre F).drop i = (fPre F)[i] :: (fPre F).drop (i + 1) := List.drop_eq_getElem_cons hlt
    rw [hd, sL_cons, ← apc_apc]
    by_cases hc : (fPre F)[i] = 112 + k
    · rw [if_pos hc]
      obtain ⟨w1, e1, h1, s1⟩ := addPart_ok (X := []) (Y := []) n2 hx ht.2.1 ht.2.2 ht.lt (by simp) ht.1
      obtain ⟨w2, e2, h2, s2⟩ := ih n (i + 1) w1 _ (by omega) (by omega) (by rw [s1.1]; exact hkd) (by rw [s1.2.2.2.1]; exact p2) (by rw [s1.2.2.2.1]; exact p3) (h.sm s1 (Ne.symm n1)) (ht.sm s1 (Ne.symm n2)) h1
      refine ⟨w2, ?_, h2, s1.tr s2⟩
      have e1' : fX1_addPart s (some t) (iI 0) w = some w1 := e1
      have hc' : ((fPre F)[i] : Int) = 112 + (k : Int) := by omega
      rw [fX9_putEverywhere_L9]
      push_cast at e2 ⊢
      simp (disch := omega) only [kgI_e, kgP_e, kpI_e, kpP_e, kal_e, kaI_e, kaP_e, kaJ_e, ksI_e, ksP_e, ksJ_e, kRc_e, kIx_i, Option.bind_some, Option.map_some, iI_lt, iI_le, iI_eq, h5, f1, p2, p3, if_neg, if_pos, iL_0, e1', iI_add, iL_1]
      exact e2
    · rw [if_neg hc]
      obtain ⟨w1, e1, h1, s1⟩ := add_ok hx (fPre F)[i] g1
      obtain ⟨w2, e2, h2, s2⟩ := ih n (i + 1) w1 _ (by omega) (by omega) (by rw [s1.1]; exact hkd) (by rw [s1.2.2.2.1]; exact p2) (by rw [s1.2.2.2.1]; exact p3) (h.sm s1 (Ne.symm n1)) (ht.sm s1 (Ne.symm n2)) h1
      refine ⟨w2, ?_, h2, s1.tr s2⟩
      rw [fX9_putEverywhere_L9]
      push_cast at e2 ⊢
      simp (disch := omega) only [kgI_e, kgP_e, kpI_e, kpP_e, kal_e, kaI_e, kaP_e, kaJ_e, ksI_e, ksP_e, ksJ_e, kRc_e, kIx_i, Option.bind_some, Option.map_some, iI_lt, iI_le, iI_eq, h5, f1, p2, p3, if_neg, if_pos, e1, iI_add, iL_1]
      exact e2
theorem putEv_ok {ow : Nat → Nat × Nat} {w : kW} {d l r t s a : Nat} {F p : Fo} {k : Nat} (hk6 : k < 6) (hw : WdS ow w d l r t s) (ha : a = l ∨ a = r) (h : Lf ow w a 200 F) (ht : Lf ow w t 200 p) :
    ∃ w', fX9_putEverywhere d (some a) (iI (112 + k : Nat)) w = some (iB (decide (fSz (fS1 k p F) ≤ 200)), w') ∧ Sm ow (fun q => q = a ∨ q = s) w w' ∧ (fSz (fS1 k p F) ≤ 200 → Lf ow w' a 200 (fS1 k p F)) := by
  obtain ⟨⟨hkd, hod, p0, p1, p2, p3⟩, ⟨g0, g1, g2, g3⟩, d1, d2, d3, d4, d5, d6⟩ := hw
  have n1 : s ≠ a := by rcases ha with rfl | rfl <;> omega
  have n2 : s ≠ t := Ne.symm d6
  have hks := g3.1
  obtain ⟨w1, e1, h1, s1⟩ := clear_ok g3
  obtain ⟨w2, e2, h2, s2⟩ := putEv_loop (d := d) hk6 n1 n2 (fun w6 => (kgP w6 9 (some d) 3).bind fun v7 => (kgI w6 1 v7 6).bind fun v8 => if v8 = 0 then (kgP w6 9 (some d) 3).bind fun v9 => (kRc w6 1 v9).bind fun b10 => (fX1_settle b10 w6).bind fun w11 => (kgP w11 9 (some d) 3).bind fun v13 => (kRc w11 1 (some a)).bind fun b14 => (fX1_become b14 v13 (0 : Int32) w11).bind fun w15 => some ((1 : Int32), w15) else some ((0 : Int32), w6)) (fPre F).length kFU 0 w1 (some []) (by have := h.2.1.2.1; unfold kFU; omega) (by omega) (by rw [s1.1]; exact hkd) (by rw [s1.2.2.2.1]; exact p2) (by rw [s1.2.2.2.1]; exact p3) (h.sm s1 (Ne.symm n1)) (ht.sm s1 (Ne.symm n2)) h1
  rw [List.drop_zero, ← fS1_pre hk6 F h.1] at h2
  have s12 := s1.tr s2
  have hkd2 : kKd w2 d = 9 := by rw [s12.1]; exact hkd
  have p32 : kP w2 d 3 = some s := by rw [s12.2.2.2.1]; exact p3
  have hks2 : kKd w2 s = 1 := by rw [s12.1]; exact hks
  have run : fX9_putEverywhere d (some a) (iI (112 + k : Nat)) w = (kgI w2 1 (some s) 6).bind fun v8 => if v8 = 0 then (kgP w2 9 (some d) 3).bind fun v9 => (kRc w2 1 v9).bind fun b10 => (fX1_settle b10 w2).bind fun w11 => (kgP w11 9 (some d) 3).bind fun v13 => (kRc w11 1 (some a)).bind fun b14 => (fX1_become b14 v13 (0 : Int32) w11).bind fun w15 => some ((1 : Int32), w15) else some ((0 : Int32), w2) := by
    have e0 : (0 : Int32) = iI ((0 : Nat) : Int) := by decide +kernel
    rw [fX9_putEverywhere, kgP_e hkd, Option.bind_some, p3, kRc_e hks, Option.bind_some, e1, Option.bind_some]
    refine Eq.trans ?_ (e2.trans ?_)
    · rw [e0]
    · simp only [kgP_e hkd2, Option.bind_some, p32]
  rw [run]
  have h6 := h2.sp
  by_cases hf : fSz (fS1 k p F) ≤ 200
  · have e3 : apc 200 (some []) (fPre (fS1 k p F)) = some (fPre (fS1 k p F)) := by
      have hf' : (fPre (fS1 k p F)).length ≤ 200 := hf
      simp [apc, hf']
    rw [e3] at h2 h6
    have hok := fS1_ok (k := k) ht.1 F h.1
    obtain ⟨w3, e4, h4, h5, s3, -⟩ := settle_ok hok h2
    have s13 := s12.tr s3
    obtain ⟨w4, e5, h7, h8, s4⟩ := become_ok (X := []) (Y := []) (Ne.symm n1) ((h.2.1.1).sm s13) h4 h5 (fun c hc => fSig_lt (fPre_sig _ hok c hc)) (by simp) hok hf
    have hkd3 : kKd w3 d = 9 := by rw [s13.1]; exact hkd
    have p33 : kP w3 d 3 = some s := by rw [s13.2.2.2.1]; exact p3
    have hka3 : kKd w3 a = 1 := by rw [s13.1]; exact h.2.1.1.1
    refine ⟨w4, ?_, (s13.wide (fun q hq => Or.inr hq)).tr (s4.wide (fun q hq => Or.inl hq)), fun _ => ⟨hok, h7, h8⟩⟩
    have e5' : fX1_become a (some s) (0 : Int32) w3 = some w4 := by
      rw [show (0 : Int32) = iI (([] : List Nat).length : Int) by decide +kernel]; exact e5
    have h6' : kI w2 s 6 = 0 := h6
    rw [kgI_e hks2, Option.bind_some, h6', if_pos rfl, kgP_e hkd2, Option.bind_some, p32, kRc_e hks2, Option.bind_some, e4, Option.bind_some, kgP_e hkd3, Option.bind_some, p33, kRc_e hka3, Option.bind_some, e5', Option.bind_some, decide_eq_true hf]
    rfl
  · have e3 : apc 200 (some []) (fPre (fS1 k p F)) = none := by
      have hf' : ¬ (fPre (fS1 k p F)).length ≤ 200 := hf
      simp [apc]; omega
    rw [e3] at h6
    have h6' : kI w2 s 6 = 1 := h6
    refine ⟨w2, ?_, s12.wide (fun q hq => Or.inr hq), fun z => absurd z hf⟩
    rw [kgI_e hks2, Option.bind_some, h6', if_neg (by decide +kernel), decide_eq_false hf]
    rfl
