/-! THE TABLE: lines, how each is, which are known in their order, from what, programs' texts -/
abbrev TbS : Type := List Fo × (Nat → Nat) × List Nat × (Nat → Int × Int × Int) × List (List Int)
def tL (T : TbS) : List Fo := T.1
def tH (T : TbS) : Nat → Nat := T.2.1
def tK (T : TbS) : List Nat := T.2.2.1
def tF (T : TbS) : Nat → Int × Int × Int := T.2.2.2.1
def tP (T : TbS) : List (List Int) := T.2.2.2.2
def tMk (l : List Fo) (h : Nat → Nat) (k : List Nat) (f : Nat → Int × Int × Int) (p : List (List Int)) : TbS := (l, h, k, f, p)
def TbW (T : TbS) : Prop := (tL T).length ≤ 40 ∧ (∀ f ∈ tL T, fOk f ∧ (fTxt f).length ≤ 60) ∧ (tK T).Nodup ∧ (∀ k, k ∈ tK T ↔ (k < (tL T).length ∧ tH T k ≠ 0)) ∧ (∀ k, tH T k ≤ 2) ∧ (tP T).length ≤ 6 ∧ ∀ u ∈ tP T, u.length ≤ 120 ∧ pFt u = none ∧ ∀ c ∈ u, -128 ≤ c ∧ c < 128
/-- a program of the table -/
def Pm (ow : Nat → Nat × Nat) (x : Nat) (w : kW) (p : Nat) (u : List Int) : Prop := Pq ow w p u.length (pEnd u) ∧ x + 237 ≤ p
def TbR (ow : Nat → Nat × Nat) (x : Nat) (w : kW) (tb : Nat) : Prop := kKd w tb = 8 ∧ ow tb = (tb, 0) ∧ LnA ow w tb 40 0 16 ∧ LnA ow w tb 40 1 14 ∧ LnA ow w tb 40 2 14 ∧ LnA ow w tb 40 3 14 ∧ LnA ow w tb 40 4 14 ∧ LnA ow w tb 40 5 14 ∧ LnA ow w tb 6 6 17 ∧ (∀ i, i < 40 → ∀ b, kP w (Lp w tb 0) i = some b → kKd w b = 1 ∧ ow b = (b, 0) ∧ x + 237 ≤ b) ∧ ∀ i, i < 6 → ∀ b, kP w (Lp w tb 6) i = some b → kKd w b = 3 ∧ ow b = (b, 0) ∧ x + 237 ≤ b
def TbN (w : kW) (tb : Nat) (T : TbS) : Prop := kI w tb 7 = iI (tL T).length ∧ kI w tb 8 = iI (tK T).length ∧ kI w tb 9 = iI (tP T).length
def TbV (ow : Nat → Nat × Nat) (x : Nat) (w : kW) (tb : Nat) (T : TbS) : Prop :=
  (∀ (i : Nat) (f : Fo), (tL T)[i]? = some f → ∃ a, kP w (Lp w tb 0) i = some a ∧ Li ow x w a f) ∧
  (∀ i, i < (tL T).length → kI w (Lp w tb 1) i = iI (tH T i)) ∧
  (∀ (i k : Nat), (tK T)[i]? = some k → kI w (Lp w tb 2) i = iI k) ∧
  (∀ i, i < (tL T).length → tH T i = 2 → kI w (Lp w tb 3) i = iI (tF T i).1 ∧ kI w (Lp w tb 4) i = iI (tF T i).2.1 ∧ kI w (Lp w tb 5) i = iI (tF T i).2.2) ∧
  ∀ (i : Nat) (u : List Int), (tP T)[i]? = some u → ∃ p, kP w (Lp w tb 6) i = some p ∧ Pm ow x w p u
def Tb (ow : Nat → Nat × Nat) (x : Nat) (w : kW) (tb : Nat) (T : TbS) : Prop := TbW T ∧ TbR ow x w tb ∧ TbN w tb T ∧ TbV ow x w tb T
theorem nodup_lt : ∀ (n : Nat) (l : List Nat), l.Nodup → (∀ k ∈ l, k < n) → l.length ≤ n := by
  intro n
  induction n with
  | zero =>
    intro l _ h
    cases l with
    | nil => exact Nat.le_refl 0
    | cons a l => exact absurd (h a List.mem_cons_self) (Nat.not_lt_zero _)
  | succ n ih =>
    intro l hn h
    have h1 := ih (l.erase n) (hn.erase n) (fun k hk => by
      have h2 := h k (List.mem_of_mem_erase hk)
      have h3 : k ≠ n := fun e => by
        rw [e] at hk
        exact (List.Nodup.not_mem_erase hn) hk
      omega)
    rw [List.length_erase] at h1
    split at h1 <;> omega
theorem TbW.kl {T : TbS} (h : TbW T) : (tK T).length ≤ (tL T).length := nodup_lt _ _ h.2.2.1 (fun k hk => ((h.2.2.2.1 k).mp hk).1)
theorem Tb.fr {ow ow' : Nat → Nat × Nat} {S : Nat → Prop} {x tb : Nat} {T : TbS} {w w1 : kW} (h : Tb ow x w tb T) (hs : Fr ow ow' S w w1) (ha : ¬ S tb) (hb : ∀ a, x + 237 ≤ a → ¬ S a) : Tb ow' x w1 tb T := by
  obtain ⟨hW, ⟨hk, ho, r0, r1, r2, r3, r4, r5, r6, r7, r8⟩, ⟨n1, n2, n3⟩, v1, v2, v3, v4, v5⟩ := h
  have k19 : kKd w tb < 19 := by omega
  have hoa : (ow tb).1 = tb := by rw [ho]
  obtain ⟨e1, e2, e3, e4, e5, e6⟩ := hs tb k19 (by rw [hoa]; exact ha)
  obtain ⟨q0, l0⟩ := r0.fr hs k19 (by omega) ha hoa
  obtain ⟨q1, l1⟩ := r1.fr hs k19 (by omega) ha hoa
  obtain ⟨q2, l2⟩ := r2.fr hs k19 (by omega) ha hoa
  obtain ⟨q3, l3⟩ := r3.fr hs k19 (by omega) ha hoa
  obtain ⟨q4, l4⟩ := r4.fr hs k19 (by omega) ha hoa
  obtain ⟨q5, l5⟩ := r5.fr hs k19 (by omega) ha hoa
  obtain ⟨q6, l6⟩ := r6.fr hs k19 (by omega) ha hoa
  have f0 := (r0.fi hs (by omega) ha).2
  have f1 := (r1.fi hs (by omega) ha).1
  have f2 := (r2.fi hs (by omega) ha).1
  have f3 := (r3.fi hs (by omega) ha).1
  have f4 := (r4.fi hs (by omega) ha).1
  have f5 := (r5.fi hs (by omega) ha).1
  have f6 := (r6.fi hs (by omega) ha).2
  have ref : ∀ b, (kKd w b = 1 ∨ kKd w b = 3) → ow b = (b, 0) → x + 237 ≤ b → kKd w1 b = kKd w b ∧ ow' b = ow b := fun b k1 o1 g1 => by
    obtain ⟨z1, z2, -⟩ := hs b (by omega) (by rw [o1]; exact hb b g1)
    exact ⟨z2, z1⟩
  refine ⟨hW, ⟨by rw [e2]; exact hk, by rw [e1]; exact ho, q0, q1, q2, q3, q4, q5, q6, fun i hi b hp => ?_, fun i hi b hp => ?_⟩, ⟨by rw [e4]; exact n1, by rw [e4]; exact n2, by rw [e4]; exact n3⟩, fun i f hf => ?_, fun i hi => ?_, fun i k hi => ?_, fun i hi h2 => ?_, fun i u hu => ?_⟩
  · rw [l0, f0] at hp
    obtain ⟨g1, g2, g3⟩ := r7 i hi b hp
    obtain ⟨z1, z2⟩ := ref b (Or.inl g1) g2 g3
    exact ⟨z1.trans g1, z2.trans g2, g3⟩
  · rw [l6, f6] at hp
    obtain ⟨g1, g2, g3⟩ := r8 i hi b hp
    obtain ⟨z1, z2⟩ := ref b (Or.inr g1) g2 g3
    exact ⟨z1.trans g1, z2.trans g2, g3⟩
  · obtain ⟨a, g1, g2⟩ := v1 i f hf
    exact ⟨a, by rw [l0, f0]; exact g1, g2.fr hs (hb a g2.2.2.2)⟩
  · rw [l1, f1]; exact v2 i hi
  · rw [l2, f2]; exact v3 i k hi
  · rw [l3, f3, l4, f4, l5, f5]; exact v4 i hi h2
  · obtain ⟨p, g1, g2⟩ := v5 i u hu
    exact ⟨p, by rw [l6, f6]; exact g1, g2.1.fr hs (hb p g2.2), g2.2⟩
/-! what is asked of it -/
theorem iN_4 : (-4 : Int32) = iI (-4) := by decide +kernel
theorem lineAt_in {ow : Nat → Nat × Nat} {x tb : Nat} {T : TbS} {w : kW} (h : Tb ow x w tb T) {i : Nat} {f : Fo} (hf : (tL T)[i]? = some f) : ∃ a, fX8_lineAt tb (iI i) w = some (some a) ∧ Li ow x w a f := by
  obtain ⟨hW, ⟨hk, ho, ⟨p0, k0, m0, o0⟩, -⟩, ⟨n1, n2, n3⟩, v1, -⟩ := h
  obtain ⟨a, g1, g2⟩ := v1 i f hf
  have hi := (List.getElem?_eq_some_iff.mp hf).1
  have hn := hW.1
  refine ⟨a, ?_, g2⟩
  rw [fX8_lineAt, if_neg (by rw [iL_0, iI_lt (by omega) (by omega) (by omega) (by omega)]; omega), kgI_e hk, Option.bind_some, n1, if_neg (by rw [iI_le (by omega) (by omega) (by omega) (by omega)]; omega), if_neg (by rw [iL_40, iI_le (by omega) (by omega) (by omega) (by omega)]; omega), kgP_e hk, Option.bind_some, p0, kaP_e k0 (by omega) (by rw [m0]; omega) (by omega), Option.bind_some, Int.toNat_natCast, g1]
theorem lineAt_out {ow : Nat → Nat × Nat} {x tb : Nat} {T : TbS} {w : kW} (h : Tb ow x w tb T) {i : Int} (h0 : -2147483648 ≤ i) (h1 : i < 2147483648) (hi : i < 0 ∨ (tL T).length ≤ i) : fX8_lineAt tb (iI i) w = some none := by
  obtain ⟨hW, ⟨hk, ho, ⟨p0, k0, m0, o0⟩, -⟩, ⟨n1, n2, n3⟩, v1, -⟩ := h
  have hn := hW.1
  rw [fX8_lineAt]
  by_cases c : i < 0
  · rw [if_pos (by rw [iL_0, iI_lt (by omega) (by omega) (by omega) (by omega)]; omega)]
  · rw [if_neg (by rw [iL_0, iI_lt (by omega) (by omega) (by omega) (by omega)]; omega), kgI_e hk, Option.bind_some, n1, if_pos (by rw [iI_le (by omega) (by omega) (by omega) (by omega)]; omega)]
/-- which line is meant -/
def tLn (T : TbS) (i : Int) : Option Fo := if i < 0 then none else (tL T)[i.toNat]?
theorem lineAt_ok {ow : Nat → Nat × Nat} {x tb : Nat} {T : TbS} {w : kW} (h : Tb ow x w tb T) {i : Int} (h0 : -2147483648 ≤ i) (h1 : i < 2147483648) : (tLn T i = none → fX8_lineAt tb (iI i) w = some none) ∧ ∀ f, tLn T i = some f → ∃ a, fX8_lineAt tb (iI i) w = some (some a) ∧ Li ow x w a f := by
  unfold tLn
  by_cases c : i < 0
  · rw [if_pos c]
    exact ⟨fun _ => lineAt_out h h0 h1 (Or.inl c), fun f z => by cases z⟩
  · rw [if_neg c]
    refine ⟨fun z => lineAt_out h h0 h1 (Or.inr ?_), fun f z => ?_⟩
    · have := List.getElem?_eq_none_iff.mp z
      omega
    · obtain ⟨a, e, g⟩ := lineAt_in h z
      rw [show ((i.toNat : Nat) : Int) = i by omega] at e
      exact ⟨a, e, g⟩
theorem howIs_in {ow : Nat → Nat × Nat} {x tb : Nat} {T : TbS} {w : kW} (h : Tb ow x w tb T) {i : Nat} (hi : i < (tL T).length) : fX8_howIs tb (iI i) w = some (iI (tH T i)) := by
  obtain ⟨hW, ⟨hk, ho, -, ⟨p0, k0, m0, o0⟩, -⟩, ⟨n1, n2, n3⟩, v1, v2, -⟩ := h
  have hn := hW.1
  rw [fX8_howIs, if_neg (by rw [iL_0, iI_lt (by omega) (by omega) (by omega) (by omega)]; omega), kgI_e hk, Option.bind_some, n1, if_neg (by rw [iI_le (by omega) (by omega) (by omega) (by omega)]; omega), if_neg (by rw [iL_40, iI_le (by omega) (by omega) (by omega) (by omega)]; omega), kgP_e hk, Option.bind_some, p0, kaI_e k0 (by omega) (by rw [m0]; omega) (by omega), Option.bind_some, Int.toNat_natCast, v2 i hi]
theorem howIs_out {ow : Nat → Nat × Nat} {x tb : Nat} {T : TbS} {w : kW} (h : Tb ow x w tb T) {i : Int} (h0 : -2147483648 ≤ i) (h1 : i < 2147483648) (hi : i < 0 ∨ (tL T).length ≤ i) : fX8_howIs tb (iI i) w = some 0 := by
  obtain ⟨hW, ⟨hk, ho, -, ⟨p0, k0, m0, o0⟩, -⟩, ⟨n1, n2, n3⟩, v1, v2, -⟩ := h
  have hn := hW.1
  rw [fX8_howIs]
  by_cases c : i < 0
  · rw [if_pos (by rw [iL_0, iI_lt (by omega) (by omega) (by omega) (by omega)]; omega)]
  · rw [if_neg (by rw [iL_0, iI_lt (by omega) (by omega) (by omega) (by omega)]; omega), kgI_e hk, Option.bind_some, n1, if_pos (by rw [iI_le (by omega) (by omega) (by omega) (by omega)]; omega)]
theorem knownAt_in {ow : Nat → Nat × Nat} {x tb : Nat} {T : TbS} {w : kW} (h : Tb ow x w tb T) {i k : Nat} (hi : (tK T)[i]? = some k) : fX8_knownAt tb (iI i) w = some (iI k) := by
  have hkl := h.1.kl
  obtain ⟨hW, ⟨hk, ho, -, -, ⟨p0, k0, m0, o0⟩, -⟩, ⟨n1, n2, n3⟩, v1, v2, v3, -⟩ := h
  have hn := hW.1
  have hl := (List.getElem?_eq_some_iff.mp hi).1
  rw [fX8_knownAt, if_neg (by rw [iL_0, iI_lt (by omega) (by omega) (by omega) (by omega)]; omega), kgI_e hk, Option.bind_some, n2, if_neg (by rw [iI_le (by omega) (by omega) (by omega) (by omega)]; omega), if_neg (by rw [iL_40, iI_le (by omega) (by omega) (by omega) (by omega)]; omega), kgP_e hk, Option.bind_some, p0, kaI_e k0 (by omega) (by rw [m0]; omega) (by omega), Option.bind_some, Int.toNat_natCast, v3 i k hi]
def plc : List Nat → Nat → Int → Int
  | [], _, _ => -4
  | k :: l, i, q => if (k : Int) = q then i else plc l (i + 1) q
theorem placeOf_loop {ow : Nat → Nat × Nat} {x tb : Nat} {T : TbS} {w : kW} (h : Tb ow x w tb T) {q : Int} (h0 : -2147483648 ≤ q) (h1 : q < 2147483648) (kont : Int32 → Option Int32) (hkont : ∀ z, kont z = some (-4 : Int32)) : ∀ (m n i : Nat), m < n → i + m = (tK T).length →
    fX8_placeOf_L2 tb (iI q) w n kont (iI i) = some (iI (plc ((tK T).drop i) i q)) := by
  have hkl := h.1.kl
  have hn1 := h.1.1
  have hk := h.2.1.1
  have n2 := h.2.2.1.2.1
  intro m
  induction m with
  | zero =>
    intro n i hn hi
    obtain ⟨n, rfl⟩ : ∃ z, n = z + 1 := ⟨n - 1, by omega⟩
    rw [fX8_placeOf_L2, kgI_e hk, Option.bind_some, n2, if_pos (by rw [iI_le (by omega) (by omega) (by omega) (by omega)]; omega), hkont, List.drop_eq_nil_of_le (by omega), iN_4]
    rfl
  | succ m ih =>
    intro n i hn hi
    obtain ⟨n, rfl⟩ : ∃ z, n = z + 1 := ⟨n - 1, by omega⟩
    have hlt : i < (tK T).length := by omega
    have hkn := ((h.1.2.2.2.1 (tK T)[i]).mp (List.getElem_mem hlt)).1
    have hd : (tK T).drop i = (tK T)[i] :: (tK T).drop (i + 1) := List.drop_eq_getElem_cons hlt
    rw [fX8_placeOf_L2, kgI_e hk, Option.bind_some, n2, if_neg (by rw [iI_le (by omega) (by omega) (by omega) (by omega)]; omega), kRc_e hk, Option.bind_some, knownAt_in h (List.getElem?_eq_getElem hlt), Option.bind_some, hd]
    show _ = some (iI (if (((tK T)[i] : Nat) : Int) = q then (i : Int) else plc ((tK T).drop (i + 1)) (i + 1) q))
    by_cases c : (((tK T)[i] : Nat) : Int) = q
    · rw [if_pos (by rw [c]), if_pos c]
    · rw [if_neg (by rw [iI_eq (by omega) (by omega) (by omega) (by omega)]; exact c), if_neg c, iL_1, iI_add]
      exact ih n (i + 1) (by omega) (by omega)
theorem placeOf_ok {ow : Nat → Nat × Nat} {x tb : Nat} {T : TbS} {w : kW} (h : Tb ow x w tb T) {q : Int} (h0 : -2147483648 ≤ q) (h1 : q < 2147483648) : fX8_placeOf tb (iI q) w = some (iI (plc (tK T) 0 q)) := by
  have hkl := h.1.kl
  have hn1 := h.1.1
  have f := placeOf_loop h h0 h1 (fun _ => some (-4 : Int32)) (fun _ => rfl) (tK T).length kFU 0 (by unfold kFU; omega) (by omega)
  have e0 : (0 : Int32) = iI ((0 : Nat) : Int) := by decide +kernel
  rw [fX8_placeOf, e0]
  exact f
theorem sourceOf_ok {ow : Nat → Nat × Nat} {x tb : Nat} {T : TbS} {w : kW} (h : Tb ow x w tb T) {i : Nat} (hi : i < (tL T).length) (h2 : tH T i = 2) {q : Int} (h0 : 0 ≤ q) (h1 : q ≤ 2) : fX8_sourceOf tb (iI i) (iI q) w = some (iI (if q = 0 then (tF T i).1 else if q = 1 then (tF T i).2.1 else (tF T i).2.2)) := by
  obtain ⟨hW, ⟨hk, ho, -, -, -, ⟨p3, k3, m3, o3⟩, ⟨p4, k4, m4, o4⟩, ⟨p5, k5, m5, o5⟩, -⟩, ⟨n1, n2, n3⟩, v1, v2, v3, v4, -⟩ := h
  have hn := hW.1
  obtain ⟨g3, g4, g5⟩ := v4 i hi h2
  rw [fX8_sourceOf, if_neg (by rw [iL_0, iI_lt (by omega) (by omega) (by omega) (by omega)]; omega), if_pos (by rw [iL_40, iI_lt (by omega) (by omega) (by omega) (by omega)]; omega)]
  rcases (show q = 0 ∨ q = 1 ∨ q = 2 by omega) with rfl | rfl | rfl
  · rw [if_pos rfl, kgP_e hk, Option.bind_some, p3, kaI_e k3 (by omega) (by rw [m3]; omega) (by omega), Option.bind_some, Int.toNat_natCast, g3]
    rfl
  · rw [if_neg (by decide +kernel), if_pos rfl, kgP_e hk, Option.bind_some, p4, kaI_e k4 (by omega) (by rw [m4]; omega) (by omega), Option.bind_some, Int.toNat_natCast, g4]
    rfl
  · rw [if_neg (by decide +kernel), if_neg (by decide +kernel), kgP_e hk, Option.bind_some, p5, kaI_e k5 (by omega) (by rw [m5]; omega) (by omega), Option.bind_some, Int.toNat_natCast, g5]
    rfl
theorem programAt_out {ow : Nat → Nat × Nat} {x tb : Nat} {T : TbS} {w : kW} (h : Tb ow x w tb T) {i : Int} (h0 : -2147483648 ≤ i) (h1 : i < 2147483648) (hi : i < 0 ∨ (tP T).length ≤ i) : fX8_programAt tb (iI i) w = some none := by
  obtain ⟨hW, ⟨hk, ho, -⟩, ⟨n1, n2, n3⟩, -⟩ := h
  have hn := hW.2.2.2.2.2.1
  rw [fX8_programAt]
  by_cases c : i < 0
  · rw [if_pos (by rw [iL_0, iI_lt (by omega) (by omega) (by omega) (by omega)]; omega)]
  · rw [if_neg (by rw [iL_0, iI_lt (by omega) (by omega) (by omega) (by omega)]; omega), kgI_e hk, Option.bind_some, n3, if_pos (by rw [iI_le (by omega) (by omega) (by omega) (by omega)]; omega)]
def tPn (T : TbS) (i : Int) : Option (List Int) := if i < 0 then none else (tP T)[i.toNat]?
theorem programAt_ok {ow : Nat → Nat × Nat} {x tb : Nat} {T : TbS} {w : kW} (h : Tb ow x w tb T) {i : Int} (h0 : -2147483648 ≤ i) (h1 : i < 2147483648) : (tPn T i = none → fX8_programAt tb (iI i) w = some none) ∧ ∀ u, tPn T i = some u → ∃ a, fX8_programAt tb (iI i) w = some (some a) ∧ Pm ow x w a u := by
  unfold tPn
  by_cases c : i < 0
  · rw [if_pos c]
    exact ⟨fun _ => programAt_out h h0 h1 (Or.inl c), fun f z => by cases z⟩
  · rw [if_neg c]
    refine ⟨fun z => programAt_out h h0 h1 (Or.inr ?_), fun u z => ?_⟩
    · have := List.getElem?_eq_none_iff.mp z
      omega
    · obtain ⟨hW, ⟨hk, ho, -, -, -, -, -, -, ⟨p6, k6, m6, o6⟩, -⟩, ⟨n1, n2, n3⟩, v1, v2, v3, v4, v5⟩ := h
      obtain ⟨p, g1, g2⟩ := v5 i.toNat u z
      have hl := (List.getElem?_eq_some_iff.mp z).1
      have hn := hW.2.2.2.2.2.1
      refine ⟨p, ?_, g2⟩
      rw [fX8_programAt, if_neg (by rw [iL_0, iI_lt (by omega) (by omega) (by omega) (by omega)]; omega), kgI_e hk, Option.bind_some, n3, if_neg (by rw [iI_le (by omega) (by omega) (by omega) (by omega)]; omega), if_neg (by rw [iL_6, iI_le (by omega) (by omega) (by omega) (by omega)]; omega), kgP_e hk, Option.bind_some, p6, kaP_e k6 (by omega) (by rw [m6]; omega) (by omega), Option.bind_some, g1]
