/-! .. told steps, checks, sources -/
theorem mOfTwo {k : Int} (hk : I32 k) : fX12_isOfTwo (iI k) = some (iB (aTwo k)) := by
  obtain ⟨k0, k1⟩ := hk
  rw [fX12_isOfTwo]
  unfold aTwo
  by_cases c1 : k = 1
  · rw [if_pos (by rw [c1]; rfl), decide_eq_true (Or.inl c1)]; rfl
  rw [if_neg (by rw [iL_1, iI_eq (by omega) (by omega) (by omega) (by omega)]; exact c1)]
  by_cases c2 : k = 2
  · rw [if_pos (by rw [c2]; rfl), decide_eq_true (Or.inr c2)]; rfl
  · rw [if_neg (by rw [iL_2, iI_eq (by omega) (by omega) (by omega) (by omega)]; exact c2), decide_eq_false (by omega)]; rfl
theorem mTold {w : rW} {S : AS} (h : MI w S) {l k a b : Int} (hl : I32 l) (hk : I32 k) (ha : I32 a) (hb : I32 b) : fX12_isTold (iI l) (iI k) (iI a) (iI b) w = some (iB (aTold S l k a b)) := by
  unfold aTold
  rw [fX12_isTold, mIsLine h hl, Option.bind_some]
  cases (tLn (sT S) l).isSome with
  | false => rw [if_pos iB_fz, Bool.and_false, Bool.false_and, Bool.false_and]; rfl
  | true =>
    rw [if_neg iB_tn, z0N, show (3 : Int64) = (iI 3).toInt64 by decide +kernel, isIn_ok hk (by unfold I32; omega) (by unfold I32; omega), Option.bind_some, Bool.and_true]
    cases decide (0 ≤ k ∧ k ≤ 3) with
    | false => rw [if_pos iB_fz, Bool.false_and, Bool.false_and]; rfl
    | true =>
      rw [if_neg iB_tn, mIsLine h ha, Option.bind_some, Bool.true_and]
      cases (tLn (sT S) a).isSome with
      | false => rw [if_pos iB_fz, Bool.false_and]; rfl
      | true =>
        rw [if_neg iB_tn, mOfTwo hk, Option.bind_some, Bool.true_and]
        cases aTwo k with
        | false => rw [if_pos iB_fz]; rfl
        | true =>
          rw [if_neg iB_tn, mIsLine h hb, Option.bind_some]
          cases (tLn (sT S) b).isSome with
          | false => rw [if_pos iB_fz]; rfl
          | true => rw [if_neg iB_tn]; rfl
/-- a told step, tried -/
theorem mStv {w : rW} {S : AS} (h : MI w S) {l k a b : Int} (ht : aTold S l k a b = true) : (∃ w', fX12_isStep (iI l) (iI k) (iI a) (iI b) w = some (iB (aStv S l k a b), w') ∧ Rq ScA ScF w w') ∧ (∃ f, tLn (sT S) l = some f) ∧ (∃ A, tLn (sT S) a = some A) ∧ (aTwo k = true → ∃ B, tLn (sT S) b = some B) := by
  unfold aTold at ht
  rw [Bool.and_eq_true, Bool.and_eq_true, Bool.and_eq_true] at ht
  obtain ⟨⟨⟨t1, t2⟩, t3⟩, t4⟩ := ht
  have t1' := of_decide_eq_true t1
  obtain ⟨f, hf⟩ := Option.isSome_iff_exists.mp t2
  obtain ⟨A, hA⟩ := Option.isSome_iff_exists.mp t3
  have hB : aTwo k = true → ∃ B, tLn (sT S) b = some B := fun e => by
    rw [e] at t4
    exact Option.isSome_iff_exists.mp t4
  refine ⟨?_, ⟨f, hf⟩, ⟨A, hA⟩, hB⟩
  obtain ⟨gf, ef⟩ := h.ml hf
  obtain ⟨gA, eA⟩ := h.ml hA
  have lf : tLo (sT S) l = f := by unfold tLo; rw [hf]; rfl
  have lA : tLo (sT S) a = A := by unfold tLo; rw [hA]; rfl
  unfold aStv
  rw [lf, lA]
  by_cases c : aTwo k = true
  · obtain ⟨B, hB'⟩ := hB c
    obtain ⟨gB, eB⟩ := h.ml hB'
    have lB : tLo (sT S) b = B := by unfold tLo; rw [hB']; rfl
    obtain ⟨w', e, r⟩ := m_isStep (k := k.toNat) gf gA (by omega) (fun _ => gB)
    rw [ef, eA, eB, show ((k.toNat : Nat) : Int) = k by omega] at e
    refine ⟨w', ?_, r⟩
    rw [e, lB]
    congr 3
    have u : ∀ n : Nat, (k.toNat = n) = (k = (n : Int)) := fun n => by simp only [eq_iff_iff]; omega
    simp only [u]
    rfl
  · have c' : ¬ (k = 1 ∨ k = 2) := fun z => c (decide_eq_true z)
    -- the fourth isn't read
    have nb : ∀ z : Int32, fX12_isStep (iI l) (iI k) (iI a) (iI b) w = fX12_isStep (iI l) (iI k) (iI a) z w := fun z => by
      rw [fX12_isStep, fX12_isStep]
      by_cases k0 : k = 0
      · rw [if_pos (show iI k = (0 : Int32) by rw [k0]; rfl), if_pos (show iI k = (0 : Int32) by rw [k0]; rfl)]
      · have n0 : ¬ iI k = (0 : Int32) := by rw [iL_0, iI_eq (by omega) (by omega) (by omega) (by omega)]; exact k0
        have n1 : ¬ iI k = (1 : Int32) := by rw [iL_1, iI_eq (by omega) (by omega) (by omega) (by omega)]; omega
        have n2 : ¬ iI k = (2 : Int32) := by rw [iL_2, iI_eq (by omega) (by omega) (by omega) (by omega)]; omega
        rw [if_neg n0, if_neg n0, if_neg n1, if_neg n1, if_neg n2, if_neg n2]
    obtain ⟨w', e, r⟩ := m_isStep (k := k.toNat) (B := A) (b := a.toNat) gf gA (by omega) (fun z => by omega)
    rw [ef, eA, show ((k.toNat : Nat) : Int) = k by omega] at e
    refine ⟨w', ?_, r⟩
    rw [nb (iI a), e]
    congr 3
    have u : ∀ n : Nat, (k.toNat = n) = (k = (n : Int)) := fun n => by simp only [eq_iff_iff]; omega
    simp only [u]
    by_cases k0 : k = 0
    · rw [if_pos (show k = ((0 : Nat) : Int) from k0), if_pos k0]
    · rw [if_neg (show ¬ k = ((0 : Nat) : Int) from k0), if_neg (show ¬ k = ((1 : Nat) : Int) from fun z => c' (Or.inl z)), if_neg (show ¬ k = ((2 : Nat) : Int) from fun z => c' (Or.inr z)), if_neg k0, if_neg (fun z => c' (Or.inl z)), if_neg (fun z => c' (Or.inr z))]
theorem m_check {w : rW} {S : AS} (h : MI w S) {l k a b : Int} (hl : I32 l) (hk : I32 k) (ha : I32 a) (hb : I32 b) : Md (fX12_check (iI l) (iI k) (iI a) (iI b) w) (aCheck S l k a b) S := by
  unfold aCheck
  rw [fX12_check, mTold h hl hk ha hb, Option.bind_some]
  cases ht : aTold S l k a b with
  | false => exact Md.rf h (by rw [if_pos iB_fz, if_neg Bool.false_ne_true, iN_1])
  | true =>
    obtain ⟨⟨w', e, r⟩, -⟩ := mStv h ht
    rw [if_neg iB_tn, e, kb2_s, if_pos rfl]
    refine ⟨w', ?_, h.rq r⟩
    cases aStv S l k a b with
    | true => rw [if_neg iB_tn]; rfl
    | false => rw [if_pos iB_fz]; rfl
theorem m_from {w : rW} {S : AS} (h : MI w S) {l q : Int} (hl : I32 l) (hq : I32 q) : fX12_from (iI l) (iI q) w = some (iI (aFrom S l q)) := by
  have hq' := hq
  obtain ⟨q0, q1⟩ := hq
  unfold aFrom
  rw [fX12_from, mIsLine h hl, Option.bind_some]
  cases hL : tLn (sT S) l with
  | none => rw [if_pos (show iB (none : Option Fo).isSome = 0 from rfl), iN_1]
  | some F =>
    obtain ⟨b0, b1, b2⟩ := tLn_lt hL
    obtain ⟨hw, h2⟩ := mHow h hL
    obtain ⟨hW, -, -, -, h3, -⟩ := h.1
    have h40 := hW.1
    rw [if_neg (show ¬ iB (some F).isSome = 0 from iB_tn), z0N, show (2 : Int64) = (iI 2).toInt64 by decide +kernel, isIn_ok hq' (by unfold I32; omega) (by unfold I32; omega), Option.bind_some]
    show _ = some (iI (if 0 ≤ q ∧ q ≤ 2 then (if aHw S l = 2 then (if q = 0 then (tF (sT S) l.toNat).1 else if q = 1 then (tF (sT S) l.toNat).2.1 else (tF (sT S) l.toNat).2.2) else -3) else -1))
    by_cases c : 0 ≤ q ∧ q ≤ 2
    · rw [decide_eq_true c, if_neg iB_tn, hw, Option.bind_some, if_pos c]
      by_cases ch : aHw S l = 2
      · obtain ⟨s1, s2, s3⟩ := h3 l.toNat b1 ch
        have e83 : (83 : Int32) + iI l = iI (83 + l.toNat : Nat) := by rw [iL_83, iI_add]; congr 1; omega
        have e123 : (123 : Int32) + iI l = iI (123 + l.toNat : Nat) := by rw [iL_123, iI_add]; congr 1; omega
        have e163 : (163 : Int32) + iI l = iI (163 + l.toNat : Nat) := by rw [iL_163, iI_add]; congr 1; omega
        rw [if_pos (by rw [ch]; rfl), if_pos ch, e83, e123, e163]
        by_cases c0 : q = 0
        · rw [if_pos (by rw [c0]; rfl), if_pos c0, raN (by omega) (by omega), Option.bind_some, s1]
        rw [if_neg (by rw [iL_0, iI_eq (by omega) (by omega) (by omega) (by omega)]; exact c0), if_neg c0]
        by_cases c1 : q = 1
        · rw [if_pos (by rw [c1]; rfl), if_pos c1, raN (by omega) (by omega), Option.bind_some, s2]
        · rw [if_neg (by rw [iL_1, iI_eq (by omega) (by omega) (by omega) (by omega)]; exact c1), if_neg c1, raN (by omega) (by omega), Option.bind_some, s3]
      · rw [if_neg (by rw [iL_2, iI_eq (by omega) (by omega) (by omega) (by omega)]; omega), if_neg ch, iN_3]
    · rw [decide_eq_false c, if_pos iB_fz, if_neg c, iN_1]
