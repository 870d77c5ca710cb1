/-! .. of, widest, must, check, from -/
theorem mKnown {w : rW} {S : AS} (h : MI w S) {q : Int} (hq : I32 q) : fX12_knownAt (iI q) w = some (iI (plc (tK (sT S)) 0 q)) := by
  obtain ⟨hW, ⟨n0, n1, n2⟩, -, -, -, h4, -⟩ := h.1
  have hkl := hW.kl
  have h40 := hW.1
  have L : ∀ (m fu i : Nat), m < fu → i + m = (tK (sT S)).length → fX12_knownAt_L2 (iI q) w fu (fun _ => some (-4 : Int32)) (iI i) = some (iI (plc ((tK (sT S)).drop i) i q)) := by
    have z1 : (1 : Int32) = iI ((1 : Nat) : Int) := rfl
    intro m
    induction m with
    | zero =>
      intro fu i hf hi
      obtain ⟨fu, rfl⟩ : ∃ n, fu = n + 1 := ⟨fu - 1, by omega⟩
      rw [fX12_knownAt_L2, z1, raN (by omega) (by omega), Option.bind_some, n1, if_pos (by rw [iI_le (by omega) (by omega) (by omega) (by omega)]; omega), List.drop_eq_nil_of_le (by omega), iN_4]
      rfl
    | succ m ih =>
      intro fu i hf hi
      obtain ⟨fu, rfl⟩ : ∃ n, fu = n + 1 := ⟨fu - 1, by omega⟩
      have hil : i < (tK (sT S)).length := by omega
      have ek := h4 i _ (List.getElem?_eq_getElem hil)
      have bk := ((hW.2.2.2.1 _).mp (List.getElem_mem hil)).1
      have ep : plc ((tK (sT S)).drop i) i q = if (((tK (sT S))[i] : Nat) : Int) = q then (i : Int) else plc ((tK (sT S)).drop (i + 1)) (i + 1) q := by rw [List.drop_eq_getElem_cons hil]; rfl
      have e203 : (203 : Int32) + iI i = iI (203 + i : Nat) := by rw [iL_203, iI_add]; rfl
      have e1 : iI (i : Int) + 1 = iI (i + 1 : Nat) := by rw [iL_1, iI_add]; rfl
      rw [ep, fX12_knownAt_L2, e1, e203, z1, raN (by omega) (by omega), Option.bind_some, n1, if_neg (by rw [iI_le (by omega) (by omega) (by omega) (by omega)]; omega), raN (by omega) (by omega), Option.bind_some, ek]
      by_cases c : (((tK (sT S))[i] : Nat) : Int) = q
      · rw [if_pos (by rw [c]), if_pos c]
      · rw [if_neg (by rw [iI_eq (by omega) (by omega) hq.1 hq.2]; exact c), if_neg c]
        exact ih fu (i + 1) (by omega) (by omega)
  have := L (tK (sT S)).length kFU 0 (by unfold kFU; omega) (by omega)
  rw [List.drop_zero] at this
  rw [fX12_knownAt]
  exact this
theorem iN_43 (l : Nat) : (43 : Int32) + iI l = iI (43 + l : Nat) := by rw [iL_43, iI_add]; rfl
theorem mHow {w : rW} {S : AS} (h : MI w S) {l : Int} {F : Fo} (hL : tLn (sT S) l = some F) : raI w 2 1000 ((43 : Int32) + iI l) = some (iI (aHw S l)) ∧ aHw S l ≤ 2 := by
  obtain ⟨b0, b1, b2⟩ := tLn_lt hL
  obtain ⟨hW, -, -, h2, -⟩ := h.1
  have h40 := hW.1
  refine ⟨?_, hW.2.2.2.2.1 _⟩
  rw [show l = ((l.toNat : Nat) : Int) by omega, iN_43, raN (by omega) (by omega), h2 _ b1]
  rfl
theorem m_of {w : rW} {S : AS} (h : MI w S) {l q : Int} (hl : I32 l) (hq : I32 q) : fX12_of (iI l) (iI q) w = some (iI (aOf S l q)) := by
  have hq' := hq
  obtain ⟨q0, q1⟩ := hq
  unfold aOf
  rw [fX12_of, mIsLine h hl, Option.bind_some]
  cases hL : tLn (sT S) l with
  | none => rw [if_pos (show iB (none : Option Fo).isSome = 0 from rfl), iN_1]
  | some F =>
    obtain ⟨g, e⟩ := h.ml hL
    have hw := (mHow h hL).1
    have hk := mKnown h hl
    rw [if_neg (show ¬ iB (some F).isSome = 0 from iB_tn), z0N, show (6 : Int64) = (iI 6).toInt64 by decide +kernel, isIn_ok hq' (by unfold I32; omega) (by unfold I32; omega), Option.bind_some]
    show _ = some (iI (if q = 0 then fSz F else if q = 1 then fLev F else if q = 2 then fPl F else if q = 3 then fUn F else if q = 4 then (if fTr F then 1 else 0) else if q = 5 then tH (sT S) l.toNat else if q = 6 then plc (tK (sT S)) 0 l else -1))
    by_cases c : 0 ≤ q ∧ q ≤ 6
    · rw [decide_eq_true c, if_neg iB_tn]
      rw [← e] at hw hk ⊢
      rw [Int.toNat_natCast] at *
      rw [textOf_ok, Option.bind_some, g.size, Option.bind_some, g.to]
      by_cases c0 : q = 0
      · subst c0
        rw [if_pos (show iI 0 = (0 : Int32) from rfl), if_pos rfl, g.2.1.size, Option.bind_some]
      rw [if_neg (show ¬ iI q = (0 : Int32) by rw [iL_0, iI_eq (by omega) (by omega) (by omega) (by omega)]; exact c0), if_neg c0]
      by_cases c1 : q = 1
      · subst c1
        rw [if_pos (show iI 1 = (1 : Int32) from rfl), if_pos rfl, g.2.1.lev, Option.bind_some]
      rw [if_neg (show ¬ iI q = (1 : Int32) by rw [iL_1, iI_eq (by omega) (by omega) (by omega) (by omega)]; exact c1), if_neg c1]
      by_cases c2 : q = 2
      · subst c2
        rw [if_pos (show iI 2 = (2 : Int32) from rfl), if_pos rfl, g.2.1.pl, Option.bind_some]
      rw [if_neg (show ¬ iI q = (2 : Int32) by rw [iL_2, iI_eq (by omega) (by omega) (by omega) (by omega)]; exact c2), if_neg c2]
      by_cases c3 : q = 3
      · subst c3
        rw [if_pos (show iI 3 = (3 : Int32) from rfl), if_pos rfl, g.2.1.let, Option.bind_some, bits_ok (fLs_lt F g.2.1.1), Option.bind_some]
        rfl
      rw [if_neg (show ¬ iI q = (3 : Int32) by rw [iL_3, iI_eq (by omega) (by omega) (by omega) (by omega)]; exact c3), if_neg c3]
      by_cases c4 : q = 4
      · subst c4
        rw [if_pos (show iI 4 = (4 : Int32) from rfl), if_pos rfl, mAlways g, Option.bind_some]
        cases fTr F with
        | true => rw [if_neg iB_tn, if_pos rfl]; rfl
        | false => rw [if_pos iB_fz, if_neg Bool.false_ne_true]; rfl
      rw [if_neg (show ¬ iI q = (4 : Int32) by rw [iL_4, iI_eq (by omega) (by omega) (by omega) (by omega)]; exact c4), if_neg c4]
      by_cases c5 : q = 5
      · subst c5
        rw [if_pos (show iI 5 = (5 : Int32) from rfl), if_pos rfl, hw, Option.bind_some]
        rfl
      · rw [if_neg (show ¬ iI q = (5 : Int32) by rw [iL_5, iI_eq (by omega) (by omega) (by omega) (by omega)]; exact c5), if_neg c5, if_pos (show q = 6 by omega), hk, Option.bind_some]
    · rw [decide_eq_false c, if_pos iB_fz, if_neg (by omega), if_neg (by omega), if_neg (by omega), if_neg (by omega), if_neg (by omega), if_neg (by omega), if_neg (by omega), iN_1]
