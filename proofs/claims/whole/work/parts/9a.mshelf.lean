/-! THE MODEL'S CALLS, of shelves -/
theorem mIsShelf {S : AS} {d : Int} (hd : I32 d) : fX12_isShelf (iI d) = some (iB (shAt S d).isSome) := by
  have e : (shAt S d).isSome = decide (0 ≤ d ∧ d ≤ 7) := by
    unfold shAt
    by_cases c : 0 ≤ d ∧ d < 8
    · rw [if_pos c, decide_eq_true (by omega)]; rfl
    · rw [if_neg c, decide_eq_false (by omega)]; rfl
  rw [fX12_isShelf, z0N, show (7 : Int64) = (iI 7).toInt64 by decide +kernel, isIn_ok hd (by unfold I32; omega) (by unfold I32; omega), Option.bind_some, kBl_B, Option.bind_some, e]
theorem shAt_s {S : AS} {d : Int} {s : Sh} (h : shAt S d = some s) : d.toNat < 8 ∧ ((d.toNat : Nat) : Int) = d ∧ s = sH S d.toNat := by
  unfold shAt at h
  by_cases c : 0 ≤ d ∧ d < 8
  · rw [if_pos c] at h
    exact ⟨by omega, by omega, (Option.some.inj h).symm⟩
  · rw [if_neg c] at h; cases h
/-- refusals of rows, of a sort (0) or of any -/
theorem mWrongRow {w : rW} {S : AS} (h : MI w S) {d : Int} (hd : I32 d) : (shAt S d = none → ∀ z, fX12_wrongRow (iI d) z w = some (iI (-1))) ∧ ∀ s, shAt S d = some s → fX12_wrongRow (iI d) (0 : Int32) w = some (iI (bRef s)) ∧ fX12_wrongRow (iI d) (-1 : Int32) w = some (iI (rRef s)) ∧ MSh w d.toNat s := by
  have is := mIsShelf (S := S) hd
  constructor
  · intro hs z
    rw [hs] at is
    rw [fX12_wrongRow, is, Option.bind_some, if_pos (show iB (none : Option Sh).isSome = 0 from rfl), iN_1]
  · intro s hs
    rw [hs] at is
    obtain ⟨d8, de, ds⟩ := shAt_s hs
    have hm := h.2.2.1 d.toNat d8
    rw [← ds] at hm
    have e11 : (-11 : Int32) = iI (-11) := by decide +kernel
    have e12 : (-12 : Int32) = iI (-12) := by decide +kernel
    rw [← de, fX12_wrongRow, fX12_wrongRow, de, is, Option.bind_some, Option.bind_some, if_neg (show ¬ iB (some s).isSome = 0 from iB_tn), if_neg (show ¬ iB (some s).isSome = 0 from iB_tn), ← de, raN d8 (by omega), Option.bind_some, Option.bind_some, Option.bind_some, Option.bind_some]
    refine ⟨?_, ?_, by rw [Int.toNat_natCast]; exact hm⟩
    · cases s with
      | none => rw [show rA w 4 d.toNat = iI 0 from hm, if_pos (by decide +kernel), e11]; rfl
      | some q =>
        cases q with
        | inl q => rw [hm.1, if_neg (by decide +kernel), if_neg (by decide +kernel), e12]; rfl
        | inr q =>
          have q2 := hm.2.2.2.2.1
          rw [hm.1, if_neg (by decide +kernel), if_pos (by decide +kernel), if_neg (by decide +kernel), raN d8 (by omega), Option.bind_some, hm.2.1]
          show _ = some (iI (if q.1 = 0 then 0 else -12))
          by_cases c : q.1 = 0
          · rw [if_pos (by rw [c]; rfl), if_pos c]; rfl
          · rw [if_neg (by rw [iL_0, iI_eq (by omega) (by omega) (by omega) (by omega)]; omega), if_neg c, e12]
    · cases s with
      | none => rw [show rA w 4 d.toNat = iI 0 from hm, if_pos (by decide +kernel), e11]; rfl
      | some q =>
        cases q with
        | inl q => rw [hm.1, if_neg (by decide +kernel), if_neg (by decide +kernel), e12]; rfl
        | inr q =>
          rw [hm.1, if_neg (by decide +kernel), if_pos (by decide +kernel), if_pos (by decide +kernel)]
          rfl
