/-! .. effort, toss -/
def aToss (S : AS) (d : Int) : Int := match shAt S d with
  | none => -1
  | some (some (.inl q)) => tossV q.1 q.2.1 q.2.2
  | some s => cRef s
theorem mWrongKept {w : rW} {S : AS} (h : MI w S) {d : Int} (hd : I32 d) : (shAt S d = none → fX12_wrongKept (iI d) w = some (iI (-1))) ∧ ∀ s, shAt S d = some s → fX12_wrongKept (iI d) w = some (iI (cRef s)) ∧ MSh w d.toNat s := by
  have is := mIsShelf (S := S) hd
  have e11 : (-11 : Int32) = iI (-11) := by decide +kernel
  have e12 : (-12 : Int32) = iI (-12) := by decide +kernel
  constructor
  · intro hs
    rw [hs] at is
    rw [fX12_wrongKept, is, Option.bind_some, if_pos (show iB (none : Option Sh).isSome = 0 from rfl), iN_1]
  · intro s hs
    rw [hs] at is
    obtain ⟨d8, de, ds⟩ := shAt_s hs
    have hm := h.2.2.1 d.toNat d8
    rw [← ds] at hm
    refine ⟨?_, hm⟩
    rw [← de, fX12_wrongKept, de, is, Option.bind_some, if_neg (show ¬ iB (some s).isSome = 0 from iB_tn), ← de, raN d8 (by omega), Option.bind_some, Option.bind_some]
    cases s with
    | none => rw [show rA w 4 d.toNat = iI 0 from hm, if_pos (by decide +kernel), e11]; rfl
    | some q =>
      cases q with
      | inl q => rw [hm.1, if_neg (by decide +kernel), if_pos (by decide +kernel)]; rfl
      | inr q => rw [hm.1, if_neg (by decide +kernel), if_neg (by decide +kernel), e12]; rfl
theorem m_effort {w : rW} {S : AS} (h : MI w S) {d : Int} (hd : I32 d) : fX12_effort (iI d) w = some (iI (aEffort S d)) ∧ fX12_toss (iI d) w = some (iI (aToss S d)) := by
  obtain ⟨k1, k2⟩ := mWrongKept h hd
  unfold aEffort aToss
  rw [fX12_effort, fX12_toss]
  cases hs : shAt S d with
  | none =>
    rw [k1 hs, Option.bind_some, Option.bind_some, if_neg (by decide +kernel), if_neg (by decide +kernel)]
    exact ⟨rfl, rfl⟩
  | some s =>
    obtain ⟨e, hm⟩ := k2 s hs
    obtain ⟨d8, de, ds⟩ := shAt_s hs
    rw [e, Option.bind_some, Option.bind_some]
    cases s with
    | none =>
      rw [if_neg (show ¬ iI (cRef (none : Sh)) = 0 by show ¬ iI (-11) = 0; decide +kernel), if_neg (show ¬ iI (cRef (none : Sh)) = 0 by show ¬ iI (-11) = 0; decide +kernel)]
      exact ⟨rfl, rfl⟩
    | some q =>
      cases q with
      | inl q =>
        rw [if_pos (show iI (cRef (some (.inl q))) = 0 from rfl), if_pos (show iI (cRef (some (.inl q))) = 0 from rfl), ← de, raN d8 (by omega), raN d8 (by omega), Option.bind_some, Option.bind_some, hm.2.1, hm.2.2.1]
        exact ⟨rfl, rfl⟩
      | inr q =>
        rw [if_neg (show ¬ iI (cRef (some (.inr q))) = 0 by show ¬ iI (-12) = 0; decide +kernel), if_neg (show ¬ iI (cRef (some (.inr q))) = 0 by show ¬ iI (-12) = 0; decide +kernel)]
        exact ⟨rfl, rfl⟩
