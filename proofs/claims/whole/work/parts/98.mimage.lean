/-! .. image, restore -/
theorem copyRow {L : Nat → (Int32 → rW → Option (Int32 × rW)) → Int32 → rW → Option (Int32 × rW)} {src dst N : Nat} (hN : N < 100000) (hne : src ≠ dst) (K : rW → Option (Int32 × rW)) (h0 : ∀ fu w, L (fu + 1) (fun _ w => K w) (iI N) w = K w) (h1 : ∀ (fu i : Nat) (w : rW), i < N → L (fu + 1) (fun _ w => K w) (iI i) w = L fu (fun _ w => K w) (iI (i + 1 : Nat)) (rSA w dst i (rA w src i))) : ∀ (m fu i : Nat) (w : rW), m < fu → i + m = N → ∃ w', L fu (fun _ w => K w) (iI i) w = K w' ∧ (∀ n, n ≠ dst → rA w' n = rA w n) ∧ rF w' = rF w ∧ (∀ j, i ≤ j → j < N → rA w' dst j = rA w src j) ∧ ∀ j, (j < i ∨ N ≤ j) → rA w' dst j = rA w dst j := by
  intro m
  induction m with
  | zero =>
    intro fu i w hf hi
    obtain ⟨fu, rfl⟩ : ∃ n, fu = n + 1 := ⟨fu - 1, by omega⟩
    have hi' : i = N := hi
    exact ⟨w, by rw [hi', h0], fun _ _ => rfl, rfl, fun j a b => by omega, fun j _ => rfl⟩
  | succ m ih =>
    intro fu i w hf hi
    obtain ⟨fu, rfl⟩ : ∃ n, fu = n + 1 := ⟨fu - 1, by omega⟩
    obtain ⟨w', e, a1, a2, a3, a4⟩ := ih fu (i + 1) (rSA w dst i (rA w src i)) (by omega) (by omega)
    refine ⟨w', by rw [h1 fu i w (by omega), e], fun n hn => by rw [a1 n hn, rA_SA_o hn], by rw [a2]; rfl, fun j j1 j2 => ?_, fun j hj => by rw [a4 j (by omega), rA_SA_j (by omega)]⟩
    by_cases c : j = i
    · rw [c, a4 i (by omega), rA_SA_s]
    · rw [a3 j (by omega) j2, rA_SA_o hne]
