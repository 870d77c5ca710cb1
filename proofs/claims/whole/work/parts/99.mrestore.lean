/-! .. restore -/
theorem m_restore {w : rW} {S : AS} (h : MI w S) : Md (fX12_restore w) (aRestore S).1 (aRestore S).2 := by
  have c24 : (2400 : Int32) = iI ((2400 : Nat) : Int) := by decide +kernel
  have c10 : (1000 : Int32) = iI ((1000 : Nat) : Int) := by decide +kernel
  obtain ⟨hT, ⟨hf, hI⟩, hS, hz⟩ := id h
  unfold aRestore
  cases hs : sI S with
  | none =>
    rw [hs] at hf
    exact Md.rf h (by rw [fX12_restore, hf, if_pos (show iB (none : Option TbS).isSome = 0 from rfl), iN_3])
  | some T =>
    rw [hs] at hf
    have hT2 := hI T hs
    obtain ⟨w', e, a1, a2, a3, a4, a5⟩ := two_img (L1 := fX12_restore_L12) (L2 := fX12_restore_L39) 1 0 3 2 (by omega) (by omega) (by omega) (by omega) (by omega) (by omega) (fun w4 => (raI w4 2 1000 (0 : Int32)).bind fun v5 =>
  some (v5, w4))
      (fun K fu w => by rw [fX12_restore_L12, if_pos (by rw [c24, iI_le (by omega) (by omega) (by omega) (by omega)]; omega)])
      (fun K fu i w hi => by rw [fX12_restore_L12, if_neg (by rw [c24, iI_le (by omega) (by omega) (by omega) (by omega)]; omega), raN (by omega) (by omega), Option.bind_some, rsN (by omega) (by omega), Option.bind_some, e1N])
      (fun K fu w => by rw [fX12_restore_L39, if_pos (by rw [c10, iI_le (by omega) (by omega) (by omega) (by omega)]; omega)])
      (fun K fu i w hi => by rw [fX12_restore_L39, if_neg (by rw [c10, iI_le (by omega) (by omega) (by omega) (by omega)]; omega), raN (by omega) (by omega), Option.bind_some, rsN (by omega) (by omega), Option.bind_some, e1N]) w
    have en : ∀ n, n ≠ 0 → n ≠ 2 → rA w' n = rA w n := a1
    have n0 := hT2.2.1.1
    refine ⟨w', ?_, hT2.of (fun i hi => a3 i hi) (fun i hi => a5 i hi), ⟨by rw [a2]; exact hf, fun T' e' => ?_⟩, fun d hd => ?_, by rw [a2]; exact hz⟩
    · rw [fX12_restore, hf, if_neg (show ¬ iB (some T).isSome = 0 from iB_tn), e, z0K, raN (by omega) (by omega), Option.bind_some, a5 0 (by omega), n0]
    · have e2 : some T = some T' := e'
      cases e2
      rw [en 1 (by omega) (by omega), en 3 (by omega) (by omega)]
      exact hT2
    · have := hS d hd
      show MSh w' d (sH S d)
      unfold MSh at this ⊢
      rw [en 4 (by omega) (by omega), en 5 (by omega) (by omega), en 6 (by omega) (by omega), en 7 (by omega) (by omega), en 8 (by omega) (by omega), en 9 (by omega) (by omega)]
      exact this
