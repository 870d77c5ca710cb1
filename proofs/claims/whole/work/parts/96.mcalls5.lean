/-! .. a line becomes known -/
theorem TbW.know {T : TbS} (h : TbW T) {n s : Nat} (q : Int × Int × Int) (hn : n < (tL T).length) (h0 : tH T n = 0) (s0 : s ≠ 0) (s2 : s ≤ 2) : TbW (tKnow T n s q) := by
  obtain ⟨a1, a2, a3, a4, a5, a6, a7⟩ := h
  have nk : n ∉ tK T := fun z => ((a4 n).mp z).2 h0
  refine ⟨a1, a2, ?_, fun k => ?_, fun k => ?_, a6, a7⟩
  · show (tK T ++ [n]).Nodup
    rw [List.nodup_append]
    exact ⟨a3, by simp, fun a ha b hb e => nk (by rw [← List.mem_singleton.mp hb, ← e]; exact ha)⟩
  · show k ∈ tK T ++ [n] ↔ k < (tL T).length ∧ fu (tH T) n s k ≠ 0
    rw [List.mem_append, List.mem_singleton]
    by_cases e : k = n
    · rw [e, fu_s]
      exact ⟨fun _ => ⟨hn, s0⟩, fun _ => Or.inr rfl⟩
    · rw [fu_o _ _ e, a4 k]
      exact ⟨fun z => by rcases z with z | z; exact z; exact absurd z e, fun z => Or.inl z⟩
  · show fu (tH T) n s k ≤ 2
    by_cases e : k = n
    · rw [e, fu_s]; exact s2
    · rw [fu_o _ _ e]; exact a5 k
theorem becomes_ok {w : rW} {S : AS} (h : MI w S) {n s : Nat} (q : Int × Int × Int) (hn : n < (tL (sT S)).length) (h0 : tH (sT S) n = 0) (s0 : s ≠ 0) (s2 : s ≤ 2) : ∃ w', fX12_becomes (iI n) (iI s) (iI q.1) (iI q.2.1) (iI q.2.2) w = some w' ∧ MI w' (tKnow (sT S) n s q, sI S, sH S) := by
  obtain ⟨⟨hW, ⟨n0, n1, n2⟩, h1, h2, h3, h4, h5⟩, hI, hS, hz⟩ := h
  have h40 := hW.1
  have hW' := hW.know q hn h0 s0 s2
  have kl : (tK (sT S) ++ [n]).length ≤ (tL (sT S)).length := hW'.kl
  rw [List.length_append, List.length_singleton] at kl
  have z1 : (1 : Int32) = iI ((1 : Nat) : Int) := rfl
  have e43 : (43 : Int32) + iI n = iI (43 + n : Nat) := by rw [iL_43, iI_add]; rfl
  have e83 : (83 : Int32) + iI n = iI (83 + n : Nat) := by rw [iL_83, iI_add]; rfl
  have e123 : (123 : Int32) + iI n = iI (123 + n : Nat) := by rw [iL_123, iI_add]; rfl
  have e163 : (163 : Int32) + iI n = iI (163 + n : Nat) := by rw [iL_163, iI_add]; rfl
  have e203 : (203 : Int32) + iI (tK (sT S)).length = iI (203 + (tK (sT S)).length : Nat) := by rw [iL_203, iI_add]; rfl
  obtain ⟨w4, ew4⟩ : ∃ w4, w4 = rSA (rSA (rSA (rSA w 2 (43 + n) (iI s)) 2 (83 + n) (iI q.1)) 2 (123 + n) (iI q.2.1)) 2 (163 + n) (iI q.2.2) := ⟨_, rfl⟩
  have v4 : rA w4 2 1 = iI (tK (sT S)).length := by rw [ew4, rA_SA_j (by omega), rA_SA_j (by omega), rA_SA_j (by omega), rA_SA_j (by omega)]; exact n1
  obtain ⟨w6, ew6⟩ : ∃ w6, w6 = rSA (rSA w4 2 (203 + (tK (sT S)).length) (iI n)) 2 1 (iI ((tK (sT S)).length + 1 : Nat)) := ⟨_, rfl⟩
  have o2 : ∀ i, i ≠ 1 → i ≠ 203 + (tK (sT S)).length → i ≠ 163 + n → i ≠ 123 + n → i ≠ 83 + n → i ≠ 43 + n → rA w6 2 i = rA w 2 i := fun i a b c d e f => by
    rw [ew6, rA_SA_j a, rA_SA_j b, ew4, rA_SA_j c, rA_SA_j d, rA_SA_j e, rA_SA_j f]
  have oo : ∀ m, m ≠ 2 → rA w6 m = rA w m := fun m hm => by
    rw [ew6, rA_SA_o hm, rA_SA_o hm, ew4, rA_SA_o hm, rA_SA_o hm, rA_SA_o hm, rA_SA_o hm]
  have of' : rF w6 = rF w := by rw [ew6, ew4]; rfl
  have x43 : rA w6 2 (43 + n) = iI s := by rw [ew6, rA_SA_j (by omega), rA_SA_j (by omega), ew4, rA_SA_j (by omega), rA_SA_j (by omega), rA_SA_j (by omega), rA_SA_s]
  have x83 : rA w6 2 (83 + n) = iI q.1 := by rw [ew6, rA_SA_j (by omega), rA_SA_j (by omega), ew4, rA_SA_j (by omega), rA_SA_j (by omega), rA_SA_s]
  have x123 : rA w6 2 (123 + n) = iI q.2.1 := by rw [ew6, rA_SA_j (by omega), rA_SA_j (by omega), ew4, rA_SA_j (by omega), rA_SA_s]
  have x163 : rA w6 2 (163 + n) = iI q.2.2 := by rw [ew6, rA_SA_j (by omega), rA_SA_j (by omega), ew4, rA_SA_s]
  have x203 : rA w6 2 (203 + (tK (sT S)).length) = iI n := by rw [ew6, rA_SA_j (by omega), rA_SA_s]
  refine ⟨w6, ?_, ⟨hW', ⟨?_, ?_, ?_⟩, fun l F e => ?_, fun l hl => ?_, fun l hl e2 => ?_, fun i k e => ?_, fun p u e => ?_⟩, ?_, fun d hd => ?_, by rw [of']; exact hz⟩
  · rw [fX12_becomes, e43, rsN (by omega) (by omega), Option.bind_some, e83, rsN (by omega) (by omega), Option.bind_some, e123, rsN (by omega) (by omega), Option.bind_some, e163, rsN (by omega) (by omega), Option.bind_some, ← ew4, z1, raN (by omega) (by omega), Option.bind_some, v4, e203, rsN (by omega) (by omega), Option.bind_some, raN (by omega) (by omega), Option.bind_some, rA_SA_j (by omega), v4, iI_add, rsN (by omega) (by omega), Option.bind_some, show ((tK (sT S)).length : Int) + ((1 : Nat) : Int) = (((tK (sT S)).length + 1 : Nat) : Int) by omega, ← ew6]
  · rw [o2 0 (by omega) (by omega) (by omega) (by omega) (by omega) (by omega)]; exact n0
  · rw [ew6, rA_SA_s]
    show _ = iI (tK (sT S) ++ [n]).length
    rw [List.length_append]
    rfl
  · rw [o2 2 (by omega) (by omega) (by omega) (by omega) (by omega) (by omega)]; exact n2
  · obtain ⟨a, b⟩ := h1 l F e
    have hlt := (List.getElem?_eq_some_iff.mp e).1
    have hlt' : l < (tL (sT S)).length := hlt
    rw [oo 0 (by omega), o2 _ (by omega) (by omega) (by omega) (by omega) (by omega) (by omega)]
    exact ⟨a, b⟩
  · show rA w6 2 (43 + l) = iI ((fu (tH (sT S)) n s l : Nat) : Int)
    have hl' : l < (tL (sT S)).length := hl
    by_cases c : l = n
    · rw [c, fu_s]; exact x43
    · rw [fu_o _ _ c, o2 _ (by omega) (by omega) (by omega) (by omega) (by omega) (by omega)]; exact h2 l hl'
  · have hl' : l < (tL (sT S)).length := hl
    show rA w6 2 (83 + l) = iI (fu (tF (sT S)) n q l).1 ∧ rA w6 2 (123 + l) = iI (fu (tF (sT S)) n q l).2.1 ∧ rA w6 2 (163 + l) = iI (fu (tF (sT S)) n q l).2.2
    by_cases c : l = n
    · rw [c, fu_s]; exact ⟨x83, x123, x163⟩
    · have e2' : fu (tH (sT S)) n s l = 2 := e2
      rw [fu_o _ _ c] at e2'
      rw [fu_o _ _ c, o2 _ (by omega) (by omega) (by omega) (by omega) (by omega) (by omega), o2 _ (by omega) (by omega) (by omega) (by omega) (by omega) (by omega), o2 _ (by omega) (by omega) (by omega) (by omega) (by omega) (by omega)]
      exact h3 l hl' e2'
  · have e' : (tK (sT S) ++ [n])[i]? = some k := e
    by_cases c : i < (tK (sT S)).length
    · rw [List.getElem?_append_left c] at e'
      rw [o2 _ (by omega) (by omega) (by omega) (by omega) (by omega) (by omega)]
      exact h4 i k e'
    · have hi := (List.getElem?_eq_some_iff.mp e').1
      rw [List.length_append, List.length_singleton] at hi
      have ei : i = (tK (sT S)).length := by omega
      subst ei
      rw [List.getElem?_append_right (Nat.le_refl _), Nat.sub_self] at e'
      cases e'
      exact x203
  · obtain ⟨a, b⟩ := h5 p u e
    have hlt : p < (tP (sT S)).length := (List.getElem?_eq_some_iff.mp e).1
    rw [o2 _ (by omega) (by omega) (by omega) (by omega) (by omega) (by omega)]
    refine ⟨a, fun i c hc => ?_⟩
    rw [o2 _ (by omega) (by omega) (by omega) (by omega) (by omega) (by omega)]
    exact b i c hc
  · show rF w6 10 = iB (sI S).isSome ∧ ∀ T, sI S = some T → MTb (rA w6 1) (rA w6 3) T
    rw [of', oo 1 (by omega), oo 3 (by omega)]
    exact hI
  · have := hS d hd
    unfold MSh at this ⊢
    rw [oo 4 (by omega), oo 5 (by omega), oo 6 (by omega), oo 7 (by omega), oo 8 (by omega), oo 9 (by omega)]
    exact this
