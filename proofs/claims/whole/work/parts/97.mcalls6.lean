/-! .. give, step -/
theorem mIsKnown {w : rW} {S : AS} (h : MI w S) {l : Int} {F : Fo} (hL : tLn (sT S) l = some F) : fX12_isKnown (iI l) w = some (iB (decide (aHw S l ≠ 0))) := by
  obtain ⟨hw, h2⟩ := mHow h hL
  rw [fX12_isKnown, hw, Option.bind_some]
  by_cases c : aHw S l = 0
  · rw [if_pos (by rw [c]; rfl), decide_eq_false (fun z => z c)]; rfl
  · rw [if_neg (by rw [iL_0, iI_eq (by omega) (by omega) (by omega) (by omega)]; omega), decide_eq_true c]; rfl
theorem m_give {w : rW} {S : AS} (h : MI w S) {l : Int} (hl : I32 l) : Md (fX12_give (iI l) w) (aGive S l).1 (aGive S l).2 := by
  unfold aGive
  rw [fX12_give, mIsLine h hl, Option.bind_some]
  cases hL : tLn (sT S) l with
  | none => exact Md.rf h (by rw [if_pos (show iB (none : Option Fo).isSome = 0 from rfl), iN_1])
  | some F =>
    obtain ⟨b0, b1, b2⟩ := tLn_lt hL
    rw [if_neg (show ¬ iB (some F).isSome = 0 from iB_tn), mIsKnown h hL, Option.bind_some]
    show Md _ (if tH (sT S) l.toNat = 0 then ((1 : Int), (tKnow (sT S) l.toNat 1 (-4, -4, -4), sI S, sH S)) else (0, S)).1 (if tH (sT S) l.toNat = 0 then ((1 : Int), (tKnow (sT S) l.toNat 1 (-4, -4, -4), sI S, sH S)) else (0, S)).2
    by_cases c : tH (sT S) l.toNat = 0
    · have c' : aHw S l = 0 := c
      obtain ⟨w', e, h'⟩ := becomes_ok h (s := 1) (-4, -4, -4) b1 c (by omega) (by omega)
      rw [show ((l.toNat : Nat) : Int) = l by omega] at e
      have e' : fX12_becomes (iI l) (1 : Int32) (-4 : Int32) (-4 : Int32) (-4 : Int32) w = some w' := by rw [iN_4]; exact e
      rw [decide_eq_false (fun z => z c'), if_pos iB_fz, e', Option.bind_some, if_pos c]
      exact ⟨w', rfl, h'⟩
    · have c' : ¬ aHw S l = 0 := c
      rw [decide_eq_true c', if_neg iB_tn, if_neg c]
      exact ⟨w, rfl, h⟩
theorem m_step {w : rW} {S : AS} (h : MI w S) {l k a b : Int} (hl : I32 l) (hk : I32 k) (ha : I32 a) (hb : I32 b) : Md (fX12_step (iI l) (iI k) (iI a) (iI b) w) (aStep S l k a b).1 (aStep S l k a b).2 := by
  unfold aStep
  rw [fX12_step, mTold h hl hk ha hb, Option.bind_some]
  cases ht : aTold S l k a b with
  | false =>
    rw [if_neg Bool.false_ne_true]
    exact Md.rf h (by rw [if_pos iB_fz, iN_1])
  | true =>
    obtain ⟨⟨w', e, r⟩, ⟨f, hf⟩, ⟨A, hA⟩, hB⟩ := mStv h ht
    obtain ⟨b0, b1, b2⟩ := tLn_lt hf
    have h' := h.rq r
    rw [if_neg iB_tn, mIsKnown h hf, Option.bind_some, if_pos rfl]
    by_cases c1 : aHw S l = 0
    · rw [decide_eq_false (fun z => z c1), if_pos iB_fz, mIsKnown h hA, Option.bind_some]
      by_cases c2 : aHw S a = 0
      · rw [decide_eq_false (fun z => z c2), if_pos iB_fz, if_pos (show aHw S l ≠ 0 ∨ aHw S a = 0 ∨ (aTwo k = true ∧ aHw S b = 0) from Or.inr (Or.inl c2))]
        exact Md.rf h (by rw [iN_3])
      · rw [decide_eq_true c2, if_neg iB_tn, mOfTwo hk, Option.bind_some]
        have fin : ∀ v : Int, (v = if aTwo k = true then b else -4) → Md (if iB (aStv S l k a b) = 0 then some ((-3 : Int32), w') else (fX12_becomes (iI l) (2 : Int32) (iI k) (iI a) (iI v) w').bind fun w14 => some ((1 : Int32), w14)) (if aStv S l k a b = true then ((1 : Int), ((tKnow (sT S) l.toNat 2 (k, a, if aTwo k = true then b else -4), sI S, sH S) : AS)) else (-3, S)).1 (if aStv S l k a b = true then ((1 : Int), ((tKnow (sT S) l.toNat 2 (k, a, if aTwo k = true then b else -4), sI S, sH S) : AS)) else (-3, S)).2 := fun v hv => by
          cases aStv S l k a b with
          | false =>
            rw [if_pos iB_fz, if_neg Bool.false_ne_true]
            exact ⟨w', by rw [iN_3], h'⟩
          | true =>
            obtain ⟨w'', e2, h''⟩ := becomes_ok h' (s := 2) (k, a, v) b1 c1 (by omega) (by omega)
            rw [show ((l.toNat : Nat) : Int) = l by omega] at e2
            have e2' : fX12_becomes (iI l) (2 : Int32) (iI k) (iI a) (iI v) w' = some w'' := e2
            rw [if_neg iB_tn, e2', Option.bind_some, if_pos rfl, ← hv]
            exact ⟨w'', rfl, h''⟩
        cases cT : aTwo k with
        | false =>
          rw [cT] at fin
          have := fin (-4) rfl
          rw [if_pos iB_fz, e, kb2_s, Option.bind_some, if_pos iB_fz, iN_4, if_neg (show ¬ (aHw S l ≠ 0 ∨ aHw S a = 0 ∨ (false = true ∧ aHw S b = 0)) from fun z => by rcases z with z | z | z; exact z c1; exact c2 z; cases z.1)]
          exact this
        | true =>
          obtain ⟨B, hB'⟩ := hB cT
          rw [cT] at fin
          have := fin b rfl
          rw [if_neg iB_tn, mIsKnown h hB', Option.bind_some]
          by_cases c3 : aHw S b = 0
          · rw [decide_eq_false (fun z => z c3), if_pos iB_fz, if_pos (show aHw S l ≠ 0 ∨ aHw S a = 0 ∨ (true = true ∧ aHw S b = 0) from Or.inr (Or.inr ⟨rfl, c3⟩))]
            exact Md.rf h (by rw [iN_3])
          · rw [decide_eq_true c3, if_neg iB_tn, e, kb2_s, Option.bind_some, if_neg iB_tn, if_neg (show ¬ (aHw S l ≠ 0 ∨ aHw S a = 0 ∨ (true = true ∧ aHw S b = 0)) from fun z => by rcases z with z | z | z; exact z c1; exact c2 z; exact c3 z.2)]
            exact this
    · rw [decide_eq_true c1, if_neg iB_tn, if_pos (show aHw S l ≠ 0 ∨ aHw S a = 0 ∨ (aTwo k = true ∧ aHw S b = 0) from Or.inl c1)]
      exact Md.rf h (by rw [iN_3])
