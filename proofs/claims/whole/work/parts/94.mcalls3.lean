/-! .. widest, must, check, from -/
theorem m_widest {w : rW} {S : AS} (h : MI w S) {a b i : Int} (ha : I32 a) (hb : I32 b) (hi : I32 i) : Md (fX12_widest (iI a) (iI b) (iI i) w) (aWidest S a b i) S := by
  obtain ⟨i0, i1⟩ := hi
  unfold aWidest
  rw [fX12_widest, mIsLine h ha, Option.bind_some]
  cases hL : tLn (sT S) a with
  | none => exact Md.rf h (by rw [if_pos (show iB (none : Option Fo).isSome = 0 from rfl), iN_1])
  | some F =>
    obtain ⟨gF, eF⟩ := h.ml hL
    rw [if_neg (show ¬ iB (some F).isSome = 0 from iB_tn), mIsLine h hb, Option.bind_some]
    cases hR : tLn (sT S) b with
    | none => exact Md.rf h (by rw [if_pos (show iB (none : Option Fo).isSome = 0 from rfl), iN_1])
    | some G =>
      obtain ⟨gG, eG⟩ := h.ml hR
      rw [if_neg (show ¬ iB (some G).isSome = 0 from iB_tn)]
      show Md _ (if -1 ≤ i then (match fWi 7 F G with
        | none => -4
        | some H => if 0 ≤ i then bt (fTxt H) i else fSz H) else -1) S
      by_cases c : -1 ≤ i
      · rw [if_pos (show (-1 : Int32) ≤ iI i by rw [iN_1, iI_le (by omega) (by omega) (by omega) (by omega)]; exact c), if_pos c, ← eF, ← eG]
        obtain ⟨w', e, r, g⟩ := mWidest gF gG
        have h' : MI w' S := h.rq (r.wide (fun n i z => Or.inl ⟨z.1, by have := z.2; omega⟩) (fun j z => by unfold ScF; rcases z with z | z <;> omega))
        rw [e, kb2_s]
        cases hW : fWi 7 F G with
        | none => exact ⟨w', by rw [if_pos (show iB (none : Option Fo).isSome = 0 from rfl), iN_4], h'⟩
        | some H =>
          obtain ⟨g1, g2, g3⟩ := g H hW
          have t3 := tln_399 g2.1 g3
          have lH : (fTxt H).length = tln H := rfl
          rw [if_neg (show ¬ iB (some H).isSome = 0 from iB_tn)]
          show Md _ (if 0 ≤ i then bt (fTxt H) i else fSz H) S
          by_cases c0 : 0 ≤ i
          · rw [if_pos (show (0 : Int32) ≤ iI i by rw [iL_0, iI_le (by omega) (by omega) (by omega) (by omega)]; exact c0), if_pos c0, g1, c4K, iI_sub, show ((4000 + tln H : Nat) : Int) - ((4000 : Nat) : Int) = (tln H : Int) by omega]
            by_cases c2 : (tln H : Int) ≤ i
            · exact ⟨w', by rw [if_pos (by rw [iI_le (by omega) (by omega) (by omega) (by omega)]; exact c2), bt_no c0 (by omega), iN_4], h'⟩
            · refine ⟨w', ?_, h'⟩
              rw [if_neg (by rw [iI_le (by omega) (by omega) (by omega) (by omega)]; exact c2), iI_add, show ((4000 : Nat) : Int) + i = ((4000 + i.toNat : Nat) : Int) by omega, raN (by omega) (by omega), Option.bind_some, bt_ok g2.2.1 (by omega), show ((i.toNat : Nat) : Int) = i by omega]
          · refine ⟨w', ?_, h'⟩
            have := g2.size
            rw [if_neg (show ¬ (0 : Int32) ≤ iI i by rw [iL_0, iI_le (by omega) (by omega) (by omega) (by omega)]; exact c0), if_neg c0, g1, c4K, this, Option.bind_some]
      · rw [if_neg (show ¬ (-1 : Int32) ≤ iI i by rw [iN_1, iI_le (by omega) (by omega) (by omega) (by omega)]; exact c), if_neg c]
        exact Md.rf h (by rw [iN_1])
theorem m_must {w : rW} {S : AS} (h : MI w S) {a b c i : Int} (ha : I32 a) (hb : I32 b) (hc : I32 c) (hi : I32 i) : Md (fX12_must (iI a) (iI b) (iI c) (iI i) w) (aMust S a b c i) S := by
  obtain ⟨i0, i1⟩ := hi
  obtain ⟨c0, c1⟩ := hc
  unfold aMust
  rw [fX12_must, mIsLine h ha, Option.bind_some]
  cases hL : tLn (sT S) a with
  | none => exact Md.rf h (by rw [if_pos (show iB (none : Option Fo).isSome = 0 from rfl), iN_1])
  | some F =>
    obtain ⟨gF, eF⟩ := h.ml hL
    rw [if_neg (show ¬ iB (some F).isSome = 0 from iB_tn), mIsLine h hb, Option.bind_some]
    cases hR : tLn (sT S) b with
    | none => exact Md.rf h (by rw [if_pos (show iB (none : Option Fo).isSome = 0 from rfl), iN_1])
    | some G =>
      obtain ⟨gG, eG⟩ := h.ml hR
      have il : fX12_isLetter (iI c) = some (iB (decide (112 ≤ c ∧ c ≤ 117))) := by
        rw [fX12_isLetter]
        by_cases q1 : c < 112
        · rw [if_pos (by rw [iL_112, iI_lt (by omega) (by omega) (by omega) (by omega)]; exact q1), decide_eq_false (by omega)]; rfl
        rw [if_neg (by rw [iL_112, iI_lt (by omega) (by omega) (by omega) (by omega)]; exact q1)]
        by_cases q2 : 117 < c
        · rw [if_pos (by rw [iL_117, iI_lt (by omega) (by omega) (by omega) (by omega)]; exact q2), decide_eq_false (by omega)]; rfl
        · rw [if_neg (by rw [iL_117, iI_lt (by omega) (by omega) (by omega) (by omega)]; exact q2), decide_eq_true (by omega)]; rfl
      rw [if_neg (show ¬ iB (some G).isSome = 0 from iB_tn), il, Option.bind_some]
      show Md _ (if 0 ≤ leZ c ∧ 0 ≤ i then (match fMt F G σ0 with
        | none => -4
        | some σ => match σ (leZ c).toNat with
          | none => -4
          | some C => bt (fTxt C) i) else -1) S
      by_cases cl : 112 ≤ c ∧ c ≤ 117
      · have el : leZ c = c - 112 := if_pos cl
        rw [decide_eq_true cl, if_neg iB_tn, el]
        by_cases ci : 0 ≤ i
        · obtain ⟨w', e, r, g⟩ := comes_ok gF.2.1 gG.2.1
          have h' : MI w' S := h.rq (r.wide (fun n i z => Or.inr (by rcases z with z | z <;> omega)) (fun _ z => z.elim))
          rw [if_pos (show (0 : Int32) ≤ iI i by rw [iL_0, iI_le (by omega) (by omega) (by omega) (by omega)]; exact ci), if_pos (show 0 ≤ c - 112 ∧ 0 ≤ i by omega), ← eF, ← eG, textOf_ok, Option.bind_some, textOf_ok, Option.bind_some, e, kb2_s]
          cases hm : fMt F G σ0 with
          | none => exact ⟨w', by rw [if_pos (show iB (none : Option (Nat → Option Fo)).isSome = 0 from rfl), iN_4], h'⟩
          | some σ =>
            obtain ⟨p1, p2⟩ := g σ hm (c - 112).toNat (by omega)
            have ek : iI c - (112 : Int32) = iI ((c - 112).toNat : Nat) := by rw [iL_112, iI_sub]; congr 1; omega
            rw [if_neg (show ¬ iB (some σ).isSome = 0 from iB_tn), ek, raN (by omega) (by omega), Option.bind_some]
            show Md _ (match σ (c - 112).toNat with
              | none => -4
              | some C => bt (fTxt C) i) S
            cases hs : σ (c - 112).toNat with
            | none => exact ⟨w', by rw [p1 hs, if_neg (by decide +kernel), iN_4], h'⟩
            | some C =>
              obtain ⟨p, v1, v2, v3⟩ := p2 C hs
              have b3 := v3.2.2.1
              have lC : (fTxt C).length = tln C := rfl
              rw [v1, if_pos (show (0 : Int32) ≤ iI p by rw [iL_0, iI_le (by omega) (by omega) (by omega) (by omega)]; omega), raN (by omega) (by omega), Option.bind_some, Option.bind_some, v2, iI_sub, show ((p + tln C : Nat) : Int) - (p : Int) = (tln C : Int) by omega]
              by_cases c2 : (tln C : Int) ≤ i
              · exact ⟨w', by rw [if_pos (by rw [iI_le (by omega) (by omega) (by omega) (by omega)]; exact c2)]; show _ = some (iI (bt (fTxt C) i), w'); rw [bt_no ci (by omega), iN_4], h'⟩
              · refine ⟨w', ?_, h'⟩
                rw [if_neg (by rw [iI_le (by omega) (by omega) (by omega) (by omega)]; exact c2), Option.bind_some, iI_add, show (p : Int) + i = ((p + i.toNat : Nat) : Int) by omega, raN (by omega) (by omega), Option.bind_some, bt_ok v3.2.1 (by omega), show ((i.toNat : Nat) : Int) = i by omega]
        · rw [if_neg (show ¬ (0 : Int32) ≤ iI i by rw [iL_0, iI_le (by omega) (by omega) (by omega) (by omega)]; exact ci), if_neg (by omega)]
          exact Md.rf h (by rw [iN_1])
      · have el : leZ c = -1 := if_neg cl
        rw [decide_eq_false cl, if_pos iB_fz, el, if_neg (by omega)]
        exact Md.rf h (by rw [iN_1])
