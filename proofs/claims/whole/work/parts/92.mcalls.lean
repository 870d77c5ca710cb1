/-! THE MODEL'S CALLS, of lines -/
theorem z0N : (0 : Int64) = (iI 0).toInt64 := by decide +kernel
theorem bt_ok {T : Nat → Int32} {a : Nat} {l : List Nat} (h : Ly T a l) {i : Nat} (hi : i < l.length) : T (a + i) = iI (bt l i) := by
  have := h i l[i] (List.getElem?_eq_getElem hi)
  rw [this]
  congr 1
  unfold bt
  rw [if_neg (by omega), if_pos (by omega), Int.toNat_natCast, List.getD_eq_getElem?_getD, List.getElem?_eq_getElem hi]
  rfl
theorem bt_no {l : List Nat} {i : Int} (h0 : 0 ≤ i) (hi : l.length ≤ i) : bt l i = -4 := by
  unfold bt
  rw [if_neg (by omega), if_neg (by omega)]
theorem m_table {w : rW} {S : AS} (h : MI w S) {l : Int} (hl : I32 l) : fX12_table (iI l) w = some (iI (aTable S l)) := by
  unfold aTable
  rw [fX12_table, mIsLine h hl, Option.bind_some]
  cases hL : tLn (sT S) l with
  | none =>
    rw [if_pos (show iB (none : Option Fo).isSome = 0 from rfl), iN_1]
  | some F =>
    obtain ⟨g, e⟩ := h.ml hL
    rw [if_neg (show ¬ iB (some F).isSome = 0 from iB_tn), ← e, mTable g, Option.bind_some]
theorem m_letter {w : rW} {S : AS} (h : MI w S) {l i : Int} (hl : I32 l) (hi : I32 i) : fX12_letter (iI l) (iI i) w = some (iI (aLetter S l i)) := by
  obtain ⟨i0, i1⟩ := hi
  unfold aLetter
  rw [fX12_letter, mIsLine h hl, Option.bind_some]
  cases hL : tLn (sT S) l with
  | none => rw [if_pos (show iB (none : Option Fo).isSome = 0 from rfl), iN_1]
  | some F =>
    obtain ⟨g, e⟩ := h.ml hL
    have b1 := g.1
    have b2 := g.2.2.1
    have lF : (fTxt F).length = tln F := rfl
    rw [if_neg (show ¬ iB (some F).isSome = 0 from iB_tn), ← e, g.size, Option.bind_some]
    show _ = some (iI (if 0 ≤ i then bt (fTxt F) i else -1))
    by_cases c : 0 ≤ i
    · rw [if_pos (by rw [iL_0, iI_le (by omega) (by omega) (by omega) (by omega)]; exact c), if_pos c]
      by_cases c2 : (tln F : Int) ≤ i
      · rw [if_pos (by rw [iI_le (by omega) (by omega) (by omega) (by omega)]; exact c2), bt_no c (by omega), iN_4]
      · rw [if_neg (by rw [iI_le (by omega) (by omega) (by omega) (by omega)]; exact c2), textOf_ok, Option.bind_some, iI_add, show ((60 * l.toNat : Nat) : Int) + i = ((60 * l.toNat + i.toNat : Nat) : Int) by omega, raN (by omega) (by omega), Option.bind_some, bt_ok g.2.1.2.1 (by omega), show ((i.toNat : Nat) : Int) = i by omega]
    · rw [if_neg (by rw [iL_0, iI_le (by omega) (by omega) (by omega) (by omega)]; exact c), if_neg c, iN_1]
theorem m_pair {w : rW} {S : AS} (h : MI w S) {a b q : Int} (ha : I32 a) (hb : I32 b) (hq : I32 q) : Md (fX12_pair (iI a) (iI b) (iI q) w) (aPair S a b q) S := by
  have hq' := hq
  obtain ⟨q0, q1⟩ := hq
  unfold aPair
  rw [fX12_pair, mIsLine h ha, Option.bind_some]
  cases hL : tLn (sT S) a with
  | none => exact Md.rf h (by rw [if_pos (show iB (none : Option Fo).isSome = 0 from rfl), iN_1])
  | some F =>
    obtain ⟨gF, eF⟩ := h.ml hL
    rw [if_neg (show ¬ iB (some F).isSome = 0 from iB_tn), mIsLine h hb, Option.bind_some]
    cases hR : tLn (sT S) b with
    | none => exact Md.rf h (by rw [if_pos (show iB (none : Option Fo).isSome = 0 from rfl), iN_1])
    | some G =>
      obtain ⟨gG, eG⟩ := h.ml hR
      rw [if_neg (show ¬ iB (some G).isSome = 0 from iB_tn), z0N, show (2 : Int64) = (iI 2).toInt64 by decide +kernel, isIn_ok hq' (by unfold I32; omega) (by unfold I32; omega), Option.bind_some]
      show Md _ (if q = 0 then bI (fEq F G) else if q = 1 then bI (fLike F G) else if q = 2 then bI (fMt F G σ0).isSome else -1) S
      by_cases c : 0 ≤ q ∧ q ≤ 2
      · rw [decide_eq_true c, if_neg iB_tn, ← eF, ← eG, textOf_ok, Option.bind_some, textOf_ok, Option.bind_some]
        have fin : ∀ (t : Bool) (w' : rW), (if iB t = 0 then some ((0 : Int32), w') else some ((1 : Int32), w')) = some (iI (bI t), w') := fun t w' => by
          cases t with
          | true => rw [if_neg iB_tn]; rfl
          | false => rw [if_pos iB_fz]; rfl
        by_cases c0 : q = 0
        · subst c0
          rw [if_pos (show iI 0 = (0 : Int32) from rfl), if_pos rfl, gF.size, Option.bind_some, gG.size, Option.bind_some, gF.to, gG.to, gF.2.1.same gG.2.1, Option.bind_some, fin]
          exact ⟨w, rfl, h⟩
        rw [if_neg (by rw [iL_0, iI_eq (by omega) (by omega) (by omega) (by omega)]; exact c0), if_neg c0]
        by_cases c1 : q = 1
        · subst c1
          rw [if_pos (show iI 1 = (1 : Int32) from rfl), if_pos rfl, gF.2.1.like gG.2.1, Option.bind_some, fin]
          exact ⟨w, rfl, h⟩
        · obtain ⟨w', e, r, -⟩ := comes_ok gF.2.1 gG.2.1
          rw [if_neg (by rw [iL_1, iI_eq (by omega) (by omega) (by omega) (by omega)]; exact c1), if_neg c1, if_pos (show q = 2 by omega), e, kb2_s, fin]
          exact ⟨w', rfl, h.rq (r.wide (fun n i z => Or.inr (by rcases z with z | z <;> omega)) (fun _ z => z.elim))⟩
      · rw [decide_eq_false c, if_pos iB_fz, if_neg (by omega), if_neg (by omega), if_neg (by omega)]
        exact Md.rf h (by rw [iN_1])
theorem m_isStep {w : rW} {l k a b : Nat} {f A B : Fo} (hl : Ml w l f) (ha : Ml w a A) (hk : k ≤ 3) (hb : k = 1 ∨ k = 2 → Ml w b B) : ∃ w', fX12_isStep (iI l) (iI k) (iI a) (iI b) w = some (iB (if k = 0 then (fMt A f σ0).isSome else if k = 1 then fThen f A B else if k = 2 then fChain f A B else fMean f A), w') ∧ Rq ScA ScF w w' := by
  rw [fX12_isStep]
  by_cases c0 : k = 0
  · subst c0
    obtain ⟨w', e, r, -⟩ := comes_ok ha.2.1 hl.2.1
    refine ⟨w', ?_, r.wide (fun n i z => Or.inr (by rcases z with z | z <;> omega)) (fun _ z => z.elim)⟩
    rw [if_pos (show iI ((0 : Nat) : Int) = (0 : Int32) from rfl), textOf_ok, Option.bind_some, textOf_ok, Option.bind_some, e, kb2_s, kBl_B, Option.bind_some, if_pos rfl]
  rw [if_neg (by rw [iL_0, iI_eq (by omega) (by omega) (by omega) (by omega)]; omega), if_neg c0]
  by_cases c1 : k = 1
  · subst c1
    rw [if_pos (show iI ((1 : Nat) : Int) = (1 : Int32) from rfl), if_pos rfl, mByIf hl ha (hb (Or.inl rfl)), Option.bind_some, kBl_B, Option.bind_some]
    exact ⟨w, rfl, Rq.rf w⟩
  rw [if_neg (by rw [iL_1, iI_eq (by omega) (by omega) (by omega) (by omega)]; omega), if_neg c1]
  by_cases c2 : k = 2
  · subst c2
    rw [if_pos (show iI ((2 : Nat) : Int) = (2 : Int32) from rfl), if_pos rfl, mByTwo hl ha (hb (Or.inr rfl)), Option.bind_some, kBl_B, Option.bind_some]
    exact ⟨w, rfl, Rq.rf w⟩
  · obtain ⟨w', e, r⟩ := mByChange hl ha
    rw [if_neg (by rw [iL_2, iI_eq (by omega) (by omega) (by omega) (by omega)]; omega), if_neg c2, e, kb2_s, kBl_B, Option.bind_some]
    exact ⟨w', rfl, r.wide (fun n i z => Or.inl ⟨z.1, by have := z.2; omega⟩) (fun _ z => z.elim)⟩
