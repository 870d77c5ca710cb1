/-! .. steps, sources, heights, what never is -/
theorem Sp.sq {ow : Nat → Nat × Nat} {w w1 : kW} {st p : Nat} (h : Sp ow w st p) (hs : Sq ow (fun z => z = p) w w1) (hp : Pg ow w1 p) : Sp ow w1 st p := by
  have ne := h.ne
  obtain ⟨k1, o1, p1, g1, r1⟩ := h
  have no : ¬ (ow st).1 = p := by rw [o1]; exact ne
  exact ⟨by rw [hs.1]; exact k1, o1, by rw [(hs.2.2.2 st no).2.1]; exact p1, hp, r1.sq hs no⟩
def aTwo (k : Int) : Bool := decide (k = 1 ∨ k = 2)
theorem takesTwo_ok {k : Int} (hk : I32 k) : fX11_takesTwo (iI k) = some (iB (aTwo k)) := by
  obtain ⟨k0, k1⟩ := hk
  unfold aTwo
  rw [fX11_takesTwo]
  by_cases c1 : k = 1
  · rw [if_pos (by rw [c1]; rfl), decide_eq_true (Or.inl c1)]; rfl
  · rw [if_neg (by rw [iL_1, iI_eq (by omega) (by omega) (by omega) (by omega)]; exact c1)]
    by_cases c2 : k = 2
    · rw [if_pos (by rw [c2]; rfl), decide_eq_true (Or.inr c2)]; rfl
    · rw [if_neg (by rw [iL_2, iI_eq (by omega) (by omega) (by omega) (by omega)]; exact c2), decide_eq_false (fun z => z.elim c1 c2)]; rfl
def aTold (S : AS) (l k a b : Int) : Bool := decide (0 ≤ k ∧ k ≤ 3) && (tLn (sT S) l).isSome && (tLn (sT S) a).isSome && (!aTwo k || (tLn (sT S) b).isSome)
theorem line_is {ow : Nat → Nat × Nat} {x : Nat} {w : kW} {S : AS} (h : Kc ow x w S) {l : Int} (hl : I32 l) {α : Type} (A B : Option α) : (∃ o, fX8_lineAt (x + 1) (iI l) w = some o ∧ (if o = none then A else B) = if (tLn (sT S) l).isSome then B else A) := by
  obtain ⟨l1, l2⟩ := lineAt_ok h.2.2.1 hl.1 hl.2
  cases hL : tLn (sT S) l with
  | none => exact ⟨none, l1 hL, by rw [if_pos rfl]; rfl⟩
  | some F =>
    obtain ⟨a, e, -⟩ := l2 F hL
    exact ⟨some a, e, by rw [if_neg (by simp)]; rfl⟩
theorem stepTold_ok {ow : Nat → Nat × Nat} {x : Nat} {w : kW} {S : AS} (h : Kc ow x w S) {l k a b : Int} (hl : I32 l) (hk : I32 k) (ha : I32 a) (hb : I32 b) : fX11_isStepTold x (iI l) (iI k) (iI a) (iI b) w = some (iB (aTold S l k a b)) := by
  obtain ⟨k0, k1⟩ := id hk
  unfold aTold
  rw [fX11_isStepTold]
  by_cases c0 : k < 0
  · rw [if_pos (by rw [iL_0, iI_lt (by omega) (by omega) (by omega) (by omega)]; exact c0), decide_eq_false (by omega)]; rfl
  rw [if_neg (by rw [iL_0, iI_lt (by omega) (by omega) (by omega) (by omega)]; exact c0)]
  by_cases c3 : 3 < k
  · rw [if_pos (by rw [iL_3, iI_lt (by omega) (by omega) (by omega) (by omega)]; exact c3), decide_eq_false (by omega)]; rfl
  rw [if_neg (by rw [iL_3, iI_lt (by omega) (by omega) (by omega) (by omega)]; exact c3), decide_eq_true (show 0 ≤ k ∧ k ≤ 3 by omega), Bool.true_and, top_t h]
  obtain ⟨o1, e1, f1⟩ := line_is h hl (some (0 : Int32)) ((kgP w 11 (some x) 0).bind fun v5 => (kRc w 8 v5).bind fun b6 => (fX8_lineAt b6 (iI a) w).bind fun v8 => if v8 = none then some (0 : Int32) else (fX11_takesTwo (iI k)).bind fun v10 => if v10 = 0 then some (1 : Int32) else (kgP w 11 (some x) 0).bind fun v11 => (kRc w 8 v11).bind fun b12 => (fX8_lineAt b12 (iI b) w).bind fun v14 => if v14 = none then some (0 : Int32) else some (1 : Int32))
  rw [e1, Option.bind_some, f1]
  cases (tLn (sT S) l).isSome with
  | false => rw [if_neg Bool.false_ne_true, Bool.false_and, Bool.false_and, iB_f]
  | true =>
    rw [if_pos rfl, Bool.true_and, top_t h]
    obtain ⟨o2, e2, f2⟩ := line_is h ha (some (0 : Int32)) ((fX11_takesTwo (iI k)).bind fun v10 => if v10 = 0 then some (1 : Int32) else (kgP w 11 (some x) 0).bind fun v11 => (kRc w 8 v11).bind fun b12 => (fX8_lineAt b12 (iI b) w).bind fun v14 => if v14 = none then some (0 : Int32) else some (1 : Int32))
    rw [e2, Option.bind_some, f2]
    cases (tLn (sT S) a).isSome with
    | false => rw [if_neg Bool.false_ne_true, Bool.false_and, iB_f]
    | true =>
      rw [if_pos rfl, Bool.true_and, takesTwo_ok hk, Option.bind_some]
      cases aTwo k with
      | false => rw [if_pos (show iB false = 0 from rfl)]; rfl
      | true =>
        rw [if_neg (show ¬ iB true = 0 by decide +kernel), top_t h]
        obtain ⟨o3, e3, f3⟩ := line_is h hb (some (0 : Int32)) (some (1 : Int32))
        rw [e3, Option.bind_some, f3]
        cases (tLn (sT S) b).isSome <;> rfl
def tLo (T : TbS) (l : Int) : Fo := (tLn T l).getD (.var 0)
def aStv (S : AS) (l k a b : Int) : Bool := if k = 0 then (fMt (tLo (sT S) a) (tLo (sT S) l) σ0).isSome else if k = 1 then fThen (tLo (sT S) l) (tLo (sT S) a) (tLo (sT S) b) else if k = 2 then fChain (tLo (sT S) l) (tLo (sT S) a) (tLo (sT S) b) else fMean (tLo (sT S) l) (tLo (sT S) a)
theorem told_ex {S : AS} {l k a b : Int} (h : aTold S l k a b = true) : (0 ≤ k ∧ k ≤ 3) ∧ (∃ F, tLn (sT S) l = some F) ∧ (∃ A, tLn (sT S) a = some A) ∧ (aTwo k = true → ∃ B, tLn (sT S) b = some B) := by
  unfold aTold at h
  rw [Bool.and_eq_true, Bool.and_eq_true, Bool.and_eq_true, Bool.or_eq_true] at h
  obtain ⟨⟨⟨h1, h2⟩, h3⟩, h4⟩ := h
  refine ⟨of_decide_eq_true h1, Option.isSome_iff_exists.mp h2, Option.isSome_iff_exists.mp h3, fun h5 => ?_⟩
  rcases h4 with h4 | h4
  · rw [h5] at h4; cases h4
  · exact Option.isSome_iff_exists.mp h4
/-- the checker, by the class's calls -/
theorem allow_ok {ow : Nat → Nat × Nat} {x : Nat} {w : kW} {S : AS} (h : Kc ow x w S) {l k a b : Int} (hl : I32 l) (ha : I32 a) (hb : I32 b) (ht : aTold S l k a b = true) {α : Type} (K : Int32 → kW → Option α) :
    ∃ w', ((kgP w 11 (some x) 8).bind fun v1 => (kgP w 11 (some x) 0).bind fun v2 => (kRc w 8 v2).bind fun b3 => (fX8_lineAt b3 (iI l) w).bind fun v5 => (kgP w 11 (some x) 0).bind fun v6 => (kRc w 8 v6).bind fun b7 => (fX8_lineAt b7 (iI a) w).bind fun v9 => (kgP w 11 (some x) 0).bind fun v10 => (kRc w 8 v10).bind fun b11 => (fX8_lineAt b11 (iI b) w).bind fun v13 => (kRc w 7 v1).bind fun b14 => kb2 (fX7_allow b14 v5 (iI k) v9 v13 w) K) = K (iB (aStv S l k a b)) w' ∧ Kc ow x w' S ∧ Fr ow ow (Cx x) w w' := by
  obtain ⟨⟨k0, k3⟩, ⟨F, hF⟩, ⟨A, hA⟩, hB⟩ := told_ex ht
  have hT := h.2.2.1
  obtain ⟨la, e1, g1⟩ := (lineAt_ok hT hl.1 hl.2).2 F hF
  obtain ⟨aa, e2, g2⟩ := (lineAt_ok hT ha.1 ha.2).2 A hA
  have hsp := h.2.2.2.2.2.2.2.2.2.1
  have eF : tLo (sT S) l = F := by unfold tLo; rw [hF]; rfl
  have eA : tLo (sT S) a = A := by unfold tLo; rw [hA]; rfl
  have ob : ∃ o, fX8_lineAt (x + 1) (iI b) w = some o := by
    cases hM : tLn (sT S) b with
    | none => exact ⟨none, (lineAt_ok hT hb.1 hb.2).1 hM⟩
    | some B =>
      obtain ⟨bb, e3, -⟩ := (lineAt_ok hT hb.1 hb.2).2 B hM
      exact ⟨_, e3⟩
  obtain ⟨o, eo⟩ := ob
  rw [kgP_e h.2.1.1.1, Option.bind_some, h.2.1.2.1.2.2.2.2.2.2.2.1, top_t h, e1, Option.bind_some, top_t h, e2, Option.bind_some, top_t h, eo, Option.bind_some, kRc_e hsp.1, Option.bind_some]
  unfold aStv
  rw [eF, eA]
  have fin0 : Kc ow x w S ∧ Fr ow ow (Cx x) w w := ⟨h, Fr.rf w⟩
  rcases (show k = 0 ∨ k = 1 ∨ k = 2 ∨ k = 3 by omega) with rfl | rfl | rfl | rfl
  · obtain ⟨w', e4, S4, p4⟩ := allow0_ok o hsp g1.1 g2.1
    have e4' : fX7_allow (x + 57) (some la) (iI 0) (some aa) o w = some (iB (fMt A F σ0).isSome, w') := e4
    obtain ⟨k5, f5⟩ := h.sp (S4.wide (fun z hz => Or.inr hz)) (hsp.sq S4 p4)
    rw [e4', kb2_s, if_pos rfl]
    exact ⟨w', rfl, k5, f5⟩
  · obtain ⟨B, hM⟩ := hB rfl
    obtain ⟨bb, e3, g3⟩ := (lineAt_ok hT hb.1 hb.2).2 B hM
    have eB : tLo (sT S) b = B := by unfold tLo; rw [hM]; rfl
    rw [e3] at eo
    cases eo
    have e4' : fX7_allow (x + 57) (some la) (iI 1) (some aa) (some bb) w = some (iB (fThen F A B), w) := allow1_ok hsp g1.1 g2.1 g3.1
    rw [e4', kb2_s, if_neg (by omega), if_pos rfl, eB]
    exact ⟨w, rfl, fin0⟩
  · obtain ⟨B, hM⟩ := hB rfl
    obtain ⟨bb, e3, g3⟩ := (lineAt_ok hT hb.1 hb.2).2 B hM
    have eB : tLo (sT S) b = B := by unfold tLo; rw [hM]; rfl
    rw [e3] at eo
    cases eo
    have e4' : fX7_allow (x + 57) (some la) (iI 2) (some aa) (some bb) w = some (iB (fChain F A B), w) := allow2_ok hsp g1.1 g2.1 g3.1
    rw [e4', kb2_s, if_neg (by omega), if_neg (by omega), if_pos rfl, eB]
    exact ⟨w, rfl, fin0⟩
  · have e4' : fX7_allow (x + 57) (some la) (iI 3) (some aa) o w = some (iB (fMean F A), w) := allow3_ok o hsp g1.1 g2.1
    rw [e4', kb2_s, if_neg (by omega), if_neg (by omega), if_neg (by omega)]
    exact ⟨w, rfl, fin0⟩
def aCheck (S : AS) (l k a b : Int) : Int := if aTold S l k a b then bI (aStv S l k a b) else -1
theorem kc_check {ow : Nat → Nat × Nat} {x : Nat} {w : kW} {S : AS} (h : Kc ow x w S) {l k a b : Int} (hl : I32 l) (hk : I32 k) (ha : I32 a) (hb : I32 b) : Kd ow x w (fX11_check x (iI l) (iI k) (iI a) (iI b) w) (aCheck S l k a b) S := by
  unfold aCheck
  rw [fX11_check, kRc_e h.2.1.1.1, Option.bind_some, stepTold_ok h hl hk ha hb, Option.bind_some]
  cases ht : aTold S l k a b with
  | false =>
    rw [if_pos (show iB false = 0 from rfl), if_neg Bool.false_ne_true]
    exact Kd.rf h (by rw [iN_1])
  | true =>
    obtain ⟨w', e, k1, f1⟩ := allow_ok h hl ha hb ht (fun v20 w18 => if v20 = 0 then some ((0 : Int32), w18) else some ((1 : Int32), w18))
    rw [if_neg (show ¬ iB true = 0 by decide +kernel), if_pos rfl, e, if_iB]
    exact ⟨w', ow, rfl, k1, f1⟩
def aHw (S : AS) (l : Int) : Nat := tH (sT S) l.toNat
def aStep (S : AS) (l k a b : Int) : Int × AS := if aTold S l k a b then (if aHw S l ≠ 0 ∨ aHw S a = 0 ∨ (aTwo k = true ∧ aHw S b = 0) then (-3, S) else if aStv S l k a b then (1, (tKnow (sT S) l.toNat 2 (k, a, if aTwo k then b else -4), sI S, sH S)) else (-3, S)) else (-1, S)
theorem kc_how {ow : Nat → Nat × Nat} {x : Nat} {w : kW} {S : AS} (h : Kc ow x w S) {l : Int} {F : Fo} (hL : tLn (sT S) l = some F) : fX8_howIs (x + 1) (iI l) w = some (iI (aHw S l)) ∧ aHw S l ≤ 2 := by
  obtain ⟨b0, b1, b2⟩ := tLn_lt hL
  have f5 := howIs_in h.2.2.1 b1
  rw [show ((l.toNat : Nat) : Int) = l by omega] at f5
  exact ⟨f5, h.2.2.1.1.2.2.2.2.1 _⟩
/-- a line becomes shown -/
theorem shown_ok {ow : Nat → Nat × Nat} {x : Nat} {w : kW} {S : AS} (h : Kc ow x w S) {l : Int} {F : Fo} (hL : tLn (sT S) l = some F) (h0 : aHw S l = 0) (k a b : Int) :
    ∃ w1 w2, fX8_makeKnown (x + 1) (iI l) (2 : Int32) w = some w1 ∧ fX8_noteSource (x + 1) (iI l) (iI k) (iI a) (iI b) w1 = some w2 ∧ Kc ow x w2 (tKnow (sT S) l.toNat 2 (k, a, b), sI S, sH S) ∧ Fr ow ow (Cx x) w w2 ∧ Sm ow (fun z => z = x + 1) w w1 ∧ Sm ow (fun z => z = x + 1) w1 w2 := by
  obtain ⟨b0, b1, b2⟩ := tLn_lt hL
  have el : ((l.toNat : Nat) : Int) = l := by omega
  have n40 := h.2.2.1.1.1
  obtain ⟨w1, q, e1, T1, m1⟩ := makeKnown_ok h.2.2.1 (by omega) b1 h0 (Or.inr rfl)
  obtain ⟨w2, e2, T2, m2⟩ := noteSource_ok T1 (by omega) (n := l.toNat) (by omega) k a b
  rw [el] at e1 e2
  have eT : tMk (tL (tMk (tL (sT S)) (fu (tH (sT S)) l.toNat 2) (tK (sT S) ++ [l.toNat]) (fu (tF (sT S)) l.toNat q) (tP (sT S)))) (tH (tMk (tL (sT S)) (fu (tH (sT S)) l.toNat 2) (tK (sT S) ++ [l.toNat]) (fu (tF (sT S)) l.toNat q) (tP (sT S)))) (tK (tMk (tL (sT S)) (fu (tH (sT S)) l.toNat 2) (tK (sT S) ++ [l.toNat]) (fu (tF (sT S)) l.toNat q) (tP (sT S)))) (fu (tF (tMk (tL (sT S)) (fu (tH (sT S)) l.toNat 2) (tK (sT S) ++ [l.toNat]) (fu (tF (sT S)) l.toNat q) (tP (sT S)))) l.toNat (k, a, b)) (tP (tMk (tL (sT S)) (fu (tH (sT S)) l.toNat 2) (tK (sT S) ++ [l.toNat]) (fu (tF (sT S)) l.toNat q) (tP (sT S)))) = tKnow (sT S) l.toNat 2 (k, a, b) := by
    show tMk (tL (sT S)) (fu (tH (sT S)) l.toNat 2) (tK (sT S) ++ [l.toNat]) (fu (fu (tF (sT S)) l.toNat q) l.toNat (k, a, b)) (tP (sT S)) = _
    have ef : fu (fu (tF (sT S)) l.toNat q) l.toNat (k, a, b) = fu (tF (sT S)) l.toNat (k, a, b) := by
      funext i
      by_cases c : i = l.toNat
      · rw [c, fu_s, fu_s]
      · rw [fu_o _ _ c, fu_o _ _ c, fu_o _ _ c]
    rw [ef]
    rfl
  rw [eT] at T2
  obtain ⟨k3, f3⟩ := h.tb (m1.q.tr m2.q) T2
  exact ⟨w1, w2, e1, e2, k3, f3, m1, m2⟩
theorem kc_step {ow : Nat → Nat × Nat} {x : Nat} {w : kW} {S : AS} (h : Kc ow x w S) {l k a b : Int} (hl : I32 l) (hk : I32 k) (ha : I32 a) (hb : I32 b) : Kd ow x w (fX11_step x (iI l) (iI k) (iI a) (iI b) w) (aStep S l k a b).1 (aStep S l k a b).2 := by
  unfold aStep
  rw [fX11_step, kRc_e h.2.1.1.1, Option.bind_some, stepTold_ok h hl hk ha hb, Option.bind_some]
  cases ht : aTold S l k a b with
  | false =>
    rw [if_pos (show iB false = 0 from rfl), if_neg Bool.false_ne_true]
    exact Kd.rf h (by rw [iN_1])
  | true =>
    obtain ⟨⟨k0, k3⟩, ⟨F, hF⟩, ⟨A, hA⟩, hB⟩ := told_ex ht
    obtain ⟨y1, z1⟩ := kc_how h hF
    obtain ⟨y2, z2⟩ := kc_how h hA
    rw [if_neg (show ¬ iB true = 0 by decide +kernel), if_pos rfl, takesTwo_ok hk, Option.bind_some, top_t h, y1, Option.bind_some]
    by_cases c1 : aHw S l = 0
    · rw [if_pos (by rw [c1]; rfl), top_t h, y2, Option.bind_some]
      by_cases c2 : aHw S a = 0
      · rw [if_pos (by rw [c2]; rfl), if_pos (Or.inr (Or.inl c2))]
        exact Kd.rf h (by rw [iN_3])
      · rw [if_neg (by rw [iL_0, iI_eq (by omega) (by omega) (by omega) (by omega)]; omega)]
        -- the step itself
        have J : (¬ (aHw S l ≠ 0 ∨ aHw S a = 0 ∨ (aTwo k = true ∧ aHw S b = 0))) → Kd ow x w (fX11_step_J62 x (iI l) (iI k) (iI a) (iI b) (iB (aTwo k)) w) (if aStv S l k a b then ((1 : Int), ((tKnow (sT S) l.toNat 2 (k, a, if aTwo k then b else -4), sI S, sH S) : AS)) else (-3, S)).1 (if aStv S l k a b then ((1 : Int), ((tKnow (sT S) l.toNat 2 (k, a, if aTwo k then b else -4), sI S, sH S) : AS)) else (-3, S)).2 := by
          intro _
          obtain ⟨w1, e, k1, f1⟩ := allow_ok h hl ha hb ht (fun v17 w15 => if v17 = 0 then some ((-3 : Int32), w15) else (kgP w15 11 (some x) 0).bind fun v18 => (kRc w15 8 v18).bind fun b19 => (fX8_makeKnown b19 (iI l) (2 : Int32) w15).bind fun w20 => (kgP w20 11 (some x) 0).bind fun v22 => if iB (aTwo k) = 0 then (kRc w20 8 v22).bind fun b23 => (fX8_noteSource b23 (iI l) (iI k) (iI a) (-4 : Int32) w20).bind fun w24 => some ((1 : Int32), w24) else (kRc w20 8 v22).bind fun b26 => (fX8_noteSource b26 (iI l) (iI k) (iI a) (iI b) w20).bind fun w27 => some ((1 : Int32), w27))
          rw [fX11_step_J62, e]
          cases aStv S l k a b with
          | false =>
            rw [if_pos (show iB false = 0 from rfl), if_neg Bool.false_ne_true]
            exact ⟨w1, ow, by rw [iN_3], k1, f1⟩
          | true =>
            obtain ⟨w2, w3, e2, e3, k2, f2, m2, -⟩ := shown_ok k1 hF c1 k a (if aTwo k then b else -4)
            have hk2 : kKd w2 x = 11 := by rw [m2.1]; exact k1.2.1.1.1
            have hp2 : kP w2 x 0 = some (x + 1) := by rw [m2.2.2.2.1]; exact k1.2.1.2.1.1
            have ht2 : kKd w2 (x + 1) = 8 := by rw [m2.1]; exact k1.2.2.1.2.1.1
            rw [if_neg (show ¬ iB true = 0 by decide +kernel), if_pos rfl, top_t k1, e2, Option.bind_some, kgP_e hk2, Option.bind_some, hp2]
            refine ⟨w3, ow, ?_, k2, f1.cc f2⟩
            cases h2 : aTwo k with
            | false =>
              rw [h2] at e3
              have e3' : fX8_noteSource (x + 1) (iI l) (iI k) (iI a) (-4 : Int32) w2 = some w3 := by rw [iN_4]; exact e3
              rw [if_pos (show iB false = 0 from rfl), kRc_e ht2, Option.bind_some, e3', Option.bind_some, iL_1]
            | true =>
              rw [h2] at e3
              have e3' : fX8_noteSource (x + 1) (iI l) (iI k) (iI a) (iI b) w2 = some w3 := e3
              rw [if_neg (show ¬ iB true = 0 by decide +kernel), kRc_e ht2, Option.bind_some, e3', Option.bind_some, iL_1]
        cases h2 : aTwo k with
        | false =>
          have cn : ¬ (aHw S l ≠ 0 ∨ aHw S a = 0 ∨ (aTwo k = true ∧ aHw S b = 0)) := by
            rintro (z | z | z)
            · exact z c1
            · exact c2 z
            · rw [h2] at z; cases z.1
          have j := J cn
          rw [h2] at cn j
          rw [if_pos (show iB false = 0 from rfl), if_neg cn]
          exact j
        | true =>
          obtain ⟨B, hM⟩ := hB h2
          obtain ⟨y3, z3⟩ := kc_how h hM
          rw [if_neg (show ¬ iB true = 0 by decide +kernel), top_t h, y3, Option.bind_some]
          by_cases c3 : aHw S b = 0
          · rw [if_pos (by rw [c3]; rfl), if_pos (Or.inr (Or.inr ⟨rfl, c3⟩))]
            exact Kd.rf h (by rw [iN_3])
          · have cn : ¬ (aHw S l ≠ 0 ∨ aHw S a = 0 ∨ (aTwo k = true ∧ aHw S b = 0)) := by
              rintro (z | z | z)
              · exact z c1
              · exact c2 z
              · exact c3 z.2
            have j := J cn
            rw [h2] at cn j
            rw [if_neg (by rw [iL_0, iI_eq (by omega) (by omega) (by omega) (by omega)]; omega), if_neg cn]
            exact j
    · rw [if_neg (by rw [iL_0, iI_eq (by omega) (by omega) (by omega) (by omega)]; omega), if_pos (Or.inl c1)]
      exact Kd.rf h (by rw [iN_3])
def aFrom (S : AS) (l q : Int) : Int := match tLn (sT S) l with
  | none => -1
  | some _ => if 0 ≤ q ∧ q ≤ 2 then (if aHw S l = 2 then (if q = 0 then (tF (sT S) l.toNat).1 else if q = 1 then (tF (sT S) l.toNat).2.1 else (tF (sT S) l.toNat).2.2) else -3) else -1
theorem kc_from {ow : Nat → Nat × Nat} {x : Nat} {w : kW} {S : AS} (h : Kc ow x w S) {l q : Int} (hl : I32 l) (hq : I32 q) : fX11_from x (iI l) (iI q) w = some (iI (aFrom S l q)) := by
  obtain ⟨l1, l2⟩ := lineAt_ok h.2.2.1 hl.1 hl.2
  obtain ⟨q0, q1⟩ := hq
  unfold aFrom
  rw [fX11_from, top_t h]
  cases hL : tLn (sT S) l with
  | none => rw [l1 hL, Option.bind_some, if_pos rfl, iN_1]
  | some F =>
    obtain ⟨a, e, g⟩ := l2 F hL
    obtain ⟨b0, b1, b2⟩ := tLn_lt hL
    obtain ⟨y1, z1⟩ := kc_how h hL
    have el : ((l.toNat : Nat) : Int) = l := by omega
    rw [e, Option.bind_some, if_neg (by simp)]
    show _ = some (iI (if 0 ≤ q ∧ q ≤ 2 then (if aHw S l = 2 then (if q = 0 then (tF (sT S) l.toNat).1 else if q = 1 then (tF (sT S) l.toNat).2.1 else (tF (sT S) l.toNat).2.2) else -3) else -1))
    by_cases c0 : q < 0
    · rw [if_pos (by rw [iL_0, iI_lt (by omega) (by omega) (by omega) (by omega)]; exact c0), if_neg (by omega), iN_1]
    rw [if_neg (by rw [iL_0, iI_lt (by omega) (by omega) (by omega) (by omega)]; exact c0)]
    by_cases c2 : q ≤ 2
    · rw [if_pos (by rw [iL_2, iI_le (by omega) (by omega) (by omega) (by omega)]; exact c2), if_pos (show 0 ≤ q ∧ q ≤ 2 by omega), top_t h, y1, Option.bind_some]
      by_cases c3 : aHw S l = 2
      · have s := sourceOf_ok h.2.2.1 b1 c3 (show 0 ≤ q by omega) c2
        rw [el] at s
        rw [if_pos (by rw [c3]; rfl), if_pos c3, top_t h, s, Option.bind_some]
      · rw [if_neg (by rw [iL_2, iI_eq (by omega) (by omega) (by omega) (by omega)]; omega), if_neg c3, iN_3]
    · rw [if_neg (by rw [iL_2, iI_le (by omega) (by omega) (by omega) (by omega)]; exact c2), if_neg (by omega), iN_1]
def aHeight (S : AS) (l : Int) : Int := match tLn (sT S) l with
  | none => -1
  | some _ => hgt (tN (sT S)) (tLd (sT S)) (gGv (sT S)) l.toNat
theorem kc_height {ow : Nat → Nat × Nat} {x : Nat} {w : kW} {S : AS} (h : Kc ow x w S) {l : Int} (hl : I32 l) : Kd ow x w (fX11_height x (iI l) w) (aHeight S l) S := by
  obtain ⟨l1, l2⟩ := lineAt_ok h.2.2.1 hl.1 hl.2
  unfold aHeight
  rw [fX11_height, top_t h]
  cases hL : tLn (sT S) l with
  | none => exact Kd.rf h (by rw [l1 hL, Option.bind_some, if_pos rfl, iN_1])
  | some F =>
    obtain ⟨a, e, g⟩ := l2 F hL
    obtain ⟨b0, b1, b2⟩ := tLn_lt hL
    have el : ((l.toNat : Nat) : Int) = l := by omega
    have hsp := h.2.2.2.2.2.2.2.2.2.1
    have hh : HtW ow x w (x + 57) (x + 58) (x + 1) (sT S) (fun i => (kI w (Lp w (x + 57) 1) i).toInt) := ⟨hsp, h.2.2.1, ⟨by omega, by omega, by omega, by omega⟩, fun i _ => (Int32.ofInt_toInt _).symm⟩
    obtain ⟨w', h', e2, h2, S2⟩ := heightOf_ok hh b1
    rw [el] at e2
    obtain ⟨k3, f3⟩ := h.sp S2 h2.1
    rw [e, Option.bind_some, if_neg (by simp), kgP_e h.2.1.1.1, Option.bind_some, h.2.1.2.1.2.2.2.2.2.2.2.1, kgP_e h.2.1.1.1, Option.bind_some, h.2.1.2.1.1, kRc_e hsp.1, Option.bind_some, e2, kb2_s]
    exact ⟨w', ow, rfl, k3, f3⟩
def nvr (T : TbS) : Nat → Nat → Int64 → Int64
  | _, 0, c => c
  | i, m + 1, c => nvr T (i + 1) m (if tH T i = 0 ∧ fTr (tLd T i) = false then c ||| ((1 : Int64) <<< ((iI i).toInt64 &&& 63)) else c)
theorem kc_never {ow : Nat → Nat × Nat} {x : Nat} {w : kW} {S : AS} (h : Kc ow x w S) : fX11_never x w = some (nvr (sT S) 0 (tN (sT S)) 0) := by
  have hT := h.2.2.1
  have n40 : tN (sT S) ≤ 40 := hT.1.1
  have hk := h.2.1.1.1
  have loop : ∀ (m fu i : Nat) (c : Int64), m < fu → i + m = tN (sT S) → fX11_never_L4 x w fu (fun y _ => some y) c (iI i) = some (nvr (sT S) i m c) := by
    intro m
    induction m with
    | zero =>
      intro fu i c hf hi
      obtain ⟨fu, rfl⟩ : ∃ z, fu = z + 1 := ⟨fu - 1, by omega⟩
      have eN : (tL (sT S)).length = tN (sT S) := rfl
      rw [fX11_never_L4, kgP_e hk, Option.bind_some, h.2.1.2.1.1, kgI_e hT.2.1.1, Option.bind_some, hT.2.2.1.1, if_pos (by rw [iI_le (by omega) (by omega) (by omega) (by omega)]; omega)]
      rfl
    | succ m ih =>
      intro fu i c hf hi
      obtain ⟨fu, rfl⟩ : ∃ z, fu = z + 1 := ⟨fu - 1, by omega⟩
      have eN : (tL (sT S)).length = tN (sT S) := rfl
      have hlt : i < (tL (sT S)).length := by omega
      obtain ⟨a, e, g⟩ := lineAt_in hT (tLd_get hlt)
      have h2 := hT.1.2.2.2.2.1 i
      have ei : iI (i : Int) + (1 : Int32) = iI ((i + 1 : Nat) : Int) := by rw [iL_1, iI_add]; rfl
      have eR : nvr (sT S) i (m + 1) c = nvr (sT S) (i + 1) m (if tH (sT S) i = 0 ∧ fTr (tLd (sT S) i) = false then c ||| ((1 : Int64) <<< ((iI i).toInt64 &&& 63)) else c) := rfl
      rw [fX11_never_L4, kgP_e hk, Option.bind_some, h.2.1.2.1.1, kgI_e hT.2.1.1, Option.bind_some, hT.2.2.1.1, if_neg (by rw [iI_le (by omega) (by omega) (by omega) (by omega)]; omega), Option.bind_some, kRc_e hT.2.1.1, Option.bind_some, e, Option.bind_some, if_neg (by simp), Option.bind_some, kRc_e hT.2.1.1, Option.bind_some, howIs_in hT hlt, Option.bind_some, ei, eR]
      by_cases c1 : tH (sT S) i = 0
      · rw [if_pos (by rw [c1]; rfl), kRc_e g.1.2.1.1.1, Option.bind_some, isTrue_ok g, Option.bind_some]
        cases ht : fTr (tLd (sT S) i) with
        | true =>
          rw [if_neg (show ¬ iB true = 0 by decide +kernel), if_neg (fun z => by cases z.2)]
          exact ih fu (i + 1) c (by omega) (by omega)
        | false =>
          rw [if_pos (show iB false = 0 from rfl), if_pos ⟨c1, rfl⟩]
          exact ih fu (i + 1) _ (by omega) (by omega)
      · rw [if_neg (by rw [iL_0, iI_eq (by omega) (by omega) (by omega) (by omega)]; omega), if_neg (fun z => c1 z.1)]
        exact ih fu (i + 1) c (by omega) (by omega)
  have e0 : (0 : Int32) = iI ((0 : Nat) : Int) := by decide +kernel
  rw [fX11_never, e0]
  exact loop (tN (sT S)) kFU 0 0 (by unfold kFU; omega) (by omega)
