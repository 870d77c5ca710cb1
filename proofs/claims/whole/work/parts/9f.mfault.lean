/-! .. faults, new lines -/
def RdF (j : Nat) : Prop := j = 12 ∨ j = 13 ∨ j = 14
def NoA (_n _i : Nat) : Prop := False
theorem faultIn_ok {w : rW} {d : Nat} {l : List Int} (d8 : d < 8) (hm : MSh w d (some (.inr (0, l)))) : ∃ w', fX12_faultIn (iI d) w = some (iI (match pF l with | some j => (j : Int) | none => -4), w') ∧ Rq NoA RdF w w' ∧ rF w' 13 = iI (120 * d : Nat) ∧ rF w' 14 = iI l.length := by
  obtain ⟨m1, m2, m3, m4, m5, m6, m7⟩ := hm
  have m4' : l.length ≤ 120 := m4
  obtain ⟨w3, ew3⟩ : ∃ w3, w3 = rSF (rSF w 13 (iI (120 * d : Nat))) 14 (iI l.length) := ⟨_, rfl⟩
  have x14 : rF w3 14 = iI l.length := by rw [ew3]; exact rF_SF_s
  have x13 : rF w3 13 = iI (120 * d : Nat) := by rw [ew3, rF_SF_o (by omega)]; exact rF_SF_s
  have xA : rA w3 = rA w := by rw [ew3]; rfl
  have hx : Rx w3 d l := ⟨d8, m4, x13, x14, fun j c hc => by rw [xA]; exact m6 j c hc, fun c hc => (m7 c hc).1 rfl⟩
  have rq : ∀ j : Nat, Rq NoA RdF w (Wk w3 j) := fun j => by
    rw [ew3]
    exact Rq.tr (Rq.tr (Rq.sf (Or.inr (Or.inl rfl))) (Rq.sf (Or.inr (Or.inr rfl)))) (Rq.sf (Or.inl rfl))
  have y14 : ∀ j : Nat, rF (Wk w3 j) 14 = iI l.length := fun j => (rF_SF_o (by omega)).trans x14
  have y13 : ∀ j : Nat, rF (Wk w3 j) 13 = iI (120 * d : Nat) := fun j => (rF_SF_o (by omega)).trans x13
  have y12 : ∀ j : Nat, rF (Wk w3 j) 12 = iI j := fun j => rF_SF_s
  obtain ⟨r1, r2⟩ := rd_ok hx 13 kDP 0 l (by omega) (by omega) (by unfold kDP; omega) rfl (by omega) (by omega)
  have st : fX12_faultIn (iI d) w = kb2 (fX12_readsLine kDP (iI (13 - 13 : Nat)) (Wk w3 0)) fun v7 w5 =>
                  if v7 = 0 then
                  some (rF w5 12, w5)
                  else
                  if (rF w5 12) = (rF w5 14) then
                  some ((-4 : Int32), w5)
                  else
                  some (rF w5 12, w5) := by
    have e6 : raI (rSF w 13 (iI (120 * d : Nat))) 6 8 (iI d) = some (iI l.length) := by
      rw [raN (by omega) (by omega)]
      exact congrArg some m3
    rw [fX12_faultIn, show (120 : Int32) = iI 120 by decide +kernel, iI_mul, show (120 : Int) * (d : Int) = ((120 * d : Nat) : Int) by omega, rpN, Option.bind_some, e6, Option.bind_some, rpN, Option.bind_some, ← ew3, rpN, Option.bind_some]
    rfl
  rw [st]
  unfold pF
  cases hp : pL 13 l 0 with
  | inl j =>
    rw [r1 j hp, kb2_s, if_pos rfl, y12]
    exact ⟨Wk w3 j, rfl, rq j, y13 j, y14 j⟩
  | inr q =>
    obtain ⟨f, r, j⟩ := q
    obtain ⟨q1, q2, q3, q4⟩ := r2 f r j hp
    rw [q1, kb2_s, if_neg (show ¬ (1 : Int32) = 0 by decide), y12, y14]
    show ∃ w', _ = some (iI (match (if r = [] then none else some j) with | some j => (j : Int) | none => -4), w') ∧ _
    by_cases c : r = []
    · have : l.length ≤ j := List.drop_eq_nil_iff.mp (by rw [← q2]; exact c)
      rw [if_pos c, if_pos (by rw [show j = l.length by omega])]
      exact ⟨Wk w3 j, by rw [iN_4], rq j, y13 j, y14 j⟩
    · have : j ≠ l.length := fun z => c (by rw [q2, z, List.drop_length])
      rw [if_neg c, if_neg (by rw [iI_eq (by omega) (by omega) (by omega) (by omega)]; omega)]
      exact ⟨Wk w3 j, rfl, rq j, y13 j, y14 j⟩
theorem RdF.sc {w w' : rW} (h : Rq NoA RdF w w') : Rq ScA ScF w w' := h.wide (fun n i z => z.elim) (fun j z => by unfold ScF; rcases z with z | z | z <;> omega)
theorem m_fault {w : rW} {S : AS} (h : MI w S) {d : Int} (hd : I32 d) : Md (fX12_fault (iI d) w) (aFault S d) S := by
  obtain ⟨k1, k2⟩ := mWrongRow h hd
  unfold aFault
  rw [fX12_fault]
  cases hs : shAt S d with
  | none =>
    rw [k1 hs, Option.bind_some, if_neg (by decide +kernel)]
    exact ⟨w, rfl, h⟩
  | some s =>
    obtain ⟨e, -, hm⟩ := k2 s hs
    obtain ⟨d8, de, ds⟩ := shAt_s hs
    have bb := bRef_bd s
    rw [e, Option.bind_some]
    show Md _ (if bRef s = 0 then (match pF (rowL s) with | some j => (j : Int) | none => -4) else bRef s) S
    by_cases c : bRef s = 0
    · obtain ⟨l, rfl⟩ := bRef_0 c
      obtain ⟨w', e', r, -⟩ := faultIn_ok d8 hm
      rw [de] at e'
      rw [if_pos (by rw [c]; rfl), if_pos c, e', kb2_s]
      exact ⟨w', rfl, h.rq (RdF.sc r)⟩
    · rw [if_neg (by rw [iL_0, iI_eq (by omega) (by omega) (by omega) (by omega)]; exact c), if_neg c]
      exact ⟨w, rfl, h⟩
theorem lineL_ok {l d n : Nat} (hl : l < 40) (hd : d < 8) (hn : n ≤ 60) (x1 x2 x3 : Int32) (K : rW → Option (Int32 × rW)) : ∀ (m fu i : Nat) (w : rW), m < fu → i + m = n → rF w 13 = iI (120 * d : Nat) → rF w 14 = iI n → ∃ w', fX12_line_L64 x1 x2 x3 (iI l) fu (fun _ q => K q) (iI i) w = K w' ∧ Rq (InA (60 * l + i) (60 * l + n)) NoF w w' ∧ ∀ j, i ≤ j → j < n → rA w' 0 (60 * l + j) = rA w 7 (120 * d + j) := by
  intro m
  induction m with
  | zero =>
    intro fu i w hf hi h13 h14
    obtain ⟨fu, rfl⟩ : ∃ z, fu = z + 1 := ⟨fu - 1, by omega⟩
    exact ⟨w, by rw [fX12_line_L64, h14, if_pos (by rw [iI_le (by omega) (by omega) (by omega) (by omega)]; omega)], Rq.rf w, fun j h1 h2 => by omega⟩
  | succ m ih =>
    intro fu i w hf hi h13 h14
    obtain ⟨fu, rfl⟩ : ∃ z, fu = z + 1 := ⟨fu - 1, by omega⟩
    obtain ⟨w', e, r, g⟩ := ih fu (i + 1) (rSA w 0 (60 * l + i) (rA w 7 (120 * d + i))) (by omega) (by omega) h13 h14
    refine ⟨w', ?_, Rq.tr (Rq.sa ⟨rfl, Nat.le_refl _, by omega⟩) (r.wide (fun n i z => ⟨z.1, by have := z.2.1; omega, z.2.2⟩) (fun _ z => z)), fun j h1 h2 => ?_⟩
    · rw [fX12_line_L64, h14, h13, if_neg (by rw [iI_le (by omega) (by omega) (by omega) (by omega)]; omega), textOf_ok, Option.bind_some, iI_add, iI_add, show ((120 * d : Nat) : Int) + (i : Int) = ((120 * d + i : Nat) : Int) by omega, show ((60 * l : Nat) : Int) + (i : Int) = ((60 * l + i : Nat) : Int) by omega, raN (by omega) (by omega), Option.bind_some, rsN (by omega) (by omega), Option.bind_some, iL_1, iI_add, show (i : Int) + 1 = ((i + 1 : Nat) : Int) by omega]
      exact e
    · by_cases c : j = i
      · rw [c, r.1 0 _ (fun z => by have := z.2.1; omega), rA_SA_s]
      · rw [g j (by omega) h2, rA_SA_o (by omega)]
theorem TbW.add {T : TbS} (h : TbW T) {F : Fo} (hF : fOk F) (h60 : (fTxt F).length ≤ 60) (h40 : (tL T).length < 40) : TbW (tAdd T F) := by
  obtain ⟨a1, a2, a3, a4, a5, a6, a7⟩ := h
  refine ⟨?_, fun f hf => ?_, a3, fun k => ?_, fun k => ?_, a6, a7⟩
  · show (tL T ++ [F]).length ≤ 40
    rw [List.length_append, List.length_singleton]
    omega
  · have hf' : f ∈ tL T ++ [F] := hf
    rcases List.mem_append.mp hf' with z | z
    · exact a2 f z
    · rw [List.mem_singleton.mp z]; exact ⟨hF, h60⟩
  · show k ∈ tK T ↔ k < (tL T ++ [F]).length ∧ fu (tH T) (tL T).length 0 k ≠ 0
    rw [List.length_append, List.length_singleton, a4 k]
    by_cases e : k = (tL T).length
    · rw [e, fu_s]
      exact ⟨fun z => absurd z.1 (Nat.lt_irrefl _), fun z => absurd rfl z.2⟩
    · rw [fu_o _ _ e]
      exact ⟨fun z => ⟨by omega, z.2⟩, fun z => ⟨by omega, z.2⟩⟩
  · show fu (tH T) (tL T).length 0 k ≤ 2
    by_cases e : k = (tL T).length
    · rw [e, fu_s]; omega
    · rw [fu_o _ _ e]; exact a5 k
/-- a new line -/
theorem mAddLine_ok {w w2 : rW} {S : AS} (h : MI w S) {F : Fo} (hF : fOk F) (h60 : tln F ≤ 60) (h40 : (tL (sT S)).length < 40) (hR : Rq (InA (60 * (tL (sT S)).length) (60 * (tL (sT S)).length + tln F)) NoF w w2) (hy : Ly (rA w2 0) (60 * (tL (sT S)).length) (fTxt F)) : MI (rSA (rSA (rSA w2 2 (3 + (tL (sT S)).length) (iI (tln F))) 2 (43 + (tL (sT S)).length) (iI (0 : Nat))) 2 0 (iI ((tL (sT S)).length + 1 : Nat))) (tAdd (sT S) F, sI S, sH S) := by
  obtain ⟨⟨hW, ⟨n0, n1, n2⟩, h1, h2, h3, h4, h5⟩, ⟨hI1, hI2⟩, hS, hz⟩ := h
  obtain ⟨N, eN⟩ : ∃ N, N = (tL (sT S)).length := ⟨_, rfl⟩
  rw [← eN] at h40 hR hy n0 ⊢
  obtain ⟨w5, ew⟩ : ∃ w5, w5 = rSA (rSA (rSA w2 2 (3 + N) (iI (tln F))) 2 (43 + N) (iI (0 : Nat))) 2 0 (iI (N + 1 : Nat)) := ⟨_, rfl⟩
  rw [← ew]
  have oo : ∀ m, m ≠ 2 → rA w5 m = rA w2 m := fun m hm => by rw [ew, rA_SA_o hm, rA_SA_o hm, rA_SA_o hm]
  have o2 : ∀ i, i ≠ 0 → i ≠ 3 + N → i ≠ 43 + N → rA w5 2 i = rA w 2 i := fun i a b c => by
    rw [ew, rA_SA_j a, rA_SA_j c, rA_SA_j b]
    exact hR.1 2 i (fun z => by have := z.1; omega)
  have on : ∀ m, m ≠ 2 → m ≠ 0 → rA w5 m = rA w m := fun m a b => by
    rw [oo m a]
    funext i
    exact hR.1 m i (fun z => b z.1)
  have o0 : ∀ i, i < 60 * N → rA w5 0 i = rA w 0 i := fun i hi => by
    rw [oo 0 (by omega)]
    exact hR.1 0 i (fun z => by have := z.2.1; omega)
  have of' : ∀ j, rF w5 j = rF w j := fun j => by
    rw [ew]
    exact hR.2 j (fun z => z)
  have kl := hW.kl
  have p6 := hW.2.2.2.2.2.1
  refine ⟨⟨hW.add hF h60 (by omega), ⟨?_, ?_, ?_⟩, fun l G e => ?_, fun l e => ?_, fun l e e2 => ?_, fun i k e => ?_, fun p u e => ?_⟩, ⟨?_, fun T e => ?_⟩, fun d hd => ?_, by rw [of']; exact hz⟩
  · show rA w5 2 0 = iI (tL (sT S) ++ [F]).length
    rw [ew, rA_SA_s, List.length_append, List.length_singleton, ← eN]
  · rw [o2 1 (by omega) (by omega) (by omega)]; exact n1
  · rw [o2 2 (by omega) (by omega) (by omega)]; exact n2
  · have e' : (tL (sT S) ++ [F])[l]? = some G := e
    by_cases c : l < N
    · rw [List.getElem?_append_left (by omega)] at e'
      obtain ⟨a, b⟩ := h1 l G e'
      have g60 := (hW.2.1 G (List.mem_of_getElem? e')).2
      refine ⟨fun j c' hc => ?_, by rw [o2 _ (by omega) (by omega) (by omega)]; exact b⟩
      have hj := (List.getElem?_eq_some_iff.mp hc).1
      rw [o0 _ (by omega)]
      exact a j c' hc
    · have hl := (List.getElem?_eq_some_iff.mp e').1
      rw [List.length_append, List.length_singleton] at hl
      have el : l = N := by omega
      rw [el, eN, List.getElem?_append_right (Nat.le_refl _), Nat.sub_self] at e'
      cases e'
      rw [el, oo 0 (by omega)]
      exact ⟨hy, by rw [ew, rA_SA_j (by omega), rA_SA_j (by omega), rA_SA_s]⟩
  · have e' : l < (tL (sT S) ++ [F]).length := e
    rw [List.length_append, List.length_singleton] at e'
    show rA w5 2 (43 + l) = iI ((fu (tH (sT S)) (tL (sT S)).length 0 l : Nat) : Int)
    rw [← eN]
    by_cases c : l = N
    · rw [c, fu_s, ew, rA_SA_j (by omega), rA_SA_s]
    · rw [fu_o _ _ c, o2 _ (by omega) (by omega) (by omega)]
      exact h2 l (by omega)
  · have e' : l < (tL (sT S) ++ [F]).length := e
    have e2' : fu (tH (sT S)) (tL (sT S)).length 0 l = 2 := e2
    rw [List.length_append, List.length_singleton] at e'
    rw [← eN] at e2'
    have c : l ≠ N := fun c => by rw [c, fu_s] at e2'; omega
    rw [fu_o _ _ c] at e2'
    rw [o2 _ (by omega) (by omega) (by omega), o2 _ (by omega) (by omega) (by omega), o2 _ (by omega) (by omega) (by omega)]
    exact h3 l (by omega) e2'
  · have hi : i < (tK (sT S)).length := (List.getElem?_eq_some_iff.mp e).1
    rw [o2 _ (by omega) (by omega) (by omega)]
    exact h4 i k e
  · obtain ⟨a, b⟩ := h5 p u e
    have hlt : p < (tP (sT S)).length := (List.getElem?_eq_some_iff.mp e).1
    rw [o2 _ (by omega) (by omega) (by omega)]
    refine ⟨a, fun i c hc => ?_⟩
    rw [o2 _ (by omega) (by omega) (by omega)]
    exact b i c hc
  · rw [of']; exact hI1
  · rw [on 1 (by omega) (by omega), on 3 (by omega) (by omega)]; exact hI2 T e
  · have := hS d hd
    show MSh w5 d (sH S d)
    unfold MSh at this ⊢
    rw [on 4 (by omega) (by omega), on 5 (by omega) (by omega), on 6 (by omega) (by omega), on 7 (by omega) (by omega), on 8 (by omega) (by omega), on 9 (by omega) (by omega)]
    exact this
theorem m_line {w : rW} {S : AS} (h : MI w S) {d : Int} (hd : I32 d) : Md (fX12_line (iI d) w) (aLine S d).1 (aLine S d).2 := by
  obtain ⟨k1, k2⟩ := mWrongRow h hd
  have is := mIsShelf (S := S) hd
  obtain ⟨hW, ⟨n0, -⟩, -⟩ := h.1
  have h40 := hW.1
  have c40 : (40 : Int32) = iI ((40 : Nat) : Int) := by decide +kernel
  have z0 : (0 : Int32) = iI ((0 : Nat) : Int) := rfl
  unfold aLine
  rw [fX12_line, is, Option.bind_some]
  cases hs : shAt S d with
  | none => exact Md.rf h (by rw [if_pos (show iB (none : Option Sh).isSome = 0 from rfl), iN_1])
  | some s =>
    obtain ⟨e, -, hm⟩ := k2 s hs
    obtain ⟨d8, de, ds⟩ := shAt_s hs
    have bb := bRef_bd s
    have e0 : raI w 2 1000 (0 : Int32) = some (iI (tL (sT S)).length) := by rw [z0, raN (by omega) (by omega), n0]
    rw [if_neg (show ¬ iB (some s).isSome = 0 from iB_tn), e0, Option.bind_some]
    show Md _ (if (tL (sT S)).length < 40 then (if bRef s = 0 then (match pF (rowL s) with | some j => (-100 - (j : Int), S) | none => (((tL (sT S)).length : Int), ((tAdd (sT S) (pT (rowL s)), sI S, sH S) : AS))) else (bRef s, S)) else (-2, S)).1 (if (tL (sT S)).length < 40 then (if bRef s = 0 then (match pF (rowL s) with | some j => (-100 - (j : Int), S) | none => (((tL (sT S)).length : Int), ((tAdd (sT S) (pT (rowL s)), sI S, sH S) : AS))) else (bRef s, S)) else (-2, S)).2
    by_cases c : (tL (sT S)).length < 40
    · rw [if_neg (by rw [c40, iI_eq (by omega) (by omega) (by omega) (by omega)]; omega), if_pos c, e, Option.bind_some]
      by_cases c0 : bRef s = 0
      · obtain ⟨l, rfl⟩ := bRef_0 c0
        obtain ⟨w', e', r, r13, r14⟩ := faultIn_ok d8 hm
        rw [de] at e'
        have l120 : l.length ≤ 120 := hm.2.2.2.1
        have h' := h.rq (RdF.sc r)
        have hm' : ∀ (i : Nat) (c : Int), l[i]? = some c → rA w' 7 (120 * d.toNat + i) = iI c := fun i c hc => by
          rw [r.1 7 _ (fun z => z)]
          exact hm.2.2.2.2.2.1 i c hc
        rw [if_pos (by rw [c0]; rfl), if_pos c0, e', kb2_s]
        show Md _ (match pF l with | some j => (-100 - (j : Int), S) | none => (((tL (sT S)).length : Int), ((tAdd (sT S) (pT l), sI S, sH S) : AS))).1 (match pF l with | some j => (-100 - (j : Int), S) | none => (((tL (sT S)).length : Int), ((tAdd (sT S) (pT l), sI S, sH S) : AS))).2
        cases hp : pF l with
        | some j =>
          have := pF_le hp
          refine ⟨w', ?_, h'⟩
          show (if iI (j : Int) = (-4 : Int32) then _ else _) = _
          rw [if_neg (by rw [iN_4, iI_eq (by omega) (by omega) (by omega) (by omega)]; omega), show (-100 : Int32) = iI (-100) by decide +kernel, iI_sub]
        | none =>
          obtain ⟨-, oF, eF, l60⟩ := (pF_go l).2 hp
          have n0' : rA w' 2 0 = iI (tL (sT S)).length := by rw [r.1 2 _ (fun z => z)]; exact n0
          have el : l.length = tln (pT l) := by
            have := congrArg List.length eF
            rw [List.length_map] at this
            exact this
          obtain ⟨w2, q2, r2, g2⟩ := lineL_ok (l := (tL (sT S)).length) (d := d.toNat) (n := l.length) c d8 (by rw [el]; exact l60) (iI d) (iI (bRef (some (.inr (0, l))))) (iI (-4)) (fun w11 => (rsI w11 2 1000 ((3 : Int32) + iI (tL (sT S)).length) (rF w11 14)).bind fun w12 =>
                  (rsI w12 2 1000 ((43 : Int32) + iI (tL (sT S)).length) (0 : Int32)).bind fun w13 =>
                  (raI w13 2 1000 (0 : Int32)).bind fun v14 =>
                  (rsI w13 2 1000 (0 : Int32) (v14 + (1 : Int32))).bind fun w15 =>
                  some (iI (tL (sT S)).length, w15)) l.length kFU 0 w' (by unfold kFU; omega) (by omega) r13 r14
          rw [Nat.add_zero, el] at r2
          have f14 : rF w2 14 = iI (tln (pT l)) := by rw [r2.2 14 (fun z => z), r14, el]
          have f0 : rA w2 2 0 = iI (tL (sT S)).length := by rw [r2.1 2 _ (fun z => by have := z.1; omega)]; exact n0'
          have e3 : (3 : Int32) + iI (tL (sT S)).length = iI (3 + (tL (sT S)).length : Nat) := by rw [iL_3, iI_add]; rfl
          have hfin := mAddLine_ok h' oF l60 c r2 (fun j c' hc => by
            have hj := (List.getElem?_eq_some_iff.mp hc).1
            have hc2 : l[j]? = some (Int.ofNat c') := by
              rw [eF, List.getElem?_map, hc]; rfl
            have ej : tln (pT l) = (fTxt (pT l)).length := rfl
            rw [g2 j (by omega) (by omega), hm' j _ hc2]
            rfl)
          refine ⟨_, ?_, hfin⟩
          show (if iI (-4) = (-4 : Int32) then _ else _) = _
          rw [if_pos (by decide +kernel), z0, raN (by omega) (by omega), Option.bind_some, n0']
          refine Eq.trans q2 ?_
          rw [f14, e3, rsN (by omega) (by omega), Option.bind_some, iN_43, rsN (by omega) (by omega), Option.bind_some, z0, raN (by omega) (by omega), Option.bind_some, rA_SA_j (by omega), rA_SA_j (by omega), f0, rsN (by omega) (by omega), Option.bind_some, iL_1, iI_add]
          rfl
      · rw [if_neg (by rw [iL_0, iI_eq (by omega) (by omega) (by omega) (by omega)]; exact c0), if_neg c0]
        exact ⟨w, rfl, h⟩
    · rw [if_pos (by rw [c40]; congr 1; omega), if_neg c]
      exact ⟨w, by rw [iN_2], h⟩
