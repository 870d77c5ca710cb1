/-! .. new programs -/
def InS (a b : Nat) (n i : Nat) : Prop := n = 2 ∧ a ≤ i ∧ i < b
theorem progL_ok {d n to : Nat} (hd : d < 8) (hn : n ≤ 120) (hto : to + 121 ≤ 1000) (x1 x2 : Int32) (K : rW → Option (Int32 × rW)) : ∀ (m fu i : Nat) (w : rW), m < fu → i + m = n → rF w 13 = iI (120 * d : Nat) → rF w 14 = iI n → ∃ w', fX12_program_L112 x1 x2 (iI to) fu (fun _ q => K q) (iI i) w = K w' ∧ Rq (InS (to + 1 + i) (to + 1 + n)) NoF w w' ∧ ∀ j, i ≤ j → j < n → rA w' 2 (to + 1 + j) = rA w 7 (120 * d + j) := by
  intro m
  induction m with
  | zero =>
    intro fu i w hf hi h13 h14
    obtain ⟨fu, rfl⟩ : ∃ z, fu = z + 1 := ⟨fu - 1, by omega⟩
    exact ⟨w, by rw [fX12_program_L112, h14, if_pos (by rw [iI_le (by omega) (by omega) (by omega) (by omega)]; omega)], Rq.rf w, fun j h1 h2 => by omega⟩
  | succ m ih =>
    intro fu i w hf hi h13 h14
    obtain ⟨fu, rfl⟩ : ∃ z, fu = z + 1 := ⟨fu - 1, by omega⟩
    obtain ⟨w', e, r, g⟩ := ih fu (i + 1) (rSA w 2 (to + 1 + i) (rA w 7 (120 * d + i))) (by omega) (by omega) h13 h14
    refine ⟨w', ?_, Rq.tr (Rq.sa ⟨rfl, Nat.le_refl _, by omega⟩) (r.wide (fun n i z => ⟨z.1, by have := z.2.1; omega, z.2.2⟩) (fun _ z => z)), fun j h1 h2 => ?_⟩
    · rw [fX12_program_L112, h14, h13, if_neg (by rw [iI_le (by omega) (by omega) (by omega) (by omega)]; omega), iL_1, iI_add, iI_add, iI_add, show ((120 * d : Nat) : Int) + (i : Int) = ((120 * d + i : Nat) : Int) by omega, show (to : Int) + 1 + (i : Int) = ((to + 1 + i : Nat) : Int) by omega, raN (by omega) (by omega), Option.bind_some, rsN (by omega) (by omega), Option.bind_some, iI_add, show (i : Int) + 1 = ((i + 1 : Nat) : Int) by omega]
      exact e
    · by_cases c : j = i
      · rw [c, r.1 2 _ (fun z => by have := z.2.1; omega), rA_SA_s]
      · rw [g j (by omega) h2, rA_SA_o (by omega)]
theorem TbW.pro {T : TbS} (h : TbW T) {u : List Int} (hu : u.length ≤ 120) (hp : pFt u = none) (hb : ∀ c ∈ u, -128 ≤ c ∧ c < 128) (h6 : (tP T).length < 6) : TbW (tPro T u) := by
  obtain ⟨a1, a2, a3, a4, a5, a6, a7⟩ := h
  refine ⟨a1, a2, a3, a4, a5, ?_, fun v hv => ?_⟩
  · show (tP T ++ [u]).length ≤ 6
    rw [List.length_append, List.length_singleton]
    omega
  · have hv' : v ∈ tP T ++ [u] := hv
    rcases List.mem_append.mp hv' with z | z
    · exact a7 v z
    · rw [List.mem_singleton.mp z]; exact ⟨hu, hp, hb⟩
theorem mAddProg_ok {w w2 : rW} {S : AS} (h : MI w S) {u : List Int} (hu : u.length ≤ 120) (hp : pFt u = none) (hb : ∀ c ∈ u, -128 ≤ c ∧ c < 128) (h6 : (tP (sT S)).length < 6) (hR : Rq (InS (243 + 121 * (tP (sT S)).length) (243 + 121 * (tP (sT S)).length + 121)) NoF w w2) (hy : rA w2 2 (243 + 121 * (tP (sT S)).length) = iI u.length ∧ ∀ (i : Nat) (c : Int), u[i]? = some c → rA w2 2 (243 + 121 * (tP (sT S)).length + 1 + i) = iI c) : MI (rSA w2 2 2 (iI ((tP (sT S)).length + 1 : Nat))) (tPro (sT S) u, sI S, sH S) := by
  obtain ⟨⟨hW, ⟨n0, n1, n2⟩, h1, h2, h3, h4, h5⟩, ⟨hI1, hI2⟩, hS, hz⟩ := h
  have h40 := hW.1
  have kl := hW.kl
  obtain ⟨w5, ew⟩ : ∃ w5, w5 = rSA w2 2 2 (iI ((tP (sT S)).length + 1 : Nat)) := ⟨_, rfl⟩
  rw [← ew]
  have o2 : ∀ i, i ≠ 2 → (i < 243 + 121 * (tP (sT S)).length) → rA w5 2 i = rA w 2 i := fun i a b => by
    rw [ew, rA_SA_j a]
    exact hR.1 2 i (fun z => by have := z.2.1; omega)
  have on : ∀ m, m ≠ 2 → rA w5 m = rA w m := fun m a => by
    rw [ew, rA_SA_o a]
    funext i
    exact hR.1 m i (fun z => a z.1)
  have of' : ∀ j, rF w5 j = rF w j := fun j => by
    rw [ew]
    exact hR.2 j (fun z => z)
  refine ⟨⟨hW.pro hu hp hb h6, ⟨?_, ?_, ?_⟩, fun l G e => ?_, fun l e => ?_, fun l e e2 => ?_, fun i k e => ?_, fun p v e => ?_⟩, ⟨?_, fun T e => ?_⟩, fun d hd => ?_, by rw [of']; exact hz⟩
  · rw [o2 0 (by omega) (by omega)]; exact n0
  · rw [o2 1 (by omega) (by omega)]; exact n1
  · show rA w5 2 2 = iI (tP (sT S) ++ [u]).length
    rw [ew, rA_SA_s, List.length_append, List.length_singleton]
  · have hl : l < (tL (sT S)).length := (List.getElem?_eq_some_iff.mp e).1
    rw [on 0 (by omega), o2 _ (by omega) (by omega)]
    exact h1 l G e
  · have e' : l < (tL (sT S)).length := e
    rw [o2 _ (by omega) (by omega)]
    exact h2 l e
  · have e' : l < (tL (sT S)).length := e
    rw [o2 _ (by omega) (by omega), o2 _ (by omega) (by omega), o2 _ (by omega) (by omega)]
    exact h3 l e e2
  · have hi : i < (tK (sT S)).length := (List.getElem?_eq_some_iff.mp e).1
    rw [o2 _ (by omega) (by omega)]
    exact h4 i k e
  · have e' : (tP (sT S) ++ [u])[p]? = some v := e
    by_cases c : p < (tP (sT S)).length
    · rw [List.getElem?_append_left c] at e'
      obtain ⟨a, b⟩ := h5 p v e'
      have hv := (hW.2.2.2.2.2.2 v (List.mem_of_getElem? e')).1
      rw [o2 _ (by omega) (by omega)]
      refine ⟨a, fun i c' hc => ?_⟩
      have hi := (List.getElem?_eq_some_iff.mp hc).1
      rw [o2 _ (by omega) (by omega)]
      exact b i c' hc
    · have hl := (List.getElem?_eq_some_iff.mp e').1
      rw [List.length_append, List.length_singleton] at hl
      have el : p = (tP (sT S)).length := by omega
      rw [el, List.getElem?_append_right (Nat.le_refl _), Nat.sub_self] at e'
      cases e'
      rw [el, ew, rA_SA_j (by omega)]
      refine ⟨hy.1, fun i c' hc => ?_⟩
      rw [rA_SA_j (by omega)]
      exact hy.2 i c' hc
  · rw [of']; exact hI1
  · rw [on 1 (by omega), on 3 (by omega)]; exact hI2 T e
  · have := hS d hd
    show MSh w5 d (sH S d)
    unfold MSh at this ⊢
    rw [on 4 (by omega), on 5 (by omega), on 6 (by omega), on 7 (by omega), on 8 (by omega), on 9 (by omega)]
    exact this
theorem m_program {w : rW} {S : AS} (h : MI w S) {d : Int} (hd : I32 d) : Md (fX12_program (iI d) w) (aProgram S d).1 (aProgram S d).2 := by
  obtain ⟨k1, k2⟩ := mWrongRow h hd
  have is := mIsShelf (S := S) hd
  obtain ⟨hW, ⟨-, -, n2⟩, -⟩ := h.1
  have h6 := hW.2.2.2.2.2.1
  have c6 : (6 : Int32) = iI ((6 : Nat) : Int) := by decide +kernel
  have z2 : (2 : Int32) = iI ((2 : Nat) : Int) := rfl
  have z0 : (0 : Int32) = iI ((0 : Nat) : Int) := rfl
  unfold aProgram
  rw [fX12_program, is, Option.bind_some]
  cases hs : shAt S d with
  | none => exact Md.rf h (by rw [if_pos (show iB (none : Option Sh).isSome = 0 from rfl), iN_1])
  | some s =>
    obtain ⟨e, -, hm⟩ := k2 s hs
    obtain ⟨d8, de, ds⟩ := shAt_s hs
    have bb := bRef_bd s
    obtain ⟨N, eN⟩ : ∃ N, N = (tP (sT S)).length := ⟨_, rfl⟩
    have e0 : raI w 2 1000 (2 : Int32) = some (iI N) := by rw [z2, raN (by omega) (by omega), n2, eN]
    rw [if_neg (show ¬ iB (some s).isSome = 0 from iB_tn), e0, Option.bind_some]
    show Md _ (if (tP (sT S)).length < 6 then (if bRef s = 0 then (match pFt (rowL s) with | some j => (-100 - (j : Int), S) | none => (((tP (sT S)).length : Int), ((tPro (sT S) (rowL s), sI S, sH S) : AS))) else (bRef s, S)) else (-2, S)).1 (if (tP (sT S)).length < 6 then (if bRef s = 0 then (match pFt (rowL s) with | some j => (-100 - (j : Int), S) | none => (((tP (sT S)).length : Int), ((tPro (sT S) (rowL s), sI S, sH S) : AS))) else (bRef s, S)) else (-2, S)).2
    by_cases c : (tP (sT S)).length < 6
    · rw [if_neg (by rw [c6, iI_eq (by omega) (by omega) (by omega) (by omega)]; omega), if_pos c, e, Option.bind_some]
      by_cases c0 : bRef s = 0
      · obtain ⟨l, rfl⟩ := bRef_0 c0
        obtain ⟨m1, m2, m3, m4, m5, m6, m7⟩ := hm
        have m4' : l.length ≤ 120 := m4
        obtain ⟨w3, ew3⟩ : ∃ w3, w3 = rSF (rSF w 13 (iI (120 * d.toNat : Nat))) 14 (iI l.length) := ⟨_, rfl⟩
        have hx : Rx w3 d.toNat l := ⟨d8, m4, by rw [ew3, rF_SF_o (by omega)]; exact rF_SF_s, by rw [ew3]; exact rF_SF_s, fun j c hc => by rw [ew3]; exact m6 j c hc, fun c hc => (m7 c hc).1 rfl⟩
        have r3 : Rq NoA PrF w w3 := by
          rw [ew3]
          exact Rq.tr (Rq.sf (Or.inr (Or.inl rfl))) (Rq.sf (Or.inr (Or.inr (Or.inl rfl))))
        obtain ⟨w', hx', r', g⟩ := prog_read (t := l) (iI d) (iI (bRef (some (.inr (0, l))))) (fun w10 => (raI w10 2 1000 (2 : Int32)).bind fun v11 =>
                  (rsI w10 2 1000 ((243 : Int32) + ((121 : Int32) * v11)) (rF w10 14)).bind fun w12 =>
                  fX12_program_L112 (iI d) (iI (bRef (some (.inr (0, l))))) ((243 : Int32) + ((121 : Int32) * v11)) kFU (fun y4_13 w14 => (raI w14 2 1000 (2 : Int32)).bind fun v15 =>
                  (rsI w14 2 1000 (2 : Int32) (v15 + (1 : Int32))).bind fun w16 =>
                  (raI w16 2 1000 (2 : Int32)).bind fun v17 =>
                  some (v17 - (1 : Int32), w16)) (0 : Int32) w12) hx
        have r := r3.tr r'
        have h' := h.rq (PrF.sc r)
        have e6 : raI (rSF w 13 (iI (120 * d.toNat : Nat))) 6 8 (iI d) = some (iI l.length) := by
          rw [← de, raN (by omega) (by omega), Int.toNat_natCast]
          exact congrArg some m3
        have e13 : (120 : Int32) * iI d = iI (120 * d.toNat : Nat) := by
          rw [show (120 : Int32) = iI 120 by decide +kernel, iI_mul]
          congr 1
          omega
        rw [if_pos (by rw [c0]; rfl), if_pos c0, rpN, Option.bind_some, e13, e6, Option.bind_some, rpN, Option.bind_some, ← ew3, rpN, Option.bind_some]
        have g0 := g
        rw [show Wk w3 0 = rSF w3 12 (0 : Int32) from rfl] at g0
        rw [g0]
        show Md _ (match pFt l with | some j => (-100 - (j : Int), S) | none => (((tP (sT S)).length : Int), ((tPro (sT S) l, sI S, sH S) : AS))).1 (match pFt l with | some j => (-100 - (j : Int), S) | none => (((tP (sT S)).length : Int), ((tPro (sT S) l, sI S, sH S) : AS))).2
        cases hp : pFt l with
        | some j => exact ⟨w', rfl, h'⟩
        | none =>
          have n2' : rA w' 2 2 = iI N := by rw [r.1 2 _ (fun z => z), n2, eN]
          obtain ⟨to, eto⟩ : ∃ to, to = 243 + 121 * N := ⟨_, rfl⟩
          have eT : (243 : Int32) + (121 : Int32) * iI N = iI to := by
            rw [show (243 : Int32) = iI 243 by decide +kernel, show (121 : Int32) = iI 121 by decide +kernel, iI_mul, iI_add]
            congr 1
            omega
          obtain ⟨f1, f2, f3, f4, f5, f6⟩ := hx'
          obtain ⟨w2, q2, r2, g2⟩ := progL_ok (d := d.toNat) (n := l.length) (to := to) d8 m4 (by omega) (iI d) (iI (bRef (some (.inr (0, l))))) (fun w14 => (raI w14 2 1000 (2 : Int32)).bind fun v15 =>
                  (rsI w14 2 1000 (2 : Int32) (v15 + (1 : Int32))).bind fun w16 =>
                  (raI w16 2 1000 (2 : Int32)).bind fun v17 =>
                  some (v17 - (1 : Int32), w16)) l.length kFU 0 (rSA w' 2 to (iI l.length)) (by unfold kFU; omega) (by omega) f3 f4
          have n2'' : rA w2 2 2 = iI N := by rw [r2.1 2 _ (fun z => by have := z.2.1; omega), rA_SA_j (by omega)]; exact n2'
          have rr : Rq (InS to (to + 121)) NoF w' w2 := Rq.tr (Rq.sa ⟨rfl, Nat.le_refl _, by omega⟩) (r2.wide (fun n i z => ⟨z.1, by have := z.2.1; omega, by have := z.2.2; omega⟩) (fun _ z => z))
          have hfin := mAddProg_ok h' (u := l) (w2 := w2) m4 hp (fun c hc => (m7 c hc).1 rfl) c (by rw [← eN, ← eto]; exact rr) (by
            rw [← eN, ← eto]
            refine ⟨?_, fun i c' hc => ?_⟩
            · rw [r2.1 2 _ (fun z => by have := z.2.1; omega), rA_SA_s]
            · have hi := (List.getElem?_eq_some_iff.mp hc).1
              rw [g2 i (by omega) hi, rA_SA_o (by omega)]
              exact f5 i c' hc)
          rw [← eN] at hfin ⊢
          refine ⟨_, ?_, hfin⟩
          show ((raI w' 2 1000 (2 : Int32)).bind fun v11 => _) = _
          rw [z2, raN (by omega) (by omega), Option.bind_some, n2', ← z2, eT, rsN (by omega) (by omega), Option.bind_some, f4]
          refine Eq.trans q2 ?_
          show ((raI w2 2 1000 (2 : Int32)).bind fun v15 => _) = _
          rw [z2, raN (by omega) (by omega), Option.bind_some, n2'', rsN (by omega) (by omega), Option.bind_some, raN (by omega) (by omega), Option.bind_some, iL_1, iI_add, rA_SA_s, iI_sub, show (N : Int) + 1 - 1 = (N : Int) by omega]
          rfl
      · rw [if_neg (by rw [iL_0, iI_eq (by omega) (by omega) (by omega) (by omega)]; exact c0), if_neg c0]
        exact ⟨w, rfl, h⟩
    · rw [if_pos (by rw [c6]; congr 1; omega), if_neg c]
      exact ⟨w, by rw [iN_2], h⟩
