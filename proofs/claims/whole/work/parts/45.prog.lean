/-! PROGRAMS: the machine that reads them: state, what is numbered, number, digits, acts, like alone, last, stop -/
abbrev PS : Type := Nat × Nat × Nat × Nat × List Nat × Bool × Nat × Nat
def pStp : PS → Int → Option PS
  | (0, nb, nu, di, ac, lk, la, st), c => if c = 109 ∨ c = 100 ∨ c = 99 then some (1, nb, nu, di, ac ++ [c.toNat], lk, la, st) else if c = 108 then some (1, nb, nu, di, ac, true, la, st) else if c = 107 ∨ c = 115 then some (2, c.toNat, 0, 0, ac, lk, la, st) else none
  | (1, nb, nu, di, ac, lk, la, st), c => if c = 59 then some (0, nb, nu, di, ac, lk, la, st) else none
  | (_, nb, nu, di, ac, lk, la, st), c => if (if di = 0 then 49 else 48) ≤ c ∧ c ≤ 57 ∧ di < 3 then some (2, nb, nu * 10 + (c - 48).toNat, di + 1, ac, lk, la, st) else if di = 0 ∨ c ≠ 59 then none else if nb = 107 then some (0, nb, nu, di, ac, lk, nu, st) else some (0, nb, nu, di, ac, lk, la, min nu 100)
def pS0 : PS := (0, 0, 0, 0, [], false, 1000000, 60)
/-- where a text is refused first, from place i on -/
def pGo : PS → List Int → Nat → Sum Nat PS
  | s, [], _ => .inr s
  | s, c :: l, i => match pStp s c with
    | none => .inl i
    | some s' => pGo s' l (i + 1)
def pFt (l : List Int) : Option Nat := match pGo pS0 l 0 with
  | .inl i => some i
  | .inr s => if 0 < l.length ∧ s.1 = 0 then none else some l.length
def pEnd (l : List Int) : PS := match pGo pS0 l 0 with
  | .inl _ => pS0
  | .inr s => s
def psA (s : PS) : List Nat := s.2.2.2.2.1
def psL (s : PS) : Bool := s.2.2.2.2.2.1
def psN (s : PS) : Nat := s.2.2.2.2.2.2.1
def psS (s : PS) : Nat := s.2.2.2.2.2.2.2
def PqS (ow : Nat → Nat × Nat) (w : kW) (p cap : Nat) : Prop := kKd w p = 3 ∧ ow p = (p, 0) ∧ cap ≤ 120 ∧ LnA ow w p cap 0 13
def Pq (ow : Nat → Nat × Nat) (w : kW) (p cap : Nat) (s : PS) : Prop := PqS ow w p cap ∧ (psA s).length ≤ cap ∧ (kI w p 1 = iI (psA s).length ∧ kI w p 2 = iB (psL s) ∧ kI w p 3 = iI (psN s) ∧ kI w p 4 = iI (psS s)) ∧ ∀ (i c : Nat), (psA s)[i]? = some c → kI w (Lp w p 0) i = iI c
/-- .. and what it needs while it reads -/
def Pz (ow : Nat → Nat × Nat) (w : kW) (p cap : Nat) (s : PS) : Prop := Pq ow w p cap s ∧ kI w p 5 = iI s.1 ∧ kI w p 6 = iI s.2.1 ∧ kI w p 7 = iI s.2.2.1 ∧ kI w p 8 = iI s.2.2.2.1
theorem PqS.fr {ow ow' : Nat → Nat × Nat} {S : Nat → Prop} {w w1 : kW} {p cap : Nat} (h : PqS ow w p cap) (hs : Fr ow ow' S w w1) (ha : ¬ S p) : PqS ow' w1 p cap := by
  obtain ⟨hk, ho, hc, h0⟩ := h
  obtain ⟨e1, e2, e3, e4, e5, e6⟩ := hs p (by omega) (by rw [ho]; exact ha)
  exact ⟨by rw [e2]; exact hk, by rw [e1]; exact ho, hc, (h0.fr hs (by omega) (by omega) ha (by rw [ho])).1⟩
theorem Pq.fr {ow ow' : Nat → Nat × Nat} {S : Nat → Prop} {w w1 : kW} {p cap : Nat} {s : PS} (h : Pq ow w p cap s) (hs : Fr ow ow' S w w1) (ha : ¬ S p) : Pq ow' w1 p cap s := by
  obtain ⟨h1, h2, ⟨h3, h4, h5, h6⟩, h7⟩ := h
  obtain ⟨e1, e2, e3, e4, e5, e6⟩ := hs p (by have := h1.1; omega) (by rw [h1.2.1]; exact ha)
  have hl : Lp w1 p 0 = Lp w p 0 := by unfold Lp; rw [e5]
  refine ⟨h1.fr hs ha, h2, ⟨by rw [e4]; exact h3, by rw [e4]; exact h4, by rw [e4]; exact h5, by rw [e4]; exact h6⟩, fun i c hc => ?_⟩
  rw [hl, (h1.2.2.2.fi hs (by omega) ha).1]
  exact h7 i c hc
/-- one int of the program's own is written -/
theorem Pz.fld {ow : Nat → Nat × Nat} {w : kW} {p cap : Nat} {s s' : PS} {j : Nat} {v : Int32} (h : Pz ow w p cap s) (hA : psA s' = psA s) (hj : j ≠ 1) (h2 : (if j = 2 then v else kI w p 2) = iB (psL s')) (h3 : (if j = 3 then v else kI w p 3) = iI (psN s')) (h4 : (if j = 4 then v else kI w p 4) = iI (psS s')) (h5 : (if j = 5 then v else kI w p 5) = iI s'.1) (h6 : (if j = 6 then v else kI w p 6) = iI s'.2.1) (h7 : (if j = 7 then v else kI w p 7) = iI s'.2.2.1) (h8 : (if j = 8 then v else kI w p 8) = iI s'.2.2.2.1) : Pz ow (kSI w p j v) p cap s' ∧ Sm ow (fun q => q = p) w (kSI w p j v) := by
  obtain ⟨⟨g1, g2, ⟨g3, g4, g5, g6⟩, g7⟩, g8, g9, g10, g11⟩ := h
  have s1 : Sm ow (fun q => q = p) w (kSI w p j v) := Sm.si (by rw [g1.2.1])
  have np : Lp w p 0 ≠ p := fun e => by
    have := g1.2.2.2.2.1
    rw [e, g1.1] at this
    omega
  have fl : ∀ k, kI (kSI w p j v) p k = if j = k then v else kI w p k := fun k => by
    rw [kI_SI]
    by_cases e : j = k
    · rw [if_pos e, if_pos ⟨rfl, e.symm⟩]
    · rw [if_neg e, if_neg (fun z => e z.2.symm)]
  refine ⟨⟨⟨⟨g1.1, g1.2.1, g1.2.2.1, g1.2.2.2.sm s1⟩, by rw [hA]; exact g2, ⟨?_, ?_, ?_, ?_⟩, fun i c hc => ?_⟩, ?_, ?_, ?_, ?_⟩, s1⟩
  · rw [fl, if_neg hj, hA]; exact g3
  · rw [fl]; exact h2
  · rw [fl]; exact h3
  · rw [fl]; exact h4
  · rw [s1.lp, kI_SI_o np]
    rw [hA] at hc
    exact g7 i c hc
  · rw [fl]; exact h5
  · rw [fl]; exact h6
  · rw [fl]; exact h7
  · rw [fl]; exact h8
theorem addAct_ok {ow : Nat → Nat × Nat} {w : kW} {p cap : Nat} {s1 s2 s3 s4 : Nat} {ac : List Nat} {lk : Bool} {la st : Nat} (h : Pz ow w p cap (s1, s2, s3, s4, ac, lk, la, st)) (hr : ac.length < cap) (c : Nat) (hc : c < 128) : ∃ w', fX3_addAct p (iI c) w = some w' ∧ Pz ow w' p cap (s1, s2, s3, s4, ac ++ [c], lk, la, st) ∧ Sm ow (fun q => q = p) w w' := by
  obtain ⟨⟨g1, g2, ⟨g3, g4, g5, g6⟩, g7⟩, g8, g9, g10, g11⟩ := h
  obtain ⟨hk, ho, hcap, p0, k0, n0, o0⟩ := id g1
  have e1 : kI w p 1 = iI ac.length := g3
  have np : Lp w p 0 ≠ p := fun e => by rw [e, hk] at k0; omega
  have sm : Sm ow (fun q => q = p) w (kSI (kSI w (Lp w p 0) ac.length (iI c)) p 1 (iI (ac.length + 1))) := (Sm.si (by rw [o0])).tr (Sm.si (by rw [ho]))
  have fl : ∀ k, k ≠ 1 → kI (kSI (kSI w (Lp w p 0) ac.length (iI c)) p 1 (iI (ac.length + 1))) p k = kI w p k := fun k hk => by
    rw [kI_SI_j hk, kI_SI_o (Ne.symm np)]
  refine ⟨kSI (kSI w (Lp w p 0) ac.length (iI c)) p 1 (iI (ac.length + 1)), ?_, ⟨⟨⟨hk, ho, hcap, g1.2.2.2.sm sm⟩, by simp [psA]; omega, ⟨?_, ?_, ?_, ?_⟩, fun i d hd => ?_⟩, ?_, ?_, ?_, ?_⟩, sm⟩
  · rw [fX3_addAct]
    have hb : (iI c).toInt8.toInt32 = iI c := nar_b (by omega) (by omega)
    simp (disch := (first | omega | (simp only [kKd_SI, kKd_SP, kKd_SJ, kLn_SI, kLn_SP, kLn_SJ]; omega))) only [iI_add, iI_sub, iI_mul, iI_neg, iI_n, iL_0, iL_1, iL_2, iL_3, iL_4, iL_5, iL_6, iL_7, iL_8, iL_9, iL_10, iL_11, iL_12, iL_13, iL_14, iL_15, iL_16, iL_17, iL_18, iL_19, iL_20, iL_21, iL_22, iL_23, iL_24, iL_27, iL_32, iL_40, iL_41, iL_43, iL_48, iL_49, iL_57, iL_59, iL_60, iL_62, iL_63, iL_64, iL_83, iL_99, iL_100, iL_107, iL_108, iL_109, iL_112, iL_115, iL_117, iL_118, iL_120, iL_121, iL_123, iL_126, iL_127, iL_136, iL_163, iL_200, iL_203, iL_243, iL_400, iL_512, iL_960, iL_1000, iL_2400, iL_4000, iL_6000, iL_8000, iL_8001, iL_9000, iL_10000, iL_12345, iL_65536, iL_1000000, iL_252645135, iL_858993459, iL_1103515245, iL_1431655765, iL_2147483647, iI_lt, iI_le, iI_eq, kgI_e, kgP_e, kpI_e, kpP_e, kal_e, kaI_e, kaP_e, kaJ_e, ksI_e, ksP_e, ksJ_e, kRc_e, kIx_i, Option.bind_some, Option.map_some, e1, p0, n0, if_pos, if_neg, ite_true, hb, nar_b, Int.toNat_natCast, kI_SI_o (Ne.symm np), kKd_SI, kKd_SP, kKd_SJ, kLn_SI, kLn_SP, kLn_SJ, kP_SI, kP_SJ, kJ_SI, kJ_SP, kI_SP, kI_SJ, kSz_SI, kSz_SP, kSz_SJ]
  · rw [kI_SI_s]; simp [psA]
  · rw [fl 2 (by omega)]; exact g4
  · rw [fl 3 (by omega)]; exact g5
  · rw [fl 4 (by omega)]; exact g6
  · have hd' : (ac ++ [c])[i]? = some d := hd
    rw [sm.lp, kI_SI_o np, kI_SI]
    by_cases hi : i = ac.length
    · subst hi
      rw [if_pos ⟨rfl, rfl⟩]
      simp at hd'
      rw [hd']
    · rw [if_neg (fun z => hi z.2)]
      refine g7 i d ?_
      show ac[i]? = some d
      rw [List.getElem?_append] at hd'
      by_cases hi2 : i < ac.length
      · rw [if_pos hi2] at hd'; exact hd'
      · rw [if_neg hi2] at hd'
        rw [List.getElem?_eq_none (by simp; omega)] at hd'
        cases hd'
  · rw [fl 5 (by omega)]; exact g8
  · rw [fl 6 (by omega)]; exact g9
  · rw [fl 7 (by omega)]; exact g10
  · rw [fl 8 (by omega)]; exact g11
/-- the machine's bounds -/
def pBd (s : PS) : Prop := s.1 ≤ 2 ∧ s.2.1 < 128 ∧ s.2.2.2.1 ≤ 3 ∧ s.2.2.1 < 10 ^ s.2.2.2.1 ∧ psN s ≤ 1000000 ∧ psS s ≤ 100
theorem pz_acc {ow : Nat → Nat × Nat} {w : kW} {p cap : Nat} {s : PS} (h : Pz ow w p cap s) (hb : pBd s) (hr : (psA s).length < cap) (c : Int) (h0 : -128 ≤ c) (h1 : c < 128) : ∃ w', fX3_accepts p (iI c) w = some (iB (pStp s c).isSome, w') ∧ Sm ow (fun q => q = p) w w' ∧ ∀ s', pStp s c = some s' → Pz ow w' p cap s' ∧ pBd s' ∧ (psA s').length ≤ (psA s).length + 1 := by
  obtain ⟨sa, nb, nu, di, ac, lk, la, st⟩ := s
  obtain ⟨b1, b2, b3, b4, b5, b6⟩ := hb
  simp only [psN, psS] at b1 b2 b3 b4 b5 b6
  have hr' : ac.length < cap := hr
  obtain ⟨⟨g1, g2, ⟨g3, g4, g5, g6⟩, g7⟩, g8, g9, g10, g11⟩ := id h
  have hk := g1.1
  simp only [psL, psN, psS] at g4 g5 g6 g8 g9 g10 g11
  rcases (show sa = 0 ∨ sa = 1 ∨ sa = 2 by omega) with rfl | rfl | rfl
  · -- a statement begins
    have e5 : kI w p 5 = 0 := g8
    have act : ∀ d : Nat, d < 128 → ∃ w1, fX3_addAct p (iI d) w = some w1 ∧ kKd w1 p = 3 ∧ Pz ow (kSI w1 p 5 1) p cap (1, nb, nu, di, ac ++ [d], lk, la, st) ∧ Sm ow (fun q => q = p) w (kSI w1 p 5 1) := by
      intro d hd
      obtain ⟨w1, e1, z1, m1⟩ := addAct_ok h hr' d hd
      obtain ⟨z2, m2⟩ := z1.fld (s' := (1, nb, nu, di, ac ++ [d], lk, la, st)) (j := 5) (v := 1) rfl (by omega) z1.1.2.2.1.2.1 z1.1.2.2.1.2.2.1 z1.1.2.2.1.2.2.2 rfl z1.2.2.1 z1.2.2.2.1 z1.2.2.2.2
      exact ⟨w1, e1, z1.1.1.1, z2, m1.tr m2⟩
    have top : fX3_accepts p (iI c) w = kb2 (fX3_beginsStatement p (iI c) w) fun v5 w3 => (kBl v5).bind fun v6 => some (v6, w3) := by
      rw [fX3_accepts, kgI_e hk, Option.bind_some, e5, if_pos rfl, kRc_e hk, Option.bind_some]
    by_cases ca : c = 109 ∨ c = 100 ∨ c = 99
    · have ep : pStp (0, nb, nu, di, ac, lk, la, st) c = some (1, nb, nu, di, ac ++ [c.toNat], lk, la, st) := by
        show (if c = 109 ∨ c = 100 ∨ c = 99 then _ else _) = _
        rw [if_pos ca]
      obtain ⟨w1, e1, hk1, z2, m2⟩ := act c.toNat (by omega)
      have ec : ((c.toNat : Nat) : Int) = c := by omega
      rw [ec] at e1
      refine ⟨kSI w1 p 5 1, ?_, m2, fun s' hs' => ?_⟩
      · rw [top, ep]
        have eb : fX3_beginsStatement p (iI c) w = some ((1 : Int32), kSI w1 p 5 1) := by
          rw [fX3_beginsStatement]
          rcases ca with rfl | rfl | rfl
          · rw [if_pos (by decide +kernel), kRc_e hk, Option.bind_some, e1, Option.bind_some, kpI_e hk1, Option.bind_some]
          · rw [if_neg (by decide +kernel), if_pos (by decide +kernel), kRc_e hk, Option.bind_some, e1, Option.bind_some, kpI_e hk1, Option.bind_some]
          · rw [if_neg (by decide +kernel), if_neg (by decide +kernel), if_pos (by decide +kernel), kRc_e hk, Option.bind_some, e1, Option.bind_some, kpI_e hk1, Option.bind_some]
        rw [eb, kb2_s, kBl_1]
        rfl
      · rw [ep] at hs'
        cases hs'
        exact ⟨z2, ⟨by show 1 ≤ 2; omega, b2, b3, b4, b5, b6⟩, by simp [psA]⟩
    · have n1 : ¬ iI c = (109 : Int32) := by rw [iL_109, iI_eq (by omega) (by omega) (by omega) (by omega)]; omega
      have n2 : ¬ iI c = (100 : Int32) := by rw [iL_100, iI_eq (by omega) (by omega) (by omega) (by omega)]; omega
      have n3 : ¬ iI c = (99 : Int32) := by rw [iL_99, iI_eq (by omega) (by omega) (by omega) (by omega)]; omega
      by_cases cb : c = 108
      · have ep : pStp (0, nb, nu, di, ac, lk, la, st) c = some (1, nb, nu, di, ac, true, la, st) := by
          show (if c = 109 ∨ c = 100 ∨ c = 99 then _ else _) = _
          rw [if_neg ca, if_pos cb]
        obtain ⟨z1, m1⟩ := h.fld (s' := (0, nb, nu, di, ac, true, la, st)) (j := 2) (v := 1) rfl (by omega) rfl g5 g6 g8 g9 g10 g11
        obtain ⟨z2, m2⟩ := z1.fld (s' := (1, nb, nu, di, ac, true, la, st)) (j := 5) (v := 1) rfl (by omega) z1.1.2.2.1.2.1 z1.1.2.2.1.2.2.1 z1.1.2.2.1.2.2.2 rfl z1.2.2.1 z1.2.2.2.1 z1.2.2.2.2
        refine ⟨_, ?_, m1.tr m2, fun s' hs' => ?_⟩
        · rw [top, ep, fX3_beginsStatement, if_neg n1, if_neg n2, if_neg n3, if_pos (by rw [cb]; decide +kernel), kpI_e hk, Option.bind_some, kpI_e (show kKd (kSI w p 2 1) p = 3 from hk), Option.bind_some, kb2_s, kBl_1]
          rfl
        · rw [ep] at hs'
          cases hs'
          exact ⟨z2, ⟨by show 1 ≤ 2; omega, b2, b3, b4, b5, b6⟩, by simp [psA]⟩
      · have n4 : ¬ iI c = (108 : Int32) := by rw [iL_108, iI_eq (by omega) (by omega) (by omega) (by omega)]; omega
        by_cases cc : c = 107 ∨ c = 115
        · have ep : pStp (0, nb, nu, di, ac, lk, la, st) c = some (2, c.toNat, 0, 0, ac, lk, la, st) := by
            show (if c = 109 ∨ c = 100 ∨ c = 99 then _ else _) = _
            rw [if_neg ca, if_neg cb, if_pos cc]
          have ec : iI c = iI (c.toNat : Nat) := by congr 1; omega
          obtain ⟨z1, m1⟩ := h.fld (s' := (0, c.toNat, nu, di, ac, lk, la, st)) (j := 6) (v := iI c) rfl (by omega) g4 g5 g6 g8 ec g10 g11
          obtain ⟨z2, m2⟩ := z1.fld (s' := (0, c.toNat, 0, di, ac, lk, la, st)) (j := 7) (v := 0) rfl (by omega) z1.1.2.2.1.2.1 z1.1.2.2.1.2.2.1 z1.1.2.2.1.2.2.2 z1.2.1 z1.2.2.1 rfl z1.2.2.2.2
          obtain ⟨z3, m3⟩ := z2.fld (s' := (0, c.toNat, 0, 0, ac, lk, la, st)) (j := 8) (v := 0) rfl (by omega) z2.1.2.2.1.2.1 z2.1.2.2.1.2.2.1 z2.1.2.2.1.2.2.2 z2.2.1 z2.2.2.1 z2.2.2.2.1 rfl
          obtain ⟨z4, m4⟩ := z3.fld (s' := (2, c.toNat, 0, 0, ac, lk, la, st)) (j := 5) (v := 2) rfl (by omega) z3.1.2.2.1.2.1 z3.1.2.2.1.2.2.1 z3.1.2.2.1.2.2.2 (by rw [if_pos rfl]; exact iL_2) z3.2.2.1 z3.2.2.2.1 z3.2.2.2.2
          refine ⟨_, ?_, ((m1.tr m2).tr m3).tr m4, fun s' hs' => ?_⟩
          · have eb : fX3_beginsStatement p (iI c) w = some ((1 : Int32), kSI (kSI (kSI (kSI w p 6 (iI c)) p 7 0) p 8 0) p 5 2) := by
              rw [fX3_beginsStatement, if_neg n1, if_neg n2, if_neg n3, if_neg n4]
              by_cases c7 : c = 107
              · rw [if_pos (by rw [c7]; decide +kernel), kpI_e hk, Option.bind_some, kpI_e (show kKd (kSI w p 6 (iI c)) p = 3 from hk), Option.bind_some, kpI_e (show kKd (kSI (kSI w p 6 (iI c)) p 7 0) p = 3 from hk), Option.bind_some, kpI_e (show kKd (kSI (kSI (kSI w p 6 (iI c)) p 7 0) p 8 0) p = 3 from hk), Option.bind_some]
              · rw [if_neg (by rw [iL_107, iI_eq (by omega) (by omega) (by omega) (by omega)]; omega), if_pos (by rw [show c = 115 by omega]; decide +kernel), kpI_e hk, Option.bind_some, kpI_e (show kKd (kSI w p 6 (iI c)) p = 3 from hk), Option.bind_some, kpI_e (show kKd (kSI (kSI w p 6 (iI c)) p 7 0) p = 3 from hk), Option.bind_some, kpI_e (show kKd (kSI (kSI (kSI w p 6 (iI c)) p 7 0) p 8 0) p = 3 from hk), Option.bind_some]
            rw [top, ep, eb, kb2_s, kBl_1]
            rfl
          · rw [ep] at hs'
            cases hs'
            exact ⟨z4, ⟨by show 2 ≤ 2; omega, by show c.toNat < 128; omega, by show 0 ≤ 3; omega, by show 0 < 10 ^ 0; decide, b5, b6⟩, by simp [psA]⟩
        · have ep : pStp (0, nb, nu, di, ac, lk, la, st) c = none := by
            show (if c = 109 ∨ c = 100 ∨ c = 99 then _ else _) = _
            rw [if_neg ca, if_neg cb, if_neg cc]
          refine ⟨w, ?_, Sm.rf w, fun s' hs' => by rw [ep] at hs'; cases hs'⟩
          rw [top, ep, fX3_beginsStatement, if_neg n1, if_neg n2, if_neg n3, if_neg n4, if_neg (by rw [iL_107, iI_eq (by omega) (by omega) (by omega) (by omega)]; omega), if_neg (by rw [iL_115, iI_eq (by omega) (by omega) (by omega) (by omega)]; omega), kb2_s, kBl_0]
          rfl
  · -- it ends
    have e5 : kI w p 5 = 1 := by rw [g8]; decide +kernel
    obtain ⟨z1, m1⟩ := h.fld (s' := (0, nb, nu, di, ac, lk, la, st)) (j := 5) (v := 0) rfl (by omega) g4 g5 g6 rfl g9 g10 g11
    refine ⟨kSI w p 5 0, ?_, m1, fun s' hs' => ?_⟩
    · rw [fX3_accepts, kgI_e hk, Option.bind_some, e5, if_neg (by decide +kernel), if_neg (by decide +kernel), kRc_e hk, Option.bind_some, fX3_endsStatement, kpI_e hk, Option.bind_some]
      by_cases ca : c = 59
      · have ep : pStp (1, nb, nu, di, ac, lk, la, st) c = some (0, nb, nu, di, ac, lk, la, st) := if_pos ca
        rw [ep, if_pos (by rw [ca]; decide +kernel), kb2_s, kBl_1]
        rfl
      · have ep : pStp (1, nb, nu, di, ac, lk, la, st) c = none := if_neg ca
        rw [ep, if_neg (by rw [iL_59, iI_eq (by omega) (by omega) (by omega) (by omega)]; omega), kb2_s, kBl_0]
        rfl
    · have hs2 : (if c = 59 then some ((0, nb, nu, di, ac, lk, la, st) : PS) else none) = some s' := hs'
      by_cases ca : c = 59
      · rw [if_pos ca] at hs2
        cases hs2
        exact ⟨z1, ⟨by show 0 ≤ 2; omega, b2, b3, b4, b5, b6⟩, by simp [psA]⟩
      · rw [if_neg ca] at hs2
        cases hs2
  · -- a number goes on
    have e5 : kI w p 5 = 2 := by rw [g8]; decide +kernel
    have nu_lt : nu < 1000 := by
      have : 10 ^ di ≤ 10 ^ 3 := Nat.pow_le_pow_right (by decide) b3
      omega
    have top : fX3_accepts p (iI c) w = kb2 (fX3_goesOnNumber_J14 p (iI c) (if di = 0 then 49 else 48) w) fun v5 w3 => (kBl v5).bind fun v6 => some (v6, w3) := by
      rw [fX3_accepts, kgI_e hk, Option.bind_some, e5, if_neg (by decide +kernel), if_pos rfl, kRc_e hk, Option.bind_some, fX3_goesOnNumber, kgI_e hk, Option.bind_some, g11]
      by_cases hd : di = 0
      · rw [if_pos (by rw [hd]; rfl), if_pos hd]
      · rw [if_neg (by rw [iL_0, iI_eq (by omega) (by omega) (by omega) (by omega)]; omega), if_neg hd]
    have least : (if di = 0 then (49 : Int32) else 48) = iI (if di = 0 then 49 else 48) := by
      by_cases hd : di = 0
      · rw [if_pos hd, if_pos hd, iL_49]
      · rw [if_neg hd, if_neg hd, iL_48]
    have lr : (if di = 0 then (49 : Int) else 48) = 49 ∨ (if di = 0 then (49 : Int) else 48) = 48 := by
      by_cases hd : di = 0
      · rw [if_pos hd]; exact Or.inl rfl
      · rw [if_neg hd]; exact Or.inr rfl
    have eP : pStp (2, nb, nu, di, ac, lk, la, st) c = if (if di = 0 then 49 else 48) ≤ c ∧ c ≤ 57 ∧ di < 3 then some (2, nb, nu * 10 + (c - 48).toNat, di + 1, ac, lk, la, st) else if di = 0 ∨ c ≠ 59 then none else if nb = 107 then some (0, nb, nu, di, ac, lk, nu, st) else some (0, nb, nu, di, ac, lk, la, min nu 100) := rfl
    by_cases ca : (if di = 0 then 49 else 48) ≤ c ∧ c ≤ 57 ∧ di < 3
    · rw [if_pos ca] at eP
      have ev : iI (nu * 10 + (c - 48)) = iI ((nu * 10 + (c - 48).toNat : Nat) : Int) := by
        congr 1
        have := lr
        omega
      obtain ⟨z1, m1⟩ := h.fld (s' := (2, nb, nu * 10 + (c - 48).toNat, di, ac, lk, la, st)) (j := 7) (v := iI (nu * 10 + (c - 48))) rfl (by omega) g4 g5 g6 g8 g9 ev g11
      obtain ⟨z2, m2⟩ := z1.fld (s' := (2, nb, nu * 10 + (c - 48).toNat, di + 1, ac, lk, la, st)) (j := 8) (v := iI (di + 1)) rfl (by omega) z1.1.2.2.1.2.1 z1.1.2.2.1.2.2.1 z1.1.2.2.1.2.2.2 z1.2.1 z1.2.2.1 z1.2.2.2.1 rfl
      refine ⟨_, ?_, m1.tr m2, fun s' hs' => ?_⟩
      · have hd3 := ca.2.2
        have hc57 := ca.2.1
        have hle := ca.1
        rw [top, eP, least, fX3_goesOnNumber_J14, if_neg (by rw [iI_lt (by omega) (by omega) (by omega) (by omega)]; omega), if_neg (by rw [iL_57, iI_lt (by omega) (by omega) (by omega) (by omega)]; omega), kgI_e hk, Option.bind_some, g11, if_neg (by rw [iL_3, iI_le (by omega) (by omega) (by omega) (by omega)]; omega), kgI_e hk, Option.bind_some, g10, iL_10, iL_48, iI_mul, iI_sub, iI_add, kpI_e hk, Option.bind_some, kgI_e (show kKd (kSI w p 7 (iI (nu * 10 + (c - 48)))) p = 3 from hk), Option.bind_some, kI_SI_j (by omega), g11, iL_1, iI_add, kpI_e (show kKd (kSI w p 7 (iI (nu * 10 + (c - 48)))) p = 3 from hk), Option.bind_some, kb2_s, ← iL_1, kBl_1]
        rfl
      · rw [eP] at hs'
        cases hs'
        have hd3 := ca.2.2
        have hc57 := ca.2.1
        refine ⟨z2, ⟨by show 2 ≤ 2; omega, b2, by show di + 1 ≤ 3; omega, ?_, b5, b6⟩, by simp [psA]⟩
        show nu * 10 + (c - 48).toNat < 10 ^ (di + 1)
        rw [Nat.pow_succ]
        have := lr
        omega
    · rw [if_neg ca] at eP
      have top2 : fX3_accepts p (iI c) w = kb2 (fX3_goesOnNumber_J62 p (iI c) (iI (if di = 0 then 49 else 48)) w) fun v5 w3 => (kBl v5).bind fun v6 => some (v6, w3) := by
        rw [top, least, fX3_goesOnNumber_J14]
        by_cases h1 : c < (if di = 0 then 49 else 48)
        · rw [if_pos (by rw [iI_lt (by omega) (by omega) (by omega) (by omega)]; exact h1)]
        · rw [if_neg (by rw [iI_lt (by omega) (by omega) (by omega) (by omega)]; exact h1)]
          by_cases h2 : 57 < c
          · rw [if_pos (by rw [iL_57, iI_lt (by omega) (by omega) (by omega) (by omega)]; exact h2)]
          · rw [if_neg (by rw [iL_57, iI_lt (by omega) (by omega) (by omega) (by omega)]; exact h2), kgI_e hk, Option.bind_some, g11, if_pos (by rw [iL_3, iI_le (by omega) (by omega) (by omega) (by omega)]; omega)]
      rw [top2, fX3_goesOnNumber_J62, kgI_e hk, Option.bind_some, g11]
      by_cases cb : di = 0
      · rw [if_pos (Or.inl cb)] at eP
        rw [if_pos (by rw [cb]; rfl), kb2_s, kBl_0, eP]
        exact ⟨w, rfl, Sm.rf w, fun s' hs' => by cases hs'⟩
      · rw [if_neg (by rw [iL_0, iI_eq (by omega) (by omega) (by omega) (by omega)]; omega)]
        by_cases cc : c = 59
        · rw [if_neg (by omega)] at eP
          rw [if_pos (by rw [cc]; decide +kernel), kgI_e hk, Option.bind_some, g9]
          by_cases cd : nb = 107
          · rw [if_pos cd] at eP
            obtain ⟨z1, m1⟩ := h.fld (s' := (2, nb, nu, di, ac, lk, nu, st)) (j := 3) (v := iI nu) rfl (by omega) g4 rfl g6 g8 g9 g10 g11
            obtain ⟨z2, m2⟩ := z1.fld (s' := (0, nb, nu, di, ac, lk, nu, st)) (j := 5) (v := 0) rfl (by omega) z1.1.2.2.1.2.1 z1.1.2.2.1.2.2.1 z1.1.2.2.1.2.2.2 rfl z1.2.2.1 z1.2.2.2.1 z1.2.2.2.2
            rw [if_pos (by rw [cd]; decide +kernel), kgI_e hk, Option.bind_some, g10, kpI_e hk, Option.bind_some, kpI_e (show kKd (kSI w p 3 (iI nu)) p = 3 from hk), Option.bind_some, kb2_s, kBl_1, eP]
            refine ⟨_, rfl, m1.tr m2, fun s' hs' => ?_⟩
            cases hs'
            exact ⟨z2, ⟨by show 0 ≤ 2; omega, b2, b3, b4, by show nu ≤ 1000000; omega, b6⟩, by simp [psA]⟩
          · rw [if_neg cd] at eP
            have em : kMmin (iI nu) 100 = iI ((min nu 100 : Nat) : Int) := by
              rw [iL_100, kMmin_i (by omega) (by omega) (by omega) (by omega)]
              congr 1
              omega
            obtain ⟨z1, m1⟩ := h.fld (s' := (2, nb, nu, di, ac, lk, la, min nu 100)) (j := 4) (v := iI ((min nu 100 : Nat) : Int)) rfl (by omega) g4 g5 rfl g8 g9 g10 g11
            obtain ⟨z2, m2⟩ := z1.fld (s' := (0, nb, nu, di, ac, lk, la, min nu 100)) (j := 5) (v := 0) rfl (by omega) z1.1.2.2.1.2.1 z1.1.2.2.1.2.2.1 z1.1.2.2.1.2.2.2 rfl z1.2.2.1 z1.2.2.2.1 z1.2.2.2.2
            rw [if_neg (by rw [iL_107, iI_eq (by omega) (by omega) (by omega) (by omega)]; omega), kgI_e hk, Option.bind_some, g10, em, kpI_e hk, Option.bind_some, kpI_e (show kKd (kSI w p 4 (iI ((min nu 100 : Nat) : Int))) p = 3 from hk), Option.bind_some, kb2_s, kBl_1, eP]
            refine ⟨_, rfl, m1.tr m2, fun s' hs' => ?_⟩
            cases hs'
            exact ⟨z2, ⟨by show 0 ≤ 2; omega, b2, b3, b4, b5, by show min nu 100 ≤ 100; omega⟩, by simp [psA]⟩
        · rw [if_pos (Or.inr cc)] at eP
          rw [if_neg (by rw [iL_59, iI_eq (by omega) (by omega) (by omega) (by omega)]; omega), kb2_s, kBl_0, eP]
          exact ⟨w, rfl, Sm.rf w, fun s' hs' => by cases hs'⟩
