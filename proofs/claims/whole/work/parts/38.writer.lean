/-! THE WRITER: text written so far, what is to be written behind each open part -/
theorem fTxt_len : ∀ f, fOk f → (fTxt f).length + 1 ≤ 2 * fSz f := by
  refine fInd ?_ ?_ ?_ ?_
  · intro i hi; exact Nat.le_refl 2
  · intro a ha ih
    rw [fSz_neg]
    simp only [fTxt, List.length_cons]
    omega
  · intro a b ha hb iha ihb
    rw [fSz_add]
    simp only [fTxt, List.length_cons, List.length_append, List.length_nil]
    omega
  · intro a b ha hb iha ihb
    rw [fSz_sub]
    simp only [fTxt, List.length_cons, List.length_append, List.length_nil]
    omega
def wE : List Nat → List Nat → List Nat × List Nat
  | T, [] => (T, [])
  | T, c :: P => if c = 118 ∨ c = 62 then (T ++ [c], 41 :: P) else if c = 41 then wE (T ++ [41]) P else wE T P
def wl : List Nat → Nat
  | [] => 0
  | c :: P => (if c = 118 ∨ c = 62 then 2 else if c = 41 then 1 else 0) + wl P
theorem wE_cons (T : List Nat) (c : Nat) (P : List Nat) : wE T (c :: P) = if c = 118 ∨ c = 62 then (T ++ [c], 41 :: P) else if c = 41 then wE (T ++ [41]) P else wE T P := rfl
theorem wl_cons (c : Nat) (P : List Nat) : wl (c :: P) = (if c = 118 ∨ c = 62 then 2 else if c = 41 then 1 else 0) + wl P := rfl
def wOk (P : List Nat) : Prop := ∀ c ∈ P, c = 118 ∨ c = 62 ∨ c = 41 ∨ c = 126
theorem wE_len : ∀ (P T : List Nat), (wE T P).1.length + wl (wE T P).2 = T.length + wl P := by
  intro P
  induction P with
  | nil => intro T; rfl
  | cons c P ih =>
    intro T
    rw [wE_cons, wl_cons]
    by_cases h1 : c = 118 ∨ c = 62
    · rw [if_pos h1, if_pos h1, wl_cons]
      simp; omega
    · rw [if_neg h1, if_neg h1]
      by_cases h2 : c = 41
      · rw [if_pos h2, if_pos h2, ih]
        simp; omega
      · rw [if_neg h2, if_neg h2, ih]
        omega
theorem wE_ok : ∀ (P T : List Nat), wOk P → wOk (wE T P).2 ∧ (wE T P).2.length ≤ P.length := by
  intro P
  induction P with
  | nil => intro T h; exact ⟨h, Nat.le_refl _⟩
  | cons c P ih =>
    intro T h
    have hP : wOk P := fun d hd => h d (List.mem_cons_of_mem _ hd)
    unfold wE
    by_cases h1 : c = 118 ∨ c = 62
    · rw [if_pos h1]
      exact ⟨fun d hd => (List.mem_cons.mp hd).elim (fun e => Or.inr (Or.inr (Or.inl e))) (hP d), Nat.le_refl _⟩
    · rw [if_neg h1]
      by_cases h2 : c = 41
      · rw [if_pos h2]
        exact ⟨(ih _ hP).1, Nat.le_succ_of_le (ih _ hP).2⟩
      · rw [if_neg h2]
        exact ⟨(ih _ hP).1, Nat.le_succ_of_le (ih _ hP).2⟩
def WrS (ow : Nat → Nat × Nat) (w : kW) (q : Nat) : Prop := kKd w q = 10 ∧ ow q = (q, 0) ∧ LnA ow w q 400 0 13 ∧ LnA ow w q 200 1 14
def WrV (w : kW) (q : Nat) (T P : List Nat) : Prop := kI w q 2 = iI T.length ∧ kI w q 3 = iI P.length ∧ (∀ (i c : Nat), T[i]? = some c → kI w (Lp w q 0) i = iI c) ∧ ∀ (i c : Nat), P.reverse[i]? = some c → kI w (Lp w q 1) i = iI c
def Wr (ow : Nat → Nat × Nat) (w : kW) (q : Nat) (T P : List Nat) : Prop := WrS ow w q ∧ WrV w q T P
theorem WrS.sm {ow : Nat → Nat × Nat} {S : Nat → Prop} {w w1 : kW} {q : Nat} (h : WrS ow w q) (hs : Sm ow S w w1) : WrS ow w1 q := ⟨by rw [hs.1]; exact h.1, h.2.1, h.2.2.1.sm hs, h.2.2.2.sm hs⟩
theorem WrS.sq {ow : Nat → Nat × Nat} {S : Nat → Prop} {w w1 : kW} {q : Nat} (h : WrS ow w q) (hs : Sq ow S w w1) (hn : ¬ S q) : WrS ow w1 q := ⟨by rw [hs.1]; exact h.1, h.2.1, h.2.2.1.sq hs (by rw [h.2.1]; exact hn), h.2.2.2.sq hs (by rw [h.2.1]; exact hn)⟩
theorem WrS.ne {ow : Nat → Nat × Nat} {w : kW} {q : Nat} (h : WrS ow w q) : q ≠ Lp w q 0 ∧ q ≠ Lp w q 1 ∧ Lp w q 0 ≠ Lp w q 1 := by
  obtain ⟨hk, ho, ⟨p0, k0, n0, o0⟩, ⟨p1, k1, n1, o1⟩⟩ := h
  refine ⟨fun e => ?_, fun e => ?_, fun e => ?_⟩
  · rw [← e, hk] at k0; omega
  · rw [← e, hk] at k1; omega
  · rw [e, k1] at k0; omega
theorem append_ok {ow : Nat → Nat × Nat} {w : kW} {q : Nat} {T P : List Nat} (h : Wr ow w q T P) (c : Nat) (hc : c < 128) (ht : T.length < 400) : ∃ w', fX10_append q (iI c) w = some w' ∧ Wr ow w' q (T ++ [c]) P ∧ Sm ow (fun z => z = q) w w' := by
  obtain ⟨hS, v2, v3, vT, vP⟩ := h
  obtain ⟨n1, n2, n3⟩ := hS.ne
  obtain ⟨hk, ho, ⟨p0, k0, n0, o0⟩, ⟨p1, k1, l1, o1⟩⟩ := id hS
  have s1 : Sm ow (fun z => z = q) w (kSI (kSI w (Lp w q 0) T.length (iI c)) q 2 (iI (T.length + 1))) := (Sm.si (by rw [o0])).tr (Sm.si (by rw [ho]))
  refine ⟨kSI (kSI w (Lp w q 0) T.length (iI c)) q 2 (iI (T.length + 1)), ?_, ⟨hS.sm s1, ?_, ?_, ?_, ?_⟩, s1⟩
  · rw [fX10_append]
    have hb : (iI c).toInt8.toInt32 = iI c := nar_b (by omega) (by omega)
    simp (disch := (first | omega | (simp only [kKd_SI, kKd_SP, kKd_SJ, kLn_SI, kLn_SP, kLn_SJ]; omega))) only [iI_add, iI_sub, iI_mul, iI_neg, iI_n, iL_0, iL_1, iL_2, iL_3, iL_4, iL_5, iL_6, iL_7, iL_8, iL_9, iL_10, iL_11, iL_12, iL_13, iL_14, iL_15, iL_16, iL_17, iL_18, iL_19, iL_20, iL_21, iL_22, iL_23, iL_24, iL_27, iL_32, iL_40, iL_41, iL_43, iL_48, iL_49, iL_57, iL_59, iL_60, iL_62, iL_63, iL_64, iL_83, iL_99, iL_100, iL_107, iL_108, iL_109, iL_112, iL_115, iL_117, iL_118, iL_120, iL_121, iL_123, iL_126, iL_127, iL_136, iL_163, iL_200, iL_203, iL_243, iL_400, iL_512, iL_960, iL_1000, iL_2400, iL_4000, iL_6000, iL_8000, iL_8001, iL_9000, iL_10000, iL_12345, iL_65536, iL_1000000, iL_252645135, iL_858993459, iL_1103515245, iL_1431655765, iL_2147483647, iI_lt, iI_le, iI_eq, kgI_e, kgP_e, kpI_e, kpP_e, kal_e, kaI_e, kaP_e, kaJ_e, ksI_e, ksP_e, ksJ_e, kRc_e, kIx_i, Option.bind_some, Option.map_some, v2, p0, n0, if_pos, if_neg, ite_true, hb, nar_b, Int.toNat_natCast, kI_SI_o n1, kKd_SI, kKd_SP, kKd_SJ, kLn_SI, kLn_SP, kLn_SJ, kP_SI, kP_SJ, kJ_SI, kJ_SP, kI_SP, kI_SJ, kSz_SI, kSz_SP, kSz_SJ]
  · rw [kI_SI_s]; simp
  · rw [kI_SI_j (by omega), kI_SI_o n1]; exact v3
  · intro i d hd
    rw [s1.lp, kI_SI_o (Ne.symm n1), kI_SI]
    by_cases hi : i = T.length
    · subst hi
      rw [if_pos ⟨rfl, rfl⟩]
      simp at hd
      rw [hd]
    · rw [if_neg (fun z => hi z.2)]
      refine vT i d ?_
      rw [List.getElem?_append] at hd
      by_cases hi2 : i < T.length
      · rw [if_pos hi2] at hd; exact hd
      · rw [if_neg hi2] at hd
        rw [List.getElem?_eq_none (by simp; omega)] at hd
        cases hd
  · intro i d hd
    rw [s1.lp, kI_SI_o (Ne.symm n2), kI_SI_o (Ne.symm n3)]
    exact vP i d hd
theorem opn_ok {ow : Nat → Nat × Nat} {w : kW} {q : Nat} {T P : List Nat} (h : Wr ow w q T P) (c : Nat) (ht : P.length < 200) : ∃ w', fX10_open q (iI c) w = some w' ∧ Wr ow w' q T (c :: P) ∧ Sm ow (fun z => z = q) w w' := by
  obtain ⟨hS, v2, v3, vT, vP⟩ := h
  obtain ⟨n1, n2, n3⟩ := hS.ne
  obtain ⟨hk, ho, ⟨p0, k0, n0, o0⟩, ⟨p1, k1, l1, o1⟩⟩ := id hS
  have s1 : Sm ow (fun z => z = q) w (kSI (kSI w (Lp w q 1) P.length (iI c)) q 3 (iI (P.length + 1))) := (Sm.si (by rw [o1])).tr (Sm.si (by rw [ho]))
  refine ⟨kSI (kSI w (Lp w q 1) P.length (iI c)) q 3 (iI (P.length + 1)), ?_, ⟨hS.sm s1, ?_, ?_, ?_, ?_⟩, s1⟩
  · rw [fX10_open]
    simp (disch := (first | omega | (simp only [kKd_SI, kKd_SP, kKd_SJ, kLn_SI, kLn_SP, kLn_SJ]; omega))) only [iI_add, iI_sub, iI_mul, iI_neg, iI_n, iL_0, iL_1, iL_2, iL_3, iL_4, iL_5, iL_6, iL_7, iL_8, iL_9, iL_10, iL_11, iL_12, iL_13, iL_14, iL_15, iL_16, iL_17, iL_18, iL_19, iL_20, iL_21, iL_22, iL_23, iL_24, iL_27, iL_32, iL_40, iL_41, iL_43, iL_48, iL_49, iL_57, iL_59, iL_60, iL_62, iL_63, iL_64, iL_83, iL_99, iL_100, iL_107, iL_108, iL_109, iL_112, iL_115, iL_117, iL_118, iL_120, iL_121, iL_123, iL_126, iL_127, iL_136, iL_163, iL_200, iL_203, iL_243, iL_400, iL_512, iL_960, iL_1000, iL_2400, iL_4000, iL_6000, iL_8000, iL_8001, iL_9000, iL_10000, iL_12345, iL_65536, iL_1000000, iL_252645135, iL_858993459, iL_1103515245, iL_1431655765, iL_2147483647, iI_lt, iI_le, iI_eq, kgI_e, kgP_e, kpI_e, kpP_e, kal_e, kaI_e, kaP_e, kaJ_e, ksI_e, ksP_e, ksJ_e, kRc_e, kIx_i, Option.bind_some, Option.map_some, v3, p1, l1, if_pos, if_neg, ite_true, ite_false, Int.toNat_natCast, kI_SI_o n2, kKd_SI, kKd_SP, kKd_SJ, kLn_SI, kLn_SP, kLn_SJ, kP_SI, kP_SJ, kJ_SI, kJ_SP, kI_SP, kI_SJ, kSz_SI, kSz_SP, kSz_SJ]
  · rw [kI_SI_j (by omega), kI_SI_o n2]; exact v2
  · rw [kI_SI_s]; simp
  · intro i d hd
    rw [s1.lp, kI_SI_o (Ne.symm n1), kI_SI_o n3]
    exact vT i d hd
  · intro i d hd
    rw [s1.lp, kI_SI_o (Ne.symm n2), kI_SI]
    rw [List.reverse_cons] at hd
    by_cases hi : i = P.length
    · subst hi
      rw [if_pos ⟨rfl, rfl⟩]
      rw [List.getElem?_append_right (by simp)] at hd
      simp at hd
      rw [hd]
    · rw [if_neg (fun z => hi z.2)]
      refine vP i d ?_
      rw [List.getElem?_append] at hd
      by_cases hi2 : i < P.reverse.length
      · rw [if_pos hi2] at hd; exact hd
      · rw [if_neg hi2] at hd
        rw [List.getElem?_eq_none (by simp at hi2 ⊢; omega)] at hd
        cases hd
theorem endPart_loop {ow : Nat → Nat × Nat} {q : Nat} (kont : kW → Option kW) (hkont : ∀ z, kont z = some z) : ∀ (P T : List Nat) (n : Nat) (w : kW), P.length < n → Wr ow w q T P → wOk P → P.length ≤ 200 → T.length + wl P ≤ 400 →
    ∃ w', fX10_endPart_L0 q n kont w = some w' ∧ Wr ow w' q (wE T P).1 (wE T P).2 ∧ Sm ow (fun z => z = q) w w' := by
  intro P
  induction P with
  | nil =>
    intro T n w hn h hP hl hw
    obtain ⟨n, rfl⟩ : ∃ z, n = z + 1 := ⟨n - 1, by omega⟩
    refine ⟨w, ?_, h, Sm.rf w⟩
    have v3 : kI w q 3 = iI (0 : Int) := h.2.2.1
    have hk := h.1.1
    rw [fX10_endPart_L0]
    simp (disch := omega) only [iI_add, iI_sub, iI_mul, iI_neg, iI_n, iL_0, iL_1, iL_2, iL_3, iL_4, iL_5, iL_6, iL_7, iL_8, iL_9, iL_10, iL_11, iL_12, iL_13, iL_14, iL_15, iL_16, iL_17, iL_18, iL_19, iL_20, iL_21, iL_22, iL_23, iL_24, iL_27, iL_32, iL_40, iL_41, iL_43, iL_48, iL_49, iL_57, iL_59, iL_60, iL_62, iL_63, iL_64, iL_83, iL_99, iL_100, iL_107, iL_108, iL_109, iL_112, iL_115, iL_117, iL_118, iL_120, iL_121, iL_123, iL_126, iL_127, iL_136, iL_163, iL_200, iL_203, iL_243, iL_400, iL_512, iL_960, iL_1000, iL_2400, iL_4000, iL_6000, iL_8000, iL_8001, iL_9000, iL_10000, iL_12345, iL_65536, iL_1000000, iL_252645135, iL_858993459, iL_1103515245, iL_1431655765, iL_2147483647, iI_lt, iI_le, iI_eq, kgI_e, kgP_e, kpI_e, kpP_e, kal_e, kaI_e, kaP_e, kaJ_e, ksI_e, ksP_e, ksJ_e, kRc_e, kIx_i, Option.bind_some, Option.map_some, v3, if_pos]
    exact hkont w
  | cons c P ih =>
    intro T n w hn h hP hl hw
    obtain ⟨n, rfl⟩ : ∃ z, n = z + 1 := ⟨n - 1, by omega⟩
    obtain ⟨hS, v2, v3, vT, vP⟩ := id h
    obtain ⟨n1, n2, n3⟩ := hS.ne
    obtain ⟨hk, ho, ⟨p0, k0, n0, o0⟩, ⟨p1, k1, l1, o1⟩⟩ := id hS
    have hPo : wOk P := fun d hd => hP d (List.mem_cons_of_mem _ hd)
    rw [List.length_cons] at hn hl v3
    have vt : kI w (Lp w q 1) P.length = iI c := vP P.length c (by
      rw [List.reverse_cons, List.getElem?_append_right (by simp)]
      simp)
    have hc := hP c List.mem_cons_self
    have down : ∀ (w1 : kW) (T1 : List Nat), Wr ow w1 q T1 (c :: P) → Wr ow (kSI w1 q 3 (iI P.length)) q T1 P ∧ Sm ow (fun z => z = q) w1 (kSI w1 q 3 (iI P.length)) := by
      intro w1 T1 h1
      have s1 : Sm ow (fun z => z = q) w1 (kSI w1 q 3 (iI P.length)) := Sm.si (by rw [h1.1.2.1])
      obtain ⟨m1, m2, m3⟩ := h1.1.ne
      refine ⟨⟨h1.1.sm s1, ?_, kI_SI_s, fun i d hd => ?_, fun i d hd => ?_⟩, s1⟩
      · rw [kI_SI_j (by omega)]; exact h1.2.1
      · rw [s1.lp, kI_SI_o (Ne.symm m1)]; exact h1.2.2.2.1 i d hd
      · rw [s1.lp, kI_SI_o (Ne.symm m2)]
        refine h1.2.2.2.2 i d ?_
        rw [List.reverse_cons, List.getElem?_append_left (List.getElem?_eq_some_iff.mp hd).1]
        exact hd
    have eN : ((P.length + 1 : Nat) : Int) - 1 = P.length := by omega
    have eN2 : (P.length : Int) + 1 - 1 = P.length := by omega
    rw [fX10_endPart_L0]
    rcases hc with hc | hc | hc | hc
    · subst hc
      obtain ⟨w1, e1, h1, s1⟩ := append_ok h 118 (by omega) (by simp [wl] at hw; omega)
      have hk1 := h1.1.1
      obtain ⟨q1, q2, q3, q4⟩ := h1.1.2.2.2
      have v3' := h1.2.2.1
      rw [List.length_cons] at v3'
      obtain ⟨m1, m2, m3⟩ := h1.1.ne
      have s2 : Sm ow (fun z => z = q) w1 (kSI w1 (Lp w1 q 1) P.length (iI 41)) := Sm.si (by rw [q4])
      have e1' : fX10_append q (iI 118) w = some w1 := e1
      refine ⟨kSI w1 (Lp w1 q 1) P.length (iI 41), ?_, ?_, s1.tr s2⟩
      · push_cast at v3 v3' vt
        simp (disch := omega) only [iI_add, iI_sub, iI_mul, iI_neg, iI_n, iL_0, iL_1, iL_2, iL_3, iL_4, iL_5, iL_6, iL_7, iL_8, iL_9, iL_10, iL_11, iL_12, iL_13, iL_14, iL_15, iL_16, iL_17, iL_18, iL_19, iL_20, iL_21, iL_22, iL_23, iL_24, iL_27, iL_32, iL_40, iL_41, iL_43, iL_48, iL_49, iL_57, iL_59, iL_60, iL_62, iL_63, iL_64, iL_83, iL_99, iL_100, iL_107, iL_108, iL_109, iL_112, iL_115, iL_117, iL_118, iL_120, iL_121, iL_123, iL_126, iL_127, iL_136, iL_163, iL_200, iL_203, iL_243, iL_400, iL_512, iL_960, iL_1000, iL_2400, iL_4000, iL_6000, iL_8000, iL_8001, iL_9000, iL_10000, iL_12345, iL_65536, iL_1000000, iL_252645135, iL_858993459, iL_1103515245, iL_1431655765, iL_2147483647, iI_lt, iI_le, iI_eq, kgI_e, kgP_e, kpI_e, kpP_e, kal_e, kaI_e, kaP_e, kaJ_e, ksI_e, ksP_e, ksJ_e, kRc_e, kIx_i, Option.bind_some, Option.map_some, v3, v3', p1, l1, q1, q3, vt, if_pos, if_neg, ite_true, ite_false, Int.toNat_natCast, eN, eN2, e1']
      · show Wr ow _ q (if 118 = 118 ∨ 118 = 62 then (T ++ [118], 41 :: P) else _).1 (if 118 = 118 ∨ 118 = 62 then (T ++ [118], 41 :: P) else _).2
        rw [if_pos (Or.inl rfl)]
        refine ⟨h1.1.sm s2, ?_, ?_, fun i d hd => ?_, fun i d hd => ?_⟩
        · rw [kI_SI_o m2]; exact h1.2.1
        · rw [kI_SI_o m2]; exact h1.2.2.1
        · rw [s2.lp, kI_SI_o m3]; exact h1.2.2.2.1 i d hd
        · rw [s2.lp, kI_SI]
          rw [List.reverse_cons] at hd
          by_cases hi : i = P.length
          · subst hi
            rw [if_pos ⟨rfl, rfl⟩]
            rw [List.getElem?_append_right (by simp)] at hd
            simp at hd
            rw [← hd]; rfl
          · rw [if_neg (fun z => hi z.2)]
            refine h1.2.2.2.2 i d ?_
            rw [List.reverse_cons]
            rw [List.getElem?_append] at hd ⊢
            by_cases hi2 : i < P.reverse.length
            · rw [if_pos hi2] at hd ⊢; exact hd
            · rw [if_neg hi2] at hd
              rw [List.getElem?_eq_none (by simp at hi2 ⊢; omega)] at hd
              cases hd
    · subst hc
      obtain ⟨w1, e1, h1, s1⟩ := append_ok h 62 (by omega) (by simp [wl] at hw; omega)
      have hk1 := h1.1.1
      obtain ⟨q1, q2, q3, q4⟩ := h1.1.2.2.2
      have v3' := h1.2.2.1
      rw [List.length_cons] at v3'
      obtain ⟨m1, m2, m3⟩ := h1.1.ne
      have s2 : Sm ow (fun z => z = q) w1 (kSI w1 (Lp w1 q 1) P.length (iI 41)) := Sm.si (by rw [q4])
      have e1' : fX10_append q (iI 62) w = some w1 := e1
      refine ⟨kSI w1 (Lp w1 q 1) P.length (iI 41), ?_, ?_, s1.tr s2⟩
      · push_cast at v3 v3' vt
        simp (disch := omega) only [iI_add, iI_sub, iI_mul, iI_neg, iI_n, iL_0, iL_1, iL_2, iL_3, iL_4, iL_5, iL_6, iL_7, iL_8, iL_9, iL_10, iL_11, iL_12, iL_13, iL_14, iL_15, iL_16, iL_17, iL_18, iL_19, iL_20, iL_21, iL_22, iL_23, iL_24, iL_27, iL_32, iL_40, iL_41, iL_43, iL_48, iL_49, iL_57, iL_59, iL_60, iL_62, iL_63, iL_64, iL_83, iL_99, iL_100, iL_107, iL_108, iL_109, iL_112, iL_115, iL_117, iL_118, iL_120, iL_121, iL_123, iL_126, iL_127, iL_136, iL_163, iL_200, iL_203, iL_243, iL_400, iL_512, iL_960, iL_1000, iL_2400, iL_4000, iL_6000, iL_8000, iL_8001, iL_9000, iL_10000, iL_12345, iL_65536, iL_1000000, iL_252645135, iL_858993459, iL_1103515245, iL_1431655765, iL_2147483647, iI_lt, iI_le, iI_eq, kgI_e, kgP_e, kpI_e, kpP_e, kal_e, kaI_e, kaP_e, kaJ_e, ksI_e, ksP_e, ksJ_e, kRc_e, kIx_i, Option.bind_some, Option.map_some, v3, v3', p1, l1, q1, q3, vt, if_pos, if_neg, ite_true, ite_false, Int.toNat_natCast, eN, eN2, e1']
      · show Wr ow _ q (if 62 = 118 ∨ 62 = 62 then (T ++ [62], 41 :: P) else _).1 (if 62 = 118 ∨ 62 = 62 then (T ++ [62], 41 :: P) else _).2
        rw [if_pos (Or.inr rfl)]
        refine ⟨h1.1.sm s2, ?_, ?_, fun i d hd => ?_, fun i d hd => ?_⟩
        · rw [kI_SI_o m2]; exact h1.2.1
        · rw [kI_SI_o m2]; exact h1.2.2.1
        · rw [s2.lp, kI_SI_o m3]; exact h1.2.2.2.1 i d hd
        · rw [s2.lp, kI_SI]
          rw [List.reverse_cons] at hd
          by_cases hi : i = P.length
          · subst hi
            rw [if_pos ⟨rfl, rfl⟩]
            rw [List.getElem?_append_right (by simp)] at hd
            simp at hd
            rw [← hd]; rfl
          · rw [if_neg (fun z => hi z.2)]
            refine h1.2.2.2.2 i d ?_
            rw [List.reverse_cons]
            rw [List.getElem?_append] at hd ⊢
            by_cases hi2 : i < P.reverse.length
            · rw [if_pos hi2] at hd ⊢; exact hd
            · rw [if_neg hi2] at hd
              rw [List.getElem?_eq_none (by simp at hi2 ⊢; omega)] at hd
              cases hd
    · subst hc
      obtain ⟨w1, e1, h1, s1⟩ := append_ok h 41 (by omega) (by simp [wl] at hw; omega)
      have hk1 := h1.1.1
      have v3' := h1.2.2.1
      rw [List.length_cons] at v3'
      have e1' : fX10_append q (iI 41) w = some w1 := e1
      obtain ⟨h2, s2⟩ := down w1 _ h1
      obtain ⟨w3, e3, h3, s3⟩ := ih (T ++ [41]) n _ (by omega) h2 hPo (by omega) (by simp [wl] at hw ⊢; omega)
      refine ⟨w3, ?_, ?_, (s1.tr s2).tr s3⟩
      · push_cast at v3 v3' vt
        simp (disch := omega) only [iI_add, iI_sub, iI_mul, iI_neg, iI_n, iL_0, iL_1, iL_2, iL_3, iL_4, iL_5, iL_6, iL_7, iL_8, iL_9, iL_10, iL_11, iL_12, iL_13, iL_14, iL_15, iL_16, iL_17, iL_18, iL_19, iL_20, iL_21, iL_22, iL_23, iL_24, iL_27, iL_32, iL_40, iL_41, iL_43, iL_48, iL_49, iL_57, iL_59, iL_60, iL_62, iL_63, iL_64, iL_83, iL_99, iL_100, iL_107, iL_108, iL_109, iL_112, iL_115, iL_117, iL_118, iL_120, iL_121, iL_123, iL_126, iL_127, iL_136, iL_163, iL_200, iL_203, iL_243, iL_400, iL_512, iL_960, iL_1000, iL_2400, iL_4000, iL_6000, iL_8000, iL_8001, iL_9000, iL_10000, iL_12345, iL_65536, iL_1000000, iL_252645135, iL_858993459, iL_1103515245, iL_1431655765, iL_2147483647, iI_lt, iI_le, iI_eq, kgI_e, kgP_e, kpI_e, kpP_e, kal_e, kaI_e, kaP_e, kaJ_e, ksI_e, ksP_e, ksJ_e, kRc_e, kIx_i, Option.bind_some, Option.map_some, v3, v3', p1, l1, vt, if_pos, if_neg, ite_true, ite_false, Int.toNat_natCast, eN, eN2, e1']
        exact e3
      · show Wr ow _ q (if 41 = 118 ∨ 41 = 62 then _ else if 41 = 41 then wE (T ++ [41]) P else wE T P).1 (if 41 = 118 ∨ 41 = 62 then _ else if 41 = 41 then wE (T ++ [41]) P else wE T P).2
        rw [if_neg (by omega), if_pos rfl]
        exact h3
    · subst hc
      obtain ⟨h2, s2⟩ := down w _ h
      obtain ⟨w3, e3, h3, s3⟩ := ih T n _ (by omega) h2 hPo (by omega) (by simp [wl] at hw ⊢; omega)
      refine ⟨w3, ?_, ?_, s2.tr s3⟩
      · push_cast at v3 vt
        simp (disch := omega) only [iI_add, iI_sub, iI_mul, iI_neg, iI_n, iL_0, iL_1, iL_2, iL_3, iL_4, iL_5, iL_6, iL_7, iL_8, iL_9, iL_10, iL_11, iL_12, iL_13, iL_14, iL_15, iL_16, iL_17, iL_18, iL_19, iL_20, iL_21, iL_22, iL_23, iL_24, iL_27, iL_32, iL_40, iL_41, iL_43, iL_48, iL_49, iL_57, iL_59, iL_60, iL_62, iL_63, iL_64, iL_83, iL_99, iL_100, iL_107, iL_108, iL_109, iL_112, iL_115, iL_117, iL_118, iL_120, iL_121, iL_123, iL_126, iL_127, iL_136, iL_163, iL_200, iL_203, iL_243, iL_400, iL_512, iL_960, iL_1000, iL_2400, iL_4000, iL_6000, iL_8000, iL_8001, iL_9000, iL_10000, iL_12345, iL_65536, iL_1000000, iL_252645135, iL_858993459, iL_1103515245, iL_1431655765, iL_2147483647, iI_lt, iI_le, iI_eq, kgI_e, kgP_e, kpI_e, kpP_e, kal_e, kaI_e, kaP_e, kaJ_e, ksI_e, ksP_e, ksJ_e, kRc_e, kIx_i, Option.bind_some, Option.map_some, v3, p1, l1, vt, if_pos, if_neg, ite_true, ite_false, Int.toNat_natCast, eN, eN2]
        exact e3
      · show Wr ow _ q (if 126 = 118 ∨ 126 = 62 then _ else if 126 = 41 then wE (T ++ [41]) P else wE T P).1 (if 126 = 118 ∨ 126 = 62 then _ else if 126 = 41 then wE (T ++ [41]) P else wE T P).2
        rw [if_neg (by omega), if_neg (by omega)]
        exact h3
theorem endPart_ok {ow : Nat → Nat × Nat} {q : Nat} {P T : List Nat} {w : kW} (h : Wr ow w q T P) (hP : wOk P) (hl : P.length ≤ 200) (hw : T.length + wl P ≤ 400) : ∃ w', fX10_endPart q w = some w' ∧ Wr ow w' q (wE T P).1 (wE T P).2 ∧ Sm ow (fun z => z = q) w w' :=
  endPart_loop (fun z => some z) (fun _ => rfl) P T kFU w (by unfold kFU; omega) h hP hl hw
