/-! the text of a part, byte by byte -/
theorem write_let {ow : Nat → Nat × Nat} {q : Nat} {P T : List Nat} {w : kW} (h : Wr ow w q T P) (hP : wOk P) (i : Nat) (hi : i < 6) (hl : P.length ≤ 200) (hw : T.length + 1 + wl P ≤ 400) : ∃ w', fX10_write q (iI (112 + i : Nat)) w = some w' ∧ Wr ow w' q (wE (T ++ [112 + i]) P).1 (wE (T ++ [112 + i]) P).2 ∧ Sm ow (fun z => z = q) w w' := by
  have hlo : fX11_letterOf (iI (112 + i : Nat)) = some (iI i) := by
    rw [letterOf_ok _ (by omega) (by omega)]
    unfold leZ
    rw [if_pos (by omega)]
    congr 2
    omega
  obtain ⟨w1, e1, h1, s1⟩ := append_ok h (112 + i) (by omega) (by omega)
  obtain ⟨w2, e2, h2, s2⟩ := endPart_ok h1 hP hl (by simp; omega)
  refine ⟨w2, ?_, h2, s1.tr s2⟩
  have hk := h.1.1
  have hk1 := h1.1.1
  rw [fX10_write, hlo]
  simp (disch := omega) only [kgI_e, kgP_e, kpI_e, kpP_e, kal_e, kaI_e, kaP_e, kaJ_e, ksI_e, ksP_e, ksJ_e, kRc_e, kIx_i, Option.bind_some, Option.map_some, iI_lt, iI_le, iI_eq, if_neg, iL_0, e1, e2]
theorem write_not {ow : Nat → Nat × Nat} {q : Nat} {P T : List Nat} {w : kW} (h : Wr ow w q T P) (hl : P.length < 200) (hw : T.length < 400) : ∃ w', fX10_write q (iI (126 : Nat)) w = some w' ∧ Wr ow w' q (T ++ [126]) (126 :: P) ∧ Sm ow (fun z => z = q) w w' := by
  have hlo : fX11_letterOf (iI (126 : Nat)) = some (iI (-1)) := by
    rw [letterOf_ok _ (by omega) (by omega)]
    unfold leZ
    rw [if_neg (by omega)]
  obtain ⟨w1, e1, h1, s1⟩ := append_ok h 126 (by omega) (by omega)
  obtain ⟨w2, e2, h2, s2⟩ := opn_ok h1 126 hl
  refine ⟨w2, ?_, h2, s1.tr s2⟩
  have hk := h.1.1
  have hk1 := h1.1.1
  rw [fX10_write, hlo]
  push_cast at e1 e2 ⊢
  simp (disch := omega) only [kgI_e, kgP_e, kpI_e, kpP_e, kal_e, kaI_e, kaP_e, kaJ_e, ksI_e, ksP_e, ksJ_e, kRc_e, kIx_i, Option.bind_some, Option.map_some, iI_lt, iI_le, iI_eq, if_neg, if_pos, iL_0, iL_126, e1, e2, ite_true]
theorem write_two {ow : Nat → Nat × Nat} {q : Nat} {P T : List Nat} {w : kW} (h : Wr ow w q T P) (c : Nat) (hc : c = 118 ∨ c = 62) (hl : P.length < 200) (hw : T.length < 400) : ∃ w', fX10_write q (iI c) w = some w' ∧ Wr ow w' q (T ++ [40]) (c :: P) ∧ Sm ow (fun z => z = q) w w' := by
  have hlo : fX11_letterOf (iI c) = some (iI (-1)) := by
    rw [letterOf_ok _ (by omega) (by omega)]
    unfold leZ
    rw [if_neg (by omega)]
  obtain ⟨w1, e1, h1, s1⟩ := append_ok h 40 (by omega) (by omega)
  obtain ⟨w2, e2, h2, s2⟩ := opn_ok h1 c hl
  refine ⟨w2, ?_, h2, s1.tr s2⟩
  have hk := h.1.1
  have hk1 := h1.1.1
  have e1' : fX10_append q (iI 40) w = some w1 := e1
  rw [fX10_write, hlo]
  simp (disch := omega) only [kgI_e, kgP_e, kpI_e, kpP_e, kal_e, kaI_e, kaP_e, kaJ_e, ksI_e, ksP_e, ksJ_e, kRc_e, kIx_i, Option.bind_some, Option.map_some, iI_lt, iI_le, iI_eq, if_neg, if_pos, iL_0, iL_126, iL_40, e1', e2]
theorem byteOf_step {ow : Nat → Nat × Nat} {q a cap : Nat} {v : List Nat} (x2 x3 : Int32) (E : Int) (hE2 : E ≤ 200) (k : Int32 → kW → Option (Int32 × kW)) (hne : a ≠ q) :
    ∀ A, fOk A → ∀ (X Y T P : List Nat) (n : Nat) (w : kW), v = X ++ (fPre A ++ Y) → (X.length + fSz A : Nat) ≤ E → fSz A < n → Ln ow w a cap v → Wr ow w q T P → wOk P → P.length + fSz A ≤ 200 → T.length + (fTxt A).length + wl P ≤ 400 →
    ∃ w', fX10_byteOf_L20 q (some a) x2 x3 (iI E) n k (iI X.length) w = fX10_byteOf_L20 q (some a) x2 x3 (iI E) (n - fSz A) k (iI (X.length + fSz A : Nat)) w' ∧ Wr ow w' q (wE (T ++ fTxt A) P).1 (wE (T ++ fTxt A) P).2 ∧ Sm ow (fun z => z = q) w w' := by
  have one : ∀ (X Z : List Nat) (c : Nat) (n : Nat) (w w1 : kW), v = X ++ c :: Z → X.length < E → Ln ow w a cap v → kKd w q = 10 → fX10_write q (iI c) w = some w1 →
      fX10_byteOf_L20 q (some a) x2 x3 (iI E) (n + 1) k (iI X.length) w = fX10_byteOf_L20 q (some a) x2 x3 (iI E) n k (iI (X.length + 1 : Nat)) w1 := by
    intro X Z c n w w1 e1 hlt h hkq ew
    have hk := h.1.1
    have b1 := h.2.1
    have b2 := h.1.2.2.1
    have l1 : v.length = X.length + 1 + Z.length := by rw [e1]; simp; omega
    have f1 := at_at h e1
    rw [fX10_byteOf_L20]
    push_cast
    simp (disch := omega) only [kgI_e, kgP_e, kpI_e, kpP_e, kal_e, kaI_e, kaP_e, kaJ_e, ksI_e, ksP_e, ksJ_e, kRc_e, kIx_i, Option.bind_some, Option.map_some, iI_lt, iI_le, iI_eq, f1, ew, if_neg, iI_add, iL_1]
  refine fInd ?_ ?_ ?_ ?_
  · intro i hi X Y T P n w e1 hE hn h hw hP hl ht
    obtain ⟨n, rfl⟩ : ∃ z, n = z + 1 := ⟨n - 1, by omega⟩
    rw [fSz_var] at hE hn hl
    obtain ⟨w1, e2, h1, s1⟩ := write_let hw hP i hi (by omega) (by simp [fTxt] at ht; omega)
    refine ⟨w1, ?_, h1, s1⟩
    rw [one X Y (112 + i) n w w1 (by rw [e1, fPre_var]; rfl) (by omega) h hw.1.1 e2, fSz_var, Nat.add_sub_cancel]
  · intro A hA ih X Y T P n w e1 hE hn h hw hP hl ht
    obtain ⟨n, rfl⟩ : ∃ z, n = z + 1 := ⟨n - 1, by omega⟩
    rw [fSz_neg] at hE hn hl
    have ht' : (fTxt (.neg A)).length = (fTxt A).length + 1 := by simp [fTxt]
    rw [ht'] at ht
    obtain ⟨w1, e2, h1, s1⟩ := write_not hw (by omega) (by omega)
    have o1 := one X (fPre A ++ Y) 126 n w w1 (by rw [e1, fPre_neg]; rfl) (by omega) h hw.1.1 e2
    obtain ⟨w2, e3, h2, s2⟩ := ih (X ++ [126]) Y (T ++ [126]) (126 :: P) n w1 (by rw [e1, fPre_neg]; simp) (by simp; omega) (by omega) (h.sm s1 hne) h1 (fun d hd => (List.mem_cons.mp hd).elim (fun e => Or.inr (Or.inr (Or.inr e))) (hP d)) (by simp; omega) (by simp [wl]; omega)
    simp only [List.length_append, List.length_cons, List.length_nil, Nat.zero_add] at e3
    refine ⟨w2, ?_, ?_, s1.tr s2⟩
    · rw [o1, e3, fSz_neg, show n + 1 - (fSz A + 1) = n - fSz A by omega, show X.length + 1 + fSz A = X.length + (fSz A + 1) by omega]
    · have e4 : wE (T ++ fTxt (.neg A)) P = wE (T ++ [126] ++ fTxt A) (126 :: P) := by
        rw [wE_cons, if_neg (by omega), if_neg (by omega)]
        simp [fTxt]
      rw [e4]; exact h2
  · intro A1 A2 hA1 hA2 ih1 ih2 X Y T P n w e1 hE hn h hw hP hl ht
    obtain ⟨n, rfl⟩ : ∃ z, n = z + 1 := ⟨n - 1, by omega⟩
    rw [fSz_add] at hE hn hl
    have ht' : (fTxt (.add A1 A2)).length = (fTxt A1).length + (fTxt A2).length + 3 := by simp [fTxt]; omega
    rw [ht'] at ht
    obtain ⟨w1, e2, h1, s1⟩ := write_two hw 118 (Or.inl rfl) (by omega) (by omega)
    have o1 := one X (fPre A1 ++ fPre A2 ++ Y) 118 n w w1 (by rw [e1, fPre_add]; simp) (by omega) h hw.1.1 e2
    obtain ⟨w2, e3, h2, s2⟩ := ih1 (X ++ [118]) (fPre A2 ++ Y) (T ++ [40]) (118 :: P) n w1 (by rw [e1, fPre_add]; simp) (by simp; omega) (by omega) (h.sm s1 hne) h1 (fun d hd => (List.mem_cons.mp hd).elim (fun e => Or.inl e) (hP d)) (by simp; omega) (by simp [wl]; omega)
    have e5 : wE (T ++ [40] ++ fTxt A1) (118 :: P) = (T ++ [40] ++ fTxt A1 ++ [118], 41 :: P) := by
      rw [wE_cons, if_pos (Or.inl rfl)]
    rw [e5] at h2
    have s3 : (X ++ (118 :: fPre A1)).length = X.length + 1 + fSz A1 := by simp [fSz]; omega
    obtain ⟨w3, e4, h3, s4⟩ := ih2 (X ++ (118 :: fPre A1)) Y _ (41 :: P) (n - fSz A1) w2 (by rw [e1, fPre_add]; simp) (by rw [s3]; omega) (by omega) ((h.sm s1 hne).sm s2 hne) h2 (fun d hd => (List.mem_cons.mp hd).elim (fun e => Or.inr (Or.inr (Or.inl e))) (hP d)) (by simp; omega) (by simp [wl]; omega)
    simp only [List.length_append, List.length_cons, List.length_nil, Nat.zero_add] at e3
    rw [s3] at e4
    refine ⟨w3, ?_, ?_, (s1.tr s2).tr s4⟩
    · rw [o1, e3, e4, fSz_add, show n + 1 - (fSz A1 + fSz A2 + 1) = n - fSz A1 - fSz A2 by omega, show X.length + 1 + fSz A1 + fSz A2 = X.length + (fSz A1 + fSz A2 + 1) by omega]
    · have e6 : wE (T ++ fTxt (.add A1 A2)) P = wE (T ++ [40] ++ fTxt A1 ++ [118] ++ fTxt A2) (41 :: P) := by
        rw [wE_cons, if_neg (by omega), if_pos rfl]
        simp [fTxt]
      rw [e6]; exact h3
  · intro A1 A2 hA1 hA2 ih1 ih2 X Y T P n w e1 hE hn h hw hP hl ht
    obtain ⟨n, rfl⟩ : ∃ z, n = z + 1 := ⟨n - 1, by omega⟩
    rw [fSz_sub] at hE hn hl
    have ht' : (fTxt (.sub A1 A2)).length = (fTxt A1).length + (fTxt A2).length + 3 := by simp [fTxt]; omega
    rw [ht'] at ht
    obtain ⟨w1, e2, h1, s1⟩ := write_two hw 62 (Or.inr rfl) (by omega) (by omega)
    have o1 := one X (fPre A1 ++ fPre A2 ++ Y) 62 n w w1 (by rw [e1, fPre_sub]; simp) (by omega) h hw.1.1 e2
    obtain ⟨w2, e3, h2, s2⟩ := ih1 (X ++ [62]) (fPre A2 ++ Y) (T ++ [40]) (62 :: P) n w1 (by rw [e1, fPre_sub]; simp) (by simp; omega) (by omega) (h.sm s1 hne) h1 (fun d hd => (List.mem_cons.mp hd).elim (fun e => Or.inr (Or.inl e)) (hP d)) (by simp; omega) (by simp [wl]; omega)
    have e5 : wE (T ++ [40] ++ fTxt A1) (62 :: P) = (T ++ [40] ++ fTxt A1 ++ [62], 41 :: P) := by
      rw [wE_cons, if_pos (Or.inr rfl)]
    rw [e5] at h2
    have s3 : (X ++ (62 :: fPre A1)).length = X.length + 1 + fSz A1 := by simp [fSz]; omega
    obtain ⟨w3, e4, h3, s4⟩ := ih2 (X ++ (62 :: fPre A1)) Y _ (41 :: P) (n - fSz A1) w2 (by rw [e1, fPre_sub]; simp) (by rw [s3]; omega) (by omega) ((h.sm s1 hne).sm s2 hne) h2 (fun d hd => (List.mem_cons.mp hd).elim (fun e => Or.inr (Or.inr (Or.inl e))) (hP d)) (by simp; omega) (by simp [wl]; omega)
    simp only [List.length_append, List.length_cons, List.length_nil, Nat.zero_add] at e3
    rw [s3] at e4
    refine ⟨w3, ?_, ?_, (s1.tr s2).tr s4⟩
    · rw [o1, e3, e4, fSz_sub, show n + 1 - (fSz A1 + fSz A2 + 1) = n - fSz A1 - fSz A2 by omega, show X.length + 1 + fSz A1 + fSz A2 = X.length + (fSz A1 + fSz A2 + 1) by omega]
    · have e6 : wE (T ++ fTxt (.sub A1 A2)) P = wE (T ++ [40] ++ fTxt A1 ++ [62] ++ fTxt A2) (41 :: P) := by
        rw [wE_cons, if_neg (by omega), if_pos rfl]
        simp [fTxt]
      rw [e6]; exact h3
/-- byte i of a text, -4 where there is none -/
def bt (T : List Nat) (i : Int) : Int := if i < 0 then -4 else if i < T.length then T.getD i.toNat 0 else -4
theorem byteOf_ok {ow : Nat → Nat × Nat} {w : kW} {q a cap : Nat} {v X Y : List Nat} {A : Fo} (hq : WrS ow w q) (h : Ln ow w a cap v) (hst : St w a v) (e : v = X ++ (fPre A ++ Y)) (hA : fOk A) (i : Int) (h0 : -2147483648 ≤ i) (h1 : i < 2147483648) :
    ∃ w', fX10_byteOf q (some a) (iI X.length) (iI i) w = some (iI (bt (fTxt A) i), w') ∧ Sm ow (fun z => z = q) w w' := by
  have b1 := h.2.1
  have b2 := h.1.2.2.1
  have l1 := split_len e
  have b3 := fTxt_len A hA
  have hk := h.1.1
  have hne : a ≠ q := fun z => by rw [z, hq.1] at hk; omega
  have s1 : Sm ow (fun z => z = q) w (kSI (kSI w q 2 (iI 0)) q 3 (iI 0)) := (Sm.si (by rw [hq.2.1])).tr (Sm.si (by rw [hq.2.1]))
  have h2 : Wr ow (kSI (kSI w q 2 (iI 0)) q 3 (iI 0)) q [] [] := ⟨hq.sm s1, by rw [kI_SI_j (by omega), kI_SI_s]; rfl, kI_SI_s, fun i d hd => by simp at hd, fun i d hd => by simp at hd⟩
  obtain ⟨w', e1, h3, s3⟩ := byteOf_step (iI X.length) (iI i) ((X.length + fSz A : Nat) : Int) (by omega) (fun y5_6 w7 => if (iI i) < 0 then some ((-4 : Int32), w7) else (kgI w7 10 (some q) 2).bind fun v8 => if v8 ≤ (iI i) then some ((-4 : Int32), w7) else (kgP w7 10 (some q) 0).bind fun v9 => (kal w7 13 v9).bind fun v10 => if v10 ≤ (iI i) then some ((-4 : Int32), w7) else (kgP w7 10 (some q) 0).bind fun v11 => (kaI w7 13 v11 (iI i)).bind fun v12 => some (v12, w7)) hne A hA X Y [] [] kFU _ e (by omega) (by unfold kFU; omega) (h.sm s1 hne) h2 (fun c hc => by simp at hc) (by simp; omega) (by simp [wl]; omega)
  have e9 : wE ([] ++ fTxt A) [] = (fTxt A, []) := by rw [List.nil_append]; rfl
  rw [e9] at h3
  refine ⟨w', ?_, s1.tr s3⟩
  have hE := endAt_ok (h.sm s1 hne) (hst.sm h.1 s1 hne) e hA
  have hk2 : kKd (kSI (kSI w q 2 (iI 0)) q 3 (iI 0)) a = 1 := hk
  have hkq := hq.1
  rw [fX10_byteOf]
  have ez : (0 : Int32) = iI 0 := iL_0
  rw [ez, kpI_e hkq, Option.bind_some, kpI_e (show kKd (kSI w q 2 (iI 0)) q = 10 from hkq), Option.bind_some, kRc_e hk2, Option.bind_some, hE, Option.bind_some]
  rw [ez] at e1
  rw [e1]
  obtain ⟨n, hn⟩ : ∃ z, kFU - fSz A = z + 1 := ⟨kFU - fSz A - 1, by unfold kFU; omega⟩
  obtain ⟨⟨g1, g2, ⟨p0, k0, n0, o0⟩, -⟩, g4, g5, g6, g7⟩ := h3
  rw [hn, fX10_byteOf_L20]
  unfold bt
  by_cases c1 : i < 0
  · simp (disch := omega) only [iI_lt, iI_le, iI_eq, iI_add, iI_sub, iI_mul, iI_neg, iI_n, iL_0, iL_1, iL_2, iL_3, iL_4, iL_5, iL_6, iL_7, iL_8, iL_9, iL_10, iL_11, iL_12, iL_13, iL_14, iL_15, iL_16, iL_17, iL_18, iL_19, iL_20, iL_21, iL_22, iL_23, iL_24, iL_27, iL_32, iL_40, iL_41, iL_43, iL_48, iL_49, iL_57, iL_59, iL_60, iL_62, iL_63, iL_64, iL_83, iL_99, iL_100, iL_107, iL_108, iL_109, iL_112, iL_115, iL_117, iL_118, iL_120, iL_121, iL_123, iL_126, iL_127, iL_136, iL_163, iL_200, iL_203, iL_243, iL_400, iL_512, iL_960, iL_1000, iL_2400, iL_4000, iL_6000, iL_8000, iL_8001, iL_9000, iL_10000, iL_12345, iL_65536, iL_1000000, iL_252645135, iL_858993459, iL_1103515245, iL_1431655765, iL_2147483647, if_pos]
  · by_cases c2 : i < (fTxt A).length
    · have c3 : i.toNat < (fTxt A).length := by omega
      have g := g6 i.toNat ((fTxt A)[i.toNat]) (List.getElem?_eq_getElem c3)
      have g9 : (fTxt A).getD i.toNat 0 = (fTxt A)[i.toNat] := by
        rw [List.getD_eq_getElem?_getD, List.getElem?_eq_getElem c3]; rfl
      simp (disch := omega) only [iI_lt, iI_le, iI_eq, iI_add, iI_sub, iI_mul, iI_neg, iI_n, iL_0, iL_1, iL_2, iL_3, iL_4, iL_5, iL_6, iL_7, iL_8, iL_9, iL_10, iL_11, iL_12, iL_13, iL_14, iL_15, iL_16, iL_17, iL_18, iL_19, iL_20, iL_21, iL_22, iL_23, iL_24, iL_27, iL_32, iL_40, iL_41, iL_43, iL_48, iL_49, iL_57, iL_59, iL_60, iL_62, iL_63, iL_64, iL_83, iL_99, iL_100, iL_107, iL_108, iL_109, iL_112, iL_115, iL_117, iL_118, iL_120, iL_121, iL_123, iL_126, iL_127, iL_136, iL_163, iL_200, iL_203, iL_243, iL_400, iL_512, iL_960, iL_1000, iL_2400, iL_4000, iL_6000, iL_8000, iL_8001, iL_9000, iL_10000, iL_12345, iL_65536, iL_1000000, iL_252645135, iL_858993459, iL_1103515245, iL_1431655765, iL_2147483647, kgI_e, kgP_e, kpI_e, kpP_e, kal_e, kaI_e, kaP_e, kaJ_e, ksI_e, ksP_e, ksJ_e, kRc_e, kIx_i, Option.bind_some, Option.map_some, if_pos, if_neg, g4, p0, n0, g, g9]
    · simp (disch := omega) only [iI_lt, iI_le, iI_eq, iI_add, iI_sub, iI_mul, iI_neg, iI_n, iL_0, iL_1, iL_2, iL_3, iL_4, iL_5, iL_6, iL_7, iL_8, iL_9, iL_10, iL_11, iL_12, iL_13, iL_14, iL_15, iL_16, iL_17, iL_18, iL_19, iL_20, iL_21, iL_22, iL_23, iL_24, iL_27, iL_32, iL_40, iL_41, iL_43, iL_48, iL_49, iL_57, iL_59, iL_60, iL_62, iL_63, iL_64, iL_83, iL_99, iL_100, iL_107, iL_108, iL_109, iL_112, iL_115, iL_117, iL_118, iL_120, iL_121, iL_123, iL_126, iL_127, iL_136, iL_163, iL_200, iL_203, iL_243, iL_400, iL_512, iL_960, iL_1000, iL_2400, iL_4000, iL_6000, iL_8000, iL_8001, iL_9000, iL_10000, iL_12345, iL_65536, iL_1000000, iL_252645135, iL_858993459, iL_1103515245, iL_1431655765, iL_2147483647, kgI_e, kgP_e, kpI_e, kpP_e, kal_e, kaI_e, kaP_e, kaJ_e, ksI_e, ksP_e, ksJ_e, kRc_e, kIx_i, Option.bind_some, Option.map_some, if_pos, if_neg, g4]
