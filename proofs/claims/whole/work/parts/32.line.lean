/-! A LINE OBJECT: ow tells of each address whose it is: (its line, which of its rows) -/
def Lp (w : kW) (a j : Nat) : Nat := (kP w a j).getD 0
def LnA (ow : Nat → Nat × Nat) (w : kW) (a cap j k : Nat) : Prop := kP w a j = some (Lp w a j) ∧ kKd w (Lp w a j) = k ∧ kLn w (Lp w a j) = cap ∧ ow (Lp w a j) = (a, j + 1)
def LnS (ow : Nat → Nat × Nat) (w : kW) (a cap : Nat) : Prop := kKd w a = 1 ∧ ow a = (a, 0) ∧ cap ≤ 200 ∧ LnA ow w a cap 0 13 ∧ LnA ow w a cap 1 14 ∧ LnA ow w a cap 2 14 ∧ LnA ow w a cap 3 14 ∧ LnA ow w a cap 4 14
def LnV (w : kW) (a : Nat) (v : List Nat) : Prop := kI w a 5 = iI v.length ∧ ∀ (i c : Nat), v[i]? = some c → kI w (Lp w a 0) i = iI c
/-- the line a, of room for cap signs, with the signs v, not spilled -/
def Ln (ow : Nat → Nat × Nat) (w : kW) (a cap : Nat) (v : List Nat) : Prop := LnS ow w a cap ∧ v.length ≤ cap ∧ LnV w a v ∧ kI w a 6 = 0
/-- what is told of the part b that begins at n is right -/
def PtOk (w : kW) (a n : Nat) (b : Fo) : Prop := kI w (Lp w a 1) n = iI (n + fSz b : Nat) ∧ kI w (Lp w a 2) n = iI (fLev b) ∧ kI w (Lp w a 3) n = iI (fPl b) ∧ kI w (Lp w a 4) n = iI (fLs b)
/-- .. of every part that begins at m or behind -/
def StF (w : kW) (a : Nat) (v : List Nat) (m : Nat) : Prop := ∀ (X : List Nat) (b : Fo) (Y : List Nat), v = X ++ (fPre b ++ Y) → fOk b → m ≤ X.length → PtOk w a X.length b
def St (w : kW) (a : Nat) (v : List Nat) : Prop := StF w a v 0
/-- nothing but ints of what S owns has changed -/
def Sm (ow : Nat → Nat × Nat) (S : Nat → Prop) (w w' : kW) : Prop := kKd w' = kKd w ∧ kLn w' = kLn w ∧ kSz w' = kSz w ∧ kP w' = kP w ∧ kJ w' = kJ w ∧ ∀ b, ¬ S (ow b).1 → kI w' b = kI w b
theorem Sm.rf {ow : Nat → Nat × Nat} {S : Nat → Prop} (w : kW) : Sm ow S w w := ⟨rfl, rfl, rfl, rfl, rfl, fun _ _ => rfl⟩
theorem Sm.tr {ow : Nat → Nat × Nat} {S : Nat → Prop} {w w1 w2 : kW} (h1 : Sm ow S w w1) (h2 : Sm ow S w1 w2) : Sm ow S w w2 :=
  ⟨h2.1.trans h1.1, h2.2.1.trans h1.2.1, h2.2.2.1.trans h1.2.2.1, h2.2.2.2.1.trans h1.2.2.2.1, h2.2.2.2.2.1.trans h1.2.2.2.2.1, fun b hb => (h2.2.2.2.2.2 b hb).trans (h1.2.2.2.2.2 b hb)⟩
theorem Sm.wide {ow : Nat → Nat × Nat} {S S' : Nat → Prop} {w w1 : kW} (h : Sm ow S w w1) (hS : ∀ a, S a → S' a) : Sm ow S' w w1 :=
  ⟨h.1, h.2.1, h.2.2.1, h.2.2.2.1, h.2.2.2.2.1, fun b hb => h.2.2.2.2.2 b (fun q => hb (hS _ q))⟩
theorem Sm.si {ow : Nat → Nat × Nat} {S : Nat → Prop} {w : kW} {a j : Nat} {x : Int32} (h : S (ow a).1) : Sm ow S w (kSI w a j x) :=
  ⟨rfl, rfl, rfl, rfl, rfl, fun b hb => by
    funext k
    exact kI_SI_o (fun e => hb (by rw [e]; exact h))⟩
theorem Sm.lp {ow : Nat → Nat × Nat} {S : Nat → Prop} {w w1 : kW} (h : Sm ow S w w1) (a j : Nat) : Lp w1 a j = Lp w a j := by unfold Lp; rw [h.2.2.2.1]
theorem LnA.sm {ow : Nat → Nat × Nat} {S : Nat → Prop} {w w1 : kW} {a cap j k : Nat} (h : LnA ow w a cap j k) (hs : Sm ow S w w1) : LnA ow w1 a cap j k := by
  unfold LnA
  rw [hs.lp, hs.2.2.2.1, hs.1, hs.2.1]
  exact h
theorem LnS.sm {ow : Nat → Nat × Nat} {S : Nat → Prop} {w w1 : kW} {a cap : Nat} (h : LnS ow w a cap) (hs : Sm ow S w w1) : LnS ow w1 a cap :=
  ⟨by rw [hs.1]; exact h.1, h.2.1, h.2.2.1, h.2.2.2.1.sm hs, h.2.2.2.2.1.sm hs, h.2.2.2.2.2.1.sm hs, h.2.2.2.2.2.2.1.sm hs, h.2.2.2.2.2.2.2.sm hs⟩
theorem LnS.kI {ow : Nat → Nat × Nat} {S : Nat → Prop} {w w1 : kW} {a cap : Nat} (h : LnS ow w a cap) (hs : Sm ow S w w1) (ha : ¬ S a) : kI w1 a = kI w a := hs.2.2.2.2.2 a (by rw [h.2.1]; exact ha)
theorem Ln.sm {ow : Nat → Nat × Nat} {S : Nat → Prop} {w w1 : kW} {a cap : Nat} {v : List Nat} (h : Ln ow w a cap v) (hs : Sm ow S w w1) (ha : ¬ S a) : Ln ow w1 a cap v := by
  obtain ⟨h1, h2, ⟨h3, h4⟩, h5⟩ := h
  refine ⟨h1.sm hs, h2, ⟨by rw [h1.kI hs ha]; exact h3, fun i c hc => ?_⟩, by rw [h1.kI hs ha]; exact h5⟩
  rw [hs.lp, hs.2.2.2.2.2 _ (by rw [h1.2.2.2.1.2.2.2]; exact ha)]
  exact h4 i c hc
theorem PtOk.sm {ow : Nat → Nat × Nat} {S : Nat → Prop} {w w1 : kW} {a cap n : Nat} {b : Fo} (h0 : LnS ow w a cap) (h : PtOk w a n b) (hs : Sm ow S w w1) (ha : ¬ S a) : PtOk w1 a n b := by
  unfold PtOk
  rw [hs.lp, hs.lp, hs.lp, hs.lp, hs.2.2.2.2.2 (Lp w a 1) (by rw [h0.2.2.2.2.1.2.2.2]; exact ha), hs.2.2.2.2.2 (Lp w a 2) (by rw [h0.2.2.2.2.2.1.2.2.2]; exact ha), hs.2.2.2.2.2 (Lp w a 3) (by rw [h0.2.2.2.2.2.2.1.2.2.2]; exact ha), hs.2.2.2.2.2 (Lp w a 4) (by rw [h0.2.2.2.2.2.2.2.2.2.2]; exact ha)]
  exact h
theorem St.sm {ow : Nat → Nat × Nat} {S : Nat → Prop} {w w1 : kW} {a cap : Nat} {v : List Nat} (h0 : LnS ow w a cap) (h : St w a v) (hs : Sm ow S w w1) (ha : ¬ S a) : St w1 a v :=
  fun X b Y e hb hm => (h X b Y e hb hm).sm h0 hs ha
/-- the sign at a place, 0 where there is none -/
def atZ (v : List Nat) (i : Int) : Nat := if i < 0 then 0 else v.getD i.toNat 0
theorem at_ok {ow : Nat → Nat × Nat} {w : kW} {a cap : Nat} {v : List Nat} (h : Ln ow w a cap v) (i : Int) (h0 : -2147483648 ≤ i) (h1 : i < 2147483648) : fX1_at a (iI i) w = some (iI (atZ v i)) := by
  obtain ⟨⟨hk, ho, hc, ⟨p0, k0, n0, o0⟩, -⟩, hl, ⟨h5, hv⟩, h6⟩ := h
  rw [fX1_at]
  by_cases c1 : i < 0
  · simp (disch := omega) only [iI_add, iI_sub, iI_mul, iI_neg, iI_n, iL_0, iL_1, iL_2, iL_3, iL_4, iL_5, iL_6, iL_7, iL_8, iL_9, iL_10, iL_11, iL_12, iL_13, iL_14, iL_15, iL_16, iL_17, iL_18, iL_19, iL_20, iL_21, iL_22, iL_23, iL_24, iL_27, iL_32, iL_40, iL_41, iL_43, iL_48, iL_49, iL_57, iL_59, iL_60, iL_62, iL_63, iL_64, iL_83, iL_99, iL_100, iL_107, iL_108, iL_109, iL_112, iL_115, iL_117, iL_118, iL_120, iL_121, iL_123, iL_126, iL_127, iL_136, iL_163, iL_200, iL_203, iL_243, iL_400, iL_512, iL_960, iL_1000, iL_2400, iL_4000, iL_6000, iL_8000, iL_8001, iL_9000, iL_10000, iL_12345, iL_65536, iL_1000000, iL_252645135, iL_858993459, iL_1103515245, iL_1431655765, iL_2147483647, iI_lt, iI_le, iI_eq, kgI_e, kgP_e, kpI_e, kpP_e, kal_e, kaI_e, kaP_e, kaJ_e, ksI_e, ksP_e, ksJ_e, kRc_e, kIx_i, Option.bind_some, Option.map_some, if_pos, if_neg, atZ]
    rfl
  · by_cases c2 : v.length ≤ i
    · simp (disch := omega) only [iI_add, iI_sub, iI_mul, iI_neg, iI_n, iL_0, iL_1, iL_2, iL_3, iL_4, iL_5, iL_6, iL_7, iL_8, iL_9, iL_10, iL_11, iL_12, iL_13, iL_14, iL_15, iL_16, iL_17, iL_18, iL_19, iL_20, iL_21, iL_22, iL_23, iL_24, iL_27, iL_32, iL_40, iL_41, iL_43, iL_48, iL_49, iL_57, iL_59, iL_60, iL_62, iL_63, iL_64, iL_83, iL_99, iL_100, iL_107, iL_108, iL_109, iL_112, iL_115, iL_117, iL_118, iL_120, iL_121, iL_123, iL_126, iL_127, iL_136, iL_163, iL_200, iL_203, iL_243, iL_400, iL_512, iL_960, iL_1000, iL_2400, iL_4000, iL_6000, iL_8000, iL_8001, iL_9000, iL_10000, iL_12345, iL_65536, iL_1000000, iL_252645135, iL_858993459, iL_1103515245, iL_1431655765, iL_2147483647, iI_lt, iI_le, iI_eq, kgI_e, kgP_e, kpI_e, kpP_e, kal_e, kaI_e, kaP_e, kaJ_e, ksI_e, ksP_e, ksJ_e, kRc_e, kIx_i, Option.bind_some, Option.map_some, h5, p0, n0, if_pos, if_neg, atZ]
      rw [List.getD_eq_getElem?_getD, List.getElem?_eq_none (by omega)]
      rfl
    · simp (disch := omega) only [iI_add, iI_sub, iI_mul, iI_neg, iI_n, iL_0, iL_1, iL_2, iL_3, iL_4, iL_5, iL_6, iL_7, iL_8, iL_9, iL_10, iL_11, iL_12, iL_13, iL_14, iL_15, iL_16, iL_17, iL_18, iL_19, iL_20, iL_21, iL_22, iL_23, iL_24, iL_27, iL_32, iL_40, iL_41, iL_43, iL_48, iL_49, iL_57, iL_59, iL_60, iL_62, iL_63, iL_64, iL_83, iL_99, iL_100, iL_107, iL_108, iL_109, iL_112, iL_115, iL_117, iL_118, iL_120, iL_121, iL_123, iL_126, iL_127, iL_136, iL_163, iL_200, iL_203, iL_243, iL_400, iL_512, iL_960, iL_1000, iL_2400, iL_4000, iL_6000, iL_8000, iL_8001, iL_9000, iL_10000, iL_12345, iL_65536, iL_1000000, iL_252645135, iL_858993459, iL_1103515245, iL_1431655765, iL_2147483647, iI_lt, iI_le, iI_eq, kgI_e, kgP_e, kpI_e, kpP_e, kal_e, kaI_e, kaP_e, kaJ_e, ksI_e, ksP_e, ksJ_e, kRc_e, kIx_i, Option.bind_some, Option.map_some, h5, p0, n0, if_pos, if_neg, atZ]
      have hlt : i.toNat < v.length := by omega
      rw [hv i.toNat (v[i.toNat]) (List.getElem?_eq_getElem hlt), List.getD_eq_getElem?_getD, List.getElem?_eq_getElem hlt]
      rfl
theorem kMmin_i {a b : Int} (ha : -2147483648 ≤ a) (ha' : a < 2147483648) (hb : -2147483648 ≤ b) (hb' : b < 2147483648) : kMmin (iI a) (iI b) = iI (min a b) := by
  have e := iI_lt hb hb' ha ha'
  unfold kMmin
  by_cases h : b < a
  · rw [if_pos (by rw [e]; exact h), Int.min_eq_right (by omega)]
  · rw [if_neg (by rw [e]; exact h), Int.min_eq_left (by omega)]
theorem kMmax_i {a b : Int} (ha : -2147483648 ≤ a) (ha' : a < 2147483648) (hb : -2147483648 ≤ b) (hb' : b < 2147483648) : kMmax (iI a) (iI b) = iI (max a b) := by
  have e := iI_lt ha ha' hb hb'
  unfold kMmax
  by_cases h : a < b
  · rw [if_pos (by rw [e]; exact h), Int.max_eq_right (by omega)]
  · rw [if_neg (by rw [e]; exact h), Int.max_eq_left (by omega)]
/-- which letter a sign is, -1 for none -/
def leZ (c : Int) : Int := if 112 ≤ c ∧ c ≤ 117 then c - 112 else -1
theorem letterOf_ok (c : Int) (h0 : -2147483648 ≤ c) (h1 : c < 2147483648) : fX11_letterOf (iI c) = some (iI (leZ c)) := by
  rw [fX11_letterOf]
  unfold leZ
  by_cases c1 : c < 112
  · simp (disch := omega) only [iI_add, iI_sub, iI_mul, iI_neg, iI_n, iL_0, iL_1, iL_2, iL_3, iL_4, iL_5, iL_6, iL_7, iL_8, iL_9, iL_10, iL_11, iL_12, iL_13, iL_14, iL_15, iL_16, iL_17, iL_18, iL_19, iL_20, iL_21, iL_22, iL_23, iL_24, iL_27, iL_32, iL_40, iL_41, iL_43, iL_48, iL_49, iL_57, iL_59, iL_60, iL_62, iL_63, iL_64, iL_83, iL_99, iL_100, iL_107, iL_108, iL_109, iL_112, iL_115, iL_117, iL_118, iL_120, iL_121, iL_123, iL_126, iL_127, iL_136, iL_163, iL_200, iL_203, iL_243, iL_400, iL_512, iL_960, iL_1000, iL_2400, iL_4000, iL_6000, iL_8000, iL_8001, iL_9000, iL_10000, iL_12345, iL_65536, iL_1000000, iL_252645135, iL_858993459, iL_1103515245, iL_1431655765, iL_2147483647, iI_lt, iI_le, iI_eq, if_pos, if_neg]
  · by_cases c2 : 117 < c
    · simp (disch := omega) only [iI_add, iI_sub, iI_mul, iI_neg, iI_n, iL_0, iL_1, iL_2, iL_3, iL_4, iL_5, iL_6, iL_7, iL_8, iL_9, iL_10, iL_11, iL_12, iL_13, iL_14, iL_15, iL_16, iL_17, iL_18, iL_19, iL_20, iL_21, iL_22, iL_23, iL_24, iL_27, iL_32, iL_40, iL_41, iL_43, iL_48, iL_49, iL_57, iL_59, iL_60, iL_62, iL_63, iL_64, iL_83, iL_99, iL_100, iL_107, iL_108, iL_109, iL_112, iL_115, iL_117, iL_118, iL_120, iL_121, iL_123, iL_126, iL_127, iL_136, iL_163, iL_200, iL_203, iL_243, iL_400, iL_512, iL_960, iL_1000, iL_2400, iL_4000, iL_6000, iL_8000, iL_8001, iL_9000, iL_10000, iL_12345, iL_65536, iL_1000000, iL_252645135, iL_858993459, iL_1103515245, iL_1431655765, iL_2147483647, iI_lt, iI_le, iI_eq, if_pos, if_neg]
    · simp (disch := omega) only [iI_add, iI_sub, iI_mul, iI_neg, iI_n, iL_0, iL_1, iL_2, iL_3, iL_4, iL_5, iL_6, iL_7, iL_8, iL_9, iL_10, iL_11, iL_12, iL_13, iL_14, iL_15, iL_16, iL_17, iL_18, iL_19, iL_20, iL_21, iL_22, iL_23, iL_24, iL_27, iL_32, iL_40, iL_41, iL_43, iL_48, iL_49, iL_57, iL_59, iL_60, iL_62, iL_63, iL_64, iL_83, iL_99, iL_100, iL_107, iL_108, iL_109, iL_112, iL_115, iL_117, iL_118, iL_120, iL_121, iL_123, iL_126, iL_127, iL_136, iL_163, iL_200, iL_203, iL_243, iL_400, iL_512, iL_960, iL_1000, iL_2400, iL_4000, iL_6000, iL_8000, iL_8001, iL_9000, iL_10000, iL_12345, iL_65536, iL_1000000, iL_252645135, iL_858993459, iL_1103515245, iL_1431655765, iL_2147483647, iI_lt, iI_le, iI_eq, if_pos, if_neg]
theorem endAt_in {ow : Nat → Nat × Nat} {w : kW} {a cap : Nat} {v : List Nat} (h : Ln ow w a cap v) (i : Int) (h0 : 0 ≤ i) (h1 : i < v.length) : fX1_endAt a (iI i) w = some (kI w (Lp w a 1) i.toNat) := by
  obtain ⟨⟨hk, ho, hc, -, ⟨p1, k1, n1, o1⟩, -⟩, hl, ⟨h5, hv⟩, h6⟩ := h
  rw [fX1_endAt]
  simp (disch := omega) only [iI_add, iI_sub, iI_mul, iI_neg, iI_n, iL_0, iL_1, iL_2, iL_3, iL_4, iL_5, iL_6, iL_7, iL_8, iL_9, iL_10, iL_11, iL_12, iL_13, iL_14, iL_15, iL_16, iL_17, iL_18, iL_19, iL_20, iL_21, iL_22, iL_23, iL_24, iL_27, iL_32, iL_40, iL_41, iL_43, iL_48, iL_49, iL_57, iL_59, iL_60, iL_62, iL_63, iL_64, iL_83, iL_99, iL_100, iL_107, iL_108, iL_109, iL_112, iL_115, iL_117, iL_118, iL_120, iL_121, iL_123, iL_126, iL_127, iL_136, iL_163, iL_200, iL_203, iL_243, iL_400, iL_512, iL_960, iL_1000, iL_2400, iL_4000, iL_6000, iL_8000, iL_8001, iL_9000, iL_10000, iL_12345, iL_65536, iL_1000000, iL_252645135, iL_858993459, iL_1103515245, iL_1431655765, iL_2147483647, iI_lt, iI_le, iI_eq, kgI_e, kgP_e, kpI_e, kpP_e, kal_e, kaI_e, kaP_e, kaJ_e, ksI_e, ksP_e, ksJ_e, kRc_e, kIx_i, Option.bind_some, Option.map_some, h5, p1, n1, if_pos, if_neg]
theorem endAt_out {ow : Nat → Nat × Nat} {w : kW} {a cap : Nat} {v : List Nat} (h : Ln ow w a cap v) (i : Int) (h0 : v.length ≤ i) (h1 : i < 2147483648) : fX1_endAt a (iI i) w = some (iI v.length) := by
  obtain ⟨⟨hk, ho, hc, -, ⟨p1, k1, n1, o1⟩, -⟩, hl, ⟨h5, hv⟩, h6⟩ := h
  rw [fX1_endAt]
  simp (disch := omega) only [iI_add, iI_sub, iI_mul, iI_neg, iI_n, iL_0, iL_1, iL_2, iL_3, iL_4, iL_5, iL_6, iL_7, iL_8, iL_9, iL_10, iL_11, iL_12, iL_13, iL_14, iL_15, iL_16, iL_17, iL_18, iL_19, iL_20, iL_21, iL_22, iL_23, iL_24, iL_27, iL_32, iL_40, iL_41, iL_43, iL_48, iL_49, iL_57, iL_59, iL_60, iL_62, iL_63, iL_64, iL_83, iL_99, iL_100, iL_107, iL_108, iL_109, iL_112, iL_115, iL_117, iL_118, iL_120, iL_121, iL_123, iL_126, iL_127, iL_136, iL_163, iL_200, iL_203, iL_243, iL_400, iL_512, iL_960, iL_1000, iL_2400, iL_4000, iL_6000, iL_8000, iL_8001, iL_9000, iL_10000, iL_12345, iL_65536, iL_1000000, iL_252645135, iL_858993459, iL_1103515245, iL_1431655765, iL_2147483647, iI_lt, iI_le, iI_eq, kgI_e, kgP_e, kpI_e, kpP_e, kal_e, kaI_e, kaP_e, kaJ_e, ksI_e, ksP_e, ksJ_e, kRc_e, kIx_i, Option.bind_some, Option.map_some, h5, p1, n1, if_pos, if_neg]
theorem levelAt_in {ow : Nat → Nat × Nat} {w : kW} {a cap : Nat} {v : List Nat} (h : Ln ow w a cap v) (i : Int) (h0 : 0 ≤ i) (h1 : i < v.length) : fX1_levelAt a (iI i) w = some (kI w (Lp w a 2) i.toNat) := by
  obtain ⟨⟨hk, ho, hc, -, -, ⟨p2, k2, n2, o2⟩, ⟨p3, k3, n3, o3⟩, ⟨p4, k4, n4, o4⟩⟩, hl, ⟨h5, hv⟩, h6⟩ := h
  rw [fX1_levelAt]
  simp (disch := omega) only [iI_add, iI_sub, iI_mul, iI_neg, iI_n, iL_0, iL_1, iL_2, iL_3, iL_4, iL_5, iL_6, iL_7, iL_8, iL_9, iL_10, iL_11, iL_12, iL_13, iL_14, iL_15, iL_16, iL_17, iL_18, iL_19, iL_20, iL_21, iL_22, iL_23, iL_24, iL_27, iL_32, iL_40, iL_41, iL_43, iL_48, iL_49, iL_57, iL_59, iL_60, iL_62, iL_63, iL_64, iL_83, iL_99, iL_100, iL_107, iL_108, iL_109, iL_112, iL_115, iL_117, iL_118, iL_120, iL_121, iL_123, iL_126, iL_127, iL_136, iL_163, iL_200, iL_203, iL_243, iL_400, iL_512, iL_960, iL_1000, iL_2400, iL_4000, iL_6000, iL_8000, iL_8001, iL_9000, iL_10000, iL_12345, iL_65536, iL_1000000, iL_252645135, iL_858993459, iL_1103515245, iL_1431655765, iL_2147483647, iI_lt, iI_le, iI_eq, kgI_e, kgP_e, kpI_e, kpP_e, kal_e, kaI_e, kaP_e, kaJ_e, ksI_e, ksP_e, ksJ_e, kRc_e, kIx_i, Option.bind_some, Option.map_some, h5, p2, n2, if_pos, if_neg]
theorem levelAt_out {ow : Nat → Nat × Nat} {w : kW} {a cap : Nat} {v : List Nat} (h : Ln ow w a cap v) (i : Int) (h0 : v.length ≤ i) (h1 : i < 2147483648) : fX1_levelAt a (iI i) w = some (iI 0) := by
  obtain ⟨⟨hk, ho, hc, -, -, -⟩, hl, ⟨h5, hv⟩, h6⟩ := h
  rw [fX1_levelAt]
  simp (disch := omega) only [iI_add, iI_sub, iI_mul, iI_neg, iI_n, iL_0, iL_1, iL_2, iL_3, iL_4, iL_5, iL_6, iL_7, iL_8, iL_9, iL_10, iL_11, iL_12, iL_13, iL_14, iL_15, iL_16, iL_17, iL_18, iL_19, iL_20, iL_21, iL_22, iL_23, iL_24, iL_27, iL_32, iL_40, iL_41, iL_43, iL_48, iL_49, iL_57, iL_59, iL_60, iL_62, iL_63, iL_64, iL_83, iL_99, iL_100, iL_107, iL_108, iL_109, iL_112, iL_115, iL_117, iL_118, iL_120, iL_121, iL_123, iL_126, iL_127, iL_136, iL_163, iL_200, iL_203, iL_243, iL_400, iL_512, iL_960, iL_1000, iL_2400, iL_4000, iL_6000, iL_8000, iL_8001, iL_9000, iL_10000, iL_12345, iL_65536, iL_1000000, iL_252645135, iL_858993459, iL_1103515245, iL_1431655765, iL_2147483647, iI_lt, iI_le, iI_eq, kgI_e, kgP_e, kpI_e, kpP_e, kal_e, kaI_e, kaP_e, kaJ_e, ksI_e, ksP_e, ksJ_e, kRc_e, kIx_i, Option.bind_some, Option.map_some, h5, if_pos, if_neg]
theorem placesAt_in {ow : Nat → Nat × Nat} {w : kW} {a cap : Nat} {v : List Nat} (h : Ln ow w a cap v) (i : Int) (h0 : 0 ≤ i) (h1 : i < v.length) : fX1_placesAt a (iI i) w = some (kI w (Lp w a 3) i.toNat) := by
  obtain ⟨⟨hk, ho, hc, -, -, ⟨p2, k2, n2, o2⟩, ⟨p3, k3, n3, o3⟩, ⟨p4, k4, n4, o4⟩⟩, hl, ⟨h5, hv⟩, h6⟩ := h
  rw [fX1_placesAt]
  simp (disch := omega) only [iI_add, iI_sub, iI_mul, iI_neg, iI_n, iL_0, iL_1, iL_2, iL_3, iL_4, iL_5, iL_6, iL_7, iL_8, iL_9, iL_10, iL_11, iL_12, iL_13, iL_14, iL_15, iL_16, iL_17, iL_18, iL_19, iL_20, iL_21, iL_22, iL_23, iL_24, iL_27, iL_32, iL_40, iL_41, iL_43, iL_48, iL_49, iL_57, iL_59, iL_60, iL_62, iL_63, iL_64, iL_83, iL_99, iL_100, iL_107, iL_108, iL_109, iL_112, iL_115, iL_117, iL_118, iL_120, iL_121, iL_123, iL_126, iL_127, iL_136, iL_163, iL_200, iL_203, iL_243, iL_400, iL_512, iL_960, iL_1000, iL_2400, iL_4000, iL_6000, iL_8000, iL_8001, iL_9000, iL_10000, iL_12345, iL_65536, iL_1000000, iL_252645135, iL_858993459, iL_1103515245, iL_1431655765, iL_2147483647, iI_lt, iI_le, iI_eq, kgI_e, kgP_e, kpI_e, kpP_e, kal_e, kaI_e, kaP_e, kaJ_e, ksI_e, ksP_e, ksJ_e, kRc_e, kIx_i, Option.bind_some, Option.map_some, h5, p3, n3, if_pos, if_neg]
theorem placesAt_out {ow : Nat → Nat × Nat} {w : kW} {a cap : Nat} {v : List Nat} (h : Ln ow w a cap v) (i : Int) (h0 : v.length ≤ i) (h1 : i < 2147483648) : fX1_placesAt a (iI i) w = some (iI 0) := by
  obtain ⟨⟨hk, ho, hc, -, -, -⟩, hl, ⟨h5, hv⟩, h6⟩ := h
  rw [fX1_placesAt]
  simp (disch := omega) only [iI_add, iI_sub, iI_mul, iI_neg, iI_n, iL_0, iL_1, iL_2, iL_3, iL_4, iL_5, iL_6, iL_7, iL_8, iL_9, iL_10, iL_11, iL_12, iL_13, iL_14, iL_15, iL_16, iL_17, iL_18, iL_19, iL_20, iL_21, iL_22, iL_23, iL_24, iL_27, iL_32, iL_40, iL_41, iL_43, iL_48, iL_49, iL_57, iL_59, iL_60, iL_62, iL_63, iL_64, iL_83, iL_99, iL_100, iL_107, iL_108, iL_109, iL_112, iL_115, iL_117, iL_118, iL_120, iL_121, iL_123, iL_126, iL_127, iL_136, iL_163, iL_200, iL_203, iL_243, iL_400, iL_512, iL_960, iL_1000, iL_2400, iL_4000, iL_6000, iL_8000, iL_8001, iL_9000, iL_10000, iL_12345, iL_65536, iL_1000000, iL_252645135, iL_858993459, iL_1103515245, iL_1431655765, iL_2147483647, iI_lt, iI_le, iI_eq, kgI_e, kgP_e, kpI_e, kpP_e, kal_e, kaI_e, kaP_e, kaJ_e, ksI_e, ksP_e, ksJ_e, kRc_e, kIx_i, Option.bind_some, Option.map_some, h5, if_pos, if_neg]
theorem lettersAt_in {ow : Nat → Nat × Nat} {w : kW} {a cap : Nat} {v : List Nat} (h : Ln ow w a cap v) (i : Int) (h0 : 0 ≤ i) (h1 : i < v.length) : fX1_lettersAt a (iI i) w = some (kI w (Lp w a 4) i.toNat) := by
  obtain ⟨⟨hk, ho, hc, -, -, ⟨p2, k2, n2, o2⟩, ⟨p3, k3, n3, o3⟩, ⟨p4, k4, n4, o4⟩⟩, hl, ⟨h5, hv⟩, h6⟩ := h
  rw [fX1_lettersAt]
  simp (disch := omega) only [iI_add, iI_sub, iI_mul, iI_neg, iI_n, iL_0, iL_1, iL_2, iL_3, iL_4, iL_5, iL_6, iL_7, iL_8, iL_9, iL_10, iL_11, iL_12, iL_13, iL_14, iL_15, iL_16, iL_17, iL_18, iL_19, iL_20, iL_21, iL_22, iL_23, iL_24, iL_27, iL_32, iL_40, iL_41, iL_43, iL_48, iL_49, iL_57, iL_59, iL_60, iL_62, iL_63, iL_64, iL_83, iL_99, iL_100, iL_107, iL_108, iL_109, iL_112, iL_115, iL_117, iL_118, iL_120, iL_121, iL_123, iL_126, iL_127, iL_136, iL_163, iL_200, iL_203, iL_243, iL_400, iL_512, iL_960, iL_1000, iL_2400, iL_4000, iL_6000, iL_8000, iL_8001, iL_9000, iL_10000, iL_12345, iL_65536, iL_1000000, iL_252645135, iL_858993459, iL_1103515245, iL_1431655765, iL_2147483647, iI_lt, iI_le, iI_eq, kgI_e, kgP_e, kpI_e, kpP_e, kal_e, kaI_e, kaP_e, kaJ_e, ksI_e, ksP_e, ksJ_e, kRc_e, kIx_i, Option.bind_some, Option.map_some, h5, p4, n4, if_pos, if_neg]
theorem lettersAt_out {ow : Nat → Nat × Nat} {w : kW} {a cap : Nat} {v : List Nat} (h : Ln ow w a cap v) (i : Int) (h0 : v.length ≤ i) (h1 : i < 2147483648) : fX1_lettersAt a (iI i) w = some (iI 0) := by
  obtain ⟨⟨hk, ho, hc, -, -, -⟩, hl, ⟨h5, hv⟩, h6⟩ := h
  rw [fX1_lettersAt]
  simp (disch := omega) only [iI_add, iI_sub, iI_mul, iI_neg, iI_n, iL_0, iL_1, iL_2, iL_3, iL_4, iL_5, iL_6, iL_7, iL_8, iL_9, iL_10, iL_11, iL_12, iL_13, iL_14, iL_15, iL_16, iL_17, iL_18, iL_19, iL_20, iL_21, iL_22, iL_23, iL_24, iL_27, iL_32, iL_40, iL_41, iL_43, iL_48, iL_49, iL_57, iL_59, iL_60, iL_62, iL_63, iL_64, iL_83, iL_99, iL_100, iL_107, iL_108, iL_109, iL_112, iL_115, iL_117, iL_118, iL_120, iL_121, iL_123, iL_126, iL_127, iL_136, iL_163, iL_200, iL_203, iL_243, iL_400, iL_512, iL_960, iL_1000, iL_2400, iL_4000, iL_6000, iL_8000, iL_8001, iL_9000, iL_10000, iL_12345, iL_65536, iL_1000000, iL_252645135, iL_858993459, iL_1103515245, iL_1431655765, iL_2147483647, iI_lt, iI_le, iI_eq, kgI_e, kgP_e, kpI_e, kpP_e, kal_e, kaI_e, kaP_e, kaJ_e, ksI_e, ksP_e, ksJ_e, kRc_e, kIx_i, Option.bind_some, Option.map_some, h5, if_pos, if_neg]
theorem split_len {v X Y : List Nat} {b : Fo} (e : v = X ++ (fPre b ++ Y)) : v.length = X.length + fSz b + Y.length := by
  rw [e]; simp [fSz]; omega
theorem endAt_pt {ow : Nat → Nat × Nat} {w : kW} {a cap n : Nat} {v : List Nat} {b : Fo} (h : Ln ow w a cap v) (hn : n < v.length) (hp : PtOk w a n b) : fX1_endAt a (iI n) w = some (iI (n + fSz b : Nat)) := by
  rw [endAt_in h _ (by omega) (by omega), Int.toNat_natCast, hp.1]
theorem endAt_ok {ow : Nat → Nat × Nat} {w : kW} {a cap : Nat} {v X Y : List Nat} {b : Fo} (h : Ln ow w a cap v) (hs : St w a v) (e : v = X ++ (fPre b ++ Y)) (hb : fOk b) : fX1_endAt a (iI X.length) w = some (iI (X.length + fSz b : Nat)) :=
  endAt_pt h (by have h1 := split_len e; have h2 := fSz_pos hb; omega) (hs X b Y e hb (Nat.zero_le _))
theorem levelAt_pt {ow : Nat → Nat × Nat} {w : kW} {a cap n : Nat} {v : List Nat} {b : Fo} (h : Ln ow w a cap v) (hn : n < v.length) (hp : PtOk w a n b) : fX1_levelAt a (iI n) w = some (iI (fLev b)) := by
  rw [levelAt_in h _ (by omega) (by omega), Int.toNat_natCast, hp.2.1]
theorem levelAt_ok {ow : Nat → Nat × Nat} {w : kW} {a cap : Nat} {v X Y : List Nat} {b : Fo} (h : Ln ow w a cap v) (hs : St w a v) (e : v = X ++ (fPre b ++ Y)) (hb : fOk b) : fX1_levelAt a (iI X.length) w = some (iI (fLev b)) :=
  levelAt_pt h (by have h1 := split_len e; have h2 := fSz_pos hb; omega) (hs X b Y e hb (Nat.zero_le _))
theorem placesAt_pt {ow : Nat → Nat × Nat} {w : kW} {a cap n : Nat} {v : List Nat} {b : Fo} (h : Ln ow w a cap v) (hn : n < v.length) (hp : PtOk w a n b) : fX1_placesAt a (iI n) w = some (iI (fPl b)) := by
  rw [placesAt_in h _ (by omega) (by omega), Int.toNat_natCast, hp.2.2.1]
theorem placesAt_ok {ow : Nat → Nat × Nat} {w : kW} {a cap : Nat} {v X Y : List Nat} {b : Fo} (h : Ln ow w a cap v) (hs : St w a v) (e : v = X ++ (fPre b ++ Y)) (hb : fOk b) : fX1_placesAt a (iI X.length) w = some (iI (fPl b)) :=
  placesAt_pt h (by have h1 := split_len e; have h2 := fSz_pos hb; omega) (hs X b Y e hb (Nat.zero_le _))
theorem lettersAt_pt {ow : Nat → Nat × Nat} {w : kW} {a cap n : Nat} {v : List Nat} {b : Fo} (h : Ln ow w a cap v) (hn : n < v.length) (hp : PtOk w a n b) : fX1_lettersAt a (iI n) w = some (iI (fLs b)) := by
  rw [lettersAt_in h _ (by omega) (by omega), Int.toNat_natCast, hp.2.2.2]
theorem lettersAt_ok {ow : Nat → Nat × Nat} {w : kW} {a cap : Nat} {v X Y : List Nat} {b : Fo} (h : Ln ow w a cap v) (hs : St w a v) (e : v = X ++ (fPre b ++ Y)) (hb : fOk b) : fX1_lettersAt a (iI X.length) w = some (iI (fLs b)) :=
  lettersAt_pt h (by have h1 := split_len e; have h2 := fSz_pos hb; omega) (hs X b Y e hb (Nat.zero_le _))
theorem clear_ok {ow : Nat → Nat × Nat} {w : kW} {a cap : Nat} (h : LnS ow w a cap) : ∃ w', fX1_clear a w = some w' ∧ Ln ow w' a cap [] ∧ Sm ow (fun q => q = a) w w' := by
  have hS : Sm ow (fun q => q = a) w (kSI (kSI w a 5 (iI 0)) a 6 (iI 0)) := (Sm.si (by rw [h.2.1])).tr (Sm.si (by rw [h.2.1]))
  refine ⟨kSI (kSI w a 5 (iI 0)) a 6 (iI 0), ?_, ⟨h.sm hS, Nat.zero_le _, ⟨?_, fun i c hc => by simp at hc⟩, ?_⟩, hS⟩
  · rw [fX1_clear]
    have hk := h.1
    simp (disch := (first | omega | (simp only [kKd_SI, kKd_SP, kKd_SJ, kLn_SI, kLn_SP, kLn_SJ]; omega))) only [iI_add, iI_sub, iI_mul, iI_neg, iI_n, iL_0, iL_1, iL_2, iL_3, iL_4, iL_5, iL_6, iL_7, iL_8, iL_9, iL_10, iL_11, iL_12, iL_13, iL_14, iL_15, iL_16, iL_17, iL_18, iL_19, iL_20, iL_21, iL_22, iL_23, iL_24, iL_27, iL_32, iL_40, iL_41, iL_43, iL_48, iL_49, iL_57, iL_59, iL_60, iL_62, iL_63, iL_64, iL_83, iL_99, iL_100, iL_107, iL_108, iL_109, iL_112, iL_115, iL_117, iL_118, iL_120, iL_121, iL_123, iL_126, iL_127, iL_136, iL_163, iL_200, iL_203, iL_243, iL_400, iL_512, iL_960, iL_1000, iL_2400, iL_4000, iL_6000, iL_8000, iL_8001, iL_9000, iL_10000, iL_12345, iL_65536, iL_1000000, iL_252645135, iL_858993459, iL_1103515245, iL_1431655765, iL_2147483647, kgI_e, kgP_e, kpI_e, kpP_e, kal_e, kaI_e, kaP_e, kaJ_e, ksI_e, ksP_e, ksJ_e, kRc_e, kIx_i, Option.bind_some, Option.map_some, kKd_SI, kKd_SP, kKd_SJ, kLn_SI, kLn_SP, kLn_SJ, kP_SI, kP_SJ, kJ_SI, kJ_SP, kI_SP, kI_SJ, kSz_SI, kSz_SP, kSz_SJ]
  · rw [kI_SI_j (by omega), kI_SI_s]; rfl
  · rw [kI_SI_s, iL_0]
/-- a line that may have spilled: none when it has -/
def Lx (ow : Nat → Nat × Nat) (w : kW) (a cap : Nat) (ov : Option (List Nat)) : Prop := match ov with
  | some v => Ln ow w a cap v
  | none => LnS ow w a cap ∧ kI w a 5 = iI cap ∧ kI w a 6 = iI 1
def apc (cap : Nat) (ov : Option (List Nat)) (x : List Nat) : Option (List Nat) := ov.bind fun v => if v.length + x.length ≤ cap then some (v ++ x) else none
theorem apc_apc (cap : Nat) (ov : Option (List Nat)) (x y : List Nat) : apc cap (apc cap ov x) y = apc cap ov (x ++ y) := by
  cases ov with
  | none => rfl
  | some v =>
    simp only [apc, Option.bind_some, List.length_append]
    by_cases h : v.length + x.length ≤ cap
    · rw [if_pos h, Option.bind_some]
      simp only [List.length_append, List.append_assoc]
      by_cases h2 : v.length + x.length + y.length ≤ cap
      · rw [if_pos h2, if_pos (by omega)]
      · rw [if_neg h2, if_neg (by omega)]
    · rw [if_neg h, if_neg (by omega)]
      rfl
theorem Lx.S {ow : Nat → Nat × Nat} {w : kW} {a cap : Nat} {ov : Option (List Nat)} (h : Lx ow w a cap ov) : LnS ow w a cap := by
  cases ov with
  | none => exact h.1
  | some v => exact h.1
theorem add_ok {ow : Nat → Nat × Nat} {w : kW} {a cap : Nat} {ov : Option (List Nat)} (h : Lx ow w a cap ov) (c : Nat) (hc : c < 128) : ∃ w', fX1_add a (iI c) w = some w' ∧ Lx ow w' a cap (apc cap ov [c]) ∧ Sm ow (fun q => q = a) w w' := by
  have hS0 := h.S
  obtain ⟨hk, ho, hcap, ⟨p0, k0, n0, o0⟩, -⟩ := id hS0
  have spill : kI w a 5 = iI cap → ∃ w', fX1_add a (iI c) w = some w' ∧ w' = kSI w a 6 (iI 1) := by
    intro h5
    refine ⟨_, ?_, rfl⟩
    rw [fX1_add]
    simp (disch := omega) only [iI_add, iI_sub, iI_mul, iI_neg, iI_n, iL_0, iL_1, iL_2, iL_3, iL_4, iL_5, iL_6, iL_7, iL_8, iL_9, iL_10, iL_11, iL_12, iL_13, iL_14, iL_15, iL_16, iL_17, iL_18, iL_19, iL_20, iL_21, iL_22, iL_23, iL_24, iL_27, iL_32, iL_40, iL_41, iL_43, iL_48, iL_49, iL_57, iL_59, iL_60, iL_62, iL_63, iL_64, iL_83, iL_99, iL_100, iL_107, iL_108, iL_109, iL_112, iL_115, iL_117, iL_118, iL_120, iL_121, iL_123, iL_126, iL_127, iL_136, iL_163, iL_200, iL_203, iL_243, iL_400, iL_512, iL_960, iL_1000, iL_2400, iL_4000, iL_6000, iL_8000, iL_8001, iL_9000, iL_10000, iL_12345, iL_65536, iL_1000000, iL_252645135, iL_858993459, iL_1103515245, iL_1431655765, iL_2147483647, iI_lt, iI_le, iI_eq, kgI_e, kgP_e, kpI_e, kpP_e, kal_e, kaI_e, kaP_e, kaJ_e, ksI_e, ksP_e, ksJ_e, kRc_e, kIx_i, Option.bind_some, Option.map_some, h5, p0, n0, if_pos, if_neg]
  have hS6 : Sm ow (fun q => q = a) w (kSI w a 6 (iI 1)) := Sm.si (by rw [ho])
  cases ov with
  | none =>
    obtain ⟨w', e1, e2⟩ := spill h.2.1
    subst e2
    exact ⟨_, e1, ⟨hS0.sm hS6, by rw [kI_SI_j (by omega)]; exact h.2.1, kI_SI_s⟩, hS6⟩
  | some v =>
    obtain ⟨-, hl, ⟨h5, hv⟩, h6⟩ := id h
    by_cases hlt : v.length < cap
    · have hS1 : Sm ow (fun q => q = a) w (kSI (kSI w (Lp w a 0) v.length (iI c)) a 5 (iI (v.length + 1))) := (Sm.si (by rw [o0])).tr (Sm.si (by rw [ho]))
      have hne : a ≠ Lp w a 0 := fun e => by
        have h1 : ow a = ow (Lp w a 0) := congrArg ow e
        rw [ho, o0] at h1
        cases h1
      refine ⟨kSI (kSI w (Lp w a 0) v.length (iI c)) a 5 (iI (v.length + 1)), ?_, ?_, hS1⟩
      · rw [fX1_add]
        have hb : (iI c).toInt8.toInt32 = iI c := nar_b (by omega) (by omega)
        simp (disch := (first | omega | (simp only [kKd_SI, kKd_SP, kKd_SJ, kLn_SI, kLn_SP, kLn_SJ]; omega))) only [iI_add, iI_sub, iI_mul, iI_neg, iI_n, iL_0, iL_1, iL_2, iL_3, iL_4, iL_5, iL_6, iL_7, iL_8, iL_9, iL_10, iL_11, iL_12, iL_13, iL_14, iL_15, iL_16, iL_17, iL_18, iL_19, iL_20, iL_21, iL_22, iL_23, iL_24, iL_27, iL_32, iL_40, iL_41, iL_43, iL_48, iL_49, iL_57, iL_59, iL_60, iL_62, iL_63, iL_64, iL_83, iL_99, iL_100, iL_107, iL_108, iL_109, iL_112, iL_115, iL_117, iL_118, iL_120, iL_121, iL_123, iL_126, iL_127, iL_136, iL_163, iL_200, iL_203, iL_243, iL_400, iL_512, iL_960, iL_1000, iL_2400, iL_4000, iL_6000, iL_8000, iL_8001, iL_9000, iL_10000, iL_12345, iL_65536, iL_1000000, iL_252645135, iL_858993459, iL_1103515245, iL_1431655765, iL_2147483647, iI_lt, iI_le, iI_eq, kgI_e, kgP_e, kpI_e, kpP_e, kal_e, kaI_e, kaP_e, kaJ_e, ksI_e, ksP_e, ksJ_e, kRc_e, kIx_i, Option.bind_some, Option.map_some, h5, p0, n0, if_pos, if_neg, ite_true, hb, nar_b, Int.toNat_natCast, kI_SI_o hne, kKd_SI, kKd_SP, kKd_SJ, kLn_SI, kLn_SP, kLn_SJ, kP_SI, kP_SJ, kJ_SI, kJ_SP, kI_SP, kI_SJ, kSz_SI, kSz_SP, kSz_SJ]
      · have e : apc cap (some v) [c] = some (v ++ [c]) := by simp [apc]; omega
        rw [e]
        refine ⟨hS0.sm hS1, by simp; omega, ⟨by rw [kI_SI_s]; simp, fun i q hq => ?_⟩, ?_⟩
        · rw [hS1.lp, kI_SI_o (Ne.symm hne), kI_SI]
          by_cases hi : i = v.length
          · subst hi
            rw [if_pos ⟨rfl, rfl⟩]
            simp at hq
            rw [hq]
          · rw [if_neg (fun z => hi z.2)]
            refine hv i q ?_
            rw [List.getElem?_append] at hq
            by_cases hi2 : i < v.length
            · rw [if_pos hi2] at hq; exact hq
            · rw [if_neg hi2] at hq
              rw [List.getElem?_eq_none (by simp; omega)] at hq
              cases hq
        · rw [kI_SI_j (by omega), kI_SI_o hne]; exact h6
    · have hfull : v.length = cap := by omega
      obtain ⟨w', e1, e2⟩ := spill (by rw [h5, hfull])
      subst e2
      have e : apc cap (some v) [c] = none := by simp [apc]; omega
      rw [e]
      exact ⟨_, e1, ⟨hS0.sm hS6, by rw [kI_SI_j (by omega), h5, hfull], kI_SI_s⟩, hS6⟩
