/-! reading a line: same parts, signs, likeness -/
def pcN (n : Nat) : Nat := n % 2 + n / 2 % 2 + n / 4 % 2 + n / 8 % 2 + n / 16 % 2 + n / 32 % 2
theorem bit32_ok (n : Nat) (h : n < 64) : fJ6_bitCount_0f7a4 (iI n) = some (iI (pcN n)) := by
  have h1 : ∀ a : Fin 64, fJ6_bitCount_0f7a4 (iI (a.val : Nat)) = some (iI (pcN a.val)) := by decide +kernel
  exact h1 ⟨n, h⟩
theorem pcN_le (n : Nat) : pcN n ≤ 6 := by unfold pcN; omega
def fEq (a b : Fo) : Bool := decide (fPre a = fPre b)
theorem fEq_iff {a b : Fo} (ha : fOk a) (hb : fOk b) : fEq a b = true ↔ a = b := by
  unfold fEq
  rw [decide_eq_true_iff]
  exact ⟨fun h => fPre_eq ha hb h, fun h => by rw [h]⟩
theorem atZ_nat {v : List Nat} {i : Nat} (h : i < v.length) : atZ v (i : Int) = v[i] := by
  unfold atZ
  rw [if_neg (by omega), Int.toNat_natCast, List.getD_eq_getElem?_getD, List.getElem?_eq_getElem h]
  rfl
theorem at_in {ow : Nat → Nat × Nat} {w : kW} {a cap : Nat} {v : List Nat} (h : Ln ow w a cap v) {i : Nat} (hi : i < v.length) : fX1_at a (iI i) w = some (iI v[i]) := by
  have h1 := h.2.1
  have h2 := h.1.2.2.1
  rw [at_ok h _ (by omega) (by omega), atZ_nat hi]
theorem at_at {ow : Nat → Nat × Nat} {w : kW} {a cap : Nat} {v X Y : List Nat} {c : Nat} (h : Ln ow w a cap v) (e : v = X ++ c :: Y) : fX1_at a (iI X.length) w = some (iI c) := by
  have hi : X.length < v.length := by rw [e]; simp
  rw [at_in h hi]
  congr 3
  subst e
  simp
theorem samePart_loop {ow : Nat → Nat × Nat} {w : kW} {a o cap capo : Nat} {v u : List Nat} (h : Ln ow w a cap v) (ho : Ln ow w o capo u) (hv : ∀ c ∈ v, c < 128) (hu : ∀ c ∈ u, c < 128) (i j len : Nat) (hi : i + len ≤ v.length) (hj : j + len ≤ u.length) (kont : Option Int32) : ∀ (k n q : Nat), k < n → q + k = len →
    fX1_samePart_L26 a (iI i) (some o) (iI j) (iI len) w n (fun _ => kont) (iI q) = if (v.drop (i + q)).take k = (u.drop (j + q)).take k then kont else some 0 := by
  intro k
  induction k with
  | zero =>
    intro n q hn hq
    obtain ⟨n, rfl⟩ : ∃ z, n = z + 1 := ⟨n - 1, by omega⟩
    have h1 := h.2.1
    have h2 := h.1.2.2.1
    rw [fX1_samePart_L26]
    simp (disch := omega) only [iI_lt, iI_le, iI_eq, if_pos, List.take_zero, ite_true]
  | succ k ih =>
    intro n q hn hq
    obtain ⟨n, rfl⟩ : ∃ z, n = z + 1 := ⟨n - 1, by omega⟩
    have h1 := h.2.1
    have h2 := h.1.2.2.1
    have h3 := ho.2.1
    have h4 := ho.1.2.2.1
    have hk := h.1.1
    have hko := ho.1.1
    have l1 : i + q < v.length := by omega
    have l2 : j + q < u.length := by omega
    have f1 := at_in h l1
    have f2 := at_in ho l2
    push_cast at f1 f2
    have g1 := hv _ (List.getElem_mem l1)
    have g2 := hu _ (List.getElem_mem l2)
    have ih' := ih n (q + 1) (by omega) (by omega)
    have d1 : (v.drop (i + q)).take (k + 1) = v[i + q] :: (v.drop (i + (q + 1))).take k := by
      rw [List.drop_eq_getElem_cons l1, List.take_succ_cons]; rfl
    have d2 : (u.drop (j + q)).take (k + 1) = u[j + q] :: (u.drop (j + (q + 1))).take k := by
      rw [List.drop_eq_getElem_cons l2, List.take_succ_cons]; rfl
    rw [fX1_samePart_L26, d1, d2]
    by_cases hc : v[i + q] = u[j + q]
    · simp (disch := omega) only [kgI_e, kgP_e, kpI_e, kpP_e, kal_e, kaI_e, kaP_e, kaJ_e, ksI_e, ksP_e, ksJ_e, kRc_e, kIx_i, Option.bind_some, Option.map_some, iI_lt, iI_le, iI_eq, iI_add, iI_sub, iI_mul, iI_neg, iI_n, iL_0, iL_1, iL_2, iL_3, iL_4, iL_5, iL_6, iL_7, iL_8, iL_9, iL_10, iL_11, iL_12, iL_13, iL_14, iL_15, iL_16, iL_17, iL_18, iL_19, iL_20, iL_21, iL_22, iL_23, iL_24, iL_27, iL_32, iL_40, iL_41, iL_43, iL_48, iL_49, iL_57, iL_59, iL_60, iL_62, iL_63, iL_64, iL_83, iL_99, iL_100, iL_107, iL_108, iL_109, iL_112, iL_115, iL_117, iL_118, iL_120, iL_121, iL_123, iL_126, iL_127, iL_136, iL_163, iL_200, iL_203, iL_243, iL_400, iL_512, iL_960, iL_1000, iL_2400, iL_4000, iL_6000, iL_8000, iL_8001, iL_9000, iL_10000, iL_12345, iL_65536, iL_1000000, iL_252645135, iL_858993459, iL_1103515245, iL_1431655765, iL_2147483647, f1, f2, if_pos, if_neg]
      have e1 : ((q + 1 : Nat) : Int) = (q : Int) + 1 := by omega
      rw [e1] at ih'
      rw [ih', hc]
      by_cases hz : (v.drop (i + (q + 1))).take k = (u.drop (j + (q + 1))).take k
      · rw [if_pos hz, if_pos (by rw [hz])]
      · rw [if_neg hz, if_neg (fun z => hz (List.cons.inj z).2)]
        exact congrArg some iL_0
    · rw [if_neg (fun z => hc (List.cons.inj z).1)]
      simp (disch := omega) only [kgI_e, kgP_e, kpI_e, kpP_e, kal_e, kaI_e, kaP_e, kaJ_e, ksI_e, ksP_e, ksJ_e, kRc_e, kIx_i, Option.bind_some, Option.map_some, iI_lt, iI_le, iI_eq, iI_add, iI_sub, iI_mul, iI_neg, iI_n, iL_0, iL_1, iL_2, iL_3, iL_4, iL_5, iL_6, iL_7, iL_8, iL_9, iL_10, iL_11, iL_12, iL_13, iL_14, iL_15, iL_16, iL_17, iL_18, iL_19, iL_20, iL_21, iL_22, iL_23, iL_24, iL_27, iL_32, iL_40, iL_41, iL_43, iL_48, iL_49, iL_57, iL_59, iL_60, iL_62, iL_63, iL_64, iL_83, iL_99, iL_100, iL_107, iL_108, iL_109, iL_112, iL_115, iL_117, iL_118, iL_120, iL_121, iL_123, iL_126, iL_127, iL_136, iL_163, iL_200, iL_203, iL_243, iL_400, iL_512, iL_960, iL_1000, iL_2400, iL_4000, iL_6000, iL_8000, iL_8001, iL_9000, iL_10000, iL_12345, iL_65536, iL_1000000, iL_252645135, iL_858993459, iL_1103515245, iL_1431655765, iL_2147483647, f1, f2, if_pos, if_neg]
theorem samePart_ok {ow : Nat → Nat × Nat} {w : kW} {a o cap capo : Nat} {v u X Y X' Y' : List Nat} {b b' : Fo} (h : Ln ow w a cap v) (hs : St w a v) (ho : Ln ow w o capo u) (hso : St w o u) (hv : ∀ c ∈ v, c < 128) (hu : ∀ c ∈ u, c < 128) (e : v = X ++ (fPre b ++ Y)) (hb : fOk b) (e' : u = X' ++ (fPre b' ++ Y')) (hb' : fOk b') :
    fX1_samePart a (iI X.length) (some o) (iI X'.length) w = some (iB (fEq b b')) := by
  have q1 := split_len e
  have q2 := split_len e'
  have h1 := h.2.1
  have h2 := h.1.2.2.1
  have h3 := ho.2.1
  have h4 := ho.1.2.2.1
  have hk := h.1.1
  have hko := ho.1.1
  have f1 := endAt_ok h hs e hb
  have f2 := endAt_ok ho hso e' hb'
  push_cast at f1 f2
  have s1 : ((X.length : Int) + fSz b - X.length) = fSz b := by omega
  have s2 : ((X'.length : Int) + fSz b' - X'.length) = fSz b' := by omega
  rw [fX1_samePart]
  by_cases hl : fSz b = fSz b'
  · have f3 := samePart_loop h ho hv hu X.length X'.length (fSz b) (by omega) (by omega) (some 1) (fSz b) kFU 0 (by unfold kFU; omega) (by omega)
    simp (disch := omega) only [kgI_e, kgP_e, kpI_e, kpP_e, kal_e, kaI_e, kaP_e, kaJ_e, ksI_e, ksP_e, ksJ_e, kRc_e, kIx_i, Option.bind_some, Option.map_some, iI_lt, iI_le, iI_eq, f1, f2, iI_sub, s1, s2, if_pos]
    have e0 : (0 : Int32) = iI ((0 : Nat) : Int) := by decide +kernel
    rw [e0, f3]
    have d1 : (v.drop (X.length + 0)).take (fSz b) = fPre b := by
      rw [e, Nat.add_zero, List.drop_left]; exact List.take_left
    have d2 : (u.drop (X'.length + 0)).take (fSz b) = fPre b' := by
      rw [e', Nat.add_zero, List.drop_left, hl]; exact List.take_left
    rw [d1, d2]
    unfold fEq
    by_cases hz : fPre b = fPre b'
    · rw [if_pos hz, decide_eq_true hz]; rfl
    · rw [if_neg hz, decide_eq_false hz]; rfl
  · simp (disch := omega) only [kgI_e, kgP_e, kpI_e, kpP_e, kal_e, kaI_e, kaP_e, kaJ_e, ksI_e, ksP_e, ksJ_e, kRc_e, kIx_i, Option.bind_some, Option.map_some, iI_lt, iI_le, iI_eq, f1, f2, iI_sub, s1, s2, if_neg]
    have e2 : fEq b b' = false := by
      unfold fEq
      rw [decide_eq_false_iff_not]
      intro z
      exact hl (congrArg List.length z)
    rw [e2]
    rfl
/-- how many letters a part has -/
def fUn (b : Fo) : Nat := pcN (fLs b)
theorem unlikeAt_ok {ow : Nat → Nat × Nat} {w : kW} {a cap : Nat} {v X Y : List Nat} {b : Fo} (h : Ln ow w a cap v) (hs : St w a v) (e : v = X ++ (fPre b ++ Y)) (hb : fOk b) : fX1_unlikeAt a (iI X.length) w = some (iI (fUn b)) := by
  have q1 := split_len e
  have q2 := fSz_pos hb
  have f1 := (hs X b Y e hb (Nat.zero_le _)).2.2.2
  have f2 := bit32_ok (fLs b) (fLs_lt b hb)
  obtain ⟨⟨hk, ho, hc, -, -, ⟨p2, k2, n2, o2⟩, ⟨p3, k3, n3, o3⟩, ⟨p4, k4, n4, o4⟩⟩, hl, ⟨h5, hv⟩, h6⟩ := h
  rw [fX1_unlikeAt]
  simp (disch := omega) only [iI_add, iI_sub, iI_mul, iI_neg, iI_n, iL_0, iL_1, iL_2, iL_3, iL_4, iL_5, iL_6, iL_7, iL_8, iL_9, iL_10, iL_11, iL_12, iL_13, iL_14, iL_15, iL_16, iL_17, iL_18, iL_19, iL_20, iL_21, iL_22, iL_23, iL_24, iL_27, iL_32, iL_40, iL_41, iL_43, iL_48, iL_49, iL_57, iL_59, iL_60, iL_62, iL_63, iL_64, iL_83, iL_99, iL_100, iL_107, iL_108, iL_109, iL_112, iL_115, iL_117, iL_118, iL_120, iL_121, iL_123, iL_126, iL_127, iL_136, iL_163, iL_200, iL_203, iL_243, iL_400, iL_512, iL_960, iL_1000, iL_2400, iL_4000, iL_6000, iL_8000, iL_8001, iL_9000, iL_10000, iL_12345, iL_65536, iL_1000000, iL_252645135, iL_858993459, iL_1103515245, iL_1431655765, iL_2147483647, iI_lt, iI_le, iI_eq, kgI_e, kgP_e, kpI_e, kpP_e, kal_e, kaI_e, kaP_e, kaJ_e, ksI_e, ksP_e, ksJ_e, kRc_e, kIx_i, Option.bind_some, Option.map_some, h5, p4, n4, Int.toNat_natCast, f1, f2, if_pos, if_neg]
  rfl
def fLike (a b : Fo) : Bool := fLev a == fLev b && fPl a == fPl b && fUn a == fUn b
theorem isLike_ok {ow : Nat → Nat × Nat} {w : kW} {a o cap capo : Nat} {v u X Y X' Y' : List Nat} {b b' : Fo} (h : Ln ow w a cap v) (hs : St w a v) (ho : Ln ow w o capo u) (hso : St w o u) (e : v = X ++ (fPre b ++ Y)) (hb : fOk b) (e' : u = X' ++ (fPre b' ++ Y')) (hb' : fOk b') :
    fX1_isLike a (iI X.length) (some o) (iI X'.length) w = some (iB (fLike b b')) := by
  have q1 := split_len e
  have q2 := split_len e'
  have h1 := h.2.1
  have h2 := h.1.2.2.1
  have h3 := ho.2.1
  have h4 := ho.1.2.2.1
  have hk := h.1.1
  have hko := ho.1.1
  have f1 := levelAt_ok h hs e hb
  have f2 := levelAt_ok ho hso e' hb'
  have f3 := placesAt_ok h hs e hb
  have f4 := placesAt_ok ho hso e' hb'
  have f5 := unlikeAt_ok h hs e hb
  have f6 := unlikeAt_ok ho hso e' hb'
  have b1 := fLev_le b hb
  have b2 := fLev_le b' hb'
  have b3 := fPl_le b hb
  have b4 := fPl_le b' hb'
  have b5 : fUn b ≤ 6 := pcN_le _
  have b6 : fUn b' ≤ 6 := pcN_le _
  rw [fX1_isLike]
  by_cases c1 : fLev b = fLev b'
  · by_cases c2 : fPl b = fPl b'
    · by_cases c3 : fUn b = fUn b'
      · have e9 : fLike b b' = true := by simp [fLike, c1, c2, c3]
        simp (disch := omega) only [kgI_e, kgP_e, kpI_e, kpP_e, kal_e, kaI_e, kaP_e, kaJ_e, ksI_e, ksP_e, ksJ_e, kRc_e, kIx_i, Option.bind_some, Option.map_some, iI_lt, iI_le, iI_eq, f1, f2, f3, f4, f5, f6, if_pos, e9]
        rfl
      · have e9 : fLike b b' = false := by simp [fLike, c3]
        simp (disch := omega) only [kgI_e, kgP_e, kpI_e, kpP_e, kal_e, kaI_e, kaP_e, kaJ_e, ksI_e, ksP_e, ksJ_e, kRc_e, kIx_i, Option.bind_some, Option.map_some, iI_lt, iI_le, iI_eq, f1, f2, f3, f4, f5, f6, if_pos, if_neg, e9]
        rfl
    · have e9 : fLike b b' = false := by simp [fLike, c2]
      simp (disch := omega) only [kgI_e, kgP_e, kpI_e, kpP_e, kal_e, kaI_e, kaP_e, kaJ_e, ksI_e, ksP_e, ksJ_e, kRc_e, kIx_i, Option.bind_some, Option.map_some, iI_lt, iI_le, iI_eq, f1, f2, f3, f4, if_pos, if_neg, e9]
      rfl
  · have e9 : fLike b b' = false := by simp [fLike, c1]
    simp (disch := omega) only [kgI_e, kgP_e, kpI_e, kpP_e, kal_e, kaI_e, kaP_e, kaJ_e, ksI_e, ksP_e, ksJ_e, kRc_e, kIx_i, Option.bind_some, Option.map_some, iI_lt, iI_le, iI_eq, f1, f2, if_pos, if_neg, e9]
    rfl
def fIsIf : Fo → Bool
  | .sub _ _ => true
  | _ => false
theorem isIf_ok {ow : Nat → Nat × Nat} {w : kW} {a cap : Nat} {f : Fo} (hf : fOk f) (h : Ln ow w a cap (fPre f)) : fX1_isIf a w = some (iB (fIsIf f)) := by
  have hk := h.1.1
  have f1 : ∀ (c : Nat) (Y : List Nat), fPre f = c :: Y → fX1_at a (0 : Int32) w = some (iI c) := by
    intro c Y e
    have e0 : (0 : Int32) = iI (([] : List Nat).length : Int) := by decide +kernel
    rw [e0]
    exact at_at (X := []) h e
  rw [fX1_isIf]
  rcases fCases hf with ⟨k, hk6, rfl⟩ | ⟨c, hc0, rfl⟩ | ⟨c, d, hc0, hd0, rfl⟩ | ⟨c, d, hc0, hd0, rfl⟩
  · have f2 := f1 _ _ (fPre_var k)
    rw [kRc_e hk, Option.bind_some, f2, Option.bind_some, if_neg (by rw [iL_62, iI_eq (by omega) (by omega) (by omega) (by omega)]; omega)]
    rfl
  · have f2 := f1 _ _ (fPre_neg c)
    rw [kRc_e hk, Option.bind_some, f2, Option.bind_some, if_neg (by decide +kernel)]
    rfl
  · have f2 := f1 _ _ (fPre_add c d)
    rw [kRc_e hk, Option.bind_some, f2, Option.bind_some, if_neg (by decide +kernel)]
    rfl
  · have f2 := f1 _ _ (fPre_sub c d)
    rw [kRc_e hk, Option.bind_some, f2, Option.bind_some, if_pos (by decide +kernel)]
    rfl
/-- the second part of an if begins behind its first, which begins at 1 -/
theorem second_ok {ow : Nat → Nat × Nat} {w : kW} {a cap : Nat} {x y : Fo} (hf : fOk (.sub x y)) (h : Ln ow w a cap (fPre (.sub x y))) (hs : St w a (fPre (.sub x y))) : fX1_second a w = some (iI (1 + fSz x : Nat)) := by
  have hk := h.1.1
  have f1 := endAt_ok (X := [62]) (b := x) (Y := fPre y) h hs (by rw [fPre_sub]; rfl) hf.1
  have e0 : (1 : Int32) = iI (([62] : List Nat).length : Int) := by decide +kernel
  rw [fX1_second, kRc_e hk, Option.bind_some, e0, f1, Option.bind_some]
  rfl
theorem has_loop {ow : Nat → Nat × Nat} {w : kW} {a cap : Nat} {v : List Nat} (h : Ln ow w a cap v) (hv : ∀ c ∈ v, c < 128) (c : Nat) (hc : c < 128) (kont : Option Int32) : ∀ (k n q : Nat), k < n → q + k = v.length →
    fX1_has_L2 a (iI c) w n (fun _ => kont) (iI q) = if c ∈ v.drop q then some 1 else kont := by
  intro k
  induction k with
  | zero =>
    intro n q hn hq
    obtain ⟨n, rfl⟩ : ∃ z, n = z + 1 := ⟨n - 1, by omega⟩
    have h1 := h.2.1
    have h2 := h.1.2.2.1
    have hk := h.1.1
    have h5 := h.2.2.1.1
    rw [fX1_has_L2]
    simp (disch := omega) only [kgI_e, kgP_e, kpI_e, kpP_e, kal_e, kaI_e, kaP_e, kaJ_e, ksI_e, ksP_e, ksJ_e, kRc_e, kIx_i, Option.bind_some, Option.map_some, iI_lt, iI_le, iI_eq, h5, if_pos]
    rw [List.drop_eq_nil_of_le (by omega), if_neg (by simp)]
  | succ k ih =>
    intro n q hn hq
    obtain ⟨n, rfl⟩ : ∃ z, n = z + 1 := ⟨n - 1, by omega⟩
    have h1 := h.2.1
    have h2 := h.1.2.2.1
    have hk := h.1.1
    have h5 := h.2.2.1.1
    have l1 : q < v.length := by omega
    have f1 := at_in h l1
    have g1 := hv _ (List.getElem_mem l1)
    have ih' := ih n (q + 1) (by omega) (by omega)
    have d1 : v.drop q = v[q] :: v.drop (q + 1) := List.drop_eq_getElem_cons l1
    rw [fX1_has_L2, d1]
    by_cases hcq : v[q] = c
    · rw [if_pos (by rw [hcq]; exact List.mem_cons_self)]
      simp (disch := omega) only [kgI_e, kgP_e, kpI_e, kpP_e, kal_e, kaI_e, kaP_e, kaJ_e, ksI_e, ksP_e, ksJ_e, kRc_e, kIx_i, Option.bind_some, Option.map_some, iI_lt, iI_le, iI_eq, h5, f1, if_pos, if_neg]
    · simp (disch := omega) only [kgI_e, kgP_e, kpI_e, kpP_e, kal_e, kaI_e, kaP_e, kaJ_e, ksI_e, ksP_e, ksJ_e, kRc_e, kIx_i, Option.bind_some, Option.map_some, iI_lt, iI_le, iI_eq, iI_add, iL_1, h5, f1, if_pos, if_neg]
      have e1 : ((q + 1 : Nat) : Int) = (q : Int) + 1 := by omega
      rw [e1] at ih'
      rw [← iL_1, ih']
      by_cases hz : c ∈ v.drop (q + 1)
      · rw [if_pos hz, if_pos (List.mem_cons_of_mem _ hz)]
      · rw [if_neg hz, if_neg (fun z => (List.mem_cons.mp z).elim (fun e => hcq e.symm) hz)]
theorem has_ok {ow : Nat → Nat × Nat} {w : kW} {a cap : Nat} {v : List Nat} (h : Ln ow w a cap v) (hv : ∀ c ∈ v, c < 128) (c : Nat) (hc : c < 128) : fX1_has a (iI c) w = some (iB (decide (c ∈ v))) := by
  have h1 := h.2.1
  have h2 := h.1.2.2.1
  have e0 : (0 : Int32) = iI ((0 : Nat) : Int) := by decide +kernel
  have f := has_loop h hv c hc (some 0) v.length kFU 0 (by unfold kFU; omega) (by omega)
  rw [fX1_has]
  rw [← e0] at f
  rw [f, List.drop_zero]
  by_cases hz : c ∈ v
  · rw [if_pos hz, decide_eq_true hz]; rfl
  · rw [if_neg hz, decide_eq_false hz]; rfl
