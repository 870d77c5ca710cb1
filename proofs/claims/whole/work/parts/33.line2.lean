/-! adding parts, settling -/
theorem Lx.sm {ow : Nat → Nat × Nat} {S : Nat → Prop} {w w1 : kW} {a cap : Nat} {ov : Option (List Nat)} (h : Lx ow w a cap ov) (hs : Sm ow S w w1) (ha : ¬ S a) : Lx ow w1 a cap ov := by
  cases ov with
  | none => exact ⟨h.1.sm hs, by rw [h.1.kI hs ha]; exact h.2.1, by rw [h.1.kI hs ha]; exact h.2.2⟩
  | some v => exact Ln.sm h hs ha
theorem Lx.sp {ow : Nat → Nat × Nat} {w : kW} {a cap : Nat} {ov : Option (List Nat)} (h : Lx ow w a cap ov) : kI w a 6 = iB ov.isNone := by
  cases ov with
  | none => rw [h.2.2]; rfl
  | some v => exact h.2.2.2
theorem addPart_loop {ow : Nat → Nat × Nat} {a o cap capo : Nat} {v : List Nat} (hne : a ≠ o) (hv : ∀ c ∈ v, c < 128) (x2 : Int32) (E : Nat) (hE : E ≤ v.length) (kont : kW → Option kW) : ∀ (k n i : Nat) (w : kW) (ov : Option (List Nat)), k < n → i + k = E → Lx ow w a cap ov → Ln ow w o capo v →
    ∃ w', fX1_addPart_L9 a (some o) x2 (iI E) n (fun _ q => kont q) (iI i) w = kont w' ∧ Lx ow w' a cap (apc cap ov ((v.drop i).take k)) ∧ Sm ow (fun q => q = a) w w' := by
  intro k
  induction k with
  | zero =>
    intro n i w ov hn hi h ho
    obtain ⟨n, rfl⟩ : ∃ q, n = q + 1 := ⟨n - 1, by omega⟩
    have hlen := ho.2.1
    have hcap := ho.1.2.2.1
    refine ⟨w, ?_, ?_, Sm.rf w⟩
    · rw [fX1_addPart_L9]
      simp (disch := omega) only [iI_add, iI_sub, iI_mul, iI_neg, iI_n, iL_0, iL_1, iL_2, iL_3, iL_4, iL_5, iL_6, iL_7, iL_8, iL_9, iL_10, iL_11, iL_12, iL_13, iL_14, iL_15, iL_16, iL_17, iL_18, iL_19, iL_20, iL_21, iL_22, iL_23, iL_24, iL_27, iL_32, iL_40, iL_41, iL_43, iL_48, iL_49, iL_57, iL_59, iL_60, iL_62, iL_63, iL_64, iL_83, iL_99, iL_100, iL_107, iL_108, iL_109, iL_112, iL_115, iL_117, iL_118, iL_120, iL_121, iL_123, iL_126, iL_127, iL_136, iL_163, iL_200, iL_203, iL_243, iL_400, iL_512, iL_960, iL_1000, iL_2400, iL_4000, iL_6000, iL_8000, iL_8001, iL_9000, iL_10000, iL_12345, iL_65536, iL_1000000, iL_252645135, iL_858993459, iL_1103515245, iL_1431655765, iL_2147483647, iI_lt, iI_le, iI_eq, if_pos, if_neg]
    · rw [List.take_zero]
      cases ov with
      | none => exact h
      | some u =>
        have e : apc cap (some u) [] = some u := by
          have := h.2.1
          simp [apc]; omega
        rw [e]; exact h
  | succ k ih =>
    intro n i w ov hn hi h ho
    obtain ⟨n, rfl⟩ : ∃ q, n = q + 1 := ⟨n - 1, by omega⟩
    have hlen := ho.2.1
    have hcap := ho.1.2.2.1
    have hk := h.S.1
    have hko := ho.1.1
    have hlt : i < v.length := by omega
    have hd : (v.drop i).take (k + 1) = v[i] :: (v.drop (i + 1)).take k := by
      rw [List.drop_eq_getElem_cons hlt, List.take_succ_cons]
    cases ov with
    | none =>
      have h6 : kI w a 6 = iI 1 := h.2.2
      refine ⟨w, ?_, h, Sm.rf w⟩
      rw [fX1_addPart_L9]
      simp (disch := omega) only [iI_add, iI_sub, iI_mul, iI_neg, iI_n, iL_0, iL_1, iL_2, iL_3, iL_4, iL_5, iL_6, iL_7, iL_8, iL_9, iL_10, iL_11, iL_12, iL_13, iL_14, iL_15, iL_16, iL_17, iL_18, iL_19, iL_20, iL_21, iL_22, iL_23, iL_24, iL_27, iL_32, iL_40, iL_41, iL_43, iL_48, iL_49, iL_57, iL_59, iL_60, iL_62, iL_63, iL_64, iL_83, iL_99, iL_100, iL_107, iL_108, iL_109, iL_112, iL_115, iL_117, iL_118, iL_120, iL_121, iL_123, iL_126, iL_127, iL_136, iL_163, iL_200, iL_203, iL_243, iL_400, iL_512, iL_960, iL_1000, iL_2400, iL_4000, iL_6000, iL_8000, iL_8001, iL_9000, iL_10000, iL_12345, iL_65536, iL_1000000, iL_252645135, iL_858993459, iL_1103515245, iL_1431655765, iL_2147483647, iI_lt, iI_le, iI_eq, kgI_e, kgP_e, kpI_e, kpP_e, kal_e, kaI_e, kaP_e, kaJ_e, ksI_e, ksP_e, ksJ_e, kRc_e, kIx_i, Option.bind_some, Option.map_some, h6, if_pos, if_neg]
    | some u =>
      have h6 : kI w a 6 = iI 0 := h.2.2.2.trans iL_0
      have hat : fX1_at o (iI i) w = some (iI v[i]) := by
        rw [at_ok ho _ (by omega) (by omega)]
        unfold atZ
        rw [if_neg (by omega), Int.toNat_natCast, List.getD_eq_getElem?_getD, List.getElem?_eq_getElem hlt]
        rfl
      obtain ⟨w1, e1, h1, hs1⟩ := add_ok h v[i] (hv _ (List.getElem_mem hlt))
      obtain ⟨w2, e2, h2, hs2⟩ := ih n (i + 1) w1 _ (by omega) (by omega) h1 (ho.sm hs1 (Ne.symm hne))
      refine ⟨w2, ?_, ?_, hs1.tr hs2⟩
      · rw [fX1_addPart_L9]
        simp (disch := omega) only [iI_add, iI_sub, iI_mul, iI_neg, iI_n, iL_0, iL_1, iL_2, iL_3, iL_4, iL_5, iL_6, iL_7, iL_8, iL_9, iL_10, iL_11, iL_12, iL_13, iL_14, iL_15, iL_16, iL_17, iL_18, iL_19, iL_20, iL_21, iL_22, iL_23, iL_24, iL_27, iL_32, iL_40, iL_41, iL_43, iL_48, iL_49, iL_57, iL_59, iL_60, iL_62, iL_63, iL_64, iL_83, iL_99, iL_100, iL_107, iL_108, iL_109, iL_112, iL_115, iL_117, iL_118, iL_120, iL_121, iL_123, iL_126, iL_127, iL_136, iL_163, iL_200, iL_203, iL_243, iL_400, iL_512, iL_960, iL_1000, iL_2400, iL_4000, iL_6000, iL_8000, iL_8001, iL_9000, iL_10000, iL_12345, iL_65536, iL_1000000, iL_252645135, iL_858993459, iL_1103515245, iL_1431655765, iL_2147483647, iI_lt, iI_le, iI_eq, kgI_e, kgP_e, kpI_e, kpP_e, kal_e, kaI_e, kaP_e, kaJ_e, ksI_e, ksP_e, ksJ_e, kRc_e, kIx_i, Option.bind_some, Option.map_some, h6, hat, e1, if_pos, if_neg]
        rw [← e2]
        rfl
      · rw [hd, ← List.singleton_append, ← apc_apc]
        exact h2
theorem addPart_ok {ow : Nat → Nat × Nat} {w : kW} {a o cap capo : Nat} {ov : Option (List Nat)} {v X Y : List Nat} {b : Fo} (hne : a ≠ o) (h : Lx ow w a cap ov) (ho : Ln ow w o capo v) (hst : St w o v) (hv : ∀ c ∈ v, c < 128) (e : v = X ++ (fPre b ++ Y)) (hb : fOk b) :
    ∃ w', fX1_addPart a (some o) (iI X.length) w = some w' ∧ Lx ow w' a cap (apc cap ov (fPre b)) ∧ Sm ow (fun q => q = a) w w' := by
  have hl := split_len e
  have hlen := ho.2.1
  have hcap := ho.1.2.2.1
  obtain ⟨w', e1, h1, h2⟩ := addPart_loop (capo := capo) hne hv (iI X.length) (X.length + fSz b) (by omega) (fun q => some q) (fSz b) kFU X.length w ov (by unfold kFU; omega) (by omega) h ho
  refine ⟨w', ?_, ?_, h2⟩
  · rw [fX1_addPart]
    have hko := ho.1.1
    simp (disch := omega) only [kgI_e, kgP_e, kpI_e, kpP_e, kal_e, kaI_e, kaP_e, kaJ_e, ksI_e, ksP_e, ksJ_e, kRc_e, kIx_i, Option.bind_some, Option.map_some, endAt_ok ho hst e hb]
    exact e1
  · have e3 : (v.drop X.length).take (fSz b) = fPre b := by
      rw [e, List.drop_left]
      exact List.take_left
    rw [e3] at h1
    exact h1
theorem settlePart_ok {ow : Nat → Nat × Nat} {w : kW} {a cap : Nat} {v : List Nat} (h : Ln ow w a cap v) (i : Nat) (hi : i < v.length) (x y z u : Int32) : ∃ w', fX1_settlePart a (iI i) x y z u w = some w' ∧ Ln ow w' a cap v ∧ Sm ow (fun q => q = a) w w' ∧ kI w' a = kI w a ∧
    (kI w' (Lp w a 1) i = x ∧ kI w' (Lp w a 2) i = y ∧ kI w' (Lp w a 3) i = z ∧ kI w' (Lp w a 4) i = u) ∧ (∀ j, j ≠ i → kI w' (Lp w a 1) j = kI w (Lp w a 1) j ∧ kI w' (Lp w a 2) j = kI w (Lp w a 2) j ∧ kI w' (Lp w a 3) j = kI w (Lp w a 3) j ∧ kI w' (Lp w a 4) j = kI w (Lp w a 4) j) := by
  obtain ⟨⟨hk, ho, hc, ⟨p0, k0, n0, o0⟩, ⟨p1, k1, n1, o1⟩, ⟨p2, k2, n2, o2⟩, ⟨p3, k3, n3, o3⟩, ⟨p4, k4, n4, o4⟩⟩, hl, ⟨h5, hv⟩, h6⟩ := id h
  have ne : ∀ {p q : Nat} {m n : Nat}, ow p = (a, m) → ow q = (a, n) → m ≠ n → p ≠ q := fun hp hq hmn e => by
    rw [e, hq] at hp
    exact hmn (Prod.mk.inj hp).2.symm
  have hS : Sm ow (fun q => q = a) w (kSI (kSI (kSI (kSI w (Lp w a 1) i x) (Lp w a 2) i y) (Lp w a 3) i z) (Lp w a 4) i u) := (((Sm.si (by rw [o1])).tr (Sm.si (by rw [o2]))).tr (Sm.si (by rw [o3]))).tr (Sm.si (by rw [o4]))
  have n12 := ne o1 o2 (by omega)
  have n13 := ne o1 o3 (by omega)
  have n14 := ne o1 o4 (by omega)
  have n23 := ne o2 o3 (by omega)
  have n24 := ne o2 o4 (by omega)
  have n34 := ne o3 o4 (by omega)
  have n01 := ne o0 o1 (by omega)
  have n02 := ne o0 o2 (by omega)
  have n03 := ne o0 o3 (by omega)
  have n04 := ne o0 o4 (by omega)
  have na1 := ne ho o1 (by omega)
  have na2 := ne ho o2 (by omega)
  have na3 := ne ho o3 (by omega)
  have na4 := ne ho o4 (by omega)
  have ha : kI (kSI (kSI (kSI (kSI w (Lp w a 1) i x) (Lp w a 2) i y) (Lp w a 3) i z) (Lp w a 4) i u) a = kI w a := by
    funext j
    rw [kI_SI_o na4, kI_SI_o na3, kI_SI_o na2, kI_SI_o na1]
  refine ⟨_, ?_, ⟨h.1.sm hS, hl, ⟨by rw [ha]; exact h5, fun j c hj => ?_⟩, by rw [ha]; exact h6⟩, hS, ha, ⟨?_, ?_, ?_, ?_⟩, fun j hj => ⟨?_, ?_, ?_, ?_⟩⟩
  · rw [fX1_settlePart]
    simp (disch := (first | omega | (simp only [kKd_SI, kKd_SP, kKd_SJ, kLn_SI, kLn_SP, kLn_SJ]; omega))) only [kgI_e, kgP_e, kpI_e, kpP_e, kal_e, kaI_e, kaP_e, kaJ_e, ksI_e, ksP_e, ksJ_e, kRc_e, kIx_i, Option.bind_some, Option.map_some, kKd_SI, kKd_SP, kKd_SJ, kLn_SI, kLn_SP, kLn_SJ, kP_SI, kP_SJ, kJ_SI, kJ_SP, kI_SP, kI_SJ, kSz_SI, kSz_SP, kSz_SJ, p1, p2, p3, p4, if_neg, ite_false, Int.toNat_natCast]
  · rw [hS.lp, kI_SI_o n04, kI_SI_o n03, kI_SI_o n02, kI_SI_o n01]
    exact hv j c hj
  · rw [kI_SI_o n14, kI_SI_o n13, kI_SI_o n12, kI_SI_s]
  · rw [kI_SI_o n24, kI_SI_o n23, kI_SI_s]
  · rw [kI_SI_o n34, kI_SI_s]
  · rw [kI_SI_s]
  · rw [kI_SI_o n14, kI_SI_o n13, kI_SI_o n12, kI_SI_j hj]
  · rw [kI_SI_o n24, kI_SI_o n23, kI_SI_j hj, kI_SI_o (Ne.symm n12)]
  · rw [kI_SI_o n34, kI_SI_j hj, kI_SI_o (Ne.symm n23), kI_SI_o (Ne.symm n13)]
  · rw [kI_SI_j hj, kI_SI_o (Ne.symm n34), kI_SI_o (Ne.symm n24), kI_SI_o (Ne.symm n14)]
theorem shl_ok (k : Nat) (h : k < 6) : iI 1 <<< (iI k &&& 31) = iI (2 ^ k : Nat) := by
  rcases (show k = 0 ∨ k = 1 ∨ k = 2 ∨ k = 3 ∨ k = 4 ∨ k = 5 by omega) with rfl | rfl | rfl | rfl | rfl | rfl <;> decide +kernel
theorem or_ok (a b : Nat) (ha : a < 64) (hb : b < 64) : iI a ||| iI b = iI (a ||| b : Nat) := by
  have h : ∀ a : Fin 64, ∀ b : Fin 64, iI (a.val : Nat) ||| iI (b.val : Nat) = iI (a.val ||| b.val : Nat) := by decide +kernel
  exact h ⟨a, ha⟩ ⟨b, hb⟩
theorem settle_loop {ow : Nat → Nat × Nat} {a cap : Nat} {v : List Nat} {f : Fo} (hf : fOk f) (hvf : v = fPre f) (kont : kW → Option kW) : ∀ (m n : Nat) (i : Int) (w : kW), m < n → i = m - 1 → m ≤ v.length → Ln ow w a cap v → StF w a v m →
    ∃ w', fX1_settle_L15 a n (fun _ q => kont q) (iI i) w = kont w' ∧ Ln ow w' a cap v ∧ St w' a v ∧ Sm ow (fun q => q = a) w w' ∧ kI w' a = kI w a := by
  intro m
  induction m with
  | zero =>
    intro n i w hn hi hm h hs
    obtain ⟨n, rfl⟩ : ∃ q, n = q + 1 := ⟨n - 1, by omega⟩
    refine ⟨w, ?_, h, hs, Sm.rf w, rfl⟩
    rw [fX1_settle_L15]
    simp (disch := omega) only [iI_add, iI_sub, iI_mul, iI_neg, iI_n, iL_0, iL_1, iL_2, iL_3, iL_4, iL_5, iL_6, iL_7, iL_8, iL_9, iL_10, iL_11, iL_12, iL_13, iL_14, iL_15, iL_16, iL_17, iL_18, iL_19, iL_20, iL_21, iL_22, iL_23, iL_24, iL_27, iL_32, iL_40, iL_41, iL_43, iL_48, iL_49, iL_57, iL_59, iL_60, iL_62, iL_63, iL_64, iL_83, iL_99, iL_100, iL_107, iL_108, iL_109, iL_112, iL_115, iL_117, iL_118, iL_120, iL_121, iL_123, iL_126, iL_127, iL_136, iL_163, iL_200, iL_203, iL_243, iL_400, iL_512, iL_960, iL_1000, iL_2400, iL_4000, iL_6000, iL_8000, iL_8001, iL_9000, iL_10000, iL_12345, iL_65536, iL_1000000, iL_252645135, iL_858993459, iL_1103515245, iL_1431655765, iL_2147483647, iI_lt, iI_le, iI_eq, if_pos, if_neg]
  | succ m ih =>
    intro n i w hn hi hm h hs
    obtain ⟨n, rfl⟩ : ∃ q, n = q + 1 := ⟨n - 1, by omega⟩
    have hi : i = m := by omega
    subst hi
    have hlen := h.2.1
    have hcap := h.1.2.2.1
    have hk := h.1.1
    obtain ⟨-, -, -, ⟨p0, k0, n0, o0⟩, -⟩ := h.1
    have hlt : m < v.length := by omega
    -- the part that begins here
    have hsp : v = v.take m ++ v[m] :: v.drop (m + 1) := by
      rw [← List.drop_eq_getElem_cons hlt, List.take_append_drop]
    have htk : (v.take m).length = m := by rw [List.length_take]; omega
    obtain ⟨b, Z, hb, hZ⟩ := fPart f hf (v.take m) v[m] (v.drop (m + 1)) (by rw [← hvf]; exact hsp)
    have hv0 : kI w (Lp w a 0) m = iI v[m] := h.2.2.1.2 m v[m] (List.getElem?_eq_getElem hlt)
    -- what one turn makes
    have turn : ∀ (w1 : kW), Ln ow w1 a cap v → Sm ow (fun q => q = a) w w1 → kI w1 a = kI w a → PtOk w1 a m b → (∀ j, j ≠ m → kI w1 (Lp w a 1) j = kI w (Lp w a 1) j ∧ kI w1 (Lp w a 2) j = kI w (Lp w a 2) j ∧ kI w1 (Lp w a 3) j = kI w (Lp w a 3) j ∧ kI w1 (Lp w a 4) j = kI w (Lp w a 4) j) →
        ∃ w', fX1_settle_L15 a n (fun _ q => kont q) (iI (m - 1)) w1 = kont w' ∧ Ln ow w' a cap v ∧ St w' a v ∧ Sm ow (fun q => q = a) w w' ∧ kI w' a = kI w a := by
      intro w1 h1 hs1 ha1 hp1 hoth
      have hF : StF w1 a v m := by
        intro X b' Y e hb' hmX
        by_cases hX : X.length = m
        · have hXe : X = v.take m := by
            rw [e, ← hX, List.take_left' rfl]
          have e2 : fPre b' ++ Y = fPre b ++ Z := by
            have e3 : X ++ (fPre b' ++ Y) = X ++ (fPre b ++ Z) := by
              rw [← e, ← hZ, hXe]; exact hsp
            exact List.append_cancel_left e3
          have e4 := (fPre_inj b' hb' b Y Z hb e2).1
          subst e4
          rw [hX]
          exact hp1
        · have hp := hs X b' Y e hb' (by omega)
          obtain ⟨q1, q2, q3, q4⟩ := hoth X.length hX
          unfold PtOk
          rw [hs1.lp, hs1.lp, hs1.lp, hs1.lp, q1, q2, q3, q4]
          exact hp
      obtain ⟨w', e1, g1, g2, g3, g4⟩ := ih n (m - 1) w1 (by omega) rfl (by omega) h1 hF
      exact ⟨w', e1, g1, g2, hs1.tr g3, g4.trans ha1⟩
    -- by the sign
    have pt : ∀ (X : List Nat) (c : Fo) (Y : List Nat), v = X ++ (fPre c ++ Y) → fOk c → m < X.length → X.length < v.length ∧ PtOk w a X.length c := fun X c Y e hc hX => ⟨by have q1 := split_len e; have q2 := fSz_pos hc; omega, hs X c Y e hc (by omega)⟩
    rcases fCases hb with ⟨k, hk6, rfl⟩ | ⟨c, hc0, rfl⟩ | ⟨c, d, hc0, hd0, rfl⟩ | ⟨c, d, hc0, hd0, rfl⟩
    · have hc : v[m] = 112 + k := by
        simp only [fPre, List.cons_append, List.nil_append, List.cons.injEq] at hZ
        exact hZ.1
      obtain ⟨w1, e1, g1, g2, g3, ⟨g4, g5, g6, g7⟩, g8⟩ := settlePart_ok h m hlt (iI (m + 1)) (iI 1) (iI 1) (iI (2 ^ k : Nat))
      obtain ⟨w', t1, t2⟩ := turn w1 g1 g2 g3 ⟨by rw [g2.lp, g4, fSz_var]; push_cast; rfl, by rw [g2.lp, g5]; rfl, by rw [g2.lp, g6]; rfl, by rw [g2.lp, g7]; rfl⟩ g8
      refine ⟨w', ?_, t2⟩
      rw [fX1_settle_L15]
      have hl : fX11_letterOf (iI v[m]) = some (iI k) := by
        rw [letterOf_ok _ (by omega) (by omega)]
        unfold leZ
        rw [if_pos (by omega), hc]
        congr 2
        omega
      simp (disch := omega) only [kgI_e, kgP_e, kpI_e, kpP_e, kal_e, kaI_e, kaP_e, kaJ_e, ksI_e, ksP_e, ksJ_e, kRc_e, kIx_i, Option.bind_some, Option.map_some, p0, n0, hv0, hl, Int.toNat_natCast, if_neg, shl_ok, iI_lt, iI_le, iI_eq, iI_add, iI_sub, iI_mul, iI_neg, iI_n, iL_0, iL_1, iL_2, iL_3, iL_4, iL_5, iL_6, iL_7, iL_8, iL_9, iL_10, iL_11, iL_12, iL_13, iL_14, iL_15, iL_16, iL_17, iL_18, iL_19, iL_20, iL_21, iL_22, iL_23, iL_24, iL_27, iL_32, iL_40, iL_41, iL_43, iL_48, iL_49, iL_57, iL_59, iL_60, iL_62, iL_63, iL_64, iL_83, iL_99, iL_100, iL_107, iL_108, iL_109, iL_112, iL_115, iL_117, iL_118, iL_120, iL_121, iL_123, iL_126, iL_127, iL_136, iL_163, iL_200, iL_203, iL_243, iL_400, iL_512, iL_960, iL_1000, iL_2400, iL_4000, iL_6000, iL_8000, iL_8001, iL_9000, iL_10000, iL_12345, iL_65536, iL_1000000, iL_252645135, iL_858993459, iL_1103515245, iL_1431655765, iL_2147483647, e1]
      rw [← t1]
      rfl
    · have hc : v[m] = 126 ∧ v.drop (m + 1) = fPre c ++ Z := by
        simp only [fPre, List.cons_append, List.cons.injEq] at hZ
        exact hZ
      have hlX : (v.take m ++ [126]).length = m + 1 := by simp; omega
      obtain ⟨q1, q2⟩ := pt (v.take m ++ [126]) c Z (by rw [List.append_assoc, List.singleton_append, ← hc.2, ← hc.1]; exact hsp) hc0 (by omega)
      rw [hlX] at q1 q2
      have f1 := endAt_pt h q1 q2
      have f2 := levelAt_pt h q1 q2
      have f3 := placesAt_pt h q1 q2
      have f4 := lettersAt_pt h q1 q2
      push_cast at f1 f2 f3 f4
      obtain ⟨w1, e1, g1, g2, g3, ⟨g4, g5, g6, g7⟩, g8⟩ := settlePart_ok h m hlt (iI (m + 1 + fSz c)) (iI (1 + fLev c)) (iI (fPl c)) (iI (fLs c))
      obtain ⟨w', t1, t2⟩ := turn w1 g1 g2 g3 ⟨by rw [g2.lp, g4, fSz_neg]; congr 1; push_cast; omega, by rw [g2.lp, g5]; congr 1, by rw [g2.lp, g6]; rfl, by rw [g2.lp, g7]; rfl⟩ g8
      refine ⟨w', ?_, t2⟩
      rw [fX1_settle_L15]
      have hl : fX11_letterOf (iI v[m]) = some (iI (-1)) := by
        rw [letterOf_ok _ (by omega) (by omega)]
        unfold leZ
        rw [if_neg (by omega)]
      have hc1 := hc.1
      simp (disch := omega) only [kgI_e, kgP_e, kpI_e, kpP_e, kal_e, kaI_e, kaP_e, kaJ_e, ksI_e, ksP_e, ksJ_e, kRc_e, kIx_i, Option.bind_some, Option.map_some, p0, n0, hv0, hl, Int.toNat_natCast, if_neg, if_pos, iI_lt, iI_le, iI_eq, iI_add, iI_sub, iI_mul, iI_neg, iI_n, iL_0, iL_1, iL_2, iL_3, iL_4, iL_5, iL_6, iL_7, iL_8, iL_9, iL_10, iL_11, iL_12, iL_13, iL_14, iL_15, iL_16, iL_17, iL_18, iL_19, iL_20, iL_21, iL_22, iL_23, iL_24, iL_27, iL_32, iL_40, iL_41, iL_43, iL_48, iL_49, iL_57, iL_59, iL_60, iL_62, iL_63, iL_64, iL_83, iL_99, iL_100, iL_107, iL_108, iL_109, iL_112, iL_115, iL_117, iL_118, iL_120, iL_121, iL_123, iL_126, iL_127, iL_136, iL_163, iL_200, iL_203, iL_243, iL_400, iL_512, iL_960, iL_1000, iL_2400, iL_4000, iL_6000, iL_8000, iL_8001, iL_9000, iL_10000, iL_12345, iL_65536, iL_1000000, iL_252645135, iL_858993459, iL_1103515245, iL_1431655765, iL_2147483647, f1, f2, f3, f4, e1]
      rw [← t1]
      rfl
    · have hc : v[m] = 118 ∧ v.drop (m + 1) = fPre c ++ (fPre d ++ Z) := by
        simp only [fPre, List.cons_append, List.cons.injEq, List.append_assoc] at hZ
        exact hZ
      have hlX : (v.take m ++ [118]).length = m + 1 := by simp; omega
      have hlY : (v.take m ++ ([118] ++ fPre c)).length = m + 1 + fSz c := by simp [fSz]; omega
      obtain ⟨q1, q2⟩ := pt (v.take m ++ [118]) c (fPre d ++ Z) (by rw [List.append_assoc, List.singleton_append, ← hc.2, ← hc.1]; exact hsp) hc0 (by omega)
      obtain ⟨q3, q4⟩ := pt (v.take m ++ ([118] ++ fPre c)) d Z (by rw [List.append_assoc, List.append_assoc, List.singleton_append, ← hc.2, ← hc.1]; exact hsp) hd0 (by omega)
      rw [hlX] at q1 q2
      rw [hlY] at q3 q4
      have f1 := endAt_pt h q1 q2
      have f2 := levelAt_pt h q1 q2
      have f3 := placesAt_pt h q1 q2
      have f4 := lettersAt_pt h q1 q2
      have f5 := endAt_pt h q3 q4
      have f6 := levelAt_pt h q3 q4
      have f7 := placesAt_pt h q3 q4
      have f8 := lettersAt_pt h q3 q4
      push_cast at f1 f2 f3 f4 f5 f6 f7 f8
      have b1 := fLev_le c hc0
      have b2 := fLev_le d hd0
      have b3 := fLs_lt c hc0
      have b4 := fLs_lt d hd0
      have b5 : fSz c ≤ 200 := by omega
      have b6 : fSz d ≤ 200 := by
        have e9 : v.length = m + 1 + (fSz c + (fSz d + Z.length)) := by
          have e8 := congrArg List.length hc.2
          rw [List.length_drop, List.length_append, List.length_append] at e8
          unfold fSz
          omega
        omega
      obtain ⟨w1, e1, g1, g2, g3, ⟨g4, g5, g6, g7⟩, g8⟩ := settlePart_ok h m hlt (iI (m + 1 + fSz c + fSz d)) (iI (1 + max (fLev c : Int) (fLev d))) (iI (fPl c + fPl d)) (iI (fLs c ||| fLs d : Nat))
      obtain ⟨w', t1, t2⟩ := turn w1 g1 g2 g3 ⟨by rw [g2.lp, g4, fSz_add]; congr 1; push_cast; omega, by rw [g2.lp, g5]; congr 1; show _ = ((1 + max (fLev c) (fLev d) : Nat) : Int); omega, by rw [g2.lp, g6]; congr 1, by rw [g2.lp, g7]; rfl⟩ g8
      refine ⟨w', ?_, t2⟩
      rw [fX1_settle_L15]
      have hl : fX11_letterOf (iI v[m]) = some (iI (-1)) := by
        rw [letterOf_ok _ (by omega) (by omega)]
        unfold leZ
        rw [if_neg (by omega)]
      have hc1 := hc.1
      simp (disch := omega) only [kgI_e, kgP_e, kpI_e, kpP_e, kal_e, kaI_e, kaP_e, kaJ_e, ksI_e, ksP_e, ksJ_e, kRc_e, kIx_i, Option.bind_some, Option.map_some, p0, n0, hv0, hl, Int.toNat_natCast, if_neg, if_pos, iI_lt, iI_le, iI_eq, iI_add, iI_sub, iI_mul, iI_neg, iI_n, iL_0, iL_1, iL_2, iL_3, iL_4, iL_5, iL_6, iL_7, iL_8, iL_9, iL_10, iL_11, iL_12, iL_13, iL_14, iL_15, iL_16, iL_17, iL_18, iL_19, iL_20, iL_21, iL_22, iL_23, iL_24, iL_27, iL_32, iL_40, iL_41, iL_43, iL_48, iL_49, iL_57, iL_59, iL_60, iL_62, iL_63, iL_64, iL_83, iL_99, iL_100, iL_107, iL_108, iL_109, iL_112, iL_115, iL_117, iL_118, iL_120, iL_121, iL_123, iL_126, iL_127, iL_136, iL_163, iL_200, iL_203, iL_243, iL_400, iL_512, iL_960, iL_1000, iL_2400, iL_4000, iL_6000, iL_8000, iL_8001, iL_9000, iL_10000, iL_12345, iL_65536, iL_1000000, iL_252645135, iL_858993459, iL_1103515245, iL_1431655765, iL_2147483647, f1, f2, f3, f4, f5, f6, f7, f8, kMmax_i, or_ok, e1]
      rw [← t1]
      rfl
    · have hc : v[m] = 62 ∧ v.drop (m + 1) = fPre c ++ (fPre d ++ Z) := by
        simp only [fPre, List.cons_append, List.cons.injEq, List.append_assoc] at hZ
        exact hZ
      have hlX : (v.take m ++ [62]).length = m + 1 := by simp; omega
      have hlY : (v.take m ++ ([62] ++ fPre c)).length = m + 1 + fSz c := by simp [fSz]; omega
      obtain ⟨q1, q2⟩ := pt (v.take m ++ [62]) c (fPre d ++ Z) (by rw [List.append_assoc, List.singleton_append, ← hc.2, ← hc.1]; exact hsp) hc0 (by omega)
      obtain ⟨q3, q4⟩ := pt (v.take m ++ ([62] ++ fPre c)) d Z (by rw [List.append_assoc, List.append_assoc, List.singleton_append, ← hc.2, ← hc.1]; exact hsp) hd0 (by omega)
      rw [hlX] at q1 q2
      rw [hlY] at q3 q4
      have f1 := endAt_pt h q1 q2
      have f2 := levelAt_pt h q1 q2
      have f3 := placesAt_pt h q1 q2
      have f4 := lettersAt_pt h q1 q2
      have f5 := endAt_pt h q3 q4
      have f6 := levelAt_pt h q3 q4
      have f7 := placesAt_pt h q3 q4
      have f8 := lettersAt_pt h q3 q4
      push_cast at f1 f2 f3 f4 f5 f6 f7 f8
      have b1 := fLev_le c hc0
      have b2 := fLev_le d hd0
      have b3 := fLs_lt c hc0
      have b4 := fLs_lt d hd0
      have b5 : fSz c ≤ 200 := by omega
      have b6 : fSz d ≤ 200 := by
        have e9 : v.length = m + 1 + (fSz c + (fSz d + Z.length)) := by
          have e8 := congrArg List.length hc.2
          rw [List.length_drop, List.length_append, List.length_append] at e8
          unfold fSz
          omega
        omega
      obtain ⟨w1, e1, g1, g2, g3, ⟨g4, g5, g6, g7⟩, g8⟩ := settlePart_ok h m hlt (iI (m + 1 + fSz c + fSz d)) (iI (1 + max (fLev c : Int) (fLev d))) (iI (fPl c + fPl d)) (iI (fLs c ||| fLs d : Nat))
      obtain ⟨w', t1, t2⟩ := turn w1 g1 g2 g3 ⟨by rw [g2.lp, g4, fSz_sub]; congr 1; push_cast; omega, by rw [g2.lp, g5]; congr 1; show _ = ((1 + max (fLev c) (fLev d) : Nat) : Int); omega, by rw [g2.lp, g6]; congr 1, by rw [g2.lp, g7]; rfl⟩ g8
      refine ⟨w', ?_, t2⟩
      rw [fX1_settle_L15]
      have hl : fX11_letterOf (iI v[m]) = some (iI (-1)) := by
        rw [letterOf_ok _ (by omega) (by omega)]
        unfold leZ
        rw [if_neg (by omega)]
      have hc1 := hc.1
      simp (disch := omega) only [kgI_e, kgP_e, kpI_e, kpP_e, kal_e, kaI_e, kaP_e, kaJ_e, ksI_e, ksP_e, ksJ_e, kRc_e, kIx_i, Option.bind_some, Option.map_some, p0, n0, hv0, hl, Int.toNat_natCast, if_neg, if_pos, iI_lt, iI_le, iI_eq, iI_add, iI_sub, iI_mul, iI_neg, iI_n, iL_0, iL_1, iL_2, iL_3, iL_4, iL_5, iL_6, iL_7, iL_8, iL_9, iL_10, iL_11, iL_12, iL_13, iL_14, iL_15, iL_16, iL_17, iL_18, iL_19, iL_20, iL_21, iL_22, iL_23, iL_24, iL_27, iL_32, iL_40, iL_41, iL_43, iL_48, iL_49, iL_57, iL_59, iL_60, iL_62, iL_63, iL_64, iL_83, iL_99, iL_100, iL_107, iL_108, iL_109, iL_112, iL_115, iL_117, iL_118, iL_120, iL_121, iL_123, iL_126, iL_127, iL_136, iL_163, iL_200, iL_203, iL_243, iL_400, iL_512, iL_960, iL_1000, iL_2400, iL_4000, iL_6000, iL_8000, iL_8001, iL_9000, iL_10000, iL_12345, iL_65536, iL_1000000, iL_252645135, iL_858993459, iL_1103515245, iL_1431655765, iL_2147483647, f1, f2, f3, f4, f5, f6, f7, f8, kMmax_i, or_ok, e1]
      rw [← t1]
      rfl
theorem settle_ok {ow : Nat → Nat × Nat} {w : kW} {a cap : Nat} {f : Fo} (hf : fOk f) (h : Ln ow w a cap (fPre f)) : ∃ w', fX1_settle a w = some w' ∧ Ln ow w' a cap (fPre f) ∧ St w' a (fPre f) ∧ Sm ow (fun q => q = a) w w' ∧ kI w' a = kI w a := by
  have hlen := h.2.1
  have hcap := h.1.2.2.1
  have hk := h.1.1
  obtain ⟨-, -, -, ⟨p0, k0, n0, o0⟩, -⟩ := h.1
  have h5 := h.2.2.1.1
  obtain ⟨w', e1, e2⟩ := settle_loop hf rfl (fun q => some q) (fPre f).length kFU ((fPre f).length - 1) w (by unfold kFU; omega) rfl (Nat.le_refl _) h (fun X b Y e hb hm => by
    have q1 := split_len e
    have q2 := fSz_pos hb
    omega)
  refine ⟨w', ?_, e2⟩
  rw [fX1_settle]
  have hmin : min ((fPre f).length : Int) (cap : Int) = (fPre f).length := by omega
  simp (disch := omega) only [kgI_e, kgP_e, kpI_e, kpP_e, kal_e, kaI_e, kaP_e, kaJ_e, ksI_e, ksP_e, ksJ_e, kRc_e, kIx_i, Option.bind_some, Option.map_some, h5, p0, n0, kMmin_i, hmin, iI_add, iI_sub, iI_mul, iI_neg, iI_n, iL_0, iL_1, iL_2, iL_3, iL_4, iL_5, iL_6, iL_7, iL_8, iL_9, iL_10, iL_11, iL_12, iL_13, iL_14, iL_15, iL_16, iL_17, iL_18, iL_19, iL_20, iL_21, iL_22, iL_23, iL_24, iL_27, iL_32, iL_40, iL_41, iL_43, iL_48, iL_49, iL_57, iL_59, iL_60, iL_62, iL_63, iL_64, iL_83, iL_99, iL_100, iL_107, iL_108, iL_109, iL_112, iL_115, iL_117, iL_118, iL_120, iL_121, iL_123, iL_126, iL_127, iL_136, iL_163, iL_200, iL_203, iL_243, iL_400, iL_512, iL_960, iL_1000, iL_2400, iL_4000, iL_6000, iL_8000, iL_8001, iL_9000, iL_10000, iL_12345, iL_65536, iL_1000000, iL_252645135, iL_858993459, iL_1103515245, iL_1431655765, iL_2147483647]
  exact e1
theorem become_ok {ow : Nat → Nat × Nat} {w : kW} {a o cap capo : Nat} {v X Y : List Nat} {b : Fo} (hne : a ≠ o) (h : LnS ow w a cap) (ho : Ln ow w o capo v) (hst : St w o v) (hv : ∀ c ∈ v, c < 128) (e : v = X ++ (fPre b ++ Y)) (hb : fOk b) (hfit : fSz b ≤ cap) :
    ∃ w', fX1_become a (some o) (iI X.length) w = some w' ∧ Ln ow w' a cap (fPre b) ∧ St w' a (fPre b) ∧ Sm ow (fun q => q = a) w w' := by
  obtain ⟨w1, e1, h1, s1⟩ := clear_ok h
  obtain ⟨w2, e2, h2, s2⟩ := addPart_ok (ov := some []) hne h1 (ho.sm s1 (Ne.symm hne)) (hst.sm ho.1 s1 (Ne.symm hne)) hv e hb
  have e4 : apc cap (some []) (fPre b) = some (fPre b) := by
    have hfit' : (fPre b).length ≤ cap := hfit
    simp [apc, hfit']
  rw [e4] at h2
  obtain ⟨w3, e3, h3, h4, s3, -⟩ := settle_ok hb h2
  refine ⟨w3, ?_, h3, h4, (s1.tr s2).tr s3⟩
  rw [fX1_become]
  have k0 := h.1
  have k1 := h1.1.1
  have k2 := h2.1.1
  simp (disch := omega) only [kgI_e, kgP_e, kpI_e, kpP_e, kal_e, kaI_e, kaP_e, kaJ_e, ksI_e, ksP_e, ksJ_e, kRc_e, kIx_i, Option.bind_some, Option.map_some, e1, e2, e3]
