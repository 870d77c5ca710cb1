/-! THE CHECKER OF STEPS -/
def fThen (f A : Fo) : Fo → Bool
  | .sub x y => fEq x A && fEq y f
  | _ => false
def fChain : Fo → Fo → Fo → Bool
  | .sub c1 c2, .sub a1 a2, .sub b1 b2 => fEq a2 b1 && (fEq c1 a1 && fEq c2 b2)
  | _, _, _ => false
def lOpn : List Nat → List Nat → Bool
  | c :: v, d :: u => if c = d then lOpn v u else decide (c = 62 ∧ d = 118 ∧ u = 126 :: v)
  | _, _ => false
theorem lOpn_len : ∀ v u : List Nat, lOpn v u = true → u.length = v.length + 1 := by
  intro v
  induction v with
  | nil => intro u h; cases u <;> cases h
  | cons c v ih =>
    intro u h
    cases u with
    | nil => cases h
    | cons d u =>
      have h' : (if c = d then lOpn v u else decide (c = 62 ∧ d = 118 ∧ u = 126 :: v)) = true := h
      by_cases e : c = d
      · rw [if_pos e] at h'
        rw [List.length_cons, List.length_cons, ih u h']
      · rw [if_neg e] at h'
        obtain ⟨-, -, q⟩ := of_decide_eq_true h'
        rw [q]; rfl
def fIfX : Fo → Fo
  | .sub x _ => x
  | f => f
theorem fIsIf_ex {f : Fo} (h : fIsIf f = true) : ∃ x y, f = .sub x y := by
  cases f with
  | sub x y => exact ⟨x, y, rfl⟩
  | _ => cases h
theorem same_in {ow : Nat → Nat × Nat} {w : kW} {a o ca co : Nat} {F G b b' : Fo} {X Y X' Y' : List Nat} (hF : Lf ow w a ca F) (hG : Lf ow w o co G) (e : fPre F = X ++ (fPre b ++ Y)) (hb : fOk b) (e' : fPre G = X' ++ (fPre b' ++ Y')) (hb' : fOk b') : fX1_samePart a (iI X.length) (some o) (iI X'.length) w = some (iB (fEq b b')) :=
  samePart_ok hF.2.1 hF.2.2 hG.2.1 hG.2.2 hF.lt hG.lt e hb e' hb'
theorem sub_1 (x y : Fo) : fPre (.sub x y) = [62] ++ (fPre x ++ fPre y) := rfl
theorem sub_2 (x y : Fo) : fPre (.sub x y) = (62 :: fPre x) ++ (fPre y ++ []) := by rw [fPre_sub]; simp
theorem all_1 (f : Fo) : fPre f = [] ++ (fPre f ++ []) := by simp
theorem len_2 (x : Fo) : (62 :: fPre x).length = 1 + fSz x := by simp [fSz]; omega
theorem isThen_ok {ow : Nat → Nat × Nat} {w : kW} {st l a b cl ca cb : Nat} {f A B : Fo} (hl : Lf ow w l cl f) (ha : Lf ow w a ca A) (hb : Lf ow w b cb B) : fX7_isThen st (some l) (some a) (some b) w = some (iB (fThen f A B)) := by
  have hkb := hb.2.1.1.1
  have f0 := isIf_ok hb.1 hb.2.1
  rw [fX7_isThen, kRc_e hkb, Option.bind_some, f0, Option.bind_some]
  cases hi : fIsIf B with
  | false =>
    rw [if_pos (show iB false = 0 from rfl)]
    have e : fThen f A B = false := by
      cases B with
      | sub x y => cases hi
      | _ => rfl
    rw [e]; rfl
  | true =>
    obtain ⟨x, y, rfl⟩ := fIsIf_ex hi
    have f1 := same_in hb ha (sub_1 x y) hb.1.1 (all_1 A) ha.1
    have f2 := same_in hb hl (sub_2 x y) hb.1.2 (all_1 f) hl.1
    have f3 := second_ok hb.1 hb.2.1 hb.2.2
    rw [len_2] at f2
    have e0 : (0 : Int32) = iI (([] : List Nat).length : Int) := by decide +kernel
    have e1 : (1 : Int32) = iI (([62] : List Nat).length : Int) := by decide +kernel
    rw [← e0, ← e1] at f1
    rw [← e0] at f2
    rw [if_neg (show ¬ iB true = 0 by decide +kernel), Option.bind_some, f1, Option.bind_some]
    simp only [Option.bind_some, f3, f2]
    show (if iB (fEq x A) = 0 then _ else _) = some (iB (fEq x A && fEq y f))
    cases fEq x A with
    | false => rfl
    | true =>
      rw [if_neg (by decide +kernel)]
      show (if iB (fEq y f) = 0 then _ else _) = _
      cases fEq y f with
      | false => rfl
      | true => rw [if_neg (by decide +kernel)]; rfl
theorem isChain_ok {ow : Nat → Nat × Nat} {w : kW} {st l a b cl ca cb : Nat} {f A B : Fo} (hl : Lf ow w l cl f) (ha : Lf ow w a ca A) (hb : Lf ow w b cb B) : fX7_isChain st (some l) (some a) (some b) w = some (iB (fChain f A B)) := by
  have hkl := hl.2.1.1.1
  have hka := ha.2.1.1.1
  have hkb := hb.2.1.1.1
  rw [fX7_isChain, kRc_e hka, Option.bind_some, isIf_ok ha.1 ha.2.1, Option.bind_some]
  cases hi : fIsIf A with
  | false =>
    rw [if_pos (show iB false = 0 from rfl)]
    have e : fChain f A B = false := by
      cases A with
      | sub x y => cases hi
      | _ => cases f <;> rfl
    rw [e]; rfl
  | true =>
    obtain ⟨a1, a2, rfl⟩ := fIsIf_ex hi
    rw [if_neg (show ¬ iB true = 0 by decide +kernel), kRc_e hkb, Option.bind_some, isIf_ok hb.1 hb.2.1, Option.bind_some]
    cases hj : fIsIf B with
    | false =>
      rw [if_pos (show iB false = 0 from rfl)]
      have e : fChain f (.sub a1 a2) B = false := by
        cases B with
        | sub x y => cases hj
        | _ => cases f <;> rfl
      rw [e]; rfl
    | true =>
      obtain ⟨b1, b2, rfl⟩ := fIsIf_ex hj
      rw [if_neg (show ¬ iB true = 0 by decide +kernel), kRc_e hkl, Option.bind_some, isIf_ok hl.1 hl.2.1, Option.bind_some]
      cases hk : fIsIf f with
      | false =>
        rw [if_pos (show iB false = 0 from rfl)]
        have e : fChain f (.sub a1 a2) (.sub b1 b2) = false := by
          cases f with
          | sub x y => cases hk
          | _ => rfl
        rw [e]; rfl
      | true =>
        obtain ⟨c1, c2, rfl⟩ := fIsIf_ex hk
        have f1 := same_in ha hb (sub_2 a1 a2) ha.1.2 (sub_1 b1 b2) hb.1.1
        have f2 := same_in hl ha (sub_1 c1 c2) hl.1.1 (sub_1 a1 a2) ha.1.1
        have f3 := same_in hl hb (sub_2 c1 c2) hl.1.2 (sub_2 b1 b2) hb.1.2
        have e1 : (1 : Int32) = iI (([62] : List Nat).length : Int) := by decide +kernel
        rw [← e1, len_2] at f1
        rw [← e1] at f2
        rw [len_2, len_2] at f3
        rw [if_neg (show ¬ iB true = 0 by decide +kernel), Option.bind_some]
        simp only [Option.bind_some, second_ok ha.1 ha.2.1 ha.2.2, f1, f2, second_ok hl.1 hl.2.1 hl.2.2, second_ok hb.1 hb.2.1 hb.2.2, f3]
        show (if iB (fEq a2 b1) = 0 then _ else _) = some (iB (fEq a2 b1 && (fEq c1 a1 && fEq c2 b2)))
        cases fEq a2 b1 with
        | false => rfl
        | true =>
          rw [if_neg (by decide +kernel)]
          show (if iB (fEq c1 a1) = 0 then _ else _) = some (iB (fEq c1 a1 && fEq c2 b2))
          cases fEq c1 a1 with
          | false => rfl
          | true =>
            rw [if_neg (by decide +kernel)]
            show (if iB (fEq c2 b2) = 0 then _ else _) = some (iB (fEq c2 b2))
            cases fEq c2 b2 with
            | false => rfl
            | true => rw [if_neg (by decide +kernel)]; rfl
theorem opens_rest {ow : Nat → Nat × Nat} {w : kW} {st s o cs co : Nat} {v u : List Nat} (hs : Ln ow w s cs v) (ho : Ln ow w o co u) (hv : ∀ c ∈ v, c < 128) (hu : ∀ c ∈ u, c < 128) (hlen : u.length = v.length + 1) (x3 : Int32) : ∀ (m n i : Nat), m < n → i + m = v.length →
    fX7_opensIf_L83 st (some s) (some o) x3 w n (fun _ => some (1 : Int32)) (iI i) = some (iB (decide (v.drop i = u.drop (i + 1)))) := by
  have hks := hs.1.1
  have hko := ho.1.1
  have h5 := hs.2.2.1.1
  have b1 := hs.2.1
  have b2 := hs.1.2.2.1
  intro m
  induction m with
  | zero =>
    intro n i hn hi
    obtain ⟨n, rfl⟩ : ∃ z, n = z + 1 := ⟨n - 1, by omega⟩
    rw [fX7_opensIf_L83]
    simp (disch := omega) only [kgI_e, kgP_e, kpI_e, kpP_e, kal_e, kaI_e, kaP_e, kaJ_e, ksI_e, ksP_e, ksJ_e, kRc_e, kIx_i, Option.bind_some, Option.map_some, iI_lt, iI_le, iI_eq, h5, if_pos]
    rw [List.drop_eq_nil_of_le (by omega), List.drop_eq_nil_of_le (by omega), decide_eq_true rfl]
    rfl
  | succ m ih =>
    intro n i hn hi
    obtain ⟨n, rfl⟩ : ∃ z, n = z + 1 := ⟨n - 1, by omega⟩
    have q1 : i < v.length := by omega
    have q2 : i + 1 < u.length := by omega
    have f1 := at_in hs q1
    have f2 := at_in ho q2
    have g1 := hv _ (List.getElem_mem q1)
    have g2 := hu _ (List.getElem_mem q2)
    have ih' := ih n (i + 1) (by omega) (by omega)
    push_cast at f2 ih'
    have d1 : v.drop i = v[i] :: v.drop (i + 1) := List.drop_eq_getElem_cons q1
    have d2 : u.drop (i + 1) = u[i + 1] :: u.drop (i + 1 + 1) := List.drop_eq_getElem_cons q2
    rw [fX7_opensIf_L83, d1, d2]
    by_cases hc : v[i] = u[i + 1]
    · rw [← hc] at f2
      simp (disch := omega) only [kgI_e, kgP_e, kpI_e, kpP_e, kal_e, kaI_e, kaP_e, kaJ_e, ksI_e, ksP_e, ksJ_e, kRc_e, kIx_i, Option.bind_some, Option.map_some, iI_lt, iI_le, iI_eq, h5, f1, f2, if_neg, if_pos, ite_true, iI_add, iL_1]
      rw [← iL_1, ih', hc]
      congr 2
      rw [decide_eq_decide]
      exact ⟨fun z => by rw [z], fun z => (List.cons.inj z).2⟩
    · simp (disch := omega) only [kgI_e, kgP_e, kpI_e, kpP_e, kal_e, kaI_e, kaP_e, kaJ_e, ksI_e, ksP_e, ksJ_e, kRc_e, kIx_i, Option.bind_some, Option.map_some, iI_lt, iI_le, iI_eq, h5, f1, f2, if_neg, iI_add, iL_1]
      rw [decide_eq_false (fun z => hc (List.cons.inj z).1)]
      rfl
theorem opensIf_loop {ow : Nat → Nat × Nat} {w : kW} {st s o cs co : Nat} {v u : List Nat} (hs : Ln ow w s cs v) (ho : Ln ow w o co u) (hv : ∀ c ∈ v, c < 128) (hu : ∀ c ∈ u, c < 128) (hlen : u.length = v.length + 1) : ∀ (m n i : Nat), m < n → i + m = v.length →
    fX7_opensIf_L17 st (some s) (some o) w n (fun y3_3 => (kRc w 1 (some s)).bind fun b4 => (fX1_at b4 y3_3 w).bind fun v6 => if v6 = (62 : Int32) then (kRc w 1 (some o)).bind fun b7 => (fX1_at b7 y3_3 w).bind fun v9 => if v9 = (118 : Int32) then (kRc w 1 (some o)).bind fun b10 => (fX1_at b10 (y3_3 + (1 : Int32)) w).bind fun v12 => if v12 = (126 : Int32) then fX7_opensIf_L83 st (some s) (some o) y3_3 w kFU (fun y4_13 => some (1 : Int32)) (y3_3 + (1 : Int32)) else some (0 : Int32) else some (0 : Int32) else some (0 : Int32)) (iI i) = some (iB (lOpn (v.drop i) (u.drop i))) := by
  have hks := hs.1.1
  have hko := ho.1.1
  have h5 := hs.2.2.1.1
  have b1 := hs.2.1
  have b2 := hs.1.2.2.1
  have b3 := ho.2.1
  have b4 := ho.1.2.2.1
  intro m
  induction m with
  | zero =>
    intro n i hn hi
    obtain ⟨n, rfl⟩ : ∃ z, n = z + 1 := ⟨n - 1, by omega⟩
    have f0 : fX1_at s (iI i) w = some (iI 0) := by
      rw [at_ok hs _ (by omega) (by omega)]
      unfold atZ
      rw [if_neg (by omega), Int.toNat_natCast, List.getD_eq_getElem?_getD, List.getElem?_eq_none (by omega)]
      rfl
    rw [fX7_opensIf_L17]
    simp (disch := omega) only [kgI_e, kgP_e, kpI_e, kpP_e, kal_e, kaI_e, kaP_e, kaJ_e, ksI_e, ksP_e, ksJ_e, kRc_e, kIx_i, Option.bind_some, Option.map_some, iI_lt, iI_le, iI_eq, iI_add, iI_sub, iI_mul, iI_neg, iI_n, iL_0, iL_1, iL_2, iL_3, iL_4, iL_5, iL_6, iL_7, iL_8, iL_9, iL_10, iL_11, iL_12, iL_13, iL_14, iL_15, iL_16, iL_17, iL_18, iL_19, iL_20, iL_21, iL_22, iL_23, iL_24, iL_27, iL_32, iL_40, iL_41, iL_43, iL_48, iL_49, iL_57, iL_59, iL_60, iL_62, iL_63, iL_64, iL_83, iL_99, iL_100, iL_107, iL_108, iL_109, iL_112, iL_115, iL_117, iL_118, iL_120, iL_121, iL_123, iL_126, iL_127, iL_136, iL_163, iL_200, iL_203, iL_243, iL_400, iL_512, iL_960, iL_1000, iL_2400, iL_4000, iL_6000, iL_8000, iL_8001, iL_9000, iL_10000, iL_12345, iL_65536, iL_1000000, iL_252645135, iL_858993459, iL_1103515245, iL_1431655765, iL_2147483647, h5, f0, if_pos, if_neg]
    rw [List.drop_eq_nil_of_le (by omega)]
    rfl
  | succ m ih =>
    intro n i hn hi
    obtain ⟨n, rfl⟩ : ∃ z, n = z + 1 := ⟨n - 1, by omega⟩
    have q1 : i < v.length := by omega
    have q2 : i < u.length := by omega
    have q3 : i + 1 < u.length := by omega
    have f1 := at_in hs q1
    have f2 := at_in ho q2
    have f3 := at_in ho q3
    have g1 := hv _ (List.getElem_mem q1)
    have g2 := hu _ (List.getElem_mem q2)
    have g3 := hu _ (List.getElem_mem q3)
    have ih' := ih n (i + 1) (by omega) (by omega)
    have rest := opens_rest (st := st) hs ho hv hu hlen (iI i) (v.length - (i + 1)) kFU (i + 1) (by unfold kFU; omega) (by omega)
    push_cast at f3 ih' rest
    have d1 : v.drop i = v[i] :: v.drop (i + 1) := List.drop_eq_getElem_cons q1
    have d2 : u.drop i = u[i] :: u.drop (i + 1) := List.drop_eq_getElem_cons q2
    have d3 : u.drop (i + 1) = u[i + 1] :: u.drop (i + 1 + 1) := List.drop_eq_getElem_cons q3
    have eL : lOpn (v.drop i) (u.drop i) = if v[i] = u[i] then lOpn (v.drop (i + 1)) (u.drop (i + 1)) else decide (v[i] = 62 ∧ u[i] = 118 ∧ u.drop (i + 1) = 126 :: v.drop (i + 1)) := by rw [d1, d2]; rfl
    rw [fX7_opensIf_L17, eL]
    by_cases hc : v[i] = u[i]
    · rw [← hc] at f2
      have e1 : iI (i : Int) + (1 : Int32) = iI ((i : Int) + 1) := by rw [iL_1, iI_add]
      rw [if_pos hc, kgI_e hks, Option.bind_some, h5, if_neg (by rw [iI_le (by omega) (by omega) (by omega) (by omega)]; omega), kRc_e hks, Option.bind_some, f1, Option.bind_some, kRc_e hko, Option.bind_some, f2, Option.bind_some, if_pos rfl, e1]
      rw [kRc_e hks, kRc_e hko] at ih'
      exact ih'
    · rw [if_neg hc, kgI_e hks, Option.bind_some, h5, if_neg (by rw [iI_le (by omega) (by omega) (by omega) (by omega)]; omega), kRc_e hks, Option.bind_some, f1, Option.bind_some, kRc_e hko, Option.bind_some, f2, Option.bind_some, if_neg (by rw [iI_eq (by omega) (by omega) (by omega) (by omega)]; omega)]
      show ((some s).bind fun b4 => (fX1_at b4 (iI i) w).bind _) = _
      rw [Option.bind_some, f1, Option.bind_some]
      by_cases c1 : v[i] = 62
      · rw [if_pos (by rw [c1]; decide +kernel), Option.bind_some, f2, Option.bind_some]
        by_cases c2 : u[i] = 118
        · rw [if_pos (by rw [c2]; decide +kernel), Option.bind_some, iL_1, iI_add, f3, Option.bind_some]
          by_cases c3 : u[i + 1] = 126
          · rw [if_pos (by rw [c3]; decide +kernel)]
            rw [← iL_1, rest]
            congr 2
            rw [decide_eq_decide]
            constructor
            · intro z
              exact ⟨c1, c2, by rw [d3, c3, z]⟩
            · intro z
              have z3 := z.2.2
              rw [d3] at z3
              exact (List.cons.inj z3).2.symm
          · rw [if_neg (by rw [iL_126, iI_eq (by omega) (by omega) (by omega) (by omega)]; omega), decide_eq_false (fun z => by
              have z3 := z.2.2
              rw [d3] at z3
              exact c3 (List.cons.inj z3).1)]
            rfl
        · rw [if_neg (by rw [iL_118, iI_eq (by omega) (by omega) (by omega) (by omega)]; omega), decide_eq_false (fun z => c2 z.2.1)]
          rfl
      · rw [if_neg (by rw [iL_62, iI_eq (by omega) (by omega) (by omega) (by omega)]; omega), decide_eq_false (fun z => c1 z.1)]
        rfl
theorem opensIf_ok {ow : Nat → Nat × Nat} {w : kW} {st s o cs co : Nat} {F G : Fo} (hs : Lf ow w s cs F) (ho : Lf ow w o co G) : fX7_opensIf st (some s) (some o) w = some (iB (lOpn (fPre F) (fPre G))) := by
  have hks := hs.2.1.1.1
  have hko := ho.2.1.1.1
  have h5 := hs.2.1.2.2.1.1
  have h6 := ho.2.1.2.2.1.1
  have b1 := hs.2.1.2.1
  have b2 := hs.2.1.1.2.2.1
  have b3 := ho.2.1.2.1
  have b4 := ho.2.1.1.2.2.1
  rw [fX7_opensIf, kgI_e hko, Option.bind_some, kgI_e hks, Option.bind_some, h5, h6]
  by_cases hl : (fPre G).length = (fPre F).length + 1
  · rw [if_pos (by rw [iL_1, iI_add, hl]; rfl)]
    have f := opensIf_loop (st := st) hs.2.1 ho.2.1 hs.lt ho.lt hl (fPre F).length kFU 0 (by unfold kFU; omega) (by omega)
    have e0 : (0 : Int32) = iI ((0 : Nat) : Int) := by decide +kernel
    rw [List.drop_zero, List.drop_zero, ← e0] at f
    exact f
  · rw [if_neg (by rw [iL_1, iI_add, iI_eq (by omega) (by omega) (by omega) (by omega)]; omega)]
    have e : lOpn (fPre F) (fPre G) = false := by
      cases h : lOpn (fPre F) (fPre G) with
      | false => rfl
      | true => exact absurd (lOpn_len _ _ h) hl
    rw [e]; rfl
/-- a Steps object: its Putting, its heights -/
def Sp (ow : Nat → Nat × Nat) (w : kW) (st p : Nat) : Prop := kKd w st = 7 ∧ ow st = (st, 0) ∧ kP w st 0 = some p ∧ Pg ow w p ∧ LnA ow w st 40 1 14
theorem allow0_ok {ow : Nat → Nat × Nat} {w : kW} {st p l a cl ca : Nat} {f A : Fo} (x4 : Option Nat) (hs : Sp ow w st p) (hl : Lf ow w l cl f) (ha : Lf ow w a ca A) : ∃ w', fX7_allow st (some l) (0 : Int32) (some a) x4 w = some (iB (fMt A f σ0).isSome, w') ∧ Sq ow (fun q => q = p) w w' ∧ Pg ow w' p := by
  obtain ⟨hk, ho, p0, hp, -⟩ := hs
  obtain ⟨w', e1, s1, g1, -⟩ := makes_ok hp ha.2.1 ha.2.2 hl.2.1 hl.2.2 ha.lt hl.lt (all_1 A) ha.1 (all_1 f) hl.1
  refine ⟨w', ?_, s1, g1⟩
  have e0 : (0 : Int32) = iI (([] : List Nat).length : Int) := by decide +kernel
  rw [fX7_allow, if_neg (by simp), if_neg (by simp), if_pos rfl, kgP_e hk, Option.bind_some, p0, kRc_e hp.1, Option.bind_some, e0, e1, kb2_s, kBl_B, Option.bind_some]
theorem allow1_ok {ow : Nat → Nat × Nat} {w : kW} {st p l a b cl ca cb : Nat} {f A B : Fo} (hs : Sp ow w st p) (hl : Lf ow w l cl f) (ha : Lf ow w a ca A) (hb : Lf ow w b cb B) : fX7_allow st (some l) (1 : Int32) (some a) (some b) w = some (iB (fThen f A B), w) := by
  rw [fX7_allow, if_neg (by simp), if_neg (by simp), if_neg (by decide +kernel), if_pos rfl, if_neg (by simp), kRc_e hs.1, Option.bind_some, isThen_ok hl ha hb, Option.bind_some]
  cases fThen f A B with
  | false => rfl
  | true => rw [if_neg (by decide +kernel)]; rfl
theorem allow2_ok {ow : Nat → Nat × Nat} {w : kW} {st p l a b cl ca cb : Nat} {f A B : Fo} (hs : Sp ow w st p) (hl : Lf ow w l cl f) (ha : Lf ow w a ca A) (hb : Lf ow w b cb B) : fX7_allow st (some l) (2 : Int32) (some a) (some b) w = some (iB (fChain f A B), w) := by
  rw [fX7_allow, if_neg (by simp), if_neg (by simp), if_neg (by decide +kernel), if_neg (by decide +kernel), if_pos rfl, if_neg (by simp), kRc_e hs.1, Option.bind_some, isChain_ok hl ha hb, Option.bind_some]
  cases fChain f A B with
  | false => rfl
  | true => rw [if_neg (by decide +kernel)]; rfl
def fMean (f A : Fo) : Bool := lOpn (fPre A) (fPre f) || lOpn (fPre f) (fPre A)
theorem allow3_ok {ow : Nat → Nat × Nat} {w : kW} {st p l a cl ca : Nat} {f A : Fo} (x4 : Option Nat) (hs : Sp ow w st p) (hl : Lf ow w l cl f) (ha : Lf ow w a ca A) : fX7_allow st (some l) (3 : Int32) (some a) x4 w = some (iB (fMean f A), w) := by
  rw [fX7_allow, if_neg (by simp), if_neg (by simp), if_neg (by decide +kernel), if_neg (by decide +kernel), if_neg (by decide +kernel), if_pos rfl, kRc_e hs.1, Option.bind_some, opensIf_ok ha hl, Option.bind_some]
  unfold fMean
  cases lOpn (fPre A) (fPre f) with
  | true => rw [if_neg (by decide +kernel)]; rfl
  | false =>
    rw [if_pos (show iB false = 0 from rfl), Option.bind_some, opensIf_ok hl ha, Option.bind_some]
    cases lOpn (fPre f) (fPre A) with
    | false => rfl
    | true => rw [if_neg (by decide +kernel)]; rfl
