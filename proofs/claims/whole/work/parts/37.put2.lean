/-! matching from the start, what is put -/
theorem So.q {ow : Nat → Nat × Nat} {r : Nat} {S : Nat → Prop} {w w1 : kW} (h : So r w w1) (hr : S (ow r).1) : Sq ow S w w1 :=
  ⟨h.1, h.2.1, h.2.2.1, fun b hb => ⟨h.2.2.2.2.2 b (fun e => hb (by rw [e]; exact hr)), by rw [h.2.2.2.1], by rw [h.2.2.2.2.1]⟩⟩
theorem So.m {ow : Nat → Nat × Nat} {r : Nat} {S : Nat → Prop} {w w1 : kW} (h : So r w w1) (hr : S (ow r).1) : Sm ow S w w1 :=
  ⟨h.1, h.2.1, h.2.2.1, h.2.2.2.1, h.2.2.2.2.1, fun b hb => h.2.2.2.2.2 b (fun e => hb (by rw [e]; exact hr))⟩
def σ0 : Nat → Option Fo := fun _ => none
theorem makes_ok {ow : Nat → Nat × Nat} {w : kW} {p a o cap capo : Nat} {v u X Y X' Y' : List Nat} {A B : Fo} (hp : Pg ow w p) (h : Ln ow w a cap v) (hst : St w a v) (ho : Ln ow w o capo u) (hso : St w o u) (hv : ∀ c ∈ v, c < 128) (hu : ∀ c ∈ u, c < 128) (e : v = X ++ (fPre A ++ Y)) (hA : fOk A) (e' : u = X' ++ (fPre B ++ Y')) (hB : fOk B) :
    ∃ w', fX4_makes p (some a) (iI X.length) (some o) (iI X'.length) w = some (iB (fMt A B σ0).isSome, w') ∧ Sq ow (fun q => q = p) w w' ∧ Pg ow w' p ∧ kP w' p 1 = some o ∧ ∀ σ, fMt A B σ0 = some σ → Pu w' p u σ := by
  obtain ⟨p0, k0, n0, o0⟩ := hp.2.2
  have s1 : Sq ow (fun q => q = p) w (kSP w p 1 (some o)) := Sq.sp (by rw [hp.2.1])
  have e1 : kP (kSP w p 1 (some o)) p 0 = kP w p 0 := kP_SP_j (by omega)
  have hp1 := hp.sq s1 e1
  obtain ⟨w3, e3, s3, g3⟩ := fill_ok (x := (-1 : Int32)) (w := kSP w p 1 (some o)) (r := Lp w p 0) (m := 6) (by omega) k0 n0
  have s3' : Sq ow (fun q => q = p) (kSP w p 1 (some o)) w3 := s3.q (by rw [o0])
  have e4 : kP w3 = kP (kSP w p 1 (some o)) := s3.2.2.2.1
  have hp3 := hp1.sq s3' (by rw [e4])
  have s13 := s1.tr s3'
  have na := hp.ne h.1
  have no := hp.ne ho.1
  have hL : Lp w3 p 0 = Lp w p 0 := by unfold Lp; rw [e4, e1]
  have hPu : Pu w3 p u σ0 := fun i hi => ⟨fun _ => by rw [hL, g3 i hi]; decide +kernel, fun c hc => by cases hc⟩
  have q1 := split_len e
  have q2 := split_len e'
  have b1 := h.2.1
  have b2 := h.1.2.2.1
  have hk := h.1.1
  have hE := endAt_ok (h.sq s13 na) (hst.sq h.1 s13 na) e hA
  have hk3 : kKd w3 a = 1 := (h.sq s13 na).1.1
  obtain ⟨i1, i2⟩ := makes_step hv hu (iI X.length) (iI X'.length) ((X.length + fSz A : Nat) : Int) (by omega) (fun y6_8 y7_9 w10 => some ((1 : Int32), w10)) A hA X Y X' Y' B σ0 kFU w3 hB e e' (by omega) (by unfold kFU; omega) hp3 (h.sq s13 na) (ho.sq s13 no) (hso.sq ho.1 s13 no) hPu
  have run : fX4_makes p (some a) (iI X.length) (some o) (iI X'.length) w = fX4_makes_L27 p (some a) (iI X.length) (some o) (iI X'.length) (iI ((X.length + fSz A : Nat) : Int)) kFU (fun y6_8 y7_9 w10 => some ((1 : Int32), w10)) (iI X'.length) (iI X.length) w3 := by
    rw [fX4_makes, kpP_e hp.1, Option.bind_some, kgP_e hp1.1, Option.bind_some, e1, p0, e3, Option.bind_some, kRc_e hk3, Option.bind_some, hE, Option.bind_some]
  rw [run]
  cases hm : fMt A B σ0 with
  | none =>
    obtain ⟨w', t1, t2, t3⟩ := i1 hm
    refine ⟨w', t1, s13.tr t2, hp3.sq t2 (by rw [t3]), by rw [t3, e4, kP_SP_s], fun σ z => by cases z⟩
  | some σ' =>
    obtain ⟨w', t1, t2, t3, t4⟩ := i2 σ' hm
    refine ⟨w', ?_, s13.tr t2, hp3.sq t2 (by rw [t3]), by rw [t3, e4, kP_SP_s], fun σ z => by cases z; exact t4⟩
    rw [t1]
    obtain ⟨n, hn⟩ : ∃ z, kFU - fSz A = z + 1 := ⟨kFU - fSz A - 1, by unfold kFU; omega⟩
    rw [hn, fX4_makes_L27]
    simp (disch := omega) only [iI_lt, iI_le, iI_eq, if_pos]
    rfl
theorem startOf_none {ow : Nat → Nat × Nat} {w : kW} {p : Nat} (hp : Pg ow w p) : fX4_startOf p (iI (-1)) w = some (iI (-1)) := by
  rw [fX4_startOf, if_pos (by decide +kernel)]
  decide +kernel
theorem startOf_ok {ow : Nat → Nat × Nat} {w : kW} {p : Nat} (hp : Pg ow w p) (i : Nat) (hi : i < 6) : fX4_startOf p (iI i) w = some (kI w (Lp w p 0) i) := by
  obtain ⟨p0, k0, n0, o0⟩ := hp.2.2
  have hk := hp.1
  rw [fX4_startOf]
  simp (disch := omega) only [iI_add, iI_sub, iI_mul, iI_neg, iI_n, iL_0, iL_1, iL_2, iL_3, iL_4, iL_5, iL_6, iL_7, iL_8, iL_9, iL_10, iL_11, iL_12, iL_13, iL_14, iL_15, iL_16, iL_17, iL_18, iL_19, iL_20, iL_21, iL_22, iL_23, iL_24, iL_27, iL_32, iL_40, iL_41, iL_43, iL_48, iL_49, iL_57, iL_59, iL_60, iL_62, iL_63, iL_64, iL_83, iL_99, iL_100, iL_107, iL_108, iL_109, iL_112, iL_115, iL_117, iL_118, iL_120, iL_121, iL_123, iL_126, iL_127, iL_136, iL_163, iL_200, iL_203, iL_243, iL_400, iL_512, iL_960, iL_1000, iL_2400, iL_4000, iL_6000, iL_8000, iL_8001, iL_9000, iL_10000, iL_12345, iL_65536, iL_1000000, iL_252645135, iL_858993459, iL_1103515245, iL_1431655765, iL_2147483647, iI_lt, iI_le, iI_eq, kgI_e, kgP_e, kpI_e, kpP_e, kal_e, kaI_e, kaP_e, kaJ_e, ksI_e, ksP_e, ksJ_e, kRc_e, kIx_i, Option.bind_some, Option.map_some, p0, n0, if_pos, if_neg, Int.toNat_natCast]
def fSb (σ : Nat → Option Fo) : Fo → Fo
  | .var i => (σ i).getD (.var i)
  | .neg a => .neg (fSb σ a)
  | .add a b => .add (fSb σ a) (fSb σ b)
  | .sub a b => .sub (fSb σ a) (fSb σ b)
  | f => f
theorem Pu.sm {ow : Nat → Nat × Nat} {S : Nat → Prop} {w w1 : kW} {p : Nat} {u : List Nat} {σ : Nat → Option Fo} (h : Pu w p u σ) (hp : Pg ow w p) (hs : Sm ow S w w1) (hn : ¬ S p) : Pu w1 p u σ := by
  intro i hi
  rw [hs.lp, hs.2.2.2.2.2 (Lp w p 0) (by rw [hp.2.2.2.2.2]; exact hn)]
  exact h i hi
/-- what addPut needs of the world -/
def PuW (ow : Nat → Nat × Nat) (w : kW) (p a out cap src capo : Nat) (v u : List Nat) (σ : Nat → Option Fo) : Prop :=
  Pg ow w p ∧ Ln ow w a cap v ∧ St w a v ∧ Ln ow w src capo u ∧ St w src u ∧ Pu w p u σ ∧ kP w p 1 = some src ∧ out ≠ p ∧ out ≠ a ∧ out ≠ src
theorem PuW.sm {ow : Nat → Nat × Nat} {w w1 : kW} {p a out cap src capo : Nat} {v u : List Nat} {σ : Nat → Option Fo} (h : PuW ow w p a out cap src capo v u σ) (hs : Sm ow (fun q => q = out) w w1) : PuW ow w1 p a out cap src capo v u σ := by
  obtain ⟨h1, h2, h3, h4, h5, h6, h7, h8, h9, h10⟩ := h
  exact ⟨h1.sq2 hs.q (Ne.symm h8), h2.sm hs (Ne.symm h9), h3.sm h2.1 hs (Ne.symm h9), h4.sm hs (Ne.symm h10), h5.sm h4.1 hs (Ne.symm h10), h6.sm h1 hs (Ne.symm h8), by rw [hs.2.2.2.1]; exact h7, h8, h9, h10⟩
theorem addPut_step {ow : Nat → Nat × Nat} {p a out cap src capo capt : Nat} {v u : List Nat} {σ : Nat → Option Fo} (hv : ∀ c ∈ v, c < 128) (hu : ∀ c ∈ u, c < 128) (x3 : Int32) (E : Int) (hE2 : E ≤ 200) (k : Int32 → kW → Option kW) :
    ∀ A, fOk A → ∀ (X Y : List Nat) (ov : Option (List Nat)) (n : Nat) (w : kW), v = X ++ (fPre A ++ Y) → (X.length + fSz A : Nat) ≤ E → fSz A < n → PuW ow w p a out cap src capo v u σ → Lx ow w out capt ov →
    ∃ w', fX4_addPut_L10 p (some out) (some a) x3 (iI E) n k (iI X.length) w = fX4_addPut_L10 p (some out) (some a) x3 (iI E) (n - fSz A) k (iI (X.length + fSz A : Nat)) w' ∧ Lx ow w' out capt (apc capt ov (fPre (fSb σ A))) ∧ Sm ow (fun q => q = out) w w' := by
  have sign : ∀ (X Z : List Nat) (c : Nat) (ov : Option (List Nat)) (n : Nat) (w : kW), c = 126 ∨ c = 118 ∨ c = 62 → v = X ++ c :: Z → X.length < E → PuW ow w p a out cap src capo v u σ → Lx ow w out capt ov →
      ∃ w', fX4_addPut_L10 p (some out) (some a) x3 (iI E) (n + 1) k (iI X.length) w = fX4_addPut_L10 p (some out) (some a) x3 (iI E) n k (iI (X.length + 1 : Nat)) w' ∧ Lx ow w' out capt (apc capt ov [c]) ∧ Sm ow (fun q => q = out) w w' := by
    intro X Z c ov n w hc e1 hlt hp hx
    obtain ⟨hp, h, -⟩ := hp
    have hk := h.1.1
    have hkp := hp.1
    have hko := hx.S.1
    have b1 := h.2.1
    have b2 := h.1.2.2.1
    have l1 : v.length = X.length + 1 + Z.length := by rw [e1]; simp; omega
    have f1 := at_at h e1
    have hl : fX11_letterOf (iI c) = some (iI (-1)) := by
      rw [letterOf_ok _ (by omega) (by omega)]
      unfold leZ
      rw [if_neg (by omega)]
    have f2 := startOf_none hp
    obtain ⟨w', e2, g1, g2⟩ := add_ok hx c (by omega)
    refine ⟨w', ?_, g1, g2⟩
    rw [fX4_addPut_L10]
    push_cast
    simp (disch := omega) only [kgI_e, kgP_e, kpI_e, kpP_e, kal_e, kaI_e, kaP_e, kaJ_e, ksI_e, ksP_e, ksJ_e, kRc_e, kIx_i, Option.bind_some, Option.map_some, iI_lt, iI_le, iI_eq, f1, f2, hl, e2, if_pos, if_neg, iL_0, iI_add, iL_1]
  refine fInd ?_ ?_ ?_ ?_
  · intro i hi X Y ov n w e1 hE hn hp hx
    obtain ⟨n, rfl⟩ : ∃ z, n = z + 1 := ⟨n - 1, by omega⟩
    rw [fSz_var] at hE hn
    obtain ⟨hpg, h, hst, hs, hss, hPu, hsrc, ne1, ne2, ne3⟩ := id hp
    have hk := h.1.1
    have hkp := hpg.1
    have hko := hx.S.1
    have b1 := h.2.1
    have b2 := h.1.2.2.1
    have b3 := hs.2.1
    have b4 := hs.1.2.2.1
    have l1 := split_len e1
    rw [fSz_var] at l1
    have f1 := at_at (c := 112 + i) (Y := Y) h (by rw [e1, fPre_var]; rfl)
    have hl : fX11_letterOf (iI (112 + i : Nat)) = some (iI i) := by
      rw [letterOf_ok _ (by omega) (by omega)]
      unfold leZ
      rw [if_pos (by omega)]
      congr 2
      omega
    have f2 := startOf_ok hpg i hi
    obtain ⟨g1, g2⟩ := hPu i hi
    cases hσ : σ i with
    | none =>
      have g := g1 hσ
      rw [g] at f2
      obtain ⟨w', e2, r1, r2⟩ := add_ok hx (112 + i) (by omega)
      refine ⟨w', ?_, ?_, r2⟩
      · rw [fX4_addPut_L10, fSz_var]
        push_cast at f1 hl e2 ⊢
        simp (disch := omega) only [kgI_e, kgP_e, kpI_e, kpP_e, kal_e, kaI_e, kaP_e, kaJ_e, ksI_e, ksP_e, ksJ_e, kRc_e, kIx_i, Option.bind_some, Option.map_some, iI_lt, iI_le, iI_eq, f1, f2, hl, e2, if_pos, if_neg, iL_0, iI_add, iL_1, Nat.add_sub_cancel]
      · have e3 : fPre (fSb σ (.var i)) = [112 + i] := by
          show fPre ((σ i).getD (.var i)) = _
          rw [hσ]; rfl
        rw [e3]; exact r1
    | some c =>
      obtain ⟨hc, Xc, Yc, ec, gc⟩ := g2 c hσ
      have lc := split_len ec
      rw [gc] at f2
      obtain ⟨w', e2, r1, r2⟩ := addPart_ok ne3 hx hs hss hu ec hc
      refine ⟨w', ?_, ?_, r2⟩
      · rw [fX4_addPut_L10, fSz_var]
        push_cast at f1 hl e2 ⊢
        simp (disch := omega) only [kgI_e, kgP_e, kpI_e, kpP_e, kal_e, kaI_e, kaP_e, kaJ_e, ksI_e, ksP_e, ksJ_e, kRc_e, kIx_i, Option.bind_some, Option.map_some, iI_lt, iI_le, iI_eq, f1, f2, hl, hsrc, e2, if_pos, if_neg, iL_0, iI_add, iL_1, Nat.add_sub_cancel, reduceCtorEq, ite_false]
      · have e3 : fPre (fSb σ (.var i)) = fPre c := by
          show fPre ((σ i).getD (.var i)) = _
          rw [hσ]; rfl
        rw [e3]; exact r1
  · intro A hA ih X Y ov n w e1 hE hn hp hx
    obtain ⟨n, rfl⟩ : ∃ z, n = z + 1 := ⟨n - 1, by omega⟩
    rw [fSz_neg] at hE hn
    obtain ⟨w1, e2, r1, r2⟩ := sign X (fPre A ++ Y) 126 ov n w (Or.inl rfl) (by rw [e1, fPre_neg]; rfl) (by omega) hp hx
    obtain ⟨w2, e3, r3, r4⟩ := ih (X ++ [126]) Y _ n w1 (by rw [e1, fPre_neg]; simp) (by simp; omega) (by omega) (hp.sm r2) r1
    simp only [List.length_append, List.length_cons, List.length_nil, Nat.zero_add] at e3
    refine ⟨w2, ?_, ?_, r2.tr r4⟩
    · rw [e2, e3, fSz_neg, show n + 1 - (fSz A + 1) = n - fSz A by omega, show X.length + 1 + fSz A = X.length + (fSz A + 1) by omega]
    · rw [apc_apc] at r3
      exact r3
  · intro A1 A2 hA1 hA2 ih1 ih2 X Y ov n w e1 hE hn hp hx
    obtain ⟨n, rfl⟩ : ∃ z, n = z + 1 := ⟨n - 1, by omega⟩
    rw [fSz_add] at hE hn
    obtain ⟨w1, e2, r1, r2⟩ := sign X (fPre A1 ++ fPre A2 ++ Y) 118 ov n w (Or.inr (Or.inl rfl)) (by rw [e1, fPre_add]; simp) (by omega) hp hx
    have s1 : (X ++ (118 :: fPre A1)).length = X.length + 1 + fSz A1 := by simp [fSz]; omega
    obtain ⟨w2, e3, r3, r4⟩ := ih1 (X ++ [118]) (fPre A2 ++ Y) _ n w1 (by rw [e1, fPre_add]; simp) (by simp; omega) (by omega) (hp.sm r2) r1
    obtain ⟨w3, e4, r5, r6⟩ := ih2 (X ++ (118 :: fPre A1)) Y _ (n - fSz A1) w2 (by rw [e1, fPre_add]; simp) (by rw [s1]; omega) (by omega) ((hp.sm r2).sm r4) r3
    simp only [List.length_append, List.length_cons, List.length_nil, Nat.zero_add] at e3
    rw [s1] at e4
    refine ⟨w3, ?_, ?_, (r2.tr r4).tr r6⟩
    · rw [e2, e3, e4, fSz_add, show n + 1 - (fSz A1 + fSz A2 + 1) = n - fSz A1 - fSz A2 by omega, show X.length + 1 + fSz A1 + fSz A2 = X.length + (fSz A1 + fSz A2 + 1) by omega]
    · rw [apc_apc, apc_apc] at r5
      show Lx ow w3 out capt (apc capt ov (118 :: (fPre (fSb σ A1) ++ fPre (fSb σ A2))))
      simpa using r5
  · intro A1 A2 hA1 hA2 ih1 ih2 X Y ov n w e1 hE hn hp hx
    obtain ⟨n, rfl⟩ : ∃ z, n = z + 1 := ⟨n - 1, by omega⟩
    rw [fSz_sub] at hE hn
    obtain ⟨w1, e2, r1, r2⟩ := sign X (fPre A1 ++ fPre A2 ++ Y) 62 ov n w (Or.inr (Or.inr rfl)) (by rw [e1, fPre_sub]; simp) (by omega) hp hx
    have s1 : (X ++ (62 :: fPre A1)).length = X.length + 1 + fSz A1 := by simp [fSz]; omega
    obtain ⟨w2, e3, r3, r4⟩ := ih1 (X ++ [62]) (fPre A2 ++ Y) _ n w1 (by rw [e1, fPre_sub]; simp) (by simp; omega) (by omega) (hp.sm r2) r1
    obtain ⟨w3, e4, r5, r6⟩ := ih2 (X ++ (62 :: fPre A1)) Y _ (n - fSz A1) w2 (by rw [e1, fPre_sub]; simp) (by rw [s1]; omega) (by omega) ((hp.sm r2).sm r4) r3
    simp only [List.length_append, List.length_cons, List.length_nil, Nat.zero_add] at e3
    rw [s1] at e4
    refine ⟨w3, ?_, ?_, (r2.tr r4).tr r6⟩
    · rw [e2, e3, e4, fSz_sub, show n + 1 - (fSz A1 + fSz A2 + 1) = n - fSz A1 - fSz A2 by omega, show X.length + 1 + fSz A1 + fSz A2 = X.length + (fSz A1 + fSz A2 + 1) by omega]
    · rw [apc_apc, apc_apc] at r5
      show Lx ow w3 out capt (apc capt ov (62 :: (fPre (fSb σ A1) ++ fPre (fSb σ A2))))
      simpa using r5
theorem addPut_ok {ow : Nat → Nat × Nat} {p a out cap src capo capt : Nat} {v u X Y : List Nat} {σ : Nat → Option Fo} {A : Fo} {ov : Option (List Nat)} {w : kW} (hv : ∀ c ∈ v, c < 128) (hu : ∀ c ∈ u, c < 128) (hA : fOk A) (e : v = X ++ (fPre A ++ Y)) (hp : PuW ow w p a out cap src capo v u σ) (hx : Lx ow w out capt ov) :
    ∃ w', fX4_addPut p (some out) (some a) (iI X.length) w = some w' ∧ Lx ow w' out capt (apc capt ov (fPre (fSb σ A))) ∧ Sm ow (fun q => q = out) w w' := by
  obtain ⟨-, h, hst, -⟩ := id hp
  have q1 := split_len e
  have b1 := h.2.1
  have b2 := h.1.2.2.1
  have hk := h.1.1
  have hE := endAt_ok h hst e hA
  obtain ⟨w', e1, r1, r2⟩ := addPut_step (capo := capo) hv hu (iI X.length) ((X.length + fSz A : Nat) : Int) (by omega) (fun y5_4 w5 => some w5) A hA X Y ov kFU w e (by omega) (by unfold kFU; omega) hp hx
  refine ⟨w', ?_, r1, r2⟩
  rw [fX4_addPut, kRc_e hk, Option.bind_some, hE, Option.bind_some, e1]
  obtain ⟨n, hn⟩ : ∃ z, kFU - fSz A = z + 1 := ⟨kFU - fSz A - 1, by unfold kFU; omega⟩
  rw [hn, fX4_addPut_L10]
  simp (disch := omega) only [iI_lt, iI_le, iI_eq, if_pos]
