theorem Pg.ne {ow : Nat → Nat × Nat} {w : kW} {p a cap : Nat} (hp : Pg ow w p) (h : LnS ow w a cap) : a ≠ p := fun e => by
  have h1 := h.1
  rw [e, hp.1] at h1
  omega
theorem Pg.sq {ow : Nat → Nat × Nat} {w w1 : kW} {p : Nat} (hp : Pg ow w p) (hs : Sq ow (fun q => q = p) w w1) (hk : kP w1 p 0 = kP w p 0) : Pg ow w1 p := by
  have hl : Lp w1 p 0 = Lp w p 0 := by unfold Lp; rw [hk]
  refine ⟨by rw [hs.1]; exact hp.1, hp.2.1, ?_⟩
  unfold LnA
  rw [hl, hk, hs.1, hs.2.1]
  exact hp.2.2
theorem Pg.sq2 {ow : Nat → Nat × Nat} {S : Nat → Prop} {w w1 : kW} {p : Nat} (hp : Pg ow w p) (hs : Sq ow S w w1) (hn : ¬ S p) : Pg ow w1 p :=
  ⟨by rw [hs.1]; exact hp.1, hp.2.1, hp.2.2.sq hs (by rw [hp.2.1]; exact hn)⟩
theorem makes_step {ow : Nat → Nat × Nat} {p a o cap capo : Nat} {v u : List Nat} (hv : ∀ c ∈ v, c < 128) (hu : ∀ c ∈ u, c < 128) (x2 x4 : Int32) (E : Int) (hE2 : E ≤ 200) (k : Int32 → Int32 → kW → Option (Int32 × kW)) :
    ∀ A, fOk A → ∀ (X Y X' Y' : List Nat) (B : Fo) (σ : Nat → Option Fo) (n : Nat) (w : kW), fOk B → v = X ++ (fPre A ++ Y) → u = X' ++ (fPre B ++ Y') → (X.length + fSz A : Nat) ≤ E → fSz A < n → Pg ow w p → Ln ow w a cap v → Ln ow w o capo u → St w o u → Pu w p u σ →
    (fMt A B σ = none → ∃ w', fX4_makes_L27 p (some a) x2 (some o) x4 (iI E) n k (iI X'.length) (iI X.length) w = some (0, w') ∧ Sq ow (fun q => q = p) w w' ∧ kP w' = kP w) ∧
    (∀ σ', fMt A B σ = some σ' → ∃ w', fX4_makes_L27 p (some a) x2 (some o) x4 (iI E) n k (iI X'.length) (iI X.length) w = fX4_makes_L27 p (some a) x2 (some o) x4 (iI E) (n - fSz A) k (iI (X'.length + fSz B : Nat)) (iI (X.length + fSz A : Nat)) w' ∧ Sq ow (fun q => q = p) w w' ∧ kP w' = kP w ∧ Pu w' p u σ') := by
  -- one sign that is no letter, beside the head of B
  have sign : ∀ (X Z X' Y' : List Nat) (c : Nat) (B : Fo) (n : Nat) (w : kW), c = 126 ∨ c = 118 ∨ c = 62 → fOk B → v = X ++ c :: Z → u = X' ++ (fPre B ++ Y') → X.length < E → Pg ow w p → Ln ow w a cap v → Ln ow w o capo u →
      fX4_makes_L27 p (some a) x2 (some o) x4 (iI E) (n + 1) k (iI X'.length) (iI X.length) w = if fHd B = c then fX4_makes_L27 p (some a) x2 (some o) x4 (iI E) n k (iI (X'.length + 1 : Nat)) (iI (X.length + 1 : Nat)) w else some (0, w) := by
    intro X Z X' Y' c B n w hc hB e1 e2 hlt hp h ho
    have hk := h.1.1
    have hko := ho.1.1
    have b1 := h.2.1
    have b2 := h.1.2.2.1
    have b3 := ho.2.1
    have b4 := ho.1.2.2.1
    have l1 : v.length = X.length + 1 + Z.length := by rw [e1]; simp; omega
    have l2 := split_len e2
    have f1 := at_at h e1
    have f2 := at_at (c := fHd B) (Y := fTl B ++ Y') ho (by rw [e2, fHdTl B hB]; rfl)
    have hl : fX11_letterOf (iI c) = some (iI (-1)) := by
      rw [letterOf_ok _ (by omega) (by omega)]
      unfold leZ
      rw [if_neg (by omega)]
    have hh : fHd B < 128 := fSig_lt (fPre_sig B hB _ (by rw [fHdTl B hB]; exact List.mem_cons_self))
    rw [fX4_makes_L27]
    push_cast
    by_cases hc2 : fHd B = c
    · simp (disch := omega) only [kgI_e, kgP_e, kpI_e, kpP_e, kal_e, kaI_e, kaP_e, kaJ_e, ksI_e, ksP_e, ksJ_e, kRc_e, kIx_i, Option.bind_some, Option.map_some, iI_lt, iI_le, iI_eq, f1, f2, hl, if_pos, if_neg, iL_0, iI_add, iL_1]
    · simp (disch := omega) only [kgI_e, kgP_e, kpI_e, kpP_e, kal_e, kaI_e, kaP_e, kaJ_e, ksI_e, ksP_e, ksJ_e, kRc_e, kIx_i, Option.bind_some, Option.map_some, iI_lt, iI_le, iI_eq, f1, f2, hl, if_pos, if_neg, iL_0]
  refine fInd ?_ ?_ ?_ ?_
  · intro i hi X Y X' Y' B σ n w hB e1 e2 hE hn hp h ho hso hPu
    obtain ⟨n, rfl⟩ : ∃ z, n = z + 1 := ⟨n - 1, by omega⟩
    rw [fSz_var] at hE hn
    have hk := h.1.1
    have hko := ho.1.1
    have hkp := hp.1
    obtain ⟨p0, k0, n0, o0⟩ := hp.2.2
    have b1 := h.2.1
    have b2 := h.1.2.2.1
    have b3 := ho.2.1
    have b4 := ho.1.2.2.1
    have l1 := split_len e1
    have l2 := split_len e2
    rw [fSz_var] at l1
    have f1 := at_at (c := 112 + i) (Y := Y) h (by rw [e1, fPre_var]; rfl)
    have hl : fX11_letterOf (iI (112 + i : Nat)) = some (iI i) := by
      rw [letterOf_ok _ (by omega) (by omega)]
      unfold leZ
      rw [if_pos (by omega)]
      congr 2
      omega
    have f2 := endAt_ok ho hso e2 hB
    obtain ⟨g1, g2⟩ := hPu i hi
    cases hσ : σ i with
    | none =>
      have e0 : fMt (.var i) B σ = some (fun j => if j = i then some B else σ j) := by
        show (match σ i with | none => _ | some c => _) = _
        rw [hσ]
      rw [e0]
      refine ⟨fun z => absurd z (by simp), fun σ' hσ' => ?_⟩
      cases hσ'
      have g := g1 hσ
      have hS : Sq ow (fun q => q = p) w (kSI w (Lp w p 0) i (iI X'.length)) := Sq.si (by rw [o0])
      have f3 := endAt_ok (ho.sq hS (hp.ne ho.1)) (hso.sq ho.1 hS (hp.ne ho.1)) e2 hB
      have hk3 : kKd (kSI w (Lp w p 0) i (iI X'.length)) o = 1 := hko
      refine ⟨kSI w (Lp w p 0) i (iI X'.length), ?_, hS, rfl, fun j hj => ?_⟩
      · rw [fX4_makes_L27, fSz_var]
        push_cast at f1 f2 f3 hl ⊢
        simp (disch := omega) only [kgI_e, kgP_e, kpI_e, kpP_e, kal_e, kaI_e, kaP_e, kaJ_e, ksI_e, ksP_e, ksJ_e, kRc_e, kIx_i, Option.bind_some, Option.map_some, iI_lt, iI_le, iI_eq, f1, f2, f3, hl, p0, g, Int.toNat_natCast, if_pos, if_neg, ite_false, iL_0, iI_add, iL_1, Nat.add_sub_cancel]
      · have hLp : Lp (kSI w (Lp w p 0) i (iI X'.length)) p 0 = Lp w p 0 := rfl
        rw [hLp]
        by_cases hji : j = i
        · subst hji
          refine ⟨fun z => absurd z (by simp), fun c hc => ?_⟩
          simp only [ite_true] at hc
          cases hc
          exact ⟨hB, X', Y', e2, kI_SI_s⟩
        · simp only [if_neg hji]
          rw [kI_SI_j hji]
          exact hPu j hj
    | some c =>
      obtain ⟨hcOk, Xc, Yc, ec, gc⟩ := g2 c hσ
      have lc := split_len ec
      have f4 := samePart_ok ho hso ho hso hu hu ec hcOk e2 hB
      have e0 : fMt (.var i) B σ = if fEq c B then some σ else none := by
        show (match σ i with | none => _ | some c => _) = _
        rw [hσ]
      rw [e0]
      cases hq : fEq c B with
      | false =>
        rw [hq] at f4
        refine ⟨fun _ => ⟨w, ?_, Sq.rf w, rfl⟩, fun σ' z => absurd z (by simp)⟩
        rw [fX4_makes_L27]
        push_cast at f1 f2 hl ⊢
        simp (disch := omega) only [kgI_e, kgP_e, kpI_e, kpP_e, kal_e, kaI_e, kaP_e, kaJ_e, ksI_e, ksP_e, ksJ_e, kRc_e, kIx_i, Option.bind_some, Option.map_some, iI_lt, iI_le, iI_eq, f1, f2, f4, hl, p0, gc, Int.toNat_natCast, if_pos, if_neg, iL_0, iB_f, ite_true, ite_false]
      | true =>
        rw [hq] at f4
        refine ⟨fun z => absurd z (by simp), fun σ' z => ?_⟩
        cases z
        refine ⟨w, ?_, Sq.rf w, rfl, hPu⟩
        rw [fX4_makes_L27, fSz_var]
        push_cast at f1 f2 hl ⊢
        simp (disch := omega) only [kgI_e, kgP_e, kpI_e, kpP_e, kal_e, kaI_e, kaP_e, kaJ_e, ksI_e, ksP_e, ksJ_e, kRc_e, kIx_i, Option.bind_some, Option.map_some, iI_lt, iI_le, iI_eq, f1, f2, f4, hl, p0, gc, Int.toNat_natCast, if_pos, if_neg, iL_0, iB_t, iL_1, iI_add, Nat.add_sub_cancel, ite_true, ite_false]
  · intro A hA ih X Y X' Y' B σ n w hB e1 e2 hE hn hp h ho hso hPu
    obtain ⟨n, rfl⟩ : ∃ z, n = z + 1 := ⟨n - 1, by omega⟩
    rw [fSz_neg] at hE hn
    have hs := sign X (fPre A ++ Y) X' Y' 126 B n w (Or.inl rfl) hB (by rw [e1, fPre_neg]; rfl) e2 (by omega) hp h ho
    rw [hs, fSz_neg]
    rcases fCases hB with ⟨j, hj, rfl⟩ | ⟨c, hc, rfl⟩ | ⟨c, d, hc, hd, rfl⟩ | ⟨c, d, hc, hd, rfl⟩
    · rw [if_neg (by show ¬ 112 + j = 126; omega)]
      exact ⟨fun _ => ⟨w, rfl, Sq.rf w, rfl⟩, fun σ' z => by cases z⟩
    · rw [if_pos (show fHd (.neg c) = 126 from rfl)]
      obtain ⟨i1, i2⟩ := ih (X ++ [126]) Y (X' ++ [126]) Y' c σ n w hc (by rw [e1, fPre_neg]; simp) (by rw [e2, fPre_neg]; simp) (by simp; omega) (by omega) hp h ho hso hPu
      simp only [List.length_append, List.length_cons, List.length_nil, Nat.zero_add] at i1 i2
      refine ⟨i1, fun σ' z => ?_⟩
      obtain ⟨w', t1, t2⟩ := i2 σ' z
      refine ⟨w', ?_, t2⟩
      rw [t1, fSz_neg, show n + 1 - (fSz A + 1) = n - fSz A by omega, show X'.length + 1 + fSz c = X'.length + (fSz c + 1) by omega, show X.length + 1 + fSz A = X.length + (fSz A + 1) by omega]
    · rw [if_neg (by show ¬ 118 = 126; omega)]
      exact ⟨fun _ => ⟨w, rfl, Sq.rf w, rfl⟩, fun σ' z => by cases z⟩
    · rw [if_neg (by show ¬ 62 = 126; omega)]
      exact ⟨fun _ => ⟨w, rfl, Sq.rf w, rfl⟩, fun σ' z => by cases z⟩
  · intro A1 A2 hA1 hA2 ih1 ih2 X Y X' Y' B σ n w hB e1 e2 hE hn hp h ho hso hPu
    obtain ⟨n, rfl⟩ : ∃ z, n = z + 1 := ⟨n - 1, by omega⟩
    rw [fSz_add] at hE hn
    have hs := sign X (fPre A1 ++ fPre A2 ++ Y) X' Y' 118 B n w (Or.inr (Or.inl rfl)) hB (by rw [e1, fPre_add]; simp) e2 (by omega) hp h ho
    rw [hs, fSz_add]
    rcases fCases hB with ⟨j, hj, rfl⟩ | ⟨c, hc, rfl⟩ | ⟨c, d, hc, hd, rfl⟩ | ⟨c, d, hc, hd, rfl⟩
    · rw [if_neg (by show ¬ 112 + j = 118; omega)]
      exact ⟨fun _ => ⟨w, rfl, Sq.rf w, rfl⟩, fun σ' z => by cases z⟩
    · rw [if_neg (by show ¬ 126 = 118; omega)]
      exact ⟨fun _ => ⟨w, rfl, Sq.rf w, rfl⟩, fun σ' z => by cases z⟩
    · rw [if_pos (show fHd (.add c d) = 118 from rfl)]
      have e3 : v = (X ++ [118]) ++ (fPre A1 ++ (fPre A2 ++ Y)) := by rw [e1, fPre_add]; simp
      have e4 : u = (X' ++ [118]) ++ (fPre c ++ (fPre d ++ Y')) := by rw [e2, fPre_add]; simp
      have e5 : v = (X ++ (118 :: fPre A1)) ++ (fPre A2 ++ Y) := by rw [e1, fPre_add]; simp
      have e6 : u = (X' ++ (118 :: fPre c)) ++ (fPre d ++ Y') := by rw [e2, fPre_add]; simp
      have s1 : (X ++ (118 :: fPre A1)).length = X.length + 1 + fSz A1 := by simp [fSz]; omega
      have s2 : (X' ++ (118 :: fPre c)).length = X'.length + 1 + fSz c := by simp [fSz]; omega
      obtain ⟨i1, i2⟩ := ih1 (X ++ [118]) _ (X' ++ [118]) _ c σ n w hc e3 e4 (by simp; omega) (by omega) hp h ho hso hPu
      simp only [List.length_append, List.length_cons, List.length_nil, Nat.zero_add] at i1 i2
      have em : fMt (.add A1 A2) (.add c d) σ = (fMt A1 c σ).bind (fMt A2 d) := rfl
      rw [em]
      cases hm : fMt A1 c σ with
      | none =>
        rw [Option.bind_none]
        exact ⟨fun _ => i1 hm, fun σ' z => by cases z⟩
      | some σ1 =>
        rw [Option.bind_some]
        obtain ⟨w1, t1, t2, t3, t4⟩ := i2 σ1 hm
        have na := hp.ne h.1
        have no := hp.ne ho.1
        obtain ⟨j1, j2⟩ := ih2 (X ++ (118 :: fPre A1)) _ (X' ++ (118 :: fPre c)) _ d σ1 (n - fSz A1) w1 hd e5 e6 (by rw [s1]; omega) (by omega) (hp.sq t2 (by rw [t3])) (h.sq t2 na) (ho.sq t2 no) (hso.sq ho.1 t2 no) t4
        rw [s1, s2] at j1 j2
        refine ⟨fun z => ?_, fun σ' z => ?_⟩
        · obtain ⟨w', r1, r2, r3⟩ := j1 z
          exact ⟨w', t1.trans r1, t2.tr r2, r3.trans t3⟩
        · obtain ⟨w', r1, r2, r3, r4⟩ := j2 σ' z
          refine ⟨w', ?_, t2.tr r2, r3.trans t3, r4⟩
          rw [t1, r1, fSz_add, show n + 1 - (fSz A1 + fSz A2 + 1) = n - fSz A1 - fSz A2 by omega, show X'.length + 1 + fSz c + fSz d = X'.length + (fSz c + fSz d + 1) by omega, show X.length + 1 + fSz A1 + fSz A2 = X.length + (fSz A1 + fSz A2 + 1) by omega]
    · rw [if_neg (by show ¬ 62 = 118; omega)]
      exact ⟨fun _ => ⟨w, rfl, Sq.rf w, rfl⟩, fun σ' z => by cases z⟩
  · intro A1 A2 hA1 hA2 ih1 ih2 X Y X' Y' B σ n w hB e1 e2 hE hn hp h ho hso hPu
    obtain ⟨n, rfl⟩ : ∃ z, n = z + 1 := ⟨n - 1, by omega⟩
    rw [fSz_sub] at hE hn
    have hs := sign X (fPre A1 ++ fPre A2 ++ Y) X' Y' 62 B n w (Or.inr (Or.inr rfl)) hB (by rw [e1, fPre_sub]; simp) e2 (by omega) hp h ho
    rw [hs, fSz_sub]
    rcases fCases hB with ⟨j, hj, rfl⟩ | ⟨c, hc, rfl⟩ | ⟨c, d, hc, hd, rfl⟩ | ⟨c, d, hc, hd, rfl⟩
    · rw [if_neg (by show ¬ 112 + j = 62; omega)]
      exact ⟨fun _ => ⟨w, rfl, Sq.rf w, rfl⟩, fun σ' z => by cases z⟩
    · rw [if_neg (by show ¬ 126 = 62; omega)]
      exact ⟨fun _ => ⟨w, rfl, Sq.rf w, rfl⟩, fun σ' z => by cases z⟩
    · rw [if_neg (by show ¬ 118 = 62; omega)]
      exact ⟨fun _ => ⟨w, rfl, Sq.rf w, rfl⟩, fun σ' z => by cases z⟩
    · rw [if_pos (show fHd (.sub c d) = 62 from rfl)]
      have e3 : v = (X ++ [62]) ++ (fPre A1 ++ (fPre A2 ++ Y)) := by rw [e1, fPre_sub]; simp
      have e4 : u = (X' ++ [62]) ++ (fPre c ++ (fPre d ++ Y')) := by rw [e2, fPre_sub]; simp
      have e5 : v = (X ++ (62 :: fPre A1)) ++ (fPre A2 ++ Y) := by rw [e1, fPre_sub]; simp
      have e6 : u = (X' ++ (62 :: fPre c)) ++ (fPre d ++ Y') := by rw [e2, fPre_sub]; simp
      have s1 : (X ++ (62 :: fPre A1)).length = X.length + 1 + fSz A1 := by simp [fSz]; omega
      have s2 : (X' ++ (62 :: fPre c)).length = X'.length + 1 + fSz c := by simp [fSz]; omega
      obtain ⟨i1, i2⟩ := ih1 (X ++ [62]) _ (X' ++ [62]) _ c σ n w hc e3 e4 (by simp; omega) (by omega) hp h ho hso hPu
      simp only [List.length_append, List.length_cons, List.length_nil, Nat.zero_add] at i1 i2
      have em : fMt (.sub A1 A2) (.sub c d) σ = (fMt A1 c σ).bind (fMt A2 d) := rfl
      rw [em]
      cases hm : fMt A1 c σ with
      | none =>
        rw [Option.bind_none]
        exact ⟨fun _ => i1 hm, fun σ' z => by cases z⟩
      | some σ1 =>
        rw [Option.bind_some]
        obtain ⟨w1, t1, t2, t3, t4⟩ := i2 σ1 hm
        have na := hp.ne h.1
        have no := hp.ne ho.1
        obtain ⟨j1, j2⟩ := ih2 (X ++ (62 :: fPre A1)) _ (X' ++ (62 :: fPre c)) _ d σ1 (n - fSz A1) w1 hd e5 e6 (by rw [s1]; omega) (by omega) (hp.sq t2 (by rw [t3])) (h.sq t2 na) (ho.sq t2 no) (hso.sq ho.1 t2 no) t4
        rw [s1, s2] at j1 j2
        refine ⟨fun z => ?_, fun σ' z => ?_⟩
        · obtain ⟨w', r1, r2, r3⟩ := j1 z
          exact ⟨w', t1.trans r1, t2.tr r2, r3.trans t3⟩
        · obtain ⟨w', r1, r2, r3, r4⟩ := j2 σ' z
          refine ⟨w', ?_, t2.tr r2, r3.trans t3, r4⟩
          rw [t1, r1, fSz_sub, show n + 1 - (fSz A1 + fSz A2 + 1) = n - fSz A1 - fSz A2 by omega, show X'.length + 1 + fSz c + fSz d = X'.length + (fSz c + fSz d + 1) by omega, show X.length + 1 + fSz A1 + fSz A2 = X.length + (fSz A1 + fSz A2 + 1) by omega]
