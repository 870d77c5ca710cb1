/-! a search at rest; it learns, begins, looks -/
theorem SsS.own {ow : Nat → Nat × Nat} {x : Nat} {w w1 : kW} {s p d : Nat} {nd : Nat → Nat} (h : SsS ow x w s p d nd) (hs : Sq ow (fun z => z = s) w w1) (hp : kP w1 s = kP w s) (h0 : kP w1 (Lp w s 0) = kP w (Lp w s 0)) : SsS ow x w1 s p d nd := by
  obtain ⟨⟨hk, ho, r0, r1, r2, r3⟩, ⟨p4, hpg⟩, ⟨p5, hdS, bd1, bd2⟩, hnd, h6⟩ := h
  have lp : ∀ j, Lp w1 s j = Lp w s j := Lp_eq hp
  have la : ∀ {c j k : Nat}, LnA ow w s c j k → LnA ow w1 s c j k := fun {c j k} r => by
    unfold LnA
    rw [lp, hp, hs.1, hs.2.1]
    exact r
  have nS : ∀ {a cap : Nat}, LnS ow w a cap → a ≠ s := fun {a cap} ha e => by have := ha.1; rw [e, hk] at this; omega
  have ps : p ≠ s := fun e => by have := hpg.1; rw [e, hk] at this; omega
  refine ⟨⟨by rw [hs.1]; exact hk, ho, la r0, la r1, la r2, la r3⟩, ⟨by rw [hp]; exact p4, hpg.sq2 hs ps⟩, ⟨by rw [hp]; exact p5, hdS.sq hs (nS hdS), bd1, bd2⟩, fun j hj => ?_, h6⟩
  obtain ⟨y1, y2, y3⟩ := hnd j hj
  exact ⟨by rw [lp, h0]; exact y1, y2.sq hs (nS y2), y3⟩
theorem learn_ok {ow : Nat → Nat × Nat} {x : Nat} {w : kW} {s p d : Nat} {nd : Nat → Nat} {K : List (Nat × Fo)} (h : SsS ow x w s p d nd) (hK : SsK ow x w s K) (h7 : kI w s 7 = iI K.length) (hl : K.length < 40) {a : Nat} {G : Fo} (hG : Li ow x w a G) (num : Nat) :
    ∃ w', fX5_learn s (iI num) (some a) w = some w' ∧ SsS ow x w' s p d nd ∧ SsK ow x w' s (K ++ [(num, G)]) ∧ kI w' s 7 = iI (K ++ [(num, G)]).length ∧ Sq ow (fun z => z = s) w w' ∧ ∀ j, j ≠ 7 → kI w' s j = kI w s j := by
  obtain ⟨⟨hk, ho, r0, r1, r2, r3⟩, -⟩ := id h
  have hka := hG.1.2.1.1.1
  have z2 := row_no r2 ho
  have z3 := row_no r3 ho
  have n23 := row_ne r2 r3 (by omega)
  have hGa := hG.2.2.2
  have hb := h.2.2.2.2.2
  have sq1 : Sq ow (fun z => z = s) w (kSP w (Lp w s 2) K.length (some a)) := Sq.sp (by rw [r2.2.2.2])
  have sq2 : Sq ow (fun z => z = s) (kSP w (Lp w s 2) K.length (some a)) (kSI (kSI (kSP w (Lp w s 2) K.length (some a)) (Lp w s 3) K.length (iI num)) s 7 (iI (K.length + 1))) := (Sq.si (by rw [r3.2.2.2])).tr (Sq.si (by rw [ho]))
  have SQ := sq1.tr sq2
  obtain ⟨W, eW⟩ : ∃ W, W = kSI (kSI (kSP w (Lp w s 2) K.length (some a)) (Lp w s 3) K.length (iI num)) s 7 (iI (K.length + 1)) := ⟨_, rfl⟩
  rw [← eW] at SQ
  have wP : ∀ r, r ≠ Lp w s 2 → kP W r = kP w r := fun r hr => by
    funext j
    rw [eW]
    show kP (kSP w (Lp w s 2) K.length (some a)) r j = _
    rw [kP_SP_o hr]
  have wP2 : ∀ j, kP W (Lp w s 2) j = if j = K.length then some a else kP w (Lp w s 2) j := fun j => by
    rw [eW]
    show kP (kSP w (Lp w s 2) K.length (some a)) (Lp w s 2) j = _
    by_cases e : j = K.length
    · rw [e, kP_SP_s, if_pos rfl]
    · rw [kP_SP_j e, if_neg e]
  have wS : ∀ j, kI W s j = if j = 7 then iI (K.length + 1) else kI w s j := fun j => by
    rw [eW]
    by_cases e : j = 7
    · rw [e, kI_SI_s, if_pos rfl]
    · rw [kI_SI_j e, kI_SI_o (Ne.symm z3), if_neg e]; rfl
  have w3 : ∀ j, kI W (Lp w s 3) j = if j = K.length then iI num else kI w (Lp w s 3) j := fun j => by
    rw [eW, kI_SI_o z3]
    by_cases e : j = K.length
    · rw [e, kI_SI_s, if_pos rfl]
    · rw [kI_SI_j e, if_neg e]; rfl
  have hps : kP W s = kP w s := wP s (Ne.symm z2)
  have nS : ∀ b, x + 237 ≤ b → ¬ b = s := fun b hb2 => by omega
  refine ⟨W, ?_, h.own SQ hps (wP _ (row_ne r0 r2 (by omega))), ⟨by rw [List.length_append, List.length_singleton]; omega, fun k nm G' hk' => ?_⟩, by rw [wS, if_pos rfl, List.length_append, List.length_singleton]; rfl, SQ, fun j hj => by rw [wS, if_neg hj]⟩
  · rw [fX5_learn, if_neg (by simp), kgI_e hk, Option.bind_some, h7, if_neg (by rw [iL_40, iI_le (by omega) (by omega) (by omega) (by omega)]; omega), kgP_e hk, Option.bind_some, r2.1, Option.bind_some, ksP_e r2.2.1 (show kKd w a = kCo 16 from hka) (by omega) (by rw [r2.2.2.1]; omega) (by rw [r2.2.2.1]; omega), Option.bind_some, Int.toNat_natCast]
    rw [kgP_e (show kKd (kSP w (Lp w s 2) K.length (some a)) s = 5 from hk), Option.bind_some, kP_SP_o (Ne.symm z2), r3.1, kgI_e (show kKd (kSP w (Lp w s 2) K.length (some a)) s = 5 from hk), Option.bind_some, show kI (kSP w (Lp w s 2) K.length (some a)) s 7 = iI K.length from h7, ksI_e (show kKd (kSP w (Lp w s 2) K.length (some a)) (Lp w s 3) = 14 from r3.2.1) (by omega) (by show (K.length : Int) < (kLn w (Lp w s 3) : Int); rw [r3.2.2.1]; omega) (by show kLn w (Lp w s 3) < _; rw [r3.2.2.1]; omega), Option.bind_some, Int.toNat_natCast, if_neg (by decide)]
    rw [kgI_e (show kKd (kSI (kSP w (Lp w s 2) K.length (some a)) (Lp w s 3) K.length (iI num)) s = 5 from hk), Option.bind_some, kI_SI_o (Ne.symm z3), show kI (kSP w (Lp w s 2) K.length (some a)) s 7 = iI K.length from h7, iL_1, iI_add, kpI_e (show kKd (kSI (kSP w (Lp w s 2) K.length (some a)) (Lp w s 3) K.length (iI num)) s = 5 from hk), Option.bind_some, eW]
  · rw [Lp_eq hps, Lp_eq hps, wP2, w3]
    by_cases e : k = K.length
    · rw [e, List.getElem?_append_right (Nat.le_refl _)] at hk'
      simp at hk'
      obtain ⟨e1, e2⟩ := hk'
      rw [if_pos e, if_pos e, ← e1, ← e2]
      exact ⟨a, rfl, hG.fr SQ.fr (nS a hGa), rfl⟩
    · have hlt : k < K.length := by
        have := (List.getElem?_eq_some_iff.mp hk').1
        rw [List.length_append, List.length_singleton] at this
        omega
      rw [List.getElem?_append_left hlt] at hk'
      obtain ⟨b, y1, y2, y3⟩ := hK.2 k nm G' hk'
      rw [if_neg e, if_neg e]
      exact ⟨b, y1, y2.fr SQ.fr (nS b y2.2.2.2), y3⟩
/-- the known lines of a table, with their numbers -/
def tLd (T : TbS) (k : Nat) : Fo := (tL T).getD k (.var 0)
def tKL (T : TbS) : List (Nat × Fo) := (tK T).map fun k => (k, tLd T k)
theorem tKL_len (T : TbS) : (tKL T).length = (tK T).length := List.length_map _
theorem learnAll_loop {ow : Nat → Nat × Nat} {x tb s p d : Nat} {nd : Nat → Nat} {T : TbS} (hts : tb ≠ s) (kont : kW → Option kW) : ∀ (m fu i : Nat) (w : kW), m < fu → i + m = (tK T).length → SsS ow x w s p d nd → SsK ow x w s ((tKL T).take i) → kI w s 7 = iI i → Tb ow x w tb T →
    ∃ w', fX5_learnAll_L7 s (some tb) fu (fun _ q => kont q) (iI i) w = kont w' ∧ SsS ow x w' s p d nd ∧ SsK ow x w' s (tKL T) ∧ kI w' s 7 = iI (tKL T).length ∧ Sq ow (fun z => z = s) w w' ∧ ∀ j, j ≠ 7 → kI w' s j = kI w s j := by
  intro m
  induction m with
  | zero =>
    intro fu i w hf hi h hK h7 hT
    obtain ⟨fu, rfl⟩ : ∃ z, fu = z + 1 := ⟨fu - 1, by omega⟩
    have hkl := hT.1.kl
    have hL := hT.1.1
    refine ⟨w, ?_, h, ?_, ?_, Sq.rf w, fun _ _ => rfl⟩
    · rw [fX5_learnAll_L7, kgI_e hT.2.1.1, Option.bind_some, hT.2.2.1.2.1, if_pos (by rw [iI_le (by omega) (by omega) (by omega) (by omega)]; omega)]
    · rw [List.take_of_length_le (by rw [tKL_len]; omega)] at hK
      exact hK
    · rw [h7, tKL_len, show i = (tK T).length by omega]
  | succ m ih =>
    intro fu i w hf hi h hK h7 hT
    obtain ⟨fu, rfl⟩ : ∃ z, fu = z + 1 := ⟨fu - 1, by omega⟩
    have hkl := hT.1.kl
    have hL := hT.1.1
    have hlt : i < (tK T).length := by omega
    have hkn := ((hT.1.2.2.2.1 (tK T)[i]).mp (List.getElem_mem hlt)).1
    obtain ⟨a, e1, hLi⟩ := lineAt_in hT (List.getElem?_eq_getElem hkn)
    have htk : ((tKL T).take i).length = i := by rw [List.length_take, tKL_len]; omega
    obtain ⟨w1, e2, h1, hK1, h71, S1, fld1⟩ := learn_ok h hK (by rw [h7, htk]) (by rw [htk]; omega) hLi (tK T)[i]
    have eT : (tKL T).take i ++ [((tK T)[i], (tL T)[(tK T)[i]])] = (tKL T).take (i + 1) := by
      have hlt2 : i < (tKL T).length := by rw [tKL_len]; exact hlt
      have e9 : (tKL T)[i]'hlt2 = ((tK T)[i], tLd T (tK T)[i]) := List.getElem_map _
      have e8 : tLd T (tK T)[i] = (tL T)[(tK T)[i]] := by
        unfold tLd
        rw [List.getD_eq_getElem?_getD, List.getElem?_eq_getElem hkn]
        rfl
      rw [List.take_succ_eq_append_getElem hlt2, e9, e8]
    rw [eT] at hK1 h71
    have htk1 : ((tKL T).take (i + 1)).length = i + 1 := by rw [List.length_take, tKL_len]; omega
    rw [htk1] at h71
    obtain ⟨w2, e3, g1, g2, g3, S2, fld2⟩ := ih fu (i + 1) w1 (by omega) (by omega) h1 hK1 h71 (hT.fr S1.fr hts (fun a ha => by have := h.2.2.2.2.2; omega))
    refine ⟨w2, ?_, g1, g2, g3, S1.tr S2, fun j hj => (fld2 j hj).trans (fld1 j hj)⟩
    rw [fX5_learnAll_L7, kgI_e hT.2.1.1, Option.bind_some, hT.2.2.1.2.1, if_neg (by rw [iI_le (by omega) (by omega) (by omega) (by omega)]; omega), kRc_e hT.2.1.1, Option.bind_some, knownAt_in hT (List.getElem?_eq_getElem hlt), Option.bind_some, Option.bind_some, e1, Option.bind_some, kRc_e h.1.1, Option.bind_some, e2, Option.bind_some, iL_1, iI_add]
    exact e3
theorem learnAll_ok {ow : Nat → Nat × Nat} {x tb s p d : Nat} {nd : Nat → Nat} {T : TbS} {w : kW} (hts : tb ≠ s) (h : SsS ow x w s p d nd) (hT : Tb ow x w tb T) :
    ∃ w', fX5_learnAll s (some tb) w = some w' ∧ SsS ow x w' s p d nd ∧ SsK ow x w' s (tKL T) ∧ kI w' s 7 = iI (tKL T).length ∧ Sq ow (fun z => z = s) w w' ∧ Tb ow x w' tb T := by
  have ho := h.1.2.1
  have S0 : Sq ow (fun z => z = s) w (kSI w s 7 0) := Sq.si (by rw [ho])
  have nS : ∀ a, x + 237 ≤ a → ¬ a = s := fun a ha => by have := h.2.2.2.2.2; omega
  have hT0 := hT.fr S0.fr hts nS
  obtain ⟨w', e, g1, g2, g3, S, -⟩ := learnAll_loop hts (fun q => some q) (tK T).length kFU 0 (kSI w s 7 0) (by have := hT.1.kl; have := hT.1.1; unfold kFU; omega) (by omega) (h.own S0 rfl rfl) ⟨by simp, fun k num G hk => by simp at hk⟩ kI_SI_s hT0
  refine ⟨w', ?_, g1, g2, g3, S0.tr S, hT0.fr S.fr hts nS⟩
  rw [fX5_learnAll, kpI_e h.1.1, Option.bind_some]
  exact e
/-- a search that may begin -/
def Sr (ow : Nat → Nat × Nat) (x : Nat) (w : kW) (s p d : Nat) (nd : Nat → Nat) (K : List (Nat × Fo)) (odds : Int) (z : Int32) : Prop := SsS ow x w s p d nd ∧ SsK ow x w s K ∧ kI w s 7 = iI K.length ∧ kI w s 15 = z ∧ kI w s 16 = iI odds ∧ 0 ≤ odds ∧ odds ≤ 100
theorem Ss.r {ow : Nat → Nat × Nat} {x : Nat} {w : kW} {s p d : Nat} {nd : Nat → Nat} {K : List (Nat × Fo)} {lk : Bool} {st : Nat} {odds : Int} {q : QS} (h : Ss ow x w s p d nd K lk st odds q) : Sr ow x w s p d nd K odds (qZ q) := by
  obtain ⟨h1, h2, h3, ⟨⟨f6, f7, f8, f9, f10, f11⟩, -, f15, f16, -⟩, b1, b2, b3, b4⟩ := h
  exact ⟨h1, h2, f7, f15, f16, b3, b4⟩
theorem setSlips_ok {ow : Nat → Nat × Nat} {x : Nat} {w : kW} {s p d : Nat} {nd : Nat → Nat} {K : List (Nat × Fo)} (h : SsS ow x w s p d nd) (hK : SsK ow x w s K) (h7 : kI w s 7 = iI K.length) (z : Int32) {odds : Int} (h0 : 0 ≤ odds) (h1 : odds ≤ 100) :
    ∃ w', fX5_setSlips s z (iI odds) w = some w' ∧ Sr ow x w' s p d nd K odds z ∧ Sq ow (fun z => z = s) w w' := by
  obtain ⟨⟨g1, g2, g3⟩, m1⟩ := Ss.fld (q := qMk [] 0 false none 0 0 0) (q' := qMk [] 0 false none 0 0 0) (j := 15) (v := z) ⟨h, hK, by show 0 ≤ 24; omega, fun j d F hN => by cases hN⟩ rfl
  obtain ⟨⟨g4, g5, g6⟩, m2⟩ := Ss.fld (q' := qMk [] 0 false none 0 0 0) (j := 16) (v := iI odds) ⟨g1, g2, g3⟩ rfl
  have ho := h.1.2.1
  refine ⟨kSI (kSI w s 15 z) s 16 (iI odds), ?_, ⟨g4, g5, ?_, ?_, kI_SI_s, h0, h1⟩, (Sq.si (by rw [ho])).tr (Sq.si (by rw [ho]))⟩
  · rw [fX5_setSlips, kpI_e h.1.1, Option.bind_some, kpI_e (show kKd (kSI w s 15 z) s = 5 from h.1.1), Option.bind_some]
  · rw [kI_SI_j (by omega), kI_SI_j (by omega)]; exact h7
  · rw [kI_SI_j (by omega), kI_SI_s]
theorem begin_ok {ow : Nat → Nat × Nat} {x : Nat} {w : kW} {s p d : Nat} {nd : Nat → Nat} {K : List (Nat × Fo)} {odds : Int} {z : Int32} (h : Sr ow x w s p d nd K odds z) {pr cap a : Nat} {P : PS} {F : Fo} (hpr : ¬ Vs x pr) (hP : Pq ow w pr cap P) (hst : psS P ≤ 1000000) (hF : Li ow x w a F) :
    ∃ w', fX5_begin s (some pr) (some a) w = some w' ∧ Ss ow x w' s p d nd K (psL P) (psS P) odds (qQ0 F z) ∧ Sq ow (Vs x) w w' := by
  obtain ⟨h1, h2, h7, h15, h16, b3, b4⟩ := id h
  obtain ⟨⟨hk, ho, r0, r1, r2, r3⟩, ⟨p4, hpg⟩, ⟨p5, hdS, bd1, bd2⟩, hnd, hinj, bs1, bs2, bp1, bp2⟩ := id h1
  have hkp := hP.1.1
  obtain ⟨-, l2, l3, l4⟩ := id hP.2.2.1
  have np : pr ≠ s := fun e => hpr (by rw [e]; exact ⟨bs1, bs2⟩)
  obtain ⟨⟨g1, g2, g3⟩, m1⟩ := Ss.fld (q := qMk [] 0 false none 0 0 0) (q' := qMk [] 0 false none 0 0 0) (j := 8) (v := iB (psL P)) ⟨h1, h2, by show 0 ≤ 24; omega, fun j d F hN => by cases hN⟩ rfl
  obtain ⟨⟨g4, g5, g6⟩, m2⟩ := Ss.fld (q' := qMk [] 0 false none 0 0 0) (j := 9) (v := iI (psS P)) ⟨g1, g2, g3⟩ rfl
  obtain ⟨⟨g7, g8, g9⟩, m3⟩ := Ss.fld (q' := qMk [] 0 false none 0 0 0) (j := 10) (v := 0) ⟨g4, g5, g6⟩ rfl
  obtain ⟨⟨g10, g11, g12⟩, m4⟩ := Ss.fld (q' := qMk [] 0 false none 0 0 0) (j := 11) (v := 0) ⟨g7, g8, g9⟩ rfl
  obtain ⟨⟨g13, g14, g15⟩, m5⟩ := Ss.fld (q' := qMk [] 0 false none 0 0 0) (j := 12) (v := 0) ⟨g10, g11, g12⟩ rfl
  obtain ⟨⟨g16, g17, g18⟩, m6⟩ := Ss.fld (q' := qMk [] 0 false none 0 0 0) (j := 17) (v := 0) ⟨g13, g14, g15⟩ rfl
  obtain ⟨⟨g19, g20, g21⟩, m7⟩ := Ss.fld (q' := qMk [] 0 false none 0 0 0) (j := 18) (v := 0) ⟨g16, g17, g18⟩ rfl
  have M := ((((((m1.tr m2).tr m3).tr m4).tr m5).tr m6).tr m7)
  obtain ⟨w1, ew1⟩ : ∃ w1, w1 = kSI (kSI (kSI (kSI (kSI (kSI (kSI w s 8 (iB (psL P))) s 9 (iI (psS P))) s 10 0) s 11 0) s 12 0) s 17 0) s 18 0 := ⟨_, rfl⟩
  have f1 : ∀ j, kI w1 s j = if j = 18 then 0 else if j = 17 then 0 else if j = 12 then 0 else if j = 11 then 0 else if j = 10 then 0 else if j = 9 then iI (psS P) else if j = 8 then iB (psL P) else kI w s j := fun j => by
    rw [ew1]
    by_cases e18 : j = 18
    · rw [if_pos e18, e18, kI_SI_s]
    rw [if_neg e18, kI_SI_j e18]
    by_cases e17 : j = 17
    · rw [if_pos e17, e17, kI_SI_s]
    rw [if_neg e17, kI_SI_j e17]
    by_cases e12 : j = 12
    · rw [if_pos e12, e12, kI_SI_s]
    rw [if_neg e12, kI_SI_j e12]
    by_cases e11 : j = 11
    · rw [if_pos e11, e11, kI_SI_s]
    rw [if_neg e11, kI_SI_j e11]
    by_cases e10 : j = 10
    · rw [if_pos e10, e10, kI_SI_s]
    rw [if_neg e10, kI_SI_j e10]
    by_cases e9 : j = 9
    · rw [if_pos e9, e9, kI_SI_s]
    rw [if_neg e9, kI_SI_j e9]
    by_cases e8 : j = 8
    · rw [if_pos e8, e8, kI_SI_s]
    rw [if_neg e8, kI_SI_j e8]
  rw [← ew1] at g19 g20 M
  have hk1 : kKd w1 s = 5 := g19.1.1
  obtain ⟨⟨-, -, q0, q1, q2, q3⟩, -, -, hnd1, -⟩ := id g19
  obtain ⟨pn0, hS0, bn1, bn2, bnd⟩ := hnd1 0 (by omega)
  rw [if_pos rfl] at hS0
  have hFa := hF.2.2.2
  have hF1 := hF.sm M (by omega)
  have hok := hF.1.1
  have e60 := fSz_le60 hok hF.2.2.1
  have e0 : (0 : Int32) = iI (([] : List Nat).length : Int) := by decide +kernel
  have e0n : (0 : Int32) = iI ((0 : Nat) : Int) := by decide +kernel
  obtain ⟨w2, e2, c1, c2, s2⟩ := become_ok (b := F) (X := []) (Y := []) (by omega : nd 0 ≠ a) hS0 hF1.1.2.1 hF1.1.2.2 hF1.1.lt (by simp) hok e60
  have nns : s ≠ nd 0 := fun e => by have := hS0.1; rw [← e, hk1] at this; omega
  have I2 : kI w2 s = kI w1 s := s2.2.2.2.2.2 s (by rw [ho]; exact nns)
  have t1 := g19.sm s2
  have t2 := g20.fr g19 s2.fr nns (fun a ha => by omega)
  obtain ⟨⟨hk2, -, y0, y1, y2, y3⟩, -⟩ := id t1
  have s3 : Sm ow (fun z => z = s) w2 (kSI w2 (Lp w2 s 1) 0 0) := Sm.si (by rw [y1.2.2.2])
  have t3 := t1.sm s3
  have t4 : SsK ow x (kSI w2 (Lp w2 s 1) 0 0) s K := by
    refine ⟨t2.1, fun k num G hK => ?_⟩
    obtain ⟨b, z1, z2, z3⟩ := t2.2 k num G hK
    have := z2.2.2.2
    exact ⟨b, z1, z2.sm s3 (by omega), by rw [s3.lp, kI_SI_o (row_ne y3 y1 (by omega))]; exact z3⟩
  have LfN : Lf ow (kSI w2 (Lp w2 s 1) 0 0) (nd 0) 60 F := Lf.sm ⟨hok, c1, c2⟩ s3 (Ne.symm nns)
  obtain ⟨⟨u1, u2, -⟩, m8⟩ := Ss.fld (q := qMk [] 0 false none 0 0 0) (q' := qMk [] 0 false none 0 0 0) (j := 6) (v := 1) ⟨t3, t4, by show 0 ≤ 24; omega, fun j d F hN => by cases hN⟩ rfl
  have s4 : Sm ow (fun z => z = s) (kSI w2 (Lp w2 s 1) 0 0) (kSI (kSI w2 (Lp w2 s 1) 0 0) s 6 1) := Sm.si (by rw [ho])
  have z1 := row_no y1 ho
  have fl : ∀ j, j ≠ 6 → kI (kSI (kSI w2 (Lp w2 s 1) 0 0) s 6 1) s j = kI w1 s j := fun j hj => by
    rw [kI_SI_j hj, kI_SI_o (Ne.symm z1), I2]
  refine ⟨kSI (kSI w2 (Lp w2 s 1) 0 0) s 6 1, ?_, ⟨u1, u2, ⟨by show 1 ≤ 24; omega, fun j dj Fj hj => ?_⟩, ⟨⟨?_, ?_, ?_, ?_, ?_, ?_⟩, ⟨?_, fun d9 bb hh => by cases hh⟩, ?_, ?_, ?_, ?_⟩, hst, Nat.zero_le _, b3, b4⟩, ((M.q.tr (s2.q.wide (fun z hz => by rw [hz]; exact ⟨bn1, bn2⟩))).tr (s3.q.wide (fun z hz => by rw [hz]; exact ⟨bs1, bs2⟩))).tr m8.q⟩
  · have kk : ∀ w9 : kW, kKd w9 = kKd w → kKd w9 s = 5 := fun w9 e => by rw [e]; exact hk
    rw [fX5_begin, kgI_e hkp, Option.bind_some, l2, kBl_B, Option.bind_some, kpI_e hk, Option.bind_some, kgI_e (show kKd (kSI w s 8 (iB (psL P))) pr = 3 from hkp), Option.bind_some, kI_SI_o np, l4, kpI_e (show kKd (kSI w s 8 (iB (psL P))) s = 5 from hk), Option.bind_some, kpI_e (show kKd (kSI (kSI w s 8 (iB (psL P))) s 9 (iI (psS P))) s = 5 from hk), Option.bind_some, kpI_e (show kKd (kSI (kSI (kSI w s 8 (iB (psL P))) s 9 (iI (psS P))) s 10 0) s = 5 from hk), Option.bind_some, kpI_e (show kKd (kSI (kSI (kSI (kSI w s 8 (iB (psL P))) s 9 (iI (psS P))) s 10 0) s 11 0) s = 5 from hk), Option.bind_some, kpI_e (show kKd (kSI (kSI (kSI (kSI (kSI w s 8 (iB (psL P))) s 9 (iI (psS P))) s 10 0) s 11 0) s 12 0) s = 5 from hk), Option.bind_some, kpI_e (show kKd (kSI (kSI (kSI (kSI (kSI (kSI w s 8 (iB (psL P))) s 9 (iI (psS P))) s 10 0) s 11 0) s 12 0) s 17 0) s = 5 from hk), Option.bind_some, ← ew1, kgP_e hk1, Option.bind_some, q0.1, e0n, kaP_e q0.2.1 (by omega) (by rw [q0.2.2.1]; omega) (by rw [q0.2.2.1]; omega), Option.bind_some, Int.toNat_natCast, pn0, kRc_e hS0.1, Option.bind_some]
    rw [show iI ((0 : Nat) : Int) = iI (([] : List Nat).length : Int) from rfl, e2, Option.bind_some, kgP_e hk2, Option.bind_some, y1.1, show iI (([] : List Nat).length : Int) = iI ((0 : Nat) : Int) from rfl, ksI_e y1.2.1 (by omega) (by rw [y1.2.2.1]; omega) (by rw [y1.2.2.1]; omega), Option.bind_some, Int.toNat_natCast, if_neg (by decide), ← e0n, kpI_e (show kKd (kSI w2 (Lp w2 s 1) 0 0) s = 5 from hk2), Option.bind_some]
  · have hj' : [(F, 0)][j]? = some (Fj, dj) := hj
    have j0 : j = 0 := by
      have := (List.getElem?_eq_some_iff.mp hj').1
      rw [List.length_singleton] at this
      omega
    subst j0
    have hj2 : (F, 0) = (Fj, dj) := by simpa using hj'
    obtain ⟨ea, eb⟩ := Prod.mk.inj hj2
    rw [if_pos rfl, ← ea, ← eb]
    exact ⟨LfN.sm s4 (Ne.symm nns), by rw [s4.lp, s3.lp, kI_SI_o z1, kI_SI_s]; rfl⟩
  · rw [kI_SI_s]; rfl
  · rw [fl 7 (by omega), f1]; exact h7
  · rw [fl 8 (by omega), f1]; rfl
  · rw [fl 9 (by omega), f1]; rfl
  · rw [fl 10 (by omega), f1]; rfl
  · rw [fl 11 (by omega), f1]; rfl
  · rw [fl 12 (by omega), f1]; rfl
  · rw [fl 15 (by omega), f1]; exact h15
  · rw [fl 16 (by omega), f1]; exact h16
  · rw [fl 17 (by omega), f1]; rfl
  · rw [fl 18 (by omega), f1]; rfl
theorem look_ok {ow : Nat → Nat × Nat} {x : Nat} {w : kW} {s p d : Nat} {nd : Nat → Nat} {K : List (Nat × Fo)} {odds : Int} {z : Int32} (h : Sr ow x w s p d nd K odds z) {pr cap a : Nat} {P : PS} {F : Fo} (hpr : ¬ Vs x pr) (hP : Pq ow w pr cap P) (hst : psS P ≤ 1000000) (hla : psN P ≤ 1000000) (hac : ∀ c ∈ psA P, c < 128) (hF : Li ow x w a F) {deepest : Nat} (hde : deepest ≤ 1000000) :
    ∃ w' d' nd', fX5_look s (some pr) (some a) (iI deepest) w = some w' ∧ Ss ow x w' s p d' nd' K (psL P) (psS P) odds (qRun P K odds z deepest F) ∧ Sq ow (Vs x) w w' := by
  obtain ⟨w1, e1, h1, S1⟩ := begin_ok h hpr hP hst hF
  have hP1 := hP.fr S1.fr hpr
  have k40 := h1.2.1.1
  obtain ⟨w2, d2, nd2, e2, h2, S2⟩ := look_n (first := K.length - psN P) (some a) hde hpr hac (by omega) (fun q => some q) 24 kFU 0 w1 d nd (qQ0 F z) (by unfold kFU; omega) (by omega) h1 hP1 (fun j G e he => by
    have he' : [(F, 0)][j]? = some (G, e) := he
    have j0 : j = 0 := by
      have := (List.getElem?_eq_some_iff.mp he').1
      rw [List.length_singleton] at this
      omega
    subst j0
    have : (F, 0) = (G, e) := by simpa using he'
    have := (Prod.mk.inj this).2
    omega)
  refine ⟨w2, d2, nd2, ?_, h2, S1.tr S2⟩
  have f7 := h1.2.2.2.1.1.2.1
  have em : kMmax (iI K.length - iI (psN P)) (0 : Int32) = iI ((K.length - psN P : Nat) : Int) := by
    rw [iI_sub, iL_0, kMmax_i (by omega) (by omega) (by omega) (by omega)]
    congr 1
    omega
  have e0n : (0 : Int32) = iI ((0 : Nat) : Int) := by decide +kernel
  rw [fX5_look, if_neg (by simp), if_neg (by simp), kRc_e h.1.1.1, Option.bind_some, e1, Option.bind_some, kgI_e h1.1.1.1, Option.bind_some, f7, kgI_e hP1.1.1, Option.bind_some, hP1.2.2.1.2.2.1, em, e0n]
  exact e2
theorem needAt_ok {ow : Nat → Nat × Nat} {x : Nat} {w : kW} {s p d : Nat} {nd : Nat → Nat} {K : List (Nat × Fo)} {lk : Bool} {st : Nat} {odds : Int} {q : QS} (h : Ss ow x w s p d nd K lk st odds q) {i : Int} (h0 : -2147483648 ≤ i) (h1 : i < 2147483648) :
    (∀ F dd, 0 ≤ i → (qN q)[i.toNat]? = some (F, dd) → fX5_needAt s (iI i) w = some (some (nd i.toNat)) ∧ Lf ow w (nd i.toNat) (if i.toNat = 0 then 60 else 20) F) ∧ ((i < 0 ∨ (qN q)[i.toNat]? = none) → fX5_needAt s (iI i) w = some none) := by
  have hl24 := h.2.2.1.1
  have hks := h.1.1.1
  have f6 := h.2.2.2.1.1.1
  obtain ⟨⟨-, -, r0, r1, r2, r3⟩, -⟩ := id h.1
  refine ⟨fun F dd hi hn => ?_, fun hi => ?_⟩
  · obtain ⟨pn, hF, -, n24, -⟩ := h.need hn
    have hlt := (List.getElem?_eq_some_iff.mp hn).1
    refine ⟨?_, hF⟩
    rw [fX5_needAt, if_neg (by rw [iL_0, iI_lt (by omega) (by omega) (by omega) (by omega)]; omega), kgI_e hks, Option.bind_some, f6, if_neg (by rw [iI_le (by omega) (by omega) (by omega) (by omega)]; omega), if_neg (by rw [iL_24, iI_le (by omega) (by omega) (by omega) (by omega)]; omega), kgP_e hks, Option.bind_some, r0.1, kaP_e r0.2.1 (by omega) (by rw [r0.2.2.1]; omega) (by rw [r0.2.2.1]; omega), Option.bind_some, pn]
  · rw [fX5_needAt]
    by_cases c : i < 0
    · rw [if_pos (by rw [iL_0, iI_lt (by omega) (by omega) (by omega) (by omega)]; exact c)]
    · have hnone : (qN q)[i.toNat]? = none := hi.resolve_left c
      have hle := List.getElem?_eq_none_iff.mp hnone
      rw [if_neg (by rw [iL_0, iI_lt (by omega) (by omega) (by omega) (by omega)]; exact c), kgI_e hks, Option.bind_some, f6, if_pos (by rw [iI_le (by omega) (by omega) (by omega) (by omega)]; omega)]
