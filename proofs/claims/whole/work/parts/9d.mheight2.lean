/-! .. the code's passes -/
def StA (n i : Nat) : Prop := (n = 0 ∧ 2400 ≤ i) ∨ n = 10 ∨ n = 11
theorem mst_0 {w : rW} {l a : Nat} {f A : Fo} (hl : Ml w l f) (ha : Ml w a A) (b : Int32) : ∃ w', fX12_isStep (iI l) (0 : Int32) (iI a) b w = some (iB (fMt A f σ0).isSome, w') ∧ Rq StA NoF w w' := by
  obtain ⟨w', e, r, -⟩ := comes_ok ha.2.1 hl.2.1
  refine ⟨w', ?_, r.wide (fun n i z => Or.inr z) (fun _ z => z)⟩
  rw [fX12_isStep, if_pos rfl, textOf_ok, Option.bind_some, textOf_ok, Option.bind_some, e, kb2_s, kBl_B, Option.bind_some]
theorem mst_3 {w : rW} {l a : Nat} {f A : Fo} (hl : Ml w l f) (ha : Ml w a A) (b : Int32) : ∃ w', fX12_isStep (iI l) (3 : Int32) (iI a) b w = some (iB (fMean f A), w') ∧ Rq StA NoF w w' := by
  obtain ⟨w', e, r⟩ := mByChange hl ha
  refine ⟨w', ?_, r.wide (fun n i z => Or.inl ⟨z.1, by have := z.2; omega⟩) (fun _ z => z)⟩
  rw [fX12_isStep, if_neg (by decide +kernel), if_neg (by decide +kernel), if_neg (by decide +kernel), e, kb2_s, kBl_B, Option.bind_some]
theorem mst_1 {w : rW} {l a b : Nat} {f A B : Fo} (hl : Ml w l f) (ha : Ml w a A) (hb : Ml w b B) : fX12_isStep (iI l) (1 : Int32) (iI a) (iI b) w = some (iB (fThen f A B), w) := by
  rw [fX12_isStep, if_neg (by decide +kernel), if_pos rfl, mByIf hl ha hb, Option.bind_some, kBl_B, Option.bind_some]
theorem mst_2 {w : rW} {l a b : Nat} {f A B : Fo} (hl : Ml w l f) (ha : Ml w a A) (hb : Ml w b B) : fX12_isStep (iI l) (2 : Int32) (iI a) (iI b) w = some (iB (fChain f A B), w) := by
  rw [fX12_isStep, if_neg (by decide +kernel), if_neg (by decide +kernel), if_pos rfl, mByTwo hl ha hb, Option.bind_some, kBl_B, Option.bind_some]
theorem MI.mn {w : rW} {S : AS} (h : MI w S) {i : Nat} (hi : i < tN (sT S)) : Ml w i (tLd (sT S) i) := by
  have e := tLd_get (T := sT S) (show i < (tL (sT S)).length from hi)
  have hL : tLn (sT S) (i : Int) = some (tLd (sT S) i) := by
    unfold tLn
    rw [if_neg (by omega), Int.toNat_natCast]
    exact e
  have := (h.ml hL).1
  rw [Int.toNat_natCast] at this
  exact this
/-- the heights lie there -/
def Hh (w : rW) (S : AS) (H : Nat → Int) : Prop := MI w S ∧ (∀ i, i < tN (sT S) → rA w 16 i = iI (H i)) ∧ tN (sT S) ≤ 40
theorem Hh.rq {w w' : rW} {S : AS} {H : Nat → Int} (h : Hh w S H) (r : Rq StA NoF w w') : Hh w' S H :=
  ⟨h.1.rq (r.wide (fun n i z => by rcases z with z | z | z; exact Or.inl z; exact Or.inr (by omega); exact Or.inr (by omega)) (fun _ z => z.elim)), fun i hi => by rw [r.1 16 i (fun z => by rcases z with z | z | z <;> omega)]; exact h.2.1 i hi, h.2.2⟩
theorem Hh.get {w : rW} {S : AS} {H : Nat → Int} (h : Hh w S H) {i : Nat} (hi : i < tN (sT S)) : raI w 16 40 (iI i) = some (iI (H i)) := by
  have := h.2.2
  rw [raN (by omega) (by omega), h.2.1 i hi]
theorem Hh.many {w : rW} {S : AS} {H : Nat → Int} (h : Hh w S H) : raI w 2 1000 (0 : Int32) = some (iI (tN (sT S))) := by
  obtain ⟨⟨hW, ⟨n0, -⟩, -⟩, -⟩ := h.1
  rw [show (0 : Int32) = iI ((0 : Nat) : Int) from rfl, raN (by omega) (by omega), n0]
  rfl
def hB (H : Nat → Int) : Prop := ∀ i, -4 ≤ H i ∧ H i ≤ 100000
theorem up1_no {v c : Int} {t : Bool} (h1 : ¬ v < 0) (h2 : v ≤ c) : up1 v c t = v := if_neg (fun z => by rcases z.1 with z | z <;> omega)
theorem up1_t {v c : Int} (h : v < 0 ∨ c < v) : up1 v c true = c := if_pos ⟨h, rfl⟩
theorem up1_f {v c : Int} : up1 v c false = v := if_neg (fun z => Bool.false_ne_true z.2)
theorem h134 {w : rW} {S : AS} {H : Nat → Int} (h : Hh w S H) {i a b : Nat} (hi : i < tN (sT S)) (ha : a < tN (sT S)) (hb : b < tN (sT S)) {v c : Int} (hv : -4 ≤ v ∧ v ≤ 200000) (hc : 0 ≤ c ∧ c ≤ 100000) (bb kk : Int32 → Int32 → rW → Option (Int32 × rW)) :
    fX12_heightBy_J77_134 bb kk (iI i) (iI v) (iI a) (iI b) (1 : Int32) (iI c) w = bb (iI (up1 v (1 + c) (stp2 (tLd (sT S) i) (tLd (sT S) a) (tLd (sT S) b)))) (iI (b + 1 : Nat)) w := by
  have e1 : iI (b : Int) + (1 : Int32) = iI (b + 1 : Nat) := by rw [iL_1, iI_add]; rfl
  have es : (1 : Int32) + iI c = iI (1 + c) := by rw [iL_1, iI_add]
  have li := h.1.mn hi
  have la := h.1.mn ha
  have lb := h.1.mn hb
  have tail : (v < 0 ∨ 1 + c < v) → fX12_heightBy_J77_147 bb kk (iI i) (iI v) (iI a) (iI b) (iI (1 + c)) w = bb (iI (up1 v (1 + c) (stp2 (tLd (sT S) i) (tLd (sT S) a) (tLd (sT S) b)))) (iI (b + 1 : Nat)) w := by
    intro hq
    rw [fX12_heightBy_J77_147, mst_1 li la lb, kb2_s, e1]
    have es2 : stp2 (tLd (sT S) i) (tLd (sT S) a) (tLd (sT S) b) = (fThen (tLd (sT S) i) (tLd (sT S) a) (tLd (sT S) b) || fChain (tLd (sT S) i) (tLd (sT S) a) (tLd (sT S) b)) := rfl
    rw [es2]
    cases fThen (tLd (sT S) i) (tLd (sT S) a) (tLd (sT S) b) with
    | true => rw [if_neg iB_tn, Bool.true_or, up1_t hq]
    | false =>
      rw [if_pos iB_fz, mst_2 li la lb, kb2_s, Bool.false_or]
      cases fChain (tLd (sT S) i) (tLd (sT S) a) (tLd (sT S) b) with
      | true => rw [if_neg iB_tn, up1_t hq]
      | false => rw [if_pos iB_fz, up1_f]
  rw [fX12_heightBy_J77_134, es]
  by_cases c1 : v < 0
  · rw [if_pos (by rw [iL_0, iI_lt (by omega) (by omega) (by omega) (by omega)]; exact c1)]
    exact tail (Or.inl c1)
  rw [if_neg (by rw [iL_0, iI_lt (by omega) (by omega) (by omega) (by omega)]; exact c1)]
  by_cases c2 : v ≤ 1 + c
  · rw [if_pos (by rw [iI_le (by omega) (by omega) (by omega) (by omega)]; exact c2), e1, up1_no c1 c2]
  · rw [if_neg (by rw [iI_le (by omega) (by omega) (by omega) (by omega)]; exact c2)]
    exact tail (Or.inr (by omega))
theorem h77 {S : AS} {H : Nat → Int} (hB' : hB H) {i a : Nat} (hi : i < tN (sT S)) (ha : a < tN (sT S)) (h0 : 0 ≤ H a) (K : Int32 → rW → Option (Int32 × rW)) {w : rW} (h : Hh w S H) : ∀ (m fu b : Nat) (v : Int), m < fu → b + m = tN (sT S) → -4 ≤ v ∧ v ≤ 100001 →
    fX12_heightBy_L77 (iI i) (iI a) fu (fun y _ q => K y q) (iI v) (iI b) w = K (iI (inB H (tLd (sT S)) (tLd (sT S) i) a m b v)) w := by
  have n40 := h.2.2
  intro m
  induction m with
  | zero =>
    intro fu b v hf hb hv
    obtain ⟨fu, rfl⟩ : ∃ z, fu = z + 1 := ⟨fu - 1, by omega⟩
    rw [fX12_heightBy_L77, h.many, Option.bind_some, if_pos (by rw [iI_le (by omega) (by omega) (by omega) (by omega)]; omega)]
    rfl
  | succ m ih =>
    intro fu b v hf hb hv
    obtain ⟨fu, rfl⟩ : ∃ z, fu = z + 1 := ⟨fu - 1, by omega⟩
    have hbn : b < tN (sT S) := by omega
    have e1 : iI (b : Int) + (1 : Int32) = iI (b + 1 : Nat) := by rw [iL_1, iI_add]; rfl
    have ba := hB' a
    have bb := hB' b
    rw [fX12_heightBy_L77, h.many, Option.bind_some, if_neg (by rw [iI_le (by omega) (by omega) (by omega) (by omega)]; omega), h.get hbn, Option.bind_some]
    show _ = K (iI (inB H (tLd (sT S)) (tLd (sT S) i) a m (b + 1) (if 0 ≤ H b then up1 v (1 + max (H a) (H b)) (stp2 (tLd (sT S) i) (tLd (sT S) a) (tLd (sT S) b)) else v))) w
    by_cases c : 0 ≤ H b
    · have fin : ∀ z : Int, z = max (H a) (H b) → fX12_heightBy_J77_134 (fun q2 q4 qw => fX12_heightBy_L77 (iI i) (iI a) fu (fun y _ q => K y q) q2 q4 qw) (fun y _ q => K y q) (iI i) (iI v) (iI a) (iI b) (1 : Int32) (iI z) w = K (iI (inB H (tLd (sT S)) (tLd (sT S) i) a m (b + 1) (up1 v (1 + max (H a) (H b)) (stp2 (tLd (sT S) i) (tLd (sT S) a) (tLd (sT S) b))))) w := by
        intro z hz
        rw [h134 h hi ha hbn (by omega) (by omega)]
        show fX12_heightBy_L77 (iI i) (iI a) fu (fun y _ q => K y q) (iI (up1 v (1 + z) _)) (iI (b + 1 : Nat)) w = _
        rw [ih fu (b + 1) _ (by omega) (by omega) (by have := up1_bd (v := v) (c := 1 + z) (M := 100000) (t := stp2 (tLd (sT S) i) (tLd (sT S) a) (tLd (sT S) b)) (by omega) (by omega); exact this), hz]
      rw [if_pos (by rw [iL_0, iI_le (by omega) (by omega) (by omega) (by omega)]; exact c), if_pos c, h.get ha, Option.bind_some, Option.bind_some]
      by_cases c2 : H a ≤ H b
      · rw [if_pos (by rw [iI_le (by omega) (by omega) (by omega) (by omega)]; exact c2), Option.bind_some]
        exact fin _ (by omega)
      · rw [if_neg (by rw [iI_le (by omega) (by omega) (by omega) (by omega)]; exact c2), Option.bind_some]
        exact fin _ (by omega)
    · rw [if_neg (by rw [iL_0, iI_le (by omega) (by omega) (by omega) (by omega)]; exact c), if_neg c, e1]
      exact ih fu (b + 1) v (by omega) (by omega) hv
theorem inB_bd {H : Nat → Int} {L : Nat → Fo} {f : Fo} {a : Nat} (hB' : hB H) : ∀ (m b : Nat) (v : Int), -4 ≤ v ∧ v ≤ 100001 → -4 ≤ inB H L f a m b v ∧ inB H L f a m b v ≤ 100001 := by
  intro m
  induction m with
  | zero => exact fun b v h => h
  | succ m ih =>
    intro b v h
    have ba := hB' a
    have bb := hB' b
    refine ih (b + 1) _ ?_
    by_cases c : 0 ≤ H b
    · rw [if_pos c]
      exact up1_bd (M := 100000) h (by omega)
    · rw [if_neg c]; exact h
theorem h5 {S : AS} {H : Nat → Int} (hB' : hB H) {i : Nat} (hi : i < tN (sT S)) (K : Int32 → rW → Option (Int32 × rW)) : ∀ (m fu a : Nat) (v : Int) (w : rW), m < fu → a + m = tN (sT S) → -4 ≤ v ∧ v ≤ 100001 → Hh w S H →
    ∃ w', fX12_heightBy_L5 (iI i) fu (fun y _ q => K y q) (iI v) (iI a) w = K (iI (hByL (tN (sT S)) H (tLd (sT S)) (tLd (sT S) i) m a v)) w' ∧ Hh w' S H := by
  intro m
  induction m with
  | zero =>
    intro fu a v w hf ha hv h
    have n40 := h.2.2
    obtain ⟨fu, rfl⟩ : ∃ z, fu = z + 1 := ⟨fu - 1, by omega⟩
    exact ⟨w, by rw [fX12_heightBy_L5, h.many, Option.bind_some, if_pos (by rw [iI_le (by omega) (by omega) (by omega) (by omega)]; omega)]; rfl, h⟩
  | succ m ih =>
    intro fu a v w hf ha hv h
    have n40 := h.2.2
    obtain ⟨fu, rfl⟩ : ∃ z, fu = z + 1 := ⟨fu - 1, by omega⟩
    have han : a < tN (sT S) := by omega
    have e1 : iI (a : Int) + (1 : Int32) = iI (a + 1 : Nat) := by rw [iL_1, iI_add]; rfl
    have ba := hB' a
    have li := h.1.mn hi
    have la := h.1.mn han
    rw [fX12_heightBy_L5, h.many, Option.bind_some, if_neg (by rw [iI_le (by omega) (by omega) (by omega) (by omega)]; omega), h.get han, Option.bind_some]
    show ∃ w', _ = K (iI (hByL (tN (sT S)) H (tLd (sT S)) (tLd (sT S) i) m (a + 1) (if 0 ≤ H a then inB H (tLd (sT S)) (tLd (sT S) i) a (tN (sT S)) 0 (up1 v (H a + 1) (stp1 (tLd (sT S) i) (tLd (sT S) a))) else v))) w' ∧ _
    by_cases c : 0 ≤ H a
    · have j74 : ∀ (u : Int) (w1 : rW), -4 ≤ u ∧ u ≤ 100001 → Hh w1 S H → ∃ w', fX12_heightBy_J5_74 (fun q2 q3 qw => fX12_heightBy_L5 (iI i) fu (fun y _ q => K y q) q2 q3 qw) (fun y _ q => K y q) (iI i) (iI u) (iI a) w1 = K (iI (hByL (tN (sT S)) H (tLd (sT S)) (tLd (sT S) i) m (a + 1) (inB H (tLd (sT S)) (tLd (sT S) i) a (tN (sT S)) 0 u))) w' ∧ Hh w' S H := by
        intro u w1 hu h1
        obtain ⟨w2, q2, h2⟩ := ih fu (a + 1) (inB H (tLd (sT S)) (tLd (sT S) i) a (tN (sT S)) 0 u) w1 (by omega) (by omega) (inB_bd hB' _ _ _ hu) h1
        refine ⟨w2, ?_, h2⟩
        rw [fX12_heightBy_J5_74]
        have := h77 hB' hi han c (fun y q => fX12_heightBy_L5 (iI i) fu (fun y _ q => K y q) y (iI a + (1 : Int32)) q) h1 (tN (sT S)) kFU 0 u (by unfold kFU; omega) (by omega) hu
        rw [e1] at this
        rw [e1]
        exact this.trans q2
      have j65 : ∀ (w1 : rW), Hh w1 S H → ∃ w', fX12_heightBy_J5_65 (fun q2 q3 qw => fX12_heightBy_L5 (iI i) fu (fun y _ q => K y q) q2 q3 qw) (fun y _ q => K y q) (iI i) (iI v) (iI a) w1 = K (iI (hByL (tN (sT S)) H (tLd (sT S)) (tLd (sT S) i) m (a + 1) (inB H (tLd (sT S)) (tLd (sT S) i) a (tN (sT S)) 0 (H a + 1)))) w' ∧ Hh w' S H := by
        intro w1 h1
        obtain ⟨w2, q2, h2⟩ := j74 (H a + 1) w1 (by omega) h1
        exact ⟨w2, by rw [fX12_heightBy_J5_65, h1.get han, Option.bind_some, iL_1, iI_add]; exact q2, h2⟩
      have z0 : (0 : Int32) = iI ((0 : Nat) : Int) := rfl
      have j43 : (v < 0 ∨ H a + 1 < v) → ∃ w', fX12_heightBy_J5_43 (fun q2 q3 qw => fX12_heightBy_L5 (iI i) fu (fun y _ q => K y q) q2 q3 qw) (fun y _ q => K y q) (iI i) (iI v) (iI a) w = K (iI (hByL (tN (sT S)) H (tLd (sT S)) (tLd (sT S) i) m (a + 1) (inB H (tLd (sT S)) (tLd (sT S) i) a (tN (sT S)) 0 (up1 v (H a + 1) (stp1 (tLd (sT S) i) (tLd (sT S) a)))))) w' ∧ Hh w' S H := by
        intro hq
        obtain ⟨w1, q1, r1⟩ := mst_0 li la (0 : Int32)
        have h1 := h.rq r1
        have es : stp1 (tLd (sT S) i) (tLd (sT S) a) = ((fMt (tLd (sT S) a) (tLd (sT S) i) σ0).isSome || fMean (tLd (sT S) i) (tLd (sT S) a)) := rfl
        rw [fX12_heightBy_J5_43, q1, kb2_s, es]
        cases (fMt (tLd (sT S) a) (tLd (sT S) i) σ0).isSome with
        | true =>
          rw [if_neg iB_tn, Bool.true_or, up1_t hq]
          exact j65 w1 h1
        | false =>
          obtain ⟨w2, q2, r2⟩ := mst_3 (h1.1.mn hi) (h1.1.mn han) (0 : Int32)
          have h2 := h1.rq r2
          rw [if_pos iB_fz, q2, kb2_s, Bool.false_or]
          cases fMean (tLd (sT S) i) (tLd (sT S) a) with
          | true =>
            rw [if_neg iB_tn, up1_t hq]
            exact j65 w2 h2
          | false =>
            rw [if_pos iB_fz, up1_f]
            exact j74 v w2 hv h2
      rw [if_pos (by rw [iL_0, iI_le (by omega) (by omega) (by omega) (by omega)]; exact c), if_pos c]
      by_cases c1 : v < 0
      · rw [if_pos (by rw [iL_0, iI_lt (by omega) (by omega) (by omega) (by omega)]; exact c1)]
        exact j43 (Or.inl c1)
      rw [if_neg (by rw [iL_0, iI_lt (by omega) (by omega) (by omega) (by omega)]; exact c1), Option.bind_some, iL_1, iI_add]
      by_cases c2 : v ≤ H a + 1
      · rw [if_pos (by rw [iI_le (by omega) (by omega) (by omega) (by omega)]; exact c2), up1_no c1 c2]
        exact j74 v w hv h
      · rw [if_neg (by rw [iI_le (by omega) (by omega) (by omega) (by omega)]; exact c2)]
        exact j43 (Or.inr (by omega))
    · rw [if_neg (by rw [iL_0, iI_le (by omega) (by omega) (by omega) (by omega)]; exact c), if_neg c, e1]
      exact ih fu (a + 1) v w (by omega) (by omega) hv h
theorem mHeightBy {S : AS} {H : Nat → Int} (hB' : hB H) {i : Nat} (hi : i < tN (sT S)) {w : rW} (h : Hh w S H) : ∃ w', fX12_heightBy (iI i) w = some (iI (hBy (tN (sT S)) H (tLd (sT S)) (tLd (sT S) i)), w') ∧ Hh w' S H := by
  have n40 := h.2.2
  obtain ⟨w', e, h'⟩ := h5 hB' hi (fun y q => some (y, q)) (tN (sT S)) kFU 0 (-4) w (by unfold kFU; omega) (by omega) (by omega) h
  refine ⟨w', ?_, h'⟩
  rw [fX12_heightBy, iN_4]
  exact e
theorem Hh.set {w : rW} {S : AS} {H : Nat → Int} (h : Hh w S H) {k : Nat} (v : Int) : Hh (rSA w 16 k (iI v)) S (fu H k v) := by
  refine ⟨h.1.rq (Rq.sa (Or.inr (by omega))), fun i hi => ?_, h.2.2⟩
  by_cases e : i = k
  · rw [e, fu_s, rA_SA_s]
  · rw [fu_o _ _ e, rA_SA_j e]; exact h.2.1 i hi
theorem h53 {S : AS} (K : Int32 → rW → Option rW) : ∀ (m fz k : Nat) (w : rW) (H : Nat → Int) (c : Bool) (M : Int), m < fz → k + m = tN (sT S) → Hh w S H → 0 ≤ M → M + m ≤ 100000 → (∀ i, -4 ≤ H i ∧ H i ≤ M) →
    ∃ w', fX12_findHeights_L53 fz (fun y _ q => K y q) (iB c) (iI k) w = K (iB (c || pcK (tN (sT S)) (tLd (sT S)) m k H)) w' ∧ Hh w' S (psK (tN (sT S)) (tLd (sT S)) m k H) := by
  intro m
  induction m with
  | zero =>
    intro fz k w H c M hf hk h h0 hM hb
    have n40 := h.2.2
    obtain ⟨fz, rfl⟩ : ∃ z, fz = z + 1 := ⟨fz - 1, by omega⟩
    refine ⟨w, ?_, h⟩
    rw [fX12_findHeights_L53, h.many, Option.bind_some, if_pos (by rw [iI_le (by omega) (by omega) (by omega) (by omega)]; omega)]
    show _ = K (iB (c || false)) w
    rw [Bool.or_false]
  | succ m ih =>
    intro fz k w H c M hf hk h h0 hM hb
    have n40 := h.2.2
    obtain ⟨fz, rfl⟩ : ∃ z, fz = z + 1 := ⟨fz - 1, by omega⟩
    have hkn : k < tN (sT S) := by omega
    have e1 : iI (k : Int) + (1 : Int32) = iI (k + 1 : Nat) := by rw [iL_1, iI_add]; rfl
    have bk := hb k
    rw [fX12_findHeights_L53, h.many, Option.bind_some, if_neg (by rw [iI_le (by omega) (by omega) (by omega) (by omega)]; omega), h.get hkn, Option.bind_some]
    show ∃ w', _ = K (iB (c || ((if H k = 0 then false else decide (hBy (tN (sT S)) H (tLd (sT S)) (tLd (sT S) k) ≠ H k)) || pcK (tN (sT S)) (tLd (sT S)) m (k + 1) (if H k = 0 then H else fu H k (hBy (tN (sT S)) H (tLd (sT S)) (tLd (sT S) k)))))) w' ∧ Hh w' S (psK (tN (sT S)) (tLd (sT S)) m (k + 1) (if H k = 0 then H else fu H k (hBy (tN (sT S)) H (tLd (sT S)) (tLd (sT S) k))))
    by_cases c0 : H k = 0
    · rw [if_pos (by rw [c0]; rfl), if_pos c0, if_pos c0, Bool.false_or, e1]
      exact ih fz (k + 1) w H c (M + 1) (by omega) (by omega) h (by omega) (by omega) (fun i => by have := hb i; omega)
    · have hv := hBy_bd (n := tN (sT S)) (L := tLd (sT S)) (f := tLd (sT S) k) h0 hb
      obtain ⟨w1, q1, h1⟩ := mHeightBy (fun i => by have := hb i; omega) hkn h
      rw [if_neg (by rw [iL_0, iI_eq (by omega) (by omega) (by omega) (by omega)]; exact c0), if_neg c0, if_neg c0, q1, kb2_s]
      have hw := h1.set (k := k) (hBy (tN (sT S)) H (tLd (sT S)) (tLd (sT S) k))
      have fin : ∀ c', ∃ w', fX12_findHeights_J53_100 (fun q1 q2 qw => fX12_findHeights_L53 fz (fun y _ q => K y q) q1 q2 qw) (fun y _ q => K y q) (iB c) (iI k) (iI (hBy (tN (sT S)) H (tLd (sT S)) (tLd (sT S) k))) (iB c') w1 = K (iB (c' || pcK (tN (sT S)) (tLd (sT S)) m (k + 1) (fu H k (hBy (tN (sT S)) H (tLd (sT S)) (tLd (sT S) k))))) w' ∧ Hh w' S (psK (tN (sT S)) (tLd (sT S)) m (k + 1) (fu H k (hBy (tN (sT S)) H (tLd (sT S)) (tLd (sT S) k)))) := by
        intro c'
        rw [fX12_findHeights_J53_100, rsN (by omega) (by omega), Option.bind_some, e1]
        exact ih fz (k + 1) _ _ c' (M + 1) (by omega) (by omega) hw (by omega) (by omega) (fun i => by
          by_cases e : i = k
          · rw [e, fu_s]; exact hv
          · rw [fu_o _ _ e]; have := hb i; omega)
      cases c with
      | true =>
        rw [if_neg iB_tn, fX12_findHeights_J53_95, Bool.true_or]
        have := fin true
        rw [Bool.true_or] at this
        exact this
      | false =>
        rw [if_pos iB_fz, h1.get hkn, Option.bind_some, Bool.false_or]
        by_cases c2 : hBy (tN (sT S)) H (tLd (sT S)) (tLd (sT S) k) = H k
        · rw [if_pos (by rw [c2]), decide_eq_false (fun z => z c2)]
          exact fin false
        · rw [if_neg (by rw [iI_eq (by omega) (by omega) (by omega) (by omega)]; exact c2), decide_eq_true c2, fX12_findHeights_J53_95]
          exact fin true
theorem h45 {S : AS} (K : rW → Option rW) : ∀ (p fu r : Nat) (w : rW) (H : Nat → Int) (c : Bool), p + 1 < fu → r + p = 41 → Hh w S H → (∀ i, -4 ≤ H i ∧ H i ≤ 50 * r) → HI (tN (sT S)) (tLd (sT S)) (gGv (sT S)) H 0 0 → (c = true → r ≤ 40 ∧ HI (tN (sT S)) (tLd (sT S)) (gGv (sT S)) H r 0) → (c = false → ∀ i, i < tN (sT S) → H i = hgt (tN (sT S)) (tLd (sT S)) (gGv (sT S)) i) →
    ∃ w', fX12_findHeights_L45 fu (fun _ q => K q) (iB c) w = K w' ∧ MI w' S ∧ ∀ i, i < tN (sT S) → rA w' 16 i = iI (hgt (tN (sT S)) (tLd (sT S)) (gGv (sT S)) i) := by
  have done : ∀ (fu : Nat) (w : rW) (H : Nat → Int), Hh w S H → (∀ i, i < tN (sT S) → H i = hgt (tN (sT S)) (tLd (sT S)) (gGv (sT S)) i) → ∃ w', fX12_findHeights_L45 (fu + 1) (fun _ q => K q) (iB false) w = K w' ∧ MI w' S ∧ ∀ i, i < tN (sT S) → rA w' 16 i = iI (hgt (tN (sT S)) (tLd (sT S)) (gGv (sT S)) i) := by
    intro fu w H h he
    refine ⟨w, by rw [fX12_findHeights_L45, if_pos iB_fz], h.1, fun i hi => ?_⟩
    rw [h.2.1 i hi, he i hi]
  intro p
  induction p with
  | zero =>
    intro fu r w H c hf hr h hb h00 ht hc
    obtain ⟨fu, rfl⟩ : ∃ z, fu = z + 1 := ⟨fu - 1, by omega⟩
    cases c with
    | true => have := (ht rfl).1; omega
    | false => exact done fu w H h (hc rfl)
  | succ p ih =>
    intro fu r w H c hf hr h hb h00 ht hc
    obtain ⟨fu, rfl⟩ : ∃ z, fu = z + 1 := ⟨fu - 1, by omega⟩
    cases c with
    | false => exact done fu w H h (hc rfl)
    | true =>
      obtain ⟨r40, hI⟩ := ht rfl
      have n40 := h.2.2
      obtain ⟨w1, q1, h1⟩ := h53 (S := S) (fun y q => fX12_findHeights_L45 fu (fun _ q => K q) y q) (tN (sT S)) kFU 0 w H false (50 * r) (by unfold kFU; omega) (by omega) h (by omega) (by omega) hb
      rw [Bool.false_or] at q1
      have hn := (psK_HI (tN (sT S)) 0 H (by omega) hI).next
      have bd := psK_bd (n := tN (sT S)) (L := tLd (sT S)) (tN (sT S)) 0 H (50 * r) (by omega) hb
      obtain ⟨w2, q2, h2⟩ := ih fu (r + 1) w1 (psK (tN (sT S)) (tLd (sT S)) (tN (sT S)) 0 H) (pcK (tN (sT S)) (tLd (sT S)) (tN (sT S)) 0 H) (by omega) (by omega) h1 (fun i => by have := bd i; omega) hn.zero (fun e => by
        refine ⟨?_, hn⟩
        by_cases c40 : r = 40
        · rw [c40] at hI
          rw [pcK_ex n40 _ _ _ (by omega) hI] at e
          cases e
        · omega) (fun e => by
        have ef := pcK_f _ _ _ e
        rw [ef]
        exact fix_ex n40 ef h00)
      refine ⟨w2, ?_, h2⟩
      rw [fX12_findHeights_L45, if_neg iB_tn]
      exact q1.trans q2
theorem h2L {S : AS} (K : rW → Option rW) : ∀ (m fu k : Nat) (w : rW) (H : Nat → Int), m < fu → k + m = tN (sT S) → MI w S → tN (sT S) ≤ 40 → (∀ i, i < k → rA w 16 i = iI (if gGv (sT S) i then 0 else -4)) →
    ∃ w', fX12_findHeights_L2 fu (fun _ q => K q) (iI k) w = K w' ∧ Hh w' S (fun i => if gGv (sT S) i then 0 else -4) := by
  intro m
  induction m with
  | zero =>
    intro fu k w H hf hk h n40 he
    obtain ⟨fu, rfl⟩ : ∃ z, fu = z + 1 := ⟨fu - 1, by omega⟩
    have hh : Hh w S (fun i => if gGv (sT S) i then 0 else -4) := ⟨h, fun i hi => he i (by omega), n40⟩
    exact ⟨w, by rw [fX12_findHeights_L2, hh.many, Option.bind_some, if_pos (by rw [iI_le (by omega) (by omega) (by omega) (by omega)]; omega)], hh⟩
  | succ m ih =>
    intro fu k w H hf hk h n40 he
    obtain ⟨fu, rfl⟩ : ∃ z, fu = z + 1 := ⟨fu - 1, by omega⟩
    have e1 : iI (k : Int) + (1 : Int32) = iI (k + 1 : Nat) := by rw [iL_1, iI_add]; rfl
    obtain ⟨hW, ⟨n0, -⟩, -, h2, -⟩ := h.1
    have e43 : (43 : Int32) + iI k = iI (43 + k : Nat) := by rw [iL_43, iI_add]; rfl
    have hk2 := h2 k (show k < (tL (sT S)).length by have : (tL (sT S)).length = tN (sT S) := rfl; omega)
    have ht := hW.2.2.2.2.1 k
    have em : raI w 2 1000 (0 : Int32) = some (iI (tN (sT S))) := by
      rw [show (0 : Int32) = iI ((0 : Nat) : Int) from rfl, raN (by omega) (by omega), n0]; rfl
    have go : ∀ v : Int, (v = if gGv (sT S) k then 0 else -4) → ∃ w', ((rsI w 16 40 (iI k) (iI v)).bind fun w4 => fX12_findHeights_L2 fu (fun _ q => K q) (iI k + (1 : Int32)) w4) = K w' ∧ Hh w' S (fun i => if gGv (sT S) i then 0 else -4) := by
      intro v hv
      rw [rsN (by omega) (by omega), Option.bind_some, e1]
      refine ih fu (k + 1) _ H (by omega) (by omega) (h.rq (Rq.sa (Or.inr (by omega)))) n40 (fun i hi => ?_)
      by_cases e : i = k
      · rw [e, rA_SA_s, hv]
      · rw [rA_SA_j e]; exact he i (by omega)
    rw [fX12_findHeights_L2, em, Option.bind_some, if_neg (by rw [iI_le (by omega) (by omega) (by omega) (by omega)]; omega), e43, raN (by omega) (by omega), Option.bind_some, hk2]
    by_cases c : tH (sT S) k = 1
    · have hg : gGv (sT S) k = true := decide_eq_true c
      rw [if_pos (by rw [c]; rfl)]
      exact go 0 (by rw [hg]; rfl)
    · have hg : gGv (sT S) k = false := decide_eq_false c
      rw [if_neg (by rw [iL_1, iI_eq (by omega) (by omega) (by omega) (by omega)]; omega), iN_4]
      exact go (-4) (by rw [hg]; rfl)
theorem mFind {w : rW} {S : AS} (h : MI w S) : ∃ w', fX12_findHeights w = some w' ∧ MI w' S ∧ ∀ i, i < tN (sT S) → rA w' 16 i = iI (hgt (tN (sT S)) (tLd (sT S)) (gGv (sT S)) i) := by
  have n40 : tN (sT S) ≤ 40 := h.1.1.1
  obtain ⟨w1, q1, h1⟩ := h2L (S := S) (fun q => fX12_findHeights_L45 kFU (fun _ q => some q) (1 : Int32) q) (tN (sT S)) kFU 0 w (fun _ => 0) (by unfold kFU; omega) (by omega) h n40 (fun i hi => absurd hi (Nat.not_lt_zero i))
  have hg : ∀ i, (if gGv (sT S) i then (0 : Int) else -4) = -4 ∧ gGv (sT S) i = false ∨ (if gGv (sT S) i then (0 : Int) else -4) = 0 ∧ gGv (sT S) i = true := fun i => by
    cases gGv (sT S) i with
    | true => exact Or.inr ⟨rfl, rfl⟩
    | false => exact Or.inl ⟨rfl, rfl⟩
  have h00 : HI (tN (sT S)) (tLd (sT S)) (gGv (sT S)) (fun i => if gGv (sT S) i then 0 else -4) 0 0 := by
    refine ⟨fun i _ => ?_, fun i _ hp => ?_, fun i s _ hq hs => ?_⟩
    · show (if gGv (sT S) i then (0 : Int) else -4) = -4 ∨ 0 ≤ (if gGv (sT S) i then (0 : Int) else -4)
      rcases hg i with ⟨z, -⟩ | ⟨z, -⟩ <;> omega
    · have hp' : 0 ≤ (if gGv (sT S) i then (0 : Int) else -4) := hp
      show Qr _ _ _ (if gGv (sT S) i then (0 : Int) else -4).toNat i = true
      rcases hg i with ⟨z, -⟩ | ⟨z, z2⟩
      · omega
      · rw [z]; exact z2
    · have s0 : s = 0 := by
        rw [if_neg (Nat.not_lt_zero i)] at hs
        omega
      have hq' : gGv (sT S) i = true := by rw [s0] at hq; exact hq
      show 0 ≤ (if gGv (sT S) i then (0 : Int) else -4) ∧ (if gGv (sT S) i then (0 : Int) else -4) ≤ s
      rcases hg i with ⟨-, z⟩ | ⟨z, -⟩
      · rw [hq'] at z; cases z
      · omega
  obtain ⟨w2, q2, h2⟩ := h45 (S := S) (fun q => some q) 41 kFU 0 w1 _ true (by unfold kFU; omega) (by omega) h1 (fun i => by
    show -4 ≤ (if gGv (sT S) i then (0 : Int) else -4) ∧ (if gGv (sT S) i then (0 : Int) else -4) ≤ 50 * ((0 : Nat) : Int)
    rcases hg i with ⟨z, -⟩ | ⟨z, -⟩ <;> omega) h00 (fun _ => ⟨by omega, h00⟩) (fun z => by cases z)
  exact ⟨w2, by rw [fX12_findHeights]; exact q1.trans q2, h2⟩
theorem m_height {w : rW} {S : AS} (h : MI w S) {l : Int} (hl : I32 l) : Md (fX12_height (iI l) w) (aHeight S l) S := by
  unfold aHeight
  rw [fX12_height, mIsLine h hl, Option.bind_some]
  cases hL : tLn (sT S) l with
  | none => exact Md.rf h (by rw [if_pos (show iB (none : Option Fo).isSome = 0 from rfl), iN_1])
  | some F =>
    obtain ⟨b0, b1, b2⟩ := tLn_lt hL
    have n40 : tN (sT S) ≤ 40 := h.1.1.1
    obtain ⟨w1, q1, h1, h2⟩ := mFind h
    have b1' : l.toNat < tN (sT S) := b1
    rw [if_neg (show ¬ iB (some F).isSome = 0 from iB_tn), q1, Option.bind_some, show iI l = iI ((l.toNat : Nat) : Int) by congr 1; omega, raN (by omega) (by omega), Option.bind_some, h2 _ b1']
    exact ⟨w1, rfl, h1⟩
