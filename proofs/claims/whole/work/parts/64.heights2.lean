/-! the class finds heights -/
def HtW (ow : Nat → Nat × Nat) (x : Nat) (w : kW) (st p tb : Nat) (T : TbS) (h : Nat → Int) : Prop := Sp ow w st p ∧ Tb ow x w tb T ∧ (st < x + 237 ∧ p < x + 237 ∧ tb ≠ p ∧ tb ≠ st) ∧ ∀ i, i < 40 → kI w (Lp w st 1) i = iI (h i)
theorem Sp.ne {ow : Nat → Nat × Nat} {w : kW} {st p : Nat} (h : Sp ow w st p) : st ≠ p := fun e => by
  have h1 := h.1
  have h2 := h.2.2.2.1.1
  rw [e, h2] at h1
  omega
theorem HtW.sq {ow : Nat → Nat × Nat} {x : Nat} {w w1 : kW} {st p tb : Nat} {T : TbS} {h : Nat → Int} (hh : HtW ow x w st p tb T h) (hs : Sq ow (fun z => z = p) w w1) (hp : Pg ow w1 p) : HtW ow x w1 st p tb T h := by
  obtain ⟨h1, h2, h3, h4⟩ := hh
  have ne := h1.ne
  obtain ⟨k1, o1, p1, g1, r1⟩ := h1
  have no : ¬ (ow st).1 = p := by rw [o1]; exact ne
  refine ⟨⟨by rw [hs.1]; exact k1, o1, by rw [(hs.2.2.2 st no).2.1]; exact p1, hp, r1.sq hs no⟩, h2.fr hs.fr h3.2.2.1 (fun a ha => by have := h3.2.1; omega), h3, fun i hi => ?_⟩
  rw [hs.lp no, (hs.2.2.2 _ (by rw [r1.2.2.2]; exact ne)).1]
  exact h4 i hi
theorem HtW.congr {ow : Nat → Nat × Nat} {x : Nat} {w : kW} {st p tb : Nat} {T : TbS} {h h' : Nat → Int} (hh : HtW ow x w st p tb T h) (e : ∀ i, i < 40 → h i = h' i) : HtW ow x w st p tb T h' :=
  ⟨hh.1, hh.2.1, hh.2.2.1, fun i hi => by rw [← e i hi]; exact hh.2.2.2 i hi⟩
theorem HtW.get {ow : Nat → Nat × Nat} {x : Nat} {w : kW} {st p tb : Nat} {T : TbS} {h : Nat → Int} (hh : HtW ow x w st p tb T h) {i : Nat} (hi : i < 40) {α : Type} (K : Int32 → Option α) : ((kgP w 7 (some st) 1).bind fun v1 => (kaI w 14 v1 (iI i)).bind K) = K (iI (h i)) := by
  obtain ⟨⟨k1, o1, p1, g1, r1⟩, h2, h3, h4⟩ := hh
  rw [kgP_e k1, Option.bind_some, r1.1, kaI_e r1.2.1 (by omega) (by rw [r1.2.2.1]; omega) (by rw [r1.2.2.1]; omega), Option.bind_some, Int.toNat_natCast, h4 i hi]
theorem HtW.set {ow : Nat → Nat × Nat} {x : Nat} {w : kW} {st p tb : Nat} {T : TbS} {h : Nat → Int} (hh : HtW ow x w st p tb T h) {i : Nat} (hi : i < 40) (v : Int) {α : Type} (K : kW → Option α) : (∀ v1, kP w st 1 = v1 → (ksI w 14 v1 (iI i) (iI v)).bind K = K (kSI w (Lp w st 1) i (iI v))) ∧ HtW ow x (kSI w (Lp w st 1) i (iI v)) st p tb T (fu h i v) ∧ Sq ow (fun z => z = st) w (kSI w (Lp w st 1) i (iI v)) := by
  obtain ⟨⟨k1, o1, p1, g1, r1⟩, h2, h3, h4⟩ := hh
  have sm : Sm ow (fun z => z = st) w (kSI w (Lp w st 1) i (iI v)) := Sm.si (by rw [r1.2.2.2])
  refine ⟨fun v1 e => ?_, ⟨⟨k1, o1, p1, g1.sm sm, r1.sm sm⟩, h2.fr sm.fr h3.2.2.2 (fun a ha => by have := h3.1; omega), h3, fun j hj => ?_⟩, sm.q⟩
  · rw [← e, r1.1, ksI_e r1.2.1 (by omega) (by rw [r1.2.2.1]; omega) (by rw [r1.2.2.1]; omega), Option.bind_some, Int.toNat_natCast, if_neg (by decide)]
  · rw [sm.lp]
    by_cases e : j = i
    · subst e; rw [fu_s, kI_SI_s]
    · rw [fu_o _ _ e, kI_SI_j e]; exact h4 j hj
/-- values that an int holds -/
def hBd (h : Nat → Int) : Prop := ∀ i, -4 ≤ h i ∧ h i ≤ 41
def below (h : Nat → Int) (R : Nat) (i : Nat) : Bool := decide (0 ≤ h i ∧ h i < R)
def fresh (h : Nat → Int) (R : Nat) (i : Nat) : Bool := decide (h i = (R : Int) - 1)
theorem hasHeight_ok {ow : Nat → Nat × Nat} {x : Nat} {w : kW} {st p tb : Nat} {T : TbS} {h : Nat → Int} (hh : HtW ow x w st p tb T h) (hb : hBd h) {i R : Nat} (hi : i < 40) (hR : R ≤ 41) : fX7_hasHeightBelow st (iI i) (iI R) w = some (iB (below h R i)) := by
  have b := hb i
  rw [fX7_hasHeightBelow, hh.get hi]
  unfold below
  by_cases c1 : h i < 0
  · rw [if_pos (by rw [iL_0, iI_lt (by omega) (by omega) (by omega) (by omega)]; exact c1), decide_eq_false (by omega)]; rfl
  · rw [if_neg (by rw [iL_0, iI_lt (by omega) (by omega) (by omega) (by omega)]; exact c1), hh.get hi]
    by_cases c2 : (R : Int) ≤ h i
    · rw [if_pos (by rw [iI_le (by omega) (by omega) (by omega) (by omega)]; exact c2), decide_eq_false (by omega)]; rfl
    · rw [if_neg (by rw [iI_le (by omega) (by omega) (by omega) (by omega)]; exact c2), decide_eq_true (by omega)]; rfl
theorem tLd_get {T : TbS} {i : Nat} (hi : i < (tL T).length) : (tL T)[i]? = some (tLd T i) := by
  unfold tLd
  rw [List.getD_eq_getElem?_getD, List.getElem?_eq_getElem hi]
  rfl
theorem fresh_if {h : Nat → Int} (hb : hBd h) {R : Nat} (hR : R ≤ 41) (i : Nat) {α : Type} (a b : Option α) : (if iI (h i) = iI R - (1 : Int32) then a else b) = if fresh h R i then a else b := by
  have b1 := hb i
  unfold fresh
  rw [iL_1, iI_sub]
  by_cases c : h i = (R : Int) - 1
  · rw [if_pos (by rw [c]), decide_eq_true c]; rfl
  · rw [if_neg (by rw [iI_eq (by omega) (by omega) (by omega) (by omega)]; exact c), decide_eq_false c]; rfl
/-- inner -/
theorem reach_in {ow : Nat → Nat × Nat} {x : Nat} {w : kW} {st p tb : Nat} {T : TbS} {h : Nat → Int} (hh : HtW ow x w st p tb T h) (hb : hBd h) {R : Nat} (hR : R ≤ 41) {l a : Nat} {f A : Fo} (hl : Li ow x w l f) (ha : Li ow x w a A) (x4 : Int32) (fr : Bool) (kont : kW → Option (Int32 × kW)) : ∀ (m fu j : Nat), m < fu → j + m = (tL T).length →
    fX7_isReached_L94 st (some tb) (some l) (iI R) x4 (some a) (iB fr) fu (fun _ q => kont q) (iI j) w = if anyN (fun b => (below h R b && (fr || fresh h R b)) && stp2 f A (tLd T b)) j m then some ((1 : Int32), w) else kont w := by
  have hT := hh.2.1
  have n40 := hT.1.1
  have ktb := hT.2.1.1
  have n1 := hT.2.2.1.1
  have hsp := hh.1
  have kst := hsp.1
  intro m
  induction m with
  | zero =>
    intro fu j hf hj
    obtain ⟨fu, rfl⟩ : ∃ z, fu = z + 1 := ⟨fu - 1, by omega⟩
    rw [fX7_isReached_L94, kgI_e ktb, Option.bind_some, n1, if_pos (by rw [iI_le (by omega) (by omega) (by omega) (by omega)]; omega)]
    rfl
  | succ m ih =>
    intro fu j hf hj
    obtain ⟨fu, rfl⟩ : ∃ z, fu = z + 1 := ⟨fu - 1, by omega⟩
    have hlt : j < (tL T).length := by omega
    have next := ih fu (j + 1) (by omega) (by omega)
    have ej : iI (j : Int) + (1 : Int32) = iI ((j + 1 : Nat) : Int) := by rw [iL_1, iI_add]; rfl
    have eA : anyN (fun b => (below h R b && (fr || fresh h R b)) && stp2 f A (tLd T b)) j (m + 1) = (((below h R j && (fr || fresh h R j)) && stp2 f A (tLd T j)) || anyN (fun b => (below h R b && (fr || fresh h R b)) && stp2 f A (tLd T b)) (j + 1) m) := rfl
    have none_ : ∀ s0 : Int32, fX7_isReached_J94_160 (fun q7 qw => fX7_isReached_L94 st (some tb) (some l) (iI R) x4 (some a) (iB fr) fu (fun _ q => kont q) q7 qw) (fun _ q => kont q) st (some tb) (some l) (iI R) x4 (some a) (iB fr) (iI j) s0 none w = if anyN (fun b => (below h R b && (fr || fresh h R b)) && stp2 f A (tLd T b)) (j + 1) m then some ((1 : Int32), w) else kont w := by
      intro s0
      rw [fX7_isReached_J94_160, if_pos rfl, ej]
      exact next
    obtain ⟨b, eb, hlb⟩ := lineAt_in hT (tLd_get hlt)
    have some_ : ∀ s0 : Int32, fX7_isReached_J94_160 (fun q7 qw => fX7_isReached_L94 st (some tb) (some l) (iI R) x4 (some a) (iB fr) fu (fun _ q => kont q) q7 qw) (fun _ q => kont q) st (some tb) (some l) (iI R) x4 (some a) (iB fr) (iI j) s0 (some b) w = if stp2 f A (tLd T j) || anyN (fun b => (below h R b && (fr || fresh h R b)) && stp2 f A (tLd T b)) (j + 1) m then some ((1 : Int32), w) else kont w := by
      intro s0
      rw [fX7_isReached_J94_160, if_neg (by simp), kRc_e kst, Option.bind_some, allow1_ok hsp hl.1 ha.1 hlb.1, kb2_s]
      unfold stp2
      cases fThen f A (tLd T j) with
      | true => rw [if_neg (show ¬ iB true = 0 by decide +kernel)]; rfl
      | false =>
        rw [if_pos (show iB false = 0 from rfl), kRc_e kst, Option.bind_some, allow2_ok hsp hl.1 ha.1 hlb.1, kb2_s]
        cases fChain f A (tLd T j) with
        | true => rw [if_neg (show ¬ iB true = 0 by decide +kernel)]; rfl
        | false =>
          rw [if_pos (show iB false = 0 from rfl), ej]
          exact next
    rw [fX7_isReached_L94, kgI_e ktb, Option.bind_some, n1, if_neg (by rw [iI_le (by omega) (by omega) (by omega) (by omega)]; omega), if_neg (by rw [iL_40, iI_le (by omega) (by omega) (by omega) (by omega)]; omega), kRc_e kst, Option.bind_some, hasHeight_ok hh hb (by omega) hR, Option.bind_some, eA]
    cases hbl : below h R j with
    | false =>
      rw [if_pos (show iB false = 0 from rfl), fX7_isReached_J94_142, fX7_isReached_J94_143, if_pos rfl, none_]
      rfl
    | true =>
      rw [if_neg (show ¬ iB true = 0 by decide +kernel), Bool.true_and]
      cases fr with
      | true =>
        rw [if_neg (show ¬ iB true = 0 by decide +kernel), fX7_isReached_J94_138, fX7_isReached_J94_143, if_neg (by decide +kernel), kRc_e ktb, Option.bind_some, eb, Option.bind_some, some_]
        rfl
      | false =>
        rw [if_pos (show iB false = 0 from rfl), hh.get (by omega), fresh_if hb hR]
        cases fresh h R j with
        | true =>
          rw [if_pos rfl, fX7_isReached_J94_138, fX7_isReached_J94_143, if_neg (by decide +kernel), kRc_e ktb, Option.bind_some, eb, Option.bind_some, some_]
          rfl
        | false =>
          rw [if_neg Bool.false_ne_true, fX7_isReached_J94_142, fX7_isReached_J94_143, if_pos rfl, none_]
          rfl
def gaN (T : TbS) (h : Nat → Int) (R : Nat) (f : Fo) (a : Nat) : Bool := below h R a && ((fresh h R a && stp1 f (tLd T a)) || anyN (fun b => (below h R b && (fresh h R a || fresh h R b)) && stp2 f (tLd T a) (tLd T b)) 0 (tL T).length)
theorem reach_out {ow : Nat → Nat × Nat} {x : Nat} {st p tb : Nat} {T : TbS} {h : Nat → Int} (hb : hBd h) {R : Nat} (hR : R ≤ 41) {l : Nat} {f : Fo} (kont : kW → Option (Int32 × kW)) : ∀ (m fu a : Nat) (w : kW), m < fu → a + m = (tL T).length → HtW ow x w st p tb T h → Li ow x w l f →
    ∃ w', fX7_isReached_L3 st (some tb) (some l) (iI R) fu (fun _ q => kont q) (iI a) w = (if anyN (gaN T h R f) a m then some ((1 : Int32), w') else kont w') ∧ HtW ow x w' st p tb T h ∧ Sq ow (fun z => z = p) w w' := by
  intro m
  induction m with
  | zero =>
    intro fu a w hf ha hh hl
    obtain ⟨fu, rfl⟩ : ∃ z, fu = z + 1 := ⟨fu - 1, by omega⟩
    have hT := hh.2.1
    have n40 := hT.1.1
    refine ⟨w, ?_, hh, Sq.rf w⟩
    rw [fX7_isReached_L3, kgI_e hT.2.1.1, Option.bind_some, hT.2.2.1.1, if_pos (by rw [iI_le (by omega) (by omega) (by omega) (by omega)]; omega)]
    rfl
  | succ m ih =>
    intro fu a w hf ha hh hl
    obtain ⟨fu, rfl⟩ : ∃ z, fu = z + 1 := ⟨fu - 1, by omega⟩
    have hT := hh.2.1
    have n40 := hT.1.1
    have ktb := hT.2.1.1
    have n1 := hT.2.2.1.1
    have hsp := hh.1
    have kst := hsp.1
    have hlt : a < (tL T).length := by omega
    have ea : iI (a : Int) + (1 : Int32) = iI ((a + 1 : Nat) : Int) := by rw [iL_1, iI_add]; rfl
    have eA : anyN (gaN T h R f) a (m + 1) = (gaN T h R f a || anyN (gaN T h R f) (a + 1) m) := rfl
    obtain ⟨b, eb, hlb⟩ := lineAt_in hT (tLd_get hlt)
    have lp : l ≠ p := by have := hl.2.2.2; have := hh.2.2.1.2.1; omega
    have bp : b ≠ p := by have := hlb.2.2.2; have := hh.2.2.1.2.1; omega
    -- behind the inner loop
    have inner : ∀ (w1 : kW) (fr : Bool), HtW ow x w1 st p tb T h → Sq ow (fun z => z = p) w w1 → ∃ w', fX7_isReached_J3_91 (fun q4 qw => fX7_isReached_L3 st (some tb) (some l) (iI R) fu (fun _ q => kont q) q4 qw) (fun _ q => kont q) st (some tb) (some l) (iI R) (iI a) (some b) (iB fr) w1 = (if anyN (fun b => (below h R b && (fr || fresh h R b)) && stp2 f (tLd T a) (tLd T b)) 0 (tL T).length || anyN (gaN T h R f) (a + 1) m then some ((1 : Int32), w') else kont w') ∧ HtW ow x w' st p tb T h ∧ Sq ow (fun z => z = p) w w' := by
      intro w1 fr h1 S1
      have hl1 := hl.fr S1.fr lp
      have hlb1 := hlb.fr S1.fr bp
      have g := reach_in h1 hb hR hl1 hlb1 (iI a) fr (fun w2 => fX7_isReached_L3 st (some tb) (some l) (iI R) fu (fun _ q => kont q) (iI a + (1 : Int32)) w2) (tL T).length kFU 0 (by unfold kFU; omega) (by omega)
      have e0 : (0 : Int32) = iI ((0 : Nat) : Int) := by decide +kernel
      obtain ⟨w2, e2, h2, S2⟩ := ih fu (a + 1) w1 (by omega) (by omega) h1 hl1
      cases hc : anyN (fun b => (below h R b && (fr || fresh h R b)) && stp2 f (tLd T a) (tLd T b)) 0 (tL T).length with
      | true =>
        refine ⟨w1, ?_, h1, S1⟩
        rw [fX7_isReached_J3_91, e0, g, hc]
        rfl
      | false =>
        refine ⟨w2, ?_, h2, S1.tr S2⟩
        rw [fX7_isReached_J3_91, e0, g, hc, if_neg Bool.false_ne_true, ea, e2, Bool.false_or]
    rw [eA]
    have top : fX7_isReached_L3 st (some tb) (some l) (iI R) (fu + 1) (fun _ q => kont q) (iI a) w = if iB (below h R a) = 0 then fX7_isReached_L3 st (some tb) (some l) (iI R) fu (fun _ q => kont q) (iI (a + 1 : Nat)) w else fX7_isReached_J3_58 (fun q4 qw => fX7_isReached_L3 st (some tb) (some l) (iI R) fu (fun _ q => kont q) q4 qw) (fun _ q => kont q) st (some tb) (some l) (iI R) (iI a) (some b) (iB (fresh h R a)) w := by
      rw [fX7_isReached_L3, kgI_e ktb, Option.bind_some, n1, if_neg (by rw [iI_le (by omega) (by omega) (by omega) (by omega)]; omega), if_neg (by rw [iL_40, iI_le (by omega) (by omega) (by omega) (by omega)]; omega), kRc_e kst, Option.bind_some, hasHeight_ok hh hb (by omega) hR, Option.bind_some, kRc_e ktb, Option.bind_some, eb, Option.bind_some, hh.get (by omega), fresh_if hb hR, ea]
      cases fresh h R a with
      | true => rw [if_pos rfl, iB_t]
      | false => rw [if_neg Bool.false_ne_true, iB_f]
    rw [top]
    unfold gaN
    cases hbl : below h R a with
    | false =>
      rw [if_pos (show iB false = 0 from rfl), Bool.false_and, Bool.false_or]
      exact ih fu (a + 1) w (by omega) (by omega) hh hl
    | true =>
      rw [if_neg (show ¬ iB true = 0 by decide +kernel), Bool.true_and, fX7_isReached_J3_58]
      cases hfr : fresh h R a with
      | false =>
        rw [if_pos (show iB false = 0 from rfl), Bool.false_and, Bool.false_or]
        exact inner w false hh (Sq.rf w)
      | true =>
        rw [if_neg (show ¬ iB true = 0 by decide +kernel), Bool.true_and, kRc_e kst, Option.bind_some]
        obtain ⟨w1, e1, S1, g1⟩ := allow0_ok none hsp hl.1 hlb.1
        have h1 := hh.sq S1 g1
        have e3 := allow3_ok none h1.1 (hl.fr S1.fr lp).1 (hlb.fr S1.fr bp).1
        rw [e1, kb2_s]
        unfold stp1
        cases (fMt (tLd T a) f σ0).isSome with
        | true =>
          rw [if_neg (show ¬ iB true = 0 by decide +kernel)]
          exact ⟨w1, rfl, h1, S1⟩
        | false =>
          rw [if_pos (show iB false = 0 from rfl), kRc_e h1.1.1, Option.bind_some, e3, kb2_s, Bool.false_or]
          cases fMean f (tLd T a) with
          | true =>
            rw [if_neg (show ¬ iB true = 0 by decide +kernel)]
            exact ⟨w1, rfl, h1, S1⟩
          | false =>
            rw [if_pos (show iB false = 0 from rfl), Bool.false_or]
            exact inner w1 true h1 S1
theorem isReached_ok {ow : Nat → Nat × Nat} {x : Nat} {w : kW} {st p tb : Nat} {T : TbS} {h : Nat → Int} (hh : HtW ow x w st p tb T h) (hb : hBd h) {R : Nat} (hR : R ≤ 41) {l : Nat} {f : Fo} (hl : Li ow x w l f) :
    ∃ w', fX7_isReached st (some tb) (some l) (iI R) w = some (iB (anyN (gaN T h R f) 0 (tL T).length), w') ∧ HtW ow x w' st p tb T h ∧ Sq ow (fun z => z = p) w w' := by
  have n40 := hh.2.1.1.1
  obtain ⟨w', e, g1, g2⟩ := reach_out hb hR (fun w2 => some ((0 : Int32), w2)) (tL T).length kFU 0 w (by unfold kFU; omega) (by omega) hh hl
  refine ⟨w', ?_, g1, g2⟩
  have e0 : (0 : Int32) = iI ((0 : Nat) : Int) := by decide +kernel
  have eR : fX7_isReached st (some tb) (some l) (iI R) w = fX7_isReached_L3 st (some tb) (some l) (iI R) kFU (fun _ w2 => some ((0 : Int32), w2)) (iI ((0 : Nat) : Int)) w := by rw [fX7_isReached, ← e0]
  rw [eR, e]
  cases anyN (gaN T h R f) 0 (tL T).length <;> rfl
