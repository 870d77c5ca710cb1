/-! .. round by round -/
def gGv (T : TbS) (i : Nat) : Bool := decide (tH T i = 1)
def tN (T : TbS) : Nat := (tL T).length
def hMx (T : TbS) (r k i : Nat) : Int := if i < tN T then (if i < k then hAt (tN T) (tLd T) (gGv T) (r + 1) i else hAt (tN T) (tLd T) (gGv T) r i) else -4
theorem hMx_bd (T : TbS) {r : Nat} (hr : r ≤ 40) (k : Nat) : hBd (hMx T r k) := fun i => by
  unfold hMx
  have h1 := hAt_bd (n := tN T) (L := tLd T) (g := gGv T) (r + 1) i
  have h2 := hAt_bd (n := tN T) (L := tLd T) (g := gGv T) r i
  split
  · split <;> omega
  · omega
theorem hMx_below (T : TbS) {r k i : Nat} (hi : i < tN T) : below (hMx T r k) (r + 1) i = Qr (tN T) (tLd T) (gGv T) r i := by
  unfold below hMx
  rw [if_pos hi]
  have h2 := hAt_Q (n := tN T) (L := tLd T) (g := gGv T) r i
  have eh : hAt (tN T) (tLd T) (gGv T) (r + 1) i = if Qr (tN T) (tLd T) (gGv T) r i then hAt (tN T) (tLd T) (gGv T) r i else if rch (tN T) (tLd T) (Qr (tN T) (tLd T) (gGv T) r) (tLd T i) then ((r + 1 : Nat) : Int) else -4 := rfl
  cases hq : Qr (tN T) (tLd T) (gGv T) r i with
  | true =>
    rw [hq, if_pos rfl] at eh
    obtain ⟨g1, g2⟩ := h2.1 hq
    have e : (if i < k then hAt (tN T) (tLd T) (gGv T) (r + 1) i else hAt (tN T) (tLd T) (gGv T) r i) = hAt (tN T) (tLd T) (gGv T) r i := by split <;> first | exact eh | rfl
    rw [e, decide_eq_true (by omega)]
  | false =>
    rw [hq, if_neg Bool.false_ne_true] at eh
    have g := h2.2 hq
    refine decide_eq_false fun z => ?_
    by_cases c : i < k
    · rw [if_pos c, eh] at z
      split at z <;> omega
    · rw [if_neg c, g] at z
      omega
theorem hMx_fresh (T : TbS) {r k i : Nat} (hi : i < tN T) (hq : Qr (tN T) (tLd T) (gGv T) r i = true) : fresh (hMx T r k) (r + 1) i = frs (tN T) (tLd T) (gGv T) r i := by
  unfold fresh hMx frs
  rw [if_pos hi]
  have eh : hAt (tN T) (tLd T) (gGv T) (r + 1) i = if Qr (tN T) (tLd T) (gGv T) r i then hAt (tN T) (tLd T) (gGv T) r i else if rch (tN T) (tLd T) (Qr (tN T) (tLd T) (gGv T) r) (tLd T i) then ((r + 1 : Nat) : Int) else -4 := rfl
  rw [hq, if_pos rfl] at eh
  have e : (if i < k then hAt (tN T) (tLd T) (gGv T) (r + 1) i else hAt (tN T) (tLd T) (gGv T) r i) = hAt (tN T) (tLd T) (gGv T) r i := by split <;> first | exact eh | rfl
  rw [e]
  congr 1
  apply propext
  constructor <;> intro h <;> omega
theorem ga_prn (T : TbS) {r k : Nat} (f : Fo) : anyN (gaN T (hMx T r k) (r + 1) f) 0 (tN T) = prn (tN T) (tLd T) (gGv T) r f := by
  unfold prn
  refine anyN_congr fun a _ ha => ?_
  unfold gaN
  rw [hMx_below T (by omega)]
  cases hq : Qr (tN T) (tLd T) (gGv T) r a with
  | false => rfl
  | true =>
    rw [hMx_fresh T (by omega) hq, Bool.true_and, Bool.true_and]
    congr 1
    refine anyN_congr fun b _ hb => ?_
    rw [hMx_below T (show b < tN T by have : (tL T).length = tN T := rfl; omega)]
    cases hq2 : Qr (tN T) (tLd T) (gGv T) r b with
    | false => rfl
    | true => rw [hMx_fresh T (show b < tN T by have : (tL T).length = tN T := rfl; omega) hq2]
def hNew (T : TbS) (r i : Nat) : Bool := !Qr (tN T) (tLd T) (gGv T) r i && rch (tN T) (tLd T) (Qr (tN T) (tLd T) (gGv T) r) (tLd T i)
def StQ (st p : Nat) : Nat → Prop := fun z => z = st ∨ z = p
theorem round_loop {ow : Nat → Nat × Nat} {x : Nat} {st p tb : Nat} {T : TbS} {r : Nat} (hr : r < 40) (x2 : Int32) (kont : Int32 → kW → Option (Int32 × kW)) : ∀ (m fz k : Nat) (w : kW) (gr : Bool), m < fz → k + m = tN T → HtW ow x w st p tb T (hMx T r k) →
    ∃ w', fX7_heightOf_L64 st (some tb) x2 (iI (r + 1 : Nat)) fz (fun y _ q => kont y q) (iB gr) (iI k) w = kont (iB (gr || anyN (hNew T r) k m)) w' ∧ HtW ow x w' st p tb T (hMx T r (tN T)) ∧ Sq ow (StQ st p) w w' := by
  intro m
  induction m with
  | zero =>
    intro fz k w gr hf hk hh
    obtain ⟨fz, rfl⟩ : ∃ z, fz = z + 1 := ⟨fz - 1, by omega⟩
    have hT := hh.2.1
    have n40 := hT.1.1
    have eN : (tL T).length = tN T := rfl
    refine ⟨w, ?_, by rw [show k = tN T by omega] at hh; exact hh, Sq.rf w⟩
    rw [fX7_heightOf_L64, kgI_e hT.2.1.1, Option.bind_some, hT.2.2.1.1, if_pos (by rw [iI_le (by omega) (by omega) (by omega) (by omega)]; omega)]
    show kont (iB gr) w = kont (iB (gr || false)) w
    rw [Bool.or_false]
  | succ m ih =>
    intro fz k w gr hf hk hh
    obtain ⟨fz, rfl⟩ : ∃ z, fz = z + 1 := ⟨fz - 1, by omega⟩
    have hT := hh.2.1
    have n40 := hT.1.1
    have eN : (tL T).length = tN T := rfl
    have ktb := hT.2.1.1
    have n1 := hT.2.2.1.1
    have kst := hh.1.1
    have hlt : k < tN T := by omega
    have ek : iI (k : Int) + (1 : Int32) = iI ((k + 1 : Nat) : Int) := by rw [iL_1, iI_add]; rfl
    have eA : anyN (hNew T r) k (m + 1) = (hNew T r k || anyN (hNew T r) (k + 1) m) := rfl
    have hb := hMx_bd T (show r ≤ 40 by omega) k
    have hv : hMx T r k k = hAt (tN T) (tLd T) (gGv T) r k := by
      unfold hMx
      rw [if_pos hlt, if_neg (Nat.lt_irrefl k)]
    have eh : hAt (tN T) (tLd T) (gGv T) (r + 1) k = if Qr (tN T) (tLd T) (gGv T) r k then hAt (tN T) (tLd T) (gGv T) r k else if rch (tN T) (tLd T) (Qr (tN T) (tLd T) (gGv T) r) (tLd T k) then ((r + 1 : Nat) : Int) else -4 := rfl
    have en : (-4 : Int32) = iI (-4) := by decide +kernel
    have step : ∀ i, i < 40 → ∀ v : Int, hAt (tN T) (tLd T) (gGv T) (r + 1) k = v → fu (hMx T r k) k v i = hMx T r (k + 1) i := fun i hi v hv2 => by
      unfold fu
      by_cases e : i = k
      · rw [if_pos e, e]
        unfold hMx
        rw [if_pos hlt, if_pos (Nat.lt_succ_self k), hv2]
      · rw [if_neg e]
        unfold hMx
        by_cases c : i < k
        · rw [if_pos c, if_pos (show i < k + 1 by omega)]
        · rw [if_neg c, if_neg (show ¬ i < k + 1 by omega)]
    have same : hAt (tN T) (tLd T) (gGv T) (r + 1) k = hAt (tN T) (tLd T) (gGv T) r k → ∀ i, i < 40 → hMx T r k i = hMx T r (k + 1) i := fun e i hi => by
      rw [← step i hi _ e]
      unfold fu
      by_cases c : i = k
      · rw [if_pos c, c, hv]
      · rw [if_neg c]
    rw [fX7_heightOf_L64, kgI_e ktb, Option.bind_some, n1, if_neg (by rw [iI_le (by omega) (by omega) (by omega) (by omega)]; omega), if_neg (by rw [iL_40, iI_le (by omega) (by omega) (by omega) (by omega)]; omega), hh.get (by omega), hv, eA]
    have bd := hAt_bd (n := tN T) (L := tLd T) (g := gGv T) r k
    unfold hNew
    cases hq : Qr (tN T) (tLd T) (gGv T) r k with
    | true =>
      have h0 := (hAt_Q (n := tN T) (L := tLd T) (g := gGv T) r k).1 hq
      rw [hq, if_pos rfl] at eh
      rw [if_neg (by rw [en, iI_eq (by omega) (by omega) (by omega) (by omega)]; omega), ek]
      exact ih fz (k + 1) w gr (by omega) (by omega) (hh.congr (same eh))
    | false =>
      have h0 := (hAt_Q (n := tN T) (L := tLd T) (g := gGv T) r k).2 hq
      rw [hq, if_neg Bool.false_ne_true] at eh
      obtain ⟨l, el, hl⟩ := lineAt_in hT (tLd_get (show k < (tL T).length from hlt))
      obtain ⟨w1, e1, h1, S1⟩ := isReached_ok hh hb (R := r + 1) (by omega) hl
      rw [show (tL T).length = tN T from rfl, ga_prn, prn_ok hq] at e1
      have S1' : Sq ow (StQ st p) w w1 := S1.wide (fun z hz => Or.inr hz)
      rw [if_pos (by rw [h0, en]), kRc_e ktb, Option.bind_some, el, Option.bind_some, kRc_e kst, Option.bind_some, e1, kb2_s]
      cases hc : rch (tN T) (tLd T) (Qr (tN T) (tLd T) (gGv T) r) (tLd T k) with
      | false =>
        rw [hc, if_neg Bool.false_ne_true] at eh
        rw [if_pos (show iB false = 0 from rfl), ek]
        obtain ⟨w2, e2, h2, S2⟩ := ih fz (k + 1) w1 gr (by omega) (by omega) (h1.congr (same (eh.trans h0.symm)))
        exact ⟨w2, e2, h2, S1'.tr S2⟩
      | true =>
        rw [hc, if_pos rfl] at eh
        obtain ⟨y1, y2, y3⟩ := h1.set (i := k) (by omega) ((r + 1 : Nat) : Int) (fun w12 => fX7_heightOf_L64 st (some tb) x2 (iI (r + 1 : Nat)) fz (fun y _ q => kont y q) (1 : Int32) (iI k + (1 : Int32)) w12)
        rw [if_neg (show ¬ iB true = 0 by decide +kernel), kgP_e h1.1.1, Option.bind_some, y1 _ rfl, ek]
        obtain ⟨w2, e2, h2, S2⟩ := ih fz (k + 1) _ true (by omega) (by omega) (y2.congr (fun i hi => step i hi _ eh))
        refine ⟨w2, ?_, h2, (S1'.tr (y3.wide (fun z hz => Or.inl hz))).tr S2⟩
        rw [← iB_t, e2]
        cases gr <;> rfl
theorem hMx_next (T : TbS) (r : Nat) : hMx T r (tN T) = hMx T (r + 1) 0 := by
  funext i
  unfold hMx
  by_cases c : i < tN T
  · rw [if_pos c, if_pos c, if_pos c, if_neg (Nat.not_lt_zero i)]
  · rw [if_neg c, if_neg c]
theorem rounds_loop {ow : Nat → Nat × Nat} {x : Nat} {st p tb : Nat} {T : TbS} (x2 : Int32) (kont : kW → Option (Int32 × kW)) : ∀ (m fu r : Nat) (w : kW) (gr : Bool), m + 1 < fu → r + m = 40 → HtW ow x w st p tb T (hMx T r 0) → (gr = false → ∃ s, r = s + 1 ∧ ∀ i, i < tN T → Qr (tN T) (tLd T) (gGv T) (s + 1) i = Qr (tN T) (tLd T) (gGv T) s i) →
    ∃ w', fX7_heightOf_L48 st (some tb) x2 fu (fun _ _ q => kont q) (iB gr) (iI (r + 1 : Nat)) w = kont w' ∧ HtW ow x w' st p tb T (hMx T 40 0) ∧ Sq ow (StQ st p) w w' := by
  intro m
  induction m with
  | zero =>
    intro fu r w gr hf hr hh _
    obtain ⟨fu, rfl⟩ : ∃ z, fu = z + 1 := ⟨fu - 1, by omega⟩
    have r40 : r = 40 := by omega
    subst r40
    refine ⟨w, ?_, hh, Sq.rf w⟩
    rw [fX7_heightOf_L48, if_pos (by decide +kernel)]
  | succ m ih =>
    intro fu r w gr hf hr hh hg
    obtain ⟨fu, rfl⟩ : ∃ z, fu = z + 1 := ⟨fu - 1, by omega⟩
    rw [fX7_heightOf_L48, if_neg (by rw [iL_40, iI_lt (by omega) (by omega) (by omega) (by omega)]; omega)]
    cases gr with
    | false =>
      rw [if_pos (show iB false = 0 from rfl)]
      obtain ⟨s, rfl, hst⟩ := hg rfl
      refine ⟨w, rfl, hh.congr fun i hi => ?_, Sq.rf w⟩
      unfold hMx
      by_cases c : i < tN T
      · rw [if_pos c, if_pos c, if_neg (Nat.not_lt_zero i), if_neg (Nat.not_lt_zero i)]
        have e1 := hAt_stop hst 1 i c
        have e2 := hAt_stop hst (40 - s) i c
        rw [show s + (40 - s) = 40 by omega] at e2
        rw [e1, e2]
      · rw [if_neg c, if_neg c]
    | true =>
      rw [if_neg (show ¬ iB true = 0 by decide +kernel)]
      have n40 : tN T ≤ 40 := hh.2.1.1.1
      obtain ⟨w1, e1, h1, S1⟩ := round_loop (r := r) (by omega) x2 (fun y3 w3 => fX7_heightOf_L48 st (some tb) x2 fu (fun _ _ q => kont q) y3 (iI (r + 1 : Nat) + (1 : Int32)) w3) (tN T) kFU 0 w false (by unfold kFU; omega) (by omega) hh
      rw [hMx_next] at h1
      have er : iI ((r + 1 : Nat) : Int) + (1 : Int32) = iI ((r + 1 + 1 : Nat) : Int) := by rw [iL_1, iI_add]; rfl
      have e0 : (0 : Int32) = iI ((0 : Nat) : Int) := by decide +kernel
      obtain ⟨w2, e2, h2, S2⟩ := ih fu (r + 1) w1 (false || anyN (hNew T r) 0 (tN T)) (by omega) (by omega) h1 (fun hz => ⟨r, rfl, fun i hi => by
        show (Qr (tN T) (tLd T) (gGv T) r i || rch (tN T) (tLd T) (Qr (tN T) (tLd T) (gGv T) r) (tLd T i)) = _
        cases hq : Qr (tN T) (tLd T) (gGv T) r i with
        | true => rfl
        | false =>
          cases hc : rch (tN T) (tLd T) (Qr (tN T) (tLd T) (gGv T) r) (tLd T i) with
          | false => rfl
          | true =>
            rw [Bool.false_or] at hz
            have ht : anyN (hNew T r) 0 (tN T) = true := (anyN_iff _ _).mpr ⟨i, Nat.zero_le _, by omega, by unfold hNew; rw [hq, hc]; rfl⟩
            rw [ht] at hz
            cases hz⟩)
      refine ⟨w2, ?_, h2, S1.tr S2⟩
      rw [iB_f, ← e0] at e1
      rw [e1, er]
      exact e2
theorem init_loop {ow : Nat → Nat × Nat} {x : Nat} {st p tb : Nat} {T : TbS} (x2 : Int32) (kont : kW → Option (Int32 × kW)) : ∀ (m fu k : Nat) (w : kW) (h : Nat → Int), m < fu → k + m = 40 → HtW ow x w st p tb T h → (∀ i, i < k → h i = hMx T 0 0 i) →
    ∃ w', fX7_heightOf_L2 st (some tb) x2 fu (fun _ q => kont q) (iI k) w = kont w' ∧ HtW ow x w' st p tb T (hMx T 0 0) ∧ Sq ow (StQ st p) w w' := by
  intro m
  induction m with
  | zero =>
    intro fu k w h hf hk hh he
    obtain ⟨fu, rfl⟩ : ∃ z, fu = z + 1 := ⟨fu - 1, by omega⟩
    refine ⟨w, ?_, hh.congr (fun i hi => he i (by omega)), Sq.rf w⟩
    rw [fX7_heightOf_L2, if_pos (by rw [iL_40, iI_le (by omega) (by omega) (by omega) (by omega)]; omega)]
  | succ m ih =>
    intro fu k w h hf hk hh he
    obtain ⟨fu, rfl⟩ : ∃ z, fu = z + 1 := ⟨fu - 1, by omega⟩
    have hT := hh.2.1
    have n40 := hT.1.1
    have ktb := hT.2.1.1
    have kst := hh.1.1
    have ek : iI (k : Int) + (1 : Int32) = iI ((k + 1 : Nat) : Int) := by rw [iL_1, iI_add]; rfl
    have en : (-4 : Int32) = iI (-4) := by decide +kernel
    have go : ∀ v : Int, hMx T 0 0 k = v → ∀ v1, kP w st 1 = v1 → ∃ w', ((ksI w 14 v1 (iI k) (iI v)).bind fun w5 => fX7_heightOf_L2 st (some tb) x2 fu (fun _ q => kont q) (iI k + (1 : Int32)) w5) = kont w' ∧ HtW ow x w' st p tb T (hMx T 0 0) ∧ Sq ow (StQ st p) w w' := by
      intro v hv v1 hv1
      obtain ⟨y1, y2, y3⟩ := hh.set (i := k) (by omega) v (fun w5 => fX7_heightOf_L2 st (some tb) x2 fu (fun _ q => kont q) (iI k + (1 : Int32)) w5)
      rw [y1 v1 hv1, ek]
      obtain ⟨w', e2, h2, S2⟩ := ih fu (k + 1) _ _ (by omega) (by omega) y2 (fun i hi => by
        by_cases e : i = k
        · subst e; rw [fu_s, hv]
        · rw [fu_o _ _ e]; exact he i (by omega))
      exact ⟨w', e2, h2, (y3.wide (fun z hz => Or.inl hz)).tr S2⟩
    rw [fX7_heightOf_L2, if_neg (by rw [iL_40, iI_le (by omega) (by omega) (by omega) (by omega)]; omega), kgP_e kst, Option.bind_some, kRc_e ktb, Option.bind_some]
    by_cases c : k < tN T
    · obtain ⟨l, el, hl⟩ := lineAt_in hT (tLd_get (show k < (tL T).length from c))
      rw [el, Option.bind_some, if_neg (by simp), Option.bind_some, howIs_in hT c, Option.bind_some]
      have hv : hMx T 0 0 k = if gGv T k then 0 else -4 := by
        unfold hMx
        rw [if_pos c, if_neg (Nat.not_lt_zero k)]
        rfl
      have h2 := hT.1.2.2.2.2.1 k
      by_cases c2 : tH T k = 1
      · have hg : gGv T k = true := decide_eq_true c2
        rw [hg, if_pos rfl] at hv
        rw [if_pos (by rw [c2]; rfl)]
        have := go 0 hv _ rfl
        exact this
      · have hg : gGv T k = false := decide_eq_false c2
        rw [hg, if_neg Bool.false_ne_true] at hv
        rw [if_neg (by rw [iL_1, iI_eq (by omega) (by omega) (by omega) (by omega)]; omega), en]
        exact go (-4) hv _ rfl
    · have eN : (tL T).length = tN T := rfl
      rw [lineAt_out hT (by omega) (by omega) (Or.inr (by omega)), Option.bind_some, if_pos rfl, en]
      refine go (-4) ?_ _ rfl
      unfold hMx
      rw [if_neg c]
theorem heightOf_ok {ow : Nat → Nat × Nat} {x : Nat} {w : kW} {st p tb : Nat} {T : TbS} {h : Nat → Int} (hh : HtW ow x w st p tb T h) {i : Nat} (hi : i < tN T) :
    ∃ w' h', fX7_heightOf st (some tb) (iI i) w = some (iI (hgt (tN T) (tLd T) (gGv T) i), w') ∧ HtW ow x w' st p tb T h' ∧ Sq ow (StQ st p) w w' := by
  have n40 : tN T ≤ 40 := hh.2.1.1.1
  have e0 : (0 : Int32) = iI ((0 : Nat) : Int) := by decide +kernel
  have e1 : (1 : Int32) = iI ((0 + 1 : Nat) : Int) := by decide +kernel
  obtain ⟨w1, q1, h1, S1⟩ := init_loop (iI i) (fun w2 => fX7_heightOf_L48 st (some tb) (iI i) kFU (fun y3_3 y4_4 w5 => if iI i < 0 then some ((-4 : Int32), w5) else if (40 : Int32) ≤ iI i then some ((-4 : Int32), w5) else (kgP w5 7 (some st) 1).bind fun v6 => (kaI w5 14 v6 (iI i)).bind fun v7 => some (v7, w5)) (1 : Int32) (1 : Int32) w2) 40 kFU 0 w h (by unfold kFU; omega) (by omega) hh (fun i hi => absurd hi (Nat.not_lt_zero i))
  obtain ⟨w2, q2, h2, S2⟩ := rounds_loop (iI i) (fun w5 => if iI i < 0 then some ((-4 : Int32), w5) else if (40 : Int32) ≤ iI i then some ((-4 : Int32), w5) else (kgP w5 7 (some st) 1).bind fun v6 => (kaI w5 14 v6 (iI i)).bind fun v7 => some (v7, w5)) 40 kFU 0 w1 true (by unfold kFU; omega) (by omega) h1 (fun z => (by cases z))
  refine ⟨w2, _, ?_, h2, S1.tr S2⟩
  have qq : fX7_heightOf st (some tb) (iI i) w = fX7_heightOf_L2 st (some tb) (iI i) kFU (fun y3_1 w2 => fX7_heightOf_L48 st (some tb) (iI i) kFU (fun y3_3 y4_4 w5 => if iI i < 0 then some ((-4 : Int32), w5) else if (40 : Int32) ≤ iI i then some ((-4 : Int32), w5) else (kgP w5 7 (some st) 1).bind fun v6 => (kaI w5 14 v6 (iI i)).bind fun v7 => some (v7, w5)) (1 : Int32) (1 : Int32) w2) (iI ((0 : Nat) : Int)) w := by rw [fX7_heightOf, ← e0]
  rw [qq, q1]
  have q2' := q2
  rw [iB_t, ← e1] at q2'
  rw [q2', if_neg (by rw [iL_0, iI_lt (by omega) (by omega) (by omega) (by omega)]; omega), if_neg (by rw [iL_40, iI_le (by omega) (by omega) (by omega) (by omega)]; omega), h2.get (by omega)]
  congr 3
  unfold hMx hgt
  rw [if_pos hi, if_neg (Nat.not_lt_zero i)]
