/-! counting over the table -/
def nS (g : Nat → Nat) : Nat → Nat → Nat
  | _, 0 => 0
  | i, m + 1 => g i + nS g (i + 1) m
theorem nS_le (g : Nat → Nat) (b : Nat) (h : ∀ i, g i ≤ b) : ∀ m i, nS g i m ≤ m * b := by
  intro m
  induction m with
  | zero => intro i; exact Nat.zero_le _
  | succ m ih =>
    intro i
    have := ih (i + 1)
    have := h i
    rw [Nat.succ_mul]
    show g i + nS g (i + 1) m ≤ _
    omega
def gH (T : TbS) (s : Nat) : Nat → Nat := fun i => if tH T i = s then 1 else 0
def gS (T : TbS) : Nat → Nat := fun i => match (tL T)[i]? with
  | some f => fSz f
  | none => 0
def fTr (f : Fo) : Bool := decide (fWy f = 2 ^ fUn f)
def gT (T : TbS) : Nat → Nat := fun i => match (tL T)[i]? with
  | some f => if fTr f then 1 else 0
  | none => 0
theorem shl7_ok (k : Nat) (h : k ≤ 6) : iI 1 <<< (iI k &&& 31) = iI (2 ^ k : Nat) := by
  rcases (show k = 0 ∨ k = 1 ∨ k = 2 ∨ k = 3 ∨ k = 4 ∨ k = 5 ∨ k = 6 by omega) with rfl | rfl | rfl | rfl | rfl | rfl | rfl <;> decide +kernel
theorem isTrue_ok {ow : Nat → Nat × Nat} {x a : Nat} {f : Fo} {w : kW} (h : Li ow x w a f) : fX1_isTrue a w = some (iB (fTr f)) := by
  have hk := h.1.2.1.1.1
  have hu := unlikeAt_ok (X := []) (Y := []) h.1.2.1 h.1.2.2 (all_1 f) h.1.1
  have e0 : (0 : Int32) = iI (([] : List Nat).length : Int) := by decide +kernel
  have b1 : fUn f ≤ 6 := pcN_le _
  have b2 := fWy_le f
  have b3 : 2 ^ fUn f ≤ 2 ^ 6 := Nat.pow_le_pow_right (by decide) b1
  have hsh := shl7_ok (fUn f) b1
  rw [fX1_isTrue, kgI_e hk, Option.bind_some, h.2.1, kRc_e hk, Option.bind_some, e0, hu, Option.bind_some, iL_1, hsh]
  unfold fTr
  generalize 2 ^ fUn f = N at b3
  by_cases c : fWy f = N
  · rw [if_pos (by rw [c]), decide_eq_true c]; rfl
  · rw [if_neg (by rw [iI_eq (by omega) (by omega) (by omega) (by omega)]; omega), decide_eq_false c]; rfl
theorem countOf_loop {ow : Nat → Nat × Nat} {x tb : Nat} {T : TbS} {w : kW} (h : Tb ow x w tb T) {s : Nat} (hs : s ≤ 2) : ∀ (m n i c : Nat), m < n → i + m = (tL T).length → c ≤ i →
    fX8_countOf_L4 tb (iI s) w n (fun y _ => some y) (iI c) (iI i) = some (iI (c + nS (gH T s) i m : Nat)) := by
  have hn1 := h.1.1
  have hk := h.2.1.1
  have n1 := h.2.2.1.1
  intro m
  induction m with
  | zero =>
    intro n i c hn hi hc
    obtain ⟨n, rfl⟩ : ∃ z, n = z + 1 := ⟨n - 1, by omega⟩
    rw [fX8_countOf_L4, kgI_e hk, Option.bind_some, n1, if_pos (by rw [iI_le (by omega) (by omega) (by omega) (by omega)]; omega)]
    rfl
  | succ m ih =>
    intro n i c hn hi hc
    obtain ⟨n, rfl⟩ : ∃ z, n = z + 1 := ⟨n - 1, by omega⟩
    have hlt : i < (tL T).length := by omega
    have ht := h.1.2.2.2.2.1 i
    rw [fX8_countOf_L4, kgI_e hk, Option.bind_some, n1, if_neg (by rw [iI_le (by omega) (by omega) (by omega) (by omega)]; omega), kRc_e hk, Option.bind_some, howIs_in h hlt, Option.bind_some, iL_1, iI_add, iI_add]
    show _ = some (iI (c + (gH T s i + nS (gH T s) (i + 1) m) : Nat))
    unfold gH
    by_cases e : tH T i = s
    · rw [if_pos (by rw [e])]
      simp only [if_pos e]
      have := ih n (i + 1) (c + 1) (by omega) (by omega) (by omega)
      rw [← Nat.add_assoc]
      exact this
    · rw [if_neg (by rw [iI_eq (by omega) (by omega) (by omega) (by omega)]; omega)]
      simp only [if_neg e]
      have := ih n (i + 1) c (by omega) (by omega) (by omega)
      rw [Nat.zero_add]
      exact this
theorem countOf_ok {ow : Nat → Nat × Nat} {x tb : Nat} {T : TbS} {w : kW} (h : Tb ow x w tb T) {s : Nat} (hs : s ≤ 2) : fX8_countOf tb (iI s) w = some (iI (nS (gH T s) 0 (tL T).length)) := by
  have hn1 := h.1.1
  have f := countOf_loop h hs (tL T).length kFU 0 0 (by unfold kFU; omega) (by omega) (by omega)
  rw [Nat.zero_add] at f
  have e0 : (0 : Int32) = iI ((0 : Nat) : Int) := by decide +kernel
  rw [fX8_countOf, e0]
  exact f
theorem fSz_le60 {f : Fo} (h : fOk f) (h2 : (fTxt f).length ≤ 60) : fSz f ≤ 60 := by
  have e : ∀ f, fOk f → fSz f ≤ (fTxt f).length := by
    refine fInd ?_ ?_ ?_ ?_
    · intro i hi; exact Nat.le_refl 1
    · intro a ha ih
      rw [fSz_neg]
      simp only [fTxt, List.length_cons]
      omega
    · intro a b ha hb iha ihb
      rw [fSz_add]
      simp only [fTxt, List.length_cons, List.length_append, List.length_nil]
      omega
    · intro a b ha hb iha ihb
      rw [fSz_sub]
      simp only [fTxt, List.length_cons, List.length_append, List.length_nil]
      omega
  exact Nat.le_trans (e f h) h2
theorem allSizes_loop {ow : Nat → Nat × Nat} {x tb : Nat} {T : TbS} {w : kW} (h : Tb ow x w tb T) : ∀ (m n i c : Nat), m < n → i + m = (tL T).length → c ≤ 60 * i →
    fX8_allSizes_L4 tb w n (fun y _ => some y) (iI c) (iI i) = some (iI (c + nS (gS T) i m : Nat)) := by
  have hn1 := h.1.1
  have hk := h.2.1.1
  have n1 := h.2.2.1.1
  intro m
  induction m with
  | zero =>
    intro n i c hn hi hc
    obtain ⟨n, rfl⟩ : ∃ z, n = z + 1 := ⟨n - 1, by omega⟩
    rw [fX8_allSizes_L4, kgI_e hk, Option.bind_some, n1, if_pos (by rw [iI_le (by omega) (by omega) (by omega) (by omega)]; omega)]
    rfl
  | succ m ih =>
    intro n i c hn hi hc
    obtain ⟨n, rfl⟩ : ∃ z, n = z + 1 := ⟨n - 1, by omega⟩
    have hlt : i < (tL T).length := by omega
    have hg := List.getElem?_eq_getElem hlt
    obtain ⟨a, e1, hl⟩ := lineAt_in h hg
    have hb := h.1.2.1 _ (List.getElem_mem hlt)
    have hs60 := fSz_le60 hb.1 hb.2
    have hka := hl.1.2.1.1.1
    have h5 := hl.1.2.1.2.2.1.1
    rw [fX8_allSizes_L4, kgI_e hk, Option.bind_some, n1, if_neg (by rw [iI_le (by omega) (by omega) (by omega) (by omega)]; omega), kRc_e hk, Option.bind_some, e1, Option.bind_some, if_neg (by simp), kgI_e hka, Option.bind_some, h5, iL_1, iI_add, iI_add]
    have eg : gS T i = fSz (tL T)[i] := by unfold gS; rw [hg]
    show _ = some (iI (c + (gS T i + nS (gS T) (i + 1) m) : Nat))
    rw [eg, ← Nat.add_assoc]
    exact ih n (i + 1) (c + fSz (tL T)[i]) (by omega) (by omega) (by omega)
theorem allSizes_ok {ow : Nat → Nat × Nat} {x tb : Nat} {T : TbS} {w : kW} (h : Tb ow x w tb T) : fX8_allSizes tb w = some (iI (nS (gS T) 0 (tL T).length)) := by
  have hn1 := h.1.1
  have f := allSizes_loop h (tL T).length kFU 0 0 (by unfold kFU; omega) (by omega) (by omega)
  rw [Nat.zero_add] at f
  have e0 : (0 : Int32) = iI ((0 : Nat) : Int) := by decide +kernel
  rw [fX8_allSizes, e0]
  exact f
theorem trueLines_loop {ow : Nat → Nat × Nat} {x tb : Nat} {T : TbS} {w : kW} (h : Tb ow x w tb T) : ∀ (m n i c : Nat), m < n → i + m = (tL T).length → c ≤ i →
    fX8_trueLines_L4 tb w n (fun y _ => some y) (iI c) (iI i) = some (iI (c + nS (gT T) i m : Nat)) := by
  have hn1 := h.1.1
  have hk := h.2.1.1
  have n1 := h.2.2.1.1
  intro m
  induction m with
  | zero =>
    intro n i c hn hi hc
    obtain ⟨n, rfl⟩ : ∃ z, n = z + 1 := ⟨n - 1, by omega⟩
    rw [fX8_trueLines_L4, kgI_e hk, Option.bind_some, n1, if_pos (by rw [iI_le (by omega) (by omega) (by omega) (by omega)]; omega)]
    rfl
  | succ m ih =>
    intro n i c hn hi hc
    obtain ⟨n, rfl⟩ : ∃ z, n = z + 1 := ⟨n - 1, by omega⟩
    have hlt : i < (tL T).length := by omega
    have hg := List.getElem?_eq_getElem hlt
    obtain ⟨a, e1, hl⟩ := lineAt_in h hg
    have hka := hl.1.2.1.1.1
    rw [fX8_trueLines_L4, kgI_e hk, Option.bind_some, n1, if_neg (by rw [iI_le (by omega) (by omega) (by omega) (by omega)]; omega), kRc_e hk, Option.bind_some, e1, Option.bind_some, if_neg (by simp), kRc_e hka, Option.bind_some, isTrue_ok hl, Option.bind_some, iL_1, iI_add, iI_add]
    have eg : gT T i = if fTr (tL T)[i] then 1 else 0 := by unfold gT; rw [hg]
    show _ = some (iI (c + (gT T i + nS (gT T) (i + 1) m) : Nat))
    rw [eg, ← Nat.add_assoc]
    cases fTr (tL T)[i] with
    | true =>
      rw [if_neg (show ¬ iB true = 0 by decide +kernel)]
      exact ih n (i + 1) (c + 1) (by omega) (by omega) (by omega)
    | false =>
      rw [if_pos (show iB false = 0 from rfl)]
      exact ih n (i + 1) c (by omega) (by omega) (by omega)
theorem trueLines_ok {ow : Nat → Nat × Nat} {x tb : Nat} {T : TbS} {w : kW} (h : Tb ow x w tb T) : fX8_trueLines tb w = some (iI (nS (gT T) 0 (tL T).length)) := by
  have hn1 := h.1.1
  have f := trueLines_loop h (tL T).length kFU 0 0 (by unfold kFU; omega) (by omega) (by omega)
  rw [Nat.zero_add] at f
  have e0 : (0 : Int32) = iI ((0 : Nat) : Int) := by decide +kernel
  rw [fX8_trueLines, e0]
  exact f
/-! the image: a table becomes another -/
theorem ksP_o {w : kW} {k a : Nat} {i : Int} {o : Option Nat} (h : kKd w a = k) (hb : ∀ b, o = some b → kKd w b = kCo k) (h0 : 0 ≤ i) (hi : i < kLn w a) (hn : kLn w a < 2147483648) : ksP w k (some a) (iI i) o = some (kSP w a i.toNat o) := by
  show (if kKd w a = k ∧ _ then (kIx (kLn w a) (iI i)).map _ else none) = _
  rw [if_pos ⟨h, by cases o with
    | none => rfl
    | some b => simp [hb b rfl]⟩, kIx_i h0 hi hn]; rfl
theorem cpP {α : Type} {w : kW} {t o r q i : Nat} {K : kW → Option α} (ht : kKd w t = 8) (ho : kKd w o = 8) (hp : kP w t 0 = some r) (hq : kP w o 0 = some q) (kr : kKd w r = 16) (kq : kKd w q = 16) (lr : kLn w r = 40) (lq : kLn w q = 40) (hi : i < 40) (hrf : ∀ b, kP w q i = some b → kKd w b = kCo 16) :
    ((kgP w 8 (some t) 0).bind fun v1 => (kgP w 8 (some o) 0).bind fun v2 => (kaP w 16 v2 (iI i)).bind fun v3 => (ksP w 16 v1 (iI i) v3).bind K) = K (kSP w r i (kP w q i)) := by
  rw [kgP_e ht, Option.bind_some, kgP_e ho, Option.bind_some, hp, hq, kaP_e kq (by omega) (by omega) (by omega), Option.bind_some, Int.toNat_natCast, ksP_o kr hrf (by omega) (by omega) (by omega), Option.bind_some, Int.toNat_natCast]
theorem cpI {α : Type} {w : kW} {t o r q i j : Nat} {K : kW → Option α} (ht : kKd w t = 8) (ho : kKd w o = 8) (hp : kP w t j = some r) (hq : kP w o j = some q) (kr : kKd w r = 14) (kq : kKd w q = 14) (lr : kLn w r = 40) (lq : kLn w q = 40) (hi : i < 40) :
    ((kgP w 8 (some t) j).bind fun v5 => (kgP w 8 (some o) j).bind fun v6 => (kaI w 14 v6 (iI i)).bind fun v7 => (ksI w 14 v5 (iI i) v7).bind K) = K (kSI w r i (kI w q i)) := by
  rw [kgP_e ht, Option.bind_some, kgP_e ho, Option.bind_some, hp, hq, kaI_e kq (by omega) (by omega) (by omega), Option.bind_some, Int.toNat_natCast, ksI_e kr (by omega) (by omega) (by omega), Option.bind_some, Int.toNat_natCast, if_neg (by decide)]
/-- what a copy has changed: rows of refs R, rows of ints Z -/
def Cq (R Z : Nat → Prop) (w w' : kW) : Prop := kKd w' = kKd w ∧ kLn w' = kLn w ∧ kSz w' = kSz w ∧ kJ w' = kJ w ∧ (∀ a, ¬ R a → kP w' a = kP w a) ∧ ∀ a, ¬ Z a → kI w' a = kI w a
theorem Cq.tr {R Z : Nat → Prop} {w w1 w2 : kW} (h1 : Cq R Z w w1) (h2 : Cq R Z w1 w2) : Cq R Z w w2 :=
  ⟨h2.1.trans h1.1, h2.2.1.trans h1.2.1, h2.2.2.1.trans h1.2.2.1, h2.2.2.2.1.trans h1.2.2.2.1, fun a ha => (h2.2.2.2.2.1 a ha).trans (h1.2.2.2.2.1 a ha), fun a ha => (h2.2.2.2.2.2 a ha).trans (h1.2.2.2.2.2 a ha)⟩
def Zr (r1 r2 r3 r4 r5 : Nat) : Nat → Prop := fun a => a = r1 ∨ a = r2 ∨ a = r3 ∨ a = r4 ∨ a = r5
theorem copy_loop {t o r0 r1 r2 r3 r4 r5 q0 q1 q2 q3 q4 q5 : Nat} (kont : kW → Option kW) (hr0 : t ≠ r0 ∧ o ≠ r0 ∧ q0 ≠ r0) (hz : (q1 ≠ r1 ∧ q1 ≠ r2 ∧ q1 ≠ r3 ∧ q1 ≠ r4 ∧ q1 ≠ r5) ∧ (q2 ≠ r1 ∧ q2 ≠ r2 ∧ q2 ≠ r3 ∧ q2 ≠ r4 ∧ q2 ≠ r5) ∧ (q3 ≠ r1 ∧ q3 ≠ r2 ∧ q3 ≠ r3 ∧ q3 ≠ r4 ∧ q3 ≠ r5) ∧ (q4 ≠ r1 ∧ q4 ≠ r2 ∧ q4 ≠ r3 ∧ q4 ≠ r4 ∧ q4 ≠ r5) ∧ (q5 ≠ r1 ∧ q5 ≠ r2 ∧ q5 ≠ r3 ∧ q5 ≠ r4 ∧ q5 ≠ r5)) (hd : r1 ≠ r2 ∧ r1 ≠ r3 ∧ r1 ≠ r4 ∧ r1 ≠ r5 ∧ r2 ≠ r3 ∧ r2 ≠ r4 ∧ r2 ≠ r5 ∧ r3 ≠ r4 ∧ r3 ≠ r5 ∧ r4 ≠ r5) :
    ∀ (m n i : Nat) (w : kW), m < n → i + m = 40 → kKd w t = 8 → kKd w o = 8 → (kP w t 0 = some r0 ∧ kP w t 1 = some r1 ∧ kP w t 2 = some r2 ∧ kP w t 3 = some r3 ∧ kP w t 4 = some r4 ∧ kP w t 5 = some r5) → (kP w o 0 = some q0 ∧ kP w o 1 = some q1 ∧ kP w o 2 = some q2 ∧ kP w o 3 = some q3 ∧ kP w o 4 = some q4 ∧ kP w o 5 = some q5) →
    (kKd w r0 = 16 ∧ kKd w q0 = 16 ∧ (kKd w r1 = 14 ∧ kKd w r2 = 14 ∧ kKd w r3 = 14 ∧ kKd w r4 = 14 ∧ kKd w r5 = 14) ∧ kKd w q1 = 14 ∧ kKd w q2 = 14 ∧ kKd w q3 = 14 ∧ kKd w q4 = 14 ∧ kKd w q5 = 14) →
    (kLn w r0 = 40 ∧ kLn w q0 = 40 ∧ (kLn w r1 = 40 ∧ kLn w r2 = 40 ∧ kLn w r3 = 40 ∧ kLn w r4 = 40 ∧ kLn w r5 = 40) ∧ kLn w q1 = 40 ∧ kLn w q2 = 40 ∧ kLn w q3 = 40 ∧ kLn w q4 = 40 ∧ kLn w q5 = 40) →
    (∀ j, j < 40 → ∀ b, kP w q0 j = some b → kKd w b = 1) →
    ∃ w', fX8_copyOf_L2 t (some o) n (fun _ q => kont q) (iI i) w = kont w' ∧ Cq (fun a => a = r0) (Zr r1 r2 r3 r4 r5) w w' ∧
      (∀ j, i ≤ j → j < 40 → kP w' r0 j = kP w q0 j ∧ kI w' r1 j = kI w q1 j ∧ kI w' r2 j = kI w q2 j ∧ kI w' r3 j = kI w q3 j ∧ kI w' r4 j = kI w q4 j ∧ kI w' r5 j = kI w q5 j) ∧
      (∀ j, j < i → kP w' r0 j = kP w r0 j ∧ kI w' r1 j = kI w r1 j ∧ kI w' r2 j = kI w r2 j ∧ kI w' r3 j = kI w r3 j ∧ kI w' r4 j = kI w r4 j ∧ kI w' r5 j = kI w r5 j) := by
  intro m
  induction m with
  | zero =>
    intro n i w hn hi ht ho hpt hpo hkk hll hrf
    obtain ⟨n, rfl⟩ : ∃ z, n = z + 1 := ⟨n - 1, by omega⟩
    refine ⟨w, ?_, ⟨rfl, rfl, rfl, rfl, fun _ _ => rfl, fun _ _ => rfl⟩, fun j h1 h2 => absurd h2 (by omega), fun j h1 => ⟨rfl, rfl, rfl, rfl, rfl, rfl⟩⟩
    rw [fX8_copyOf_L2, if_pos (by rw [iL_40, iI_le (by omega) (by omega) (by omega) (by omega)]; omega)]
  | succ m ih =>
    intro n i w hn hi ht ho hpt hpo hkk hll hrf
    obtain ⟨n, rfl⟩ : ∃ z, n = z + 1 := ⟨n - 1, by omega⟩
    obtain ⟨a0, a1, a2, a3, a4, a5⟩ := id hpt
    obtain ⟨b0, b1, b2, b3, b4, b5⟩ := id hpo
    obtain ⟨k0, l0, ⟨k1, k2, k3, k4, k5⟩, l1, l2, l3, l4, l5⟩ := id hkk
    obtain ⟨m0, n0, ⟨m1, m2, m3, m4, m5⟩, n1, n2, n3, n4, n5⟩ := id hll
    obtain ⟨d12, d13, d14, d15, d23, d24, d25, d34, d35, d45⟩ := id hd
    obtain ⟨⟨z11, z12, z13, z14, z15⟩, ⟨z21, z22, z23, z24, z25⟩, ⟨z31, z32, z33, z34, z35⟩, ⟨z41, z42, z43, z44, z45⟩, ⟨z51, z52, z53, z54, z55⟩⟩ := id hz
    have hrf' : ∀ b, kP w q0 i = some b → kKd w b = kCo 16 := fun b hb => hrf i (by omega) b hb
    have eP : ∀ {a j : Nat}, a ≠ r0 → kP (kSP w r0 i (kP w q0 i)) a j = kP w a j := fun h => kP_SP_o h
    have e2 : kI (kSI (kSP w r0 i (kP w q0 i)) r1 i (kI w q1 i)) q2 i = kI w q2 i := by rw [kI_SI_o z21]; rfl
    have e3 : kI (kSI (kSI (kSP w r0 i (kP w q0 i)) r1 i (kI w q1 i)) r2 i (kI w q2 i)) q3 i = kI w q3 i := by rw [kI_SI_o z32, kI_SI_o z31]; rfl
    have e4 : kI (kSI (kSI (kSI (kSP w r0 i (kP w q0 i)) r1 i (kI w q1 i)) r2 i (kI w q2 i)) r3 i (kI w q3 i)) q4 i = kI w q4 i := by rw [kI_SI_o z43, kI_SI_o z42, kI_SI_o z41]; rfl
    have e5 : kI (kSI (kSI (kSI (kSI (kSP w r0 i (kP w q0 i)) r1 i (kI w q1 i)) r2 i (kI w q2 i)) r3 i (kI w q3 i)) r4 i (kI w q4 i)) q5 i = kI w q5 i := by rw [kI_SI_o z54, kI_SI_o z53, kI_SI_o z52, kI_SI_o z51]; rfl
    have run : fX8_copyOf_L2 t (some o) (n + 1) (fun _ q => kont q) (iI i) w = fX8_copyOf_L2 t (some o) n (fun _ q => kont q) (iI (i + 1 : Nat)) (kSI (kSI (kSI (kSI (kSI (kSP w r0 i (kP w q0 i)) r1 i (kI w q1 i)) r2 i (kI w q2 i)) r3 i (kI w q3 i)) r4 i (kI w q4 i)) r5 i (kI w q5 i)) := by
      have hi40 : i < 40 := by omega
      rw [fX8_copyOf_L2, if_neg (by rw [iL_40, iI_le (by omega) (by omega) (by omega) (by omega)]; omega), cpP (w := w) ht ho a0 b0 k0 l0 m0 n0 hi40 hrf', cpI (w := (kSP w r0 i (kP w q0 i))) ht ho ((eP hr0.1).trans a1) ((eP hr0.2.1).trans b1) k1 l1 m1 n1 hi40, show kI (kSP w r0 i (kP w q0 i)) q1 i = kI w q1 i from rfl, cpI (w := (kSI (kSP w r0 i (kP w q0 i)) r1 i (kI w q1 i))) ht ho ((eP hr0.1).trans a2) ((eP hr0.2.1).trans b2) k2 l2 m2 n2 hi40, e2, cpI (w := (kSI (kSI (kSP w r0 i (kP w q0 i)) r1 i (kI w q1 i)) r2 i (kI w q2 i))) ht ho ((eP hr0.1).trans a3) ((eP hr0.2.1).trans b3) k3 l3 m3 n3 hi40, e3, cpI (w := (kSI (kSI (kSI (kSP w r0 i (kP w q0 i)) r1 i (kI w q1 i)) r2 i (kI w q2 i)) r3 i (kI w q3 i))) ht ho ((eP hr0.1).trans a4) ((eP hr0.2.1).trans b4) k4 l4 m4 n4 hi40, e4, cpI (w := (kSI (kSI (kSI (kSI (kSP w r0 i (kP w q0 i)) r1 i (kI w q1 i)) r2 i (kI w q2 i)) r3 i (kI w q3 i)) r4 i (kI w q4 i))) ht ho ((eP hr0.1).trans a5) ((eP hr0.2.1).trans b5) k5 l5 m5 n5 hi40, e5, iL_1, iI_add]
      rfl
    obtain ⟨w', r, c, g1, g2⟩ := ih n (i + 1) (kSI (kSI (kSI (kSI (kSI (kSP w r0 i (kP w q0 i)) r1 i (kI w q1 i)) r2 i (kI w q2 i)) r3 i (kI w q3 i)) r4 i (kI w q4 i)) r5 i (kI w q5 i)) (by omega) (by omega) ht ho
      ⟨(eP hr0.1).trans a0, (eP hr0.1).trans a1, (eP hr0.1).trans a2, (eP hr0.1).trans a3, (eP hr0.1).trans a4, (eP hr0.1).trans a5⟩
      ⟨(eP hr0.2.1).trans b0, (eP hr0.2.1).trans b1, (eP hr0.2.1).trans b2, (eP hr0.2.1).trans b3, (eP hr0.2.1).trans b4, (eP hr0.2.1).trans b5⟩ hkk hll
      (fun j hj b hb => hrf j hj b ((eP hr0.2.2).symm.trans hb))
    have c0 : Cq (fun a => a = r0) (Zr r1 r2 r3 r4 r5) w (kSI (kSI (kSI (kSI (kSI (kSP w r0 i (kP w q0 i)) r1 i (kI w q1 i)) r2 i (kI w q2 i)) r3 i (kI w q3 i)) r4 i (kI w q4 i)) r5 i (kI w q5 i)) := ⟨rfl, rfl, rfl, rfl, fun a ha => by funext j; exact kP_SP_o ha, fun a ha => by
      funext j
      rw [kI_SI_o (fun e => ha (Or.inr (Or.inr (Or.inr (Or.inr e))))), kI_SI_o (fun e => ha (Or.inr (Or.inr (Or.inr (Or.inl e))))), kI_SI_o (fun e => ha (Or.inr (Or.inr (Or.inl e)))), kI_SI_o (fun e => ha (Or.inr (Or.inl e))), kI_SI_o (fun e => ha (Or.inl e))]
      rfl⟩
    have s0 : kP (kSI (kSI (kSI (kSI (kSI (kSP w r0 i (kP w q0 i)) r1 i (kI w q1 i)) r2 i (kI w q2 i)) r3 i (kI w q3 i)) r4 i (kI w q4 i)) r5 i (kI w q5 i)) r0 i = kP w q0 i := kP_SP_s
    refine ⟨w', run.trans r, c0.tr c, fun j h1 h2 => ?_, fun j h1 => ?_⟩
    · by_cases e : j = i
      · subst e
        obtain ⟨y0, y1, y2, y3, y4, y5⟩ := g2 j (by omega)
        refine ⟨y0.trans s0, ?_, ?_, ?_, ?_, ?_⟩
        · rw [y1, kI_SI_o d15, kI_SI_o d14, kI_SI_o d13, kI_SI_o d12, kI_SI_s]
        · rw [y2, kI_SI_o d25, kI_SI_o d24, kI_SI_o d23, kI_SI_s]
        · rw [y3, kI_SI_o d35, kI_SI_o d34, kI_SI_s]
        · rw [y4, kI_SI_o d45, kI_SI_s]
        · rw [y5, kI_SI_s]
      · obtain ⟨y0, y1, y2, y3, y4, y5⟩ := g1 j (by omega) h2
        refine ⟨y0.trans (eP hr0.2.2), ?_, ?_, ?_, ?_, ?_⟩
        · rw [y1, kI_SI_o z15, kI_SI_o z14, kI_SI_o z13, kI_SI_o z12, kI_SI_o z11]; rfl
        · rw [y2, kI_SI_o z25, kI_SI_o z24, kI_SI_o z23, kI_SI_o z22, kI_SI_o z21]; rfl
        · rw [y3, kI_SI_o z35, kI_SI_o z34, kI_SI_o z33, kI_SI_o z32, kI_SI_o z31]; rfl
        · rw [y4, kI_SI_o z45, kI_SI_o z44, kI_SI_o z43, kI_SI_o z42, kI_SI_o z41]; rfl
        · rw [y5, kI_SI_o z55, kI_SI_o z54, kI_SI_o z53, kI_SI_o z52, kI_SI_o z51]; rfl
    · obtain ⟨y0, y1, y2, y3, y4, y5⟩ := g2 j (by omega)
      have hj : j ≠ i := by omega
      refine ⟨y0.trans (kP_SP_j hj), ?_, ?_, ?_, ?_, ?_⟩
      · rw [y1, kI_SI_o d15, kI_SI_o d14, kI_SI_o d13, kI_SI_o d12, kI_SI_j hj]; rfl
      · rw [y2, kI_SI_o d25, kI_SI_o d24, kI_SI_o d23, kI_SI_j hj, kI_SI_o (Ne.symm d12)]; rfl
      · rw [y3, kI_SI_o d35, kI_SI_o d34, kI_SI_j hj, kI_SI_o (Ne.symm d23), kI_SI_o (Ne.symm d13)]; rfl
      · rw [y4, kI_SI_o d45, kI_SI_j hj, kI_SI_o (Ne.symm d34), kI_SI_o (Ne.symm d24), kI_SI_o (Ne.symm d14)]; rfl
      · rw [y5, kI_SI_j hj, kI_SI_o (Ne.symm d45), kI_SI_o (Ne.symm d35), kI_SI_o (Ne.symm d25), kI_SI_o (Ne.symm d15)]; rfl
