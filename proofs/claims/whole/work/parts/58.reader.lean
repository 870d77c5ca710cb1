/-! THE READER, the class's -/
theorem setSign_ok {ow : Nat → Nat × Nat} {w : kW} {a cap : Nat} {v : List Nat} (h : Ln ow w a cap v) {i c : Nat} (hi : i < v.length) (hc : c < 128) : ∃ w', fX1_setSign a (iI i) (iI c) w = some w' ∧ Ln ow w' a cap (v.set i c) ∧ Sm ow (fun q => q = a) w w' := by
  obtain ⟨hS, hl, ⟨h5, hv⟩, h6⟩ := id h
  obtain ⟨hk, ho, hcap, ⟨p0, k0, n0, o0⟩, -⟩ := id hS
  have sm : Sm ow (fun q => q = a) w (kSI w (Lp w a 0) i (iI c)) := Sm.si (by rw [o0])
  have hne : a ≠ Lp w a 0 := fun e => by rw [← e, hk] at k0; omega
  refine ⟨kSI w (Lp w a 0) i (iI c), ?_, ⟨hS.sm sm, by rw [List.length_set]; exact hl, ⟨?_, fun j d hd => ?_⟩, ?_⟩, sm⟩
  · have hb : (iI c).toInt8.toInt32 = iI c := nar_b (by omega) (by omega)
    rw [fX1_setSign, if_neg (by rw [iL_0, iI_lt (by omega) (by omega) (by omega) (by omega)]; omega), kgI_e hk, Option.bind_some, h5, if_neg (by rw [iI_le (by omega) (by omega) (by omega) (by omega)]; omega), kgP_e hk, Option.bind_some, p0, kal_e k0, Option.bind_some, n0, if_neg (by rw [iI_le (by omega) (by omega) (by omega) (by omega)]; omega), Option.bind_some, hb, ksI_e k0 (by omega) (by rw [n0]; omega) (by rw [n0]; omega), Option.bind_some, Int.toNat_natCast, if_pos rfl, nar_b (by omega) (by omega)]
  · rw [kI_SI_o hne, List.length_set]; exact h5
  · rw [sm.lp, kI_SI]
    by_cases e : j = i
    · subst e
      rw [if_pos ⟨rfl, rfl⟩]
      rw [List.getElem?_set_self hi] at hd
      cases hd
      rfl
    · rw [if_neg (fun z => e z.2)]
      rw [List.getElem?_set_ne (Ne.symm e)] at hd
      exact hv j d hd
  · rw [kI_SI_o hne]; exact h6
def RdS (ow : Nat → Nat × Nat) (w : kW) (rd dr : Nat) : Prop := kKd w rd = 2 ∧ ow rd = (rd, 0) ∧ kP w rd 0 = some dr ∧ LnS ow w dr 60 ∧ LnA ow w rd 12 1 14 ∧ LnA ow w rd 60 2 15
def RdO (w : kW) (rd : Nat) (O : List Int) : Prop := kI w rd 3 = iI O.length ∧ O.length ≤ 12 ∧ ∀ (i : Nat) (c : Int), O.reverse[i]? = some c → kI w (Lp w rd 1) i = iI c
theorem rE_top : ∀ (O O' : List Int), rE O ≠ -1 :: O' := by
  intro O
  induction O with
  | nil => intro O' h; cases h
  | cons t O ih =>
    intro O' h
    have h' : (if t = -1 then rE O else t :: O) = -1 :: O' := h
    by_cases e : t = -1
    · rw [if_pos e] at h'; exact ih O' h'
    · rw [if_neg e] at h'; exact e (List.cons.inj h').1
/-- what is open lies in the draft -/
def RdB (v : List Nat) (O : List Int) : Prop := ∀ c ∈ O, c = -1 ∨ c = -2 ∨ (0 ≤ c ∧ c < v.length)
def Rd (ow : Nat → Nat × Nat) (w : kW) (rd dr : Nat) (s : RS) : Prop := RdS ow w rd dr ∧ Ln ow w dr 60 s.1 ∧ RdO w rd s.2.1 ∧ kI w rd 4 = iB s.2.2 ∧ RdB s.1 s.2.1 ∧ (s.2.2 = false → ∀ O', s.2.1 ≠ -1 :: O')
theorem RdS.sm {ow : Nat → Nat × Nat} {S : Nat → Prop} {w w1 : kW} {rd dr : Nat} (h : RdS ow w rd dr) (hs : Sm ow S w w1) : RdS ow w1 rd dr := by
  obtain ⟨h1, h2, h3, h4, h5, h6⟩ := h
  exact ⟨by rw [hs.1]; exact h1, h2, by rw [hs.2.2.2.1]; exact h3, h4.sm hs, h5.sm hs, h6.sm hs⟩
theorem RdS.fr {ow ow' : Nat → Nat × Nat} {S : Nat → Prop} {w w1 : kW} {rd dr : Nat} (h : RdS ow w rd dr) (hs : Fr ow ow' S w w1) (n1 : ¬ S rd) (n2 : ¬ S dr) : RdS ow' w1 rd dr := by
  obtain ⟨h1, h2, h3, h4, h5, h6⟩ := h
  have k19 : kKd w rd < 19 := by omega
  have hoa : (ow rd).1 = rd := by rw [h2]
  obtain ⟨e1, e2, e3, e4, e5, e6⟩ := hs rd k19 (by rw [hoa]; exact n1)
  exact ⟨by rw [e2]; exact h1, by rw [e1]; exact h2, by rw [e5]; exact h3, h4.fr hs n2, (h5.fr hs k19 (by omega) n1 hoa).1, (h6.fr hs k19 (by omega) n1 hoa).1⟩
theorem RdS.ne {ow : Nat → Nat × Nat} {w : kW} {rd dr : Nat} (h : RdS ow w rd dr) : rd ≠ dr := fun e => by
  have h1 := h.1
  have h4 := h.2.2.2.1.1
  rw [e, h4] at h1
  omega
theorem RdO.kp {ow : Nat → Nat × Nat} {S : Nat → Prop} {w w1 : kW} {rd dr : Nat} {O : List Int} (h : RdO w rd O) (hS : RdS ow w rd dr) (hs : Sm ow S w w1) (hn : ¬ S rd) : RdO w1 rd O := by
  obtain ⟨h1, h2, h3⟩ := h
  obtain ⟨s1, s2, s3, s4, s5, s6⟩ := hS
  refine ⟨by rw [hs.2.2.2.2.2 rd (by rw [s2]; exact hn)]; exact h1, h2, fun i c hc => ?_⟩
  rw [hs.lp, hs.2.2.2.2.2 (Lp w rd 1) (by rw [s5.2.2.2]; exact hn)]
  exact h3 i c hc
theorem RdO.top {w : kW} {rd : Nat} {t : Int} {O : List Int} (h : RdO w rd (t :: O)) : kI w (Lp w rd 1) O.length = iI t := h.2.2 O.length t (by
  rw [List.reverse_cons, List.getElem?_append_right (by simp)]
  simp)
theorem RdO.pop {ow : Nat → Nat × Nat} {w : kW} {rd dr : Nat} {t : Int} {O : List Int} (h : RdO w rd (t :: O)) (hS : RdS ow w rd dr) : RdO (kSI w rd 3 (iI O.length)) rd O := by
  obtain ⟨h1, h2, h3⟩ := h
  rw [List.length_cons] at h2
  refine ⟨kI_SI_s, by omega, fun i c hc => ?_⟩
  show kI (kSI w rd 3 (iI O.length)) (Lp w rd 1) i = iI c
  rw [kI_SI_o (row_no hS.2.2.2.2.1 hS.2.1)]
  refine h3 i c ?_
  rw [List.reverse_cons, List.getElem?_append_left (List.getElem?_eq_some_iff.mp hc).1]
  exact hc
theorem RdB.tl {v : List Nat} {t : Int} {O : List Int} (h : RdB v (t :: O)) : RdB v O := fun c hc => h c (List.mem_cons_of_mem _ hc)
theorem RdB_rE {v : List Nat} : ∀ {O : List Int}, RdB v O → RdB v (rE O) := by
  intro O
  induction O with
  | nil => exact fun h => h
  | cons t O ih =>
    intro h
    show RdB v (if t = -1 then rE O else t :: O)
    split
    · exact ih h.tl
    · exact h
theorem rdEnd_loop {ow : Nat → Nat × Nat} {rd dr : Nat} (kont : kW → Option kW) : ∀ (O : List Int) (fu : Nat) (w : kW), O.length < fu → RdS ow w rd dr → RdO w rd O → (∀ c ∈ O, -2 ≤ c ∧ c < 60) →
    ∃ w', fX2_endPart_L5 rd fu kont w = kont w' ∧ RdO w' rd (rE O) ∧ Sm ow (fun q => q = rd) w w' ∧ ∀ j, j ≠ 3 → kI w' rd j = kI w rd j := by
  intro O
  induction O with
  | nil =>
    intro fu w hf hS hO hb
    obtain ⟨fu, rfl⟩ : ∃ z, fu = z + 1 := ⟨fu - 1, by omega⟩
    refine ⟨w, ?_, hO, Sm.rf w, fun _ _ => rfl⟩
    have e3 : kI w rd 3 = iI 0 := hO.1
    rw [fX2_endPart_L5, kgI_e hS.1, Option.bind_some, e3, if_pos (by decide +kernel)]
  | cons t O ih =>
    intro fu w hf hS hO hb
    obtain ⟨fu, rfl⟩ : ∃ z, fu = z + 1 := ⟨fu - 1, by omega⟩
    rw [List.length_cons] at hf
    obtain ⟨hk, ho, p0, hd, r1, r2⟩ := id hS
    have e3 : kI w rd 3 = iI ((O.length + 1 : Nat) : Int) := hO.1
    have hl := hO.2.1
    rw [List.length_cons] at hl
    have ht := hO.top
    obtain ⟨b1, b2⟩ := hb t List.mem_cons_self
    have es : iI ((O.length + 1 : Nat) : Int) - (1 : Int32) = iI O.length := by
      rw [iL_1, iI_sub]; congr 1; omega
    have top : fX2_endPart_L5 rd (fu + 1) kont w = if iI t = (-1 : Int32) then fX2_endPart_L5 rd fu kont (kSI w rd 3 (iI O.length)) else kont w := by
      rw [fX2_endPart_L5, kgI_e hk, Option.bind_some, e3, if_neg (by rw [iL_0, iI_le (by omega) (by omega) (by omega) (by omega)]; omega), Option.bind_some, kgP_e hk, Option.bind_some, r1.1, kal_e r1.2.1, Option.bind_some, r1.2.2.1, if_neg (by rw [iI_lt (by omega) (by omega) (by omega) (by omega)]; omega), Option.bind_some, Option.bind_some, es, kaI_e r1.2.1 (by omega) (by rw [r1.2.2.1]; omega) (by rw [r1.2.2.1]; omega), Option.bind_some, Int.toNat_natCast, ht, Option.bind_some, es, kpI_e hk, Option.bind_some]
    rw [top]
    show ∃ w', _ ∧ RdO w' rd (if t = -1 then rE O else t :: O) ∧ _
    by_cases e : t = -1
    · rw [if_pos (by rw [e]; decide +kernel), if_pos e]
      have sm : Sm ow (fun q => q = rd) w (kSI w rd 3 (iI O.length)) := Sm.si (by rw [ho])
      obtain ⟨w', g1, g2, g3, g4⟩ := ih fu _ (by omega) (hS.sm sm) (hO.pop hS) (fun c hc => hb c (List.mem_cons_of_mem _ hc))
      exact ⟨w', g1, g2, sm.tr g3, fun j hj => by rw [g4 j hj, kI_SI_j hj]⟩
    · have en : (-1 : Int32) = iI (-1) := by decide +kernel
      rw [if_neg (by rw [en, iI_eq (by omega) (by omega) (by omega) (by omega)]; exact e), if_neg e]
      exact ⟨w, rfl, hO, Sm.rf w, fun _ _ => rfl⟩
theorem rdEnd_ok {ow : Nat → Nat × Nat} {w : kW} {rd dr : Nat} {v : List Nat} {O : List Int} (hS : RdS ow w rd dr) (hL : Ln ow w dr 60 v) (hO : RdO w rd O) (hB : RdB v O) :
    ∃ w', fX2_endPart rd w = some w' ∧ Rd ow w' rd dr (v, rE O, false) ∧ Sm ow (fun q => q = rd) w w' := by
  have sm : Sm ow (fun q => q = rd) w (kSI w rd 4 0) := Sm.si (by rw [hS.2.1])
  have hO1 : RdO (kSI w rd 4 0) rd O := by
    obtain ⟨h1, h2, h3⟩ := hO
    refine ⟨by rw [kI_SI_j (by omega)]; exact h1, h2, fun i c hc => ?_⟩
    show kI (kSI w rd 4 0) (Lp w rd 1) i = iI c
    rw [kI_SI_o (row_no hS.2.2.2.2.1 hS.2.1)]
    exact h3 i c hc
  have hv := hL.2.1
  obtain ⟨w', g1, g2, g3, g4⟩ := rdEnd_loop (fun q => some q) O kFU (kSI w rd 4 0) (by have := hO.2.1; unfold kFU; omega) (hS.sm sm) hO1 (fun c hc => by rcases hB c hc with h | h | h <;> omega)
  refine ⟨w', ?_, ⟨hS.sm (sm.tr g3), hL.sm (sm.tr g3) (Ne.symm hS.ne), g2, ?_, RdB_rE hB, fun _ => rE_top O⟩, sm.tr g3⟩
  · rw [fX2_endPart, kpI_e hS.1, Option.bind_some]
    exact g1
  · rw [g4 4 (by omega), kI_SI_s]; rfl
theorem RdB.ap {v u : List Nat} {O : List Int} (h : RdB v O) : RdB (v ++ u) O := fun c hc => by
  rcases h c hc with h | h | h
  · exact Or.inl h
  · exact Or.inr (Or.inl h)
  · refine Or.inr (Or.inr ⟨h.1, ?_⟩)
    rw [List.length_append]
    omega
def RdQ (rd dr : Nat) : Nat → Prop := fun q => q = rd ∨ q = dr
/-- what is put on top of what is open -/
theorem rdPush {ow : Nat → Nat × Nat} {w : kW} {rd dr : Nat} {v : List Nat} {O : List Int} (h : Rd ow w rd dr (v, O, true)) (hv : v.length < 60) (hl : O.length < 12) (t : Int) (ht : t = -1 ∨ (0 ≤ t ∧ t ≤ v.length)) (c : Nat) (hc : c < 128) :
    ∃ w', fX1_add dr (iI c) (kSI (kSI w (Lp w rd 1) O.length (iI t)) rd 3 (iI (O.length + 1))) = some w' ∧ Rd ow w' rd dr (v ++ [c], t :: O, true) ∧ Sm ow (RdQ rd dr) w w' := by
  obtain ⟨hS, hL, hO, h4, hB, hT⟩ := h
  obtain ⟨hk, ho, p0, hd, r1, r2⟩ := id hS
  have z1 := row_no r1 ho
  have sm : Sm ow (fun q => q = rd) w (kSI (kSI w (Lp w rd 1) O.length (iI t)) rd 3 (iI (O.length + 1))) := (Sm.si (by rw [r1.2.2.2])).tr (Sm.si (by rw [ho]))
  have hL1 : Lx ow (kSI (kSI w (Lp w rd 1) O.length (iI t)) rd 3 (iI (O.length + 1))) dr 60 (some v) := hL.sm sm (Ne.symm hS.ne)
  obtain ⟨w', e, g1, g2⟩ := add_ok hL1 c hc
  have ea : apc 60 (some v) [c] = some (v ++ [c]) := by simp [apc]; omega
  rw [ea] at g1
  have S1 := hS.sm sm
  have O1 : RdO (kSI (kSI w (Lp w rd 1) O.length (iI t)) rd 3 (iI (O.length + 1))) rd (t :: O) := by
    obtain ⟨h1, h2, h3⟩ := hO
    refine ⟨by rw [kI_SI_s]; rfl, by rw [List.length_cons]; omega, fun i d hi => ?_⟩
    rw [sm.lp, kI_SI_o z1, kI_SI]
    rw [List.reverse_cons] at hi
    by_cases e : i = O.length
    · subst e
      rw [if_pos ⟨rfl, rfl⟩]
      rw [List.getElem?_append_right (by simp)] at hi
      simp at hi
      rw [hi]
    · rw [if_neg (fun z => e z.2)]
      refine h3 i d ?_
      rw [List.getElem?_append] at hi
      by_cases hi2 : i < O.reverse.length
      · rw [if_pos hi2] at hi; exact hi
      · rw [if_neg hi2] at hi
        rw [List.getElem?_eq_none (by simp at hi2 ⊢; omega)] at hi
        cases hi
  refine ⟨w', e, ⟨S1.sm g2, g1, O1.kp S1 g2 hS.ne, ?_, fun d hd => ?_, fun z => (by cases z)⟩, (sm.wide (fun q hq => Or.inl hq)).tr (g2.wide (fun q hq => Or.inr hq))⟩
  · rw [g2.2.2.2.2.2 rd (by rw [ho]; exact hS.ne), kI_SI_j (by omega), kI_SI_o (Ne.symm z1)]; exact h4
  · rcases List.mem_cons.mp hd with rfl | hd
    · rcases ht with h | h
      · exact Or.inl h
      · refine Or.inr (Or.inr ⟨h.1, ?_⟩)
        show d < ((v ++ [c]).length : Int)
        rw [List.length_append, List.length_singleton]
        omega
    · exact hB.ap d hd
theorem rdSet {ow : Nat → Nat × Nat} {w : kW} {rd dr : Nat} {v : List Nat} {t : Int} {O : List Int} (h : Rd ow w rd dr (v, t :: O, false)) (t0 : 0 ≤ t) (t1 : t < v.length) (c : Nat) (hc : c < 128) :
    ∃ w', ((kgP w 2 (some rd) 0).bind fun v6 => (kgP w 2 (some rd) 1).bind fun v7 => (kaI w 14 v7 (iI O.length)).bind fun v8 => (kRc w 1 v6).bind fun b9 => (fX1_setSign b9 v8 (iI c) w).bind fun w10 => (kgP w10 2 (some rd) 1).bind fun v12 => (ksI w10 14 v12 (iI O.length) (-2 : Int32)).bind fun w13 => (kpI w13 2 (some rd) 4 (1 : Int32)).bind fun w14 => some ((1 : Int32), w14)) = some ((1 : Int32), w') ∧ Rd ow w' rd dr (v.set t.toNat c, -2 :: O, true) ∧ Sm ow (RdQ rd dr) w w' := by
  obtain ⟨hS, hL, hO, h4, hB, hT⟩ := h
  obtain ⟨hk, ho, p0, hd, r1, r2⟩ := id hS
  have hl12 := hO.2.1
  rw [List.length_cons] at hl12
  have ht := hO.top
  have hL' : Ln ow w dr 60 v := hL
  obtain ⟨w1, e1, g1, g2⟩ := setSign_ok hL' (i := t.toNat) (c := c) (by omega) hc
  have et : iI ((t.toNat : Nat) : Int) = iI t := by congr 1; omega
  rw [et] at e1
  have S1 := hS.sm g2
  obtain ⟨hk1, -, p01, hd1, q1, q2⟩ := id S1
  have O1 := hO.kp hS g2 hS.ne
  have z1 := row_no q1 ho
  have en : (-2 : Int32) = iI (-2) := by decide +kernel
  have sm : Sm ow (fun q => q = rd) w1 (kSI (kSI w1 (Lp w1 rd 1) O.length (-2)) rd 4 1) := (Sm.si (by rw [q1.2.2.2])).tr (Sm.si (by rw [ho]))
  refine ⟨kSI (kSI w1 (Lp w1 rd 1) O.length (-2)) rd 4 1, ?_, ⟨S1.sm sm, g1.sm sm (Ne.symm hS.ne), ⟨?_, by show O.length + 1 ≤ 12; omega, fun i d hi => ?_⟩, kI_SI_s, fun d hd' => ?_, fun z => (by cases z)⟩, (g2.wide (fun q hq => Or.inr hq)).tr (sm.wide (fun q hq => Or.inl hq))⟩
  · rw [kgP_e hk, Option.bind_some, p0, kgP_e hk, Option.bind_some, r1.1, kaI_e r1.2.1 (by omega) (by rw [r1.2.2.1]; omega) (by rw [r1.2.2.1]; omega), Option.bind_some, Int.toNat_natCast, ht, kRc_e hd.1, Option.bind_some, e1, Option.bind_some, kgP_e hk1, Option.bind_some, q1.1, ksI_e q1.2.1 (by omega) (by rw [q1.2.2.1]; omega) (by rw [q1.2.2.1]; omega), Option.bind_some, Int.toNat_natCast, if_neg (by decide), kpI_e (show kKd (kSI w1 (Lp w1 rd 1) O.length (-2)) rd = 2 from hk1), Option.bind_some]
  · rw [kI_SI_j (by omega), kI_SI_o (Ne.symm z1)]; exact O1.1
  · have hi' : (-2 :: O).reverse[i]? = some d := hi
    rw [sm.lp, kI_SI_o z1, kI_SI]
    rw [List.reverse_cons] at hi'
    by_cases e : i = O.length
    · subst e
      rw [if_pos ⟨rfl, rfl⟩]
      rw [List.getElem?_append_right (by simp)] at hi'
      simp at hi'
      rw [← hi', en]
    · rw [if_neg (fun z => e z.2)]
      refine O1.2.2 i d ?_
      rw [List.reverse_cons]
      rw [List.getElem?_append] at hi' ⊢
      by_cases hi2 : i < O.reverse.length
      · rw [if_pos hi2] at hi' ⊢; exact hi'
      · rw [if_neg hi2] at hi'
        rw [List.getElem?_eq_none (by simp at hi2 ⊢; omega)] at hi'
        cases hi'
  · have hd2 : d ∈ -2 :: O := hd'
    rcases List.mem_cons.mp hd2 with rfl | hd3
    · exact Or.inr (Or.inl rfl)
    · rcases hB.tl d hd3 with h | h | h
      · exact Or.inl h
      · exact Or.inr (Or.inl h)
      · exact Or.inr (Or.inr ⟨h.1, by show d < ((v.set t.toNat c).length : Int); rw [List.length_set]; exact h.2⟩)
theorem accepts_ok {ow : Nat → Nat × Nat} {w : kW} {rd dr : Nat} {s : RS} (h : Rd ow w rd dr s) (hv : s.1.length < 60) (c : Int) (h0 : -128 ≤ c) (h1 : c < 128) :
    ∃ w', fX2_accepts rd (iI c) w = some (iB (rStp s c).isSome, w') ∧ Sm ow (RdQ rd dr) w w' ∧ ∀ s', rStp s c = some s' → Rd ow w' rd dr s' ∧ s'.1.length ≤ s.1.length + 1 := by
  obtain ⟨v, O, aw⟩ := s
  obtain ⟨hS, hL, hO, h4, hB, hT⟩ := id h
  obtain ⟨hk, ho, p0, hd, r1, r2⟩ := id hS
  have hkd := hd.1
  have e3 : kI w rd 3 = iI O.length := hO.1
  have hl12 : O.length ≤ 12 := hO.2.1
  have hv' : v.length < 60 := hv
  cases aw with
  | true =>
    have e4 : kI w rd 4 = 1 := h4
    have top : fX2_accepts rd (iI c) w = kb2 (fX2_begins rd (iI c) w) fun v10 w8 => (kBl v10).bind fun v11 => some (v11, w8) := by
      rw [fX2_accepts, kgI_e hk, Option.bind_some, e4, if_neg (by decide +kernel), kRc_e hk, Option.bind_some]
    have eP : rStp (v, O, true) c = if 112 ≤ c ∧ c ≤ 117 then some (v ++ [c.toNat], rE O, false) else if (c = 126 ∨ c = 40) ∧ O.length < 12 then some (v ++ [c.toNat], (if c = 126 then -1 else (v.length : Int)) :: O, true) else none := rfl
    have lo := letterOf_ok c (by omega) (by omega)
    rw [top, fX2_begins, lo, Option.bind_some]
    by_cases cl : 112 ≤ c ∧ c ≤ 117
    · have el : leZ c = c - 112 := if_pos cl
      rw [if_pos cl] at eP
      have ec : ((c.toNat : Nat) : Int) = c := by omega
      have hLx : Lx ow w dr 60 (some v) := hL
      obtain ⟨w1, e1, g1, g2⟩ := add_ok hLx c.toNat (by omega)
      rw [ec] at e1
      have ea : apc 60 (some v) [c.toNat] = some (v ++ [c.toNat]) := by simp [apc]; omega
      rw [ea] at g1
      obtain ⟨w2, e2, g3, g4⟩ := rdEnd_ok (hS.sm g2) g1 (hO.kp hS g2 hS.ne) (hB.ap (u := [c.toNat]))
      refine ⟨w2, ?_, (g2.wide (fun q hq => Or.inr hq)).tr (g4.wide (fun q hq => Or.inl hq)), fun s' hs' => ?_⟩
      · rw [el, if_neg (by rw [iL_0, iI_lt (by omega) (by omega) (by omega) (by omega)]; omega), kgP_e hk, Option.bind_some, p0, kRc_e hkd, Option.bind_some, e1, Option.bind_some, kRc_e (hS.sm g2).1, Option.bind_some, e2, Option.bind_some, kb2_s, kBl_1, eP]
        rfl
      · rw [eP] at hs'
        cases hs'
        exact ⟨g3, by simp⟩
    · have el : leZ c = -1 := if_neg cl
      rw [if_neg cl] at eP
      rw [el, if_pos (by decide +kernel)]
      have stop : rStp (v, O, true) c = none → ∃ w', kb2 (some ((0 : Int32), w)) (fun v10 w8 => (kBl v10).bind fun v11 => some (v11, w8)) = some (iB (rStp (v, O, true) c).isSome, w') ∧ Sm ow (RdQ rd dr) w w' ∧ ∀ s', rStp (v, O, true) c = some s' → Rd ow w' rd dr s' ∧ s'.1.length ≤ (v, O, true).1.length + 1 := fun e => by
        rw [e]
        exact ⟨w, rfl, Sm.rf w, fun s' hs' => by cases hs'⟩
      by_cases c1 : c = 126
      · rw [if_pos (by rw [c1]; decide +kernel), kgI_e hk, Option.bind_some, e3, kgP_e hk, Option.bind_some, r1.1, kal_e r1.2.1, Option.bind_some, r1.2.2.1]
        by_cases c2 : O.length < 12
        · rw [if_pos ⟨Or.inl c1, c2⟩, if_pos c1, c1] at eP
          obtain ⟨w1, e1, g1, g2⟩ := rdPush h hv' c2 (-1) (Or.inl rfl) 126 (by omega)
          have z1 := row_no r1 ho
          have en : (-1 : Int32) = iI (-1) := by decide +kernel
          have e1' : fX1_add dr (iI 126) (kSI (kSI w (Lp w rd 1) O.length (iI (-1))) rd 3 (iI (O.length + 1))) = some w1 := e1
          refine ⟨w1, ?_, g2, fun s' hs' => ?_⟩
          · rw [if_pos (by rw [iI_lt (by omega) (by omega) (by omega) (by omega)]; omega), Option.bind_some, Option.bind_some, if_pos (by rw [c1]; decide +kernel), en, ksI_e r1.2.1 (by omega) (by rw [r1.2.2.1]; omega) (by rw [r1.2.2.1]; omega), Option.bind_some, Int.toNat_natCast, if_neg (by decide), kgI_e (show kKd (kSI w (Lp w rd 1) O.length (iI (-1))) rd = 2 from hk), Option.bind_some, kI_SI_o (Ne.symm z1), e3, iL_1, iI_add, kpI_e (show kKd (kSI w (Lp w rd 1) O.length (iI (-1))) rd = 2 from hk), Option.bind_some, kgP_e (show kKd (kSI (kSI w (Lp w rd 1) O.length (iI (-1))) rd 3 (iI (O.length + 1))) rd = 2 from hk), Option.bind_some, show kP (kSI (kSI w (Lp w rd 1) O.length (iI (-1))) rd 3 (iI (O.length + 1))) rd 0 = some dr from p0, kRc_e (show kKd (kSI (kSI w (Lp w rd 1) O.length (iI (-1))) rd 3 (iI (O.length + 1))) dr = 1 from hkd), Option.bind_some, c1, e1', Option.bind_some, kb2_s, ← iL_1, kBl_1, eP]
            rfl
          · rw [c1, eP] at hs'
            cases hs'
            exact ⟨g1, by simp⟩
        · rw [if_neg (fun z => c2 z.2)] at eP
          rw [if_neg (by rw [iI_lt (by omega) (by omega) (by omega) (by omega)]; omega)]
          exact stop eP
      · rw [if_neg (by rw [iL_126, iI_eq (by omega) (by omega) (by omega) (by omega)]; exact c1)]
        by_cases c3 : c = 40
        · rw [if_pos (by rw [c3]; decide +kernel), kgI_e hk, Option.bind_some, e3, kgP_e hk, Option.bind_some, r1.1, kal_e r1.2.1, Option.bind_some, r1.2.2.1]
          by_cases c2 : O.length < 12
          · rw [if_pos ⟨Or.inr c3, c2⟩, if_neg c1, c3] at eP
            obtain ⟨w1, e1, g1, g2⟩ := rdPush h hv' c2 v.length (Or.inr ⟨by omega, by omega⟩) 40 (by omega)
            have z1 := row_no r1 ho
            have e5 : kI w dr 5 = iI v.length := hL.2.2.1.1
            have e1' : fX1_add dr (iI 40) (kSI (kSI w (Lp w rd 1) O.length (iI v.length)) rd 3 (iI (O.length + 1))) = some w1 := e1
            refine ⟨w1, ?_, g2, fun s' hs' => ?_⟩
            · rw [if_pos (by rw [iI_lt (by omega) (by omega) (by omega) (by omega)]; omega), Option.bind_some, Option.bind_some, if_neg (by rw [iL_126, iI_eq (by omega) (by omega) (by omega) (by omega)]; exact c1), kgP_e hk, Option.bind_some, p0, kgI_e hkd, Option.bind_some, e5, ksI_e r1.2.1 (by omega) (by rw [r1.2.2.1]; omega) (by rw [r1.2.2.1]; omega), Option.bind_some, Int.toNat_natCast, if_neg (by decide), kgI_e (show kKd (kSI w (Lp w rd 1) O.length (iI v.length)) rd = 2 from hk), Option.bind_some, kI_SI_o (Ne.symm z1), e3, iL_1, iI_add, kpI_e (show kKd (kSI w (Lp w rd 1) O.length (iI v.length)) rd = 2 from hk), Option.bind_some, kgP_e (show kKd (kSI (kSI w (Lp w rd 1) O.length (iI v.length)) rd 3 (iI (O.length + 1))) rd = 2 from hk), Option.bind_some, show kP (kSI (kSI w (Lp w rd 1) O.length (iI v.length)) rd 3 (iI (O.length + 1))) rd 0 = some dr from p0, kRc_e (show kKd (kSI (kSI w (Lp w rd 1) O.length (iI v.length)) rd 3 (iI (O.length + 1))) dr = 1 from hkd), Option.bind_some, c3, e1', Option.bind_some, kb2_s, ← iL_1, kBl_1, eP]
              rfl
            · rw [c3, eP] at hs'
              cases hs'
              exact ⟨g1, by simp⟩
          · rw [if_neg (fun z => c2 z.2)] at eP
            rw [if_neg (by rw [iI_lt (by omega) (by omega) (by omega) (by omega)]; omega)]
            exact stop eP
        · rw [if_neg (fun z => z.1.elim c1 c3)] at eP
          rw [if_neg (by rw [iL_40, iI_eq (by omega) (by omega) (by omega) (by omega)]; exact c3)]
          exact stop eP
  | false =>
    have e4 : kI w rd 4 = 0 := h4
    have top : fX2_accepts rd (iI c) w = kb2 (fX2_goesOn rd (iI c) w) fun v5 w3 => (kBl v5).bind fun v6 => some (v6, w3) := by
      rw [fX2_accepts, kgI_e hk, Option.bind_some, e4, if_pos rfl, kRc_e hk, Option.bind_some]
    rw [top, fX2_goesOn, kgI_e hk, Option.bind_some, e3]
    cases O with
    | nil =>
      rw [if_pos (by decide +kernel)]
      exact ⟨w, rfl, Sm.rf w, fun s' hs' => by cases hs'⟩
    | cons t O =>
      have ht := hO.top
      rw [List.length_cons] at hl12
      have es : iI (((t :: O).length : Nat) : Int) - (1 : Int32) = iI O.length := by
        rw [iL_1, iI_sub, List.length_cons]; congr 1; omega
      have bt := hB t List.mem_cons_self
      have eP : rStp (v, t :: O, false) c = if t = -2 then (if c = 41 then some (v, rE O, false) else none) else if c = 118 ∨ c = 62 then some (v.set t.toNat c.toNat, -2 :: O, true) else none := rfl
      have stop : rStp (v, t :: O, false) c = none → ∃ w', kb2 (some ((0 : Int32), w)) (fun v5 w3 => (kBl v5).bind fun v6 => some (v6, w3)) = some (iB (rStp (v, t :: O, false) c).isSome, w') ∧ Sm ow (RdQ rd dr) w w' ∧ ∀ s', rStp (v, t :: O, false) c = some s' → Rd ow w' rd dr s' ∧ s'.1.length ≤ (v, t :: O, false).1.length + 1 := fun e => by
        rw [e]
        exact ⟨w, rfl, Sm.rf w, fun s' hs' => by cases hs'⟩
      have e2 : (-2 : Int32) = iI (-2) := by decide +kernel
      rw [es, if_neg (by rw [iL_0, iI_lt (by omega) (by omega) (by omega) (by omega)]; omega), kgP_e hk, Option.bind_some, r1.1, kal_e r1.2.1, Option.bind_some, r1.2.2.1, if_pos (by rw [iI_lt (by omega) (by omega) (by omega) (by omega)]; omega), Option.bind_some, kaI_e r1.2.1 (by omega) (by rw [r1.2.2.1]; omega) (by rw [r1.2.2.1]; omega), Option.bind_some, Int.toNat_natCast, ht]
      by_cases c1 : t = -2
      · rw [if_pos c1] at eP
        rw [if_pos (by rw [c1]; decide +kernel)]
        by_cases c2 : c = 41
        · rw [if_pos c2] at eP
          have sm : Sm ow (fun q => q = rd) w (kSI w rd 3 (iI O.length)) := Sm.si (by rw [ho])
          obtain ⟨w2, e2', g3, g4⟩ := rdEnd_ok (hS.sm sm) (hL.sm sm (Ne.symm hS.ne)) (hO.pop hS) hB.tl
          refine ⟨w2, ?_, (sm.tr g4).wide (fun q hq => Or.inl hq), fun s' hs' => ?_⟩
          · rw [if_pos (by rw [c2]; decide +kernel), Option.bind_some, es, kpI_e hk, Option.bind_some, kRc_e (hS.sm sm).1, Option.bind_some, e2', Option.bind_some, kb2_s, kBl_1, eP]
            rfl
          · rw [eP] at hs'
            cases hs'
            exact ⟨g3, Nat.le_succ _⟩
        · rw [if_neg c2] at eP
          have e41 : (41 : Int32) = iI 41 := by decide +kernel
          rw [if_neg (by rw [e41, iI_eq (by omega) (by omega) (by omega) (by omega)]; exact c2)]
          exact stop eP
      · rw [if_neg c1] at eP
        rw [if_neg (by rw [e2, iI_eq (by omega) (by omega) (by omega) (by omega)]; exact c1)]
        -- the top is no ~: they have been taken away
        by_cases cs : c = 118 ∨ c = 62
        · rw [if_pos cs] at eP
          have tn : t ≠ -1 := fun e => hT rfl O (by rw [e])
          have tb : 0 ≤ t ∧ t < v.length := by
            rcases bt with h | h | h
            · exact absurd h tn
            · exact absurd h c1
            · exact h
          obtain ⟨w1, e1, g1, g2⟩ := rdSet h tb.1 tb.2 c.toNat (by omega)
          have ec : ((c.toNat : Nat) : Int) = c := by omega
          rw [ec, kgP_e hk, Option.bind_some, kgP_e hk, Option.bind_some, r1.1] at e1
          have fin : ∀ s', rStp (v, t :: O, false) c = some s' → Rd ow w1 rd dr s' ∧ s'.1.length ≤ (v, t :: O, false).1.length + 1 := fun s' hs' => by
            rw [eP] at hs'
            cases hs'
            exact ⟨g1, by show (v.set t.toNat c.toNat).length ≤ v.length + 1; rw [List.length_set]; omega⟩
          refine ⟨w1, ?_, g2, fin⟩
          rw [eP]
          rcases cs with cs | cs
          · rw [if_pos (by rw [cs]; decide +kernel), kgP_e hk, Option.bind_some, Option.bind_some, e1, kb2_s, kBl_1]
            rfl
          · rw [if_neg (by rw [cs]; decide +kernel), if_pos (by rw [cs]; decide +kernel), kgP_e hk, Option.bind_some, Option.bind_some, e1, kb2_s, kBl_1]
            rfl
        · rw [if_neg cs] at eP
          rw [if_neg (by rw [iL_118, iI_eq (by omega) (by omega) (by omega) (by omega)]; omega), if_neg (by rw [iL_62, iI_eq (by omega) (by omega) (by omega) (by omega)]; omega)]
          exact stop eP
theorem read_loop {ow : Nat → Nat × Nat} {rd dr r : Nat} {l : List Int} (hb : ∀ c ∈ l, -128 ≤ c ∧ c < 128) (hr : ¬ RdQ rd dr (ow r).1) (hN : l.length ≤ 120) (kont : kW → Option (Int32 × kW)) : ∀ (m fu i : Nat) (w : kW) (s : RS), m < fu → i + m = l.length → Rw w r 120 l → Rd ow w rd dr s → s.1.length ≤ i →
    ∃ w', fX2_readText_L19 rd (some r) (iI l.length) fu (fun _ q => kont q) (iI i) w = (match rGo s (l.drop i) i with | .inl j => some (iI j, w') | .inr _ => kont w') ∧ Sm ow (RdQ rd dr) w w' ∧ RdS ow w' rd dr ∧ ∀ s', rGo s (l.drop i) i = .inr s' → Rd ow w' rd dr s' := by
  intro m
  induction m with
  | zero =>
    intro fu i w s hf hi hw h hl
    obtain ⟨fu, rfl⟩ : ∃ z, fu = z + 1 := ⟨fu - 1, by omega⟩
    have e : l.drop i = [] := List.drop_eq_nil_of_le (by omega)
    rw [e]
    refine ⟨w, ?_, Sm.rf w, h.1, fun s' hs' => ?_⟩
    · rw [fX2_readText_L19, if_pos (by rw [iI_le (by omega) (by omega) (by omega) (by omega)]; omega)]
      rfl
    · have e2 : s = s' := Sum.inr.inj hs'
      rw [← e2]; exact h
  | succ m ih =>
    intro fu i w s hf hi hw h hl
    obtain ⟨fu, rfl⟩ : ∃ z, fu = z + 1 := ⟨fu - 1, by omega⟩
    have hlt : i < l.length := by omega
    obtain ⟨k0, n0, l0, v0⟩ := id hw
    have hv := v0 i l[i] (List.getElem?_eq_getElem hlt)
    obtain ⟨b0, b1⟩ := hb l[i] (List.getElem_mem hlt)
    have hd : l.drop i = l[i] :: l.drop (i + 1) := List.drop_eq_getElem_cons hlt
    rw [hd]
    by_cases c60 : 60 ≤ i
    · rw [rGo_60 _ c60]
      refine ⟨w, ?_, Sm.rf w, h.1, fun s' hs' => (by cases hs')⟩
      rw [fX2_readText_L19, if_neg (by rw [iI_le (by omega) (by omega) (by omega) (by omega)]; omega), kal_e k0, Option.bind_some, n0, if_neg (by rw [iI_le (by omega) (by omega) (by omega) (by omega)]; omega), if_pos (by rw [iL_60, iI_le (by omega) (by omega) (by omega) (by omega)]; omega)]
    · obtain ⟨w1, e1, m1, i1⟩ := accepts_ok h (by omega) l[i] b0 b1
      have run : fX2_readText_L19 rd (some r) (iI l.length) (fu + 1) (fun _ q => kont q) (iI i) w = if iB (rStp s l[i]).isSome = 0 then some (iI i, w1) else fX2_readText_L19 rd (some r) (iI l.length) fu (fun _ q => kont q) (iI (i + 1 : Nat)) w1 := by
        rw [fX2_readText_L19, if_neg (by rw [iI_le (by omega) (by omega) (by omega) (by omega)]; omega), kal_e k0, Option.bind_some, n0, if_neg (by rw [iI_le (by omega) (by omega) (by omega) (by omega)]; omega), if_neg (by rw [iL_60, iI_le (by omega) (by omega) (by omega) (by omega)]; omega), kaI_e k0 (by omega) (by rw [n0]; omega) (by omega), Option.bind_some, Int.toNat_natCast, hv, kRc_e h.1.1, Option.bind_some, e1, kb2_s, iL_1, iI_add]
        rfl
      rw [run]
      cases hp : rStp s l[i] with
      | none =>
        rw [rGo_stop _ hp, if_pos (show iB (none : Option RS).isSome = 0 from rfl)]
        exact ⟨w1, rfl, m1, h.1.sm m1, fun s' hs' => (by cases hs')⟩
      | some s2 =>
        rw [rGo_step _ (by omega) hp, if_neg (show ¬ iB (some s2).isSome = 0 by show ¬ iB true = 0; decide +kernel)]
        obtain ⟨z1, z2⟩ := i1 s2 hp
        obtain ⟨w2, e2, m2, r2, i2⟩ := ih fu (i + 1) w1 s2 (by omega) (by omega) (hw.sm m1 hr) z1 (by omega)
        exact ⟨w2, e2, m1.tr m2, r2, i2⟩
theorem readText_ok {ow : Nat → Nat × Nat} {w : kW} {rd dr r : Nat} {l : List Int} (hS : RdS ow w rd dr) (hb : ∀ c ∈ l, -128 ≤ c ∧ c < 128) (hr : ¬ RdQ rd dr (ow r).1) (hN : l.length ≤ 120) (hw : Rw w r 120 l) :
    ∃ w', fX2_readText rd (some r) (iI l.length) w = some (iI (match pF l with | some j => (j : Int) | none => -4), w') ∧ Sm ow (RdQ rd dr) w w' ∧ RdS ow w' rd dr ∧ (pF l = none → Ln ow w' dr 60 (fPre (pT l))) := by
  obtain ⟨hk, ho, p0, hd, r1, r2⟩ := id hS
  obtain ⟨w1, e1, g1, m1⟩ := clear_ok hd
  have S1 := hS.sm m1
  have m2 : Sm ow (fun q => q = rd) w1 (kSI (kSI w1 rd 3 0) rd 4 1) := (Sm.si (by rw [ho])).tr (Sm.si (by rw [ho]))
  have M := (m1.wide (S' := RdQ rd dr) (fun q hq => Or.inr hq)).tr (m2.wide (fun q hq => Or.inl hq))
  have h0 : Rd ow (kSI (kSI w1 rd 3 0) rd 4 1) rd dr ([], [], true) := ⟨S1.sm m2, g1.sm m2 (Ne.symm hS.ne), ⟨by rw [kI_SI_j (by omega), kI_SI_s]; rfl, by show 0 ≤ 12; omega, fun i c hc => by simp at hc⟩, kI_SI_s, fun c hc => by simp at hc, fun z => (by cases z)⟩
  obtain ⟨w2, e2, m3, S2, i2⟩ := read_loop hb hr hN (fun w8 => (kgI w8 2 (some rd) 4).bind fun v9 => if v9 = 0 then (kgI w8 2 (some rd) 3).bind fun v10 => if v10 = 0 then some ((-4 : Int32), w8) else some (iI l.length, w8) else some (iI l.length, w8)) l.length kFU 0 (kSI (kSI w1 rd 3 0) rd 4 1) ([], [], true) (by unfold kFU; omega) (by omega) (hw.sm M hr) h0 (Nat.le_refl 0)
  have e0 : (0 : Int32) = iI ((0 : Nat) : Int) := by decide +kernel
  have en : (-4 : Int32) = iI (-4) := by decide +kernel
  rw [List.drop_zero] at e2 i2
  obtain ⟨p1, p2⟩ := pF_go l
  refine ⟨w2, ?_, M.tr m3, S2, fun hp => ?_⟩
  · rw [fX2_readText, kgP_e hk, Option.bind_some, p0, kRc_e hd.1, Option.bind_some, e1, Option.bind_some, kpI_e S1.1, Option.bind_some, kpI_e (show kKd (kSI w1 rd 3 0) rd = 2 from S1.1), Option.bind_some]
    refine Eq.trans ?_ (e2.trans ?_)
    · rw [e0]
    · cases hp : pF l with
      | some j =>
        rcases p1 j hp with h | ⟨s', h1, h2, h3⟩
        · rw [h]
        · rw [h1]
          have hR := i2 s' h1
          obtain ⟨hS', hL', hO', h4', -⟩ := hR
          show ((kgI w2 2 (some rd) 4).bind fun v9 => if v9 = 0 then (kgI w2 2 (some rd) 3).bind fun v10 => if v10 = 0 then some ((-4 : Int32), w2) else some (iI l.length, w2) else some (iI l.length, w2)) = some (iI j, w2)
          rw [kgI_e hS'.1, Option.bind_some, h4', kgI_e hS'.1, Option.bind_some, hO'.1, h2]
          rcases h3 with h3 | h3
          · rw [h3, if_neg (by decide +kernel)]
          · have hl : s'.2.1.length ≠ 0 := fun e => h3 (List.length_eq_zero_iff.mp e)
            have hl12 := hO'.2.1
            rw [if_neg (show ¬ iI (s'.2.1.length : Int) = 0 by rw [iL_0, iI_eq (by omega) (by omega) (by omega) (by omega)]; omega)]
            split <;> rfl
      | none =>
        obtain ⟨h1, -⟩ := p2 hp
        rw [h1]
        obtain ⟨hS', hL', hO', h4', -⟩ := i2 _ h1
        have h40 : kI w2 rd 4 = 0 := h4'
        have h30 : kI w2 rd 3 = iI ((0 : Nat) : Int) := hO'.1
        show ((kgI w2 2 (some rd) 4).bind fun v9 => if v9 = 0 then (kgI w2 2 (some rd) 3).bind fun v10 => if v10 = 0 then some ((-4 : Int32), w2) else some (iI l.length, w2) else some (iI l.length, w2)) = some (iI (-4), w2)
        rw [kgI_e hS'.1, Option.bind_some, h40, if_pos rfl, kgI_e hS'.1, Option.bind_some, h30, if_pos e0.symm, en]
  · obtain ⟨h1, -⟩ := p2 hp
    exact (i2 _ h1).2.1
