theorem copy_prog {t o r q : Nat} (kont : kW → Option kW) (hr : t ≠ r ∧ o ≠ r ∧ q ≠ r) :
    ∀ (m n i : Nat) (w : kW), m < n → i + m = 6 → kKd w t = 8 → kKd w o = 8 → kP w t 6 = some r → kP w o 6 = some q → kKd w r = 17 → kKd w q = 17 → kLn w r = 6 → kLn w q = 6 → (∀ j, j < 6 → ∀ b, kP w q j = some b → kKd w b = 3) →
    ∃ w', fX8_copyOf_L88 t (some o) n (fun _ q => kont q) (iI i) w = kont w' ∧ Cq (fun a => a = r) (fun _ => False) w w' ∧ (∀ j, i ≤ j → j < 6 → kP w' r j = kP w q j) ∧ ∀ j, j < i → kP w' r j = kP w r j := by
  intro m
  induction m with
  | zero =>
    intro n i w hn hi ht ho hpt hpo kr kq lr lq hrf
    obtain ⟨n, rfl⟩ : ∃ z, n = z + 1 := ⟨n - 1, by omega⟩
    refine ⟨w, ?_, ⟨rfl, rfl, rfl, rfl, fun _ _ => rfl, fun _ _ => rfl⟩, fun j h1 h2 => absurd h2 (by omega), fun j h1 => rfl⟩
    rw [fX8_copyOf_L88, if_pos (by rw [iL_6, iI_le (by omega) (by omega) (by omega) (by omega)]; omega)]
  | succ m ih =>
    intro n i w hn hi ht ho hpt hpo kr kq lr lq hrf
    obtain ⟨n, rfl⟩ : ∃ z, n = z + 1 := ⟨n - 1, by omega⟩
    have hrf' : ∀ b, kP w q i = some b → kKd w b = kCo 17 := fun b hb => hrf i (by omega) b hb
    have eP : ∀ {a j : Nat}, a ≠ r → kP (kSP w r i (kP w q i)) a j = kP w a j := fun h => kP_SP_o h
    have run : fX8_copyOf_L88 t (some o) (n + 1) (fun _ q => kont q) (iI i) w = fX8_copyOf_L88 t (some o) n (fun _ q => kont q) (iI (i + 1 : Nat)) (kSP w r i (kP w q i)) := by
      rw [fX8_copyOf_L88, if_neg (by rw [iL_6, iI_le (by omega) (by omega) (by omega) (by omega)]; omega), kgP_e ht, Option.bind_some, kgP_e ho, Option.bind_some, hpt, hpo, kaP_e kq (by omega) (by omega) (by omega), Option.bind_some, Int.toNat_natCast, ksP_o kr hrf' (by omega) (by omega) (by omega), Option.bind_some, Int.toNat_natCast, iL_1, iI_add]
      rfl
    obtain ⟨w', e, c, g1, g2⟩ := ih n (i + 1) (kSP w r i (kP w q i)) (by omega) (by omega) ht ho ((eP hr.1).trans hpt) ((eP hr.2.1).trans hpo) kr kq lr lq (fun j hj b hb => hrf j hj b ((eP hr.2.2).symm.trans hb))
    have c0 : Cq (fun a => a = r) (fun _ => False) w (kSP w r i (kP w q i)) := ⟨rfl, rfl, rfl, rfl, fun a ha => by funext j; exact kP_SP_o ha, fun a _ => rfl⟩
    refine ⟨w', run.trans e, c0.tr c, fun j h1 h2 => ?_, fun j h1 => ?_⟩
    · by_cases e : j = i
      · subst e
        rw [g2 j (by omega), kP_SP_s]
      · rw [g1 j (by omega) h2]
        exact eP hr.2.2
    · rw [g2 j (by omega)]
      exact kP_SP_j (by omega)
theorem copyOf_ok {ow : Nat → Nat × Nat} {x t o : Nat} {T : TbS} {w : kW} (hR : TbR ow x w t) (h : Tb ow x w o T) (hto : t ≠ o) (ht237 : t < x + 237) (ho237 : o < x + 237) :
    ∃ w', fX8_copyOf t (some o) w = some w' ∧ Tb ow x w' t T ∧ Sq ow (fun z => z = t) w w' := by
  obtain ⟨hW, hRo, ⟨n1, n2, n3⟩, v1, v2, v3, v4, v5⟩ := id h
  obtain ⟨ht, hot, r0, r1, r2, r3, r4, r5, r6, r7, r8⟩ := id hR
  obtain ⟨ho, hoo, q0, q1, q2, q3, q4, q5, q6, q7, q8⟩ := id hRo
  have far : ∀ {c j k c' j' k' : Nat}, LnA ow w o c j k → LnA ow w t c' j' k' → Lp w o j ≠ Lp w t j' := fun a b e => by
    have h1 := a.2.2.2
    rw [e, b.2.2.2] at h1
    exact hto (Prod.mk.inj h1).1
  have far2 : ∀ {c' j' k' : Nat}, LnA ow w t c' j' k' → o ≠ Lp w t j' := fun b e => by
    rw [e, b.2.2.2] at hoo
    exact absurd (Prod.mk.inj hoo).2 (by omega)
  obtain ⟨w1, e1, c1, g1, -⟩ := copy_loop (t := t) (o := o) (fun w2 => fX8_copyOf_L88 t (some o) kFU (fun y2_3 w4 => (kgI w4 8 (some o) 7).bind fun v5 => (kpI w4 8 (some t) 7 v5).bind fun w6 => (kgI w6 8 (some o) 8).bind fun v7 => (kpI w6 8 (some t) 8 v7).bind fun w8 => (kgI w8 8 (some o) 9).bind fun v9 => (kpI w8 8 (some t) 9 v9).bind fun w10 => some w10) (0 : Int32) w2)
    ⟨Ne.symm (row_no r0 hot), far2 r0, far q0 r0⟩
    ⟨⟨far q1 r1, far q1 r2, far q1 r3, far q1 r4, far q1 r5⟩, ⟨far q2 r1, far q2 r2, far q2 r3, far q2 r4, far q2 r5⟩, ⟨far q3 r1, far q3 r2, far q3 r3, far q3 r4, far q3 r5⟩, ⟨far q4 r1, far q4 r2, far q4 r3, far q4 r4, far q4 r5⟩, ⟨far q5 r1, far q5 r2, far q5 r3, far q5 r4, far q5 r5⟩⟩
    ⟨row_ne r1 r2 (by omega), row_ne r1 r3 (by omega), row_ne r1 r4 (by omega), row_ne r1 r5 (by omega), row_ne r2 r3 (by omega), row_ne r2 r4 (by omega), row_ne r2 r5 (by omega), row_ne r3 r4 (by omega), row_ne r3 r5 (by omega), row_ne r4 r5 (by omega)⟩
    40 kFU 0 w (by unfold kFU; omega) (by omega) ht ho ⟨r0.1, r1.1, r2.1, r3.1, r4.1, r5.1⟩ ⟨q0.1, q1.1, q2.1, q3.1, q4.1, q5.1⟩
    ⟨r0.2.1, q0.2.1, ⟨r1.2.1, r2.2.1, r3.2.1, r4.2.1, r5.2.1⟩, q1.2.1, q2.2.1, q3.2.1, q4.2.1, q5.2.1⟩
    ⟨r0.2.2.1, q0.2.2.1, ⟨r1.2.2.1, r2.2.2.1, r3.2.2.1, r4.2.2.1, r5.2.2.1⟩, q1.2.2.1, q2.2.2.1, q3.2.2.1, q4.2.2.1, q5.2.2.1⟩
    (fun j hj b hb => (q7 j hj b hb).1)
  have z1 : ∀ a, a ≠ Lp w t 0 → kP w1 a = kP w a := c1.2.2.2.2.1
  have f6 : ∀ {a : Nat}, a ≠ Lp w t 0 → ∀ j, kP w1 a j = kP w a j := fun ha j => by rw [z1 _ ha]
  obtain ⟨w2, e2, c2, g2, -⟩ := copy_prog (t := t) (o := o) (r := Lp w t 6) (q := Lp w o 6) (fun w4 => (kgI w4 8 (some o) 7).bind fun v5 => (kpI w4 8 (some t) 7 v5).bind fun w6 => (kgI w6 8 (some o) 8).bind fun v7 => (kpI w6 8 (some t) 8 v7).bind fun w8 => (kgI w8 8 (some o) 9).bind fun v9 => (kpI w8 8 (some t) 9 v9).bind fun w10 => some w10)
    ⟨Ne.symm (row_no r6 hot), far2 r6, far q6 r6⟩ 6 kFU 0 w1 (by unfold kFU; omega) (by omega) (by rw [c1.1]; exact ht) (by rw [c1.1]; exact ho)
    ((f6 (Ne.symm (row_no r0 hot)) 6).trans r6.1) ((f6 (far2 r0) 6).trans q6.1) (by rw [c1.1]; exact r6.2.1) (by rw [c1.1]; exact q6.2.1) (by rw [c1.2.1]; exact r6.2.2.1) (by rw [c1.2.1]; exact q6.2.2.1)
    (fun j hj b hb => by rw [c1.1]; rw [f6 (far q6 r0)] at hb; exact (q8 j hj b hb).1)
  -- the facts of the world behind both loops
  have kd2 : kKd w2 = kKd w := c2.1.trans c1.1
  have ln2 : kLn w2 = kLn w := c2.2.1.trans c1.2.1
  have ht2 : kKd w2 t = 8 := by rw [kd2]; exact ht
  have ho2 : kKd w2 o = 8 := by rw [kd2]; exact ho
  have i12 : ∀ a, kI w2 a = kI w1 a := fun a => c2.2.2.2.2.2 a (fun z => z)
  have p12 : ∀ a, a ≠ Lp w t 6 → kP w2 a = kP w1 a := c2.2.2.2.2.1
  have io : kI w2 o = kI w o := (i12 o).trans (c1.2.2.2.2.2 o (fun z => by
    rcases z with z | z | z | z | z
    · exact far2 r1 z
    · exact far2 r2 z
    · exact far2 r3 z
    · exact far2 r4 z
    · exact far2 r5 z))
  have io7 : kI w2 o 7 = iI (tL T).length := by rw [io]; exact n1
  have io8 : kI w2 o 8 = iI (tK T).length := by rw [io]; exact n2
  have io9 : kI w2 o 9 = iI (tP T).length := by rw [io]; exact n3
  have s3 : Sm ow (fun z => z = t) w2 (kSI (kSI (kSI w2 t 7 (iI (tL T).length)) t 8 (iI (tK T).length)) t 9 (iI (tP T).length)) := ((Sm.si (by rw [hot])).tr (Sm.si (by rw [hot]))).tr (Sm.si (by rw [hot]))
  have sq1 : Sq ow (fun z => z = t) w w2 := by
    refine ⟨kd2, ln2, c2.2.2.1.trans c1.2.2.1, fun b hb => ⟨?_, ?_, ?_⟩⟩
    · rw [i12 b]
      refine c1.2.2.2.2.2 b (fun z => hb ?_)
      rcases z with z | z | z | z | z
      · rw [z, r1.2.2.2]
      · rw [z, r2.2.2.2]
      · rw [z, r3.2.2.2]
      · rw [z, r4.2.2.2]
      · rw [z, r5.2.2.2]
    · rw [p12 b (fun z => hb (by rw [z, r6.2.2.2])), z1 b (fun z => hb (by rw [z, r0.2.2.2]))]
    · rw [c2.2.2.2.1, c1.2.2.2.1]
  have sq := sq1.tr s3.q
  refine ⟨kSI (kSI (kSI w2 t 7 (iI (tL T).length)) t 8 (iI (tK T).length)) t 9 (iI (tP T).length), ?_, ?_, sq⟩
  · rw [fX8_copyOf]
    have e0 : (0 : Int32) = iI ((0 : Nat) : Int) := by decide +kernel
    refine Eq.trans ?_ (e1.trans (Eq.trans ?_ (e2.trans ?_)))
    · rw [e0]
    · rw [e0]
    · show ((kgI w2 8 (some o) 7).bind fun v5 => (kpI w2 8 (some t) 7 v5).bind fun w6 => (kgI w6 8 (some o) 8).bind fun v7 => (kpI w6 8 (some t) 8 v7).bind fun w8 => (kgI w8 8 (some o) 9).bind fun v9 => (kpI w8 8 (some t) 9 v9).bind fun w10 => some w10) = _
      have no : o ≠ t := Ne.symm hto
      rw [kgI_e ho2, Option.bind_some, io7, kpI_e ht2, Option.bind_some, kgI_e (show kKd (kSI w2 t 7 (iI (tL T).length)) o = 8 from ho2), Option.bind_some, kI_SI_o no, io8, kpI_e (show kKd (kSI w2 t 7 (iI (tL T).length)) t = 8 from ht2), Option.bind_some, kgI_e (show kKd (kSI (kSI w2 t 7 (iI (tL T).length)) t 8 (iI (tK T).length)) o = 8 from ho2), Option.bind_some, kI_SI_o no, kI_SI_o no, io9, kpI_e (show kKd (kSI (kSI w2 t 7 (iI (tL T).length)) t 8 (iI (tK T).length)) t = 8 from ht2), Option.bind_some]
  · have pt : kP w2 t = kP w t := (p12 t (Ne.symm (row_no r6 hot))).trans (z1 t (Ne.symm (row_no r0 hot)))
    have lpt : ∀ j, Lp (kSI (kSI (kSI w2 t 7 (iI (tL T).length)) t 8 (iI (tK T).length)) t 9 (iI (tP T).length)) t j = Lp w t j := fun j => by
      rw [s3.lp, Lp_eq pt]
    have la : ∀ {c j k : Nat}, LnA ow w t c j k → LnA ow (kSI (kSI (kSI w2 t 7 (iI (tL T).length)) t 8 (iI (tK T).length)) t 9 (iI (tP T).length)) t c j k := fun {c j k} r => by
      refine LnA.sm (w := w2) ?_ s3
      unfold LnA
      rw [pt, Lp_eq pt, kd2, ln2]
      exact r
    have kd3 : kKd (kSI (kSI (kSI w2 t 7 (iI (tL T).length)) t 8 (iI (tK T).length)) t 9 (iI (tP T).length)) = kKd w := kd2
    have P0 : ∀ j, j < 40 → kP (kSI (kSI (kSI w2 t 7 (iI (tL T).length)) t 8 (iI (tK T).length)) t 9 (iI (tP T).length)) (Lp w t 0) j = kP w (Lp w o 0) j := fun j hj => by
      show kP w2 (Lp w t 0) j = _
      rw [p12 _ (row_ne r0 r6 (by omega))]
      exact (g1 j (Nat.zero_le _) hj).1
    have P6 : ∀ j, j < 6 → kP (kSI (kSI (kSI w2 t 7 (iI (tL T).length)) t 8 (iI (tK T).length)) t 9 (iI (tP T).length)) (Lp w t 6) j = kP w (Lp w o 6) j := fun j hj => by
      show kP w2 (Lp w t 6) j = _
      rw [g2 j (Nat.zero_le _) hj, f6 (far q6 r0)]
    have I3 : ∀ r, r ≠ t → ∀ j, kI (kSI (kSI (kSI w2 t 7 (iI (tL T).length)) t 8 (iI (tK T).length)) t 9 (iI (tP T).length)) r j = kI w1 r j := fun r hr j => by
      rw [kI_SI_o hr, kI_SI_o hr, kI_SI_o hr, i12]
    have hL := hW.1
    have hKl := hW.kl
    have hPl := hW.2.2.2.2.2.1
    refine ⟨hW, ⟨by rw [kd3]; exact ht, hot, la r0, la r1, la r2, la r3, la r4, la r5, la r6, fun i hi b hb => ?_, fun i hi b hb => ?_⟩, ⟨?_, ?_, ?_⟩, fun i f hf => ?_, fun i hi => ?_, fun i k hi => ?_, fun i hi h2 => ?_, fun i u hu => ?_⟩
    · rw [lpt, P0 i hi] at hb
      rw [kd3]
      exact q7 i hi b hb
    · rw [lpt, P6 i hi] at hb
      rw [kd3]
      exact q8 i hi b hb
    · rw [kI_SI_j (by omega), kI_SI_j (by omega), kI_SI_s]
    · rw [kI_SI_j (by omega), kI_SI_s]
    · rw [kI_SI_s]
    · obtain ⟨a, y1, y2⟩ := v1 i f hf
      have hl := (List.getElem?_eq_some_iff.mp hf).1
      exact ⟨a, by rw [lpt, P0 i (by omega)]; exact y1, y2.fr sq.fr (by have := y2.2.2.2; omega)⟩
    · rw [lpt, I3 _ (row_no r1 hot), (g1 i (Nat.zero_le _) (by omega)).2.1]
      exact v2 i hi
    · have hl := (List.getElem?_eq_some_iff.mp hi).1
      rw [lpt, I3 _ (row_no r2 hot), (g1 i (Nat.zero_le _) (by omega)).2.2.1]
      exact v3 i k hi
    · obtain ⟨-, -, -, y3, y4, y5⟩ := g1 i (Nat.zero_le _) (by omega)
      rw [lpt, lpt, lpt, I3 _ (row_no r3 hot), I3 _ (row_no r4 hot), I3 _ (row_no r5 hot), y3, y4, y5]
      exact v4 i hi h2
    · obtain ⟨p, y1, y2⟩ := v5 i u hu
      have hl := (List.getElem?_eq_some_iff.mp hu).1
      exact ⟨p, by rw [lpt, P6 i (by omega)]; exact y1, y2.1.fr sq.fr (by have := y2.2; omega), y2.2⟩
