/-! what changes it -/
def fu {α : Type} (f : Nat → α) (n : Nat) (v : α) : Nat → α := fun i => if i = n then v else f i
theorem fu_s {α : Type} (f : Nat → α) (n : Nat) (v : α) : fu f n v n = v := if_pos rfl
theorem fu_o {α : Type} (f : Nat → α) {n : Nat} (v : α) {i : Nat} (h : i ≠ n) : fu f n v i = f i := if_neg h
theorem row_ne {ow : Nat → Nat × Nat} {w : kW} {t c j k c' j' k' : Nat} (h : LnA ow w t c j k) (h' : LnA ow w t c' j' k') (hj : j ≠ j') : Lp w t j ≠ Lp w t j' := fun e => by
  have h1 := h.2.2.2
  rw [e, h'.2.2.2] at h1
  exact hj (by have := (Prod.mk.inj h1).2; omega)
theorem row_no {ow : Nat → Nat × Nat} {w : kW} {t c j k : Nat} (h : LnA ow w t c j k) (ho : ow t = (t, 0)) : Lp w t j ≠ t := fun e => by
  have h1 := h.2.2.2
  rw [e, ho] at h1
  have := (Prod.mk.inj h1).2
  omega
theorem Lp_eq {w w' : kW} {a : Nat} (h : kP w' a = kP w a) (j : Nat) : Lp w' a j = Lp w a j := by unfold Lp; rw [h]
theorem Li.sm {ow : Nat → Nat × Nat} {S : Nat → Prop} {x : Nat} {w w1 : kW} {a : Nat} {f : Fo} (h : Li ow x w a f) (hs : Sm ow S w w1) (ha : ¬ S a) : Li ow x w1 a f := h.fr hs.fr ha
theorem TbR.sm {ow : Nat → Nat × Nat} {S : Nat → Prop} {x : Nat} {w w1 : kW} {tb : Nat} (h : TbR ow x w tb) (hs : Sm ow S w w1) : TbR ow x w1 tb := by
  obtain ⟨hk, ho, r0, r1, r2, r3, r4, r5, r6, r7, r8⟩ := h
  refine ⟨by rw [hs.1]; exact hk, ho, r0.sm hs, r1.sm hs, r2.sm hs, r3.sm hs, r4.sm hs, r5.sm hs, r6.sm hs, ?_, ?_⟩
  · rw [hs.lp, hs.2.2.2.1, hs.1]; exact r7
  · rw [hs.lp, hs.2.2.2.1, hs.1]; exact r8
theorem makeKnown_ok {ow : Nat → Nat × Nat} {x tb : Nat} {T : TbS} {w : kW} (h : Tb ow x w tb T) (htb : tb < x + 237) {n s : Nat} (hn : n < (tL T).length) (h0 : tH T n = 0) (hs : s = 1 ∨ s = 2) :
    ∃ w' q, fX8_makeKnown tb (iI n) (iI s) w = some w' ∧ Tb ow x w' tb (tMk (tL T) (fu (tH T) n s) (tK T ++ [n]) (fu (tF T) n q) (tP T)) ∧ Sm ow (fun z => z = tb) w w' := by
  obtain ⟨hW, hR, ⟨n1, n2, n3⟩, v1, v2, v3, v4, v5⟩ := id h
  obtain ⟨hk, ho, r0, r1, r2, r3, r4, r5, r6, r7, r8⟩ := id hR
  have hl := hW.1
  have hkl := hW.kl
  have nin : n ∉ tK T := fun z => ((hW.2.2.2.1 n).mp z).2 h0
  have hK : (tK T).length < 40 := by
    have h1 := nodup_lt (tL T).length (n :: tK T) (List.nodup_cons.mpr ⟨nin, hW.2.2.1⟩) (fun k hk => by
      rcases List.mem_cons.mp hk with rfl | hk
      · exact hn
      · exact ((hW.2.2.2.1 k).mp hk).1)
    rw [List.length_cons] at h1
    omega
  obtain ⟨p1, k1, m1, o1⟩ := id r1
  obtain ⟨p2, k2, m2, o2⟩ := id r2
  have sm : Sm ow (fun z => z = tb) w (kSI (kSI (kSI w (Lp w tb 1) n (iI s)) (Lp w tb 2) (tK T).length (iI n)) tb 8 (iI ((tK T).length + 1))) := ((Sm.si (by rw [o1])).tr (Sm.si (by rw [o2]))).tr (Sm.si (by rw [ho]))
  have n12 := row_ne r1 r2 (by omega)
  have t1 := row_no r1 ho
  have t2 := row_no r2 ho
  have fT : ∀ j, j ≠ 8 → kI (kSI (kSI (kSI w (Lp w tb 1) n (iI s)) (Lp w tb 2) (tK T).length (iI n)) tb 8 (iI ((tK T).length + 1))) tb j = kI w tb j := fun j hj => by
    rw [kI_SI_j hj, kI_SI_o (Ne.symm t2), kI_SI_o (Ne.symm t1)]
  have fO : ∀ r, r ≠ tb → r ≠ Lp w tb 1 → r ≠ Lp w tb 2 → ∀ j, kI (kSI (kSI (kSI w (Lp w tb 1) n (iI s)) (Lp w tb 2) (tK T).length (iI n)) tb 8 (iI ((tK T).length + 1))) r j = kI w r j := fun r z1 z2 z3 j => by
    rw [kI_SI_o z1, kI_SI_o z3, kI_SI_o z2]
  obtain ⟨q1, -, -, e1⟩ := iI_of (kI w (Lp w tb 3) n)
  obtain ⟨q2, -, -, e2⟩ := iI_of (kI w (Lp w tb 4) n)
  obtain ⟨q3, -, -, e3⟩ := iI_of (kI w (Lp w tb 5) n)
  refine ⟨_, (q1, q2, q3), ?_, ⟨⟨hl, hW.2.1, ?_, ?_, ?_, hW.2.2.2.2.2⟩, hR.sm sm, ⟨?_, ?_, ?_⟩, ?_, ?_, ?_, ?_, ?_⟩, sm⟩
  · rw [fX8_makeKnown]
    simp (disch := (first | omega | (simp only [kKd_SI, kKd_SP, kKd_SJ, kLn_SI, kLn_SP, kLn_SJ]; omega))) only [iI_add, iI_sub, iI_mul, iI_neg, iI_n, iL_0, iL_1, iL_2, iL_3, iL_4, iL_5, iL_6, iL_7, iL_8, iL_9, iL_10, iL_11, iL_12, iL_13, iL_14, iL_15, iL_16, iL_17, iL_18, iL_19, iL_20, iL_21, iL_22, iL_23, iL_24, iL_27, iL_32, iL_40, iL_41, iL_43, iL_48, iL_49, iL_57, iL_59, iL_60, iL_62, iL_63, iL_64, iL_83, iL_99, iL_100, iL_107, iL_108, iL_109, iL_112, iL_115, iL_117, iL_118, iL_120, iL_121, iL_123, iL_126, iL_127, iL_136, iL_163, iL_200, iL_203, iL_243, iL_400, iL_512, iL_960, iL_1000, iL_2400, iL_4000, iL_6000, iL_8000, iL_8001, iL_9000, iL_10000, iL_12345, iL_65536, iL_1000000, iL_252645135, iL_858993459, iL_1103515245, iL_1431655765, iL_2147483647, iI_lt, iI_le, iI_eq, kgI_e, kgP_e, kpI_e, kpP_e, kal_e, kaI_e, kaP_e, kaJ_e, ksI_e, ksP_e, ksJ_e, kRc_e, kIx_i, Option.bind_some, Option.map_some, n2, p1, p2, m1, m2, if_pos, if_neg, ite_true, ite_false, Int.toNat_natCast, kI_SI_o (Ne.symm t1), kI_SI_o (Ne.symm t2), reduceIte, kKd_SI, kKd_SP, kKd_SJ, kLn_SI, kLn_SP, kLn_SJ, kP_SI, kP_SJ, kJ_SI, kJ_SP, kI_SP, kI_SJ, kSz_SI, kSz_SP, kSz_SJ]
  · show (tK T ++ [n]).Nodup
    exact List.nodup_append.mpr ⟨hW.2.2.1, by simp, fun a ha b hb => by
      rw [List.mem_singleton.mp hb]
      exact fun e => nin (e ▸ ha)⟩
  · intro k
    show k ∈ tK T ++ [n] ↔ k < (tL T).length ∧ fu (tH T) n s k ≠ 0
    rw [List.mem_append, List.mem_singleton, hW.2.2.2.1 k]
    by_cases e : k = n
    · subst e
      rw [fu_s]
      exact ⟨fun _ => ⟨hn, by omega⟩, fun _ => Or.inr rfl⟩
    · rw [fu_o _ _ e]
      exact ⟨fun z => z.elim (fun y => y) (fun y => absurd y e), fun z => Or.inl z⟩
  · intro k
    show fu (tH T) n s k ≤ 2
    by_cases e : k = n
    · subst e; rw [fu_s]; omega
    · rw [fu_o _ _ e]; exact hW.2.2.2.2.1 k
  · rw [fT 7 (by omega)]; exact n1
  · rw [kI_SI_s]
    show _ = iI ((tK T ++ [n]).length : Nat)
    simp
  · rw [fT 9 (by omega)]; exact n3
  · intro i f hf
    obtain ⟨a, g1, g2⟩ := v1 i f hf
    exact ⟨a, g1, g2.sm sm (by have := g2.2.2.2; omega)⟩
  · intro i hi
    show kI _ (Lp w tb 1) i = iI ((fu (tH T) n s i : Nat) : Int)
    rw [kI_SI_o t1, kI_SI_o n12]
    by_cases e : i = n
    · subst e; rw [fu_s, kI_SI_s]
    · rw [fu_o _ _ e, kI_SI_j e]; exact v2 i hi
  · intro i k hi
    have hi' : (tK T ++ [n])[i]? = some k := hi
    show kI _ (Lp w tb 2) i = iI k
    rw [kI_SI_o t2, kI_SI]
    by_cases e : i = (tK T).length
    · subst e
      rw [if_pos ⟨rfl, rfl⟩]
      simp at hi'
      rw [hi']
    · rw [if_neg (fun z => e z.2), kI_SI_o (Ne.symm n12)]
      refine v3 i k ?_
      rw [List.getElem?_append] at hi'
      by_cases hi2 : i < (tK T).length
      · rw [if_pos hi2] at hi'; exact hi'
      · rw [if_neg hi2] at hi'
        rw [List.getElem?_eq_none (by simp; omega)] at hi'
        cases hi'
  · intro i hi h2
    have h2' : fu (tH T) n s i = 2 := h2
    show kI _ (Lp w tb 3) i = iI (fu (tF T) n (q1, q2, q3) i).1 ∧ kI _ (Lp w tb 4) i = iI (fu (tF T) n (q1, q2, q3) i).2.1 ∧ kI _ (Lp w tb 5) i = iI (fu (tF T) n (q1, q2, q3) i).2.2
    rw [fO _ (row_no r3 ho) (row_ne r3 r1 (by omega)) (row_ne r3 r2 (by omega)), fO _ (row_no r4 ho) (row_ne r4 r1 (by omega)) (row_ne r4 r2 (by omega)), fO _ (row_no r5 ho) (row_ne r5 r1 (by omega)) (row_ne r5 r2 (by omega))]
    by_cases e : i = n
    · subst e
      rw [fu_s]
      exact ⟨e1, e2, e3⟩
    · rw [fu_o _ _ e] at h2' ⊢
      exact v4 i hi h2'
  · intro i u hu
    obtain ⟨p, g1, g2⟩ := v5 i u hu
    exact ⟨p, g1, g2.1.fr sm.fr (by have := g2.2; omega), g2.2⟩
theorem noteSource_ok {ow : Nat → Nat × Nat} {x tb : Nat} {T : TbS} {w : kW} (h : Tb ow x w tb T) (htb : tb < x + 237) {n : Nat} (hn : n < 40) (k a b : Int) :
    ∃ w', fX8_noteSource tb (iI n) (iI k) (iI a) (iI b) w = some w' ∧ Tb ow x w' tb (tMk (tL T) (tH T) (tK T) (fu (tF T) n (k, a, b)) (tP T)) ∧ Sm ow (fun z => z = tb) w w' := by
  obtain ⟨hW, hR, ⟨n1, n2, n3⟩, v1, v2, v3, v4, v5⟩ := id h
  obtain ⟨hk, ho, r0, r1, r2, r3, r4, r5, r6, r7, r8⟩ := id hR
  obtain ⟨p3, k3, m3, o3⟩ := id r3
  obtain ⟨p4, k4, m4, o4⟩ := id r4
  obtain ⟨p5, k5, m5, o5⟩ := id r5
  have sm : Sm ow (fun z => z = tb) w (kSI (kSI (kSI w (Lp w tb 3) n (iI k)) (Lp w tb 4) n (iI a)) (Lp w tb 5) n (iI b)) := ((Sm.si (by rw [o3])).tr (Sm.si (by rw [o4]))).tr (Sm.si (by rw [o5]))
  have n34 := row_ne r3 r4 (by omega)
  have n35 := row_ne r3 r5 (by omega)
  have n45 := row_ne r4 r5 (by omega)
  have fO : ∀ r, r ≠ Lp w tb 3 → r ≠ Lp w tb 4 → r ≠ Lp w tb 5 → ∀ j, kI (kSI (kSI (kSI w (Lp w tb 3) n (iI k)) (Lp w tb 4) n (iI a)) (Lp w tb 5) n (iI b)) r j = kI w r j := fun r z1 z2 z3 j => by
    rw [kI_SI_o z3, kI_SI_o z2, kI_SI_o z1]
  have t3 := row_no r3 ho
  have t4 := row_no r4 ho
  have t5 := row_no r5 ho
  refine ⟨_, ?_, ⟨hW, hR.sm sm, ⟨?_, ?_, ?_⟩, ?_, ?_, ?_, ?_, ?_⟩, sm⟩
  · rw [fX8_noteSource]
    simp (disch := (first | omega | (simp only [kKd_SI, kKd_SP, kKd_SJ, kLn_SI, kLn_SP, kLn_SJ]; omega))) only [iI_add, iI_sub, iI_mul, iI_neg, iI_n, iL_0, iL_1, iL_2, iL_3, iL_4, iL_5, iL_6, iL_7, iL_8, iL_9, iL_10, iL_11, iL_12, iL_13, iL_14, iL_15, iL_16, iL_17, iL_18, iL_19, iL_20, iL_21, iL_22, iL_23, iL_24, iL_27, iL_32, iL_40, iL_41, iL_43, iL_48, iL_49, iL_57, iL_59, iL_60, iL_62, iL_63, iL_64, iL_83, iL_99, iL_100, iL_107, iL_108, iL_109, iL_112, iL_115, iL_117, iL_118, iL_120, iL_121, iL_123, iL_126, iL_127, iL_136, iL_163, iL_200, iL_203, iL_243, iL_400, iL_512, iL_960, iL_1000, iL_2400, iL_4000, iL_6000, iL_8000, iL_8001, iL_9000, iL_10000, iL_12345, iL_65536, iL_1000000, iL_252645135, iL_858993459, iL_1103515245, iL_1431655765, iL_2147483647, iI_lt, iI_le, iI_eq, kgI_e, kgP_e, kpI_e, kpP_e, kal_e, kaI_e, kaP_e, kaJ_e, ksI_e, ksP_e, ksJ_e, kRc_e, kIx_i, Option.bind_some, Option.map_some, p3, p4, p5, m3, m4, m5, if_pos, if_neg, ite_true, ite_false, Int.toNat_natCast, reduceIte, kKd_SI, kKd_SP, kKd_SJ, kLn_SI, kLn_SP, kLn_SJ, kP_SI, kP_SJ, kJ_SI, kJ_SP, kI_SP, kI_SJ, kSz_SI, kSz_SP, kSz_SJ]
  · rw [fO _ (Ne.symm t3) (Ne.symm t4) (Ne.symm t5)]; exact n1
  · rw [fO _ (Ne.symm t3) (Ne.symm t4) (Ne.symm t5)]; exact n2
  · rw [fO _ (Ne.symm t3) (Ne.symm t4) (Ne.symm t5)]; exact n3
  · intro i f hf
    obtain ⟨a, g1, g2⟩ := v1 i f hf
    exact ⟨a, g1, g2.sm sm (by have := g2.2.2.2; omega)⟩
  · intro i hi
    show kI _ (Lp w tb 1) i = iI (tH T i)
    rw [fO _ (row_ne r1 r3 (by omega)) (row_ne r1 r4 (by omega)) (row_ne r1 r5 (by omega))]
    exact v2 i hi
  · intro i q hi
    show kI _ (Lp w tb 2) i = iI q
    rw [fO _ (row_ne r2 r3 (by omega)) (row_ne r2 r4 (by omega)) (row_ne r2 r5 (by omega))]
    exact v3 i q hi
  · intro i hi h2
    show kI _ (Lp w tb 3) i = iI (fu (tF T) n (k, a, b) i).1 ∧ kI _ (Lp w tb 4) i = iI (fu (tF T) n (k, a, b) i).2.1 ∧ kI _ (Lp w tb 5) i = iI (fu (tF T) n (k, a, b) i).2.2
    rw [kI_SI_o n35, kI_SI_o n34, kI_SI_o n45]
    by_cases e : i = n
    · subst e
      rw [fu_s, kI_SI_s, kI_SI_s, kI_SI_s]
      exact ⟨rfl, rfl, rfl⟩
    · rw [fu_o _ _ e, kI_SI_j e, kI_SI_j e, kI_SI_o (Ne.symm n34), kI_SI_j e, kI_SI_o (Ne.symm n45), kI_SI_o (Ne.symm n35)]
      exact v4 i hi h2
  · intro i u hu
    obtain ⟨p, g1, g2⟩ := v5 i u hu
    exact ⟨p, g1, g2.1.fr sm.fr (by have := g2.2; omega), g2.2⟩
theorem addLine_ok {ow : Nat → Nat × Nat} {x tb a : Nat} {f : Fo} {T : TbS} {w : kW} (h : Tb ow x w tb T) (htb : tb < x + 237) (hn : (tL T).length < 40) (ha : Li ow x w a f) :
    ∃ w', fX8_addLine tb (some a) w = some (iI (tL T).length, w') ∧ Tb ow x w' tb (tMk (tL T ++ [f]) (fu (tH T) (tL T).length 0) (tK T) (tF T) (tP T)) ∧ Sq ow (fun z => z = tb) w w' := by
  obtain ⟨hW, hR, ⟨n1, n2, n3⟩, v1, v2, v3, v4, v5⟩ := id h
  obtain ⟨hk, ho, r0, r1, r2, r3, r4, r5, r6, r7, r8⟩ := id hR
  have hkl := hW.kl
  obtain ⟨p0, k0, m0, o0⟩ := id r0
  obtain ⟨p1, k1, m1, o1⟩ := id r1
  have hka : kKd w a = 1 := ha.1.2.1.1.1
  have hoa : ow a = (a, 0) := ha.1.2.1.1.2.1
  have t0 := row_no r0 ho
  have t1 := row_no r1 ho
  have s1 : Sq ow (fun z => z = tb) w (kSP w (Lp w tb 0) (tL T).length (some a)) := Sq.sp (by rw [o0])
  have eP : kP (kSP w (Lp w tb 0) (tL T).length (some a)) tb = kP w tb := by funext j; exact kP_SP_o (Ne.symm t0)
  have sm2 : Sm ow (fun z => z = tb) (kSP w (Lp w tb 0) (tL T).length (some a)) (kSI (kSI (kSP w (Lp w tb 0) (tL T).length (some a)) (Lp w tb 1) (tL T).length (iI 0)) tb 7 (iI ((tL T).length + 1))) := (Sm.si (by rw [o1])).tr (Sm.si (by rw [ho]))
  have sq := s1.tr sm2.q
  have lp : ∀ j, Lp (kSI (kSI (kSP w (Lp w tb 0) (tL T).length (some a)) (Lp w tb 1) (tL T).length (iI 0)) tb 7 (iI ((tL T).length + 1))) tb j = Lp w tb j := fun j => by
    rw [sm2.lp, Lp_eq eP]
  have fO : ∀ r, r ≠ tb → r ≠ Lp w tb 1 → ∀ j, kI (kSI (kSI (kSP w (Lp w tb 0) (tL T).length (some a)) (Lp w tb 1) (tL T).length (iI 0)) tb 7 (iI ((tL T).length + 1))) r j = kI w r j := fun r z1 z2 j => by
    rw [kI_SI_o z1, kI_SI_o z2]; rfl
  have fT : ∀ j, j ≠ 7 → kI (kSI (kSI (kSP w (Lp w tb 0) (tL T).length (some a)) (Lp w tb 1) (tL T).length (iI 0)) tb 7 (iI ((tL T).length + 1))) tb j = kI w tb j := fun j hj => by
    rw [kI_SI_j hj, kI_SI_o (Ne.symm t1)]; rfl
  have fP : kP (kSI (kSI (kSP w (Lp w tb 0) (tL T).length (some a)) (Lp w tb 1) (tL T).length (iI 0)) tb 7 (iI ((tL T).length + 1))) = kP (kSP w (Lp w tb 0) (tL T).length (some a)) := rfl
  have la : ∀ {c j k : Nat}, LnA ow w tb c j k → LnA ow (kSI (kSI (kSP w (Lp w tb 0) (tL T).length (some a)) (Lp w tb 1) (tL T).length (iI 0)) tb 7 (iI ((tL T).length + 1))) tb c j k := fun {c j k} r => by
    refine LnA.sm (w := kSP w (Lp w tb 0) (tL T).length (some a)) ?_ sm2
    unfold LnA
    rw [eP, Lp_eq eP]
    exact r
  refine ⟨kSI (kSI (kSP w (Lp w tb 0) (tL T).length (some a)) (Lp w tb 1) (tL T).length (iI 0)) tb 7 (iI ((tL T).length + 1)), ?_, ⟨⟨by show (tL T ++ [f]).length ≤ 40; simp; omega, ?_, hW.2.2.1, ?_, ?_, hW.2.2.2.2.2⟩, ⟨hk, ho, la r0, la r1, la r2, la r3, la r4, la r5, la r6, ?_, ?_⟩, ⟨?_, ?_, ?_⟩, ?_, ?_, ?_, ?_, ?_⟩, sq⟩
  · rw [fX8_addLine]
    have ek : kKd w a = kCo 16 := hka
    simp (disch := (first | omega | (simp only [kKd_SI, kKd_SP, kKd_SJ, kLn_SI, kLn_SP, kLn_SJ]; omega))) only [iI_add, iI_sub, iI_mul, iI_neg, iI_n, iL_0, iL_1, iL_2, iL_3, iL_4, iL_5, iL_6, iL_7, iL_8, iL_9, iL_10, iL_11, iL_12, iL_13, iL_14, iL_15, iL_16, iL_17, iL_18, iL_19, iL_20, iL_21, iL_22, iL_23, iL_24, iL_27, iL_32, iL_40, iL_41, iL_43, iL_48, iL_49, iL_57, iL_59, iL_60, iL_62, iL_63, iL_64, iL_83, iL_99, iL_100, iL_107, iL_108, iL_109, iL_112, iL_115, iL_117, iL_118, iL_120, iL_121, iL_123, iL_126, iL_127, iL_136, iL_163, iL_200, iL_203, iL_243, iL_400, iL_512, iL_960, iL_1000, iL_2400, iL_4000, iL_6000, iL_8000, iL_8001, iL_9000, iL_10000, iL_12345, iL_65536, iL_1000000, iL_252645135, iL_858993459, iL_1103515245, iL_1431655765, iL_2147483647, iI_lt, iI_le, iI_eq, kgI_e, kgP_e, kpI_e, kpP_e, kal_e, kaI_e, kaP_e, kaJ_e, ksI_e, ksP_e, ksJ_e, kRc_e, kIx_i, Option.bind_some, Option.map_some, n1, p0, p1, m0, m1, if_pos, if_neg, ite_true, ite_false, Int.toNat_natCast, reduceIte, kKd_SI, kKd_SP, kKd_SJ, kLn_SI, kLn_SP, kLn_SJ, kP_SI, kP_SJ, kJ_SI, kJ_SP, kI_SP, kI_SJ, kSz_SI, kSz_SP, kSz_SJ, kI_SI_o (Ne.symm t1), eP, kI_SI_s, Int.add_sub_cancel]
  · intro g hg
    have hg' : g ∈ tL T ++ [f] := hg
    rcases List.mem_append.mp hg' with hg' | hg'
    · exact hW.2.1 g hg'
    · rw [List.mem_singleton.mp hg']
      exact ⟨ha.1.1, ha.2.2.1⟩
  · intro k
    show k ∈ tK T ↔ k < (tL T ++ [f]).length ∧ fu (tH T) (tL T).length 0 k ≠ 0
    rw [hW.2.2.2.1 k, List.length_append, List.length_singleton]
    by_cases e : k = (tL T).length
    · subst e
      rw [fu_s]
      exact ⟨fun z => absurd z.1 (Nat.lt_irrefl _), fun z => absurd rfl z.2⟩
    · rw [fu_o _ _ e]
      exact ⟨fun z => ⟨by omega, z.2⟩, fun z => ⟨by omega, z.2⟩⟩
  · intro k
    show fu (tH T) (tL T).length 0 k ≤ 2
    by_cases e : k = (tL T).length
    · subst e; rw [fu_s]; omega
    · rw [fu_o _ _ e]; exact hW.2.2.2.2.1 k
  · intro i hi b hb
    rw [lp, fP] at hb
    have hb' : (if Lp w tb 0 = Lp w tb 0 ∧ i = (tL T).length then some a else kP w (Lp w tb 0) i) = some b := hb
    by_cases e : i = (tL T).length
    · rw [if_pos ⟨rfl, e⟩] at hb'
      cases hb'
      exact ⟨hka, hoa, ha.2.2.2⟩
    · rw [if_neg (fun z => e z.2)] at hb'
      exact r7 i hi b hb'
  · intro i hi b hb
    rw [lp, fP, kP_SP_o (row_ne r6 r0 (by omega))] at hb
    exact r8 i hi b hb
  · rw [kI_SI_s]
    show _ = iI ((tL T ++ [f]).length : Nat)
    simp
  · rw [fT 8 (by omega)]; exact n2
  · rw [fT 9 (by omega)]; exact n3
  · intro i g hg
    have hg' : (tL T ++ [f])[i]? = some g := hg
    rw [lp, fP]
    by_cases e : i = (tL T).length
    · subst e
      simp at hg'
      subst hg'
      exact ⟨a, kP_SP_s, ha.fr sq.fr (by have := ha.2.2.2; omega)⟩
    · rw [kP_SP_j e]
      rw [List.getElem?_append] at hg'
      by_cases hi2 : i < (tL T).length
      · rw [if_pos hi2] at hg'
        obtain ⟨b, g1, g2⟩ := v1 i g hg'
        exact ⟨b, g1, g2.fr sq.fr (by have := g2.2.2.2; omega)⟩
      · rw [if_neg hi2] at hg'
        rw [List.getElem?_eq_none (by simp; omega)] at hg'
        cases hg'
  · intro i hi
    have hi' : i < (tL T ++ [f]).length := hi
    rw [List.length_append, List.length_singleton] at hi'
    show kI _ (Lp _ tb 1) i = iI ((fu (tH T) (tL T).length 0 i : Nat) : Int)
    rw [lp, kI_SI_o t1]
    by_cases e : i = (tL T).length
    · subst e; rw [fu_s, kI_SI_s]; rfl
    · rw [fu_o _ _ e, kI_SI_j e]; exact v2 i (by omega)
  · intro i q hi
    rw [lp, fO _ (row_no r2 ho) (row_ne r2 r1 (by omega))]
    exact v3 i q hi
  · intro i hi h2
    have h2' : fu (tH T) (tL T).length 0 i = 2 := h2
    have hi' : i < (tL T ++ [f]).length := hi
    rw [List.length_append, List.length_singleton] at hi'
    rw [lp, lp, lp, fO _ (row_no r3 ho) (row_ne r3 r1 (by omega)), fO _ (row_no r4 ho) (row_ne r4 r1 (by omega)), fO _ (row_no r5 ho) (row_ne r5 r1 (by omega))]
    by_cases e : i = (tL T).length
    · subst e; rw [fu_s] at h2'; cases h2'
    · rw [fu_o _ _ e] at h2'
      exact v4 i (by omega) h2'
  · intro i u hu
    obtain ⟨p, g1, g2⟩ := v5 i u hu
    refine ⟨p, ?_, g2.1.fr sq.fr (by have := g2.2; omega), g2.2⟩
    rw [lp, fP, kP_SP_o (row_ne r6 r0 (by omega))]
    exact g1
theorem addProgram_ok {ow : Nat → Nat × Nat} {x tb a : Nat} {u : List Int} {T : TbS} {w : kW} (h : Tb ow x w tb T) (htb : tb < x + 237) (hn : (tP T).length < 6) (hu : u.length ≤ 120 ∧ pFt u = none ∧ ∀ c ∈ u, -128 ≤ c ∧ c < 128) (ha : Pm ow x w a u) :
    ∃ w', fX8_addProgram tb (some a) w = some (iI (tP T).length, w') ∧ Tb ow x w' tb (tMk (tL T) (tH T) (tK T) (tF T) (tP T ++ [u])) ∧ Sq ow (fun z => z = tb) w w' := by
  obtain ⟨hW, hR, ⟨n1, n2, n3⟩, v1, v2, v3, v4, v5⟩ := id h
  obtain ⟨hk, ho, r0, r1, r2, r3, r4, r5, r6, r7, r8⟩ := id hR
  obtain ⟨p6, k6, m6, o6⟩ := id r6
  have hka : kKd w a = 3 := ha.1.1.1
  have hoa : ow a = (a, 0) := ha.1.1.2.1
  have t6 := row_no r6 ho
  have s1 : Sq ow (fun z => z = tb) w (kSP w (Lp w tb 6) (tP T).length (some a)) := Sq.sp (by rw [o6])
  have eP : kP (kSP w (Lp w tb 6) (tP T).length (some a)) tb = kP w tb := by funext j; exact kP_SP_o (Ne.symm t6)
  have sm2 : Sm ow (fun z => z = tb) (kSP w (Lp w tb 6) (tP T).length (some a)) (kSI (kSP w (Lp w tb 6) (tP T).length (some a)) tb 9 (iI ((tP T).length + 1))) := Sm.si (by rw [ho])
  have sq := s1.tr sm2.q
  have lp : ∀ j, Lp (kSI (kSP w (Lp w tb 6) (tP T).length (some a)) tb 9 (iI ((tP T).length + 1))) tb j = Lp w tb j := fun j => by
    rw [sm2.lp, Lp_eq eP]
  have fO : ∀ r, r ≠ tb → ∀ j, kI (kSI (kSP w (Lp w tb 6) (tP T).length (some a)) tb 9 (iI ((tP T).length + 1))) r j = kI w r j := fun r z1 j => by
    rw [kI_SI_o z1]; rfl
  have fT : ∀ j, j ≠ 9 → kI (kSI (kSP w (Lp w tb 6) (tP T).length (some a)) tb 9 (iI ((tP T).length + 1))) tb j = kI w tb j := fun j hj => by
    rw [kI_SI_j hj]; rfl
  have fP : kP (kSI (kSP w (Lp w tb 6) (tP T).length (some a)) tb 9 (iI ((tP T).length + 1))) = kP (kSP w (Lp w tb 6) (tP T).length (some a)) := rfl
  have la : ∀ {c j k : Nat}, LnA ow w tb c j k → LnA ow (kSI (kSP w (Lp w tb 6) (tP T).length (some a)) tb 9 (iI ((tP T).length + 1))) tb c j k := fun {c j k} r => by
    refine LnA.sm (w := kSP w (Lp w tb 6) (tP T).length (some a)) ?_ sm2
    unfold LnA
    rw [eP, Lp_eq eP]
    exact r
  refine ⟨kSI (kSP w (Lp w tb 6) (tP T).length (some a)) tb 9 (iI ((tP T).length + 1)), ?_, ⟨⟨hW.1, hW.2.1, hW.2.2.1, hW.2.2.2.1, hW.2.2.2.2.1, by show (tP T ++ [u]).length ≤ 6; simp; omega, ?_⟩, ⟨hk, ho, la r0, la r1, la r2, la r3, la r4, la r5, la r6, ?_, ?_⟩, ⟨?_, ?_, ?_⟩, ?_, ?_, ?_, ?_, ?_⟩, sq⟩
  · rw [fX8_addProgram]
    have ek : kKd w a = kCo 17 := hka
    simp (disch := (first | omega | (simp only [kKd_SI, kKd_SP, kKd_SJ, kLn_SI, kLn_SP, kLn_SJ]; omega))) only [iI_add, iI_sub, iI_mul, iI_neg, iI_n, iL_0, iL_1, iL_2, iL_3, iL_4, iL_5, iL_6, iL_7, iL_8, iL_9, iL_10, iL_11, iL_12, iL_13, iL_14, iL_15, iL_16, iL_17, iL_18, iL_19, iL_20, iL_21, iL_22, iL_23, iL_24, iL_27, iL_32, iL_40, iL_41, iL_43, iL_48, iL_49, iL_57, iL_59, iL_60, iL_62, iL_63, iL_64, iL_83, iL_99, iL_100, iL_107, iL_108, iL_109, iL_112, iL_115, iL_117, iL_118, iL_120, iL_121, iL_123, iL_126, iL_127, iL_136, iL_163, iL_200, iL_203, iL_243, iL_400, iL_512, iL_960, iL_1000, iL_2400, iL_4000, iL_6000, iL_8000, iL_8001, iL_9000, iL_10000, iL_12345, iL_65536, iL_1000000, iL_252645135, iL_858993459, iL_1103515245, iL_1431655765, iL_2147483647, iI_lt, iI_le, iI_eq, kgI_e, kgP_e, kpI_e, kpP_e, kal_e, kaI_e, kaP_e, kaJ_e, ksI_e, ksP_e, ksJ_e, kRc_e, kIx_i, Option.bind_some, Option.map_some, n3, p6, m6, if_pos, if_neg, ite_true, ite_false, Int.toNat_natCast, reduceIte, kKd_SI, kKd_SP, kKd_SJ, kLn_SI, kLn_SP, kLn_SJ, kP_SI, kP_SJ, kJ_SI, kJ_SP, kI_SP, kI_SJ, kSz_SI, kSz_SP, kSz_SJ, eP, kI_SI_s, Int.add_sub_cancel]
  · intro g hg
    have hg' : g ∈ tP T ++ [u] := hg
    rcases List.mem_append.mp hg' with hg' | hg'
    · exact hW.2.2.2.2.2.2 g hg'
    · rw [List.mem_singleton.mp hg']
      exact hu
  · intro i hi b hb
    rw [lp, fP, kP_SP_o (row_ne r0 r6 (by omega))] at hb
    exact r7 i hi b hb
  · intro i hi b hb
    rw [lp, fP] at hb
    have hb' : (if Lp w tb 6 = Lp w tb 6 ∧ i = (tP T).length then some a else kP w (Lp w tb 6) i) = some b := hb
    by_cases e : i = (tP T).length
    · rw [if_pos ⟨rfl, e⟩] at hb'
      cases hb'
      exact ⟨hka, hoa, ha.2⟩
    · rw [if_neg (fun z => e z.2)] at hb'
      exact r8 i hi b hb'
  · rw [fT 7 (by omega)]; exact n1
  · rw [fT 8 (by omega)]; exact n2
  · rw [kI_SI_s]
    show _ = iI ((tP T ++ [u]).length : Nat)
    simp
  · intro i g hg
    obtain ⟨b, g1, g2⟩ := v1 i g hg
    refine ⟨b, ?_, g2.fr sq.fr (by have := g2.2.2.2; omega)⟩
    rw [lp, fP, kP_SP_o (row_ne r0 r6 (by omega))]
    exact g1
  · intro i hi
    rw [lp, fO _ (row_no r1 ho)]
    exact v2 i hi
  · intro i q hi
    rw [lp, fO _ (row_no r2 ho)]
    exact v3 i q hi
  · intro i hi h2
    rw [lp, lp, lp, fO _ (row_no r3 ho), fO _ (row_no r4 ho), fO _ (row_no r5 ho)]
    exact v4 i hi h2
  · intro i g hg
    have hg' : (tP T ++ [u])[i]? = some g := hg
    rw [lp, fP]
    by_cases e : i = (tP T).length
    · subst e
      simp at hg'
      subst hg'
      exact ⟨a, kP_SP_s, ha.1.fr sq.fr (by have := ha.2; omega), ha.2⟩
    · rw [kP_SP_j e]
      rw [List.getElem?_append] at hg'
      by_cases hi2 : i < (tP T).length
      · rw [if_pos hi2] at hg'
        obtain ⟨b, g1, g2⟩ := v5 i g hg'
        exact ⟨b, g1, g2.1.fr sq.fr (by have := g2.2; omega), g2.2⟩
      · rw [if_neg hi2] at hg'
        rw [List.getElem?_eq_none (by simp; omega)] at hg'
        cases hg'
