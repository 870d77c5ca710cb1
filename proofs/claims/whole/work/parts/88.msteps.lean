/-! THE MODEL: widest of lines; steps by ifs -/
theorem Ml.sz {w : rW} {l : Nat} {f : Fo} (h : Ml w l f) : fSz f ≤ 60 := fSz_le60 h.2.1.1 h.2.2.1
theorem Ml.to {w : rW} {l : Nat} {f : Fo} (h : Ml w l f) : iI (60 * l : Nat) + iI (tln f) = iI (60 * l + tln f : Nat) := by rw [iI_add]; rfl
theorem Ml.rq {A : Nat → Nat → Prop} {Q : Nat → Prop} {w w' : rW} {l : Nat} {f : Fo} (h : Ml w l f) (hs : Rq A Q w w') (h0 : ∀ j, j < 2400 → ¬ A 0 j) (h2 : ∀ j, ¬ A 2 j) : Ml w' l f :=
  ⟨h.1, h.2.1.rq hs (fun j j1 j2 => h0 j (by have := h.1; have := h.2.2.1; omega)), h.2.2.1, by rw [hs.1 2 _ (h2 _)]; exact h.2.2.2⟩
theorem mWidest {w : rW} {a b : Nat} {F G : Fo} (hF : Ml w a F) (hG : Ml w b G) : ∃ w', fX12_isWidest (iI a) (iI b) w = some (iB (fWi 7 F G).isSome, w') ∧ Rq WdA WdF w w' ∧ ∀ H, fWi 7 F G = some H → rF w' 17 = iI (4000 + tln H : Nat) ∧ Lt w' 4000 H ∧ fSz H ≤ 200 := by
  have b1 := hF.1
  have b2 := hG.1
  have t1 := hF.2.2.1
  have t2 := hG.2.2.1
  have lF : (fTxt F).length = tln F := rfl
  have lG : (fTxt G).length = tln G := rfl
  obtain ⟨w1, e1, r1, g1⟩ := copies_ok (a := 4000) hF.2.1.2.1 hF.2.1.2.2.1 (by omega) (Or.inl (by omega))
  rw [lF] at e1 r1
  have R1 : Rq WdA WdF w w1 := r1.wide (fun n i z => ⟨z.1, z.2.1⟩) (fun _ z => z.elim)
  have R2 : Rq WdA WdF w1 (rSF w1 17 (iI (4000 + tln F : Nat))) := Rq.sf (Or.inl rfl)
  have G2 := (hG.rq R1 (fun j hj z => by have := z.2; omega) (fun j z => by have := z.1; omega)).rq R2 (fun j hj z => by have := z.2; omega) (fun j z => by have := z.1; omega)
  have g2 : Ly (rA (rSF w1 17 (iI (4000 + tln F : Nat))) 0) 4000 (fTxt F) := g1
  obtain ⟨w3, e3, r3, g3⟩ := copies_ok (a := 6000) G2.2.1.2.1 G2.2.1.2.2.1 (by omega) (Or.inl (by omega))
  rw [lG] at e3 r3
  have R3 : Rq WdA WdF (rSF w1 17 (iI (4000 + tln F : Nat))) w3 := r3.wide (fun n i z => ⟨z.1, by have := z.2.1; omega⟩) (fun _ z => z.elim)
  have R4 : Rq WdA WdF w3 (rSF w3 18 (iI (6000 + tln G : Nat))) := Rq.sf (Or.inr rfl)
  have g4 : Ly (rA w3 0) 4000 (fTxt F) := g2.rq r3 (fun j j1 j2 z => by obtain ⟨-, z1, z2⟩ := z; omega)
  have hW : Wq (rSF w3 18 (iI (6000 + tln G : Nat))) F G := ⟨⟨by rw [rF_SF_o (by omega), r3.2 17 (fun z => z), rF_SF_s], rF_SF_s⟩, ⟨hF.2.1.1, g4, by omega, hF.2.1.2.2.2⟩, ⟨hG.2.1.1, g3, by omega, hG.2.1.2.2.2⟩, by have := hF.sz; omega, by have := hG.sz; omega⟩
  obtain ⟨w5, e5, r5, g5⟩ := wide_loop (iI a) (iI b) (fun _ => none) 7 kFU _ F G (by unfold kFU; omega) (by have := muL_le F G; omega) hW
  rw [wi_eq 7 F G hF.2.1.1 hG.2.1.1] at e5 g5
  refine ⟨w5, ?_, (((R1.tr R2).tr R3).tr R4).tr r5, g5⟩
  have sF : raI w 2 1000 ((3 : Int32) + iI a) = some (iI (tln F)) := hF.size
  have sG : raI (rSF w1 17 (iI (4000 + tln F : Nat))) 2 1000 ((3 : Int32) + iI b) = some (iI (tln G)) := G2.size
  have e1' : fX12_copies (iI (60 * a : Nat)) (iI (60 * a + tln F : Nat)) (4000 : Int32) w = some (iI (4000 + tln F : Nat), w1) := e1
  have e3' : fX12_copies (iI (60 * b : Nat)) (iI (60 * b + tln G : Nat)) (6000 : Int32) (rSF w1 17 (iI (4000 + tln F : Nat))) = some (iI (6000 + tln G : Nat), w3) := e3
  rw [fX12_isWidest, textOf_ok, Option.bind_some, Option.bind_some, sF, Option.bind_some, hF.to, e1', kb2_s, rpN, Option.bind_some, textOf_ok, Option.bind_some, Option.bind_some, sG, Option.bind_some, hG.to, e3', kb2_s, rpN, Option.bind_some]
  exact e5
theorem fIsIf_ex' {f : Fo} (h : fIsIf f = true) : ∃ x y, f = .sub x y := fIsIf_ex h
theorem mByIf {w : rW} {l a b : Nat} {f A B : Fo} (hl : Ml w l f) (ha : Ml w a A) (hb : Ml w b B) : fX12_isByIf (iI l) (iI a) (iI b) w = some (iB (fThen f A B)) := by
  have e1 : ∀ n : Nat, iI (n : Int) + 1 = iI (n + 1 : Nat) := fun n => by rw [iL_1, iI_add]; rfl
  rw [fX12_isByIf, textOf_ok, Option.bind_some, hb.2.1.isIf, Option.bind_some]
  cases hi : fIsIf B with
  | false =>
    rw [if_pos iB_fz]
    have e : fThen f A B = false := by
      cases B with
      | sub x y => cases hi
      | _ => rfl
    rw [e]; rfl
  | true =>
    obtain ⟨x, y, rfl⟩ := fIsIf_ex hi
    obtain ⟨q1, q2, q3, q4, q5⟩ := hb.2.1.su
    rw [if_neg iB_tn, e1, q2.end, Option.bind_some, textOf_ok, Option.bind_some, Option.bind_some, ha.size, Option.bind_some, ha.to, q2.same ha.2.1, Option.bind_some]
    show _ = some (iB (fEq x A && fEq y f))
    cases fEq x A with
    | false => rw [if_pos iB_fz]; rfl
    | true =>
      rw [if_neg iB_tn, e1, q4.end, Option.bind_some, textOf_ok, Option.bind_some, Option.bind_some, hl.size, Option.bind_some, hl.to, q4.same hl.2.1, Option.bind_some]
      cases fEq y f with
      | false => rw [if_pos iB_fz]; rfl
      | true => rw [if_neg iB_tn]; rfl
theorem mByTwo {w : rW} {l a b : Nat} {f A B : Fo} (hl : Ml w l f) (ha : Ml w a A) (hb : Ml w b B) : fX12_isByTwo (iI l) (iI a) (iI b) w = some (iB (fChain f A B)) := by
  have e1 : ∀ n : Nat, iI (n : Int) + 1 = iI (n + 1 : Nat) := fun n => by rw [iL_1, iI_add]; rfl
  rw [fX12_isByTwo, textOf_ok, Option.bind_some, textOf_ok, Option.bind_some, textOf_ok, Option.bind_some, ha.2.1.isIf, Option.bind_some]
  cases hi : fIsIf A with
  | false =>
    rw [if_pos iB_fz]
    have e : fChain f A B = false := by
      cases A with
      | sub x y => cases hi
      | _ => cases f <;> rfl
    rw [e]; rfl
  | true =>
    obtain ⟨a1, a2, rfl⟩ := fIsIf_ex hi
    rw [if_neg iB_tn, hb.2.1.isIf, Option.bind_some]
    cases hj : fIsIf B with
    | false =>
      rw [if_pos iB_fz]
      have e : fChain f (.sub a1 a2) B = false := by
        cases B with
        | sub x y => cases hj
        | _ => cases f <;> rfl
      rw [e]; rfl
    | true =>
      obtain ⟨b1, b2, rfl⟩ := fIsIf_ex hj
      rw [if_neg iB_tn, hl.2.1.isIf, Option.bind_some]
      cases hk : fIsIf f with
      | false =>
        rw [if_pos iB_fz]
        have e : fChain f (.sub a1 a2) (.sub b1 b2) = false := by
          cases f with
          | sub x y => cases hk
          | _ => rfl
        rw [e]; rfl
      | true =>
        obtain ⟨c1, c2, rfl⟩ := fIsIf_ex hk
        obtain ⟨p1, p2, p3, p4, p5⟩ := ha.2.1.su
        obtain ⟨q1, q2, q3, q4, q5⟩ := hb.2.1.su
        obtain ⟨r1, r2, r3, r4, r5⟩ := hl.2.1.su
        rw [if_neg iB_tn, e1, p2.end, Option.bind_some, e1, q2.end, Option.bind_some, e1, r2.end, Option.bind_some, e1, p4.end, Option.bind_some, p4.same q2, Option.bind_some]
        show _ = some (iB (fEq a2 b1 && (fEq c1 a1 && fEq c2 b2)))
        have sy : ∀ {u v : Fo}, fOk u → fOk v → fEq u v = fEq v u := fun {u v} hu hv => by
          unfold fEq
          by_cases h : fPre u = fPre v
          · rw [decide_eq_true h, decide_eq_true h.symm]
          · rw [decide_eq_false h, decide_eq_false (fun z => h z.symm)]
        cases fEq a2 b1 with
        | false => rw [if_pos iB_fz]; rfl
        | true =>
          rw [if_neg iB_tn, p2.same r2, Option.bind_some, sy p2.1 r2.1]
          cases fEq c1 a1 with
          | false => rw [if_pos iB_fz]; rfl
          | true =>
            rw [if_neg iB_tn, e1, q4.end, Option.bind_some, e1, r4.end, Option.bind_some, q4.same r4, Option.bind_some, sy q4.1 r4.1]
            cases fEq c2 b2 with
            | false => rw [if_pos iB_fz]; rfl
            | true => rw [if_neg iB_tn]; rfl
