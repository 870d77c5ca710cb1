/-! .. back, chains -/
theorem mk_ok {w : rW} {σ : Nat → Option Fo} {lo hi : Nat} (h8 : hi ≤ 8000) (h70 : hi ≤ lo + 70) {p o : Nat} {X : Fo} (hX : Lt w p X) (hp : p + tln X ≤ 8000) (hz : Mz lo hi w σ) (h1 : 8000 ≤ o) (h2 : o ≤ 9080) : ∃ j w', j ≤ (fTxt X).length ∧ fX12_makes (iI p) (iI (p + tln X : Nat)) (iI o) w = some (iI (o + (mkL σ ((fTxt X).take j)).length : Nat), w') ∧ Rq (InA o (o + (mkL σ ((fTxt X).take j)).length)) NoF w w' ∧ Ly (rA w' 0) o (mkL σ ((fTxt X).take j)) ∧ (j = (fTxt X).length ∨ 9000 < o + (mkL σ ((fTxt X).take j)).length) ∧ o + (mkL σ ((fTxt X).take j)).length ≤ 9080 := by
  have lt : (fTxt X).length = tln X := rfl
  rw [fX12_makes]
  exact mMakes_ok h8 h70 (iI p) (iI o) hp (fTxt X) kFU p o w (by unfold kFU; omega) (by omega) (fTxt_lt X hX.1) hX.2.1 hz h1 h2
theorem mSb_ok {σ : Nat → Option Fo} (h : sOk σ) : ∀ f, fOk f → fOk (fSb σ f) := by
  apply fInd
  · intro i hi
    show fOk ((σ i).getD (.var i))
    cases hs : σ i with
    | none => exact hi
    | some t => exact h i t hi hs
  · exact fun a _ ih => ih
  · exact fun a b _ _ ha hb => ⟨ha, hb⟩
  · exact fun a b _ _ ha hb => ⟨ha, hb⟩
theorem isIf_no {f : Fo} (h : fIsIf f = false) : ∀ x y, f ≠ .sub x y := fun x y e => by rw [e] at h; cases h
theorem qBa_no {lk : Bool} {st : Nat} {F : Fo} {d : Nat} {G : Fo} {q : QS} (h : fIsIf G = false) : qBa lk st F d G q = q := by
  cases G with
  | sub x y => cases h
  | _ => rfl
theorem qAh_no {lk : Bool} {st d : Nat} {F G : Fo} {q : QS} (h : fIsIf G = false ∨ fIsIf F = false) : qAh lk st d F G q = q := by
  cases F with
  | sub a b =>
    cases G with
    | sub x y => rcases h with h | h <;> cases h
    | _ => rfl
  | _ => rfl
theorem qBe_no {lk : Bool} {st d : Nat} {F G : Fo} {q : QS} (h : fIsIf G = false ∨ fIsIf F = false) : qBe lk st d F G q = q := by
  cases F with
  | sub a b =>
    cases G with
    | sub x y => rcases h with h | h <;> cases h
    | _ => rfl
  | _ => rfl
theorem e1s (n : Nat) : iI (n : Int) + (1 : Int32) = iI (n + 1 : Nat) := by rw [iL_1, iI_add]; rfl
theorem go_d {w : rW} {lk : Bool} {st : Nat} {sl : Bool} {odds : Int} {q : QS} (h : Mq w lk st sl odds q) (ho : qO q = false) {num i d : Nat} {F G : Fo} (hG : Ml w num G) (hN : (qN q)[i]? = some (F, d)) : Go w lk st sl odds (fX12_goesOn (100 : Int32) (iI num) (iI i) w) (qBa lk st F d G q) := by
  obtain ⟨n1, n2, n3⟩ := id h.1
  obtain ⟨f1, f2, f3, f4, f5⟩ := n3 i F d hN
  have hi := (List.getElem?_eq_some_iff.mp hN).1
  have l40 := hG.1
  have t60 := hG.2.2.1
  rw [fX12_goesOn, needOf_ok, Option.bind_some, textOf_ok, Option.bind_some, if_neg (by decide +kernel), hG.2.1.isIf, Option.bind_some]
  cases hI : fIsIf G with
  | false =>
    rw [if_pos iB_fz, qBa_no hI]
    exact Go.rf h ho
  | true =>
    obtain ⟨X, Y, rfl⟩ := fIsIf_ex hI
    obtain ⟨p1, p2, p3, p4, p5⟩ := hG.2.1.su
    rw [tln_sub] at t60
    rw [if_neg iB_tn, e1s, p2.end, Option.bind_some, if_pos rfl, e1s, like_if h (f1.like p4)]
    show Go w lk st sl odds _ (if (qDn lk st (fLike F Y) q).1 = true then (match fMt Y F σ0 with | some σ => qOf d (fSb σ X) (qDn lk st (fLike F Y) q).2 | none => (qDn lk st (fLike F Y) q).2) else (qDn lk st (fLike F Y) q).2)
    rw [qDn_eq ho]
    by_cases c1 : (lk && !fLike F Y) = true
    · rw [if_pos c1, if_pos c1]
      exact Go.rf h ho
    rw [if_neg c1, if_neg c1, fX12_goesOn_J144, act_if h]
    by_cases c2 : qA q < st
    · rw [if_pos c2, if_pos c2]
      have hc := h.count c2
      show Go w lk st sl odds _ (if true = true then (match fMt Y F σ0 with | some σ => qOf d (fSb σ X) (q1 q) | none => q1 q) else q1 q)
      rw [if_pos rfl]
      refine Go.pre (Rq.ac29 (x := iI (qA q + 1 : Nat))) ?_
      have gX : Lt (rSF w 29 (iI (qA q + 1 : Nat))) (60 * num + 1) X := p2
      have gY : Lt (rSF w 29 (iI (qA q + 1 : Nat))) (60 * num + 1 + tln X + 1) Y := p4
      have gF : Lt (rSF w 29 (iI (qA q + 1 : Nat))) (2400 + 64 * i) F := f1
      generalize rSF w 29 (iI (qA q + 1 : Nat)) = w1 at hc gX gY gF ⊢
      obtain ⟨w2, e2, r2, m2⟩ := comesZ_ok (lo := 2400 + 64 * i) (hi := 2400 + 64 * i + tln F) gY gF (Nat.le_refl _) (Nat.le_refl _)
      have h2 := hc.pt r2
      have oq : qO (q1 q) = false := ho
      rw [e1s, e2, kb2_s]
      refine Go.pre (PtA.ac r2) ?_
      cases hm : fMt Y F σ0 with
      | none =>
        rw [if_pos (show iB (none : Option (Nat → Option Fo)).isSome = 0 from rfl)]
        exact Go.rf h2 oq
      | some σ =>
        have hz := m2 σ hm
        have gX2 := gX.pt r2
        rw [if_neg (show ¬ iB (some σ).isSome = 0 from iB_tn)]
        obtain ⟨j, w3, j1, j2, j3, j4, j5, j6⟩ := mk_ok (by omega) (by omega) gX2 (by omega) hz (o := 8000) (Nat.le_refl _) (by omega)
        have h3 := h2.in (by omega) j3
        have lt : (fTxt X).length = tln X := rfl
        have v4 := (h3.1.2.2 i F d hN).2.2.2.1
        have hil : i < (qN (q1 q)).length := hi
        have dl := (h3.1.2.2 i F d hN).2.2.2.2
        have eC : mkL σ ((fTxt X).take j) = [] ++ (mkL σ ((fTxt X).take j) ++ []) := by rw [List.append_nil, List.nil_append]
        have hb : j = (fTxt X).length ∨ 20 < (mkL σ ((fTxt X).take j)).countP noP := j5.imp id (fun z => cut_big hz.sok (by omega) (b := 8000) (by omega) z)
        rw [eC] at j4 j6 j2
        obtain ⟨w4, e4, N4, r4⟩ := offer_ok h3.1 hz.sok (mSb_ok hz.sok X gX.1) (D := fSb σ X) (l := fTxt X) (pre := []) (post := []) (j := j) (by rw [mkL_txt σ X gX.1, List.append_nil, List.nil_append]) hb j4 (by omega) (fTxt_lt X gX.1) (dd := d) (by omega)
        have c8 : (8000 : Int32) = iI ((8000 : Nat) : Int) := by decide +kernel
        rw [e1s, c8, j2, kb2_s, raN (by omega) (by omega), Option.bind_some, v4, e1s, e4, Option.bind_some]
        refine Go.pre ((InA.ac (by omega) j3).tr (CoA.ac r4)) ?_
        show Go w4 lk st sl odds (some (1, w4)) (qOf d (fSb σ X) (q1 q))
        rw [qOf_eq]
        exact Go.rf (h3.nd r4 N4) oq
    · rw [if_neg c2, if_neg c2]
      exact Go.no h
theorem Mz.pos {w : rW} {i : Nat} {a b : Fo} (h : Lt w i (.sub a b)) : Ly (rA w 0) i ((40 :: (fTxt a ++ [62])) ++ (fTxt b ++ [41])) ∧ Ly (rA w 0) (i + 1 + tln a) (62 :: (fTxt b ++ [41])) := by
  have h2 : Ly (rA w 0) i (40 :: (fTxt a ++ 62 :: (fTxt b ++ [41]))) := h.2.1
  exact ⟨by simpa using h2, h2.tl.snd⟩
theorem go_b {w : rW} {lk : Bool} {st : Nat} {sl : Bool} {odds : Int} {q : QS} (h : Mq w lk st sl odds q) (ho : qO q = false) {num i d : Nat} {a b X Y : Fo} (hG : Ml w num (.sub X Y)) (hN : (qN q)[i]? = some (.sub a b, d)) (x6 : Int32) : Go w lk st sl odds (fX12_chains_J117 (iI (60 * num : Nat)) (iI (60 * num + 1 + tln X : Nat)) (iI (2400 + 64 * i : Nat)) (iI (d + 1 : Nat)) (iI (2400 + 64 * i + 1 + tln a : Nat)) x6 w) (qBe lk st d (.sub a b) (.sub X Y) q) := by
  obtain ⟨n1, n2, n3⟩ := id h.1
  obtain ⟨f1, f2, f3, f4, f5⟩ := n3 i _ d hN
  have hi := (List.getElem?_eq_some_iff.mp hN).1
  have l40 := hG.1
  have t60 := hG.2.2.1
  obtain ⟨p1, p2, p3, p4, p5⟩ := hG.2.1.su
  obtain ⟨g1, g2, g3, g4, g5⟩ := f1.su
  rw [tln_sub] at t60 f2
  rw [fX12_chains_J117, e1s, e1s, like_if h (g4.like p4)]
  show Go w lk st sl odds _ (if (qDn lk st (fLike b Y) q).1 = true then (match fMt Y b σ0 with | some σ => qOf d (.sub a (fSb σ X)) (qDn lk st (fLike b Y) q).2 | none => (qDn lk st (fLike b Y) q).2) else (qDn lk st (fLike b Y) q).2)
  rw [qDn_eq ho]
  by_cases c1 : (lk && !fLike b Y) = true
  · rw [if_pos c1, if_pos c1]
    exact Go.rf h ho
  rw [if_neg c1, if_neg c1, fX12_chains_J140, act_if h]
  by_cases c2 : qA q < st
  · rw [if_pos c2, if_pos c2]
    have hc := h.count c2
    show Go w lk st sl odds _ (if true = true then (match fMt Y b σ0 with | some σ => qOf d (.sub a (fSb σ X)) (q1 q) | none => q1 q) else q1 q)
    rw [if_pos rfl]
    refine Go.pre (Rq.ac29 (x := iI (qA q + 1 : Nat))) ?_
    have gX : Lt (rSF w 29 (iI (qA q + 1 : Nat))) (60 * num + 1) X := p2
    have gY : Lt (rSF w 29 (iI (qA q + 1 : Nat))) (60 * num + 1 + tln X + 1) Y := p4
    have gF : Lt (rSF w 29 (iI (qA q + 1 : Nat))) (2400 + 64 * i) (.sub a b) := f1
    generalize rSF w 29 (iI (qA q + 1 : Nat)) = w1 at hc gX gY gF ⊢
    obtain ⟨-, -, -, gB, -⟩ := gF.su
    obtain ⟨w2, e2, r2, m2⟩ := comesZ_ok (lo := 2400 + 64 * i + 1 + tln a + 1) (hi := 2400 + 64 * i + 1 + tln a + 1 + tln b) gY gB (Nat.le_refl _) (Nat.le_refl _)
    have h2 := hc.pt r2
    have oq : qO (q1 q) = false := ho
    rw [e1s, e1s, e2, kb2_s]
    refine Go.pre (PtA.ac r2) ?_
    cases hm : fMt Y b σ0 with
    | none =>
      rw [if_pos (show iB (none : Option (Nat → Option Fo)).isSome = 0 from rfl)]
      exact Go.rf h2 oq
    | some σ =>
      have hz := m2 σ hm
      have gX2 := gX.pt r2
      have gF2 := gF.pt r2
      rw [if_neg (show ¬ iB (some σ).isSome = 0 from iB_tn)]
      have lt : (fTxt X).length = tln X := rfl
      have la : (40 :: (fTxt a ++ [62])).length = tln a + 2 := by
        rw [List.length_cons, List.length_append, List.length_singleton]
        rfl
      obtain ⟨w3, e3, r3, l3⟩ := copies_ok (a := 8000) (Mz.pos gF2).1.fst (by omega) (by omega) (Or.inl (by omega))
      rw [la, show 2400 + 64 * i + (tln a + 2) = 2400 + 64 * i + 1 + tln a + 1 by omega] at e3
      rw [la] at r3
      have h3 := h2.in (by omega) r3
      have hz3 := hz.rq r3 (fun n i z => ⟨z.1, z.2.1⟩) (by omega)
      have gX3 := gX2.rq r3 (fun k k1 k2 z => by have := z.2.1; omega)
      obtain ⟨j, w4, j1, j2, j3, j4, j5, j6⟩ := mk_ok (by omega) (by omega) gX3 (by omega) hz3 (o := 8000 + (tln a + 2)) (by omega) (by omega)
      have h4 := h3.in (by omega) j3
      obtain ⟨M, eM⟩ : ∃ M, M = mkL σ ((fTxt X).take j) := ⟨_, rfl⟩
      rw [← eM] at j2 j3 j4 j5 j6
      have hb : j = (fTxt X).length ∨ 20 < (mkL σ ((fTxt X).take j)).countP noP := j5.imp id (fun z => by rw [eM] at z; exact cut_big hz.sok (by omega) (b := 8000 + (tln a + 2)) (by omega) z)
      have c8 : (8000 : Int32) = iI ((8000 : Nat) : Int) := by decide +kernel
      rw [c8, e3, kb2_s, e1s, j2, kb2_s, rsN (by omega) (by omega), Option.bind_some, e1s]
      obtain ⟨w5, ew5⟩ : ∃ w5, w5 = rSA w4 0 (8000 + (tln a + 2) + M.length) (41 : Int32) := ⟨_, rfl⟩
      have r5 : Rq (InA (8000 + (tln a + 2) + M.length) (8000 + (tln a + 2) + M.length + 1)) NoF w4 w5 := by rw [ew5]; exact Rq.sa ⟨rfl, Nat.le_refl _, by omega⟩
      have h5 := h4.in (by omega) r5
      rw [← ew5]
      have l5 : Ly (rA w5 0) 8000 ((40 :: (fTxt a ++ [62])) ++ (M ++ [41])) := by
        refine Ly.app ((l3.rq j3 (fun k k1 k2 z => by have := z.2.1; rw [la] at k2; omega)).rq r5 (fun k k1 k2 z => by have := z.2.1; rw [la] at k2; omega)) ?_
        rw [la]
        refine Ly.app (j4.rq r5 (fun k k1 k2 z => by have := z.2.1; omega)) (Ly.cons ?_ Ly.nil)
        rw [ew5, rA_SA_s]
        decide +kernel
      have dl := (h5.1.2.2 i _ d hN).2.2.2.2
      have hil : i < (qN (q1 q)).length := hi
      have lM : ((40 :: (fTxt a ++ [62])) ++ (M ++ [41])).length = tln a + 2 + M.length + 1 := by
        rw [List.length_append, la, List.length_append, List.length_singleton]
        omega
      have es : fTxt (.sub a (fSb σ X)) = (40 :: (fTxt a ++ [62])) ++ (mkL σ (fTxt X) ++ [41]) := by
        rw [mkL_txt σ X gX.1]
        show 40 :: (fTxt a ++ 62 :: (fTxt (fSb σ X) ++ [41])) = _
        simp
      rw [eM] at l5 lM
      obtain ⟨w6, e6, N6, r6⟩ := offer_ok h5.1 hz.sok (D := .sub a (fSb σ X)) ⟨gF.1.1, mSb_ok hz.sok X gX.1⟩ es hb l5 (by rw [lM, ← eM]; omega) (fTxt_lt X gX.1) (dd := d) (by omega)
      rw [lM, ← eM, show 8000 + (tln a + 2 + M.length + 1) = 8000 + (tln a + 2) + M.length + 1 by omega] at e6
      rw [e6, Option.bind_some]
      refine Go.pre ((((InA.ac (by omega) r3).tr (InA.ac (by omega) j3)).tr (InA.ac (by omega) r5)).tr (CoA.ac r6)) ?_
      show Go w6 lk st sl odds (some (1, w6)) (qOf d (.sub a (fSb σ X)) (q1 q))
      rw [qOf_eq]
      exact Go.rf (h5.nd r6 N6) oq
  · rw [if_neg c2, if_neg c2]
    exact Go.no h
