/-! back, chains -/
theorem fSb_ok {σ : Nat → Option Fo} (hσ : ∀ i, i < 6 → ∀ c, σ i = some c → fOk c) : ∀ f, fOk f → fOk (fSb σ f) := by
  refine fInd ?_ ?_ ?_ ?_
  · intro i hi
    show fOk ((σ i).getD (.var i))
    cases h : σ i with
    | none => exact hi
    | some c => exact hσ i hi c h
  · exact fun a ha ih => ih
  · exact fun a b ha hb iha ihb => ⟨iha, ihb⟩
  · exact fun a b ha hb iha ihb => ⟨iha, ihb⟩
theorem apc20 (v : List Nat) : apc 20 (some []) v = if v.length ≤ 20 then some v else none := by
  simp [apc]
theorem try_mk {ow : Nat → Nat × Nat} {x : Nat} {w : kW} {s p d : Nat} {nd : Nat → Nat} {K : List (Nat × Fo)} {lk : Bool} {st : Nat} {odds : Int} {q : QS} (h : Ss ow x w s p d nd K lk st odds q) {n dd a : Nat} {F G A B : Fo} {X Y X' Y' : List Nat} (hn : (qN q)[n]? = some (F, dd)) (hG : Li ow x w a G) (e : fPre G = X ++ (fPre A ++ Y)) (hA : fOk A) (e' : fPre F = X' ++ (fPre B ++ Y')) (hB : fOk B) :
    ∃ w1, fX4_makes p (some a) (iI X.length) (some (nd n)) (iI X'.length) w = some (iB (fMt A B σ0).isSome, w1) ∧ Ss ow x w1 s p d nd K lk st odds q ∧ Sq ow (Vs x) w w1 ∧ Li ow x w1 a G ∧ ∀ σ, fMt A B σ0 = some σ → ∃ w2, fX1_clear d w1 = some w2 ∧ Ss ow x w2 s p d nd K lk st odds q ∧ Lx ow w2 d 20 (some []) ∧ PuW ow w2 p a d (fSz G) (nd n) (if n = 0 then 60 else 20) (fPre G) (fPre F) σ ∧ Sm ow (fun z => z = d) w1 w2 ∧ (∀ i, i < 6 → ∀ c, σ i = some c → fOk c) := by
  obtain ⟨pn, hF, hd, n24, bn1, bn2, bnd⟩ := h.need hn
  obtain ⟨⟨hk, ho, r0, r1, r2, r3⟩, ⟨p4, hpg⟩, ⟨p5, hdS, bd1, bd2⟩, hnd, hinj, bs1, bs2, bp1, bp2⟩ := id h.1
  obtain ⟨w1, e1, s1, g1, g2, g3⟩ := makes_in hpg hG.1 hF e hA e' hB
  have h1 := h.pq s1 g1
  have hGa := hG.2.2.2
  have hG1 := hG.fr s1.fr (by omega)
  have hF1 := (h1.need hn).2.1
  refine ⟨w1, e1, h1, h.pV s1, hG1, fun σ hσ => ?_⟩
  have hdS1 := h1.1.2.2.1.2.1
  obtain ⟨w2, e2, l2, s2⟩ := clear_ok hdS1
  have hpu := g3 σ hσ
  have ndp : d ≠ p := g1.ne hdS1
  refine ⟨w2, e2, h1.dm s2, l2, ⟨g1.sm s2, (hG1.1.sm s2 (by omega)).2.1, (hG1.1.sm s2 (by omega)).2.2, (hF1.sm s2 bnd).2.1, (hF1.sm s2 bnd).2.2, hpu.sm g1 s2 (Ne.symm ndp), by rw [s2.2.2.2.1]; exact g2, ndp, by omega, Ne.symm bnd⟩, s2, fun i hi c hc => ((hpu i hi).2 c hc).1⟩
theorem tryBack_ok {ow : Nat → Nat × Nat} {x : Nat} {w : kW} {s p d : Nat} {nd : Nat → Nat} {K : List (Nat × Fo)} {lk : Bool} {st : Nat} {odds : Int} {q : QS} (h : Ss ow x w s p d nd K lk st odds q) {n dd a : Nat} {F G : Fo} (hn : (qN q)[n]? = some (F, dd)) (hG : Li ow x w a G) :
    ∃ w' d' nd', fX5_tryBack s (iI n) (some (nd n)) (some a) w = some w' ∧ Ss ow x w' s p d' nd' K lk st odds (qBa lk st F dd G q) ∧ Sq ow (Vs x) w w' := by
  have hka := hG.1.2.1.1.1
  rw [fX5_tryBack, kRc_e hka, Option.bind_some, isIf_ok hG.1.1 hG.1.2.1, Option.bind_some]
  cases hi : fIsIf G with
  | false =>
    rw [if_pos (show iB false = 0 from rfl)]
    have e : qBa lk st F dd G q = q := by
      cases G with
      | sub u v => cases hi
      | _ => rfl
    rw [e]
    exact ⟨w, d, nd, rfl, h, Sq.rf w⟩
  | true =>
    obtain ⟨u, v, rfl⟩ := fIsIf_ex hi
    obtain ⟨pn, hF, hd, n24, bn1, bn2, bnd⟩ := h.need hn
    obtain ⟨⟨hk, ho, r0, r1, r2, r3⟩, ⟨p4, hpg⟩, ⟨p5, hdS, bd1, bd2⟩, hnd, hinj, bs1, bs2, bp1, bp2⟩ := id h.1
    have e0 : (0 : Int32) = iI (([] : List Nat).length : Int) := by decide +kernel
    have e1 : (1 : Int32) = iI (([62] : List Nat).length : Int) := by decide +kernel
    have hlike := like_in hF hG.1 (all_1 F) hF.1 (sub_2 u v) hG.1.1.2
    rw [← e0, len_2] at hlike
    rw [if_neg (show ¬ iB true = 0 by decide +kernel), Option.bind_some, second_ok hG.1.1 hG.1.2.1 hG.1.2.2, Option.bind_some, kRc_e hk, Option.bind_some]
    obtain ⟨w8, e8, h8, sm8, sm8s, hN8⟩ := isDone_ok h hF.2.1.1.1 hlike
    rw [e8, kb2_s]
    have eq : qBa lk st F dd (.sub u v) q = if (qDn lk st (fLike F v) q).1 then (match fMt v F σ0 with | some σ => qOf dd (fSb σ u) (qDn lk st (fLike F v) q).2 | none => (qDn lk st (fLike F v) q).2) else (qDn lk st (fLike F v) q).2 := rfl
    rw [eq]
    cases hdn : (qDn lk st (fLike F v) q).1 with
    | false =>
      rw [if_pos (show iB false = 0 from rfl), if_neg (by simp)]
      exact ⟨w8, d, nd, rfl, h8, sm8.q⟩
    | true =>
      rw [if_neg (show ¬ iB true = 0 by decide +kernel), if_pos rfl]
      have hn8 : (qN (qDn lk st (fLike F v) q).2)[n]? = some (F, dd) := by rw [hN8]; exact hn
      obtain ⟨⟨hk8, -⟩, ⟨p48, hpg8⟩, ⟨p58, hdS8, -⟩, -⟩ := id h8.1
      have hGa := hG.2.2.2
      have hG8 := hG.sm sm8 (by omega)
      obtain ⟨w13, e13, h13, S13, hG13, g13⟩ := try_mk h8 hn8 hG8 (sub_2 u v) hG8.1.1.2 (all_1 F) hF.1
      rw [← e0, len_2] at e13
      rw [kgP_e hk8, Option.bind_some, p48, kRc_e hpg8.1, Option.bind_some, e13, kb2_s]
      cases hm : fMt v F σ0 with
      | none =>
        rw [if_pos (show iB (none : Option (Nat → Option Fo)).isSome = 0 from rfl)]
        exact ⟨w13, d, nd, rfl, h13, sm8.q.tr S13⟩
      | some σ =>
        obtain ⟨w18, e18, h18, l18, pu18, s18, ok18⟩ := g13 σ hm
        obtain ⟨⟨hk13, -⟩, ⟨p413, hpg13⟩, ⟨p513, hdS13, -⟩, -⟩ := id h13.1
        obtain ⟨⟨hk18, -⟩, ⟨p418, hpg18⟩, ⟨p518, hdS18, -⟩, -⟩ := id h18.1
        obtain ⟨w23, e23, l23, s23⟩ := addPut_ok hG.1.lt hF.lt hG.1.1.1 (sub_1 u v) pu18 l18
        have h23 := h18.dm s23
        rw [apc20] at l23
        obtain ⟨w26, d', nd', e26, h26, S26⟩ := offerNeed_ok h23 hn8 (fSb_ok ok18 u hG.1.1.1) l23
        rw [← e1] at e23
        refine ⟨w26, d', nd', ?_, h26, ((sm8.q.tr S13).tr (h13.dV s18)).tr ((h18.dV s23).tr S26)⟩
        rw [if_neg (show ¬ iB (some σ).isSome = 0 by show ¬ iB true = 0; decide +kernel), kgP_e hk13, Option.bind_some, p513, kRc_e hdS13.1, Option.bind_some, e18, Option.bind_some, kgP_e hk18, Option.bind_some, p418, kgP_e hk18, Option.bind_some, p518, kRc_e hpg18.1, Option.bind_some, e23, Option.bind_some, kRc_e h23.1.1.1, Option.bind_some, e26, Option.bind_some]
theorem len_pre (v : List Nat) {f : Fo} : (fPre f).length = fSz f := rfl
theorem tryAhead_ok {ow : Nat → Nat × Nat} {x : Nat} {w : kW} {s p d : Nat} {nd : Nat → Nat} {K : List (Nat × Fo)} {lk : Bool} {st : Nat} {odds : Int} {q : QS} (h : Ss ow x w s p d nd K lk st odds q) {n dd a : Nat} {F G : Fo} (hn : (qN q)[n]? = some (F, dd)) (hG : Li ow x w a G) :
    ∃ w' d' nd', fX5_tryChainAhead s (iI n) (some (nd n)) (some a) w = some w' ∧ Ss ow x w' s p d' nd' K lk st odds (qAh lk st dd F G q) ∧ Sq ow (Vs x) w w' := by
  have hka := hG.1.2.1.1.1
  obtain ⟨pn, hF, hd, n24, bn1, bn2, bnd⟩ := h.need hn
  have hkn := hF.2.1.1.1
  rw [fX5_tryChainAhead, kRc_e hka, Option.bind_some, isIf_ok hG.1.1 hG.1.2.1, Option.bind_some]
  cases hi : fIsIf G with
  | false =>
    rw [if_pos (show iB false = 0 from rfl)]
    have e : qAh lk st dd F G q = q := by
      cases G with
      | sub u v => cases hi
      | _ => cases F <;> rfl
    rw [e]
    exact ⟨w, d, nd, rfl, h, Sq.rf w⟩
  | true =>
    obtain ⟨u, v, rfl⟩ := fIsIf_ex hi
    rw [if_neg (show ¬ iB true = 0 by decide +kernel), kRc_e hkn, Option.bind_some, isIf_ok hF.1 hF.2.1, Option.bind_some]
    cases hj : fIsIf F with
    | false =>
      rw [if_pos (show iB false = 0 from rfl)]
      have e : qAh lk st dd F (.sub u v) q = q := by
        cases F with
        | sub y z => cases hj
        | _ => rfl
      rw [e]
      exact ⟨w, d, nd, rfl, h, Sq.rf w⟩
    | true =>
      obtain ⟨y, z, rfl⟩ := fIsIf_ex hj
      obtain ⟨⟨hk, ho, r0, r1, r2, r3⟩, ⟨p4, hpg⟩, ⟨p5, hdS, bd1, bd2⟩, hnd, hinj, bs1, bs2, bp1, bp2⟩ := id h.1
      have e1 : (1 : Int32) = iI (([62] : List Nat).length : Int) := by decide +kernel
      have hlike := like_in hF hG.1 (sub_1 y z) hF.1.1 (sub_1 u v) hG.1.1.1
      rw [← e1] at hlike
      rw [if_neg (show ¬ iB true = 0 by decide +kernel), kRc_e hk, Option.bind_some]
      obtain ⟨w8, e8, h8, sm8, sm8s, hN8⟩ := isDone_ok h hkn hlike
      rw [e8, kb2_s]
      have eq : qAh lk st dd (.sub y z) (.sub u v) q = if (qDn lk st (fLike y u) q).1 then (match fMt u y σ0 with | some σ => qOf dd (.sub (fSb σ v) z) (qDn lk st (fLike y u) q).2 | none => (qDn lk st (fLike y u) q).2) else (qDn lk st (fLike y u) q).2 := rfl
      rw [eq]
      cases hdn : (qDn lk st (fLike y u) q).1 with
      | false =>
        rw [if_pos (show iB false = 0 from rfl), if_neg (by simp)]
        exact ⟨w8, d, nd, rfl, h8, sm8.q⟩
      | true =>
        rw [if_neg (show ¬ iB true = 0 by decide +kernel), if_pos rfl]
        have hn8 : (qN (qDn lk st (fLike y u) q).2)[n]? = some (.sub y z, dd) := by rw [hN8]; exact hn
        obtain ⟨⟨hk8, -⟩, ⟨p48, hpg8⟩, ⟨p58, hdS8, -⟩, -⟩ := id h8.1
        have hGa := hG.2.2.2
        have hG8 := hG.sm sm8 (by omega)
        obtain ⟨w13, e13, h13, S13, hG13, g13⟩ := try_mk h8 hn8 hG8 (sub_1 u v) hG8.1.1.1 (sub_1 y z) hF.1.1
        rw [← e1] at e13
        rw [kgP_e hk8, Option.bind_some, p48, kRc_e hpg8.1, Option.bind_some, e13, kb2_s]
        cases hm : fMt u y σ0 with
        | none =>
          rw [if_pos (show iB (none : Option (Nat → Option Fo)).isSome = 0 from rfl)]
          exact ⟨w13, d, nd, rfl, h13, sm8.q.tr S13⟩
        | some σ =>
          obtain ⟨w18, e18, h18, l18, pu18, s18, ok18⟩ := g13 σ hm
          obtain ⟨⟨hk13, -⟩, ⟨p413, hpg13⟩, ⟨p513, hdS13, -⟩, -⟩ := id h13.1
          obtain ⟨⟨hk18, -⟩, ⟨p418, hpg18⟩, ⟨p518, hdS18, -⟩, -⟩ := id h18.1
          obtain ⟨w22, e22, l22, s22⟩ := add_ok l18 62 (by omega)
          have e22' : fX1_add d (62 : Int32) w18 = some w22 := e22
          have h22 := h18.dm s22
          have pu22 := pu18.sm s22
          obtain ⟨w30, e30, l30, s30⟩ := addPut_ok hG.1.lt hF.lt hG.1.1.2 (sub_2 u v) pu22 l22
          rw [len_2] at e30
          have h30 := h22.dm s30
          have pu30 := pu22.sm s30
          obtain ⟨-, -, -, l4, l5, -, -, -, -, ne3⟩ := id pu30
          obtain ⟨w37, e37, l37, s37⟩ := addPart_ok ne3 l30 l4 l5 hF.lt (sub_2 y z) hF.1.2
          rw [len_2] at e37
          have h37 := h30.dm s37
          have eD : fPre (.sub (fSb σ v) z) = [62] ++ (fPre (fSb σ v) ++ fPre z) := rfl
          have l37' : Lx ow w37 d 20 (if fSz (.sub (fSb σ v) z) ≤ 20 then some (fPre (.sub (fSb σ v) z)) else none) := by
            rw [← len_pre [], ← apc20, eD, ← apc_apc, ← apc_apc]
            exact l37
          obtain ⟨w40, d', nd', e40, h40, S40⟩ := offerNeed_ok (D := .sub (fSb σ v) z) h37 hn8 ⟨fSb_ok ok18 v hG.1.1.2, hF.1.2⟩ l37'
          refine ⟨w40, d', nd', ?_, h40, (((sm8.q.tr S13).tr (h13.dV s18)).tr (h18.dV s22)).tr (((h22.dV s30).tr (h30.dV s37)).tr S40)⟩
          obtain ⟨⟨hk22, -⟩, ⟨p422, hpg22⟩, ⟨p522, hdS22, -⟩, -⟩ := id h22.1
          obtain ⟨⟨hk30, -⟩, ⟨p430, hpg30⟩, ⟨p530, hdS30, -⟩, -⟩ := id h30.1
          obtain ⟨-, lg4, lg5, -⟩ := id pu22
          have sec1 := second_ok (w := w22) (a := a) hG.1.1 lg4 lg5
          have sec2 := second_ok (w := w30) (a := nd n) hF.1 l4 l5
          rw [if_neg (show ¬ iB (some σ).isSome = 0 by show ¬ iB true = 0; decide +kernel), kgP_e hk13, Option.bind_some, p513, kRc_e hdS13.1, Option.bind_some, e18, Option.bind_some, kgP_e hk18, Option.bind_some, p518, kRc_e hdS18.1, Option.bind_some, e22', Option.bind_some, kgP_e hk22, Option.bind_some, p422, kgP_e hk22, Option.bind_some, p522, kRc_e lg4.1.1, Option.bind_some, sec1, Option.bind_some, kRc_e hpg22.1, Option.bind_some, e30, Option.bind_some, kgP_e hk30, Option.bind_some, p530, kRc_e l4.1.1, Option.bind_some, sec2, Option.bind_some, kRc_e hdS30.1, Option.bind_some, e37, Option.bind_some, kRc_e h37.1.1.1, Option.bind_some, e40, Option.bind_some]
theorem tryBehind_ok {ow : Nat → Nat × Nat} {x : Nat} {w : kW} {s p d : Nat} {nd : Nat → Nat} {K : List (Nat × Fo)} {lk : Bool} {st : Nat} {odds : Int} {q : QS} (h : Ss ow x w s p d nd K lk st odds q) {n dd a : Nat} {F G : Fo} (hn : (qN q)[n]? = some (F, dd)) (hG : Li ow x w a G) :
    ∃ w' d' nd', fX5_tryChainBehind s (iI n) (some (nd n)) (some a) w = some w' ∧ Ss ow x w' s p d' nd' K lk st odds (qBe lk st dd F G q) ∧ Sq ow (Vs x) w w' := by
  have hka := hG.1.2.1.1.1
  obtain ⟨pn, hF, hd, n24, bn1, bn2, bnd⟩ := h.need hn
  have hkn := hF.2.1.1.1
  rw [fX5_tryChainBehind, kRc_e hka, Option.bind_some, isIf_ok hG.1.1 hG.1.2.1, Option.bind_some]
  cases hi : fIsIf G with
  | false =>
    rw [if_pos (show iB false = 0 from rfl)]
    have e : qBe lk st dd F G q = q := by
      cases G with
      | sub u v => cases hi
      | _ => cases F <;> rfl
    rw [e]
    exact ⟨w, d, nd, rfl, h, Sq.rf w⟩
  | true =>
    obtain ⟨u, v, rfl⟩ := fIsIf_ex hi
    rw [if_neg (show ¬ iB true = 0 by decide +kernel), kRc_e hkn, Option.bind_some, isIf_ok hF.1 hF.2.1, Option.bind_some]
    cases hj : fIsIf F with
    | false =>
      rw [if_pos (show iB false = 0 from rfl)]
      have e : qBe lk st dd F (.sub u v) q = q := by
        cases F with
        | sub y z => cases hj
        | _ => rfl
      rw [e]
      exact ⟨w, d, nd, rfl, h, Sq.rf w⟩
    | true =>
      obtain ⟨y, z, rfl⟩ := fIsIf_ex hj
      obtain ⟨⟨hk, ho, r0, r1, r2, r3⟩, ⟨p4, hpg⟩, ⟨p5, hdS, bd1, bd2⟩, hnd, hinj, bs1, bs2, bp1, bp2⟩ := id h.1
      have e1 : (1 : Int32) = iI (([62] : List Nat).length : Int) := by decide +kernel
      have hlike := like_in hF hG.1 (sub_2 y z) hF.1.2 (sub_2 u v) hG.1.1.2
      rw [len_2, len_2] at hlike
      rw [if_neg (show ¬ iB true = 0 by decide +kernel), Option.bind_some, second_ok hG.1.1 hG.1.2.1 hG.1.2.2, Option.bind_some, Option.bind_some, second_ok hF.1 hF.2.1 hF.2.2, Option.bind_some, kRc_e hk, Option.bind_some]
      obtain ⟨w8, e8, h8, sm8, sm8s, hN8⟩ := isDone_ok h hkn hlike
      rw [e8, kb2_s]
      have eq : qBe lk st dd (.sub y z) (.sub u v) q = if (qDn lk st (fLike z v) q).1 then (match fMt v z σ0 with | some σ => qOf dd (.sub y (fSb σ u)) (qDn lk st (fLike z v) q).2 | none => (qDn lk st (fLike z v) q).2) else (qDn lk st (fLike z v) q).2 := rfl
      rw [eq]
      cases hdn : (qDn lk st (fLike z v) q).1 with
      | false =>
        rw [if_pos (show iB false = 0 from rfl), if_neg (by simp)]
        exact ⟨w8, d, nd, rfl, h8, sm8.q⟩
      | true =>
        rw [if_neg (show ¬ iB true = 0 by decide +kernel), if_pos rfl]
        have hn8 : (qN (qDn lk st (fLike z v) q).2)[n]? = some (.sub y z, dd) := by rw [hN8]; exact hn
        obtain ⟨⟨hk8, -⟩, ⟨p48, hpg8⟩, ⟨p58, hdS8, -⟩, -⟩ := id h8.1
        have hF8 := (h8.need hn8).2.1
        have hGa := hG.2.2.2
        have hG8 := hG.sm sm8 (by omega)
        obtain ⟨w13, e13, h13, S13, hG13, g13⟩ := try_mk h8 hn8 hG8 (sub_2 u v) hG8.1.1.2 (sub_2 y z) hF.1.2
        rw [len_2, len_2] at e13
        rw [kgP_e hk8, Option.bind_some, p48, kRc_e hF8.2.1.1.1, Option.bind_some, second_ok hF8.1 hF8.2.1 hF8.2.2, Option.bind_some, kRc_e hpg8.1, Option.bind_some, e13, kb2_s]
        cases hm : fMt v z σ0 with
        | none =>
          rw [if_pos (show iB (none : Option (Nat → Option Fo)).isSome = 0 from rfl)]
          exact ⟨w13, d, nd, rfl, h13, sm8.q.tr S13⟩
        | some σ =>
          obtain ⟨w18, e18, h18, l18, pu18, s18, ok18⟩ := g13 σ hm
          obtain ⟨⟨hk13, -⟩, ⟨p413, hpg13⟩, ⟨p513, hdS13, -⟩, -⟩ := id h13.1
          obtain ⟨⟨hk18, -⟩, ⟨p418, hpg18⟩, ⟨p518, hdS18, -⟩, -⟩ := id h18.1
          obtain ⟨w22, e22, l22, s22⟩ := add_ok l18 62 (by omega)
          have e22' : fX1_add d (62 : Int32) w18 = some w22 := e22
          have h22 := h18.dm s22
          have pu22 := pu18.sm s22
          obtain ⟨-, -, -, l4, l5, -, -, -, -, ne3⟩ := id pu22
          obtain ⟨w30, e30, l30, s30⟩ := addPart_ok ne3 l22 l4 l5 hF.lt (sub_1 y z) hF.1.1
          rw [← e1] at e30
          have h30 := h22.dm s30
          have pu30 := pu22.sm s30
          obtain ⟨w37, e37, l37, s37⟩ := addPut_ok hG.1.lt hF.lt hG.1.1.1 (sub_1 u v) pu30 l30
          rw [← e1] at e37
          have h37 := h30.dm s37
          have eD : fPre (.sub y (fSb σ u)) = [62] ++ (fPre y ++ fPre (fSb σ u)) := rfl
          have l37' : Lx ow w37 d 20 (if fSz (.sub y (fSb σ u)) ≤ 20 then some (fPre (.sub y (fSb σ u))) else none) := by
            rw [← len_pre [], ← apc20, eD, ← apc_apc, ← apc_apc]
            exact l37
          obtain ⟨w40, d', nd', e40, h40, S40⟩ := offerNeed_ok (D := .sub y (fSb σ u)) h37 hn8 ⟨hF.1.1, fSb_ok ok18 u hG.1.1.1⟩ l37'
          refine ⟨w40, d', nd', ?_, h40, (((sm8.q.tr S13).tr (h13.dV s18)).tr (h18.dV s22)).tr (((h22.dV s30).tr (h30.dV s37)).tr S40)⟩
          obtain ⟨⟨hk22, -⟩, ⟨p422, hpg22⟩, ⟨p522, hdS22, -⟩, -⟩ := id h22.1
          obtain ⟨⟨hk30, -⟩, ⟨p430, hpg30⟩, ⟨p530, hdS30, -⟩, -⟩ := id h30.1
          rw [if_neg (show ¬ iB (some σ).isSome = 0 by show ¬ iB true = 0; decide +kernel), kgP_e hk13, Option.bind_some, p513, kRc_e hdS13.1, Option.bind_some, e18, Option.bind_some, kgP_e hk18, Option.bind_some, p518, kRc_e hdS18.1, Option.bind_some, e22', Option.bind_some, kgP_e hk22, Option.bind_some, p522, kRc_e hdS22.1, Option.bind_some, e30, Option.bind_some, kgP_e hk30, Option.bind_some, p430, kgP_e hk30, Option.bind_some, p530, kRc_e hpg30.1, Option.bind_some, e37, Option.bind_some, kRc_e h37.1.1.1, Option.bind_some, e40, Option.bind_some]
