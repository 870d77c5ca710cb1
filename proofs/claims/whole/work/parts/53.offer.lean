/-! a need is offered -/
theorem Ss.dm {ow : Nat → Nat × Nat} {x : Nat} {w w1 : kW} {s p d : Nat} {nd : Nat → Nat} {K : List (Nat × Fo)} {lk : Bool} {st : Nat} {odds : Int} {q : QS} (h : Ss ow x w s p d nd K lk st odds q) (hs : Sm ow (fun z => z = d) w w1) : Ss ow x w1 s p d nd K lk st odds q := by
  obtain ⟨h1, h2, h3, hF, hb⟩ := h
  have hks := h1.1.1
  have hos := h1.1.2.1
  have hkd := h1.2.2.1.2.1.1
  have ns : s ≠ d := fun e => by rw [e, hkd] at hks; omega
  have eI : kI w1 s = kI w s := hs.2.2.2.2.2 s (by rw [hos]; exact ns)
  have hd1 := h1.2.2.1.2.2.2
  refine ⟨h1.sm hs, h2.fr h1 hs.fr ns (fun a ha => by omega), h3.fr h1 hs.fr ns (fun j hj => (h1.2.2.2.1 j hj).2.2.2.2), ?_, hb⟩
  unfold SsF
  rw [eI]
  exact hF
theorem Ss.dV {ow : Nat → Nat × Nat} {x : Nat} {w : kW} {s p d : Nat} {nd : Nat → Nat} {K : List (Nat × Fo)} {lk : Bool} {st : Nat} {odds : Int} {q : QS} (h : Ss ow x w s p d nd K lk st odds q) {w1 : kW} (hs : Sm ow (fun z => z = d) w w1) : Sq ow (Vs x) w w1 := hs.q.wide (fun z hz => by
  have b := h.1.2.2.1.2.2
  rw [hz]
  exact b)
theorem row_own {ow : Nat → Nat × Nat} {w : kW} {t c j k t' c' j' k' : Nat} (h : LnA ow w t c j k) (h' : LnA ow w t' c' j' k') (ht : t ≠ t') : Lp w t j ≠ Lp w t' j' := fun e => by
  have h1 := h.2.2.2
  rw [e, h'.2.2.2] at h1
  exact ht (Prod.mk.inj h1).1.symm
theorem offer_loop {ow : Nat → Nat × Nat} {x : Nat} {w : kW} {s p d : Nat} {nd : Nat → Nat} {K : List (Nat × Fo)} {lk : Bool} {st : Nat} {odds : Int} {q : QS} (h : Ss ow x w s p d nd K lk st odds q) {D : Fo} (hD : Lf ow w d 20 D) (x1 : Int32) (kont : Int32 → Option kW) : ∀ (m n i : Nat), m < n → i + m = (qN q).length →
    fX5_offerNeed_L29 s x1 w n kont (iI i) = if ((qN q).drop i).any (fun e => fEq e.1 D) then some w else kont (iI (qN q).length) := by
  obtain ⟨⟨hk, ho, r0, r1, r2, r3⟩, ⟨p4, hpg⟩, ⟨p5, hdS⟩, -⟩ := id h.1
  have f6 := h.2.2.2.1.1.1
  have hl24 := h.2.2.1.1
  intro m
  induction m with
  | zero =>
    intro n i hn hi
    obtain ⟨n, rfl⟩ : ∃ z, n = z + 1 := ⟨n - 1, by omega⟩
    rw [fX5_offerNeed_L29, kgI_e hk, Option.bind_some, f6, if_pos (by rw [iI_le (by omega) (by omega) (by omega) (by omega)]; omega), List.drop_eq_nil_of_le (by omega), show i = (qN q).length by omega]
    rfl
  | succ m ih =>
    intro n i hn hi
    obtain ⟨n, rfl⟩ : ∃ z, n = z + 1 := ⟨n - 1, by omega⟩
    have hlt : i < (qN q).length := by omega
    have hd : (qN q).drop i = (qN q)[i] :: (qN q).drop (i + 1) := List.drop_eq_getElem_cons hlt
    obtain ⟨pn, hF, hdd, -⟩ := h.need (n := i) (F := (qN q)[i].1) (dd := (qN q)[i].2) (by rw [List.getElem?_eq_getElem hlt])
    have hs := same_in hF hD (all_1 _) hF.1 (all_1 _) hD.1
    have e0 : (0 : Int32) = iI (([] : List Nat).length : Int) := by decide +kernel
    rw [← e0] at hs
    have hkn := hF.2.1.1.1
    rw [fX5_offerNeed_L29, kgI_e hk, Option.bind_some, f6, if_neg (by rw [iI_le (by omega) (by omega) (by omega) (by omega)]; omega), kgP_e hk, Option.bind_some, r0.1, kaP_e r0.2.1 (by omega) (by rw [r0.2.2.1]; omega) (by rw [r0.2.2.1]; omega), Option.bind_some, Int.toNat_natCast, pn, kgP_e hk, Option.bind_some, p5, kRc_e hkn, Option.bind_some, hs, Option.bind_some, hd, List.any_cons]
    cases fEq (qN q)[i].1 D with
    | true => rfl
    | false =>
      rw [if_pos (show iB false = 0 from rfl), Bool.false_or, iL_1, iI_add]
      exact ih n (i + 1) (by omega) (by omega)
theorem offerNeed_ok {ow : Nat → Nat × Nat} {x : Nat} {w : kW} {s p d : Nat} {nd : Nat → Nat} {K : List (Nat × Fo)} {lk : Bool} {st : Nat} {odds : Int} {q : QS} (h : Ss ow x w s p d nd K lk st odds q) {n dd : Nat} {F D : Fo} (hn : (qN q)[n]? = some (F, dd)) (hD : fOk D) (hx : Lx ow w d 20 (if fSz D ≤ 20 then some (fPre D) else none)) :
    ∃ w' d' nd', fX5_offerNeed s (iI n) w = some w' ∧ Ss ow x w' s p d' nd' K lk st odds (qOf dd D q) ∧ Sq ow (Vs x) w w' := by
  obtain ⟨⟨hk, ho, r0, r1, r2, r3⟩, ⟨p4, hpg⟩, ⟨p5, hdS, bd1, bd2⟩, hnd, hinj, bs1, bs2, bp1, bp2⟩ := id h.1
  have f6 := h.2.2.2.1.1.1
  have hl24 := h.2.2.1.1
  have hlp := (List.getElem?_eq_some_iff.mp hn).1
  have hkd := hdS.1
  have hsp := hx.sp
  have top : fX5_offerNeed s (iI n) w = (kgI w 1 (some d) 6).bind fun v2 => if v2 = 0 then (kgI w 5 (some s) 6).bind fun v3 => if v3 < (24 : Int32) then (kgP w 5 (some s) 5).bind fun v4 => (kRc w 1 v4).bind fun b5 => (fX1_settle b5 w).bind fun w6 => fX5_offerNeed_L29 s (iI n) w6 kFU (fun y2_8 => (kgP w6 5 (some s) 0).bind fun v9 => (kgI w6 5 (some s) 6).bind fun v10 => (kaP w6 16 v9 v10).bind fun v11 => (kgP w6 5 (some s) 0).bind fun v12 => (kgI w6 5 (some s) 6).bind fun v13 => (kgP w6 5 (some s) 5).bind fun v14 => (ksP w6 16 v12 v13 v14).bind fun w15 => (kgP w15 5 (some s) 1).bind fun v16 => (kgI w15 5 (some s) 6).bind fun v17 => (kgP w15 5 (some s) 1).bind fun v18 => (kaI w15 14 v18 (iI n)).bind fun v19 => (ksI w15 14 v16 v17 (v19 + (1 : Int32))).bind fun w20 => (kgI w20 5 (some s) 6).bind fun v21 => (kpI w20 5 (some s) 6 (v21 + (1 : Int32))).bind fun w22 => (kpP w22 5 (some s) 5 v11).bind fun w23 => some w23) (0 : Int32) else some w else some w := by
    rw [fX5_offerNeed, kgP_e hk, Option.bind_some, p5]
  rw [top, kgI_e hkd, Option.bind_some, hsp]
  unfold qOf
  by_cases c1 : fSz D ≤ 20
  · rw [if_pos c1] at hx ⊢
    have hLn : Ln ow w d 20 (fPre D) := hx
    rw [if_pos (show iB (some (fPre D)).isNone = 0 from rfl), kgI_e hk, Option.bind_some, f6]
    by_cases c2 : (qN q).length < 24
    · rw [if_pos (by rw [iL_24, iI_lt (by omega) (by omega) (by omega) (by omega)]; omega), kgP_e hk, Option.bind_some, p5, kRc_e hkd, Option.bind_some, if_neg (by omega)]
      obtain ⟨w6, e6, g1, g2, sm6, -⟩ := settle_ok hD hLn
      have hLf : Lf ow w6 d 20 D := ⟨hD, g1, g2⟩
      have h6 := h.dm sm6
      have S6 := h.dV sm6
      rw [e6, Option.bind_some]
      have lo := offer_loop h6 hLf (iI n) (fun y2_8 => (kgP w6 5 (some s) 0).bind fun v9 => (kgI w6 5 (some s) 6).bind fun v10 => (kaP w6 16 v9 v10).bind fun v11 => (kgP w6 5 (some s) 0).bind fun v12 => (kgI w6 5 (some s) 6).bind fun v13 => (kgP w6 5 (some s) 5).bind fun v14 => (ksP w6 16 v12 v13 v14).bind fun w15 => (kgP w15 5 (some s) 1).bind fun v16 => (kgI w15 5 (some s) 6).bind fun v17 => (kgP w15 5 (some s) 1).bind fun v18 => (kaI w15 14 v18 (iI n)).bind fun v19 => (ksI w15 14 v16 v17 (v19 + (1 : Int32))).bind fun w20 => (kgI w20 5 (some s) 6).bind fun v21 => (kpI w20 5 (some s) 6 (v21 + (1 : Int32))).bind fun w22 => (kpP w22 5 (some s) 5 v11).bind fun w23 => some w23) (qN q).length kFU 0 (by unfold kFU; omega) (by omega)
      rw [List.drop_zero] at lo
      have e0 : (0 : Int32) = iI ((0 : Nat) : Int) := by decide +kernel
      rw [e0, lo]
      by_cases c3 : (qN q).any (fun e => fEq e.1 D) = true
      · rw [if_pos c3, if_pos c3]
        exact ⟨w6, d, nd, rfl, h6, S6⟩
      · rw [if_neg c3, if_neg c3]
        obtain ⟨h1', h2', h3', hF', b1, b2, b3, b4⟩ := id h6
        obtain ⟨⟨k6, -, q0, q1, q2, q3⟩, ⟨p46, hpg6⟩, ⟨p56, hdS6, -⟩, hnd6, -⟩ := id h1'
        obtain ⟨⟨f66, f7, f8, f9, f10, f11⟩, ⟨f12, f13⟩, f15, f16, f17, f18⟩ := id hF'
        obtain ⟨pl, hlS, bl1, bl2, bl3⟩ := hnd6 (qN q).length c2
        obtain ⟨-, -, hdep, -⟩ := h6.need hn
        have hkd6 : kKd w6 d = 1 := hdS6.1
        have z0 := row_no q0 ho
        have z1 := row_no q1 ho
        generalize hL : (qN q).length = L at *
        have sq1 : Sq ow (fun z => z = s) w6 (kSP w6 (Lp w6 s 0) L (some d)) := Sq.sp (by rw [q0.2.2.2])
        have sq2 : Sq ow (fun z => z = s) (kSP w6 (Lp w6 s 0) L (some d)) (kSI (kSI (kSP w6 (Lp w6 s 0) L (some d)) (Lp w6 s 1) L (iI (dd + 1))) s 6 (iI (L + 1))) := (Sq.si (by rw [q1.2.2.2])).tr (Sq.si (by rw [ho]))
        have sq3 : Sq ow (fun z => z = s) (kSI (kSI (kSP w6 (Lp w6 s 0) L (some d)) (Lp w6 s 1) L (iI (dd + 1))) s 6 (iI (L + 1))) (kSP (kSI (kSI (kSP w6 (Lp w6 s 0) L (some d)) (Lp w6 s 1) L (iI (dd + 1))) s 6 (iI (L + 1))) s 5 (some (nd L))) := Sq.sp (by rw [ho])
        have SQ := (sq1.tr sq2).tr sq3
        have eW : ∃ W, W = kSP (kSI (kSI (kSP w6 (Lp w6 s 0) L (some d)) (Lp w6 s 1) L (iI (dd + 1))) s 6 (iI (L + 1))) s 5 (some (nd L)) := ⟨_, rfl⟩
        obtain ⟨W, eW⟩ := eW
        rw [← eW] at SQ
        have wK : kKd W = kKd w6 := SQ.1
        have wP : ∀ j, j ≠ 5 → kP W s j = kP w6 s j := fun j hj => by
          rw [eW, kP_SP_j hj]
          show kP (kSP w6 (Lp w6 s 0) L (some d)) s j = _
          rw [kP_SP_o (Ne.symm z0)]
        have wP5 : kP W s 5 = some (nd L) := by rw [eW, kP_SP_s]
        have wL : ∀ j, j ≠ 5 → Lp W s j = Lp w6 s j := fun j hj => by unfold Lp; rw [wP j hj]
        have wA : ∀ {c j k : Nat}, j ≠ 5 → LnA ow w6 s c j k → LnA ow W s c j k := fun {c j k} hj r => by
          unfold LnA
          rw [wL j hj, wP j hj, wK, SQ.2.1]
          exact r
        have wN : ∀ j, kP W (Lp w6 s 0) j = if j = L then some d else kP w6 (Lp w6 s 0) j := fun j => by
          rw [eW, kP_SP_o z0]
          show kP (kSP w6 (Lp w6 s 0) L (some d)) (Lp w6 s 0) j = _
          by_cases e : j = L
          · rw [e, kP_SP_s, if_pos rfl]
          · rw [kP_SP_j e, if_neg e]
        have wQ : ∀ r, r ≠ Lp w6 s 0 → r ≠ s → kP W r = kP w6 r := fun r g1 g2 => by
          funext j
          rw [eW, kP_SP_o g2]
          show kP (kSP w6 (Lp w6 s 0) L (some d)) r j = _
          rw [kP_SP_o g1]
        have wI : ∀ r, r ≠ Lp w6 s 1 → r ≠ s → kI W r = kI w6 r := fun r g1 g2 => by
          funext j
          rw [eW]
          show kI (kSI (kSI (kSP w6 (Lp w6 s 0) L (some d)) (Lp w6 s 1) L (iI (dd + 1))) s 6 (iI (L + 1))) r j = _
          rw [kI_SI_o g2, kI_SI_o g1]; rfl
        have wS : ∀ j, kI W s j = if j = 6 then iI (L + 1) else kI w6 s j := fun j => by
          rw [eW]
          show kI (kSI (kSI (kSP w6 (Lp w6 s 0) L (some d)) (Lp w6 s 1) L (iI (dd + 1))) s 6 (iI (L + 1))) s j = _
          by_cases e : j = 6
          · rw [e, kI_SI_s, if_pos rfl]
          · rw [kI_SI_j e, kI_SI_o (Ne.symm z1), if_neg e]; rfl
        have wD : ∀ j, kI W (Lp w6 s 1) j = if j = L then iI (dd + 1) else kI w6 (Lp w6 s 1) j := fun j => by
          rw [eW]
          show kI (kSI (kSI (kSP w6 (Lp w6 s 0) L (some d)) (Lp w6 s 1) L (iI (dd + 1))) s 6 (iI (L + 1))) (Lp w6 s 1) j = _
          rw [kI_SI_o z1]
          by_cases e : j = L
          · rw [e, kI_SI_s, if_pos rfl]
          · rw [kI_SI_j e, if_neg e]; rfl
        have nS : ∀ a, kKd w6 a = 1 → a ≠ s := fun a ha e => by rw [e, k6] at ha; omega
        have ps : p ≠ s := fun e => by have := hpg6.1; rw [e, k6] at this; omega
        refine ⟨W, nd L, fun j => if j = L then d else nd j, ?_, ⟨⟨⟨by rw [wK]; exact k6, ho, wA (by omega) q0, wA (by omega) q1, wA (by omega) q2, wA (by omega) q3⟩, ⟨by rw [wP 4 (by omega)]; exact p46, hpg6.sq2 SQ ps⟩, ⟨wP5, ?_, bl1, bl2⟩, ?_, ?_, bs1, bs2, bp1, bp2⟩, ⟨h2'.1, ?_⟩, ⟨?_, ?_⟩, ⟨⟨?_, ?_, ?_, ?_, ?_, ?_⟩, ⟨?_, ?_⟩, ?_, ?_, ?_, ?_⟩, b1, b2, b3, b4⟩, S6.tr (SQ.wide (fun z hz => by rw [hz]; exact ⟨bs1, bs2⟩))⟩
        · show ((kgP w6 5 (some s) 0).bind fun v9 => _) = _
          rw [kgP_e k6, Option.bind_some, q0.1, kgI_e k6, Option.bind_some, f66, kaP_e q0.2.1 (by omega) (by rw [q0.2.2.1]; omega) (by rw [q0.2.2.1]; omega), Option.bind_some, Int.toNat_natCast, pl, Option.bind_some, Option.bind_some, kgP_e k6, Option.bind_some, p56, ksP_e q0.2.1 hkd6 (by omega) (by rw [q0.2.2.1]; omega) (by rw [q0.2.2.1]; omega), Option.bind_some, Int.toNat_natCast]
          have k15 : kKd (kSP w6 (Lp w6 s 0) L (some d)) s = 5 := k6
          have p1' : kP (kSP w6 (Lp w6 s 0) L (some d)) s 1 = some (Lp w6 s 1) := by rw [kP_SP_o (Ne.symm z0)]; exact q1.1
          rw [kgP_e k15, Option.bind_some, p1', kgI_e k15, Option.bind_some, show kI (kSP w6 (Lp w6 s 0) L (some d)) s 6 = iI L from f66]
          rw [Option.bind_some, kaI_e (show kKd (kSP w6 (Lp w6 s 0) L (some d)) (Lp w6 s 1) = 14 from q1.2.1) (by omega) (by show (n : Int) < (kLn w6 (Lp w6 s 1) : Int); rw [q1.2.2.1]; omega) (by show kLn w6 (Lp w6 s 1) < _; rw [q1.2.2.1]; omega), Option.bind_some, Int.toNat_natCast, show kI (kSP w6 (Lp w6 s 0) L (some d)) (Lp w6 s 1) n = iI dd from hdep, iL_1, iI_add, ksI_e (show kKd (kSP w6 (Lp w6 s 0) L (some d)) (Lp w6 s 1) = 14 from q1.2.1) (by omega) (by show (L : Int) < (kLn w6 (Lp w6 s 1) : Int); rw [q1.2.2.1]; omega) (by show kLn w6 (Lp w6 s 1) < _; rw [q1.2.2.1]; omega), Option.bind_some, Int.toNat_natCast, if_neg (by decide)]
          have k20 : kKd (kSI (kSP w6 (Lp w6 s 0) L (some d)) (Lp w6 s 1) L (iI (dd + 1))) s = 5 := k6
          rw [kgI_e k20, Option.bind_some, kI_SI_o (Ne.symm z1), show kI (kSP w6 (Lp w6 s 0) L (some d)) s 6 = iI L from f66, iI_add, kpI_e k20, Option.bind_some, kpP_e (show kKd (kSI (kSI (kSP w6 (Lp w6 s 0) L (some d)) (Lp w6 s 1) L (iI (dd + 1))) s 6 (iI (L + 1))) s = 5 from k6), Option.bind_some, eW]
        · have e : (if L = 0 then 60 else 20) = 20 := if_neg (by omega)
          rw [e] at hlS
          exact hlS.sq SQ (nS _ hlS.1)
        · intro j hj
          by_cases e : j = L
          · have e20 : (if j = 0 then 60 else 20) = 20 := if_neg (by omega)
            simp only [if_pos e, e20]
            exact ⟨by rw [wL 0 (by omega), wN, if_pos e], hdS6.sq SQ (nS _ hkd6), bd1, bd2, Ne.symm bl3⟩
          · obtain ⟨y1, y2, y3, y4, y5⟩ := hnd6 j hj
            simp only [if_neg e]
            exact ⟨by rw [wL 0 (by omega), wN, if_neg e]; exact y1, y2.sq SQ (nS _ y2.1), y3, y4, fun z => e (hinj j L hj c2 z)⟩
        · intro i j hi hj e
          have di : ∀ j, j < 24 → nd j ≠ d := fun j hj => (hnd j hj).2.2.2.2
          by_cases ei : i = L
          · by_cases ej : j = L
            · rw [ei, ej]
            · have e' : (if i = L then d else nd i) = (if j = L then d else nd j) := e
              rw [if_pos ei, if_neg ej] at e'
              exact absurd e'.symm (di j hj)
          · have e' : (if i = L then d else nd i) = (if j = L then d else nd j) := e
            rw [if_neg ei] at e'
            by_cases ej : j = L
            · rw [if_pos ej] at e'
              exact absurd e' (di i hi)
            · rw [if_neg ej] at e'
              exact hinj i j hi hj e'
        · intro k num G hG
          obtain ⟨a, y1, y2, y3⟩ := h2'.2 k num G hG
          exact ⟨a, by rw [wL 2 (by omega), wQ _ (row_ne q2 q0 (by omega)) (row_no q2 ho)]; exact y1, y2.fr SQ.fr (nS _ y2.1.2.1.1.1), by rw [wL 3 (by omega), wI _ (row_ne q3 q1 (by omega)) (row_no q3 ho)]; exact y3⟩
        · show (qN q ++ [(D, dd + 1)]).length ≤ 24
          rw [List.length_append, List.length_singleton]; omega
        · intro j dj Fj hj
          have hj' : (qN q ++ [(D, dd + 1)])[j]? = some (Fj, dj) := hj
          by_cases e : j = L
          · rw [e, ← hL, List.getElem?_append_right (by omega)] at hj'
            simp at hj'
            obtain ⟨eF, ed⟩ := hj'
            have e20 : (if j = 0 then 60 else 20) = 20 := if_neg (by omega)
            simp only [if_pos e, e20]
            rw [wL 1 (by omega), wD, if_pos e, ← eF, ← ed]
            exact ⟨hLf.sq SQ (nS _ hkd6), rfl⟩
          · have hlt : j < L := by
              have := (List.getElem?_eq_some_iff.mp hj').1
              rw [List.length_append, List.length_singleton] at this
              omega
            rw [List.getElem?_append_left (by omega)] at hj'
            obtain ⟨y1, y2⟩ := h3'.2 j dj Fj hj'
            simp only [if_neg e]
            rw [wL 1 (by omega), wD, if_neg e]
            exact ⟨y1.sq SQ (nS _ y1.2.1.1.1), y2⟩
        · rw [wS, if_pos rfl]
          show _ = iI ((qN q ++ [(D, dd + 1)]).length : Nat)
          rw [List.length_append, List.length_singleton, hL]; rfl
        · rw [wS, if_neg (by omega)]; exact f7
        · rw [wS, if_neg (by omega)]; exact f8
        · rw [wS, if_neg (by omega)]; exact f9
        · rw [wS, if_neg (by omega)]; exact f10
        · rw [wS, if_neg (by omega)]; exact f11
        · rw [wS, if_neg (by omega)]; exact f12
        · intro d9 bb hh
          rw [wS, if_neg (by omega), wS, if_neg (by omega)]; exact f13 d9 bb hh
        · rw [wS, if_neg (by omega)]; exact f15
        · rw [wS, if_neg (by omega)]; exact f16
        · rw [wS, if_neg (by omega)]; exact f17
        · rw [wS, if_neg (by omega)]; exact f18
    · rw [if_neg (by rw [iL_24, iI_lt (by omega) (by omega) (by omega) (by omega)]; omega), if_pos (by omega)]
      exact ⟨w, d, nd, rfl, h, Sq.rf w⟩
  · rw [if_neg c1] at hx ⊢
    rw [if_neg (show ¬ iB (none : Option (List Nat)).isNone = 0 by show ¬ iB true = 0; decide +kernel), if_pos (by omega)]
    exact ⟨w, d, nd, rfl, h, Sq.rf w⟩
