/-! .. the two calls of orders -/
theorem Op.set {ow : Nat → Nat × Nat} {x : Nat} {w : kW} {S : AS} (h : Kc ow x w S) (j : Nat) (v : Int32) : Kc ow x (kSI w (Lp w x 11) j v) S ∧ Fr ow ow (Cx x) w (kSI w (Lp w x 11) j v) ∧ Sq ow (fun z => z = x) w (kSI w (Lp w x 11) j v) ∧ Lp (kSI w (Lp w x 11) j v) x 11 = Lp w x 11 := by
  have hk : kKd w x = 11 := h.2.1.1.1
  have q2 : kKd w (Lp w x 11) = 14 := h.2.1.2.2.2.2.1
  have ne : x ≠ Lp w x 11 := fun e => by rw [← e, hk] at q2; omega
  have s : Sq ow (fun z => z = x) w (kSI w (Lp w x 11) j v) := Sq.si (by rw [h.2.1.2.2.2.2.2.2])
  obtain ⟨a, b⟩ := h.xf s rfl (kI_SI_o ne) rfl
  exact ⟨a, b, s, rfl⟩
theorem pls_id (l : List Int) : pls l l.length id = l := by
  apply List.ext_getElem?
  intro i
  unfold pls
  by_cases h : i < l.length
  · rw [List.getElem?_map, List.getElem?_range h, List.getElem?_eq_getElem h]
    show some (l.getD i 0) = _
    rw [List.getD_eq_getElem?_getD, List.getElem?_eq_getElem h]
    rfl
  · rw [List.getElem?_eq_none (by rw [List.length_map, List.length_range]; omega), List.getElem?_eq_none (by omega)]
noncomputable def aOrder (S : AS) (p d q : Int) : Int := match tPn (sT S) p, shAt S d with
  | some u, some s => if 0 ≤ q ∧ q ≤ 1 then (if aPr S s = 0 then (if q = 0 then ((oRun (sT S) (pEnd u) (rowL s)).2.2.1 : Int) else (oRun (sT S) (pEnd u) (rowL s)).2.2.2) else aPr S s) else -1
  | _, _ => -1
theorem aPr_0 {S : AS} {s : Sh} (h : aPr S s = 0) : ∃ l, s = some (.inr (0, l)) ∧ 1 ≤ l.length ∧ l.length ≤ 3 ∧ prF S [] l = true := by
  unfold aPr at h
  by_cases c : bRef s = 0
  · rw [if_pos c] at h
    obtain ⟨l, rfl⟩ := bRef_0 c
    by_cases c2 : (1 ≤ (rowL (some (.inr (0, l)))).length ∧ (rowL (some (.inr (0, l)))).length ≤ 3) ∧ prF S [] (rowL (some (.inr (0, l)))) = true
    · exact ⟨l, rfl, c2.1.1, c2.1.2, c2.2⟩
    · rw [if_neg c2] at h
      exact absurd h (by decide)
  · rw [if_neg c] at h
    exact absurd h c
theorem aPr_bd (S : AS) (s : Sh) : -13 ≤ aPr S s ∧ aPr S s ≤ 0 := by
  have := bRef_bd s
  unfold aPr
  split
  · split <;> omega
  · omega
theorem places_3 {ow : Nat → Nat × Nat} {x : Nat} {w : kW} {S : AS} (h : Kc ow x w S) (v0 v1 v2 : Nat) : ∃ w1 w2 w3, ksI w 14 (some (Lp w x 11)) (iI 0) (iI v0) = some w1 ∧ ksI w1 14 (some (Lp w1 x 11)) (iI 1) (iI v1) = some w2 ∧ ksI w2 14 (some (Lp w2 x 11)) (iI 2) (iI v2) = some w3 ∧ Kc ow x w1 S ∧ Kc ow x w2 S ∧ Op ow x w3 S 3 (fun i => if i = 0 then v0 else if i = 1 then v1 else v2) ∧ Fr ow ow (Cx x) w w3 ∧ Sq ow (fun z => z = x) w w3 := by
  obtain ⟨k1, f1, s1, l1⟩ := Op.set h 0 (iI v0)
  obtain ⟨k2, f2, s2, l2⟩ := Op.set k1 1 (iI v1)
  obtain ⟨k3, f3, s3, l3⟩ := Op.set k2 2 (iI v2)
  have sv : ∀ {w : kW}, Kc ow x w S → ∀ (j : Nat) (v : Int32), j < 3 → ksI w 14 (some (Lp w x 11)) (iI j) v = some (kSI w (Lp w x 11) j v) := fun {w} k j v hj => by
    have q2 : kKd w (Lp w x 11) = 14 := k.2.1.2.2.2.2.1
    have q3 : kLn w (Lp w x 11) = 3 := k.2.1.2.2.2.2.2.1
    rw [ksI_e q2 (by omega) (by rw [q3]; omega) (by omega), if_neg (by decide), Int.toNat_natCast]
  refine ⟨_, _, _, sv h 0 _ (by omega), sv k1 1 _ (by omega), sv k2 2 _ (by omega), k1, k2, ⟨k3, fun i hi => ?_⟩, (f1.cc f2).cc f3, (s1.tr s2).tr s3⟩
  rw [l3, l2, l1]
  rcases (show i = 0 ∨ i = 1 ∨ i = 2 by omega) with rfl | rfl | rfl
  · rw [kI_SI_j (by omega), kI_SI_j (by omega), kI_SI_s]; rfl
  · rw [kI_SI_j (by omega), kI_SI_s]; rfl
  · rw [kI_SI_s]; rfl
theorem order_lay {ow : Nat → Nat × Nat} {x : Nat} {w : kW} {S : AS} (h : Kc ow x w S) (x1 x2 x3 x6 : Int32) (x4 x5 : Option Nat) (K : kW → Option (Int32 × kW)) : ∃ w', fX11_order_L57 x x1 x2 x3 x4 x5 x6 kFU (fun _ w => K w) (0 : Int32) w = K w' ∧ Op ow x w' S 3 id ∧ Fr ow ow (Cx x) w w' ∧ Sq ow (fun z => z = x) w w' := by
  obtain ⟨w1, w2, w3, e1, e2, e3, k1, k2, o3, f3, s3⟩ := places_3 h 0 1 2
  refine ⟨w3, ?_, ⟨o3.1, fun i hi => ?_⟩, f3, s3⟩
  · obtain ⟨n, hn⟩ : ∃ n, kFU = n + 1 + 1 + 1 + 1 := ⟨kFU - 4, by unfold kFU; omega⟩
    rw [hn, fX11_order_L57, if_neg (by decide +kernel), kgP_e h.2.1.1.1, Option.bind_some, h.2.1.2.2.2.1]
    have e1' : ksI w 14 (some (Lp w x 11)) 0 0 = some w1 := e1
    have e2' : ksI w1 14 (some (Lp w1 x 11)) 1 1 = some w2 := e2
    have e3' : ksI w2 14 (some (Lp w2 x 11)) 2 2 = some w3 := e3
    rw [e1', Option.bind_some, show (0 : Int32) + 1 = 1 from rfl, fX11_order_L57, if_neg (by decide +kernel), kgP_e k1.2.1.1.1, Option.bind_some, k1.2.1.2.2.2.1, e2', Option.bind_some, show (1 : Int32) + 1 = 2 by decide +kernel, fX11_order_L57, if_neg (by decide +kernel), kgP_e k2.2.1.1.1, Option.bind_some, k2.2.1.2.2.2.1, e3', Option.bind_some, show (2 : Int32) + 1 = 3 by decide +kernel, fX11_order_L57, if_pos (by decide +kernel)]
  · rw [o3.2 i hi]
    rcases (show i = 0 ∨ i = 1 ∨ i = 2 by omega) with rfl | rfl | rfl <;> rfl
theorem kc_order {ow : Nat → Nat × Nat} {x : Nat} {w : kW} {S : AS} (h : Kc ow x w S) {p d q : Int} (hp : I32 p) (hd : I32 d) (hq : I32 q) : Kd ow x w (fX11_order x (iI p) (iI d) (iI q) w) (aOrder S p d q) S := by
  obtain ⟨p1, p2⟩ := programAt_ok h.2.2.1 hp.1 hp.2
  obtain ⟨s1, s2⟩ := shelfAt_ok h hd
  obtain ⟨q0, q1⟩ := hq
  have hk := h.2.1.1.1
  unfold aOrder
  rw [fX11_order, top_t h]
  have shd : ∃ o, fX11_shelfAt x (iI d) w = some o := by
    cases hs : shAt S d with
    | none => exact ⟨_, s1 hs⟩
    | some s => exact ⟨_, (s2 s hs).1⟩
  cases hP : tPn (sT S) p with
  | none =>
    obtain ⟨o, eo⟩ := shd
    exact Kd.rf h (by rw [p1 hP, Option.bind_some, kRc_e hk, Option.bind_some, eo, Option.bind_some, if_pos rfl, iN_1])
  | some u =>
    obtain ⟨pr, e1, g1⟩ := p2 u hP
    rw [e1, Option.bind_some, kRc_e hk, Option.bind_some]
    cases hs : shAt S d with
    | none => exact Kd.rf h (by rw [s1 hs, Option.bind_some, if_neg (by simp), if_pos rfl, iN_1])
    | some s =>
      obtain ⟨e2, o2, d8, -⟩ := s2 s hs
      rw [e2, Option.bind_some, if_neg (by simp), if_neg (by simp)]
      show Kd ow x w _ (if 0 ≤ q ∧ q ≤ 1 then (if aPr S s = 0 then (if q = 0 then ((oRun (sT S) (pEnd u) (rowL s)).2.2.1 : Int) else (oRun (sT S) (pEnd u) (rowL s)).2.2.2) else aPr S s) else -1) S
      by_cases c0 : q < 0
      · rw [if_pos (by rw [iL_0, iI_lt (by omega) (by omega) (by omega) (by omega)]; exact c0), if_neg (by omega)]
        exact Kd.rf h (by rw [iN_1])
      rw [if_neg (by rw [iL_0, iI_lt (by omega) (by omega) (by omega) (by omega)]; exact c0)]
      by_cases c1 : q ≤ 1
      · have bd := aPr_bd S s
        rw [if_pos (by rw [iL_1, iI_le (by omega) (by omega) (by omega) (by omega)]; exact c1), if_pos (show 0 ≤ q ∧ q ≤ 1 by omega), Option.bind_some, aPr_ok h o2, Option.bind_some]
        by_cases c : aPr S s = 0
        · obtain ⟨l, rfl, hl1, hl3, hpr⟩ := aPr_0 c
          obtain ⟨w1, e3, O1, f1, S1⟩ := order_lay h (iI p) (iI d) (iI q) (iI (aPr S (some (.inr (0, l))))) (some pr) (some (x + 221 + 2 * d.toNat)) (fun w12 => (kRc w12 11 (some x)).bind fun b13 =>
  (fX11_tryOrder b13 (some pr) (some (x + 221 + 2 * d.toNat)) w12).bind fun w14 =>
  if iI q = 0 then
  (kgI w14 11 (some x) 12).bind fun v17 =>
  some (v17, w14)
  else
  (kgI w14 11 (some x) 13).bind fun v16 =>
  some (v16, w14))
          have P1 : Pm ow x w1 pr u := ⟨g1.1.fr S1.fr (fun z => by have := g1.2; omega), g1.2⟩
          have sh1 : ShO ow x w1 (x + 221 + 2 * d.toNat) (some (.inr (0, l))) := o2.fr S1.fr (by omega) (fun a ha => by omega)
          obtain ⟨w2, e4, O2, ⟨r1, r2⟩, f2, S2, B2⟩ := tryOrder_ok (pl := id) (tPn_in hP) o2.1.2.1 (by omega) hpr hl3 (fun i hi => hi) ⟨O1.1, fun i hi => O1.2 i (by omega)⟩ P1 sh1
          rw [pls_id] at r1 r2
          rw [if_pos (by rw [c]; rfl), if_pos c, e3, kRc_e O1.1.2.1.1.1, Option.bind_some, e4, Option.bind_some]
          show Kd ow x w _ (if q = 0 then ((oRun (sT S) (pEnd u) l).2.2.1 : Int) else (oRun (sT S) (pEnd u) l).2.2.2) S
          by_cases cq : q = 0
          · rw [if_pos (by rw [cq]; rfl), if_pos cq, kgI_e O2.1.2.1.1.1, Option.bind_some, r1]
            exact ⟨w2, ow, rfl, O2.1, f1.cc f2⟩
          · rw [if_neg (by rw [iL_0, iI_eq (by omega) (by omega) (by omega) (by omega)]; exact cq), if_neg cq, kgI_e O2.1.2.1.1.1, Option.bind_some, r2]
            exact ⟨w2, ow, rfl, O2.1, f1.cc f2⟩
        · rw [if_neg (by rw [iL_0, iI_eq (by omega) (by omega) (by omega) (by omega)]; exact c), if_neg c]
          exact Kd.rf h rfl
      · rw [if_neg (by rw [iL_1, iI_le (by omega) (by omega) (by omega) (by omega)]; exact c1), if_neg (by omega)]
        exact Kd.rf h (by rw [iN_1])
