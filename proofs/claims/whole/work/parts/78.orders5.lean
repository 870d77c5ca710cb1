/-! .. the best order -/
def dig (p : List Nat) : Nat := p.foldr (fun d a => a * 8 + d) 0
def plT (t : Nat) (i : Nat) : Nat := if i = 0 then t / 9 else if i = 1 then t / 3 % 3 else t % 3
def lpk (pl : Nat → Nat) (n i : Nat) : Bool := ((List.range' 0 i).all fun j => decide (pl i ≠ pl j)) && (if n ≤ i then decide (pl i = i) else decide (pl i < n))
def lpOk (pl : Nat → Nat) (n : Nat) : Bool := lpk pl n 0 && (lpk pl n 1 && lpk pl n 2)
abbrev BS : Type := Int × Nat × Nat
noncomputable def bSt (T : TbS) (P : PS) (l : List Int) (b : BS) (p : List Nat) : BS := if b.1 < (oRun T P (p.map fun i => l.getD i 0)).2.2.1 ∨ (b.1 = (oRun T P (p.map fun i => l.getD i 0)).2.2.1 ∧ (oRun T P (p.map fun i => l.getD i 0)).2.2.2 < b.2.1) then ((oRun T P (p.map fun i => l.getD i 0)).2.2.1, (oRun T P (p.map fun i => l.getD i 0)).2.2.2, dig p) else b
def tns (n t m : Nat) : List (List Nat) := ((List.range' t m).filter fun t => lpOk (plT t) n).map fun t => (List.range n).map (plT t)
def perms (n : Nat) : List (List Nat) := if n = 1 then [[0]] else if n = 2 then [[0, 1], [1, 0]] else [[0, 1, 2], [0, 2, 1], [1, 0, 2], [1, 2, 0], [2, 0, 1], [2, 1, 0]]
theorem tns_27 (n : Nat) (h : n = 1 ∨ n = 2 ∨ n = 3) : tns n 0 27 = perms n := by
  rcases h with rfl | rfl | rfl <;> decide +kernel
theorem lay_3 {ow : Nat → Nat × Nat} {x : Nat} {w : kW} {S : AS} (h : Kc ow x w S) (v0 v1 v2 : Nat) : ∃ w1 w2 w3, ksI w 14 (some (Lp w x 11)) (iI 2) (iI v2) = some w1 ∧ ksI w1 14 (some (Lp w1 x 11)) (iI 1) (iI v1) = some w2 ∧ ksI w2 14 (some (Lp w2 x 11)) (iI 0) (iI v0) = some w3 ∧ Kc ow x w1 S ∧ Kc ow x w2 S ∧ Op ow x w3 S 3 (fun i => if i = 0 then v0 else if i = 1 then v1 else v2) ∧ Fr ow ow (Cx x) w w3 ∧ Sq ow (fun z => z = x) w w3 := by
  obtain ⟨k1, f1, s1, l1⟩ := Op.set h 2 (iI v2)
  obtain ⟨k2, f2, s2, l2⟩ := Op.set k1 1 (iI v1)
  obtain ⟨k3, f3, s3, l3⟩ := Op.set k2 0 (iI v0)
  have sv : ∀ {w : kW}, Kc ow x w S → ∀ (j : Nat) (v : Int32), j < 3 → ksI w 14 (some (Lp w x 11)) (iI j) v = some (kSI w (Lp w x 11) j v) := fun {w} k j v hj => by
    have q2 : kKd w (Lp w x 11) = 14 := k.2.1.2.2.2.2.1
    have q3 : kLn w (Lp w x 11) = 3 := k.2.1.2.2.2.2.2.1
    rw [ksI_e q2 (by omega) (by rw [q3]; omega) (by omega), if_neg (by decide), Int.toNat_natCast]
  refine ⟨_, _, _, sv h 2 _ (by omega), sv k1 1 _ (by omega), sv k2 0 _ (by omega), k1, k2, ⟨k3, fun i hi => ?_⟩, (f1.cc f2).cc f3, (s1.tr s2).tr s3⟩
  rw [l3, l2, l1]
  rcases (show i = 0 ∨ i = 1 ∨ i = 2 by omega) with rfl | rfl | rfl
  · rw [kI_SI_s]; rfl
  · rw [kI_SI_j (by omega), kI_SI_s]; rfl
  · rw [kI_SI_j (by omega), kI_SI_j (by omega), kI_SI_s]; rfl
theorem t_3 : ∀ t : Nat, t < 27 → iI (t : Int) - iI (t : Int) / (3 : Int32) * (3 : Int32) = iI ((t % 3 : Nat) : Int) ∧ iI (t : Int) / (3 : Int32) = iI ((t / 3 : Nat) : Int) := by decide +kernel
theorem lay42 {ow : Nat → Nat × Nat} {x : Nat} {w : kW} {S : AS} {pl : Nat → Nat} (h : Op ow x w S 3 pl) (h3 : ∀ i, i < 3 → pl i < 27) (x1 x2 x3 : Int32) {i : Nat} (hi : i < 3) (k : Int32 → Option (Int32 × kW)) : ∀ (m fu j : Nat), m < fu → j + m = i → fX11_layPlaces_L42 x x1 x2 x3 (iI i) w fu k (iI j) = if ((List.range' j m).all fun j => decide (pl i ≠ pl j)) = true then k (iI i) else some (0, w) := by
  have hk : kKd w x = 11 := h.1.2.1.1.1
  have q1 : kP w x 11 = some (Lp w x 11) := h.1.2.1.2.2.2.1
  have q2 : kKd w (Lp w x 11) = 14 := h.1.2.1.2.2.2.2.1
  have q3 : kLn w (Lp w x 11) = 3 := h.1.2.1.2.2.2.2.2.1
  intro m
  induction m with
  | zero =>
    intro fu j hf hj
    obtain ⟨fu, rfl⟩ : ∃ g, fu = g + 1 := ⟨fu - 1, by omega⟩
    rw [fX11_layPlaces_L42, if_pos (by rw [iI_le (by omega) (by omega) (by omega) (by omega)]; omega), show j = i by omega]
    rfl
  | succ m ih =>
    intro fu j hf hj
    obtain ⟨fu, rfl⟩ : ∃ g, fu = g + 1 := ⟨fu - 1, by omega⟩
    have b1 := h3 i hi
    have b2 := h3 j (by omega)
    rw [fX11_layPlaces_L42, if_neg (by rw [iI_le (by omega) (by omega) (by omega) (by omega)]; omega), kgP_e hk, Option.bind_some, q1, kaI_e q2 (by omega) (by rw [q3]; omega) (by omega), Option.bind_some, Option.bind_some, kaI_e q2 (by omega) (by rw [q3]; omega) (by omega), Option.bind_some, Int.toNat_natCast, Int.toNat_natCast, h.2 i hi, h.2 j (by omega), List.range'_succ, List.all_cons]
    by_cases c : pl i = pl j
    · rw [if_pos (by rw [c]), decide_eq_false (fun z => z c), if_neg (by simp)]
    · rw [if_neg (by rw [iI_eq (by omega) (by omega) (by omega) (by omega)]; omega), decide_eq_true c, Bool.true_and, iL_1, iI_add, show (j : Int) + 1 = ((j + 1 : Nat) : Int) by omega, ih fu (j + 1) (by omega) (by omega)]
theorem lay33 {ow : Nat → Nat × Nat} {x : Nat} {w : kW} {S : AS} {pl : Nat → Nat} (h : Op ow x w S 3 pl) (h3 : ∀ i, i < 3 → pl i < 27) (x1 x3 : Int32) {n : Nat} (hn : n < 100) {i : Nat} (hi : i < 3) (k : Int32 → Option (Int32 × kW)) (fu : Nat) : fX11_layPlaces_L33 x x1 (iI n) x3 w (fu + 1) k (iI i) = if lpk pl n i = true then fX11_layPlaces_L33 x x1 (iI n) x3 w fu k (iI (i + 1 : Nat)) else some (0, w) := by
  have hk : kKd w x = 11 := h.1.2.1.1.1
  have q1 : kP w x 11 = some (Lp w x 11) := h.1.2.1.2.2.2.1
  have q2 : kKd w (Lp w x 11) = 14 := h.1.2.1.2.2.2.2.1
  have q3 : kLn w (Lp w x 11) = 3 := h.1.2.1.2.2.2.2.2.1
  have b1 := h3 i hi
  have e := lay42 h h3 x1 (iI n) x3 hi (fun _ => if iI n ≤ iI i then
  (kgP w 11 (some x) 11).bind fun v2 =>
  (kaI w 14 v2 (iI i)).bind fun v3 =>
  if v3 = iI i then
  fX11_layPlaces_L33 x x1 (iI n) x3 w fu k (iI i + (1 : Int32))
  else
  some ((0 : Int32), w)
  else
  (kgP w 11 (some x) 11).bind fun v4 =>
  (kaI w 14 v4 (iI i)).bind fun v5 =>
  if v5 < iI n then
  fX11_layPlaces_L33 x x1 (iI n) x3 w fu k (iI i + (1 : Int32))
  else
  some ((0 : Int32), w)) i kFU 0 (by unfold kFU; omega) (by omega)
  rw [show iI ((0 : Nat) : Int) = (0 : Int32) from rfl] at e
  rw [fX11_layPlaces_L33, if_neg (by rw [iL_3, iI_le (by omega) (by omega) (by omega) (by omega)]; omega), e]
  unfold lpk
  cases ha : ((List.range' 0 i).all fun j => decide (pl i ≠ pl j)) with
  | false => rw [if_neg (by simp), Bool.false_and, if_neg (by simp)]
  | true =>
    rw [if_pos rfl, Bool.true_and, iL_1, iI_add, show (i : Int) + 1 = ((i + 1 : Nat) : Int) by omega]
    by_cases c : n ≤ i
    · rw [if_pos (by rw [iI_le (by omega) (by omega) (by omega) (by omega)]; omega), if_pos c, kgP_e hk, Option.bind_some, q1, kaI_e q2 (by omega) (by rw [q3]; omega) (by omega), Option.bind_some, Int.toNat_natCast, h.2 i hi]
      by_cases c2 : pl i = i
      · rw [if_pos (by rw [c2]), decide_eq_true c2, if_pos rfl]
      · rw [if_neg (by rw [iI_eq (by omega) (by omega) (by omega) (by omega)]; omega), decide_eq_false c2, if_neg (by simp)]
    · rw [if_neg (by rw [iI_le (by omega) (by omega) (by omega) (by omega)]; omega), if_neg c, kgP_e hk, Option.bind_some, q1, kaI_e q2 (by omega) (by rw [q3]; omega) (by omega), Option.bind_some, Int.toNat_natCast, h.2 i hi]
      by_cases c2 : pl i < n
      · rw [if_pos (by rw [iI_lt (by omega) (by omega) (by omega) (by omega)]; omega), decide_eq_true c2, if_pos rfl]
      · rw [if_neg (by rw [iI_lt (by omega) (by omega) (by omega) (by omega)]; omega), decide_eq_false c2, if_neg (by simp)]
theorem layPlaces_ok {ow : Nat → Nat × Nat} {x : Nat} {w : kW} {S : AS} (h : Kc ow x w S) {t n : Nat} (ht : t < 27) (hn : n < 100) : ∃ w', fX11_layPlaces x (iI t) (iI n) w = some (iB (lpOk (plT t) n), w') ∧ Op ow x w' S 3 (plT t) ∧ Fr ow ow (Cx x) w w' ∧ Sq ow (fun z => z = x) w w' := by
  obtain ⟨w1, w2, w3, e1, e2, e3, k1, k2, o3, f3, s3⟩ := lay_3 h (t / 9) (t / 3 % 3) (t % 3)
  obtain ⟨m, hm⟩ : ∃ m, kFU = m + 1 + 1 + 1 + 1 := ⟨kFU - 4, by unfold kFU; omega⟩
  obtain ⟨a1, a2⟩ := t_3 t ht
  obtain ⟨a3, a4⟩ := t_3 (t / 3) (by omega)
  obtain ⟨a5, a6⟩ := t_3 (t / 3 / 3) (by omega)
  have o3' : Op ow x w3 S 3 (plT t) := o3
  have b3 : ∀ i, i < 3 → plT t i < 27 := fun i hi => by
    unfold plT
    split
    · omega
    · split <;> omega
  refine ⟨w3, ?_, o3', f3, s3⟩
  have e1' : ksI w 14 (some (Lp w x 11)) 2 (iI ((t % 3 : Nat) : Int)) = some w1 := e1
  have e2' : ksI w1 14 (some (Lp w1 x 11)) 1 (iI ((t / 3 % 3 : Nat) : Int)) = some w2 := e2
  have e3' : ksI w2 14 (some (Lp w2 x 11)) 0 (iI ((t / 9 : Nat) : Int)) = some w3 := e3
  have L : ∀ k : Int32 → Int32 → kW → Option (Int32 × kW), fX11_layPlaces_L5 x (iI t) (iI n) kFU k (iI t) (2 : Int32) w = k (iI ((t / 3 / 3 / 3 : Nat) : Int)) (-1) w3 := fun k => by
    rw [hm, fX11_layPlaces_L5, if_neg (by decide +kernel), kgP_e h.2.1.1.1, Option.bind_some, h.2.1.2.2.2.1, a1, e1', Option.bind_some, a2, show (2 : Int32) + (-1) = 1 by decide +kernel, fX11_layPlaces_L5, if_neg (by decide +kernel), kgP_e k1.2.1.1.1, Option.bind_some, k1.2.1.2.2.2.1, a3, e2', Option.bind_some, a4, show (1 : Int32) + (-1) = 0 by decide +kernel, fX11_layPlaces_L5, if_neg (by decide +kernel), kgP_e k2.2.1.1.1, Option.bind_some, k2.2.1.2.2.2.1, a5, show t / 3 / 3 % 3 = t / 9 by omega, e3', Option.bind_some, a6, show (0 : Int32) + (-1) = -1 by decide +kernel, fX11_layPlaces_L5, if_pos (by decide +kernel)]
  rw [fX11_layPlaces, L]
  have s0 := lay33 o3' b3 (iI t) (iI ((t / 3 / 3 / 3 : Nat) : Int)) hn (i := 0) (by omega) (fun _ => some ((1 : Int32), w3)) (m + 1 + 1 + 1)
  have s1 := lay33 o3' b3 (iI t) (iI ((t / 3 / 3 / 3 : Nat) : Int)) hn (i := 1) (by omega) (fun _ => some ((1 : Int32), w3)) (m + 1 + 1)
  have s2 := lay33 o3' b3 (iI t) (iI ((t / 3 / 3 / 3 : Nat) : Int)) hn (i := 2) (by omega) (fun _ => some ((1 : Int32), w3)) (m + 1)
  rw [show iI ((0 : Nat) : Int) = (0 : Int32) from rfl] at s0
  rw [hm, s0]
  unfold lpOk
  cases c0 : lpk (plT t) n 0 with
  | false => rw [if_neg (by simp)]; rfl
  | true =>
    rw [if_pos rfl]
    rw [show ((0 + 1 : Nat) : Int) = ((1 : Nat) : Int) from rfl, s1]
    cases c1 : lpk (plT t) n 1 with
    | false => rw [if_neg (by simp)]; rfl
    | true =>
      rw [if_pos rfl, show ((1 + 1 : Nat) : Int) = ((2 : Nat) : Int) from rfl, s2]
      cases c2 : lpk (plT t) n 2 with
      | false => rw [if_neg (by simp)]; rfl
      | true =>
        rw [if_pos rfl, fX11_layPlaces_L33, if_pos (by decide +kernel)]
        rfl
