/-! .. order, best order -/
theorem inOrder_ok {w : rW} {S : AS} (h : MI w S) {p d : Int} {u : List Int} (hu : tPn (sT S) p = some u) (d0 : 0 ≤ d) (d8 : d.toNat < 8) {l : List Int} (hs : sH S d.toNat = some (.inr (0, l))) (hpr : prF S [] l = true) (hl3 : l.length ≤ 3) {q : List Nat} (hql : q.length = l.length) (hq : ∀ k ∈ q, k < l.length) (hb : dig q < 100000) : ∃ w', fX12_inOrder (iI p) (iI d) (iI (dig q)) w = some w' ∧ MI w' S ∧ rF w' 39 = iI (oRun (sT S) (pEnd u) (q.map fun k => l.getD k 0)).2.2.1 ∧ rF w' 40 = iI (oRun (sT S) (pEnd u) (q.map fun k => l.getD k 0)).2.2.2 ∧ (oRun (sT S) (pEnd u) (q.map fun k => l.getD k 0)).2.2.2 ≤ 300 := by
  obtain ⟨rm, hl⟩ := pb_room h.1.1 hpr
  obtain ⟨w1, e1, r1, k1⟩ := asNow_ok h
  have m1 := h.rq (NwA.sc r1)
  have z0 : (0 : Int32) = iI ((0 : Nat) : Int) := rfl
  obtain ⟨w4, ew4⟩ : ∃ w4, w4 = rSF (rSF w1 39 (iI ((0 : Nat) : Int))) 40 (iI ((0 : Nat) : Int)) := ⟨_, rfl⟩
  have m4 : MI w4 S := by
    rw [ew4]
    exact (m1.rq (Rq.sf ⟨by omega, by omega⟩)).rq (Rq.sf ⟨by omega, by omega⟩)
  have hA : rA w4 = rA w1 := by rw [ew4]; rfl
  have k4 : MkK w4 (tKL (sT S)) := by
    obtain ⟨a, b, c⟩ := k1
    refine ⟨by rw [ew4, rF_SF_o (by omega), rF_SF_o (by omega)]; exact a, b, fun k num G e => ?_⟩
    obtain ⟨y1, y2⟩ := c k num G e
    exact ⟨by rw [hA]; exact y1, y2.eq hA⟩
  obtain ⟨w', e', O, B⟩ := inOrd hu d0 d8 hs hl (iI (dig q)) q kFU 0 w4 (tKL (sT S), 0, 0, 0) (by unfold kFU; omega) (by omega) (fun k hk => ⟨hq k hk, by have := hq k hk; omega⟩) hb ⟨m4, k4, ⟨by rw [ew4, rF_SF_o (by omega), rF_SF_s], by rw [ew4, rF_SF_s]⟩, tKL_40 h.1.1⟩ (by show (tKL (sT S)).length + q.length ≤ 40; rw [tKL_len]; omega)
  refine ⟨w', ?_, O.1, O.2.2.1.1, O.2.2.1.2, ?_⟩
  · rw [fX12_inOrder, e1, Option.bind_some, rpN, Option.bind_some, rpN, Option.bind_some]
    have ew : rSF (rSF w1 39 (0 : Int32)) 40 (0 : Int32) = w4 := ew4.symm
    rw [ew]
    exact e'
  · have B' : (oRun (sT S) (pEnd u) (q.map fun k => l.getD k 0)).2.2.2 ≤ 0 + 100 * q.length := B
    omega
theorem getD_range (l : List Int) : ((List.range l.length).map fun k => l.getD k 0) = l := by
  apply List.ext_getElem?
  intro i
  by_cases h : i < l.length
  · rw [List.getElem?_map, List.getElem?_range h, List.getElem?_eq_getElem h]
    show some (l.getD i 0) = _
    rw [List.getD_eq_getElem?_getD, List.getElem?_eq_getElem h]
    rfl
  · rw [List.getElem?_eq_none (by rw [List.length_map, List.length_range]; omega), List.getElem?_eq_none (by omega)]
theorem asTold_ok {n : Nat} (h1 : 1 ≤ n) (h3 : n ≤ 3) : fX12_asTold (iI n) = some (iI (dig (List.range n))) ∧ dig (List.range n) < 100000 := by
  rcases (show n = 1 ∨ n = 2 ∨ n = 3 by omega) with rfl | rfl | rfl
  · exact ⟨by rw [fX12_asTold, if_pos (by decide +kernel)]; rfl, by decide⟩
  · exact ⟨by rw [fX12_asTold, if_neg (by decide +kernel), if_pos (by decide +kernel)]; exact congrArg some (by decide +kernel), by decide⟩
  · exact ⟨by rw [fX12_asTold, if_neg (by decide +kernel), if_neg (by decide +kernel)]; exact congrArg some (by decide +kernel), by decide⟩
theorem m_order {w : rW} {S : AS} (h : MI w S) {p d q : Int} (hp : I32 p) (hd : I32 d) (hq : I32 q) : Md (fX12_order (iI p) (iI d) (iI q) w) (aOrder S p d q) S := by
  have hq' := hq
  obtain ⟨q0, q1⟩ := hq
  rw [fX12_order, z0N, show (1 : Int64) = (iI 1).toInt64 by decide +kernel, isIn_ok hq' (by unfold I32; omega) (by unfold I32; omega), Option.bind_some]
  unfold aOrder
  by_cases c : 0 ≤ q ∧ q ≤ 1
  · rw [decide_eq_true c, if_neg iB_tn, mWrongOrder h hp hd, Option.bind_some]
    cases hP : tPn (sT S) p with
    | none =>
      refine ⟨w, ?_, h⟩
      show (if iI (-1) = 0 then _ else some (iI (-1), w)) = _
      rw [if_neg (by decide +kernel)]
    | some u =>
      cases hs : shAt S d with
      | none =>
        refine ⟨w, ?_, h⟩
        show (if iI (-1) = 0 then _ else some (iI (-1), w)) = _
        rw [if_neg (by decide +kernel)]
      | some s =>
        obtain ⟨d8, de, ds⟩ := shAt_s hs
        have bd := aPr_bd S s
        show Md (if iI (aPr S s) = 0 then _ else some (iI (aPr S s), w)) (if 0 ≤ q ∧ q ≤ 1 then (if aPr S s = 0 then (if q = 0 then ((oRun (sT S) (pEnd u) (rowL s)).2.2.1 : Int) else (oRun (sT S) (pEnd u) (rowL s)).2.2.2) else aPr S s) else -1) S
        rw [if_pos c]
        by_cases c0 : aPr S s = 0
        · obtain ⟨l, rfl, l1, l3, hpr⟩ := aPr_0 c0
          have hm := h.2.2.1 d.toNat d8
          rw [← ds] at hm
          have e6 : raI w 6 8 (iI d) = some (iI l.length) := by
            rw [show iI d = iI ((d.toNat : Nat) : Int) by rw [de], raN (by omega) (by omega)]
            exact congrArg some hm.2.2.1
          obtain ⟨t1, t2⟩ := asTold_ok l1 l3
          obtain ⟨w', e', m', f39, f40, -⟩ := inOrder_ok h hP (by omega) d8 ds.symm hpr l3 (q := List.range l.length) (List.length_range) (fun k hk => List.mem_range.mp hk) t2
          rw [getD_range] at f39 f40
          rw [if_pos (by rw [c0]; rfl), if_pos c0, e6, Option.bind_some, t1, Option.bind_some, e', Option.bind_some, f39, f40]
          refine ⟨w', ?_, m'⟩
          show _ = some (iI (if q = 0 then ((oRun (sT S) (pEnd u) l).2.2.1 : Int) else (oRun (sT S) (pEnd u) l).2.2.2), w')
          by_cases c1 : q = 0
          · rw [if_pos (by rw [c1]; rfl), if_pos c1]
          · rw [if_neg (by rw [iL_0, iI_eq (by omega) (by omega) (by omega) (by omega)]; exact c1), if_neg c1]
        · rw [if_neg (by rw [iL_0, iI_eq (by omega) (by omega) (by omega) (by omega)]; exact c0), if_neg c0]
          exact ⟨w, rfl, h⟩
  · rw [decide_eq_false c, if_pos iB_fz]
    refine ⟨w, ?_, h⟩
    cases hP : tPn (sT S) p with
    | none => rw [iN_1]
    | some u =>
      cases hs : shAt S d with
      | none => rw [iN_1]
      | some s =>
        show _ = some (iI (if 0 ≤ q ∧ q ≤ 1 then _ else -1), w)
        rw [if_neg c, iN_1]
/-! all orders of 1 .. 3 places, as numbers -/
def kOk (n k : Nat) : Bool := if n = 1 then decide (k = 0) else if n = 2 then decide (k = 1 ∨ k = 8) else decide (k = 10 ∨ k = 17 ∨ k = 66 ∨ k = 80 ∨ k = 129 ∨ k = 136)
def unk (n k : Nat) : List Nat := if n = 1 then [k] else if n = 2 then [k / 8, k % 8] else [k / 64, k / 8 % 8, k % 8]
def kl (n t m : Nat) : List (List Nat) := ((List.range' t m).filter (kOk n)).map (unk n)
theorem kl_512 (n : Nat) (h : n = 1 ∨ n = 2 ∨ n = 3) : kl n 0 512 = perms n := by
  rcases h with rfl | rfl | rfl <;> decide +kernel
theorem kl_s (n t m : Nat) : kl n t (m + 1) = if kOk n t = true then unk n t :: kl n (t + 1) m else kl n (t + 1) m := by
  unfold kl
  rw [List.range'_succ, List.filter_cons]
  split
  · rw [List.map_cons]
  · rfl
theorem isO_1 : ∀ k : Nat, k < 512 → (if (iI (k : Int) / (8 : Int32)) = 0 then (if ((0 : Int32) ||| ((1 : Int32) <<< ((iI (k : Int) - iI (k : Int) / (8 : Int32) * (8 : Int32)) &&& 31))) = (((1 : Int32) <<< ((1 : Int32) &&& 31)) - (1 : Int32)) then some (1 : Int32) else some 0) else some 0) = some (iB (kOk 1 k)) := by decide +kernel
theorem isO_2 : ∀ k : Nat, k < 512 → (if (iI (k : Int) / (8 : Int32) / (8 : Int32)) = 0 then (if ((0 : Int32) ||| ((1 : Int32) <<< ((iI (k : Int) - iI (k : Int) / (8 : Int32) * (8 : Int32)) &&& 31)) ||| ((1 : Int32) <<< ((iI (k : Int) / (8 : Int32) - iI (k : Int) / (8 : Int32) / (8 : Int32) * (8 : Int32)) &&& 31))) = (((1 : Int32) <<< ((2 : Int32) &&& 31)) - (1 : Int32)) then some (1 : Int32) else some 0) else some 0) = some (iB (kOk 2 k)) := by decide +kernel
theorem isO_3 : ∀ k : Nat, k < 512 → (if (iI (k : Int) / (8 : Int32) / (8 : Int32) / (8 : Int32)) = 0 then (if ((0 : Int32) ||| ((1 : Int32) <<< ((iI (k : Int) - iI (k : Int) / (8 : Int32) * (8 : Int32)) &&& 31)) ||| ((1 : Int32) <<< ((iI (k : Int) / (8 : Int32) - iI (k : Int) / (8 : Int32) / (8 : Int32) * (8 : Int32)) &&& 31)) ||| ((1 : Int32) <<< ((iI (k : Int) / (8 : Int32) / (8 : Int32) - iI (k : Int) / (8 : Int32) / (8 : Int32) / (8 : Int32) * (8 : Int32)) &&& 31))) = (((1 : Int32) <<< ((3 : Int32) &&& 31)) - (1 : Int32)) then some (1 : Int32) else some 0) else some 0) = some (iB (kOk 3 k)) := by decide +kernel
theorem isOrder_ok {k n : Nat} (hk : k < 512) (h1 : 1 ≤ n) (h3 : n ≤ 3) : fX12_isOrder (iI k) (iI n) = some (iB (kOk n k)) := by
  obtain ⟨fu, hfu⟩ : ∃ fu, kFU = fu + 4 := ⟨kFU - 4, by unfold kFU; omega⟩
  rw [fX12_isOrder, hfu]
  rcases (show n = 1 ∨ n = 2 ∨ n = 3 by omega) with rfl | rfl | rfl
  · rw [fX12_isOrder_L8, if_neg (by decide +kernel), Option.bind_some, fX12_isOrder_L8, if_pos (by decide +kernel)]
    exact isO_1 k hk
  · rw [fX12_isOrder_L8, if_neg (by decide +kernel), Option.bind_some, fX12_isOrder_L8, if_neg (by decide +kernel), Option.bind_some, fX12_isOrder_L8, if_pos (by decide +kernel)]
    exact isO_2 k hk
  · rw [fX12_isOrder_L8, if_neg (by decide +kernel), Option.bind_some, fX12_isOrder_L8, if_neg (by decide +kernel), Option.bind_some, fX12_isOrder_L8, if_neg (by decide +kernel), Option.bind_some, fX12_isOrder_L8, if_pos (by decide +kernel)]
    exact isO_3 k hk
theorem tu_2 : ∀ k : Nat, k < 512 → (((iI (k : Int) - iI (k : Int) / (8 : Int32) * (8 : Int32)) * (8 : Int32)) + (iI (k : Int) / (8 : Int32))) = iI (dig (unk 2 k)) := by decide +kernel
theorem tu_3 : ∀ k : Nat, k < 512 → ((((iI (k : Int) - iI (k : Int) / (8 : Int32) * (8 : Int32)) * (64 : Int32)) + (((iI (k : Int) / (8 : Int32)) - (iI (k : Int) / (8 : Int32)) / (8 : Int32) * (8 : Int32)) * (8 : Int32))) + (iI (k : Int) / (64 : Int32))) = iI (dig (unk 3 k)) := by decide +kernel
theorem turned_ok {k n : Nat} (hk : k < 512) (h1 : 1 ≤ n) (h3 : n ≤ 3) : fX12_turned (iI k) (iI n) = some (iI (dig (unk n k))) := by
  rw [fX12_turned]
  rcases (show n = 1 ∨ n = 2 ∨ n = 3 by omega) with rfl | rfl | rfl
  · rw [if_pos (by decide +kernel)]
    have e : dig (unk 1 k) = k := by
      show 0 * 8 + k = k
      omega
    rw [e]
  · rw [if_neg (by decide +kernel), if_pos (by decide +kernel), tu_2 k hk]
  · rw [if_neg (by decide +kernel), if_neg (by decide +kernel), tu_3 k hk]
theorem unk_ok {k n : Nat} (h1 : 1 ≤ n) (h3 : n ≤ 3) (h : kOk n k = true) : (unk n k).length = n ∧ (∀ j ∈ unk n k, j < n) ∧ dig (unk n k) < 512 := by
  rcases (show n = 1 ∨ n = 2 ∨ n = 3 by omega) with rfl | rfl | rfl
  · have e : k = 0 := of_decide_eq_true h
    subst e
    exact ⟨rfl, by decide, by decide⟩
  · have e : k = 1 ∨ k = 8 := of_decide_eq_true h
    rcases e with rfl | rfl <;> exact ⟨rfl, by decide, by decide⟩
  · have e : k = 10 ∨ k = 17 ∨ k = 66 ∨ k = 80 ∨ k = 129 ∨ k = 136 := of_decide_eq_true h
    rcases e with rfl | rfl | rfl | rfl | rfl | rfl <;> exact ⟨rfl, by decide, by decide⟩
def RB (b : BS) (x5 x6 x7 : Int32) : Prop := (b.1 = -1 ∧ x5 = iI (-4) ∧ x6 = 0 ∧ x7 = 0) ∨ (0 ≤ b.1 ∧ b.1 ≤ 3 ∧ b.2.1 ≤ 300 ∧ b.2.2 < 512 ∧ x5 = iI b.2.2 ∧ x6 = iI b.1 ∧ x7 = iI b.2.1)
theorem bestL {S : AS} {p : Int} {u : List Int} (hu : tPn (sT S) p = some u) {d : Int} {l : List Int} (d0 : 0 ≤ d) (d8 : d.toNat < 8) (hs : sH S d.toNat = some (.inr (0, l))) (hpr : prF S [] l = true) (l1 : 1 ≤ l.length) (l3 : l.length ≤ 3) (x3 x4 : Int32) (K : Int32 → Int32 → Int32 → rW → Option (Int32 × rW)) : ∀ (m fu t : Nat) (w : rW) (b : BS) (x5 x6 x7 : Int32), m < fu → t + m = 512 → MI w S → RB b x5 x6 x7 →
    ∃ w' y5 y6 y7, fX12_bestOrder_L43 (iI p) (iI d) x3 x4 fu (fun a b c _ z => K a b c z) x5 x6 x7 (iI t) w = K y5 y6 y7 w' ∧ MI w' S ∧ RB ((kl l.length t m).foldl (bSt (sT S) (pEnd u) l) b) y5 y6 y7 := by
  have c512 : (512 : Int32) = iI ((512 : Nat) : Int) := by decide +kernel
  intro m
  induction m with
  | zero =>
    intro fu t w b x5 x6 x7 hf ht h hb
    obtain ⟨fu, rfl⟩ : ∃ g, fu = g + 1 := ⟨fu - 1, by omega⟩
    exact ⟨w, x5, x6, x7, by rw [fX12_bestOrder_L43, if_pos (by rw [c512, iI_le (by omega) (by omega) (by omega) (by omega)]; omega)], h, hb⟩
  | succ m ih =>
    intro fu t w b x5 x6 x7 hf ht h hb
    obtain ⟨fu, rfl⟩ : ∃ g, fu = g + 1 := ⟨fu - 1, by omega⟩
    have t512 : t < 512 := by omega
    have hm := h.2.2.1 d.toNat d8
    rw [hs] at hm
    have e6 : raI w 6 8 (iI d) = some (iI l.length) := by
      rw [show iI d = iI ((d.toNat : Nat) : Int) by congr 1; omega, raN (by omega) (by omega)]
      exact congrArg some hm.2.2.1
    rw [fX12_bestOrder_L43, if_neg (by rw [c512, iI_le (by omega) (by omega) (by omega) (by omega)]; omega), e6, Option.bind_some, turned_ok t512 l1 l3, Option.bind_some, Option.bind_some, isOrder_ok t512 l1 l3, Option.bind_some, kl_s, e1s]
    cases hk : kOk l.length t with
    | false =>
      rw [if_pos iB_fz, if_neg Bool.false_ne_true]
      exact ih fu (t + 1) w b x5 x6 x7 (by omega) (by omega) h hb
    | true =>
      obtain ⟨u1, u2, u3⟩ := unk_ok l1 l3 hk
      obtain ⟨w7, e7, m7, f39, f40, a300⟩ := inOrder_ok h hu d0 d8 hs hpr l3 u1 u2 (by omega)
      have fnd := oRun_found (T := sT S) (P := pEnd u) ((unk l.length t).map fun k => l.getD k 0)
      rw [List.length_map, u1] at fnd
      rw [if_neg iB_tn, e7, Option.bind_some, if_pos rfl, List.foldl_cons, f39, f40]
      have eb : bSt (sT S) (pEnd u) l b (unk l.length t) = if b.1 < (oRun (sT S) (pEnd u) ((unk l.length t).map fun i => l.getD i 0)).2.2.1 ∨ (b.1 = (oRun (sT S) (pEnd u) ((unk l.length t).map fun i => l.getD i 0)).2.2.1 ∧ (oRun (sT S) (pEnd u) ((unk l.length t).map fun i => l.getD i 0)).2.2.2 < b.2.1) then (((oRun (sT S) (pEnd u) ((unk l.length t).map fun i => l.getD i 0)).2.2.1 : Int), (oRun (sT S) (pEnd u) ((unk l.length t).map fun i => l.getD i 0)).2.2.2, dig (unk l.length t)) else b := rfl
      rw [eb]
      generalize (oRun (sT S) (pEnd u) ((unk l.length t).map fun i => l.getD i 0)).2.2.1 = found at fnd f39 ⊢
      generalize (oRun (sT S) (pEnd u) ((unk l.length t).map fun i => l.getD i 0)).2.2.2 = acts at a300 f40 ⊢
      have new : ∃ w' y5 y6 y7, fX12_bestOrder_J43_125 (fun q5 q6 q7 q8 qw => fX12_bestOrder_L43 (iI p) (iI d) x3 x4 fu (fun a b c _ z => K a b c z) q5 q6 q7 q8 qw) (fun a b c _ z => K a b c z) (iI p) (iI d) x3 x4 x5 x6 x7 (iI t) (iI (dig (unk l.length t))) w7 = K y5 y6 y7 w' ∧ MI w' S ∧ RB ((kl l.length (t + 1) m).foldl (bSt (sT S) (pEnd u) l) ((found : Int), acts, dig (unk l.length t))) y5 y6 y7 := by
        obtain ⟨w', y5, y6, y7, r1, r2⟩ := ih fu (t + 1) w7 ((found : Int), acts, dig (unk l.length t)) (iI (dig (unk l.length t))) (iI found) (iI acts) (by omega) (by omega) m7 (Or.inr ⟨by show (0 : Int) ≤ found; omega, by show (found : Int) ≤ 3; omega, a300, u3, rfl, rfl, rfl⟩)
        refine ⟨w', y5, y6, y7, ?_, r2⟩
        rw [fX12_bestOrder_J43_125, f39, f40, e1s]
        exact r1
      have old := ih fu (t + 1) w7 b x5 x6 x7 (by omega) (by omega) m7 hb
      rcases hb with ⟨b1, b2, b3, b4⟩ | ⟨b0, b1, b2, b3, b4, b5, b6⟩
      · rw [if_pos (show b.1 < (found : Int) ∨ (b.1 = (found : Int) ∧ acts < b.2.1) from Or.inl (by omega)), b2, if_pos (by decide +kernel), ← b2]
        exact new
      · rw [b4, if_neg (by rw [iL_0, iI_lt (by omega) (by omega) (by omega) (by omega)]; omega), b5, b6, ← b4]
        by_cases c1 : (found : Int) < b.1
        · rw [if_pos (by rw [iI_lt (by omega) (by omega) (by omega) (by omega)]; exact c1), if_neg (by rintro (z | z) <;> omega), ← b5, ← b6]
          exact old
        rw [if_neg (by rw [iI_lt (by omega) (by omega) (by omega) (by omega)]; exact c1)]
        by_cases c2 : (found : Int) = b.1
        · rw [if_pos (by rw [c2])]
          by_cases c3 : acts < b.2.1
          · rw [if_pos (by rw [iI_lt (by omega) (by omega) (by omega) (by omega)]; omega), if_pos (Or.inr ⟨c2.symm, c3⟩), ← b5, ← b6]
            exact new
          · rw [if_neg (by rw [iI_lt (by omega) (by omega) (by omega) (by omega)]; omega), if_neg (by rintro (z | z) <;> omega), ← b5, ← b6]
            exact old
        · rw [if_neg (by rw [iI_eq (by omega) (by omega) (by omega) (by omega)]; exact c2), if_pos (Or.inl (by omega)), ← b5, ← b6]
          exact new
theorem bSt_0 {T : TbS} {P : PS} {l : List Int} {b : BS} {p : List Nat} (h : -1 ≤ b.1) : (b.1 = -1 → 0 ≤ (bSt T P l b p).1) ∧ (0 ≤ b.1 → 0 ≤ (bSt T P l b p).1) := by
  have eb : bSt T P l b p = if b.1 < (oRun T P (p.map fun i => l.getD i 0)).2.2.1 ∨ (b.1 = (oRun T P (p.map fun i => l.getD i 0)).2.2.1 ∧ (oRun T P (p.map fun i => l.getD i 0)).2.2.2 < b.2.1) then (((oRun T P (p.map fun i => l.getD i 0)).2.2.1 : Int), (oRun T P (p.map fun i => l.getD i 0)).2.2.2, dig p) else b := rfl
  rw [eb]
  generalize (oRun T P (p.map fun i => l.getD i 0)).2.2.1 = found
  generalize (oRun T P (p.map fun i => l.getD i 0)).2.2.2 = acts
  refine ⟨fun z => ?_, fun z => ?_⟩
  · rw [if_pos (Or.inl (by omega))]
    show (0 : Int) ≤ found
    omega
  · split
    · show (0 : Int) ≤ found
      omega
    · exact z
theorem bFold_0 {T : TbS} {P : PS} {l : List Int} : ∀ (L : List (List Nat)) (b : BS), 0 ≤ b.1 → 0 ≤ (L.foldl (bSt T P l) b).1 := by
  intro L
  induction L with
  | nil => exact fun b h => h
  | cons p L ih =>
    intro b h
    rw [List.foldl_cons]
    exact ih _ ((bSt_0 (by omega)).2 h)
theorem perms_c (n : Nat) : ∃ p L, perms n = p :: L := by
  unfold perms
  split
  · exact ⟨_, _, rfl⟩
  · split <;> exact ⟨_, _, rfl⟩
theorem m_best {w : rW} {S : AS} (h : MI w S) {p d q : Int} (hp : I32 p) (hd : I32 d) (hq : I32 q) : Md (fX12_bestOrder (iI p) (iI d) (iI q) w) (aBest S p d q) S := by
  have hq' := hq
  obtain ⟨q0, q1⟩ := hq
  rw [fX12_bestOrder, z0N, show (2 : Int64) = (iI 2).toInt64 by decide +kernel, isIn_ok hq' (by unfold I32; omega) (by unfold I32; omega), Option.bind_some]
  unfold aBest
  by_cases c : 0 ≤ q ∧ q ≤ 2
  · rw [decide_eq_true c, if_neg iB_tn, mWrongOrder h hp hd, Option.bind_some]
    cases hP : tPn (sT S) p with
    | none =>
      refine ⟨w, ?_, h⟩
      show (if iI (-1) = 0 then _ else some (iI (-1), w)) = _
      rw [if_neg (by decide +kernel)]
    | some u =>
      cases hs : shAt S d with
      | none =>
        refine ⟨w, ?_, h⟩
        show (if iI (-1) = 0 then _ else some (iI (-1), w)) = _
        rw [if_neg (by decide +kernel)]
      | some s =>
        obtain ⟨d8, de, ds⟩ := shAt_s hs
        have bd := aPr_bd S s
        show Md (if iI (aPr S s) = 0 then _ else some (iI (aPr S s), w)) (if 0 ≤ q ∧ q ≤ 2 then (if aPr S s = 0 then (if q = 0 then (aBst S u (rowL s)).1 else if q = 1 then ((aBst S u (rowL s)).2.1 : Int) else ((aBst S u (rowL s)).2.2 : Int)) else aPr S s) else -1) S
        rw [if_pos c]
        by_cases c0 : aPr S s = 0
        · obtain ⟨l, rfl, l1, l3, hpr⟩ := aPr_0 c0
          obtain ⟨w', y5, y6, y7, e', m', rb⟩ := bestL hP (by omega) d8 ds.symm hpr l1 l3 (iI q) (iI (aPr S (some (.inr (0, l))))) (fun y5_5 y6_6 y7_7 w9 => if iI q = 0 then some (y6_6, w9) else if iI q = (1 : Int32) then some (y7_7, w9) else some (y5_5, w9)) 512 kFU 0 w (-1, 0, 0) (iI (-4)) 0 0 (by unfold kFU; omega) (by omega) h (Or.inl ⟨rfl, rfl, rfl, rfl⟩)
          rw [kl_512 l.length (by omega)] at rb
          have ab : aBst S u l = (perms l.length).foldl (bSt (sT S) (pEnd u) l) (-1, 0, 0) := rfl
          rw [← ab] at rb
          have nn : 0 ≤ (aBst S u l).1 := by
            obtain ⟨p1, L, ep⟩ := perms_c l.length
            rw [ab, ep, List.foldl_cons]
            exact bFold_0 L _ ((bSt_0 (b := ((-1 : Int), 0, 0)) (by show (-1 : Int) ≤ -1; omega)).1 rfl)
          have rb' := rb.resolve_left (fun z => by have := z.1; omega)
          obtain ⟨-, -, -, -, b5, b6, b7⟩ := rb'
          rw [if_pos (by rw [c0]; rfl), if_pos c0]
          refine ⟨w', ?_, m'⟩
          rw [iN_4]
          refine Eq.trans e' ?_
          show (if iI q = 0 then some (y6, w') else if iI q = (1 : Int32) then some (y7, w') else some (y5, w')) = some (iI (if q = 0 then (aBst S u l).1 else if q = 1 then ((aBst S u l).2.1 : Int) else ((aBst S u l).2.2 : Int)), w')
          rw [b5, b6, b7]
          by_cases c1 : q = 0
          · rw [if_pos (by rw [c1]; rfl), if_pos c1]
          rw [if_neg (by rw [iL_0, iI_eq (by omega) (by omega) (by omega) (by omega)]; exact c1), if_neg c1]
          by_cases c2 : q = 1
          · rw [if_pos (by rw [c2]; rfl), if_pos c2]
          · rw [if_neg (by rw [iL_1, iI_eq (by omega) (by omega) (by omega) (by omega)]; exact c2), if_neg c2]
        · rw [if_neg (by rw [iL_0, iI_eq (by omega) (by omega) (by omega) (by omega)]; exact c0), if_neg c0]
          exact ⟨w, rfl, h⟩
  · rw [decide_eq_false c, if_pos iB_fz]
    refine ⟨w, ?_, h⟩
    cases hP : tPn (sT S) p with
    | none => rw [iN_1]
    | some u =>
      cases hs : shAt S d with
      | none => rw [iN_1]
      | some s =>
        show _ = some (iI (if 0 ≤ q ∧ q ≤ 2 then _ else -1), w)
        rw [if_neg c, iN_1]
