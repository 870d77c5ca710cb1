/-! THE MODEL'S CALLS: never, count; cards on shelves -/
theorem MI.many {w : rW} {S : AS} (h : MI w S) : raI w 2 1000 (0 : Int32) = some (iI (tN (sT S))) := by
  obtain ⟨hW, ⟨n0, -⟩, -⟩ := h.1
  rw [show (0 : Int32) = iI ((0 : Nat) : Int) from rfl, raN (by omega) (by omega), n0]
  rfl
theorem MI.how {w : rW} {S : AS} (h : MI w S) {i : Nat} (hi : i < tN (sT S)) : raI w 2 1000 ((43 : Int32) + iI i) = some (iI (tH (sT S) i)) ∧ tH (sT S) i ≤ 2 := by
  obtain ⟨hW, -, -, h2, -⟩ := h.1
  have h40 : tN (sT S) ≤ 40 := hW.1
  exact ⟨by rw [iN_43, raN (by omega) (by omega), h2 i hi], hW.2.2.2.2.1 i⟩
theorem m_never {w : rW} {S : AS} (h : MI w S) : fX12_never w = some (nvr (sT S) 0 (tN (sT S)) 0) := by
  have n40 : tN (sT S) ≤ 40 := h.1.1.1
  have or0 : ∀ c : Int64, c ||| (0 : Int64) = c := fun c => by simp
  have loop : ∀ (m fu i : Nat) (c : Int64), m < fu → i + m = tN (sT S) → fX12_never_L4 w fu (fun y _ => some y) c (iI i) = some (nvr (sT S) i m c) := by
    intro m
    induction m with
    | zero =>
      intro fu i c hf hi
      obtain ⟨fu, rfl⟩ : ∃ z, fu = z + 1 := ⟨fu - 1, by omega⟩
      rw [fX12_never_L4, h.many, Option.bind_some, if_pos (by rw [iI_le (by omega) (by omega) (by omega) (by omega)]; omega)]
      rfl
    | succ m ih =>
      intro fu i c hf hi
      obtain ⟨fu, rfl⟩ : ∃ z, fu = z + 1 := ⟨fu - 1, by omega⟩
      obtain ⟨h1, h2⟩ := h.how (i := i) (by omega)
      have g := h.mn (i := i) (by omega)
      rw [fX12_never_L4, h.many, Option.bind_some, if_neg (by rw [iI_le (by omega) (by omega) (by omega) (by omega)]; omega), h1, Option.bind_some, e1s, or0]
      show _ = some (nvr (sT S) (i + 1) m (if tH (sT S) i = 0 ∧ fTr (tLd (sT S) i) = false then c ||| ((1 : Int64) <<< ((iI i).toInt64 &&& 63)) else c))
      by_cases c0 : tH (sT S) i = 0
      · rw [if_pos (by rw [c0]; rfl), mAlways g, Option.bind_some]
        cases ht : fTr (tLd (sT S) i) with
        | true =>
          rw [if_neg iB_tn, if_neg (fun z => by cases z.2)]
          exact ih fu (i + 1) _ (by omega) (by omega)
        | false =>
          rw [if_pos iB_fz, if_pos ⟨c0, rfl⟩]
          exact ih fu (i + 1) _ (by omega) (by omega)
      · rw [if_neg (by rw [iL_0, iI_eq (by omega) (by omega) (by omega) (by omega)]; omega), if_neg (fun z => c0 z.1)]
        exact ih fu (i + 1) _ (by omega) (by omega)
  rw [fX12_never]
  exact loop (tN (sT S)) kFU 0 0 (by unfold kFU; omega) (by omega)
theorem m_count {w : rW} {S : AS} (h : MI w S) {q : Int} (hq : I32 q) : fX12_count (iI q) w = some (iI (aCount S q)) := by
  obtain ⟨q0, q1⟩ := hq
  have n40 : tN (sT S) ≤ 40 := h.1.1.1
  obtain ⟨hW, ⟨n0, n1, n2⟩, -⟩ := h.1
  have z0 : (0 : Int32) = iI ((0 : Nat) : Int) := rfl
  have z2 : (2 : Int32) = iI ((2 : Nat) : Int) := rfl
  have L49 : ∀ s : Nat, s < 3 → ∀ (m fu i n : Nat), m < fu → i + m = tN (sT S) → fX12_count_L49 (iI s) w fu (fun y _ => some y) (iI n) (iI i) = some (iI (n + nS (gH (sT S) s) i m : Nat)) := by
    intro s hs m
    induction m with
    | zero =>
      intro fu i n hf hi
      obtain ⟨fu, rfl⟩ : ∃ z, fu = z + 1 := ⟨fu - 1, by omega⟩
      rw [fX12_count_L49, h.many, Option.bind_some, if_pos (by rw [iI_le (by omega) (by omega) (by omega) (by omega)]; omega)]
      rfl
    | succ m ih =>
      intro fu i n hf hi
      obtain ⟨fu, rfl⟩ : ∃ z, fu = z + 1 := ⟨fu - 1, by omega⟩
      obtain ⟨h1, h2⟩ := h.how (i := i) (by omega)
      have e : n + nS (gH (sT S) s) i (m + 1) = n + (if tH (sT S) i = s then 1 else 0) + nS (gH (sT S) s) (i + 1) m := by
        show n + ((if tH (sT S) i = s then 1 else 0) + nS (gH (sT S) s) (i + 1) m) = _
        omega
      rw [fX12_count_L49, h.many, Option.bind_some, if_neg (by rw [iI_le (by omega) (by omega) (by omega) (by omega)]; omega), h1, Option.bind_some, e1s, e1s, e]
      by_cases c : tH (sT S) i = s
      · rw [if_pos (by rw [c]), if_pos c]
        exact ih fu (i + 1) (n + 1) (by omega) (by omega)
      · rw [if_neg (by rw [iI_eq (by omega) (by omega) (by omega) (by omega)]; omega), if_neg c, iL_0, iI_add, Int.add_zero]
        exact ih fu (i + 1) n (by omega) (by omega)
  have L97 : ∀ (x1 : Int32) (m fu i n : Nat), m < fu → i + m = tN (sT S) → fX12_count_L97 x1 w fu (fun y _ => some y) (iI n) (iI i) = some (iI (n + nS (gS (sT S)) i m : Nat)) := by
    intro x1 m
    induction m with
    | zero =>
      intro fu i n hf hi
      obtain ⟨fu, rfl⟩ : ∃ z, fu = z + 1 := ⟨fu - 1, by omega⟩
      rw [fX12_count_L97, h.many, Option.bind_some, if_pos (by rw [iI_le (by omega) (by omega) (by omega) (by omega)]; omega)]
      rfl
    | succ m ih =>
      intro fu i n hf hi
      obtain ⟨fu, rfl⟩ : ∃ z, fu = z + 1 := ⟨fu - 1, by omega⟩
      have g := h.mn (i := i) (by omega)
      have e : nS (gS (sT S)) i (m + 1) = fSz (tLd (sT S) i) + nS (gS (sT S)) (i + 1) m := by
        show gS (sT S) i + _ = _
        have : gS (sT S) i = fSz (tLd (sT S) i) := by
          unfold gS
          rw [tLd_get (T := sT S) (show i < (tL (sT S)).length from by have : (tL (sT S)).length = tN (sT S) := rfl; omega)]
        rw [this]
      rw [fX12_count_L97, h.many, Option.bind_some, if_neg (by rw [iI_le (by omega) (by omega) (by omega) (by omega)]; omega), textOf_ok, Option.bind_some, Option.bind_some, g.size, Option.bind_some, g.to, g.2.1.size, Option.bind_some, iI_add, e1s, e, show (n : Int) + (fSz (tLd (sT S) i) : Int) = ((n + fSz (tLd (sT S) i) : Nat) : Int) by omega, ih fu (i + 1) _ (by omega) (by omega)]
      congr 3
      omega
  have L141 : ∀ (x1 : Int32) (m fu i n : Nat), m < fu → i + m = tN (sT S) → fX12_count_L141 x1 w fu (fun y _ => some y) (iI n) (iI i) = some (iI (n + nS (gT (sT S)) i m : Nat)) := by
    intro x1 m
    induction m with
    | zero =>
      intro fu i n hf hi
      obtain ⟨fu, rfl⟩ : ∃ z, fu = z + 1 := ⟨fu - 1, by omega⟩
      rw [fX12_count_L141, h.many, Option.bind_some, if_pos (by rw [iI_le (by omega) (by omega) (by omega) (by omega)]; omega)]
      rfl
    | succ m ih =>
      intro fu i n hf hi
      obtain ⟨fu, rfl⟩ : ∃ z, fu = z + 1 := ⟨fu - 1, by omega⟩
      have g := h.mn (i := i) (by omega)
      have e : n + nS (gT (sT S)) i (m + 1) = n + (if fTr (tLd (sT S) i) = true then 1 else 0) + nS (gT (sT S)) (i + 1) m := by
        show n + (gT (sT S) i + _) = _
        have : gT (sT S) i = if fTr (tLd (sT S) i) = true then 1 else 0 := by
          unfold gT
          rw [tLd_get (T := sT S) (show i < (tL (sT S)).length from by have : (tL (sT S)).length = tN (sT S) := rfl; omega)]
        rw [this]
        omega
      rw [fX12_count_L141, h.many, Option.bind_some, if_neg (by rw [iI_le (by omega) (by omega) (by omega) (by omega)]; omega), mAlways g, Option.bind_some, e1s, e1s, e]
      cases fTr (tLd (sT S) i) with
      | true =>
        rw [if_neg iB_tn, if_pos rfl]
        exact ih fu (i + 1) (n + 1) (by omega) (by omega)
      | false =>
        rw [if_pos iB_fz, if_neg Bool.false_ne_true, iL_0, iI_add, Int.add_zero]
        exact ih fu (i + 1) n (by omega) (by omega)
  have eN : (tL (sT S)).length = tN (sT S) := rfl
  unfold aCount
  rw [fX12_count, eN]
  by_cases c0 : q = 0
  · rw [if_pos (by rw [c0]; rfl), if_pos c0, h.many, Option.bind_some]
  rw [if_neg (by rw [iL_0, iI_eq (by omega) (by omega) (by omega) (by omega)]; exact c0), if_neg c0]
  by_cases c1 : q = 1
  · have := L49 1 (by omega) (tN (sT S)) kFU 0 0 (by unfold kFU; omega) (by omega)
    rw [Nat.zero_add] at this
    rw [if_pos (by rw [c1]; rfl), if_pos c1, c1]
    exact this
  rw [if_neg (by rw [iL_1, iI_eq (by omega) (by omega) (by omega) (by omega)]; exact c1), if_neg c1]
  by_cases c2 : q = 2
  · have := L49 2 (by omega) (tN (sT S)) kFU 0 0 (by unfold kFU; omega) (by omega)
    rw [Nat.zero_add] at this
    rw [if_pos (by rw [c2]; rfl), if_pos c2, c2]
    exact this
  rw [if_neg (by rw [iL_2, iI_eq (by omega) (by omega) (by omega) (by omega)]; exact c2), if_neg c2]
  by_cases c3 : q = 3
  · rw [if_pos (by rw [c3]; rfl), if_pos c3, z2, raN (by omega) (by omega), Option.bind_some, n2]
  rw [if_neg (by rw [iL_3, iI_eq (by omega) (by omega) (by omega) (by omega)]; exact c3), if_neg c3]
  by_cases c4 : q = 4
  · have := L97 (iI q) (tN (sT S)) kFU 0 0 (by unfold kFU; omega) (by omega)
    rw [Nat.zero_add] at this
    rw [if_pos (by rw [c4]; rfl), if_pos c4]
    exact this
  rw [if_neg (by rw [iL_4, iI_eq (by omega) (by omega) (by omega) (by omega)]; exact c4), if_neg c4]
  by_cases c5 : q = 5
  · have := L141 (iI q) (tN (sT S)) kFU 0 0 (by unfold kFU; omega) (by omega)
    rw [Nat.zero_add] at this
    rw [if_pos (by rw [c5]; rfl), if_pos c5]
    exact this
  · rw [if_neg (by rw [iL_5, iI_eq (by omega) (by omega) (by omega) (by omega)]; exact c5), if_neg c5, iN_1]
/-! .. shelves change -/
def ShA (d n i : Nat) : Prop := ((n = 4 ∨ n = 5 ∨ n = 6 ∨ n = 8 ∨ n = 9) ∧ i = d) ∨ (n = 7 ∧ 120 * d ≤ i ∧ i < 120 * d + 120)
theorem MI.shf {w w' : rW} {S : AS} (h : MI w S) {d : Nat} {s : Sh} (hs : Rq (ShA d) NoF w w') (hm : MSh w' d s) : MI w' (aSh S d s) := by
  obtain ⟨h1, ⟨h2, h3⟩, h4, h5⟩ := h
  have en : ∀ n, n < 4 → rA w' n = rA w n := fun n hn => funext fun i => hs.1 n i (fun z => by unfold ShA at z; omega)
  refine ⟨by rw [en 0 (by omega), en 2 (by omega)]; exact h1, ⟨by rw [hs.2 10 (fun z => z)]; exact h2, fun T e => by rw [en 1 (by omega), en 3 (by omega)]; exact h3 T e⟩, fun d' hd' => ?_, by rw [hs.2 37 (fun z => z)]; exact h5⟩
  show MSh w' d' (fu (sH S) d s d')
  by_cases e : d' = d
  · rw [e, fu_s]; exact hm
  · rw [fu_o _ _ e]
    have := h4 d' hd'
    have o : ∀ n, (n = 4 ∨ n = 5 ∨ n = 6 ∨ n = 8 ∨ n = 9) → rA w' n d' = rA w n d' := fun n hn => hs.1 n d' (fun z => by unfold ShA at z; omega)
    cases hh : sH S d' with
    | none =>
      rw [hh] at this
      show rA w' 4 d' = iI 0
      rw [o 4 (by omega)]
      exact this
    | some q =>
      rw [hh] at this
      cases q with
      | inl q =>
        obtain ⟨a1, a2, a3, a4⟩ := this
        exact ⟨by rw [o 4 (by omega)]; exact a1, by rw [o 8 (by omega)]; exact a2, by rw [o 9 (by omega)]; exact a3, a4⟩
      | inr q =>
        obtain ⟨a1, a2, a3, a4, a5, a6, a7⟩ := this
        refine ⟨by rw [o 4 (by omega)]; exact a1, by rw [o 5 (by omega)]; exact a2, by rw [o 6 (by omega)]; exact a3, a4, a5, fun i c hc => ?_, a7⟩
        have hi := (List.getElem?_eq_some_iff.mp hc).1
        rw [hs.1 7 _ (fun z => by unfold ShA at z; omega)]
        exact a6 i c hc
/-- of a line, whatever the shelves are -/
theorem mOfL {w : rW} {l N : Nat} {F : Fo} (g : Ml w l F) (hN : rA w 2 0 = iI N) (hl : l < N) (h40 : N ≤ 40) : fX12_of (iI l) (0 : Int32) w = some (iI (fSz F)) ∧ fX12_of (iI l) (1 : Int32) w = some (iI (fLev F)) ∧ fX12_of (iI l) (2 : Int32) w = some (iI (fPl F)) ∧ fX12_of (iI l) (3 : Int32) w = some (iI (fUn F)) := by
  have is : fX12_isLine (iI l) w = some (iB true) := by
    rw [fX12_isLine, show (0 : Int32) = iI ((0 : Nat) : Int) from rfl, raN (by omega) (by omega), Option.bind_some, hN, iL_1, iI_sub, show (0 : Int64) = (iI 0).toInt64 by decide +kernel, isIn_ok (by unfold I32; omega) (by unfold I32; omega) (by unfold I32; omega), Option.bind_some, kBl_B, Option.bind_some, decide_eq_true (by omega)]
  have is0 : ∀ q : Int, 0 ≤ q → q ≤ 6 → fX12_isIn (iI q).toInt64 (0 : Int64) (6 : Int64) = some (iB true) := fun q a b => by
    rw [show (0 : Int64) = (iI 0).toInt64 by decide +kernel, show (6 : Int64) = (iI 6).toInt64 by decide +kernel, isIn_ok (by unfold I32; omega) (by unfold I32; omega) (by unfold I32; omega), decide_eq_true ⟨a, b⟩]
  have c0 : (0 : Int32) = iI 0 := by decide +kernel
  have c1 : (1 : Int32) = iI 1 := by decide +kernel
  have c2 : (2 : Int32) = iI 2 := by decide +kernel
  have c3 : (3 : Int32) = iI 3 := by decide +kernel
  refine ⟨?_, ?_, ?_, ?_⟩
  · rw [fX12_of, is, Option.bind_some, if_neg iB_tn]
    rw [show ((0 : Int32)).toInt64 = (iI 0).toInt64 by rw [← c0], is0 0 (by omega) (by omega), Option.bind_some, if_neg iB_tn, textOf_ok, Option.bind_some, g.size, Option.bind_some, g.to, if_pos rfl, g.2.1.size, Option.bind_some]
  · rw [fX12_of, is, Option.bind_some, if_neg iB_tn]
    rw [show ((1 : Int32)).toInt64 = (iI 1).toInt64 by rw [← c1], is0 1 (by omega) (by omega), Option.bind_some, if_neg iB_tn, textOf_ok, Option.bind_some, g.size, Option.bind_some, if_neg (by decide +kernel), if_pos rfl, g.2.1.lev, Option.bind_some]
  · rw [fX12_of, is, Option.bind_some, if_neg iB_tn]
    rw [show ((2 : Int32)).toInt64 = (iI 2).toInt64 by rw [← c2], is0 2 (by omega) (by omega), Option.bind_some, if_neg iB_tn, textOf_ok, Option.bind_some, g.size, Option.bind_some, g.to, if_neg (by decide +kernel), if_neg (by decide +kernel), if_pos rfl, g.2.1.pl, Option.bind_some]
  · rw [fX12_of, is, Option.bind_some, if_neg iB_tn]
    rw [show ((3 : Int32)).toInt64 = (iI 3).toInt64 by rw [← c3], is0 3 (by omega) (by omega), Option.bind_some, if_neg iB_tn, textOf_ok, Option.bind_some, g.size, Option.bind_some, g.to, if_neg (by decide +kernel), if_neg (by decide +kernel), if_neg (by decide +kernel), if_pos rfl, g.2.1.let, Option.bind_some, bits_ok (fLs_lt F g.2.1.1), Option.bind_some]
    rfl
theorem mEffortOf {w : rW} {l N : Nat} {F : Fo} (g : Ml w l F) (hN : rA w 2 0 = iI N) (hl : l < N) (h40 : N ≤ 40) {k : Nat} (hk : k ≤ 6) : fX12_effortOf (iI k) (iI l) w = some (iI (work k F)) := by
  obtain ⟨o0, o1, o2, o3⟩ := mOfL g hN hl h40
  unfold work
  rw [fX12_effortOf, o0, Option.bind_some]
  by_cases c1 : k = 1
  · rw [if_pos (by rw [c1]; rfl), if_pos c1, o2, Option.bind_some, iI_add]
  rw [if_neg (by rw [iL_1, iI_eq (by omega) (by omega) (by omega) (by omega)]; omega), if_neg c1]
  by_cases c2 : k = 2
  · rw [if_pos (by rw [c2]; rfl), if_pos c2, show (2 : Int32) = iI 2 by decide +kernel, iI_mul]
  rw [if_neg (by rw [iL_2, iI_eq (by omega) (by omega) (by omega) (by omega)]; omega), if_neg c2]
  by_cases c3 : k = 3
  · rw [if_pos (by rw [c3]; rfl), if_pos c3, o1, Option.bind_some, show (2 : Int32) = iI 2 by decide +kernel, iI_mul, iI_add]
  rw [if_neg (by rw [iL_3, iI_eq (by omega) (by omega) (by omega) (by omega)]; omega), if_neg c3]
  by_cases c4 : k = 4
  · rw [if_pos (by rw [c4]; rfl), if_pos c4, o3, Option.bind_some, iI_add]
  rw [if_neg (by rw [iL_4, iI_eq (by omega) (by omega) (by omega) (by omega)]; omega), if_neg c4]
  by_cases c5 : k = 5
  · rw [if_pos (by rw [c5]; rfl), if_pos c5, iL_1, iI_sub]
  rw [if_neg (by rw [iL_5, iI_eq (by omega) (by omega) (by omega) (by omega)]; omega), if_neg c5]
  by_cases c6 : k = 6
  · rw [if_pos (by rw [c6]; rfl), if_pos c6, o2, Option.bind_some, show (2 : Int32) = iI 2 by decide +kernel, iI_add, iI_mul]
  · rw [if_neg (by rw [iL_6, iI_eq (by omega) (by omega) (by omega) (by omega)]; omega), if_neg c6]
theorem m_keep {w : rW} {S : AS} (h : MI w S) {d q k l : Int} (hd : I32 d) (hq : I32 q) (hk : I32 k) (hl : I32 l) : Md (fX12_keep (iI d) (iI q) (iI k) (iI l) w) (aKeep S d q k l).1 (aKeep S d q k l).2 := by
  have is := mIsShelf (S := S) hd
  have hq' := hq
  have hk' := hk
  obtain ⟨q0, q1⟩ := hq
  obtain ⟨k0, k1⟩ := hk
  unfold aKeep
  rw [fX12_keep, is, Option.bind_some]
  cases hs : shAt S d with
  | none => exact Md.rf h (by rw [if_pos (show iB (none : Option Sh).isSome = 0 from rfl), iN_1])
  | some s =>
    obtain ⟨d8, de, ds⟩ := shAt_s hs
    rw [if_neg (show ¬ iB (some s).isSome = 0 from iB_tn), z0N, show (1 : Int64) = (iI 1).toInt64 by decide +kernel, isIn_ok hq' (by unfold I32; omega) (by unfold I32; omega), Option.bind_some]
    show Md _ (if q = 0 then ((0 : Int), aSh S d.toNat none) else if q = 1 then (match tLn (sT S) l with | none => (-1, S) | some F => if 0 ≤ k ∧ k ≤ 6 then (0, aSh S d.toNat (some (.inl (k.toNat, l.toNat, F)))) else (-1, S)) else (-1, S)).1 (if q = 0 then ((0 : Int), aSh S d.toNat none) else if q = 1 then (match tLn (sT S) l with | none => (-1, S) | some F => if 0 ≤ k ∧ k ≤ 6 then (0, aSh S d.toNat (some (.inl (k.toNat, l.toNat, F)))) else (-1, S)) else (-1, S)).2
    by_cases cq0 : q = 0
    · rw [decide_eq_true (by omega), if_neg iB_tn, if_neg (by rw [iL_1, iI_eq (by omega) (by omega) (by omega) (by omega)]; omega), if_pos cq0, fX12_keep_J45, ← de, rsN (by omega) (by omega), Option.bind_some, if_pos (by rw [cq0]; rfl), Int.toNat_natCast]
      exact ⟨_, rfl, h.shf (Rq.sa (Or.inl ⟨Or.inl rfl, rfl⟩)) (by show rA (rSA w 4 d.toNat (iI q)) 4 d.toNat = iI 0; rw [rA_SA_s, cq0])⟩
    rw [if_neg cq0]
    by_cases cq1 : q = 1
    · rw [decide_eq_true (by omega), if_neg iB_tn, if_pos (by rw [cq1]; rfl), if_pos cq1, show (6 : Int64) = (iI 6).toInt64 by decide +kernel, isIn_ok hk' (by unfold I32; omega) (by unfold I32; omega), Option.bind_some]
      by_cases ck : 0 ≤ k ∧ k ≤ 6
      · rw [decide_eq_true ck, if_neg iB_tn, mIsLine h hl, Option.bind_some]
        cases hL : tLn (sT S) l with
        | none => exact Md.rf h (by rw [if_pos (show iB (none : Option Fo).isSome = 0 from rfl), iN_1])
        | some F =>
          obtain ⟨b0, b1, b2⟩ := tLn_lt hL
          obtain ⟨g, el⟩ := h.ml hL
          have n40 : tN (sT S) ≤ 40 := h.1.1.1
          have n0 : rA w 2 0 = iI (tN (sT S)) := h.1.2.1.1
          have b1' : l.toNat < tN (sT S) := b1
          have ek : iI k = iI ((k.toNat : Nat) : Int) := by congr 1; omega
          have eL : iI l = iI ((l.toNat : Nat) : Int) := by congr 1; omega
          have eD : iI d = iI ((d.toNat : Nat) : Int) := by congr 1; omega
          rw [if_neg (show ¬ iB (some F).isSome = 0 from iB_tn)]
          show Md _ (if 0 ≤ k ∧ k ≤ 6 then ((0 : Int), aSh S d.toNat (some (.inl (k.toNat, l.toNat, F)))) else (-1, S)).1 (if 0 ≤ k ∧ k ≤ 6 then ((0 : Int), aSh S d.toNat (some (.inl (k.toNat, l.toNat, F)))) else (-1, S)).2
          rw [if_pos ck]
          obtain ⟨w1, ew1⟩ : ∃ w1, w1 = rSA w 4 d.toNat (iI q) := ⟨_, rfl⟩
          have g1 : Ml w1 l.toNat F := by
            rw [ew1]
            unfold Ml Lt at g ⊢
            rw [rA_SA_o (by omega), rA_SA_o (by omega)]
            exact g
          have n1 : rA w1 2 0 = iI (tN (sT S)) := by rw [ew1, rA_SA_o (by omega)]; exact n0
          obtain ⟨w4, ew4⟩ : ∃ w4, w4 = rSA w1 8 d.toNat (iI (work k.toNat F)) := ⟨_, rfl⟩
          have g4 : Ml w4 l.toNat F := by
            rw [ew4]
            unfold Ml Lt at g1 ⊢
            rw [rA_SA_o (by omega), rA_SA_o (by omega)]
            exact g1
          have n4 : rA w4 2 0 = iI (tN (sT S)) := by rw [ew4, rA_SA_o (by omega)]; exact n1
          obtain ⟨o0, o1, -, -⟩ := mOfL g4 n4 b1' n40
          have sz1 := g.sz
          have szp := fSz_pos g.2.1.1
          have fin : ∀ v : Int, v = tossV k.toNat l.toNat F → Md ((rsI w4 9 8 (iI d) (iI v)).bind fun w5 => some ((0 : Int32), w5)) 0 (aSh S d.toNat (some (.inl (k.toNat, l.toNat, F)))) := by
            intro v hv
            rw [eD, rsN (by omega) (by omega), Option.bind_some]
            refine ⟨_, rfl, h.shf (w' := rSA w4 9 d.toNat (iI v)) ?_ ⟨?_, ?_, ?_, by show k.toNat ≤ 6; omega, by show l.toNat < 40; omega, g.2.1.1, g.2.2.1⟩⟩
            · rw [ew4, ew1]
              exact Rq.tr (Rq.tr (Rq.sa (Or.inl ⟨Or.inl rfl, rfl⟩)) (Rq.sa (Or.inl ⟨Or.inr (Or.inr (Or.inr (Or.inl rfl))), rfl⟩))) (Rq.sa (Or.inl ⟨Or.inr (Or.inr (Or.inr (Or.inr rfl))), rfl⟩))
            · rw [rA_SA_o (by omega), ew4, rA_SA_o (by omega), ew1, rA_SA_s, cq1]
            · rw [rA_SA_o (by omega), ew4, rA_SA_s]
            · rw [rA_SA_s, hv]
          have e15 : (-15 : Int32) = iI (-15) := by decide +kernel
          rw [fX12_keep_J45, eD, rsN (by omega) (by omega), Option.bind_some, ← ew1, if_neg (by rw [iL_0, iI_eq (by omega) (by omega) (by omega) (by omega)]; omega), ek, eL, mEffortOf g1 n1 b1' n40 (by omega), Option.bind_some, rsN (by omega) (by omega), Option.bind_some, ← ew4, o0, o1, e15, ← eD, Option.bind_some]
          by_cases c5 : k = 5
          · rw [if_pos (by rw [c5]; rfl)]
            exact fin _ (by unfold tossV; rw [if_pos (Or.inl (by omega))])
          rw [if_neg (by rw [iL_5, iI_eq (by omega) (by omega) (by omega) (by omega)]; omega)]
          by_cases c1 : fSz F = 1
          · rw [if_pos (by rw [c1]; rfl)]
            exact fin _ (by unfold tossV; rw [if_pos (Or.inr c1)])
          rw [if_neg (by rw [iL_1, iI_eq (by omega) (by omega) (by omega) (by omega)]; omega)]
          have nt : ¬ (k.toNat = 5 ∨ fSz F = 1) := by rintro (z | z); omega; exact c1 z
          by_cases c3 : k = 3
          · rw [if_pos (by rw [c3]; rfl), show (100 : Int32) = iI 100 by decide +kernel, iI_add]
            exact fin _ (by unfold tossV; rw [if_neg nt, if_pos (by omega)])
          rw [if_neg (by rw [iL_3, iI_eq (by omega) (by omega) (by omega) (by omega)]; omega)]
          by_cases c6 : k = 6
          · rw [if_pos (by rw [c6]; rfl), Option.bind_some, show (200 : Int32) = iI 200 by decide +kernel, iI_add]
            exact fin _ (by unfold tossV; rw [if_neg nt, if_neg (by omega), if_pos (by omega)])
          · rw [if_neg (by rw [iL_6, iI_eq (by omega) (by omega) (by omega) (by omega)]; omega)]
            exact fin _ (by unfold tossV; rw [if_neg nt, if_neg (by omega), if_neg (by omega)])
      · rw [decide_eq_false ck, if_pos iB_fz]
        cases hL : tLn (sT S) l with
        | none => exact Md.rf h (by rw [iN_1])
        | some F =>
          show Md _ (if 0 ≤ k ∧ k ≤ 6 then ((0 : Int), aSh S d.toNat (some (.inl (k.toNat, l.toNat, F)))) else (-1, S)).1 (if 0 ≤ k ∧ k ≤ 6 then ((0 : Int), aSh S d.toNat (some (.inl (k.toNat, l.toNat, F)))) else (-1, S)).2
          rw [if_neg ck]
          exact Md.rf h (by rw [iN_1])
    · rw [decide_eq_false (by omega), if_pos iB_fz, if_neg cq1]
      exact Md.rf h (by rw [iN_1])
