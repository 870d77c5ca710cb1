/-! .. putting into rows, copies, efforts -/
def narI (so : Nat) (v : Int) : Int := if so = 0 then v.bmod 256 else if so = 1 then v.bmod 65536 else v
theorem nar8 {v : Int} (h : I32 v) : (iI v).toInt8.toInt32 = iI (v.bmod 256) := by
  apply Int32.toInt.inj
  have h1 : -128 ≤ v.bmod 256 := Int.le_bmod (by decide)
  have h2 : v.bmod 256 < 128 := Int.bmod_lt (by decide)
  rw [Int8.toInt_toInt32, Int32.toInt_toInt8, iI_toInt h.1 h.2, iI_toInt (by omega) (by omega)]
theorem nar16 {v : Int} (h : I32 v) : (iI v).toInt16.toInt32 = iI (v.bmod 65536) := by
  apply Int32.toInt.inj
  have h1 : -32768 ≤ v.bmod 65536 := Int.le_bmod (by decide)
  have h2 : v.bmod 65536 < 32768 := Int.bmod_lt (by decide)
  rw [Int16.toInt_toInt32, Int32.toInt_toInt16, iI_toInt h.1 h.2, iI_toInt (by omega) (by omega)]
theorem narI_el {so : Nat} {v : Int} (h : I32 v) (hso : so ≤ 2) : elB so (narI so v) := by
  unfold narI
  have h1 : -128 ≤ v.bmod 256 := Int.le_bmod (by decide)
  have h2 : v.bmod 256 < 128 := Int.bmod_lt (by decide)
  have h3 : -32768 ≤ v.bmod 65536 := Int.le_bmod (by decide)
  have h4 : v.bmod 65536 < 32768 := Int.bmod_lt (by decide)
  obtain ⟨a, b⟩ := h
  by_cases c : so = 0
  · rw [if_pos c]
    exact ⟨fun _ => ⟨h1, h2⟩, fun z => by omega, by unfold I32; omega⟩
  rw [if_neg c]
  by_cases c1 : so = 1
  · rw [if_pos c1]
    exact ⟨fun z => by omega, fun _ => ⟨h3, h4⟩, by unfold I32; omega⟩
  · rw [if_neg c1]
    exact ⟨fun z => by omega, fun z => by omega, a, b⟩
theorem hasPlace_ok {ow : Nat → Nat × Nat} {x : Nat} {w : kW} {sa so : Nat} {l : List Int} (h : ShO ow x w sa (some (.inr (so, l)))) {i : Int} (hi : I32 i) : fX6_hasPlace sa (iI i) w = some (iB (decide (0 ≤ i ∧ i < l.length))) := by
  obtain ⟨⟨hk, -⟩, g1, g2, g3, g4, g5, -⟩ := h
  obtain ⟨i0, i1⟩ := hi
  have g5' : l.length ≤ 120 := g5
  have g3' : kI w sa 2 = iI l.length := g3
  rw [fX6_hasPlace]
  by_cases c : i < 0
  · rw [if_pos (by rw [iL_0, iI_lt (by omega) (by omega) (by omega) (by omega)]; exact c), decide_eq_false (by omega)]
    rfl
  rw [if_neg (by rw [iL_0, iI_lt (by omega) (by omega) (by omega) (by omega)]; exact c), kgI_e hk, Option.bind_some, g3']
  by_cases c1 : (l.length : Int) ≤ i
  · rw [if_pos (by rw [iI_le (by omega) (by omega) (by omega) (by omega)]; exact c1), decide_eq_false (by omega)]
    rfl
  rw [if_neg (by rw [iI_le (by omega) (by omega) (by omega) (by omega)]; exact c1), if_neg (by rw [iL_120, iI_le (by omega) (by omega) (by omega) (by omega)]; omega), decide_eq_true (by omega)]
  rfl
def elV (l : List Int) (i : Int) : Int := if 0 ≤ i then l.getD i.toNat 0 else 0
theorem elementAt_ok {ow : Nat → Nat × Nat} {x : Nat} {w : kW} {sa so : Nat} {l : List Int} (h : ShO ow x w sa (some (.inr (so, l)))) {i : Int} (hi : I32 i) : fX6_elementAt sa (iI i) w = some (iI (elV l i)) := by
  have hp := hasPlace_ok h hi
  obtain ⟨⟨hk, ho, p0, k14, n120, o0⟩, g1, g2, g3, g4, g5, g6, g7⟩ := h
  obtain ⟨i0, i1⟩ := hi
  have g5' : l.length ≤ 120 := g5
  unfold elV
  rw [fX6_elementAt, kRc_e hk, Option.bind_some, hp, Option.bind_some]
  by_cases c : 0 ≤ i ∧ i < l.length
  · rw [decide_eq_true c, if_neg (show ¬ iB true = 0 by decide +kernel), kgP_e hk, Option.bind_some, p0, kaI_e k14 c.1 (by rw [n120]; omega) (by omega), Option.bind_some, if_pos c.1]
    have hl : i.toNat < l.length := by omega
    rw [g6 i.toNat l[i.toNat] (List.getElem?_eq_getElem hl), List.getD_eq_getElem?_getD, List.getElem?_eq_getElem hl]
    rfl
  · rw [decide_eq_false c, if_pos (show iB false = 0 from rfl)]
    by_cases c0 : 0 ≤ i
    · rw [if_pos c0, List.getD_eq_getElem?_getD, List.getElem?_eq_none (by omega)]
      rfl
    · rw [if_neg c0]
      rfl
def aPut (S : AS) (d i v : Int) : Int × AS := match shAt S d with
  | none => (-1, S)
  | some s => if rRef s = 0 then (if 0 ≤ i ∧ i < (rowL s).length then (0, aSh S d.toNat (some (.inr (rowS s, (rowL s).set i.toNat (narI (rowS s) v))))) else (-13, S)) else (rRef s, S)
theorem setEl_ok {ow : Nat → Nat × Nat} {x : Nat} {w : kW} {sa so : Nat} {l : List Int} (h : ShO ow x w sa (some (.inr (so, l)))) {i v : Int} (hi : I32 i) (hv : I32 v) (c : 0 ≤ i ∧ i < l.length) : ∃ w', fX6_setElement sa (iI i) (iI v) w = some (1, w') ∧ ShO ow x w' sa (some (.inr (so, l.set i.toNat (narI so v)))) ∧ Sq ow (fun z => z = sa) w w' := by
  have hp := hasPlace_ok h hi
  have hB := h.1
  obtain ⟨⟨hk, ho, p0, k14, n120, o0⟩, g1, g2, g3, g4, g5, g6, g7⟩ := h
  have g5' : l.length ≤ 120 := g5
  have g1' : so ≤ 2 := g1
  have g2' : kI w sa 1 = iI so := g2
  have ne : sa ≠ Lp w sa 0 := fun e => by rw [← e, hk] at k14; omega
  have key : ∀ z : Int32, z = iI (narI so v) → ∃ w', ksI w 14 (some (Lp w sa 0)) (iI i) z = some w' ∧ ShO ow x w' sa (some (.inr (so, l.set i.toNat (narI so v)))) ∧ Sq ow (fun z => z = sa) w w' := fun z hz => by
    have S1 : Sq ow (fun z => z = sa) w (kSI w (Lp w sa 0) i.toNat z) := Sq.si (by rw [o0])
    refine ⟨kSI w (Lp w sa 0) i.toNat z, ?_, ⟨hB.own S1 rfl, g1, ?_, ?_, g4, ?_, fun k c hc => ?_, fun c hc => ?_⟩, S1⟩
    · rw [ksI_e k14 c.1 (by rw [n120]; omega) (by omega), if_neg (by decide)]
    · rw [kI_SI_o ne]; exact g2
    · rw [kI_SI_o ne]
      show kI w sa 2 = iI (l.set i.toNat (narI so v)).length
      rw [List.length_set]; exact g3
    · show (l.set i.toNat (narI so v)).length ≤ 120
      rw [List.length_set]; exact g5
    · have hc' : (l.set i.toNat (narI so v))[k]? = some c := hc
      show kI (kSI w (Lp w sa 0) i.toNat z) (Lp w sa 0) k = iI c
      by_cases ek : k = i.toNat
      · subst ek
        rw [List.getElem?_set_self (by omega)] at hc'
        cases hc'
        rw [kI_SI_s, hz]
      · rw [List.getElem?_set_ne (by omega)] at hc'
        rw [kI_SI_j ek]
        exact g6 k c hc'
    · have hc' : c ∈ l.set i.toNat (narI so v) := hc
      rcases List.mem_or_eq_of_mem_set hc' with q | q
      · exact g7 c q
      · rw [q]; exact narI_el hv g1'
  rw [fX6_setElement, kRc_e hk, Option.bind_some, hp, Option.bind_some, decide_eq_true c, if_neg (show ¬ iB true = 0 by decide +kernel), kgP_e hk, Option.bind_some, kgI_e hk, Option.bind_some, p0, g2']
  by_cases s0 : so = 0
  · obtain ⟨w', e, r⟩ := key (iI v).toInt8.toInt32 (by rw [nar8 hv, narI, if_pos s0])
    exact ⟨w', by rw [if_pos (show iI so = 0 by rw [s0]; rfl), e, Option.bind_some], r⟩
  rw [if_neg (by rw [iL_0, iI_eq (by omega) (by omega) (by omega) (by omega)]; omega), Option.bind_some]
  by_cases s1 : so = 1
  · obtain ⟨w', e, r⟩ := key (iI v).toInt16.toInt32 (by rw [nar16 hv, narI, if_neg s0, if_pos s1])
    exact ⟨w', by rw [if_pos (show iI so = 1 by rw [s1]; rfl), e, Option.bind_some], r⟩
  · obtain ⟨w', e, r⟩ := key (iI v) (by rw [narI, if_neg s0, if_neg s1])
    exact ⟨w', by rw [if_neg (by rw [iL_1, iI_eq (by omega) (by omega) (by omega) (by omega)]; omega), e, Option.bind_some], r⟩
theorem kc_put {ow : Nat → Nat × Nat} {x : Nat} {w : kW} {S : AS} (h : Kc ow x w S) {d i v : Int} (hd : I32 d) (hi : I32 i) (hv : I32 v) : Kd ow x w (fX11_put x (iI d) (iI i) (iI v) w) (aPut S d i v).1 (aPut S d i v).2 := by
  have hk : kKd w x = 11 := h.2.1.1.1
  obtain ⟨s1, s2⟩ := shelfAt_ok h hd
  unfold aPut
  rw [fX11_put, kRc_e hk, Option.bind_some]
  cases hs : shAt S d with
  | none => exact Kd.rf h (by rw [s1 hs, Option.bind_some, if_pos rfl, iN_1])
  | some s =>
    obtain ⟨e1, o1, d8, -⟩ := s2 s hs
    have bd := rRef_bd s
    rw [e1, Option.bind_some, if_neg (by simp), kRc_e o1.1.1, Option.bind_some, rowRef_ok o1, Option.bind_some]
    show Kd ow x w _ (if rRef s = 0 then (if 0 ≤ i ∧ i < (rowL s).length then ((0 : Int), aSh S d.toNat (some (.inr (rowS s, (rowL s).set i.toNat (narI (rowS s) v))))) else (-13, S)) else (rRef s, S)).1 (if rRef s = 0 then (if 0 ≤ i ∧ i < (rowL s).length then ((0 : Int), aSh S d.toNat (some (.inr (rowS s, (rowL s).set i.toNat (narI (rowS s) v))))) else (-13, S)) else (rRef s, S)).2
    by_cases c : rRef s = 0
    · obtain ⟨⟨so, l⟩, rfl⟩ := rRef_0 c
      rw [if_pos (by rw [c]; rfl), if_pos c]
      show Kd ow x w _ (if 0 ≤ i ∧ i < l.length then ((0 : Int), aSh S d.toNat (some (.inr (so, l.set i.toNat (narI so v))))) else (-13, S)).1 (if 0 ≤ i ∧ i < l.length then ((0 : Int), aSh S d.toNat (some (.inr (so, l.set i.toNat (narI so v))))) else (-13, S)).2
      by_cases ci : 0 ≤ i ∧ i < l.length
      · obtain ⟨w', e3, o3, S3⟩ := setEl_ok o1 hi hv ci
        obtain ⟨k4, f4⟩ := h.shf d8 S3.vr.fr (h.sz S3) o3
        rw [if_pos ci]
        exact ⟨w', ow, by rw [Option.bind_some, e3, kb2_s, if_neg (by decide +kernel), iL_0], k4, f4⟩
      · rw [if_neg ci]
        refine Kd.rf h ?_
        rw [Option.bind_some, fX6_setElement, kRc_e o1.1.1, Option.bind_some, hasPlace_ok o1 hi, Option.bind_some, decide_eq_false ci, if_pos (show iB false = 0 from rfl), kb2_s, if_pos rfl, show (-13 : Int32) = iI (-13) by decide +kernel]
    · rw [if_neg (by rw [iL_0, iI_eq (by omega) (by omega) (by omega) (by omega)]; exact c), if_neg c]
      exact Kd.rf h rfl
def cpyL (a b : List Int) (i j n : Nat) : List Int := (List.range b.length).map fun k => if j ≤ k ∧ k < j + n then a.getD (i + (k - j)) 0 else b.getD k 0
def aCopy (S : AS) (d i e j n : Int) : Int × AS := match shAt S d, shAt S e with
  | some s, some r => if s.isSome ∧ r.isSome then (if (rRef s = 0 ∧ rRef r = 0) ∧ rowS s = rowS r then (if (0 ≤ i ∧ 0 ≤ n ∧ i + n ≤ (rowL s).length) ∧ (0 ≤ j ∧ j + n ≤ (rowL r).length) then (n, aSh S e.toNat (some (.inr (rowS r, cpyL (rowL s) (rowL r) i.toNat j.toNat n.toNat)))) else (-13, S)) else (-12, S)) else (-11, S)
  | _, _ => (-1, S)
theorem isEmpty_ok {ow : Nat → Nat × Nat} {x : Nat} {w : kW} {sa : Nat} {s : Sh} (h : ShO ow x w sa s) : fX6_isEmpty sa w = some (iB s.isNone) := by
  obtain ⟨⟨hk, -⟩, hV⟩ := h
  have en : (-1 : Int32) = iI (-1) := by decide +kernel
  rw [fX6_isEmpty, kgP_e hk, Option.bind_some]
  cases s with
  | none =>
    rw [hV.2, if_pos rfl, kgI_e hk, Option.bind_some, hV.1, if_pos en.symm]
    rfl
  | some q =>
    cases q with
    | inl q =>
      obtain ⟨g1, g2, g3, c, a, g4, -⟩ := hV
      rw [g4, if_neg (by simp)]
      rfl
    | inr q =>
      obtain ⟨g1, g2, g3, g4, -⟩ := hV
      rw [g4, if_pos rfl, kgI_e hk, Option.bind_some, g2, if_neg (by rw [en, iI_eq (by omega) (by omega) (by omega) (by omega)]; omega)]
      rfl
theorem hasPlaces_ok {ow : Nat → Nat × Nat} {x : Nat} {w : kW} {sa so : Nat} {l : List Int} (h : ShO ow x w sa (some (.inr (so, l)))) {i n : Int} (hi : I32 i) (hn : I32 n) : fX6_hasPlaces sa (iI i) (iI n) w = some (iB (decide (0 ≤ i ∧ 0 ≤ n ∧ i + n ≤ l.length))) := by
  obtain ⟨⟨hk, -⟩, g1, g2, g3, g4, g5, -⟩ := h
  obtain ⟨i0, i1⟩ := hi
  obtain ⟨n0, n1⟩ := hn
  have g5' : l.length ≤ 120 := g5
  have g3' : kI w sa 2 = iI l.length := g3
  rw [fX6_hasPlaces]
  by_cases c : i < 0
  · rw [if_pos (by rw [iL_0, iI_lt (by omega) (by omega) (by omega) (by omega)]; exact c), decide_eq_false (by omega)]
    rfl
  rw [if_neg (by rw [iL_0, iI_lt (by omega) (by omega) (by omega) (by omega)]; exact c)]
  by_cases c2 : n < 0
  · rw [if_pos (by rw [iL_0, iI_lt (by omega) (by omega) (by omega) (by omega)]; exact c2), decide_eq_false (by omega)]
    rfl
  rw [if_neg (by rw [iL_0, iI_lt (by omega) (by omega) (by omega) (by omega)]; exact c2), kgI_e hk, Option.bind_some, Option.bind_some, g3']
  by_cases c1 : (l.length : Int) < n
  · rw [if_pos (by rw [iI_lt (by omega) (by omega) (by omega) (by omega)]; exact c1), decide_eq_false (by omega)]
    rfl
  rw [if_neg (by rw [iI_lt (by omega) (by omega) (by omega) (by omega)]; exact c1), iI_sub]
  by_cases c3 : (l.length : Int) - n < i
  · rw [if_pos (by rw [iI_lt (by omega) (by omega) (by omega) (by omega)]; exact c3), decide_eq_false (by omega)]
    rfl
  · rw [if_neg (by rw [iI_lt (by omega) (by omega) (by omega) (by omega)]; exact c3), decide_eq_true (by omega)]
    rfl
theorem Sq.sr {ow : Nat → Nat × Nat} {V : Nat → Prop} {w : kW} {a : Nat} {f : Nat → Int32} (h : V (ow a).1) : Sq ow V w (kSR w a f) :=
  ⟨rfl, rfl, rfl, fun b hb => ⟨funext fun k => if_neg (fun e => hb (by rw [e]; exact h)), rfl, rfl⟩⟩
theorem cpyL_len (a b : List Int) (i j n : Nat) : (cpyL a b i j n).length = b.length := by rw [cpyL, List.length_map, List.length_range]
theorem cpyL_get {a b : List Int} {i j n k : Nat} {c : Int} (h : (cpyL a b i j n)[k]? = some c) : k < b.length ∧ c = if j ≤ k ∧ k < j + n then a.getD (i + (k - j)) 0 else b.getD k 0 := by
  have hk := (List.getElem?_eq_some_iff.mp h).1
  rw [cpyL_len] at hk
  rw [cpyL, List.getElem?_map, List.getElem?_range hk] at h
  exact ⟨hk, (Option.some.inj h).symm⟩
theorem getD_some {l : List Int} {k : Nat} (h : k < l.length) : l[k]? = some (l.getD k 0) := by
  rw [List.getD_eq_getElem?_getD, List.getElem?_eq_getElem h]
  rfl
theorem kc_copy {ow : Nat → Nat × Nat} {x : Nat} {w : kW} {S : AS} (h : Kc ow x w S) {d i e j n : Int} (hd : I32 d) (hi : I32 i) (he : I32 e) (hj : I32 j) (hn : I32 n) : Kd ow x w (fX11_copy x (iI d) (iI i) (iI e) (iI j) (iI n) w) (aCopy S d i e j n).1 (aCopy S d i e j n).2 := by
  have hk : kKd w x = 11 := h.2.1.1.1
  obtain ⟨s1, s2⟩ := shelfAt_ok h hd
  obtain ⟨r1, r2⟩ := shelfAt_ok h he
  have e12 : (-12 : Int32) = iI (-12) := by decide +kernel
  have e13 : (-13 : Int32) = iI (-13) := by decide +kernel
  have e11 : (-11 : Int32) = iI (-11) := by decide +kernel
  unfold aCopy
  rw [fX11_copy, kRc_e hk, Option.bind_some]
  cases hs : shAt S d with
  | none =>
    refine Kd.rf h ?_
    rw [s1 hs, Option.bind_some, Option.bind_some]
    cases hr : shAt S e with
    | none => rw [r1 hr, Option.bind_some, if_pos rfl, iN_1]
    | some r =>
      obtain ⟨e1, -⟩ := r2 r hr
      rw [e1, Option.bind_some, if_pos rfl, iN_1]
  | some s =>
    obtain ⟨e1, o1, d8, -⟩ := s2 s hs
    cases hr : shAt S e with
    | none =>
      refine Kd.rf h ?_
      rw [e1, Option.bind_some, Option.bind_some, r1 hr, Option.bind_some, if_neg (by simp), if_pos rfl, iN_1]
    | some r =>
      obtain ⟨e2, o2, d9, -⟩ := r2 r hr
      rw [e1, Option.bind_some, Option.bind_some, e2, Option.bind_some, if_neg (by simp), if_neg (by simp), kRc_e o1.1.1, Option.bind_some, isEmpty_ok o1, Option.bind_some]
      show Kd ow x w _ (if s.isSome ∧ r.isSome then (if (rRef s = 0 ∧ rRef r = 0) ∧ rowS s = rowS r then (if (0 ≤ i ∧ 0 ≤ n ∧ i + n ≤ (rowL s).length) ∧ (0 ≤ j ∧ j + n ≤ (rowL r).length) then (n, aSh S e.toNat (some (.inr (rowS r, cpyL (rowL s) (rowL r) i.toNat j.toNat n.toNat)))) else ((-13 : Int), S)) else (-12, S)) else (-11, S)).1 (if s.isSome ∧ r.isSome then (if (rRef s = 0 ∧ rRef r = 0) ∧ rowS s = rowS r then (if (0 ≤ i ∧ 0 ≤ n ∧ i + n ≤ (rowL s).length) ∧ (0 ≤ j ∧ j + n ≤ (rowL r).length) then (n, aSh S e.toNat (some (.inr (rowS r, cpyL (rowL s) (rowL r) i.toNat j.toNat n.toNat)))) else ((-13 : Int), S)) else (-12, S)) else (-11, S)).2
      cases s with
      | none =>
        rw [if_neg (show ¬ iB (none : Sh).isNone = 0 by show ¬ iB true = 0; decide +kernel), if_neg (fun z => absurd z.1 (by decide))]
        exact Kd.rf h (by rw [e11])
      | some s =>
        rw [if_pos (show iB (some s : Sh).isNone = 0 from rfl), kRc_e o2.1.1, Option.bind_some, isEmpty_ok o2, Option.bind_some]
        cases r with
        | none =>
          rw [if_neg (show ¬ iB (none : Sh).isNone = 0 by show ¬ iB true = 0; decide +kernel), if_neg (fun z => absurd z.2 (by decide))]
          exact Kd.rf h (by rw [e11])
        | some r =>
          have b1 := rRef_bd (some s)
          have b2 := rRef_bd (some r)
          rw [if_pos (show iB (some r : Sh).isNone = 0 from rfl), Option.bind_some, rowRef_ok o1, Option.bind_some, if_pos (show (some s : Sh).isSome ∧ (some r : Sh).isSome from ⟨rfl, rfl⟩)]
          by_cases c1 : rRef (some s) = 0
          · rw [if_pos (by rw [c1]; rfl), Option.bind_some, rowRef_ok o2, Option.bind_some]
            by_cases c2 : rRef (some r) = 0
            · obtain ⟨⟨so, l⟩, q1⟩ := rRef_0 c1
              obtain ⟨⟨so', l'⟩, q2⟩ := rRef_0 c2
              rw [q1] at o1
              rw [q2] at o2
              have z1 : so ≤ 2 := o1.2.1
              have z2 : so' ≤ 2 := o2.2.1
              have y1 : kI w (x + 221 + 2 * d.toNat) 1 = iI so := o1.2.2.1
              have y2 : kI w (x + 221 + 2 * e.toNat) 1 = iI so' := o2.2.2.1
              have g51 : l.length ≤ 120 := o1.2.2.2.2.2.1
              have g52 : l'.length ≤ 120 := o2.2.2.2.2.2.1
              rw [if_pos (by rw [c2]; rfl), kgI_e o1.1.1, Option.bind_some, kgI_e o2.1.1, Option.bind_some, y1, y2, q1, q2]
              show Kd ow x w _ (if ((0 : Int) = 0 ∧ (0 : Int) = 0) ∧ so = so' then (if (0 ≤ i ∧ 0 ≤ n ∧ i + n ≤ l.length) ∧ (0 ≤ j ∧ j + n ≤ l'.length) then (n, aSh S e.toNat (some (.inr (so', cpyL l l' i.toNat j.toNat n.toNat)))) else ((-13 : Int), S)) else (-12, S)).1 (if ((0 : Int) = 0 ∧ (0 : Int) = 0) ∧ so = so' then (if (0 ≤ i ∧ 0 ≤ n ∧ i + n ≤ l.length) ∧ (0 ≤ j ∧ j + n ≤ l'.length) then (n, aSh S e.toNat (some (.inr (so', cpyL l l' i.toNat j.toNat n.toNat)))) else ((-13 : Int), S)) else (-12, S)).2
              by_cases c3 : so = so'
              · subst c3
                rw [if_pos rfl, if_pos ⟨⟨rfl, rfl⟩, rfl⟩, Option.bind_some, hasPlaces_ok o1 hi hn, Option.bind_some]
                by_cases c4 : 0 ≤ i ∧ 0 ≤ n ∧ i + n ≤ l.length
                · rw [decide_eq_true c4, if_neg (show ¬ iB true = 0 by decide +kernel), Option.bind_some, hasPlaces_ok o2 hj hn, Option.bind_some]
                  by_cases c5 : 0 ≤ j ∧ j + n ≤ l'.length
                  · have hB := o2.1
                    obtain ⟨⟨ak, ao, ap0, ak14, an120, ao0⟩, a1, a2, a3, a4, a5, a6, a7⟩ := o1
                    obtain ⟨⟨bk, bo, bp0, bk14, bn120, bo0⟩, v1, v2, v3, v4, v5, v6, v7⟩ := o2
                    have ne : x + 221 + 2 * e.toNat ≠ Lp w (x + 221 + 2 * e.toNat) 0 := fun z => by rw [← z, bk] at bk14; omega
                    obtain ⟨fN, hf⟩ : ∃ fN, fN = va_cpy (kI w (Lp w (x + 221 + 2 * d.toNat) 0)) (kI w (Lp w (x + 221 + 2 * e.toNat) 0)) i.toNat j.toNat n.toNat := ⟨_, rfl⟩
                    have hw : kcp w (some (Lp w (x + 221 + 2 * d.toNat) 0)) (iI i) (some (Lp w (x + 221 + 2 * e.toNat) 0)) (iI j) (iI n) = some (kSR w (Lp w (x + 221 + 2 * e.toNat) 0) fN) := by
                      rw [hf]
                      unfold kcp
                      rw [Option.bind_some, Option.bind_some, iI_clamp (by omega) (by omega), iI_clamp (by omega) (by omega), iI_clamp (by omega) (by omega)]
                      rw [if_pos]
                      refine ⟨⟨ak14, bk14⟩, ⟨?_, ?_, ?_⟩, by rw [an120]; omega, by rw [bn120]; omega⟩
                      · rw [iL_0, iI_lt (by omega) (by omega) (by omega) (by omega)]; omega
                      · rw [iL_0, iI_lt (by omega) (by omega) (by omega) (by omega)]; omega
                      · rw [iL_0, iI_lt (by omega) (by omega) (by omega) (by omega)]; omega
                    have S3 : Sq ow (fun z => z = x + 221 + 2 * e.toNat) w (kSR w (Lp w (x + 221 + 2 * e.toNat) 0) fN) := Sq.sr (by rw [bo0])
                    have i3 : kI (kSR w (Lp w (x + 221 + 2 * e.toNat) 0) fN) (x + 221 + 2 * e.toNat) = kI w (x + 221 + 2 * e.toNat) := funext fun k => if_neg ne
                    have eO : ShO ow x (kSR w (Lp w (x + 221 + 2 * e.toNat) 0) fN) (x + 221 + 2 * e.toNat) (some (.inr (so, cpyL l l' i.toNat j.toNat n.toNat))) := by
                      refine ⟨hB.own S3 rfl, v1, by rw [i3]; exact v2, ?_, v4, ?_, fun k c hc => ?_, fun c hc => ?_⟩
                      · rw [i3]
                        show kI w (x + 221 + 2 * e.toNat) 2 = iI (cpyL l l' i.toNat j.toNat n.toNat).length
                        rw [cpyL_len]; exact v3
                      · show (cpyL l l' i.toNat j.toNat n.toNat).length ≤ 120
                        rw [cpyL_len]; exact v5
                      · obtain ⟨k1, k2⟩ := cpyL_get hc
                        have e9 : kI (kSR w (Lp w (x + 221 + 2 * e.toNat) 0) fN) (Lp w (x + 221 + 2 * e.toNat) 0) k = fN k := if_pos rfl
                        show kI (kSR w (Lp w (x + 221 + 2 * e.toNat) 0) fN) (Lp w (x + 221 + 2 * e.toNat) 0) k = iI c
                        rw [e9, hf, k2]
                        unfold va_cpy
                        by_cases ck : j.toNat ≤ k ∧ k < j.toNat + n.toNat
                        · rw [if_pos ck, if_pos ck]
                          exact a6 _ _ (getD_some (show i.toNat + (k - j.toNat) < l.length by omega))
                        · rw [if_neg ck, if_neg ck]
                          exact v6 _ _ (getD_some k1)
                      · have hc' : c ∈ cpyL l l' i.toNat j.toNat n.toNat := hc
                        obtain ⟨k, hk'⟩ := List.mem_iff_getElem?.mp hc'
                        obtain ⟨k1, k2⟩ := cpyL_get hk'
                        rw [k2]
                        by_cases ck : j.toNat ≤ k ∧ k < j.toNat + n.toNat
                        · rw [if_pos ck]
                          exact a7 _ (List.mem_of_getElem? (getD_some (show i.toNat + (k - j.toNat) < l.length by omega)))
                        · rw [if_neg ck]
                          exact v7 _ (List.mem_of_getElem? (getD_some k1))
                    obtain ⟨k4, f4⟩ := h.shf d9 S3.vr.fr (h.sz S3) eO
                    rw [decide_eq_true (show 0 ≤ j ∧ 0 ≤ n ∧ j + n ≤ l'.length by omega), if_neg (show ¬ iB true = 0 by decide +kernel), if_pos ⟨c4, c5⟩, kgP_e ak, Option.bind_some, kgP_e bk, Option.bind_some, ap0, bp0, hw, Option.bind_some]
                    exact ⟨_, ow, rfl, k4, f4⟩
                  · rw [decide_eq_false (show ¬ (0 ≤ j ∧ 0 ≤ n ∧ j + n ≤ l'.length) by omega), if_pos (show iB false = 0 from rfl), if_neg (fun z => c5 z.2)]
                    exact Kd.rf h (by rw [e13])
                · rw [decide_eq_false c4, if_pos (show iB false = 0 from rfl), if_neg (fun z => c4 z.1)]
                  exact Kd.rf h (by rw [e13])
              · rw [if_neg (by rw [iI_eq (by omega) (by omega) (by omega) (by omega)]; omega), if_neg (fun z => c3 z.2)]
                exact Kd.rf h (by rw [e12])
            · rw [if_neg (by rw [iL_0, iI_eq (by omega) (by omega) (by omega) (by omega)]; exact c2), if_neg (fun z => c2 z.1.2)]
              exact Kd.rf h (by rw [e12])
          · rw [if_neg (by rw [iL_0, iI_eq (by omega) (by omega) (by omega) (by omega)]; exact c1), if_neg (fun z => c1 z.1.1)]
            exact Kd.rf h (by rw [e12])
def work (k : Nat) (F : Fo) : Int := if k = 1 then fSz F + fPl F else if k = 2 then 2 * fSz F else if k = 3 then 2 * fSz F + fLev F else if k = 4 then fSz F + fUn F else if k = 5 then fSz F - 1 else if k = 6 then 2 * (fSz F + fPl F) else fSz F
def aEffort (S : AS) (d : Int) : Int := match shAt S d with
  | none => -1
  | some (some (.inl q)) => work q.1 q.2.2
  | some s => cRef s
theorem work_ok {ow : Nat → Nat × Nat} {x : Nat} {w : kW} {c a k : Nat} {F : Fo} (hc : kKd w c = 0) (hk : kI w c 0 = iI k) (hp : kP w c 2 = some a) (g : Li ow x w a F) (k6 : k ≤ 6) : fX0_work c w = some (iI (work k F)) := by
  have hka := g.1.2.1.1.1
  have e0 : (0 : Int32) = iI (([] : List Nat).length : Int) := by decide +kernel
  have f1 := levelAt_ok (X := []) g.1.2.1 g.1.2.2 (all_1 F) g.1.1
  have f2 := placesAt_ok (X := []) g.1.2.1 g.1.2.2 (all_1 F) g.1.1
  have f3 := unlikeAt_ok (X := []) g.1.2.1 g.1.2.2 (all_1 F) g.1.1
  have f5 : kI w a 5 = iI (fSz F) := g.1.2.1.2.2.1.1
  rw [← e0] at f1 f2 f3
  have hm : fX0_matchWork c w = some (iI (fSz F + fPl F)) := by
    rw [fX0_matchWork, kgP_e hc, Option.bind_some, hp, kgI_e hka, Option.bind_some, Option.bind_some, kRc_e hka, Option.bind_some, f2, Option.bind_some, f5, iI_add]
  have hb : fX0_backWork c w = some (iI (2 * fSz F)) := by
    rw [fX0_backWork, kgP_e hc, Option.bind_some, hp, kgI_e hka, Option.bind_some, f5, iL_2, iI_mul]
  unfold work
  rw [fX0_work, kgI_e hc, Option.bind_some, hk]
  by_cases c1 : k = 1
  · rw [if_pos (by rw [c1]; rfl), if_pos c1, kRc_e hc, Option.bind_some, hm, Option.bind_some]
  rw [if_neg (by rw [iL_1, iI_eq (by omega) (by omega) (by omega) (by omega)]; omega), if_neg c1]
  by_cases c2 : k = 2
  · rw [if_pos (by rw [c2]; rfl), if_pos c2, kRc_e hc, Option.bind_some, hb, Option.bind_some]
  rw [if_neg (by rw [iL_2, iI_eq (by omega) (by omega) (by omega) (by omega)]; omega), if_neg c2]
  by_cases c3 : k = 3
  · rw [if_pos (by rw [c3]; rfl), if_pos c3, kRc_e hc, Option.bind_some, hb, Option.bind_some, kgP_e hc, Option.bind_some, hp, kRc_e hka, Option.bind_some, f1, Option.bind_some, iI_add]
  rw [if_neg (by rw [iL_3, iI_eq (by omega) (by omega) (by omega) (by omega)]; omega), if_neg c3]
  by_cases c4 : k = 4
  · rw [if_pos (by rw [c4]; rfl), if_pos c4, kgP_e hc, Option.bind_some, hp, kgI_e hka, Option.bind_some, Option.bind_some, kRc_e hka, Option.bind_some, f3, Option.bind_some, f5, iI_add]
  rw [if_neg (by rw [iL_4, iI_eq (by omega) (by omega) (by omega) (by omega)]; omega), if_neg c4]
  by_cases c5 : k = 5
  · rw [if_pos (by rw [c5]; rfl), if_pos c5, kgP_e hc, Option.bind_some, hp, kgI_e hka, Option.bind_some, f5, iL_1, iI_sub]
  rw [if_neg (by rw [iL_5, iI_eq (by omega) (by omega) (by omega) (by omega)]; omega), if_neg c5]
  by_cases c6 : k = 6
  · rw [if_pos (by rw [c6]; rfl), if_pos c6, kRc_e hc, Option.bind_some, hm, Option.bind_some, iL_2, iI_mul]
  rw [if_neg (by rw [iL_6, iI_eq (by omega) (by omega) (by omega) (by omega)]; omega), if_neg c6, kgP_e hc, Option.bind_some, hp, kgI_e hka, Option.bind_some, f5]
theorem cardRef_ok {ow : Nat → Nat × Nat} {x : Nat} {w : kW} {sa : Nat} {s : Sh} (h : ShO ow x w sa s) : fX6_cardRefusal sa w = some (iI (cRef s)) := by
  obtain ⟨⟨hk, -⟩, hV⟩ := h
  have en : (-1 : Int32) = iI (-1) := by decide +kernel
  rw [fX6_cardRefusal, kgP_e hk, Option.bind_some]
  cases s with
  | none =>
    rw [hV.2, if_pos rfl, kgI_e hk, Option.bind_some, hV.1, if_pos en.symm]
    show some (-11 : Int32) = some (iI (-11))
    decide +kernel
  | some q =>
    cases q with
    | inl q =>
      obtain ⟨g1, g2, g3, c, a, g4, -⟩ := hV
      rw [g4, if_neg (by simp)]
      rfl
    | inr q =>
      obtain ⟨g1, g2, g3, g4, -⟩ := hV
      rw [g4, if_pos rfl, kgI_e hk, Option.bind_some, g2, if_neg (by rw [en, iI_eq (by omega) (by omega) (by omega) (by omega)]; omega)]
      show some (-12 : Int32) = some (iI (-12))
      decide +kernel
theorem kc_effort {ow : Nat → Nat × Nat} {x : Nat} {w : kW} {S : AS} (h : Kc ow x w S) {d : Int} (hd : I32 d) : fX11_effort x (iI d) w = some (iI (aEffort S d)) := by
  have hk : kKd w x = 11 := h.2.1.1.1
  obtain ⟨s1, s2⟩ := shelfAt_ok h hd
  unfold aEffort
  rw [fX11_effort, kRc_e hk, Option.bind_some]
  cases hs : shAt S d with
  | none => rw [s1 hs, Option.bind_some, if_pos rfl, iN_1]
  | some s =>
    obtain ⟨e1, o1, d8, -⟩ := s2 s hs
    rw [e1, Option.bind_some, if_neg (by simp), kgP_e o1.1.1, Option.bind_some]
    cases s with
    | none => rw [o1.2.2, if_pos rfl, kRc_e o1.1.1, Option.bind_some, cardRef_ok o1, Option.bind_some]
    | some q =>
      cases q with
      | inl q =>
        obtain ⟨g1, g2, g3, c, a, g4, g5, g6, g7, g8, g9, g10, g11⟩ := o1.2
        rw [g4, if_neg (by simp), kRc_e g5, Option.bind_some, work_ok g5 g8 g10 g11 g2, Option.bind_some]
      | inr q =>
        obtain ⟨g1, g2, g3, g4, -⟩ := o1.2
        rw [g4, if_pos rfl, kRc_e o1.1.1, Option.bind_some, cardRef_ok o1, Option.bind_some]
def failN (k n : Nat) (F : Fo) : Int := if k = 3 then n + 100 else if k = 6 then 200 + fLev F else n
theorem fail_ok {ow : Nat → Nat × Nat} {x : Nat} {w : kW} {c a k n : Nat} {F : Fo} (hc : kKd w c = 0) (hk : kI w c 0 = iI k) (hn : kI w c 1 = iI n) (hp : kP w c 2 = some a) (g : Li ow x w a F) (k6 : k ≤ 6) : fX0_failureNumber c w = some (iI (failN k n F)) := by
  have hka := g.1.2.1.1.1
  have e0 : (0 : Int32) = iI (([] : List Nat).length : Int) := by decide +kernel
  have f1 := levelAt_ok (X := []) g.1.2.1 g.1.2.2 (all_1 F) g.1.1
  rw [← e0] at f1
  unfold failN
  rw [fX0_failureNumber, kgI_e hc, Option.bind_some, hk]
  by_cases c3 : k = 3
  · rw [if_pos (by rw [c3]; rfl), if_pos c3, kgI_e hc, Option.bind_some, hn, iL_100, iI_add]
  rw [if_neg (by rw [iL_3, iI_eq (by omega) (by omega) (by omega) (by omega)]; omega), if_neg c3]
  by_cases c6 : k = 6
  · rw [if_pos (by rw [c6]; rfl), if_pos c6, kgP_e hc, Option.bind_some, hp, kRc_e hka, Option.bind_some, f1, Option.bind_some, iL_200, iI_add]
  rw [if_neg (by rw [iL_6, iI_eq (by omega) (by omega) (by omega) (by omega)]; omega), if_neg c6, kgI_e hc, Option.bind_some, hn]
