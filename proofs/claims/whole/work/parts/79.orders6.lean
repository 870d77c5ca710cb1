/-! .. digits; all turns -/
def digs (pl : Nat → Nat) : Nat → Nat → Nat
  | 0, a => a
  | m + 1, a => digs pl m (a * 8 + pl m)
theorem digs_ok (pl : Nat → Nat) : ∀ (n a : Nat), ((List.range n).map pl).foldr (fun d a => a * 8 + d) a = digs pl n a := by
  intro n
  induction n with
  | zero => exact fun a => rfl
  | succ n ih =>
    intro a
    rw [List.range_succ, List.map_append, List.foldr_append]
    exact ih _
theorem dig10 {ow : Nat → Nat × Nat} {x : Nat} {w : kW} {S : AS} {pl : Nat → Nat} {n : Nat} (h : Op ow x w S n pl) (hn : n ≤ 3) (x1 : Int32) (k : Int32 → Int32 → Option Int32) : ∀ (m fu a : Nat), m < fu → m ≤ n → fX11_placesAsDigits_L10 x x1 w fu k (iI a) (iI ((m : Int) - 1)) = k (iI (digs pl m a)) (-1) := by
  have hk : kKd w x = 11 := h.1.2.1.1.1
  have q1 : kP w x 11 = some (Lp w x 11) := h.1.2.1.2.2.2.1
  have q2 : kKd w (Lp w x 11) = 14 := h.1.2.1.2.2.2.2.1
  have q3 : kLn w (Lp w x 11) = 3 := h.1.2.1.2.2.2.2.2.1
  intro m
  induction m with
  | zero =>
    intro fu a hf _
    obtain ⟨fu, rfl⟩ : ∃ g, fu = g + 1 := ⟨fu - 1, by omega⟩
    rw [fX11_placesAsDigits_L10, if_pos (by decide +kernel), iN_1]
    rfl
  | succ m ih =>
    intro fu a hf hm
    obtain ⟨fu, rfl⟩ : ∃ g, fu = g + 1 := ⟨fu - 1, by omega⟩
    rw [fX11_placesAsDigits_L10, show (((m + 1 : Nat) : Int) - 1) = (m : Int) by omega, if_neg (by rw [iL_0, iI_lt (by omega) (by omega) (by omega) (by omega)]; omega), kgP_e hk, Option.bind_some, q1, kaI_e q2 (by omega) (by rw [q3]; omega) (by omega), Option.bind_some, Int.toNat_natCast, h.2 m (by omega), iL_8, iI_mul, iI_add, show (a : Int) * 8 + ((pl m : Nat) : Int) = ((a * 8 + pl m : Nat) : Int) by omega, iN_1, iI_add, show (m : Int) + -1 = (m : Int) - 1 by omega, ih fu _ (by omega) (by omega), iN_1]
    rfl
theorem digits_ok {ow : Nat → Nat × Nat} {x : Nat} {w : kW} {S : AS} {pl : Nat → Nat} {n : Nat} (h : Op ow x w S n pl) (h1 : n ≤ 3) : fX11_placesAsDigits x (iI n) w = some (iI (dig ((List.range n).map pl))) := by
  have e := dig10 h h1 (iI n) (fun a _ => some a) n kFU 0 (by unfold kFU; omega) (Nat.le_refl _)
  unfold dig
  rw [digs_ok, fX11_placesAsDigits, show kMmin (iI (n : Int)) (3 : Int32) = iI n from if_neg (by rw [iL_3, iI_lt (by omega) (by omega) (by omega) (by omega)]; omega), iL_1, iI_sub]
  exact e
theorem oFold_found {T : TbS} {P : PS} : ∀ (l : List Int) (s : OS), (l.foldl (oSt T P) s).2.2.1 ≤ s.2.2.1 + l.length := by
  intro l
  induction l with
  | nil => exact fun s => Nat.le_refl _
  | cons v l ih =>
    intro s
    rw [List.foldl_cons, List.length_cons]
    have h1 := ih (oSt T P s v)
    have h2 : (oSt T P s v).2.2.1 ≤ s.2.2.1 + 1 := by
      unfold oSt
      generalize qRun P s.1 0 s.2.1 1000000 (tLo T v) = q
      cases hh : (qH q).isSome with
      | false => rw [oNx_f hh]; exact Nat.le_succ _
      | true => rw [oNx_t hh]; exact Nat.le_refl _
    omega
theorem oRun_found {T : TbS} {P : PS} (l : List Int) : (oRun T P l).2.2.1 ≤ l.length := by
  have : (oRun T P l).2.2.1 ≤ 0 + l.length := oFold_found l _
  omega
theorem lp_lt {n t : Nat} (h : lpOk (plT t) n = true) (hn : n ≤ 3) : ∀ i, i < n → plT t i < n := by
  unfold lpOk at h
  rw [Bool.and_eq_true, Bool.and_eq_true] at h
  obtain ⟨h0, h1, h2⟩ := h
  have g : ∀ i, lpk (plT t) n i = true → i < n → plT t i < n := fun i hi c => by
    unfold lpk at hi
    rw [Bool.and_eq_true, if_neg (by omega)] at hi
    exact of_decide_eq_true hi.2
  intro i hi
  rcases (show i = 0 ∨ i = 1 ∨ i = 2 by omega) with rfl | rfl | rfl
  · exact g 0 h0 hi
  · exact g 1 h1 hi
  · exact g 2 h2 hi
theorem tns_s (n t m : Nat) : tns n t (m + 1) = if lpOk (plT t) n = true then (List.range n).map (plT t) :: tns n (t + 1) m else tns n (t + 1) m := by
  unfold tns
  rw [List.range'_succ, List.filter_cons]
  split
  · rw [List.map_cons]
  · rfl
def bOk (b : BS) : Prop := -1 ≤ b.1 ∧ b.1 ≤ 3 ∧ b.2.1 ≤ 300
theorem best_loop {ow : Nat → Nat × Nat} {x : Nat} {S : AS} {u : List Int} (hu : u ∈ tP (sT S)) {pr : Nat} {sa : Nat} {l : List Int} (hsa : ow sa = (sa, 0)) (hsx : x + 221 ≤ sa) (hpr : prF S [] l = true) (hl3 : l.length ≤ 3) (x1 x2 x3 x6 : Int32) (K : Int32 → Int32 → Int32 → kW → Option (Int32 × kW)) : ∀ (m fu t : Nat) (w : kW) (b : BS), m < fu → t + m = 27 → Kc ow x w S → Pm ow x w pr u → ShO ow x w sa (some (.inr (0, l))) → bOk b →
    ∃ w', fX11_bestOrder_L66 x x1 x2 x3 (some pr) (some sa) x6 fu (fun a b c _ w => K a b c w) (iI b.1) (iI b.2.1) (iI b.2.2) (iI t) w = K (iI ((tns l.length t m).foldl (bSt (sT S) (pEnd u) l) b).1) (iI ((tns l.length t m).foldl (bSt (sT S) (pEnd u) l) b).2.1) (iI ((tns l.length t m).foldl (bSt (sT S) (pEnd u) l) b).2.2) w' ∧ Kc ow x w' S ∧ Fr ow ow (Cx x) w w' := by
  intro m
  induction m with
  | zero =>
    intro fu t w b hf ht hK hP hsh hb
    obtain ⟨fu, rfl⟩ : ∃ g, fu = g + 1 := ⟨fu - 1, by omega⟩
    refine ⟨w, ?_, hK, Fr.rf w⟩
    rw [fX11_bestOrder_L66, if_pos (by rw [iL_27, iI_le (by omega) (by omega) (by omega) (by omega)]; omega)]
    rfl
  | succ m ih =>
    intro fu t w b hf ht hK hP hsh hb
    obtain ⟨fu, rfl⟩ : ∃ g, fu = g + 1 := ⟨fu - 1, by omega⟩
    have hk2 : kI w sa 2 = iI l.length := hsh.2.2.2.1
    obtain ⟨w1, e1, O1, f1, S1⟩ := layPlaces_ok hK (t := t) (n := l.length) (by omega) (by omega)
    have sh1 : ShO ow x w1 sa (some (.inr (0, l))) := hsh.fr S1.fr (by omega) (fun a ha => by omega)
    have P1 : Pm ow x w1 pr u := ⟨hP.1.fr S1.fr (fun z => by have := hP.2; omega), hP.2⟩
    have nt : (iI (t : Int)) + 1 = iI ((t + 1 : Nat) : Int) := by rw [iL_1, iI_add]; rfl
    rw [tns_s]
    have run0 : fX11_bestOrder_L66 x x1 x2 x3 (some pr) (some sa) x6 (fu + 1) (fun a b c _ w => K a b c w) (iI b.1) (iI b.2.1) (iI b.2.2) (iI t) w = if iB (lpOk (plT t) l.length) = 0 then fX11_bestOrder_L66 x x1 x2 x3 (some pr) (some sa) x6 fu (fun a b c _ w => K a b c w) (iI b.1) (iI b.2.1) (iI b.2.2) (iI (t + 1 : Nat)) w1 else
  (kRc w1 11 (some x)).bind fun b6 =>
  (fX11_tryOrder b6 (some pr) (some sa) w1).bind fun w7 =>
  (kgI w7 11 (some x) 12).bind fun v9 =>
  if iI b.1 < v9 then
  fX11_bestOrder_J66_125 (fun q7 q8 q9 q10 qw => fX11_bestOrder_L66 x x1 x2 x3 (some pr) (some sa) x6 fu (fun a b c _ w => K a b c w) q7 q8 q9 q10 qw) (fun a b c _ w => K a b c w) x x1 x2 x3 (some pr) (some sa) x6 (iI b.1) (iI b.2.1) (iI b.2.2) (iI t) w7
  else
  (kgI w7 11 (some x) 12).bind fun v10 =>
  if v10 = iI b.1 then
  (kgI w7 11 (some x) 13).bind fun v11 =>
  if iI b.2.1 ≤ v11 then
  fX11_bestOrder_L66 x x1 x2 x3 (some pr) (some sa) x6 fu (fun a b c _ w => K a b c w) (iI b.1) (iI b.2.1) (iI b.2.2) (iI (t + 1 : Nat)) w7
  else
  fX11_bestOrder_J66_125 (fun q7 q8 q9 q10 qw => fX11_bestOrder_L66 x x1 x2 x3 (some pr) (some sa) x6 fu (fun a b c _ w => K a b c w) q7 q8 q9 q10 qw) (fun a b c _ w => K a b c w) x x1 x2 x3 (some pr) (some sa) x6 (iI b.1) (iI b.2.1) (iI b.2.2) (iI t) w7
  else
  fX11_bestOrder_L66 x x1 x2 x3 (some pr) (some sa) x6 fu (fun a b c _ w => K a b c w) (iI b.1) (iI b.2.1) (iI b.2.2) (iI (t + 1 : Nat)) w7 := by
      rw [fX11_bestOrder_L66, if_neg (by rw [iL_27, iI_le (by omega) (by omega) (by omega) (by omega)]; omega), kgI_e hsh.1.1, Option.bind_some, hk2, kRc_e hK.2.1.1.1, Option.bind_some, e1, kb2_s, nt]
    rw [run0]
    cases hlp : lpOk (plT t) l.length with
    | false =>
      rw [if_pos (show iB false = 0 from rfl), if_neg Bool.false_ne_true]
      obtain ⟨w2, e2, k2, f2⟩ := ih fu (t + 1) w1 b (by omega) (by omega) O1.1 P1 sh1 hb
      exact ⟨w2, e2, k2, f1.cc f2⟩
    | true =>
      rw [if_neg (show ¬ iB true = 0 by decide +kernel), if_pos rfl, List.foldl_cons]
      have plt := lp_lt hlp hl3
      obtain ⟨w2, e4, O2, ⟨r1, r2⟩, f2, S2, B2⟩ := tryOrder_ok hu hsa hsx hpr hl3 plt ⟨O1.1, fun i hi => O1.2 i (by omega)⟩ P1 sh1
      have sh2 : ShO ow x w2 sa (some (.inr (0, l))) := sh1.fr S2.fr (fun z => by rcases z with z | z; omega; have := z.2; omega) (fun a ha z => by rcases z with z | z; omega; have := z.2; omega)
      have P2 : Pm ow x w2 pr u := ⟨P1.1.fr S2.fr (fun z => by have := hP.2; rcases z with z | z; omega; have := z.2; omega), P1.2⟩
      have ep : (pls l l.length (plT t)) = ((List.range l.length).map (plT t)).map fun i => l.getD i 0 := by
        unfold pls
        rw [List.map_map]
        rfl
      have fo := oRun_found (T := sT S) (P := pEnd u) (pls l l.length (plT t))
      have fl : (pls l l.length (plT t)).length = l.length := by unfold pls; rw [List.length_map, List.length_range]
      rw [fl] at fo
      obtain ⟨b0, b1, b2⟩ := hb
      have eb : bSt (sT S) (pEnd u) l b ((List.range l.length).map (plT t)) = if b.1 < (oRun (sT S) (pEnd u) (pls l l.length (plT t))).2.2.1 ∨ (b.1 = (oRun (sT S) (pEnd u) (pls l l.length (plT t))).2.2.1 ∧ (oRun (sT S) (pEnd u) (pls l l.length (plT t))).2.2.2 < b.2.1) then ((((oRun (sT S) (pEnd u) (pls l l.length (plT t))).2.2.1 : Nat) : Int), (oRun (sT S) (pEnd u) (pls l l.length (plT t))).2.2.2, dig ((List.range l.length).map (plT t))) else b := by rw [ep]; rfl
      rw [kRc_e O1.1.2.1.1.1, Option.bind_some, e4, Option.bind_some, kgI_e O2.1.2.1.1.1, Option.bind_some, Option.bind_some, r1, eb]
      have hk3 : kI w2 sa 2 = iI l.length := sh2.2.2.2.1
      generalize oRun (sT S) (pEnd u) (pls l l.length (plT t)) = o at fo r1 r2 B2 ⊢
      obtain ⟨oK, oZ, oC, oE⟩ := o
      simp only at fo r1 r2 B2 ⊢
      -- the digits
      have dg : fX11_placesAsDigits x (iI l.length) w2 = some (iI (dig ((List.range l.length).map (plT t)))) := by
        exact digits_ok O2 hl3
      have J : ∀ x7 x8 x9 : Int32, fX11_bestOrder_J66_125 (fun q7 q8 q9 q10 qw => fX11_bestOrder_L66 x x1 x2 x3 (some pr) (some sa) x6 fu (fun a b c _ w => K a b c w) q7 q8 q9 q10 qw) (fun a b c _ w => K a b c w) x x1 x2 x3 (some pr) (some sa) x6 x7 x8 x9 (iI t) w2 = fX11_bestOrder_L66 x x1 x2 x3 (some pr) (some sa) x6 fu (fun a b c _ w => K a b c w) (iI oC) (iI oE) (iI (dig ((List.range l.length).map (plT t)))) (iI (t + 1 : Nat)) w2 := fun x7 x8 x9 => by
        rw [fX11_bestOrder_J66_125, kgI_e O2.1.2.1.1.1, Option.bind_some, kgI_e O2.1.2.1.1.1, Option.bind_some, kgI_e sh2.1.1, Option.bind_some, kRc_e O2.1.2.1.1.1, Option.bind_some, hk3, dg, Option.bind_some, r1, r2, nt]
      obtain ⟨w4, e6, k6, f6⟩ := ih fu (t + 1) w2 ((oC : Int), oE, dig ((List.range l.length).map (plT t))) (by omega) (by omega) O2.1 P2 sh2 ⟨by show (-1 : Int) ≤ oC; omega, by show (oC : Int) ≤ 3; omega, B2⟩
      obtain ⟨w5, e7, k7, f7⟩ := ih fu (t + 1) w2 b (by omega) (by omega) O2.1 P2 sh2 ⟨b0, b1, b2⟩
      by_cases c1 : b.1 < (oC : Int)
      · rw [if_pos (by rw [iI_lt (by omega) (by omega) (by omega) (by omega)]; exact c1), if_pos (Or.inl c1), J]
        exact ⟨w4, e6, k6, (f1.cc f2).cc f6⟩
      · rw [if_neg (by rw [iI_lt (by omega) (by omega) (by omega) (by omega)]; exact c1)]
        by_cases c2 : (oC : Int) = b.1
        · rw [if_pos (by rw [c2]), kgI_e O2.1.2.1.1.1, Option.bind_some, r2]
          by_cases c3 : b.2.1 ≤ oE
          · rw [if_pos (by rw [iI_le (by omega) (by omega) (by omega) (by omega)]; omega), if_neg (fun z => by rcases z with z | z; exact c1 z; omega)]
            exact ⟨w5, e7, k7, (f1.cc f2).cc f7⟩
          · rw [if_neg (by rw [iI_le (by omega) (by omega) (by omega) (by omega)]; omega), if_pos (Or.inr ⟨c2.symm, by omega⟩), J]
            exact ⟨w4, e6, k6, (f1.cc f2).cc f6⟩
        · rw [if_neg (by rw [iI_eq (by omega) (by omega) (by omega) (by omega)]; exact c2), if_neg (fun z => by rcases z with z | z; exact c1 z; exact c2 z.1.symm)]
          exact ⟨w5, e7, k7, (f1.cc f2).cc f7⟩
noncomputable def aBst (S : AS) (u : List Int) (l : List Int) : BS := (perms l.length).foldl (bSt (sT S) (pEnd u) l) (-1, 0, 0)
noncomputable def aBest (S : AS) (p d q : Int) : Int := match tPn (sT S) p, shAt S d with
  | some u, some s => if 0 ≤ q ∧ q ≤ 2 then (if aPr S s = 0 then (if q = 0 then (aBst S u (rowL s)).1 else if q = 1 then ((aBst S u (rowL s)).2.1 : Int) else ((aBst S u (rowL s)).2.2 : Int)) else aPr S s) else -1
  | _, _ => -1
theorem kc_best {ow : Nat → Nat × Nat} {x : Nat} {w : kW} {S : AS} (h : Kc ow x w S) {p d q : Int} (hp : I32 p) (hd : I32 d) (hq : I32 q) : Kd ow x w (fX11_bestOrder x (iI p) (iI d) (iI q) w) (aBest S p d q) S := by
  obtain ⟨p1, p2⟩ := programAt_ok h.2.2.1 hp.1 hp.2
  obtain ⟨s1, s2⟩ := shelfAt_ok h hd
  obtain ⟨q0, q1⟩ := hq
  have hk := h.2.1.1.1
  unfold aBest
  rw [fX11_bestOrder, top_t h]
  have shd : ∃ o, fX11_shelfAt x (iI d) w = some o := by
    cases hs : shAt S d with
    | none => exact ⟨_, s1 hs⟩
    | some s => exact ⟨_, (s2 s hs).1⟩
  cases hP : tPn (sT S) p with
  | none =>
    obtain ⟨o, eo⟩ := shd
    exact Kd.rf h (by rw [p1 hP, Option.bind_some, kRc_e hk, Option.bind_some, eo, Option.bind_some, if_pos rfl, iN_1])
  | some u =>
    obtain ⟨pr, e1, g1⟩ := p2 u hP
    rw [e1, Option.bind_some, kRc_e hk, Option.bind_some]
    cases hs : shAt S d with
    | none => exact Kd.rf h (by rw [s1 hs, Option.bind_some, if_neg (by simp), if_pos rfl, iN_1])
    | some s =>
      obtain ⟨e2, o2, d8, -⟩ := s2 s hs
      rw [e2, Option.bind_some, if_neg (by simp), if_neg (by simp)]
      show Kd ow x w _ (if 0 ≤ q ∧ q ≤ 2 then (if aPr S s = 0 then (if q = 0 then (aBst S u (rowL s)).1 else if q = 1 then ((aBst S u (rowL s)).2.1 : Int) else ((aBst S u (rowL s)).2.2 : Int)) else aPr S s) else -1) S
      by_cases c0 : q < 0
      · rw [if_pos (by rw [iL_0, iI_lt (by omega) (by omega) (by omega) (by omega)]; exact c0), if_neg (by omega)]
        exact Kd.rf h (by rw [iN_1])
      rw [if_neg (by rw [iL_0, iI_lt (by omega) (by omega) (by omega) (by omega)]; exact c0)]
      by_cases c1 : q ≤ 2
      · have bd := aPr_bd S s
        rw [if_pos (by rw [iL_2, iI_le (by omega) (by omega) (by omega) (by omega)]; exact c1), if_pos (show 0 ≤ q ∧ q ≤ 2 by omega), Option.bind_some, aPr_ok h o2, Option.bind_some]
        by_cases c : aPr S s = 0
        · obtain ⟨l, rfl, hl1, hl3, hpr⟩ := aPr_0 c
          obtain ⟨w1, e3, k1, f1⟩ := best_loop (tPn_in hP) (sa := x + 221 + 2 * d.toNat) o2.1.2.1 (by omega) hpr hl3 (iI p) (iI d) (iI q) (iI (aPr S (some (.inr (0, l))))) (fun a b c w15 => if iI q = 0 then
  some (a, w15)
  else
  if iI q = (1 : Int32) then
  some (b, w15)
  else
  some (c, w15)) 27 kFU 0 w (-1, 0, 0) (by unfold kFU; omega) (by omega) h g1 o2 ⟨by decide, by decide, by decide⟩
          rw [tns_27 l.length (by omega)] at e3
          rw [if_pos (by rw [c]; rfl), if_pos c]
          show Kd ow x w _ (if q = 0 then (aBst S u l).1 else if q = 1 then ((aBst S u l).2.1 : Int) else ((aBst S u l).2.2 : Int)) S
          refine ⟨w1, ow, ?_, k1, f1⟩
          rw [show (-1 : Int32) = iI ((-1, 0, 0) : BS).1 from iN_1]
          refine e3.trans ?_
          show _ = some (iI (if q = 0 then (aBst S u l).1 else if q = 1 then ((aBst S u l).2.1 : Int) else ((aBst S u l).2.2 : Int)), w1)
          by_cases cq : q = 0
          · rw [if_pos (by rw [cq]; rfl), if_pos cq]
            rfl
          · rw [if_neg (by rw [iL_0, iI_eq (by omega) (by omega) (by omega) (by omega)]; exact cq), if_neg cq]
            by_cases cr : q = 1
            · rw [if_pos (by rw [cr]; rfl), if_pos cr]
              rfl
            · rw [if_neg (by rw [iL_1, iI_eq (by omega) (by omega) (by omega) (by omega)]; exact cr), if_neg cr]
              rfl
        · rw [if_neg (by rw [iL_0, iI_eq (by omega) (by omega) (by omega) (by omega)]; exact c), if_neg c]
          exact Kd.rf h rfl
      · rw [if_neg (by rw [iL_2, iI_le (by omega) (by omega) (by omega) (by omega)]; exact c1), if_neg (by omega)]
        exact Kd.rf h (by rw [iN_1])
