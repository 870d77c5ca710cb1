/-! .. trees, slips, programs, the image, counts -/
def qZt (q : QS) (z : Int32) : QS := qMk (qN q) (qA q) (qO q) (qH q) z (qS q) (qU q)
theorem qDn_z (lk : Bool) (st : Nat) (like : Bool) (q : QS) (z : Int32) : qDn lk st like (qZt q z) = ((qDn lk st like q).1, qZt (qDn lk st like q).2 z) := by
  have e : qDn lk st like (qZt q z) = if qO q || (lk && !like) then (false, qZt q z) else if qA q < st then (true, qMk (qN q) (qA q + 1) (qO q) (qH q) z (qS q) (qU q)) else (false, qMk (qN q) (qA q) true (qH q) z (qS q) (qU q)) := rfl
  rw [e]
  unfold qDn
  split
  · rfl
  · split <;> rfl
theorem qOf_z (d : Nat) (D : Fo) (q : QS) (z : Int32) : qOf d D (qZt q z) = qZt (qOf d D q) z := by
  have e : qOf d D (qZt q z) = if 20 < fSz D ∨ 24 ≤ (qN q).length then qZt q z else if (qN q).any (fun e => fEq e.1 D) then qZt q z else qMk (qN q ++ [(D, d + 1)]) (qA q) (qO q) (qH q) z (qS q) (qU q) := rfl
  rw [e]
  unfold qOf
  split
  · rfl
  · split <;> rfl
theorem qBa_z (lk : Bool) (st : Nat) (F : Fo) (d : Nat) (G : Fo) (q : QS) (z : Int32) : qBa lk st F d G (qZt q z) = qZt (qBa lk st F d G q) z := by
  cases G with
  | sub u v =>
    have eq : ∀ q, qBa lk st F d (.sub u v) q = if (qDn lk st (fLike F v) q).1 then (match fMt v F σ0 with | some σ => qOf d (fSb σ u) (qDn lk st (fLike F v) q).2 | none => (qDn lk st (fLike F v) q).2) else (qDn lk st (fLike F v) q).2 := fun _ => rfl
    rw [eq, eq, qDn_z]
    split
    · split
      · exact qOf_z _ _ _ _
      · rfl
    · rfl
  | _ => rfl
theorem qAh_z (lk : Bool) (st : Nat) (d : Nat) (F G : Fo) (q : QS) (z : Int32) : qAh lk st d F G (qZt q z) = qZt (qAh lk st d F G q) z := by
  cases F with
  | sub y t =>
    cases G with
    | sub u v =>
      have eq : ∀ q, qAh lk st d (.sub y t) (.sub u v) q = if (qDn lk st (fLike y u) q).1 then (match fMt u y σ0 with | some σ => qOf d (.sub (fSb σ v) t) (qDn lk st (fLike y u) q).2 | none => (qDn lk st (fLike y u) q).2) else (qDn lk st (fLike y u) q).2 := fun _ => rfl
      rw [eq, eq, qDn_z]
      split
      · split
        · exact qOf_z _ _ _ _
        · rfl
      · rfl
    | _ => rfl
  | _ => rfl
theorem qBe_z (lk : Bool) (st : Nat) (d : Nat) (F G : Fo) (q : QS) (z : Int32) : qBe lk st d F G (qZt q z) = qZt (qBe lk st d F G q) z := by
  cases F with
  | sub y t =>
    cases G with
    | sub u v =>
      have eq : ∀ q, qBe lk st d (.sub y t) (.sub u v) q = if (qDn lk st (fLike t v) q).1 then (match fMt v t σ0 with | some σ => qOf d (.sub y (fSb σ u)) (qDn lk st (fLike t v) q).2 | none => (qDn lk st (fLike t v) q).2) else (qDn lk st (fLike t v) q).2 := fun _ => rfl
      rw [eq, eq, qDn_z]
      split
      · split
        · exact qOf_z _ _ _ _
        · rfl
      · rfl
    | _ => rfl
  | _ => rfl
theorem qKs_z (lk : Bool) (st : Nat) (o o' : Int) {c : Nat} (hc : c ≠ 109) (F : Fo) (d : Nat) (z : Int32) : ∀ (l : List (Nat × Fo)) (q : QS), qKs lk st o c F d l (qZt q z) = qZt (qKs lk st o' c F d l q) z := by
  intro l
  induction l with
  | nil => exact fun q => rfl
  | cons e l ih =>
    intro q
    have eq : ∀ o q, qKs lk st o c F d (e :: l) q = if qO q then q else qKs lk st o c F d l (qAct lk st o c F d e.1 e.2 q) := fun _ _ => rfl
    rw [eq, eq]
    have eO : qO (qZt q z) = qO q := rfl
    have ea : qAct lk st o c F d e.1 e.2 (qZt q z) = qZt (qAct lk st o' c F d e.1 e.2 q) z := by
      unfold qAct
      rw [if_neg hc, if_neg hc]
      split
      · exact qBa_z _ _ _ _ _ _ _
      · rw [qAh_z, qBe_z]
    rw [eO, ea, ih]
    split <;> rfl
theorem qAs_z (lk : Bool) (st : Nat) (o o' : Int) (K : List (Nat × Fo)) (F : Fo) (d : Nat) (z : Int32) : ∀ (l : List Nat) (q : QS), (∀ c ∈ l, c ≠ 109) → qAs lk st o K F d l (qZt q z) = qZt (qAs lk st o' K F d l q) z := by
  intro l
  induction l with
  | nil => exact fun q _ => rfl
  | cons c l ih =>
    intro q h
    have eq : ∀ o q, qAs lk st o K F d (c :: l) q = if qO q then q else qAs lk st o K F d l (qKs lk st o c F d K q) := fun _ _ => rfl
    rw [eq, eq]
    have eO : qO (qZt q z) = qO q := rfl
    rw [eO, qKs_z lk st o o' (h c List.mem_cons_self), ih _ (fun e he => h e (List.mem_cons_of_mem _ he))]
    split <;> rfl
theorem qNs_z (lk : Bool) (st : Nat) (o o' : Int) (K : List (Nat × Fo)) (acts : List Nat) (deep : Nat) (z : Int32) (ha : ∀ c ∈ acts, c ≠ 109) : ∀ (m i : Nat) (q : QS), qNs lk st o K acts deep m i (qZt q z) = qZt (qNs lk st o' K acts deep m i q) z := by
  intro m
  induction m with
  | zero => exact fun i q => rfl
  | succ m ih =>
    intro i q
    have eq : ∀ o q, qNs lk st o K acts deep (m + 1) i q = if qO q then q else match (qN q)[i]? with | none => q | some e => qNs lk st o K acts deep m (i + 1) (if e.2 < deep then qAs lk st o K e.1 e.2 acts q else q) := fun _ _ => rfl
    rw [eq, eq]
    have eO : qO (qZt q z) = qO q := rfl
    have eN : qN (qZt q z) = qN q := rfl
    rw [eO, eN]
    split
    · rfl
    · split
      · rfl
      · rename_i e _
        by_cases c : e.2 < deep
        · rw [if_pos c, if_pos c, qAs_z lk st o o' K e.1 e.2 z acts q ha, ih]
        · rw [if_neg c, if_neg c, ih]
theorem tree_z (K : List (Nat × Fo)) (o : Int) (z : Int32) (deep : Nat) (F : Fo) : qN (qRun treeP K o z deep F) = qN (qRun treeP K 0 0 deep F) := by
  have e : qQ0 F z = qZt (qQ0 F 0) z := rfl
  have h := qNs_z (psL treeP) (psS treeP) o 0 (K.drop (K.length - psN treeP)) (psA treeP) deep z (fun c hc => by
    have hc' : c ∈ [100, 99] := hc
    simp only [List.mem_cons, List.not_mem_nil, or_false] at hc'
    omega) 24 0 (qQ0 F 0)
  unfold qRun
  rw [e, h]
  exact qN_mk _ _ _ _ _ _ _
noncomputable def aTree (S : AS) (l q : Int) : Int := match tLn (sT S) l with
  | none => -1
  | some F => if 0 ≤ q ∧ q ≤ 9 then (qN (qRun treeP (tKL (sT S)) 0 0 q.toNat F)).length else -1
theorem kc_tree {ow : Nat → Nat × Nat} {x : Nat} {w : kW} {S : AS} (h : Kc ow x w S) {l q : Int} (hl : I32 l) (hq : I32 q) : Kd ow x w (fX11_tree x (iI l) (iI q) w) (aTree S l q) S := by
  obtain ⟨l1, l2⟩ := lineAt_ok h.2.2.1 hl.1 hl.2
  obtain ⟨q0, q1⟩ := hq
  have hk := h.2.1.1.1
  unfold aTree
  rw [fX11_tree, top_t h]
  cases hL : tLn (sT S) l with
  | none => exact Kd.rf h (by rw [l1 hL, Option.bind_some, if_pos rfl, iN_1])
  | some F =>
    obtain ⟨a, e, g⟩ := l2 F hL
    rw [e, Option.bind_some, if_neg (by simp)]
    show Kd ow x w _ (if 0 ≤ q ∧ q ≤ 9 then ((qN (qRun treeP (tKL (sT S)) 0 0 q.toNat F)).length : Int) else -1) S
    by_cases c0 : q < 0
    · rw [if_pos (by rw [iL_0, iI_lt (by omega) (by omega) (by omega) (by omega)]; exact c0), if_neg (by omega)]
      exact Kd.rf h (by rw [iN_1])
    rw [if_neg (by rw [iL_0, iI_lt (by omega) (by omega) (by omega) (by omega)]; exact c0)]
    by_cases c9 : q ≤ 9
    · obtain ⟨w1, p1, d1, nd1, e1, s1, k1, f1, S1, c1, odds, o0, o1, o16⟩ := learned h
      have q1' : Sq ow (Vs x) w w1 := S1.wide (fun z hz => by rw [hz]; exact ⟨Nat.le_refl _, by omega⟩)
      have g1 := g.fr q1'.fr (fun z => by have := z.2; have := g.2.2.2; omega)
      have hP := c1.2.2.2.2.2.2.2.2.2.2.2
      obtain ⟨w2, d2, nd2, e2, s2, S2⟩ := look_ok (z := kI w1 (x + 61) 15) ⟨s1, k1, f1, rfl, o16, o0, o1⟩ (fun z => by have := z.2; omega) hP (by decide) (by decide) (fun c hc => by
        have hc' : c ∈ [100, 99] := hc
        simp only [List.mem_cons, List.not_mem_nil, or_false] at hc'
        omega) g1 (deepest := q.toNat) (by omega)
      have eq : ((q.toNat : Nat) : Int) = q := by omega
      rw [eq] at e2
      obtain ⟨k3, f3⟩ := s2.kq h (q1'.tr S2)
      obtain ⟨hk5, ⟨f6, -⟩, hg⟩ := k3.q
      obtain ⟨⟨p0, d0, nd0, hs0⟩, -⟩ := h.2.2.2.2.2.2.2.2.2.2.1
      rw [if_pos (by rw [iL_9, iI_le (by omega) (by omega) (by omega) (by omega)]; exact c9), if_pos (show 0 ≤ q ∧ q ≤ 9 by omega), kgP_e hk, Option.bind_some, h.2.1.2.1.2.2.2.2.2.2.2.2.1, kgP_e hk, Option.bind_some, h.2.1.2.1.1, kRc_e hs0.1.1, Option.bind_some, e1, Option.bind_some, kgP_e c1.2.1.1.1, Option.bind_some, c1.2.1.2.1.2.2.2.2.2.2.2.2.1, kgP_e c1.2.1.1.1, Option.bind_some, c1.2.1.2.1.2.2.2.2.2.2.2.2.2, kRc_e s1.1.1, Option.bind_some, e2, Option.bind_some, hg, Option.bind_some, kgI_e hk5, Option.bind_some, f6, tree_z]
      exact ⟨w2, ow, rfl, k3.1, f3⟩
    · rw [if_neg (by rw [iL_9, iI_le (by omega) (by omega) (by omega) (by omega)]; exact c9), if_neg (by omega)]
      exact Kd.rf h (by rw [iN_1])
noncomputable def aSlips (S : AS) (p l z o q : Int) : Int := if 0 ≤ o ∧ o ≤ 100 ∧ 0 ≤ q ∧ q ≤ 3 then (if aRef S p l = 0 then (if q = 0 then bI (qH (aRQ S p l (iI z) o)).isSome else if q = 1 then qA (aRQ S p l (iI z) o) else if q = 2 then qS (aRQ S p l (iI z) o) else qU (aRQ S p l (iI z) o)) else aRef S p l) else -1
theorem kc_slips {ow : Nat → Nat × Nat} {x : Nat} {w : kW} {S : AS} (h : Kc ow x w S) {p l z o q : Int} (hp : I32 p) (hl : I32 l) (ho : I32 o) (hq : I32 q) : Kd ow x w (fX11_slips x (iI p) (iI l) (iI z) (iI o) (iI q) w) (aSlips S p l z o q) S := by
  obtain ⟨q0, q1⟩ := hq
  obtain ⟨o0, o1⟩ := ho
  have hk := h.2.1.1.1
  have bd := aRef_bd S p l
  unfold aSlips
  rw [fX11_slips]
  by_cases b0 : o < 0
  · rw [if_pos (by rw [iL_0, iI_lt (by omega) (by omega) (by omega) (by omega)]; exact b0), if_neg (by omega)]
    exact Kd.rf h (by rw [iN_1])
  rw [if_neg (by rw [iL_0, iI_lt (by omega) (by omega) (by omega) (by omega)]; exact b0)]
  by_cases b1 : 100 < o
  · rw [if_pos (by rw [iL_100, iI_lt (by omega) (by omega) (by omega) (by omega)]; exact b1), if_neg (by omega)]
    exact Kd.rf h (by rw [iN_1])
  rw [if_neg (by rw [iL_100, iI_lt (by omega) (by omega) (by omega) (by omega)]; exact b1)]
  by_cases c0 : q < 0
  · rw [if_pos (by rw [iL_0, iI_lt (by omega) (by omega) (by omega) (by omega)]; exact c0), if_neg (by omega)]
    exact Kd.rf h (by rw [iN_1])
  rw [if_neg (by rw [iL_0, iI_lt (by omega) (by omega) (by omega) (by omega)]; exact c0)]
  by_cases c4 : q ≤ 3
  · rw [if_pos (by rw [iL_3, iI_le (by omega) (by omega) (by omega) (by omega)]; exact c4), if_pos (show 0 ≤ o ∧ o ≤ 100 ∧ 0 ≤ q ∧ q ≤ 3 by omega), kRc_e hk, Option.bind_some, runRef_ok h hp hl, Option.bind_some]
    by_cases c : aRef S p l = 0
    · obtain ⟨w', e, k1, f1⟩ := lookFor_ok h hp hl c (iI z) (odds := o) (by omega) (by omega)
      obtain ⟨hk5, ⟨f6, f10, f12, f13, f17, f18⟩, hg⟩ := k1.q
      rw [if_pos (by rw [c]; decide +kernel), if_pos c, Option.bind_some, e, Option.bind_some]
      rcases (show q = 0 ∨ q = 1 ∨ q = 2 ∨ q = 3 by omega) with rfl | rfl | rfl | rfl
      · rw [if_pos (show iI 0 = (0 : Int32) from rfl), if_pos rfl, hg, Option.bind_some, kgI_e hk5, Option.bind_some, f12, if_iB]
        exact ⟨w', ow, rfl, k1.1, f1⟩
      · rw [if_neg (by decide +kernel), if_pos (show iI 1 = (1 : Int32) from rfl), if_neg (by omega), if_pos rfl, hg, Option.bind_some, kgI_e hk5, Option.bind_some, f10]
        exact ⟨w', ow, rfl, k1.1, f1⟩
      · rw [if_neg (by decide +kernel), if_neg (by decide +kernel), if_pos (show iI 2 = (2 : Int32) from rfl), if_neg (by omega), if_neg (by omega), if_pos rfl, hg, Option.bind_some, kgI_e hk5, Option.bind_some, f17]
        exact ⟨w', ow, rfl, k1.1, f1⟩
      · rw [if_neg (by decide +kernel), if_neg (by decide +kernel), if_neg (by decide +kernel), if_neg (by omega), if_neg (by omega), if_neg (by omega), hg, Option.bind_some, kgI_e hk5, Option.bind_some, f18]
        exact ⟨w', ow, rfl, k1.1, f1⟩
    · rw [if_neg (by rw [iL_0, iI_eq (by omega) (by omega) (by omega) (by omega)]; exact c), if_neg c]
      exact Kd.rf h rfl
  · rw [if_neg (by rw [iL_3, iI_le (by omega) (by omega) (by omega) (by omega)]; exact c4), if_neg (by omega)]
    exact Kd.rf h (by rw [iN_1])
/-! programs -/
theorem newProg_ok {ow : Nat → Nat × Nat} {w : kW} (hw : WF w) {n : Nat} (hn : n ≤ 120) : ∃ w', fX3_init (kSz w) (iI n) (kNw w 3 0) = some w' ∧ Pz (oN ow (kSz w) 2) w' (kSz w) n pS0 ∧ Fr ow (oN ow (kSz w) 2) (fun _ => False) w w' ∧ WF w' ∧ kSz w' = kSz w + 2 ∧ ∀ q, q < kSz w → Sa w w' q := by
  obtain ⟨a, ea⟩ : ∃ a, a = kSz w := ⟨_, rfl⟩
  rw [← ea]
  have b0 := Bd.new hw 3
  rw [← ea] at b0
  obtain ⟨w8, e8⟩ : ∃ w8, w8 = kSI (kSI (kSI (kSI (kSI (kSI (kSI (kSI (kNw w 3 0) a 1 0) a 2 0) a 3 1000000) a 4 60) a 5 0) a 6 0) a 7 0) a 8 0 := ⟨_, rfl⟩
  have b8 : Bd w w8 a 3 [] := by rw [e8]; exact (((((((b0.si 0).si 0).si 1000000).si 60).si 0).si 0).si 0).si 0
  have z8 : kSz w8 = a + 1 := by rw [e8, ea]; rfl
  have b9 := b8.row (j := 0) (k := 13) (n := n) (fun e he => (by cases he))
  have f9 : ∀ i, kI (kSP (kNw w8 13 n) a 0 (some (kSz w8))) a i = kI w8 a i := fun i => Bd.fld b8.2.2.1
  have z9 : kSz (kSP (kNw w8 13 n) a 0 (some (kSz w8))) = a + 2 := by show kSz w8 + 1 = _; omega
  generalize e9 : kSP (kNw w8 13 n) a 0 (some (kSz w8)) = w9 at b9 f9 z9
  obtain ⟨q1, q2, q3, q4, q5, q6⟩ := b9
  obtain ⟨g1, g2, g3, g4, g5⟩ := q6 _ List.mem_cons_self
  have hl : Lp w9 a 0 = a + 1 := by unfold Lp; rw [g1]; exact z8
  have la : LnA (oN ow a 2) w9 a n 0 13 := by
    unfold LnA
    rw [hl]
    rw [z8] at g1 g2 g3
    exact ⟨g1, g2, g3, by rw [oN_in ⟨by omega, by omega⟩]; congr 1; omega⟩
  have i : ∀ j, kI w9 a j = if j = 8 then 0 else if j = 7 then 0 else if j = 6 then 0 else if j = 5 then 0 else if j = 4 then 60 else if j = 3 then 1000000 else if j = 2 then 0 else if j = 1 then 0 else kI (kNw w 3 0) a j := fun j => by
    rw [f9, e8]
    by_cases c8 : j = 8
    · rw [if_pos c8, c8, kI_SI_s]
    rw [if_neg c8, kI_SI_j c8]
    by_cases c7 : j = 7
    · rw [if_pos c7, c7, kI_SI_s]
    rw [if_neg c7, kI_SI_j c7]
    by_cases c6 : j = 6
    · rw [if_pos c6, c6, kI_SI_s]
    rw [if_neg c6, kI_SI_j c6]
    by_cases c5 : j = 5
    · rw [if_pos c5, c5, kI_SI_s]
    rw [if_neg c5, kI_SI_j c5]
    by_cases c4 : j = 4
    · rw [if_pos c4, c4, kI_SI_s]
    rw [if_neg c4, kI_SI_j c4]
    by_cases c3 : j = 3
    · rw [if_pos c3, c3, kI_SI_s]
    rw [if_neg c3, kI_SI_j c3]
    by_cases c2 : j = 2
    · rw [if_pos c2, c2, kI_SI_s]
    rw [if_neg c2, kI_SI_j c2]
    by_cases c1 : j = 1
    · rw [if_pos c1, c1, kI_SI_s]
    rw [if_neg c1, kI_SI_j c1]
  refine ⟨w9, ?_, ⟨⟨⟨q1, by rw [oN_in ⟨by omega, by omega⟩, Nat.sub_self], hn, la⟩, Nat.zero_le _, ⟨by rw [i]; rfl, by rw [i]; rfl, by rw [i]; rfl, by rw [i]; rfl⟩, fun i c hc => (by cases hc)⟩, by rw [i]; rfl, by rw [i]; rfl, by rw [i]; rfl, by rw [i]; rfl⟩, ?_, q4, z9, by rw [ea]; exact q5⟩
  · have em : kMmax (iI (n : Int)) (0 : Int32) = iI (n : Int) := by
      rw [iL_0, kMmax_i (by omega) (by omega) (by omega) (by omega)]
      congr 1
      omega
    have k0 : kKd (kNw w 3 0) a = 3 := by rw [ea]; exact kKd_N _ _ _
    rw [fX3_init, kpI_e k0, Option.bind_some, kpI_e (show kKd (kSI (kNw w 3 0) a 1 0) a = 3 from k0), Option.bind_some, kpI_e (show kKd (kSI (kSI (kNw w 3 0) a 1 0) a 2 0) a = 3 from k0), Option.bind_some, kpI_e (show kKd (kSI (kSI (kSI (kNw w 3 0) a 1 0) a 2 0) a 3 1000000) a = 3 from k0), Option.bind_some, kpI_e (show kKd (kSI (kSI (kSI (kSI (kNw w 3 0) a 1 0) a 2 0) a 3 1000000) a 4 60) a = 3 from k0), Option.bind_some, kpI_e (show kKd (kSI (kSI (kSI (kSI (kSI (kNw w 3 0) a 1 0) a 2 0) a 3 1000000) a 4 60) a 5 0) a = 3 from k0), Option.bind_some, kpI_e (show kKd (kSI (kSI (kSI (kSI (kSI (kSI (kNw w 3 0) a 1 0) a 2 0) a 3 1000000) a 4 60) a 5 0) a 6 0) a = 3 from k0), Option.bind_some, kpI_e (show kKd (kSI (kSI (kSI (kSI (kSI (kSI (kSI (kNw w 3 0) a 1 0) a 2 0) a 3 1000000) a 4 60) a 5 0) a 6 0) a 7 0) a = 3 from k0), Option.bind_some, ← e8, em, knC_e hn (by omega), Option.bind_some, kpP_e (((Sa.nw (k := 13) (n := n) (show a ≠ kSz w8 by omega)).1).trans b8.1), Option.bind_some, e9]
  · intro b hb _
    have hlt := hw.lt hb
    obtain ⟨g1, g2, g3, g4, g5⟩ := q5 b hlt
    exact ⟨oN_out (by omega), g1, g2, g3, g4, g5⟩
theorem pGo_lt : ∀ (l : List Int) (s : PS) (i j : Nat), pGo s l i = .inl j → j < i + l.length := by
  intro l
  induction l with
  | nil => intro s i j h; cases h
  | cons c l ih =>
    intro s i j h
    rw [List.length_cons]
    have h' : (match pStp s c with | none => Sum.inl i | some s' => pGo s' l (i + 1)) = (Sum.inl j : Sum Nat PS) := h
    cases hs : pStp s c with
    | none =>
      rw [hs] at h'
      have := Sum.inl.inj h'
      omega
    | some s' =>
      rw [hs] at h'
      have := ih s' (i + 1) j h'
      omega
theorem pFt_le {l : List Int} {j : Nat} (h : pFt l = some j) : j ≤ l.length := by
  unfold pFt at h
  cases hg : pGo pS0 l 0 with
  | inl i =>
    rw [hg] at h
    have e : i = j := Option.some.inj h
    have := pGo_lt l _ 0 i hg
    omega
  | inr s =>
    rw [hg] at h
    have h' : (if 0 < l.length ∧ s.1 = 0 then none else some l.length) = some j := h
    split at h'
    · cases h'
    · have e : l.length = j := Option.some.inj h'
      omega
theorem Kc.fr0 {ow ow' : Nat → Nat × Nat} {x : Nat} {w w' : kW} {S : AS} (h : Kc ow x w S) (hs : Fr ow ow' (fun _ => False) w w') (hW : WF w') (hO : WO ow' w') (hz : kSz w ≤ kSz w') : Kc ow' x w' S := by
  obtain ⟨⟨-, -, z0⟩, k0, kt, ki, ks, kr, kw, kp, kd, kh, kq, kg⟩ := h
  exact ⟨⟨hW, hO, by omega⟩, k0.fr hs (fun z => z), kt.fr hs (fun z => z) (fun _ _ z => z), ki.fr hs (fun z => z) (fun _ _ z => z), ks.fr hs (fun _ _ z => z) (fun _ _ z => z), kr.fr hs (fun z => z) (fun z => z), kw.fr hs (fun z => z), kp.fr hs (fun z => z), kd.fr hs (fun z => z) (fun z => z) (fun z => z) (fun z => z) (fun z => z), kh.fr hs (fun z => z) (fun z => z), kq.fr hs (fun _ _ _ z => z), kg.fr hs (fun z => z)⟩
def tPro (T : TbS) (u : List Int) : TbS := tMk (tL T) (tH T) (tK T) (tF T) (tP T ++ [u])
def aProgram (S : AS) (d : Int) : Int × AS := match shAt S d with
  | none => (-1, S)
  | some s => if (tP (sT S)).length < 6 then (if bRef s = 0 then (match pFt (rowL s) with
    | some j => (-100 - (j : Int), S)
    | none => (((tP (sT S)).length : Int), (tPro (sT S) (rowL s), sI S, sH S))) else (bRef s, S)) else (-2, S)
theorem kc_program {ow : Nat → Nat × Nat} {x : Nat} {w : kW} {S : AS} (h : Kc ow x w S) {d : Int} (hd : I32 d) : Kd ow x w (fX11_program x (iI d) w) (aProgram S d).1 (aProgram S d).2 := by
  have hk : kKd w x = 11 := h.2.1.1.1
  have hT := h.2.2.1
  have n6 := hT.1.2.2.2.2.2.1
  obtain ⟨s1, s2⟩ := shelfAt_ok h hd
  unfold aProgram
  rw [fX11_program, kRc_e hk, Option.bind_some]
  cases hs : shAt S d with
  | none => exact Kd.rf h (by rw [s1 hs, Option.bind_some, if_pos rfl, iN_1])
  | some s =>
    obtain ⟨e1, o1, d8, -⟩ := s2 s hs
    rw [e1, Option.bind_some, if_neg (by simp), kgP_e hk, Option.bind_some, h.2.1.2.1.1, kgI_e hT.2.1.1, Option.bind_some, hT.2.2.1.2.2]
    show Kd ow x w _ (if (tP (sT S)).length < 6 then (if bRef s = 0 then (match pFt (rowL s) with | some j => (-100 - (j : Int), S) | none => (((tP (sT S)).length : Int), (tPro (sT S) (rowL s), sI S, sH S))) else (bRef s, S)) else (-2, S)).1 (if (tP (sT S)).length < 6 then (if bRef s = 0 then (match pFt (rowL s) with | some j => (-100 - (j : Int), S) | none => (((tP (sT S)).length : Int), (tPro (sT S) (rowL s), sI S, sH S))) else (bRef s, S)) else (-2, S)).2
    by_cases c40 : (tP (sT S)).length < 6
    · rw [if_pos (by rw [iL_6, iI_lt (by omega) (by omega) (by omega) (by omega)]; omega), if_pos c40, kRc_e o1.1.1, Option.bind_some, bytesRef_ok o1, Option.bind_some]
      have bb := bRef_bd s
      by_cases c : bRef s = 0
      · obtain ⟨l, rfl⟩ := bRef_0 c
        obtain ⟨-, -, -, -, -, l120⟩ := rw_of o1
        obtain ⟨w1, e2, P1, F1, W1, z1, same1⟩ := newProg_ok (ow := ow) h.1.1 (n := l.length) l120
        have O1 := h.1.2.1.new W1 z1 same1
        have hsz := h.1.2.2
        have sh1 : ShO (oN ow (kSz w) 2) x w1 (x + 221 + 2 * d.toNat) (some (.inr (0, l))) := o1.fr F1 (fun z => z) (fun _ _ z => z)
        obtain ⟨r1, r2, r3, r4, r5, -⟩ := rw_of sh1
        obtain ⟨w2, e3, m2, g2⟩ := progRead_ok r5 (by rw [r4]; omega) l120 r3 P1
        have F2 : Fr ow (oN ow (kSz w) 2) (fun _ => False) w w2 := fun b hb hn => by
          obtain ⟨y1, y2, y3, y4, y5, y6⟩ := F1 b hb hn
          have ho : (ow b).1 ≠ kSz w := Nat.ne_of_lt (h.1.2.1 b hb)
          obtain ⟨z2, z3, z4⟩ := m2.q.2.2.2 b (by rw [y1]; exact ho)
          exact ⟨y1, by rw [m2.1]; exact y2, by rw [m2.2.1]; exact y3, z2.trans y4, z3.trans y5, z4.trans y6⟩
        have k2 : Kc (oN ow (kSz w) 2) x w2 S := h.fr0 F2 (W1.sq m2.q) (O1.sq m2.q) (by rw [m2.2.2.1, z1]; omega)
        have f2 : Fr ow (oN ow (kSz w) 2) (Cx x) w w2 := F2.wide (fun _ z => z.elim)
        have kk : kKd (kNw w 3 0) (x + 221 + 2 * d.toNat) = 6 := by rw [(Sa.nw (show x + 221 + 2 * d.toNat ≠ kSz w by omega)).1]; exact o1.1.1
        have ki : kI (kNw w 3 0) (x + 221 + 2 * d.toNat) 2 = iI l.length := by rw [(Sa.nw (show x + 221 + 2 * d.toNat ≠ kSz w by omega)).2.2.1]; exact o1.2.2.2.1
        have top : ((if iI (bRef (some (.inr (0, l)))) = 0 then (knO w 3).bind fun w9 => (kgI w9 6 (some (x + 221 + 2 * d.toNat)) 2).bind fun v10 => (fX3_init (kSz w) v10 w9).bind fun w11 => (kgP w11 6 (some (x + 221 + 2 * d.toNat)) 0).bind fun v13 => (kgI w11 6 (some (x + 221 + 2 * d.toNat)) 2).bind fun v14 => (kRc w11 3 (some (kSz w))).bind fun b15 => kb2 (fX3_readText b15 v13 v14 w11) fun v18 w16 => if v18 < 0 then (kgP w16 11 (some x) 0).bind fun v19 => (kRc w16 8 v19).bind fun b20 => kb2 (fX8_addProgram b20 (some (kSz w)) w16) fun v23 w21 => some (v23, w21) else some ((-100 : Int32) - v18, w16) else some (iI (bRef (some (.inr (0, l)))), w)) : Option (Int32 × kW)) = if iI (match pFt l with | some i => (i : Int) | none => -4) < (0 : Int32) then (kgP w2 11 (some x) 0).bind fun v19 => (kRc w2 8 v19).bind fun b20 => kb2 (fX8_addProgram b20 (some (kSz w)) w2) fun v23 w21 => some (v23, w21) else some ((-100 : Int32) - iI (match pFt l with | some i => (i : Int) | none => -4), w2) := by
          rw [if_pos (by rw [c]; decide +kernel)]
          show ((some (kNw w 3 0)).bind fun w9 => _) = _
          rw [Option.bind_some, kgI_e kk, Option.bind_some, ki, e2, Option.bind_some, r1, Option.bind_some, r2, Option.bind_some, kRc_e P1.1.1.1, Option.bind_some, e3, kb2_s]
          rfl
        rw [top, if_pos c]
        have eR : rowL (some (.inr (0, l))) = l := rfl
        rw [eR]
        cases hp : pFt l with
        | some j =>
          have := pFt_le hp
          show Kd ow x w (if iI (j : Int) < (0 : Int32) then _ else some ((-100 : Int32) - iI (j : Int), w2)) (-100 - (j : Int)) S
          have e100 : (-100 : Int32) = iI (-100) := by decide +kernel
          rw [if_neg (by rw [iL_0, iI_lt (by omega) (by omega) (by omega) (by omega)]; omega), e100, iI_sub]
          exact ⟨w2, oN ow (kSz w) 2, rfl, k2, f2⟩
        | none =>
          show Kd ow x w (if iI (-4) < (0 : Int32) then _ else _) ((tP (sT S)).length : Int) (tPro (sT S) l, sI S, sH S)
          obtain ⟨w3, e4, T3, q3⟩ := addProgram_ok k2.2.2.1 (by omega) c40 ⟨l120, hp, r5⟩ ⟨g2 hp, by omega⟩
          obtain ⟨k3, f3⟩ := k2.tb q3 T3
          have en : iI (-4) < (0 : Int32) := by decide +kernel
          rw [if_pos en, top_t k2, e4, kb2_s]
          exact ⟨w3, oN ow (kSz w) 2, rfl, k3, f2.cc f3⟩
      · rw [if_neg (by rw [iL_0, iI_eq (by omega) (by omega) (by omega) (by omega)]; exact c), if_neg c]
        exact Kd.rf h rfl
    · rw [if_neg (by rw [iL_6, iI_lt (by omega) (by omega) (by omega) (by omega)]; omega), if_neg c40]
      exact Kd.rf h (by rw [iN_2])
