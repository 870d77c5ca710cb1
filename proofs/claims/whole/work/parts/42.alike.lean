theorem kb2_s {α β γ : Type} (a : α) (b : β) (f : α → β → Option γ) : kb2 (some (a, b)) f = f a b := rfl
theorem let_has {k : Nat} {p : Fo} : decide (112 + k ∈ fPre p) = fHas k p := rfl
def fNq (k : Nat) (q F G : Fo) : Option (Fo × Fo) := if fHas k q then none else if fSz (fS1 k q F) ≤ 200 ∧ fSz (fS1 k q G) ≤ 200 then some (fS1 k q F, fS1 k q G) else none
theorem j72_ok {ow : Nat → Nat × Nat} {w : kW} {d l r t s o : Nat} {F G Z q : Fo} {X W : List Nat} {k : Nat} (x2 : Int32) (hk6 : k < 6) (hw : WdS ow w d l r t s) (hl : Lf ow w l 200 F) (hr : Lf ow w r 200 G) (ho : o = l ∨ o = r) (hZ : Lf ow w o 200 Z) (e : fPre Z = X ++ (fPre q ++ W)) (hq : fOk q) :
    ∃ w', fX9_putAt_J72 d (iI X.length) x2 (iI (112 + k : Nat)) (some t) (some o) w = some (iB (fNq k q F G).isSome, w') ∧ Sm ow (WdO l r t s) w w' ∧ ∀ F' G', fNq k q F G = some (F', G') → Lf ow w' l 200 F' ∧ Lf ow w' r 200 G' := by
  obtain ⟨⟨hkd, hod, p0, p1, p2, p3⟩, ⟨g0, g1, g2, g3⟩, d1, d2, d3, d4, d5, d6⟩ := id hw
  have nt : t ≠ o := by rcases ho with rfl | rfl <;> omega
  have hlen := split_len e
  have hb := hZ.2.1.2.1
  obtain ⟨w1, e1, h1, h2, s1⟩ := become_ok nt g2 hZ.2.1 hZ.2.2 hZ.lt e hq (by omega)
  have hw1 := hw.sm s1
  obtain ⟨⟨hkd1, -, p01, p11, p21, p31⟩, -, -⟩ := id hw1
  have hl1 := hl.sm s1 (by omega)
  have hr1 := hr.sm s1 (by omega)
  have ht1 : Lf ow w1 t 200 q := ⟨hq, h1, h2⟩
  have f1 := has_ok h1 ht1.lt (112 + k) (by omega)
  have S1 : Sm ow (WdO l r t s) w w1 := s1.wide (fun z hz => Or.inr (Or.inr (Or.inl hz)))
  have hkt := g2.1
  have hkt1 := h1.1.1
  unfold fNq
  cases hh : fHas k q with
  | true =>
    have f2 : fX1_has t (iI (112 + k : Nat)) w1 = some (iB true) := by rw [f1, let_has, hh]
    refine ⟨w1, ?_, S1, fun F' G' z => by simp at z⟩
    rw [fX9_putAt_J72, kRc_e hkt, Option.bind_some, e1, Option.bind_some, kgP_e hkd1, Option.bind_some, p21, kRc_e hkt1, Option.bind_some, f2, Option.bind_some, if_neg (by decide +kernel)]
    rfl
  | false =>
    have f2 : fX1_has t (iI (112 + k : Nat)) w1 = some (iB false) := by rw [f1, let_has, hh]
    obtain ⟨w2, e2, s2, i2⟩ := putEv_ok (F := F) hk6 hw1 (Or.inl rfl) hl1 ht1
    have S2 : Sm ow (WdO l r t s) w w2 := S1.tr (s2.wide (fun z hz => hz.elim (fun y => Or.inl y) (fun y => Or.inr (Or.inr (Or.inr y)))))
    have run : fX9_putAt_J72 d (iI X.length) x2 (iI (112 + k : Nat)) (some t) (some o) w = kb2 (fX9_putEverywhere d (some l) (iI (112 + k : Nat)) w1) fun v12 w10 => if v12 = 0 then some ((0 : Int32), w10) else (kgP w10 9 (some d) 1).bind fun v13 => (kRc w10 9 (some d)).bind fun b14 => kb2 (fX9_putEverywhere b14 v13 (iI (112 + k : Nat)) w10) fun v17 w15 => if v17 = 0 then some ((0 : Int32), w15) else some ((1 : Int32), w15) := by
      rw [fX9_putAt_J72, kRc_e hkt, Option.bind_some, e1, Option.bind_some, kgP_e hkd1, Option.bind_some, p21, kRc_e hkt1, Option.bind_some, f2, Option.bind_some, if_pos (show iB false = 0 from rfl), kgP_e hkd1, Option.bind_some, p01, kRc_e hkd1, Option.bind_some]
    rw [run, e2]
    by_cases c1 : fSz (fS1 k q F) ≤ 200
    · have hl2 := i2 c1
      have hw2 := hw1.sm s2
      obtain ⟨⟨hkd2, -, p02, p12, p22, p32⟩, -, -⟩ := id hw2
      have hr2 := hr1.sm s2 (fun z => z.elim (fun y => d1 y.symm) (fun y => d5 y))
      have ht2 := ht1.sm s2 (fun z => z.elim (fun y => d2 y.symm) (fun y => d6 y))
      obtain ⟨w3, e3, s3, i3⟩ := putEv_ok (F := G) hk6 hw2 (Or.inr rfl) hr2 ht2
      have S3 : Sm ow (WdO l r t s) w w3 := S2.tr (s3.wide (fun z hz => hz.elim (fun y => Or.inr (Or.inl y)) (fun y => Or.inr (Or.inr (Or.inr y)))))
      have run2 : (kb2 (some (iB (decide (fSz (fS1 k q F) ≤ 200)), w2)) fun v12 w10 => if v12 = 0 then some ((0 : Int32), w10) else (kgP w10 9 (some d) 1).bind fun v13 => (kRc w10 9 (some d)).bind fun b14 => kb2 (fX9_putEverywhere b14 v13 (iI (112 + k : Nat)) w10) fun v17 w15 => if v17 = 0 then some ((0 : Int32), w15) else some ((1 : Int32), w15)) = if iB (decide (fSz (fS1 k q G) ≤ 200)) = 0 then some ((0 : Int32), w3) else some ((1 : Int32), w3) := by
        rw [decide_eq_true c1]
        rw [kb2_s, if_neg (show ¬ iB true = 0 by decide +kernel), kgP_e hkd2, Option.bind_some, p12, kRc_e hkd2, Option.bind_some, e3, kb2_s]
      rw [run2]
      by_cases c2 : fSz (fS1 k q G) ≤ 200
      · have c3 : fSz (fS1 k q F) ≤ 200 ∧ fSz (fS1 k q G) ≤ 200 := ⟨c1, c2⟩
        rw [decide_eq_true c2, if_neg (by decide +kernel)]
        refine ⟨w3, ?_, S3, fun F' G' z => ?_⟩
        · simp only [c3, if_true, Option.isSome_some, iB_t, Bool.false_eq_true, if_false, and_self]
        · simp only [c3, if_true, Bool.false_eq_true, if_false, and_self, Option.some.injEq, Prod.mk.injEq] at z
          rw [← z.1, ← z.2]
          exact ⟨hl2.sm s3 (fun z => z.elim d1 d3), i3 c2⟩
      · have c3 : ¬ (fSz (fS1 k q F) ≤ 200 ∧ fSz (fS1 k q G) ≤ 200) := fun z => c2 z.2
        rw [decide_eq_false c2, if_pos (show iB false = 0 from rfl)]
        refine ⟨w3, ?_, S3, fun F' G' z => ?_⟩
        · simp only [c3, Bool.false_eq_true, if_false, Option.isSome_none, iB_f]
        · simp only [c3, Bool.false_eq_true, if_false] at z
          cases z
    · have c3 : ¬ (fSz (fS1 k q F) ≤ 200 ∧ fSz (fS1 k q G) ≤ 200) := fun z => c1 z.1
      rw [decide_eq_false c1]
      refine ⟨w2, ?_, S2, fun F' G' z => ?_⟩
      · rw [kb2_s, if_pos (show iB false = 0 from rfl)]
        simp only [c3, Bool.false_eq_true, if_false, Option.isSome_none, iB_f]
      · simp only [c3, Bool.false_eq_true, if_false] at z
        cases z
theorem fNx_eq (x y F G : Fo) : fNx x y F G = (fPk x y).bind fun q => fNq q.1 q.2 F G := rfl
theorem leZ_let {k : Nat} (h : k < 6) : leZ ((112 + k : Nat) : Int) = k := by
  unfold leZ
  rw [if_pos (by omega)]
  omega
theorem leZ_no {c : Nat} (h : c = 126 ∨ c = 118 ∨ c = 62) : leZ (c : Int) = -1 := by
  unfold leZ
  rw [if_neg (by omega)]
theorem fLet {x : Fo} (h : fOk x) : (∃ k, k < 6 ∧ x = .var k) ∨ (fLk x = none ∧ (fHd x = 126 ∨ fHd x = 118 ∨ fHd x = 62)) := by
  rcases fCases h with ⟨j, hj, rfl⟩ | ⟨c, hc, rfl⟩ | ⟨c, d, hc, hd, rfl⟩ | ⟨c, d, hc, hd, rfl⟩
  · exact Or.inl ⟨j, hj, rfl⟩
  · exact Or.inr ⟨rfl, Or.inl rfl⟩
  · exact Or.inr ⟨rfl, Or.inr (Or.inl rfl)⟩
  · exact Or.inr ⟨rfl, Or.inr (Or.inr rfl)⟩
theorem putAt_ok {ow : Nat → Nat × Nat} {w : kW} {d l r t s : Nat} {F G x y : Fo} {X W W' : List Nat} (hw : WdS ow w d l r t s) (hl : Lf ow w l 200 F) (hr : Lf ow w r 200 G) (e : fPre F = X ++ (fPre x ++ W)) (e' : fPre G = X ++ (fPre y ++ W')) (hx : fOk x) (hy : fOk y) :
    ∃ w', fX9_putAt d (iI X.length) w = some (iB (fNx x y F G).isSome, w') ∧ Sm ow (WdO l r t s) w w' ∧ ∀ F' G', fNx x y F G = some (F', G') → Lf ow w' l 200 F' ∧ Lf ow w' r 200 G' := by
  obtain ⟨⟨hkd, hod, p0, p1, p2, p3⟩, ⟨g0, g1, g2, g3⟩, -⟩ := id hw
  have hkl := g0.1
  have hkr := g1.1
  have f1 := at_at (X := X) (c := fHd x) (Y := fTl x ++ W) hl.2.1 (by rw [e, fHdTl x hx]; rfl)
  have f2 := at_at (X := X) (c := fHd y) (Y := fTl y ++ W') hr.2.1 (by rw [e', fHdTl y hy]; rfl)
  have b1 : fHd x < 128 := fSig_lt (fPre_sig x hx _ (by rw [fHdTl x hx]; exact List.mem_cons_self))
  have b2 : fHd y < 128 := fSig_lt (fPre_sig y hy _ (by rw [fHdTl y hy]; exact List.mem_cons_self))
  have l1 := letterOf_ok (fHd x) (by omega) (by omega)
  have l2 := letterOf_ok (fHd y) (by omega) (by omega)
  have ez : (0 : Int32) = iI 0 := iL_0
  rw [fX9_putAt, kgP_e hkd, Option.bind_some, p0, kRc_e hkl, Option.bind_some, f1, Option.bind_some, l1, Option.bind_some, fNx_eq]
  rcases fLet hx with ⟨k, hk, rfl⟩ | ⟨n1, n2⟩
  · have hh : fHd (.var k : Fo) = 112 + k := rfl
    rw [hh] at l1 f1 ⊢
    rw [leZ_let hk] at l1 ⊢
    have e9 : fPk (.var k) y = some (k, y) := rfl
    rw [e9, Option.bind_some]
    obtain ⟨w', r1, r2, r3⟩ := j72_ok (o := r) (iI 1) hk hw hl hr (Or.inr rfl) hr e' hy
    refine ⟨w', ?_, r2, r3⟩
    rw [if_neg (by rw [ez, iI_lt (by omega) (by omega) (by omega) (by omega)]; omega), fX9_putAt_J19, if_neg (by decide +kernel), kgP_e hkd, Option.bind_some, p0, kRc_e hkl, Option.bind_some, f1, Option.bind_some, fX9_putAt_J43, l1, Option.bind_some, if_pos (by rw [ez, iI_le (by omega) (by omega) (by omega) (by omega)]; omega), kgP_e hkd, Option.bind_some, p2, if_neg (by decide +kernel), kgP_e hkd, Option.bind_some, p1]
    rw [iL_1]
    exact r1
  · rw [leZ_no n2, if_pos (by decide +kernel), fX9_putAt_J19, if_pos rfl, kgP_e hkd, Option.bind_some, p1, kRc_e hkr, Option.bind_some, f2, Option.bind_some, fX9_putAt_J43, l2, Option.bind_some]
    rcases fLet hy with ⟨k, hk, rfl⟩ | ⟨m1, m2⟩
    · have hh : fHd (.var k : Fo) = 112 + k := rfl
      rw [hh, leZ_let hk]
      have e9 : fPk x (.var k) = some (k, x) := by unfold fPk; rw [n1]; rfl
      rw [e9, Option.bind_some]
      obtain ⟨w', r1, r2, r3⟩ := j72_ok (o := l) (iI 0) hk hw hl hr (Or.inl rfl) hl e hx
      refine ⟨w', ?_, r2, r3⟩
      rw [if_pos (by rw [ez, iI_le (by omega) (by omega) (by omega) (by omega)]; omega), kgP_e hkd, Option.bind_some, p2, if_pos rfl, kgP_e hkd, Option.bind_some, p0]
      rw [ez]
      exact r1
    · have e9 : fPk x y = none := by unfold fPk; rw [n1, m1]
      rw [leZ_no m2, if_neg (by decide +kernel), e9]
      exact ⟨w, rfl, Sm.rf w, fun F' G' z => by cases z⟩
theorem makeAlike_loop {ow : Nat → Nat × Nat} {d l r t s : Nat} (x1 x2 : Option Nat) : ∀ (m n : Nat) (w : kW) (F G : Fo) (i : Int), m < n → m ≤ 7 → i + m = 7 → WdS ow w d l r t s → Lf ow w l 200 F → Lf ow w r 200 G →
    ∃ w', fX9_makeAlike_L20 d x1 x2 n (fun _ q => some ((0 : Int32), q)) (iI i) w = some (iB (fWi m F G).isSome, w') ∧ Sm ow (WdO l r t s) w w' ∧ ∀ H, fWi m F G = some H → Lf ow w' l 200 H := by
  intro m
  induction m with
  | zero =>
    intro n w F G i hn hm hi hw hl hr
    obtain ⟨n, rfl⟩ : ∃ z, n = z + 1 := ⟨n - 1, by omega⟩
    refine ⟨w, ?_, Sm.rf w, fun H z => by cases z⟩
    rw [fX9_makeAlike_L20, if_pos (by rw [iL_6, iI_lt (by omega) (by omega) (by omega) (by omega)]; omega)]
    rfl
  | succ m ih =>
    intro n w F G i hn hm hi hw hl hr
    obtain ⟨n, rfl⟩ : ∃ z, n = z + 1 := ⟨n - 1, by omega⟩
    obtain ⟨⟨hkd, hod, p0, p1, p2, p3⟩, ⟨g0, g1, g2, g3⟩, -⟩ := id hw
    have hkl := g0.1
    have h5 := hl.2.1.2.2.1.1
    have b1 := hl.2.1.2.1
    have eW : fWi (m + 1) F G = match fDf F G with | none => some F | some (x, y) => (fNx x y F G).bind fun q => fWi m q.1 q.2 := rfl
    rw [fX9_makeAlike_L20, if_neg (by rw [iL_6, iI_lt (by omega) (by omega) (by omega) (by omega)]; omega), kRc_e hkd, Option.bind_some, eW]
    cases hd : fDf F G with
    | none =>
      have e := fDf_none F hl.1 G hr.1 hd
      subst e
      have f1 := firstUnlike_ok (X := fPre F) (Z := []) (Z' := []) hw hl.2.1 hr.2.1 hl.lt hl.lt (by simp) (by simp) (Or.inl rfl)
      refine ⟨w, ?_, Sm.rf w, fun H z => by cases z; exact hl⟩
      rw [f1, Option.bind_some, kgP_e hkd, Option.bind_some, p0, kgI_e hkl, Option.bind_some, h5, if_neg (by rw [iI_lt (by omega) (by omega) (by omega) (by omega)]; omega)]
      rfl
    | some z =>
      obtain ⟨x, y⟩ := z
      obtain ⟨X, Y, Y', e1, e2, hx, hy, hne⟩ := fDf_some F hl.1 G hr.1 x y hd
      have f1 := firstUnlike_ok (X := X) hw hl.2.1 hr.2.1 hl.lt hr.lt e1 e2 (Or.inr ⟨fHd x, fTl x ++ Y, fHd y, fTl y ++ Y', by rw [fHdTl x hx]; rfl, by rw [fHdTl y hy]; rfl, hne⟩)
      have l1 := split_len e1
      have l2 := fSz_pos hx
      obtain ⟨w1, e3, s1, i1⟩ := putAt_ok hw hl hr e1 e2 hx hy
      rw [f1, Option.bind_some, kgP_e hkd, Option.bind_some, p0, kgI_e hkl, Option.bind_some, h5, if_pos (by rw [iI_lt (by omega) (by omega) (by omega) (by omega)]; omega), Option.bind_some, e3, kb2_s]
      cases hN : fNx x y F G with
      | none =>
        have eB : ∀ (a b : Option (Int32 × kW)), (if iB (none : Option (Fo × Fo)).isSome = 0 then a else b) = a := fun a b => if_pos rfl
        exact ⟨w1, by rw [eB]; simp [hN, iB], s1, fun H z => by simp [hN] at z⟩
      | some q =>
        obtain ⟨F', G'⟩ := q
        obtain ⟨j1, j2⟩ := i1 F' G' hN
        obtain ⟨w2, e4, s2, i2⟩ := ih n w1 F' G' (i + 1) (by omega) (by omega) (by omega) (hw.sm s1) j1 j2
        have eB : ∀ (a b : Option (Int32 × kW)), (if iB (some (F', G')).isSome = 0 then a else b) = b := fun a b => if_neg (by show ¬ iB true = 0; decide +kernel)
        refine ⟨w2, ?_, s1.tr s2, fun H z => i2 H (by simpa [hN] using z)⟩
        rw [eB, iL_1, iI_add, e4]
        simp [hN]
theorem makeAlike_ok {ow : Nat → Nat × Nat} {w : kW} {d l r t s a b ca cb : Nat} {F G : Fo} (hw : WdS ow w d l r t s) (ha : Lf ow w a ca F) (hb : Lf ow w b cb G) (na : ¬ WdO l r t s a) (nb : ¬ WdO l r t s b) :
    ∃ w', fX9_makeAlike d (some a) (some b) w = some (iB (fWi 7 F G).isSome, w') ∧ Sm ow (WdO l r t s) w w' ∧ ∀ H, fWi 7 F G = some H → Lf ow w' l 200 H := by
  obtain ⟨⟨hkd, hod, p0, p1, p2, p3⟩, ⟨g0, g1, g2, g3⟩, d1, -⟩ := id hw
  have e0 : (0 : Int32) = iI (([] : List Nat).length : Int) := by decide +kernel
  have c1 := ha.2.1.2.1
  have c2 := ha.2.1.1.2.2.1
  have c3 := hb.2.1.2.1
  have c4 := hb.2.1.1.2.2.1
  obtain ⟨w1, e1, h1, h2, s1⟩ := become_ok (X := []) (Y := []) (fun z => na (Or.inl z.symm)) g0 ha.2.1 ha.2.2 ha.lt (by simp) ha.1 (by unfold fSz; omega)
  have hw1 := hw.sm s1
  obtain ⟨⟨hkd1, -, p01, p11, -⟩, ⟨-, g11, -⟩, -⟩ := id hw1
  have hb1 := hb.sm s1 (fun z => nb (Or.inl z))
  obtain ⟨w2, e2, h3, h4, s2⟩ := become_ok (X := []) (Y := []) (fun z => nb (Or.inr (Or.inl z.symm))) g11 hb1.2.1 hb1.2.2 hb1.lt (by simp) hb1.1 (by unfold fSz; omega)
  have hl2 : Lf ow w2 l 200 F := Lf.sm ⟨ha.1, h1, h2⟩ s2 d1
  obtain ⟨w3, e3, s3, i3⟩ := makeAlike_loop (some a) (some b) 7 kFU w2 F G 0 (by unfold kFU; omega) (by omega) (by omega) (hw1.sm s2) hl2 ⟨hb.1, h3, h4⟩
  refine ⟨w3, ?_, ((s1.wide (fun z hz => Or.inl hz)).tr (s2.wide (fun z hz => Or.inr (Or.inl hz)))).tr s3, i3⟩
  rw [fX9_makeAlike, kgP_e hkd, Option.bind_some, p0, kRc_e g0.1, Option.bind_some, e0, e1, Option.bind_some, kgP_e hkd1, Option.bind_some, p11, kRc_e g11.1, Option.bind_some, e2, Option.bind_some]
  exact e3
