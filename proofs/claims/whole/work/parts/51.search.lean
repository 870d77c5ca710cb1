/-! A RUN, as it should go: needs with their depths, acts, whether it is over, what is shown (depth, by which), seed, slips that are seen, that aren't -/
abbrev QS : Type := List (Fo × Nat) × Nat × Bool × Option (Nat × Nat) × Int32 × Nat × Nat
def qN (q : QS) : List (Fo × Nat) := q.1
def qA (q : QS) : Nat := q.2.1
def qO (q : QS) : Bool := q.2.2.1
def qH (q : QS) : Option (Nat × Nat) := q.2.2.2.1
def qZ (q : QS) : Int32 := q.2.2.2.2.1
def qS (q : QS) : Nat := q.2.2.2.2.2.1
def qU (q : QS) : Nat := q.2.2.2.2.2.2
def qMk (n : List (Fo × Nat)) (a : Nat) (o : Bool) (h : Option (Nat × Nat)) (z : Int32) (s u : Nat) : QS := (n, a, o, h, z, s, u)
/-- an act is done and counted, or it isn't -/
def qDn (lk : Bool) (st : Nat) (like : Bool) (q : QS) : Bool × QS := if qO q || (lk && !like) then (false, q) else if qA q < st then (true, qMk (qN q) (qA q + 1) (qO q) (qH q) (qZ q) (qS q) (qU q)) else (false, qMk (qN q) (qA q) true (qH q) (qZ q) (qS q) (qU q))
def zNx (z : Int32) : Int32 := z * 1103515245 + 12345
def zTh (z : Int32) : Int32 := ((z &&& (2147483647 : Int32)) / (65536 : Int32)) - ((z &&& (2147483647 : Int32)) / (65536 : Int32)) / (100 : Int32) * (100 : Int32)
noncomputable def zSl (z : Int32) (odds : Int) : Bool := @ite Bool (iI odds ≤ zTh z) (Classical.propDecidable _) false true
theorem zSl_t {z : Int32} {odds : Int} (h : iI odds ≤ zTh z) : zSl z odds = false := @if_pos _ (Classical.propDecidable _) h _ _ _
theorem zSl_f {z : Int32} {odds : Int} (h : ¬ iI odds ≤ zTh z) : zSl z odds = true := @if_neg _ (Classical.propDecidable _) h _ _ _
noncomputable def qSl (odds : Int) (q : QS) : Bool × QS := (zSl (zNx (qZ q)) odds, qMk (qN q) (qA q) (qO q) (qH q) (zNx (qZ q)) (qS q) (qU q))
/-- what a match says: it comes (c), a slip (s) -/
def qM2 (c s : Bool) (d num : Nat) (t : QS) : QS :=
  if c then (if s then qMk (qN t) (qA t) (qO t) (qH t) (qZ t) (qS t) (qU t + 1) else qMk (qN t) (qA t) true (some (d, num)) (qZ t) (qS t) (qU t))
  else (if s then qMk (qN t) (qA t) (qO t) (qH t) (qZ t) (qS t + 1) (qU t) else t)
noncomputable def qMa (lk : Bool) (st : Nat) (odds : Int) (F : Fo) (d : Nat) (num : Nat) (G : Fo) (q : QS) : QS :=
  let r := qDn lk st (fLike F G) q
  if r.1 then qM2 (fMt G F σ0).isSome (qSl odds r.2).1 d num (qSl odds r.2).2 else r.2
def qOf (d : Nat) (D : Fo) (q : QS) : QS := if 20 < fSz D ∨ 24 ≤ (qN q).length then q else if (qN q).any (fun e => fEq e.1 D) then q else qMk (qN q ++ [(D, d + 1)]) (qA q) (qO q) (qH q) (qZ q) (qS q) (qU q)
def qBa (lk : Bool) (st : Nat) (F : Fo) (d : Nat) : Fo → QS → QS
  | .sub x y, q =>
    let r := qDn lk st (fLike F y) q
    if r.1 then (match fMt y F σ0 with
      | some σ => qOf d (fSb σ x) r.2
      | none => r.2) else r.2
  | _, q => q
def qAh (lk : Bool) (st : Nat) (d : Nat) : Fo → Fo → QS → QS
  | .sub a b, .sub x y, q =>
    let r := qDn lk st (fLike a x) q
    if r.1 then (match fMt x a σ0 with
      | some σ => qOf d (.sub (fSb σ y) b) r.2
      | none => r.2) else r.2
  | _, _, q => q
def qBe (lk : Bool) (st : Nat) (d : Nat) : Fo → Fo → QS → QS
  | .sub a b, .sub x y, q =>
    let r := qDn lk st (fLike b y) q
    if r.1 then (match fMt y b σ0 with
      | some σ => qOf d (.sub a (fSb σ x)) r.2
      | none => r.2) else r.2
  | _, _, q => q
/-! THE SEARCH, the class's -/
def SsS (ow : Nat → Nat × Nat) (x : Nat) (w : kW) (s p d : Nat) (nd : Nat → Nat) : Prop :=
  (kKd w s = 5 ∧ ow s = (s, 0) ∧ LnA ow w s 24 0 16 ∧ LnA ow w s 24 1 14 ∧ LnA ow w s 40 2 16 ∧ LnA ow w s 40 3 14) ∧ (kP w s 4 = some p ∧ Pg ow w p) ∧ (kP w s 5 = some d ∧ LnS ow w d 20 ∧ x + 61 ≤ d ∧ d < x + 218) ∧
  (∀ j, j < 24 → kP w (Lp w s 0) j = some (nd j) ∧ LnS ow w (nd j) (if j = 0 then 60 else 20) ∧ x + 61 ≤ nd j ∧ nd j < x + 218 ∧ nd j ≠ d) ∧ (∀ i j, i < 24 → j < 24 → nd i = nd j → i = j) ∧ x + 61 ≤ s ∧ s < x + 218 ∧ x + 61 ≤ p ∧ p < x + 218
/-- the lines that are known -/
def SsK (ow : Nat → Nat × Nat) (x : Nat) (w : kW) (s : Nat) (K : List (Nat × Fo)) : Prop := K.length ≤ 40 ∧ ∀ (k num : Nat) (G : Fo), K[k]? = some (num, G) → ∃ a, kP w (Lp w s 2) k = some a ∧ Li ow x w a G ∧ kI w (Lp w s 3) k = iI num
def SsN (ow : Nat → Nat × Nat) (w : kW) (s : Nat) (nd : Nat → Nat) (N : List (Fo × Nat)) : Prop := N.length ≤ 24 ∧ ∀ (j d : Nat) (F : Fo), N[j]? = some (F, d) → Lf ow w (nd j) (if j = 0 then 60 else 20) F ∧ kI w (Lp w s 1) j = iI d
def SsF (w : kW) (s : Nat) (kn : Nat) (lk : Bool) (st : Nat) (odds : Int) (q : QS) : Prop :=
  (kI w s 6 = iI (qN q).length ∧ kI w s 7 = iI kn ∧ kI w s 8 = iB lk ∧ kI w s 9 = iI st ∧ kI w s 10 = iI (qA q) ∧ kI w s 11 = iB (qO q)) ∧ (kI w s 12 = iB (qH q).isSome ∧ ∀ d b, qH q = some (d, b) → kI w s 13 = iI d ∧ kI w s 14 = iI b) ∧ kI w s 15 = qZ q ∧ kI w s 16 = iI odds ∧ kI w s 17 = iI (qS q) ∧ kI w s 18 = iI (qU q)
theorem Pg.sm {ow : Nat → Nat × Nat} {S : Nat → Prop} {w w1 : kW} {p : Nat} (h : Pg ow w p) (hs : Sm ow S w w1) : Pg ow w1 p := ⟨by rw [hs.1]; exact h.1, h.2.1, h.2.2.sm hs⟩
theorem SsS.sm {ow : Nat → Nat × Nat} {S : Nat → Prop} {x : Nat} {w w1 : kW} {s p d : Nat} {nd : Nat → Nat} (h : SsS ow x w s p d nd) (hs : Sm ow S w w1) : SsS ow x w1 s p d nd := by
  obtain ⟨⟨hk, ho, r0, r1, r2, r3⟩, ⟨p4, hp⟩, ⟨p5, hd⟩, hn, h6⟩ := h
  refine ⟨⟨by rw [hs.1]; exact hk, ho, r0.sm hs, r1.sm hs, r2.sm hs, r3.sm hs⟩, ⟨by rw [hs.2.2.2.1]; exact p4, hp.sm hs⟩, ⟨by rw [hs.2.2.2.1]; exact p5, hd.1.sm hs, hd.2⟩, fun j hj => ?_, h6⟩
  obtain ⟨g1, g2, g3⟩ := hn j hj
  exact ⟨by rw [hs.lp, hs.2.2.2.1]; exact g1, g2.sm hs, g3⟩
/-- the Putting alone has changed -/
theorem SsS.sq {ow : Nat → Nat × Nat} {x : Nat} {w w1 : kW} {s p d : Nat} {nd : Nat → Nat} (h : SsS ow x w s p d nd) (hs : Sq ow (fun q => q = p) w w1) (hp1 : Pg ow w1 p) : SsS ow x w1 s p d nd := by
  obtain ⟨⟨hk, ho, r0, r1, r2, r3⟩, ⟨p4, hp⟩, ⟨p5, hd⟩, hn, h6⟩ := h
  have hkp := hp.1
  have ns : ¬ (ow s).1 = p := by rw [ho]; intro e; have e' : s = p := e; rw [e', hkp] at hk; omega
  have ndp : d ≠ p := hp.ne hd.1
  obtain ⟨f1, f2, f3⟩ := hs.2.2.2 s ns
  have l0 : ∀ j, Lp w1 s j = Lp w s j := Lp_eq f2
  refine ⟨⟨by rw [hs.1]; exact hk, ho, r0.sq hs ns, r1.sq hs ns, r2.sq hs ns, r3.sq hs ns⟩, ⟨by rw [f2]; exact p4, hp1⟩, ⟨by rw [f2]; exact p5, hd.1.sq hs ndp, hd.2⟩, fun j hj => ?_, h6⟩
  obtain ⟨g1, g2, g3⟩ := hn j hj
  have nr : ¬ (ow (Lp w s 0)).1 = p := by rw [r0.2.2.2]; intro e; have e' : s = p := e; rw [e', hkp] at hk; omega
  exact ⟨by rw [l0, (hs.2.2.2 _ nr).2.1]; exact g1, g2.sq hs (hp.ne g2), g3⟩
/-- K and N stay where neither search nor its lines change -/
theorem SsK.fr {ow ow' : Nat → Nat × Nat} {S : Nat → Prop} {x : Nat} {w w1 : kW} {s p d : Nat} {nd : Nat → Nat} {K : List (Nat × Fo)} (h : SsK ow x w s K) (h0 : SsS ow x w s p d nd) (hs : Fr ow ow' S w w1) (h1 : ¬ S s) (h2 : ∀ a, x + 237 ≤ a → ¬ S a) : SsK ow' x w1 s K := by
  obtain ⟨⟨hk, ho, r0, r1, r2, r3⟩, -⟩ := h0
  obtain ⟨e1, e2, e3, e4, e5, e6⟩ := hs s (by omega) (by rw [ho]; exact h1)
  refine ⟨h.1, fun k num G hK => ?_⟩
  obtain ⟨a, g1, g2, g3⟩ := h.2 k num G hK
  exact ⟨a, by rw [Lp_eq e5, (r2.fi hs (by omega) h1).2]; exact g1, g2.fr hs (h2 a g2.2.2.2), by rw [Lp_eq e5, (r3.fi hs (by omega) h1).1]; exact g3⟩
theorem SsN.fr {ow ow' : Nat → Nat × Nat} {S : Nat → Prop} {x : Nat} {w w1 : kW} {s p d : Nat} {nd : Nat → Nat} {N : List (Fo × Nat)} (h : SsN ow w s nd N) (h0 : SsS ow x w s p d nd) (hs : Fr ow ow' S w w1) (h1 : ¬ S s) (h2 : ∀ j, j < 24 → ¬ S (nd j)) : SsN ow' w1 s nd N := by
  obtain ⟨⟨hk, ho, r0, r1, r2, r3⟩, -⟩ := h0
  obtain ⟨e1, e2, e3, e4, e5, e6⟩ := hs s (by omega) (by rw [ho]; exact h1)
  refine ⟨h.1, fun j d F hN => ?_⟩
  obtain ⟨g1, g2⟩ := h.2 j d F hN
  have hl := (List.getElem?_eq_some_iff.mp hN).1
  have := h.1
  exact ⟨g1.fr hs (h2 j (by omega)), by rw [Lp_eq e5, (r1.fi hs (by omega) h1).1]; exact g2⟩
/-- all of it, in the midst of a run -/
def Ss (ow : Nat → Nat × Nat) (x : Nat) (w : kW) (s p d : Nat) (nd : Nat → Nat) (K : List (Nat × Fo)) (lk : Bool) (st : Nat) (odds : Int) (q : QS) : Prop := SsS ow x w s p d nd ∧ SsK ow x w s K ∧ SsN ow w s nd (qN q) ∧ SsF w s K.length lk st odds q ∧ st ≤ 1000000 ∧ qA q ≤ st ∧ 0 ≤ odds ∧ odds ≤ 100
/-- an int field of it is written -/
theorem Ss.fld {ow : Nat → Nat × Nat} {x : Nat} {w : kW} {s p d : Nat} {nd : Nat → Nat} {K : List (Nat × Fo)} {q q' : QS} {j : Nat} {v : Int32} (h : SsS ow x w s p d nd ∧ SsK ow x w s K ∧ SsN ow w s nd (qN q)) (hN : qN q' = qN q) :
    (SsS ow x (kSI w s j v) s p d nd ∧ SsK ow x (kSI w s j v) s K ∧ SsN ow (kSI w s j v) s nd (qN q')) ∧ Sm ow (fun z => x + 61 ≤ z ∧ z < x + 218) w (kSI w s j v) := by
  obtain ⟨h1, h2, h3⟩ := h
  obtain ⟨⟨hk, ho, r0, r1, r2, r3⟩, ⟨p4, hp⟩, ⟨p5, hd⟩, hn, h6, b1, b2, b3, b4⟩ := id h1
  have sm : Sm ow (fun z => z = s) w (kSI w s j v) := Sm.si (by rw [ho])
  have sm' := sm.wide (S' := fun z => x + 61 ≤ z ∧ z < x + 218) (fun z hz => by rw [hz]; exact ⟨b1, b2⟩)
  refine ⟨⟨h1.sm sm, ⟨h2.1, fun k num G hK => ?_⟩, ?_⟩, sm'⟩
  · obtain ⟨a, g1, g2, g3⟩ := h2.2 k num G hK
    exact ⟨a, g1, g2.sm sm' (by have := g2.2.2.2; omega), by rw [sm.lp, kI_SI_o (row_no r3 ho)]; exact g3⟩
  · rw [hN]
    refine ⟨h3.1, fun i dd F hF => ?_⟩
    obtain ⟨g1, g2⟩ := h3.2 i dd F hF
    have hl := (List.getElem?_eq_some_iff.mp hF).1
    have hle := h3.1
    have hkn := (hn i (by omega)).2.1.1
    exact ⟨g1.sm sm (fun e => by rw [e, hk] at hkn; omega), by rw [sm.lp, kI_SI_o (row_no r1 ho)]; exact g2⟩
theorem isDone_ok {ow : Nat → Nat × Nat} {x : Nat} {w : kW} {s p d : Nat} {nd : Nat → Nat} {K : List (Nat × Fo)} {lk : Bool} {st : Nat} {odds : Int} {q : QS} (h : Ss ow x w s p d nd K lk st odds q) {a o : Nat} {i j : Int32} {like : Bool} (ha : kKd w a = 1) (hl : fX1_isLike a i (some o) j w = some (iB like)) :
    ∃ w', fX5_isDone s (some a) i (some o) j w = some (iB (qDn lk st like q).1, w') ∧ Ss ow x w' s p d nd K lk st odds (qDn lk st like q).2 ∧ Sm ow (fun z => x + 61 ≤ z ∧ z < x + 218) w w' ∧ Sm ow (fun z => z = s) w w' ∧ qN (qDn lk st like q).2 = qN q := by
  obtain ⟨h1, h2, h3, hF, b1, b2, b3, b4⟩ := id h
  obtain ⟨⟨f6, f7, f8, f9, f10, f11⟩, ⟨f12, f13⟩, f15, f16, f17, f18⟩ := id hF
  have hk := h1.1.1
  have ho := h1.1.2.1
  have act : ∃ w', (if iI (qA q) < iI st then (kgI w 5 (some s) 10).bind fun v5 => (kpI w 5 (some s) 10 (v5 + (1 : Int32))).bind fun w6 => some ((1 : Int32), w6) else (kpI w 5 (some s) 11 (1 : Int32)).bind fun w7 => some ((0 : Int32), w7)) = some (iB (if qA q < st then (true, qMk (qN q) (qA q + 1) (qO q) (qH q) (qZ q) (qS q) (qU q)) else (false, qMk (qN q) (qA q) true (qH q) (qZ q) (qS q) (qU q)) : Bool × QS).1, w') ∧ Ss ow x w' s p d nd K lk st odds (if qA q < st then (true, qMk (qN q) (qA q + 1) (qO q) (qH q) (qZ q) (qS q) (qU q)) else (false, qMk (qN q) (qA q) true (qH q) (qZ q) (qS q) (qU q)) : Bool × QS).2 ∧ Sm ow (fun z => x + 61 ≤ z ∧ z < x + 218) w w' ∧ Sm ow (fun z => z = s) w w' := by
    by_cases c : qA q < st
    · rw [if_pos c, if_pos (by rw [iI_lt (by omega) (by omega) (by omega) (by omega)]; omega), kgI_e hk, Option.bind_some, f10, iL_1, iI_add, kpI_e hk, Option.bind_some]
      obtain ⟨⟨g1, g2, g3⟩, sm⟩ := Ss.fld (q' := qMk (qN q) (qA q + 1) (qO q) (qH q) (qZ q) (qS q) (qU q)) (j := 10) (v := iI (qA q + 1)) ⟨h1, h2, h3⟩ rfl
      refine ⟨_, rfl, ⟨g1, g2, g3, ⟨⟨?_, ?_, ?_, ?_, ?_, ?_⟩, ⟨?_, fun dd bb hh => ?_⟩, ?_, ?_, ?_, ?_⟩, b1, by show qA q + 1 ≤ st; omega, b3, b4⟩, sm, Sm.si (by rw [ho])⟩
      · rw [kI_SI_j (by omega)]; exact f6
      · rw [kI_SI_j (by omega)]; exact f7
      · rw [kI_SI_j (by omega)]; exact f8
      · rw [kI_SI_j (by omega)]; exact f9
      · rw [kI_SI_s]; rfl
      · rw [kI_SI_j (by omega)]; exact f11
      · rw [kI_SI_j (by omega)]; exact f12
      · rw [kI_SI_j (by omega), kI_SI_j (by omega)]; exact f13 dd bb hh
      · rw [kI_SI_j (by omega)]; exact f15
      · rw [kI_SI_j (by omega)]; exact f16
      · rw [kI_SI_j (by omega)]; exact f17
      · rw [kI_SI_j (by omega)]; exact f18
    · rw [if_neg c, if_neg (by rw [iI_lt (by omega) (by omega) (by omega) (by omega)]; omega), kpI_e hk, Option.bind_some]
      obtain ⟨⟨g1, g2, g3⟩, sm⟩ := Ss.fld (q' := qMk (qN q) (qA q) true (qH q) (qZ q) (qS q) (qU q)) (j := 11) (v := 1) ⟨h1, h2, h3⟩ rfl
      refine ⟨_, rfl, ⟨g1, g2, g3, ⟨⟨?_, ?_, ?_, ?_, ?_, ?_⟩, ⟨?_, fun dd bb hh => ?_⟩, ?_, ?_, ?_, ?_⟩, b1, b2, b3, b4⟩, sm, Sm.si (by rw [ho])⟩
      · rw [kI_SI_j (by omega)]; exact f6
      · rw [kI_SI_j (by omega)]; exact f7
      · rw [kI_SI_j (by omega)]; exact f8
      · rw [kI_SI_j (by omega)]; exact f9
      · rw [kI_SI_j (by omega)]; exact f10
      · rw [kI_SI_s]; rfl
      · rw [kI_SI_j (by omega)]; exact f12
      · rw [kI_SI_j (by omega), kI_SI_j (by omega)]; exact f13 dd bb hh
      · rw [kI_SI_j (by omega)]; exact f15
      · rw [kI_SI_j (by omega)]; exact f16
      · rw [kI_SI_j (by omega)]; exact f17
      · rw [kI_SI_j (by omega)]; exact f18
  have hN : qN (qDn lk st like q).2 = qN q := by
    unfold qDn
    split
    · rfl
    · split <;> rfl
  suffices hh : ∃ w', fX5_isDone s (some a) i (some o) j w = some (iB (qDn lk st like q).1, w') ∧ Ss ow x w' s p d nd K lk st odds (qDn lk st like q).2 ∧ Sm ow (fun z => x + 61 ≤ z ∧ z < x + 218) w w' ∧ Sm ow (fun z => z = s) w w' by
    obtain ⟨w', e1, e2, e3, e4⟩ := hh
    exact ⟨w', e1, e2, e3, e4, hN⟩
  rw [fX5_isDone, kgI_e hk, Option.bind_some, f11]
  unfold qDn
  cases hO : qO q with
  | true =>
    rw [if_neg (show ¬ iB true = 0 by decide +kernel), if_pos (by rfl)]
    exact ⟨w, rfl, h, Sm.rf w, Sm.rf w⟩
  | false =>
    rw [hO] at act
    rw [if_pos (show iB false = 0 from rfl), kgI_e hk, Option.bind_some, f8]
    cases lk with
    | false =>
      rw [if_pos (show iB false = 0 from rfl), if_neg (show ¬ (false || (false && !like)) = true by simp), kgI_e hk, Option.bind_some, f10, kgI_e hk, Option.bind_some, f9]
      rw [kgI_e hk, f10] at act
      exact act
    | true =>
      rw [if_neg (show ¬ iB true = 0 by decide +kernel), kRc_e ha, Option.bind_some, hl, Option.bind_some]
      cases like with
      | false =>
        rw [if_pos (show iB false = 0 from rfl), if_pos (by rfl)]
        exact ⟨w, rfl, h, Sm.rf w, Sm.rf w⟩
      | true =>
        rw [if_neg (show ¬ iB true = 0 by decide +kernel), if_neg (show ¬ (false || (true && !true)) = true by simp), kgI_e hk, Option.bind_some, f10, kgI_e hk, Option.bind_some, f9]
        rw [kgI_e hk, f10] at act
        exact act
