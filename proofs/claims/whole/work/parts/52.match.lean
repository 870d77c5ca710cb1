/-! slips, matches -/
def Vs (x : Nat) : Nat → Prop := fun z => x + 61 ≤ z ∧ z < x + 218
theorem qN_mk (n : List (Fo × Nat)) (a : Nat) (o : Bool) (h : Option (Nat × Nat)) (z : Int32) (s u : Nat) : qN (qMk n a o h z s u) = n := rfl
theorem qSl_2 (odds : Int) (q : QS) : (qSl odds q).2 = qMk (qN q) (qA q) (qO q) (qH q) (zNx (qZ q)) (qS q) (qU q) := rfl
theorem qSl_1 (odds : Int) (q : QS) : (qSl odds q).1 = zSl (zNx (qZ q)) odds := rfl
theorem qSl_N (odds : Int) (q : QS) : qN (qSl odds q).2 = qN q := by rw [qSl_2]; exact qN_mk _ _ _ _ _ _ _
theorem Ss.pq {ow : Nat → Nat × Nat} {x : Nat} {w : kW} {s p d : Nat} {nd : Nat → Nat} {K : List (Nat × Fo)} {lk : Bool} {st : Nat} {odds : Int} {q : QS} (h : Ss ow x w s p d nd K lk st odds q) {w1 : kW} (hs : Sq ow (fun z => z = p) w w1) (hp1 : Pg ow w1 p) : Ss ow x w1 s p d nd K lk st odds q := by
  obtain ⟨h1, h2, h3, hF, hb⟩ := h
  have hkp := h1.2.1.2.1
  have hks := h1.1.1
  have hos := h1.1.2.1
  have bp := h1.2.2.2.2.2
  have ns : s ≠ p := fun e => by rw [e, hkp] at hks; omega
  have eI : kI w1 s = kI w s := (hs.2.2.2 s (by rw [hos]; exact ns)).1
  refine ⟨h1.sq hs hp1, h2.fr h1 hs.fr ns (fun a ha => by omega), h3.fr h1 hs.fr ns (fun j hj => h1.2.1.2.ne (h1.2.2.2.1 j hj).2.1), ?_, hb⟩
  unfold SsF
  rw [eI]
  exact hF
theorem Ss.pV {ow : Nat → Nat × Nat} {x : Nat} {w : kW} {s p d : Nat} {nd : Nat → Nat} {K : List (Nat × Fo)} {lk : Bool} {st : Nat} {odds : Int} {q : QS} (h : Ss ow x w s p d nd K lk st odds q) {w1 : kW} (hs : Sq ow (fun z => z = p) w w1) : Sq ow (Vs x) w w1 := hs.wide (fun z hz => by
  have b := h.1.2.2.2.2.2
  rw [hz]
  exact ⟨b.2.2.1, b.2.2.2⟩)
theorem isSlip_eq (s : Nat) (w : kW) : fX5_isSlip s w = (kgI w 5 (some s) 15).bind fun v1 => (kpI w 5 (some s) 15 (zNx v1)).bind fun w2 => (kgI w2 5 (some s) 15).bind fun v3 => (kgI w2 5 (some s) 16).bind fun v4 => if v4 ≤ zTh v3 then some ((0 : Int32), w2) else some ((1 : Int32), w2) := rfl
theorem Ss.mk {ow : Nat → Nat × Nat} {x : Nat} {w : kW} {s p d : Nat} {nd : Nat → Nat} {K : List (Nat × Fo)} {lk : Bool} {st : Nat} {odds : Int} {n : List (Fo × Nat)} {a : Nat} {o : Bool} {h : Option (Nat × Nat)} {z : Int32} {su u : Nat}
    (h1 : SsS ow x w s p d nd) (h2 : SsK ow x w s K) (h3 : SsN ow w s nd n) (f6 : kI w s 6 = iI n.length) (f7 : kI w s 7 = iI K.length) (f8 : kI w s 8 = iB lk) (f9 : kI w s 9 = iI st) (f10 : kI w s 10 = iI a) (f11 : kI w s 11 = iB o) (f12 : kI w s 12 = iB h.isSome) (f13 : ∀ d b, h = some (d, b) → kI w s 13 = iI d ∧ kI w s 14 = iI b) (f15 : kI w s 15 = z) (f16 : kI w s 16 = iI odds) (f17 : kI w s 17 = iI su) (f18 : kI w s 18 = iI u) (b1 : st ≤ 1000000) (b2 : a ≤ st) (b3 : 0 ≤ odds) (b4 : odds ≤ 100) : Ss ow x w s p d nd K lk st odds (qMk n a o h z su u) :=
  ⟨h1, h2, h3, ⟨⟨f6, f7, f8, f9, f10, f11⟩, ⟨f12, f13⟩, f15, f16, f17, f18⟩, b1, b2, b3, b4⟩
theorem isSlip_ok {ow : Nat → Nat × Nat} {x : Nat} {w : kW} {s p d : Nat} {nd : Nat → Nat} {K : List (Nat × Fo)} {lk : Bool} {st : Nat} {odds : Int} {q : QS} (h : Ss ow x w s p d nd K lk st odds q) : ∃ w', fX5_isSlip s w = some (iB (qSl odds q).1, w') ∧ Ss ow x w' s p d nd K lk st odds (qSl odds q).2 ∧ Sm ow (Vs x) w w' := by
  obtain ⟨h1, h2, h3, hF, b1, b2, b3, b4⟩ := id h
  obtain ⟨⟨f6, f7, f8, f9, f10, f11⟩, ⟨f12, f13⟩, f15, f16, f17, f18⟩ := id hF
  have hk := h1.1.1
  rw [qSl_2, qSl_1]
  obtain ⟨⟨g1, g2, g3⟩, sm⟩ := Ss.fld (q' := q) (j := 15) (v := zNx (qZ q)) ⟨h1, h2, h3⟩ rfl
  refine ⟨kSI w s 15 (zNx (qZ q)), ?_, Ss.mk g1 g2 g3 ?_ ?_ ?_ ?_ ?_ ?_ ?_ (fun d9 bb hh => ?_) kI_SI_s ?_ ?_ ?_ b1 b2 b3 b4, sm⟩
  · rw [isSlip_eq, kgI_e hk, Option.bind_some, f15, kpI_e hk, Option.bind_some, kgI_e (show kKd (kSI w s 15 (zNx (qZ q))) s = 5 from hk), Option.bind_some, kI_SI_s, kgI_e (show kKd (kSI w s 15 (zNx (qZ q))) s = 5 from hk), Option.bind_some, kI_SI_j (by omega), f16]
    by_cases hz : iI odds ≤ zTh (zNx (qZ q))
    · rw [if_pos hz, zSl_t hz, iB_f]
    · rw [if_neg hz, zSl_f hz, iB_t]
  · rw [kI_SI_j (by omega)]; exact f6
  · rw [kI_SI_j (by omega)]; exact f7
  · rw [kI_SI_j (by omega)]; exact f8
  · rw [kI_SI_j (by omega)]; exact f9
  · rw [kI_SI_j (by omega)]; exact f10
  · rw [kI_SI_j (by omega)]; exact f11
  · rw [kI_SI_j (by omega)]; exact f12
  · rw [kI_SI_j (by omega), kI_SI_j (by omega)]; exact f13 d9 bb hh
  · rw [kI_SI_j (by omega)]; exact f16
  · rw [kI_SI_j (by omega)]; exact f17
  · rw [kI_SI_j (by omega)]; exact f18
theorem like_in {ow : Nat → Nat × Nat} {w : kW} {a o ca co : Nat} {F G b b' : Fo} {X Y X' Y' : List Nat} (hF : Lf ow w a ca F) (hG : Lf ow w o co G) (e : fPre F = X ++ (fPre b ++ Y)) (hb : fOk b) (e' : fPre G = X' ++ (fPre b' ++ Y')) (hb' : fOk b') : fX1_isLike a (iI X.length) (some o) (iI X'.length) w = some (iB (fLike b b')) :=
  isLike_ok hF.2.1 hF.2.2 hG.2.1 hG.2.2 e hb e' hb'
theorem makes_in {ow : Nat → Nat × Nat} {w : kW} {p a o ca co : Nat} {F G A B : Fo} {X Y X' Y' : List Nat} (hp : Pg ow w p) (hF : Lf ow w a ca F) (hG : Lf ow w o co G) (e : fPre F = X ++ (fPre A ++ Y)) (hA : fOk A) (e' : fPre G = X' ++ (fPre B ++ Y')) (hB : fOk B) :
    ∃ w', fX4_makes p (some a) (iI X.length) (some o) (iI X'.length) w = some (iB (fMt A B σ0).isSome, w') ∧ Sq ow (fun q => q = p) w w' ∧ Pg ow w' p ∧ kP w' p 1 = some o ∧ ∀ σ, fMt A B σ0 = some σ → Pu w' p (fPre G) σ :=
  makes_ok hp hF.2.1 hF.2.2 hG.2.1 hG.2.2 hF.lt hG.lt e hA e' hB
/-- the need n and the known line k, where they lie -/
theorem Ss.need {ow : Nat → Nat × Nat} {x : Nat} {w : kW} {s p d : Nat} {nd : Nat → Nat} {K : List (Nat × Fo)} {lk : Bool} {st : Nat} {odds : Int} {q : QS} (h : Ss ow x w s p d nd K lk st odds q) {n dd : Nat} {F : Fo} (hn : (qN q)[n]? = some (F, dd)) : kP w (Lp w s 0) n = some (nd n) ∧ Lf ow w (nd n) (if n = 0 then 60 else 20) F ∧ kI w (Lp w s 1) n = iI dd ∧ n < 24 ∧ x + 61 ≤ nd n ∧ nd n < x + 218 ∧ nd n ≠ d := by
  have hl := (List.getElem?_eq_some_iff.mp hn).1
  have h24 := h.2.2.1.1
  obtain ⟨g1, g2⟩ := h.2.2.1.2 n dd F hn
  obtain ⟨y1, y2, y3, y4, y5⟩ := h.1.2.2.2.1 n (by omega)
  exact ⟨y1, g1, g2, by omega, y3, y4, y5⟩
theorem Ss.know {ow : Nat → Nat × Nat} {x : Nat} {w : kW} {s p d : Nat} {nd : Nat → Nat} {K : List (Nat × Fo)} {lk : Bool} {st : Nat} {odds : Int} {q : QS} (h : Ss ow x w s p d nd K lk st odds q) {k num : Nat} {G : Fo} (hk : K[k]? = some (num, G)) : ∃ a, kP w (Lp w s 2) k = some a ∧ Li ow x w a G ∧ kI w (Lp w s 3) k = iI num ∧ k < 40 := by
  have hl := (List.getElem?_eq_some_iff.mp hk).1
  have h40 := h.2.1.1
  obtain ⟨a, g1, g2, g3⟩ := h.2.1.2 k num G hk
  exact ⟨a, g1, g2, g3, by omega⟩
theorem match_rest {ow : Nat → Nat × Nat} {x : Nat} {w15 : kW} {s p d : Nat} {nd : Nat → Nat} {K : List (Nat × Fo)} {lk : Bool} {st : Nat} {odds : Int} {Q : QS} (h15 : Ss ow x w15 s p d nd K lk st odds Q) {n dd k num : Nat} {F G : Fo} (hn : (qN Q)[n]? = some (F, dd)) (hK : K[k]? = some (num, G)) (v2 v4 : Option Nat) (cm sl : Bool) :
    ∃ w', (if iB cm = iB sl then fX5_tryMatch_J56 s (iI n) (iI k) v2 v4 (iB cm) (0 : Int32) w15 else fX5_tryMatch_J56 s (iI n) (iI k) v2 v4 (iB cm) (1 : Int32) w15) = some w' ∧ Ss ow x w' s p d nd K lk st odds (qM2 cm sl dd num Q) ∧ Sq ow (Vs x) w15 w' := by
  have nn := h15.need hn
  have n24 := nn.2.2.2.1
  obtain ⟨a', pk', -, hnum', k40⟩ := h15.know hK
  obtain ⟨i1, i2, i3, hF15, c1, c2, c3, c4⟩ := id h15
  obtain ⟨⟨f6, f7, f8, f9, f10, f11⟩, ⟨f12, f13⟩, f15, f16, f17, f18⟩ := id hF15
  obtain ⟨⟨hk15, ho15, -, u1, u2, u3⟩, -⟩ := id i1
  have bs := i1.2.2.2.2.2
  have uns : ∃ w', (kgI w15 5 (some s) 18).bind (fun v1 => (kpI w15 5 (some s) 18 (v1 + (1 : Int32))).bind fun w2 => some w2) = some w' ∧ Ss ow x w' s p d nd K lk st odds (qMk (qN Q) (qA Q) (qO Q) (qH Q) (qZ Q) (qS Q) (qU Q + 1)) ∧ Sq ow (Vs x) w15 w' := by
    obtain ⟨⟨g1, g2, g3⟩, sm⟩ := Ss.fld (q' := qMk (qN Q) (qA Q) (qO Q) (qH Q) (qZ Q) (qS Q) (qU Q + 1)) (j := 18) (v := iI (qU Q + 1)) ⟨i1, i2, i3⟩ rfl
    refine ⟨kSI w15 s 18 (iI (qU Q + 1)), by rw [kgI_e hk15, Option.bind_some, f18, iL_1, iI_add, kpI_e hk15, Option.bind_some], ⟨g1, g2, g3, ⟨⟨?_, ?_, ?_, ?_, ?_, ?_⟩, ⟨?_, fun d9 bb hh => ?_⟩, ?_, ?_, ?_, ?_⟩, c1, c2, c3, c4⟩, sm.q⟩
    · rw [kI_SI_j (by omega)]; exact f6
    · rw [kI_SI_j (by omega)]; exact f7
    · rw [kI_SI_j (by omega)]; exact f8
    · rw [kI_SI_j (by omega)]; exact f9
    · rw [kI_SI_j (by omega)]; exact f10
    · rw [kI_SI_j (by omega)]; exact f11
    · rw [kI_SI_j (by omega)]; exact f12
    · rw [kI_SI_j (by omega), kI_SI_j (by omega)]; exact f13 d9 bb hh
    · rw [kI_SI_j (by omega)]; exact f15
    · rw [kI_SI_j (by omega)]; exact f16
    · rw [kI_SI_j (by omega)]; exact f17
    · rw [kI_SI_s]; rfl
  have sen : ∃ w', (kgI w15 5 (some s) 17).bind (fun v1 => (kpI w15 5 (some s) 17 (v1 + (1 : Int32))).bind fun w2 => some w2) = some w' ∧ Ss ow x w' s p d nd K lk st odds (qMk (qN Q) (qA Q) (qO Q) (qH Q) (qZ Q) (qS Q + 1) (qU Q)) ∧ Sq ow (Vs x) w15 w' := by
    obtain ⟨⟨g1, g2, g3⟩, sm⟩ := Ss.fld (q' := qMk (qN Q) (qA Q) (qO Q) (qH Q) (qZ Q) (qS Q + 1) (qU Q)) (j := 17) (v := iI (qS Q + 1)) ⟨i1, i2, i3⟩ rfl
    refine ⟨kSI w15 s 17 (iI (qS Q + 1)), by rw [kgI_e hk15, Option.bind_some, f17, iL_1, iI_add, kpI_e hk15, Option.bind_some], ⟨g1, g2, g3, ⟨⟨?_, ?_, ?_, ?_, ?_, ?_⟩, ⟨?_, fun d9 bb hh => ?_⟩, ?_, ?_, ?_, ?_⟩, c1, c2, c3, c4⟩, sm.q⟩
    · rw [kI_SI_j (by omega)]; exact f6
    · rw [kI_SI_j (by omega)]; exact f7
    · rw [kI_SI_j (by omega)]; exact f8
    · rw [kI_SI_j (by omega)]; exact f9
    · rw [kI_SI_j (by omega)]; exact f10
    · rw [kI_SI_j (by omega)]; exact f11
    · rw [kI_SI_j (by omega)]; exact f12
    · rw [kI_SI_j (by omega), kI_SI_j (by omega)]; exact f13 d9 bb hh
    · rw [kI_SI_j (by omega)]; exact f15
    · rw [kI_SI_j (by omega)]; exact f16
    · rw [kI_SI_s]; rfl
    · rw [kI_SI_j (by omega)]; exact f18
  have sho : ∃ w', fX5_tryMatch_J56 s (iI n) (iI k) v2 v4 (iB true) (1 : Int32) w15 = some w' ∧ Ss ow x w' s p d nd K lk st odds (qMk (qN Q) (qA Q) true (some (dd, num)) (qZ Q) (qS Q) (qU Q)) ∧ Sq ow (Vs x) w15 w' := by
    obtain ⟨⟨g1, g2, g3⟩, m1⟩ := Ss.fld (q' := qMk (qN Q) (qA Q) true (some (dd, num)) (qZ Q) (qS Q) (qU Q)) (j := 11) (v := 1) ⟨i1, i2, i3⟩ rfl
    obtain ⟨⟨g4, g5, g6⟩, m2⟩ := Ss.fld (q' := qMk (qN Q) (qA Q) true (some (dd, num)) (qZ Q) (qS Q) (qU Q)) (j := 12) (v := 1) ⟨g1, g2, g3⟩ rfl
    obtain ⟨⟨g7, g8, g9⟩, m3⟩ := Ss.fld (q' := qMk (qN Q) (qA Q) true (some (dd, num)) (qZ Q) (qS Q) (qU Q)) (j := 13) (v := iI dd) ⟨g4, g5, g6⟩ rfl
    obtain ⟨⟨g10, g11, g12⟩, m4⟩ := Ss.fld (q' := qMk (qN Q) (qA Q) true (some (dd, num)) (qZ Q) (qS Q) (qU Q)) (j := 14) (v := iI num) ⟨g7, g8, g9⟩ rfl
    have y1 : kI (kSI (kSI w15 s 11 1) s 12 1) (Lp w15 s 1) n = iI dd := by rw [kI_SI_o (row_no u1 ho15), kI_SI_o (row_no u1 ho15)]; exact nn.2.2.1
    have y2 : kI (kSI (kSI (kSI w15 s 11 1) s 12 1) s 13 (iI dd)) (Lp w15 s 3) k = iI num := by rw [kI_SI_o (row_no u3 ho15), kI_SI_o (row_no u3 ho15), kI_SI_o (row_no u3 ho15)]; exact hnum'
    refine ⟨kSI (kSI (kSI (kSI w15 s 11 1) s 12 1) s 13 (iI dd)) s 14 (iI num), ?_, ⟨g10, g11, g12, ⟨⟨?_, ?_, ?_, ?_, ?_, ?_⟩, ⟨?_, fun d9 bb hh => ?_⟩, ?_, ?_, ?_, ?_⟩, c1, c2, c3, c4⟩, (((m1.tr m2).tr m3).tr m4).q⟩
    · rw [fX5_tryMatch_J56, if_neg (show ¬ iB true = 0 by decide +kernel), if_neg (by decide +kernel), kpI_e hk15, Option.bind_some, kpI_e (show kKd (kSI w15 s 11 1) s = 5 from hk15), Option.bind_some, kgP_e (show kKd (kSI (kSI w15 s 11 1) s 12 1) s = 5 from hk15), Option.bind_some, show kP (kSI (kSI w15 s 11 1) s 12 1) s 1 = some (Lp w15 s 1) from u1.1, kaI_e (show kKd (kSI (kSI w15 s 11 1) s 12 1) (Lp w15 s 1) = 14 from u1.2.1) (by omega) (by show (n : Int) < (kLn w15 (Lp w15 s 1) : Int); rw [u1.2.2.1]; omega) (by show kLn w15 (Lp w15 s 1) < _; rw [u1.2.2.1]; omega), Option.bind_some, Int.toNat_natCast, y1, kpI_e (show kKd (kSI (kSI w15 s 11 1) s 12 1) s = 5 from hk15), Option.bind_some, kgP_e (show kKd (kSI (kSI (kSI w15 s 11 1) s 12 1) s 13 (iI dd)) s = 5 from hk15), Option.bind_some, show kP (kSI (kSI (kSI w15 s 11 1) s 12 1) s 13 (iI dd)) s 3 = some (Lp w15 s 3) from u3.1, kaI_e (show kKd (kSI (kSI (kSI w15 s 11 1) s 12 1) s 13 (iI dd)) (Lp w15 s 3) = 14 from u3.2.1) (by omega) (by show (k : Int) < (kLn w15 (Lp w15 s 3) : Int); rw [u3.2.2.1]; omega) (by show kLn w15 (Lp w15 s 3) < _; rw [u3.2.2.1]; omega), Option.bind_some, Int.toNat_natCast, y2, kpI_e (show kKd (kSI (kSI (kSI w15 s 11 1) s 12 1) s 13 (iI dd)) s = 5 from hk15), Option.bind_some]
    · rw [kI_SI_j (by omega), kI_SI_j (by omega), kI_SI_j (by omega), kI_SI_j (by omega)]; exact f6
    · rw [kI_SI_j (by omega), kI_SI_j (by omega), kI_SI_j (by omega), kI_SI_j (by omega)]; exact f7
    · rw [kI_SI_j (by omega), kI_SI_j (by omega), kI_SI_j (by omega), kI_SI_j (by omega)]; exact f8
    · rw [kI_SI_j (by omega), kI_SI_j (by omega), kI_SI_j (by omega), kI_SI_j (by omega)]; exact f9
    · rw [kI_SI_j (by omega), kI_SI_j (by omega), kI_SI_j (by omega), kI_SI_j (by omega)]; exact f10
    · rw [kI_SI_j (by omega), kI_SI_j (by omega), kI_SI_j (by omega), kI_SI_s]; rfl
    · rw [kI_SI_j (by omega), kI_SI_j (by omega), kI_SI_s]; rfl
    · have hh' : some (dd, num) = some (d9, bb) := hh
      cases hh'
      rw [kI_SI_j (by omega), kI_SI_s, kI_SI_s]
      exact ⟨rfl, rfl⟩
    · rw [kI_SI_j (by omega), kI_SI_j (by omega), kI_SI_j (by omega), kI_SI_j (by omega)]; exact f15
    · rw [kI_SI_j (by omega), kI_SI_j (by omega), kI_SI_j (by omega), kI_SI_j (by omega)]; exact f16
    · rw [kI_SI_j (by omega), kI_SI_j (by omega), kI_SI_j (by omega), kI_SI_j (by omega)]; exact f17
    · rw [kI_SI_j (by omega), kI_SI_j (by omega), kI_SI_j (by omega), kI_SI_j (by omega)]; exact f18
  unfold qM2
  cases cm with
  | true =>
    cases sl with
    | true =>
      rw [if_pos rfl, if_pos rfl, if_pos rfl, fX5_tryMatch_J56, if_neg (show ¬ iB true = 0 by decide +kernel), if_pos rfl, fX5_tryMatch_J101, if_pos rfl, if_neg (show ¬ iB true = 0 by decide +kernel)]
      exact uns
    | false =>
      rw [if_neg (by decide +kernel), if_pos rfl, if_neg (by simp)]
      exact sho
  | false =>
    cases sl with
    | true =>
      rw [if_neg (by decide +kernel), if_neg (by simp), if_pos rfl, fX5_tryMatch_J56, if_pos (show iB false = 0 from rfl), fX5_tryMatch_J101, if_neg (by decide +kernel)]
      exact sen
    | false =>
      rw [if_pos rfl, if_neg (by simp), if_neg (by simp), fX5_tryMatch_J56, if_pos (show iB false = 0 from rfl), fX5_tryMatch_J101, if_pos rfl, if_pos (show iB false = 0 from rfl)]
      exact ⟨w15, rfl, h15, Sq.rf w15⟩
theorem tryMatch_ok {ow : Nat → Nat × Nat} {x : Nat} {w : kW} {s p d : Nat} {nd : Nat → Nat} {K : List (Nat × Fo)} {lk : Bool} {st : Nat} {odds : Int} {q : QS} (h : Ss ow x w s p d nd K lk st odds q) {n dd k num : Nat} {F G : Fo} (hn : (qN q)[n]? = some (F, dd)) (hK : K[k]? = some (num, G)) :
    ∃ w', fX5_tryMatch s (iI n) (iI k) w = some w' ∧ Ss ow x w' s p d nd K lk st odds (qMa lk st odds F dd num G q) ∧ Sq ow (Vs x) w w' := by
  have e0 : (0 : Int32) = iI (([] : List Nat).length : Int) := by decide +kernel
  obtain ⟨pn, hF, hd, n24, -⟩ := h.need hn
  obtain ⟨a, pk, hG, hnum, k40⟩ := h.know hK
  obtain ⟨⟨hk, ho, r0, r1, r2, r3⟩, ⟨p4, hpg⟩, -⟩ := h.1
  have hlike := like_in hF hG.1 (all_1 F) hF.1 (all_1 G) hG.1.1
  rw [← e0] at hlike
  obtain ⟨w6, e6, h6, sm6, sm6s, hN6⟩ := isDone_ok h hF.2.1.1.1 hlike
  have top : fX5_tryMatch s (iI n) (iI k) w = if iB (qDn lk st (fLike F G) q).1 = 0 then some w6 else (kgP w6 5 (some s) 4).bind fun v9 => (kRc w6 4 v9).bind fun b10 => kb2 (fX4_makes b10 (some a) (0 : Int32) (some (nd n)) (0 : Int32) w6) fun v13 w11 => (kRc w11 5 (some s)).bind fun b14 => kb2 (fX5_isSlip b14 w11) fun v17 w15 => if v13 = v17 then fX5_tryMatch_J56 s (iI n) (iI k) (some (nd n)) (some a) v13 (0 : Int32) w15 else fX5_tryMatch_J56 s (iI n) (iI k) (some (nd n)) (some a) v13 (1 : Int32) w15 := by
    rw [fX5_tryMatch, kgP_e hk, Option.bind_some, r0.1, kaP_e r0.2.1 (by omega) (by rw [r0.2.2.1]; omega) (by rw [r0.2.2.1]; omega), Option.bind_some, Int.toNat_natCast, pn, kgP_e hk, Option.bind_some, r2.1, kaP_e r2.2.1 (by omega) (by rw [r2.2.2.1]; omega) (by rw [r2.2.2.1]; omega), Option.bind_some, Int.toNat_natCast, pk, kRc_e hk, Option.bind_some, e6, kb2_s]
  rw [top]
  unfold qMa
  dsimp only
  cases hdn : (qDn lk st (fLike F G) q).1 with
  | false =>
    rw [if_pos (show iB false = 0 from rfl)]
    exact ⟨w6, rfl, h6, sm6.q⟩
  | true =>
    rw [if_neg (show ¬ iB true = 0 by decide +kernel)]
    simp only [if_true]
    obtain ⟨⟨hk6, ho6, -, t1, t2, t3⟩, ⟨p46, hpg6⟩, -⟩ := h6.1
    have hF6 := (h6.need (by rw [hN6]; exact hn)).2.1
    have hG6 := hG.sm sm6 (by have := hG.2.2.2; omega)
    obtain ⟨w11, e11, s11, g11, -, -⟩ := makes_in hpg6 hG6.1 hF6 (all_1 G) hG.1.1 (all_1 F) hF.1
    rw [← e0] at e11
    have h11 := h6.pq s11 g11
    obtain ⟨w15, e15, h15, sm15⟩ := isSlip_ok h11
    have S15 : Sq ow (Vs x) w w15 := (sm6.q.tr (h6.pV s11)).tr sm15.q
    rw [kgP_e hk6, Option.bind_some, p46, kRc_e hpg6.1, Option.bind_some, e11, kb2_s, kRc_e h11.1.1.1, Option.bind_some, e15, kb2_s]
    have hN15 : qN (qSl odds (qDn lk st (fLike F G) q).2).2 = qN q := (qSl_N _ _).trans hN6
    obtain ⟨w', e', h', S'⟩ := match_rest h15 (by rw [hN15]; exact hn) hK (some (nd n)) (some a) (fMt G F σ0).isSome (qSl odds (qDn lk st (fLike F G) q).2).1
    exact ⟨w', e', h', S15.tr S'⟩
