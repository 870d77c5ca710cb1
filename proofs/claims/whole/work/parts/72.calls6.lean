/-! .. the image, counts, shelves -/
def aImage (S : AS) : Int × AS := ((tL (sT S)).length, (sT S, some (sT S), sH S))
theorem kc_image {ow : Nat → Nat × Nat} {x : Nat} {w : kW} {S : AS} (h : Kc ow x w S) : Kd ow x w (fX11_image x w) (aImage S).1 (aImage S).2 := by
  have hk := h.2.1.1.1
  have hR := h.2.2.2.1.1
  obtain ⟨w4, e4, T4, S4⟩ := copyOf_ok hR h.2.2.1 (by omega) (by omega) (by omega)
  have q4 : Sq ow (Vr x 9 10) w w4 := S4.wide (fun z hz => by rw [hz]; exact ⟨Nat.le_refl _, by omega⟩)
  obtain ⟨o0, o1, o2, o3, o4, o5, o6, o7, o8, o9, o10⟩ := h.ok q4.fr (by omega)
  have k0 := o0 (by omega)
  obtain ⟨⟨hk4, ho, hb⟩, hp, ⟨r3, hsh⟩, r11⟩ := id k0
  have m6 : Sm ow (fun z => z = x) w4 (kSI w4 x 2 1) := Sm.si (by rw [ho])
  have F6 := m6.fr
  have hsz := h.sz q4
  have kt := o1 (by omega)
  refine ⟨kSI w4 x 2 1, ow, ?_, ⟨⟨hsz.1.sq m6.q, hsz.2.1.sq m6.q, hsz.2.2⟩, ⟨⟨hk4, ho, kI_SI_s⟩, hp, ⟨r3.sm m6, hsh⟩, r11.sm m6⟩, kt.fr F6 (by omega) (fun a ha => by omega), ⟨T4.2.1.fr F6 (by omega) (fun a ha => by omega), fun T e => ?_⟩, (o3 (by omega)).fr F6 (fun d hd => by omega) (fun a ha => by omega), (o4 (by omega)).fr F6 (by omega) (by omega), (o5 (by omega)).fr F6 (by omega), (o6 (by omega)).fr F6 (by omega), (o7 (by omega)).fr F6 (by omega) (by omega) (by omega) (by omega) (by omega), (o8 (by omega)).fr F6 (by omega) (by omega), (o9 (by omega)).fr F6 (fun q z1 z2 => by omega), (o10 (by omega)).fr F6 (by omega)⟩, (q4.fr.cx (by omega) (by omega)).cc (F6.wide (fun z hz => by rw [hz]; exact ⟨⟨Nat.le_refl _, by omega⟩, by omega⟩))⟩
  · rw [fX11_image, kgP_e hk, Option.bind_some, h.2.1.2.1.2.1, kgP_e hk, Option.bind_some, h.2.1.2.1.1, kRc_e hR.1, Option.bind_some, e4, Option.bind_some, kpI_e hk4, Option.bind_some, kgP_e (show kKd (kSI w4 x 2 1) x = 11 from hk4), Option.bind_some, show kP (kSI w4 x 2 1) x 0 = some (x + 1) from hp.1, kgI_e (show kKd (kSI w4 x 2 1) (x + 1) = 8 from kt.2.1.1), Option.bind_some, kI_SI_o (by omega), kt.2.2.1.1]
    rfl
  · have e' : some (sT S) = some T := e
    cases e'
    exact T4.fr F6 (by omega) (fun a ha => by omega)
def aRestore (S : AS) : Int × AS := match sI S with
  | none => (-3, S)
  | some T => ((tL T).length, (T, some T, sH S))
theorem kc_restore {ow : Nat → Nat × Nat} {x : Nat} {w : kW} {S : AS} (h : Kc ow x w S) : Kd ow x w (fX11_restore x w) (aRestore S).1 (aRestore S).2 := by
  have hk := h.2.1.1.1
  have hb := h.2.1.1.2.2
  unfold aRestore
  rw [fX11_restore, kgI_e hk, Option.bind_some, hb]
  cases hI : sI S with
  | none =>
    rw [if_pos (show iB (none : Option TbS).isSome = 0 from rfl)]
    exact Kd.rf h (by rw [iN_3])
  | some T =>
    obtain ⟨w4, e4, T4, S4⟩ := copyOf_ok h.2.2.1.2.1 (h.2.2.2.1.2 T hI) (by omega) (by omega) (by omega)
    obtain ⟨k3, f3⟩ := h.tb S4 T4
    rw [hI] at k3
    rw [if_neg (show ¬ iB (some T).isSome = 0 by show ¬ iB true = 0; decide +kernel), kgP_e hk, Option.bind_some, h.2.1.2.1.1, kgP_e hk, Option.bind_some, h.2.1.2.1.2.1, kRc_e h.2.2.1.2.1.1, Option.bind_some, e4, Option.bind_some, kgP_e k3.2.1.1.1, Option.bind_some, k3.2.1.2.1.1, kgI_e k3.2.2.1.2.1.1, Option.bind_some, k3.2.2.1.2.2.1.1]
    exact ⟨w4, ow, rfl, k3, f3⟩
def aCount (S : AS) (q : Int) : Int := if q = 0 then (tL (sT S)).length else if q = 1 then nS (gH (sT S) 1) 0 (tL (sT S)).length else if q = 2 then nS (gH (sT S) 2) 0 (tL (sT S)).length else if q = 3 then (tP (sT S)).length else if q = 4 then nS (gS (sT S)) 0 (tL (sT S)).length else if q = 5 then nS (gT (sT S)) 0 (tL (sT S)).length else -1
theorem kc_count {ow : Nat → Nat × Nat} {x : Nat} {w : kW} {S : AS} (h : Kc ow x w S) {q : Int} (hq : I32 q) : fX11_count x (iI q) w = some (iI (aCount S q)) := by
  obtain ⟨q0, q1⟩ := hq
  have hk := h.2.1.1.1
  have hT := h.2.2.1
  have hp := h.2.1.2.1.1
  unfold aCount
  rw [fX11_count]
  by_cases c0 : q = 0
  · subst c0
    rw [if_pos (show iI 0 = (0 : Int32) from rfl), if_pos rfl, kgP_e hk, Option.bind_some, hp, kgI_e hT.2.1.1, Option.bind_some, hT.2.2.1.1]
  rw [if_neg (show ¬ iI q = (0 : Int32) by rw [iL_0, iI_eq (by omega) (by omega) (by omega) (by omega)]; exact c0), if_neg c0]
  by_cases c1 : q = 1
  · subst c1
    rw [if_pos (show iI 1 = (1 : Int32) from rfl), if_pos rfl, top_t h]
    have := countOf_ok hT (s := 1) (by omega)
    rw [show (1 : Int32) = iI ((1 : Nat) : Int) from rfl, this, Option.bind_some]
  rw [if_neg (show ¬ iI q = (1 : Int32) by rw [iL_1, iI_eq (by omega) (by omega) (by omega) (by omega)]; exact c1), if_neg c1]
  by_cases c2 : q = 2
  · subst c2
    rw [if_pos (show iI 2 = (2 : Int32) from rfl), if_pos rfl, top_t h]
    have := countOf_ok hT (s := 2) (by omega)
    rw [show (2 : Int32) = iI ((2 : Nat) : Int) from rfl, this, Option.bind_some]
  rw [if_neg (show ¬ iI q = (2 : Int32) by rw [iL_2, iI_eq (by omega) (by omega) (by omega) (by omega)]; exact c2), if_neg c2]
  by_cases c3 : q = 3
  · subst c3
    rw [if_pos (show iI 3 = (3 : Int32) from rfl), if_pos rfl, kgP_e hk, Option.bind_some, hp, kgI_e hT.2.1.1, Option.bind_some, hT.2.2.1.2.2]
  rw [if_neg (show ¬ iI q = (3 : Int32) by rw [iL_3, iI_eq (by omega) (by omega) (by omega) (by omega)]; exact c3), if_neg c3]
  by_cases c4 : q = 4
  · subst c4
    rw [if_pos (show iI 4 = (4 : Int32) from rfl), if_pos rfl, top_t h, allSizes_ok hT, Option.bind_some]
  rw [if_neg (show ¬ iI q = (4 : Int32) by rw [iL_4, iI_eq (by omega) (by omega) (by omega) (by omega)]; exact c4), if_neg c4]
  by_cases c5 : q = 5
  · subst c5
    rw [if_pos (show iI 5 = (5 : Int32) from rfl), if_pos rfl, top_t h, trueLines_ok hT, Option.bind_some]
  rw [if_neg (show ¬ iI q = (5 : Int32) by rw [iL_5, iI_eq (by omega) (by omega) (by omega) (by omega)]; exact c5), if_neg c5, iN_1]
/-! shelves -/
def aSh (S : AS) (d : Nat) (s : Sh) : AS := (sT S, sI S, fu (sH S) d s)
theorem Kc.shf {ow ow' : Nat → Nat × Nat} {x d : Nat} {w w' : kW} {S : AS} {s : Sh} (h : Kc ow x w S) (hd : d < 8) (hs : Fr ow ow' (Vr x (221 + 2 * d) (222 + 2 * d)) w w') (hb : WF w' ∧ WO ow' w' ∧ x + 256 ≤ kSz w') (r : ShO ow' x w' (x + 221 + 2 * d) s) : Kc ow' x w' (aSh S d s) ∧ Fr ow ow' (Cx x) w w' := by
  obtain ⟨o0, o1, o2, -, o4, o5, o6, o7, o8, o9, o10⟩ := h.ok hs (by omega)
  refine ⟨⟨hb, o0 (by omega), o1 (by omega), o2 (by omega), fun e he => ?_, o4 (by omega), o5 (by omega), o6 (by omega), o7 (by omega), o8 (by omega), o9 (by omega), o10 (by omega)⟩, hs.cx (by omega) (by omega)⟩
  show ShO ow' x w' (x + 221 + 2 * e) (fu (sH S) d s e)
  by_cases c : e = d
  · rw [c, fu_s]; exact r
  · rw [fu_o _ _ c]
    exact (h.2.2.2.2.1 e he).fr hs (fun z => by have := z.1; have := z.2; omega) (fun a ha z => by have := z.2; omega)
theorem ShB.own {ow : Nat → Nat × Nat} {w w' : kW} {sa : Nat} (h : ShB ow w sa) (hs : Sq ow (fun z => z = sa) w w') (hp : kP w' sa 0 = kP w sa 0) : ShB ow w' sa := by
  obtain ⟨hk, ho, h0⟩ := h
  refine ⟨by rw [hs.1]; exact hk, ho, ?_⟩
  unfold LnA at h0 ⊢
  have hl : Lp w' sa 0 = Lp w sa 0 := by unfold Lp; rw [hp]
  rw [hl, hp, hs.1, hs.2.1]
  exact h0
theorem Sq.vr {ow : Nat → Nat × Nat} {x d : Nat} {w w' : kW} (hs : Sq ow (fun z => z = x + 221 + 2 * d) w w') : Sq ow (Vr x (221 + 2 * d) (222 + 2 * d)) w w' := hs.wide (fun z hz => by rw [hz]; exact ⟨by omega, by omega⟩)
theorem holdNothing_ok {ow : Nat → Nat × Nat} {x : Nat} {w : kW} {sa : Nat} (h : ShB ow w sa) : ∃ w', fX6_holdNothing sa w = some w' ∧ ShO ow x w' sa none ∧ Sq ow (fun z => z = sa) w w' ∧ kI w' sa 1 = iI (-1) ∧ kKd w' sa = 6 := by
  obtain ⟨hk, ho, h0⟩ := id h
  have s1 : Sq ow (fun z => z = sa) w (kSI (kSI (kSP w sa 3 none) sa 1 (-1)) sa 2 0) := ((Sq.sp (by rw [ho])).tr (Sq.si (by rw [ho]))).tr (Sq.si (by rw [ho]))
  have i1 : kI (kSI (kSI (kSP w sa 3 none) sa 1 (-1)) sa 2 0) sa 1 = iI (-1) := by rw [kI_SI_j (by omega), kI_SI_s, iN_1]
  refine ⟨_, ?_, ⟨h.own s1 (by show kP (kSP w sa 3 none) sa 0 = _; rw [kP_SP_j (by omega)]), i1, ?_⟩, s1, i1, hk⟩
  · rw [fX6_holdNothing, kpP_e hk, Option.bind_some, kpI_e (show kKd (kSP w sa 3 none) sa = 6 from hk), Option.bind_some, kpI_e (show kKd (kSI (kSP w sa 3 none) sa 1 (-1)) sa = 6 from hk), Option.bind_some]
  · show kP (kSP w sa 3 none) sa 3 = none
    rw [kP_SP_s]
def aKeep (S : AS) (d q k l : Int) : Int × AS := match shAt S d with
  | none => (-1, S)
  | some _ => if q = 0 then (0, aSh S d.toNat none) else if q = 1 then (match tLn (sT S) l with
    | none => (-1, S)
    | some F => if 0 ≤ k ∧ k ≤ 6 then (0, aSh S d.toNat (some (.inl (k.toNat, l.toNat, F)))) else (-1, S)) else (-1, S)
theorem kc_keep {ow : Nat → Nat × Nat} {x : Nat} {w : kW} {S : AS} (h : Kc ow x w S) {d q k l : Int} (hd : I32 d) (hq : I32 q) (hk' : I32 k) (hl : I32 l) : Kd ow x w (fX11_keep x (iI d) (iI q) (iI k) (iI l) w) (aKeep S d q k l).1 (aKeep S d q k l).2 := by
  have hk : kKd w x = 11 := h.2.1.1.1
  obtain ⟨s1, s2⟩ := shelfAt_ok h hd
  obtain ⟨q0, q1⟩ := hq
  obtain ⟨k0, k1⟩ := hk'
  unfold aKeep
  rw [fX11_keep, kRc_e hk, Option.bind_some]
  cases hs : shAt S d with
  | none => exact Kd.rf h (by rw [s1 hs, Option.bind_some, if_pos rfl, iN_1])
  | some s =>
    obtain ⟨e1, o1, d8, -⟩ := s2 s hs
    rw [e1, Option.bind_some, if_neg (by simp)]
    show Kd ow x w _ (if q = 0 then ((0 : Int), aSh S d.toNat none) else if q = 1 then (match tLn (sT S) l with | none => (-1, S) | some F => if 0 ≤ k ∧ k ≤ 6 then (0, aSh S d.toNat (some (.inl (k.toNat, l.toNat, F)))) else (-1, S)) else (-1, S)).1 (if q = 0 then ((0 : Int), aSh S d.toNat none) else if q = 1 then (match tLn (sT S) l with | none => (-1, S) | some F => if 0 ≤ k ∧ k ≤ 6 then (0, aSh S d.toNat (some (.inl (k.toNat, l.toNat, F)))) else (-1, S)) else (-1, S)).2
    by_cases c0 : q < 0
    · rw [if_pos (by rw [iL_0, iI_lt (by omega) (by omega) (by omega) (by omega)]; exact c0), if_neg (by omega), if_neg (by omega)]
      exact Kd.rf h (by rw [iN_1])
    rw [if_neg (by rw [iL_0, iI_lt (by omega) (by omega) (by omega) (by omega)]; exact c0)]
    by_cases c1 : q ≤ 1
    · rw [if_pos (by rw [iL_1, iI_le (by omega) (by omega) (by omega) (by omega)]; exact c1)]
      by_cases cz : q = 0
      · obtain ⟨w', e3, o3, S3, -⟩ := holdNothing_ok (x := x) o1.1
        obtain ⟨k4, f4⟩ := h.shf d8 S3.vr.fr (h.sz S3) o3
        rw [if_pos (by rw [cz]; rfl), if_pos cz, kRc_e o1.1.1, Option.bind_some, e3, Option.bind_some]
        exact ⟨w', ow, by rw [iL_0], k4, f4⟩
      · rw [if_neg (by rw [iL_0, iI_eq (by omega) (by omega) (by omega) (by omega)]; exact cz), if_neg cz, if_pos (show q = 1 by omega), top_t h]
        obtain ⟨l1, l2⟩ := lineAt_ok h.2.2.1 hl.1 hl.2
        cases hL : tLn (sT S) l with
        | none => exact Kd.rf h (by rw [l1 hL, Option.bind_some, if_pos rfl, iN_1])
        | some F =>
          obtain ⟨a, e2, g2⟩ := l2 F hL
          obtain ⟨b0, b1, b2⟩ := tLn_lt hL
          have n40 := h.2.2.1.1.1
          rw [e2, Option.bind_some, if_neg (by simp)]
          show Kd ow x w _ (if 0 ≤ k ∧ k ≤ 6 then ((0 : Int), aSh S d.toNat (some (.inl (k.toNat, l.toNat, F)))) else (-1, S)).1 (if 0 ≤ k ∧ k ≤ 6 then ((0 : Int), aSh S d.toNat (some (.inl (k.toNat, l.toNat, F)))) else (-1, S)).2
          by_cases ck : k < 0
          · rw [if_pos (by rw [iL_0, iI_lt (by omega) (by omega) (by omega) (by omega)]; exact ck), if_neg (by omega)]
            exact Kd.rf h (by rw [iN_1])
          rw [if_neg (by rw [iL_0, iI_lt (by omega) (by omega) (by omega) (by omega)]; exact ck)]
          by_cases ck6 : k ≤ 6
          · have hsz := h.1.2.2
            have bd0 := Bd.new h.1.1 0
            obtain ⟨w1, e3⟩ : ∃ w1, w1 = kSP (kSI (kSI (kNw w 0 0) (kSz w) 0 (iI k)) (kSz w) 1 (iI l)) (kSz w) 2 (some a) := ⟨_, rfl⟩
            have kc0 : kKd (kNw w 0 0) (kSz w) = 0 := kKd_N _ _ _
            have same : ∀ q, q < kSz w → Sa w w1 q := fun q hq => by
              rw [e3]
              exact (((Sa.nw (by omega)).tr (Sa.si (by omega))).tr (Sa.si (by omega))).tr (Sa.sp (by omega))
            have W1 : WF w1 := by rw [e3]; exact (h.1.1.nw 0 0).of rfl rfl
            have z1 : kSz w1 = kSz w + 1 := by rw [e3]; rfl
            have O1 := h.1.2.1.new (m := 1) W1 z1 same
            have F1 : Fr ow (oN ow (kSz w) 1) (fun _ => False) w w1 := fun b hb _ => by
              have hlt := h.1.1.lt hb
              obtain ⟨y1, y2, y3, y4, y5⟩ := same b hlt
              exact ⟨oN_out hlt, y1, y2, y3, y4, y5⟩
            have k2 := h.fr0 F1 W1 O1 (by omega)
            have sh1 : ShB (oN ow (kSz w) 1) w1 (x + 221 + 2 * d.toNat) := (o1.1.fr F1 (fun z => z)).1
            obtain ⟨w2, e4, o4, S4, i4, k4⟩ := holdNothing_ok (x := x) sh1
            obtain ⟨hk4, ho4, h04⟩ := id o4.1
            have sp : Sq (oN ow (kSz w) 1) (fun z => z = x + 221 + 2 * d.toNat) w2 (kSP w2 (x + 221 + 2 * d.toNat) 3 (some (kSz w))) := Sq.sp (by rw [ho4])
            have S5 := S4.tr sp
            have oc : oN ow (kSz w) 1 (kSz w) = (kSz w, 0) := by rw [oN_in ⟨Nat.le_refl _, by omega⟩, Nat.sub_self]
            have nc : kSz w ≠ x + 221 + 2 * d.toNat := by omega
            obtain ⟨y1, y2, y3⟩ := S5.2.2.2 (kSz w) (by rw [oc]; exact nc)
            have hG : Li (oN ow (kSz w) 1) x w1 a F := g2.fr F1 (fun z => z)
            have hG2 := hG.fr S5.fr (by have := hG.2.2.2; omega)
            have eO : ShO (oN ow (kSz w) 1) x (kSP w2 (x + 221 + 2 * d.toNat) 3 (some (kSz w))) (x + 221 + 2 * d.toNat) (some (.inl (k.toNat, l.toNat, F))) := by
              refine ⟨o4.1.own sp (kP_SP_j (by omega)), i4, by show k.toNat ≤ 6; omega, by show l.toNat < 40; omega, kSz w, a, kP_SP_s, ?_, oc, by omega, ?_, ?_, ?_, hG2⟩
              · rw [S5.1, e3]; exact kc0
              · show kI (kSP w2 (x + 221 + 2 * d.toNat) 3 (some (kSz w))) (kSz w) 0 = iI ((k.toNat : Nat) : Int)
                rw [y1, e3, show ((k.toNat : Nat) : Int) = k by omega]
                show kI (kSI (kSI (kNw w 0 0) (kSz w) 0 (iI k)) (kSz w) 1 (iI l)) (kSz w) 0 = _
                rw [kI_SI_j (by omega), kI_SI_s]
              · show kI (kSP w2 (x + 221 + 2 * d.toNat) 3 (some (kSz w))) (kSz w) 1 = iI ((l.toNat : Nat) : Int)
                rw [y1, e3, show ((l.toNat : Nat) : Int) = l by omega]
                show kI (kSI (kSI (kNw w 0 0) (kSz w) 0 (iI k)) (kSz w) 1 (iI l)) (kSz w) 1 = _
                rw [kI_SI_s]
              · rw [y2, e3, kP_SP_s]
            obtain ⟨k5, f5⟩ := k2.shf d8 S5.vr.fr (k2.sz S5) eO
            rw [if_pos (by rw [iL_6, iI_le (by omega) (by omega) (by omega) (by omega)]; exact ck6), if_pos (show 0 ≤ k ∧ k ≤ 6 by omega)]
            refine ⟨_, _, ?_, k5, (F1.wide (fun _ z => z.elim)).cc f5⟩
            show ((some (kNw w 0 0)).bind fun w8 => _) = _
            rw [Option.bind_some, fX0_init, kpI_e kc0, Option.bind_some, kpI_e (show kKd (kSI (kNw w 0 0) (kSz w) 0 (iI k)) (kSz w) = 0 from kc0), Option.bind_some, kpP_e (show kKd (kSI (kSI (kNw w 0 0) (kSz w) 0 (iI k)) (kSz w) 1 (iI l)) (kSz w) = 0 from kc0), Option.bind_some, ← e3, Option.bind_some, kRc_e sh1.1, Option.bind_some, fX6_holdCard, kRc_e sh1.1, Option.bind_some, e4, Option.bind_some, kpP_e k4, Option.bind_some, Option.bind_some, iL_0]
          · rw [if_neg (by rw [iL_6, iI_le (by omega) (by omega) (by omega) (by omega)]; exact ck6), if_neg (by omega)]
            exact Kd.rf h (by rw [iN_1])
    · rw [if_neg (by rw [iL_1, iI_le (by omega) (by omega) (by omega) (by omega)]; exact c1), if_neg (by omega), if_neg (by omega)]
      exact Kd.rf h (by rw [iN_1])
def aRow (S : AS) (d so n : Int) : Int × AS := match shAt S d with
  | none => (-1, S)
  | some _ => if 0 ≤ so ∧ so ≤ 2 ∧ n ≤ 120 then (if 0 ≤ n then (0, aSh S d.toNat (some (.inr (so.toNat, List.replicate n.toNat 0)))) else (-14, S)) else (-1, S)
theorem kc_row {ow : Nat → Nat × Nat} {x : Nat} {w : kW} {S : AS} (h : Kc ow x w S) {d so n : Int} (hd : I32 d) (hs' : I32 so) (hn : I32 n) : Kd ow x w (fX11_row x (iI d) (iI so) (iI n) w) (aRow S d so n).1 (aRow S d so n).2 := by
  have hk : kKd w x = 11 := h.2.1.1.1
  obtain ⟨s1, s2⟩ := shelfAt_ok h hd
  obtain ⟨q0, q1⟩ := hs'
  obtain ⟨k0, k1⟩ := hn
  unfold aRow
  rw [fX11_row, kRc_e hk, Option.bind_some]
  cases hs : shAt S d with
  | none => exact Kd.rf h (by rw [s1 hs, Option.bind_some, if_pos rfl, iN_1])
  | some s =>
    obtain ⟨e1, o1, d8, -⟩ := s2 s hs
    rw [e1, Option.bind_some, if_neg (by simp)]
    show Kd ow x w _ (if 0 ≤ so ∧ so ≤ 2 ∧ n ≤ 120 then (if 0 ≤ n then ((0 : Int), aSh S d.toNat (some (.inr (so.toNat, List.replicate n.toNat 0)))) else (-14, S)) else (-1, S)).1 (if 0 ≤ so ∧ so ≤ 2 ∧ n ≤ 120 then (if 0 ≤ n then ((0 : Int), aSh S d.toNat (some (.inr (so.toNat, List.replicate n.toNat 0)))) else (-14, S)) else (-1, S)).2
    by_cases c0 : so < 0
    · rw [if_pos (by rw [iL_0, iI_lt (by omega) (by omega) (by omega) (by omega)]; exact c0), if_neg (by omega)]
      exact Kd.rf h (by rw [iN_1])
    rw [if_neg (by rw [iL_0, iI_lt (by omega) (by omega) (by omega) (by omega)]; exact c0)]
    by_cases c2 : 2 < so
    · rw [if_pos (by rw [iL_2, iI_lt (by omega) (by omega) (by omega) (by omega)]; exact c2), if_neg (by omega)]
      exact Kd.rf h (by rw [iN_1])
    rw [if_neg (by rw [iL_2, iI_lt (by omega) (by omega) (by omega) (by omega)]; exact c2)]
    by_cases c3 : n ≤ 120
    · rw [if_pos (by rw [iL_120, iI_le (by omega) (by omega) (by omega) (by omega)]; exact c3), if_pos (show 0 ≤ so ∧ so ≤ 2 ∧ n ≤ 120 by omega)]
      by_cases c4 : 0 ≤ n
      · obtain ⟨hk6, ho, p0, k14, n120, o0⟩ := id o1.1
        obtain ⟨w3, e3⟩ : ∃ w3, w3 = kSI (kSI (kSP w (x + 221 + 2 * d.toNat) 3 none) (x + 221 + 2 * d.toNat) 1 (iI so)) (x + 221 + 2 * d.toNat) 2 (iI n) := ⟨_, rfl⟩
        have S3 : Sq ow (fun z => z = x + 221 + 2 * d.toNat) w w3 := by rw [e3]; exact ((Sq.sp (by rw [ho])).tr (Sq.si (by rw [ho]))).tr (Sq.si (by rw [ho]))
        have p3 : kP w3 (x + 221 + 2 * d.toNat) 0 = kP w (x + 221 + 2 * d.toNat) 0 := by rw [e3]; show kP (kSP w (x + 221 + 2 * d.toNat) 3 none) (x + 221 + 2 * d.toNat) 0 = _; rw [kP_SP_j (by omega)]
        obtain ⟨w4, e4, So4, g4⟩ := fill_ok (x := (0 : Int32)) (w := w3) (r := Lp w (x + 221 + 2 * d.toNat) 0) (m := 120) (by omega) (by rw [S3.1]; exact k14) (by rw [S3.2.1]; exact n120)
        have S4 : Sq ow (fun z => z = x + 221 + 2 * d.toNat) w3 w4 := So4.q (by rw [o0])
        have S5 := S3.tr S4
        have ne : x + 221 + 2 * d.toNat ≠ Lp w (x + 221 + 2 * d.toNat) 0 := fun e => by rw [← e, hk6] at k14; omega
        have i4 : kI w4 (x + 221 + 2 * d.toNat) = kI w3 (x + 221 + 2 * d.toNat) := So4.2.2.2.2.2 _ ne
        have p4 : kP w4 = kP w3 := So4.2.2.2.1
        have b4 : ShB ow w4 (x + 221 + 2 * d.toNat) := o1.1.own S5 (by rw [p4]; exact p3)
        have l4 : Lp w4 (x + 221 + 2 * d.toNat) 0 = Lp w (x + 221 + 2 * d.toNat) 0 := by unfold Lp; rw [p4, p3]
        have eO : ShO ow x w4 (x + 221 + 2 * d.toNat) (some (.inr (so.toNat, List.replicate n.toNat 0))) := by
          refine ⟨b4, by show so.toNat ≤ 2; omega, ?_, ?_, ?_, by rw [List.length_replicate]; omega, fun i c hc => ?_, fun c hc => ?_⟩
          · rw [i4, e3, kI_SI_j (by omega), kI_SI_s]
            show iI so = iI ((so.toNat : Nat) : Int)
            congr 1
            omega
          · rw [i4, e3, kI_SI_s, List.length_replicate]
            congr 1
            omega
          · rw [p4, e3]
            exact kP_SP_s
          · have hc' : (List.replicate n.toNat (0 : Int))[i]? = some c := hc
            have hi := (List.getElem?_eq_some_iff.mp hc').1
            rw [List.length_replicate] at hi
            rw [List.getElem?_replicate_of_lt hi] at hc'
            rw [l4, g4 i (by omega)]
            cases hc'
            rfl
          · have hc' : c ∈ List.replicate n.toNat (0 : Int) := hc
            have := (List.mem_replicate.mp hc').2
            subst this
            exact ⟨fun _ => by omega, fun _ => by omega, by unfold I32; omega⟩
        obtain ⟨k5, f5⟩ := h.shf d8 S5.vr.fr (h.sz S5) eO
        rw [if_pos (by rw [iL_0, iI_le (by omega) (by omega) (by omega) (by omega)]; exact c4), if_pos c4]
        refine ⟨w4, ow, ?_, k5, f5⟩
        rw [kRc_e hk6, Option.bind_some, fX6_holdRow, kpP_e hk6, Option.bind_some, kpI_e (show kKd (kSP w (x + 221 + 2 * d.toNat) 3 none) (x + 221 + 2 * d.toNat) = 6 from hk6), Option.bind_some, kpI_e (show kKd (kSI (kSP w (x + 221 + 2 * d.toNat) 3 none) (x + 221 + 2 * d.toNat) 1 (iI so)) (x + 221 + 2 * d.toNat) = 6 from hk6), Option.bind_some, ← e3, kgP_e (show kKd w3 (x + 221 + 2 * d.toNat) = 6 by rw [S3.1]; exact hk6), Option.bind_some, p3, p0, e4, Option.bind_some, Option.bind_some, iL_0]
      · rw [if_neg (by rw [iL_0, iI_le (by omega) (by omega) (by omega) (by omega)]; exact c4), if_neg c4]
        exact Kd.rf h (by rw [show (-14 : Int32) = iI (-14) by decide +kernel])
    · rw [if_neg (by rw [iL_120, iI_le (by omega) (by omega) (by omega) (by omega)]; exact c3), if_neg (by omega)]
      exact Kd.rf h (by rw [iN_1])
