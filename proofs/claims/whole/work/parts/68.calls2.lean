/-! .. line, give, pairs, the widest, must -/
theorem kc_line {ow : Nat → Nat × Nat} {x : Nat} {w : kW} {S : AS} (h : Kc ow x w S) {d : Int} (hd : I32 d) : Kd ow x w (fX11_line x (iI d) w) (aLine S d).1 (aLine S d).2 := by
  have hk : kKd w x = 11 := h.2.1.1.1
  have hT := h.2.2.1
  have n40 := hT.1.1
  obtain ⟨s1, s2⟩ := shelfAt_ok h hd
  unfold aLine
  rw [fX11_line, kRc_e hk, Option.bind_some]
  cases hs : shAt S d with
  | none => exact Kd.rf h (by rw [s1 hs, Option.bind_some, if_pos rfl, iN_1])
  | some s =>
    obtain ⟨e1, o1, -⟩ := s2 s hs
    rw [e1, Option.bind_some, if_neg (by simp), kgP_e hk, Option.bind_some, h.2.1.2.1.1, kgI_e hT.2.1.1, Option.bind_some, hT.2.2.1.1]
    show Kd ow x w _ (if (tL (sT S)).length < 40 then (if bRef s = 0 then (match pF (rowL s) with | some j => (-100 - (j : Int), S) | none => (((tL (sT S)).length : Int), (tAdd (sT S) (pT (rowL s)), sI S, sH S))) else (bRef s, S)) else (-2, S)).1 (if (tL (sT S)).length < 40 then (if bRef s = 0 then (match pF (rowL s) with | some j => (-100 - (j : Int), S) | none => (((tL (sT S)).length : Int), (tAdd (sT S) (pT (rowL s)), sI S, sH S))) else (bRef s, S)) else (-2, S)).2
    by_cases c40 : (tL (sT S)).length < 40
    · rw [if_pos (by rw [iL_40, iI_lt (by omega) (by omega) (by omega) (by omega)]; omega), if_pos c40, kRc_e o1.1.1, Option.bind_some, bytesRef_ok o1, Option.bind_some]
      have bb := bRef_bd s
      by_cases c : bRef s = 0
      · obtain ⟨l, rfl⟩ := bRef_0 c
        obtain ⟨r1, r2, -, -, -, l120⟩ := rw_of o1
        obtain ⟨w1, e, k1, f1, g, q1⟩ := kc_read h o1 (by omega)
        rw [if_pos (by rw [c]; decide +kernel), if_pos c, kgP_e hk, Option.bind_some, h.2.1.2.1.2.2.2.1, r1, Option.bind_some, r2, Option.bind_some, kRc_e h.2.2.2.2.2.1.1, Option.bind_some, e, kb2_s]
        have eR : rowL (some (.inr (0, l))) = l := rfl
        rw [eR]
        cases hp : pF l with
        | some j =>
          have := pF_le hp
          show Kd ow x w (if iI (j : Int) < (0 : Int32) then _ else some ((-100 : Int32) - iI (j : Int), w1)) (-100 - (j : Int)) S
          have e100 : (-100 : Int32) = iI (-100) := by decide +kernel
          rw [if_neg (by rw [iL_0, iI_lt (by omega) (by omega) (by omega) (by omega)]; omega), e100, iI_sub]
          exact ⟨w1, ow, rfl, k1, f1⟩
        | none =>
          show Kd ow x w (if iI (-4) < (0 : Int32) then _ else _) ((tL (sT S)).length : Int) (tAdd (sT S) (pT l), sI S, sH S)
          obtain ⟨-, hF, -, hF60⟩ := (pF_go l).2 hp
          obtain ⟨w2, ow2, e2, Li2, F2, W2, O2, R2, z2⟩ := madeLine_ok (x := x) k1.1.1 k1.1.2.1 (by have := k1.1.2.2; omega) k1.2.2.2.2.2.1 (g hp) hF hF60
          have F2' : Fr ow ow2 (Vr x 18 20) w1 w2 := F2.wide (fun q hq => by rcases hq with h | h <;> exact ⟨by omega, by omega⟩)
          obtain ⟨o0, o1', o2, o3, o4, o5, o6, o7, o8, o9, o10⟩ := k1.ok F2' (by omega)
          have k2 : Kc ow2 x w2 S := ⟨⟨W2, O2, by rw [z2]; have := k1.1.2.2; omega⟩, o0 (by omega), o1' (by omega), o2 (by omega), o3 (by omega), R2, o5 (by omega), o6 (by omega), o7 (by omega), o8 (by omega), o9 (by omega), o10 (by omega)⟩
          obtain ⟨w3, e3, T3, q3⟩ := addLine_ok k2.2.2.1 (by omega) c40 Li2
          obtain ⟨k3, f3⟩ := k2.tb q3 T3
          refine ⟨w3, ow2, ?_, k3, (f1.cc (F2'.cx (by omega) (by omega))).cc f3⟩
          have en : iI (-4) < (0 : Int32) := by decide +kernel
          rw [if_pos en, kgP_e k1.2.1.1.1, Option.bind_some, k1.2.1.2.1.1, kgP_e k1.2.1.1.1, Option.bind_some, k1.2.1.2.1.2.2.2.1, kRc_e k1.2.2.2.2.2.1.1, Option.bind_some, e2, kb2_s, kRc_e k2.2.2.1.2.1.1, Option.bind_some, e3, kb2_s]
      · rw [if_neg (by rw [iL_0, iI_eq (by omega) (by omega) (by omega) (by omega)]; exact c), if_neg c]
        exact Kd.rf h rfl
    · rw [if_neg (by rw [iL_40, iI_lt (by omega) (by omega) (by omega) (by omega)]; omega), if_neg c40]
      exact Kd.rf h (by rw [iN_2])
/-- where a line is from matters for those shown alone -/
theorem Tb.src {ow : Nat → Nat × Nat} {x tb : Nat} {w : kW} {T : TbS} {F : Nat → Int × Int × Int} (h : Tb ow x w tb T) (hF : ∀ i, tH T i = 2 → F i = tF T i) : Tb ow x w tb (tMk (tL T) (tH T) (tK T) F (tP T)) := by
  obtain ⟨hW, hR, hN, v1, v2, v3, v4, v5⟩ := h
  exact ⟨hW, hR, hN, v1, v2, v3, fun i hi h2 => by show kI w (Lp w tb 3) i = iI (F i).1 ∧ kI w (Lp w tb 4) i = iI (F i).2.1 ∧ kI w (Lp w tb 5) i = iI (F i).2.2; rw [hF i h2]; exact v4 i hi h2, v5⟩
def tKnow (T : TbS) (n s : Nat) (q : Int × Int × Int) : TbS := tMk (tL T) (fu (tH T) n s) (tK T ++ [n]) (fu (tF T) n q) (tP T)
def aGive (S : AS) (l : Int) : Int × AS := match tLn (sT S) l with
  | none => (-1, S)
  | some _ => if tH (sT S) l.toNat = 0 then (1, (tKnow (sT S) l.toNat 1 (-4, -4, -4), sI S, sH S)) else (0, S)
theorem kc_give {ow : Nat → Nat × Nat} {x : Nat} {w : kW} {S : AS} (h : Kc ow x w S) {l : Int} (hl : I32 l) : Kd ow x w (fX11_give x (iI l) w) (aGive S l).1 (aGive S l).2 := by
  have hT := h.2.2.1
  obtain ⟨l1, l2⟩ := lineAt_ok hT hl.1 hl.2
  unfold aGive
  rw [fX11_give, top_t h]
  cases hL : tLn (sT S) l with
  | none => exact Kd.rf h (by rw [l1 hL, Option.bind_some, if_pos rfl, iN_1])
  | some F =>
    obtain ⟨a, e, g⟩ := l2 F hL
    obtain ⟨b0, b1, b2⟩ := tLn_lt hL
    have f5 := howIs_in hT b1
    have el : ((l.toNat : Nat) : Int) = l := by omega
    rw [el] at f5
    have h2 := hT.1.2.2.2.2.1 l.toNat
    rw [e, Option.bind_some, if_neg (by simp), top_t h, f5, Option.bind_some]
    show Kd ow x w _ (if tH (sT S) l.toNat = 0 then (1, (tKnow (sT S) l.toNat 1 (-4, -4, -4), sI S, sH S)) else (0, S)).1 (if tH (sT S) l.toNat = 0 then (1, (tKnow (sT S) l.toNat 1 (-4, -4, -4), sI S, sH S)) else (0, S)).2
    by_cases c : tH (sT S) l.toNat = 0
    · rw [if_pos (by rw [c]; rfl), if_pos c, top_t h]
      obtain ⟨w', q, e3, T3, m3⟩ := makeKnown_ok hT (by omega) b1 c (Or.inl rfl)
      rw [el] at e3
      have T4 := T3.src (F := fu (tF (sT S)) l.toNat (-4, -4, -4)) (fun i hi => by
        have hi' : fu (tH (sT S)) l.toNat 1 i = 2 := hi
        have ne : i ≠ l.toNat := fun z => by rw [z, fu_s] at hi'; cases hi'
        show fu (tF (sT S)) l.toNat (-4, -4, -4) i = fu (tF (sT S)) l.toNat q i
        rw [fu_o _ _ ne, fu_o _ _ ne])
      obtain ⟨k3, f3⟩ := h.tb m3.q T4
      have e3' : fX8_makeKnown (x + 1) (iI l) (1 : Int32) w = some w' := e3
      rw [e3', Option.bind_some]
      exact ⟨w', ow, by rw [iL_1], k3, f3⟩
    · rw [if_neg (by rw [iL_0, iI_eq (by omega) (by omega) (by omega) (by omega)]; omega), if_neg c]
      exact Kd.rf h (by rw [iL_0])
def bI (b : Bool) : Int := if b then 1 else 0
theorem bI_B (b : Bool) : iI (bI b) = iB b := by cases b <;> rfl
theorem if_iB {α : Type} (b : Bool) (w : α) : (if iB b = 0 then some ((0 : Int32), w) else some ((1 : Int32), w)) = some (iI (bI b), w) := by
  cases b with
  | true => rw [if_neg (show ¬ iB true = 0 by decide +kernel)]; rfl
  | false => rw [if_pos (show iB false = 0 from rfl)]; rfl
def aPair (S : AS) (a b q : Int) : Int := match tLn (sT S) a with
  | none => -1
  | some F => match tLn (sT S) b with
    | none => -1
    | some G => if q = 0 then bI (fEq F G) else if q = 1 then bI (fLike F G) else if q = 2 then bI (fMt F G σ0).isSome else -1
theorem kc_pair {ow : Nat → Nat × Nat} {x : Nat} {w : kW} {S : AS} (h : Kc ow x w S) {a b q : Int} (ha : I32 a) (hb : I32 b) (hq : I32 q) : Kd ow x w (fX11_pair x (iI a) (iI b) (iI q) w) (aPair S a b q) S := by
  have hT := h.2.2.1
  obtain ⟨l1, l2⟩ := lineAt_ok hT ha.1 ha.2
  obtain ⟨m1, m2⟩ := lineAt_ok hT hb.1 hb.2
  obtain ⟨q0, q1⟩ := hq
  unfold aPair
  rw [fX11_pair, top_t h]
  have e0 : (0 : Int32) = iI (([] : List Nat).length : Int) := by decide +kernel
  cases hL : tLn (sT S) a with
  | none =>
    rw [l1 hL, Option.bind_some, top_t h]
    cases hM : tLn (sT S) b with
    | none => exact Kd.rf h (by rw [m1 hM, Option.bind_some, if_pos rfl, iN_1])
    | some G =>
      obtain ⟨c, e2, g2⟩ := m2 G hM
      exact Kd.rf h (by rw [e2, Option.bind_some, if_pos rfl, iN_1])
  | some F =>
    obtain ⟨c, e, g⟩ := l2 F hL
    rw [e, Option.bind_some, top_t h]
    cases hM : tLn (sT S) b with
    | none => exact Kd.rf h (by rw [m1 hM, Option.bind_some, if_neg (by simp), if_pos rfl, iN_1])
    | some G =>
      obtain ⟨c2, e2, g2⟩ := m2 G hM
      have hka := g.1.2.1.1.1
      rw [e2, Option.bind_some, if_neg (by simp), if_neg (by simp)]
      show Kd ow x w _ (if q = 0 then bI (fEq F G) else if q = 1 then bI (fLike F G) else if q = 2 then bI (fMt F G σ0).isSome else -1) S
      by_cases c0 : q = 0
      · subst c0
        have s := same_in g.1 g2.1 (all_1 F) g.1.1 (all_1 G) g2.1.1
        rw [← e0] at s
        rw [if_pos (show iI 0 = (0 : Int32) from rfl), if_pos rfl, kRc_e hka, Option.bind_some, s, Option.bind_some, if_iB]
        exact Kd.rf h rfl
      rw [if_neg (show ¬ iI q = (0 : Int32) by rw [iL_0, iI_eq (by omega) (by omega) (by omega) (by omega)]; exact c0), if_neg c0]
      by_cases c1 : q = 1
      · subst c1
        have s := like_in g.1 g2.1 (all_1 F) g.1.1 (all_1 G) g2.1.1
        rw [← e0] at s
        rw [if_pos (show iI 1 = (1 : Int32) from rfl), if_pos rfl, kRc_e hka, Option.bind_some, s, Option.bind_some, if_iB]
        exact Kd.rf h rfl
      rw [if_neg (show ¬ iI q = (1 : Int32) by rw [iL_1, iI_eq (by omega) (by omega) (by omega) (by omega)]; exact c1), if_neg c1]
      by_cases c2 : q = 2
      · subst c2
        obtain ⟨w', s, S1, g3, -⟩ := makes_in h.2.2.2.2.2.2.2.1 g.1 g2.1 (all_1 F) g.1.1 (all_1 G) g2.1.1
        rw [← e0] at s
        obtain ⟨k3, f3⟩ := h.pg S1 g3
        rw [if_pos (show iI 2 = (2 : Int32) from rfl), if_pos rfl, top_p h, s, kb2_s, if_iB]
        exact ⟨w', ow, rfl, k3, f3⟩
      rw [if_neg (show ¬ iI q = (2 : Int32) by rw [iL_2, iI_eq (by omega) (by omega) (by omega) (by omega)]; exact c2), if_neg c2]
      exact Kd.rf h (by rw [iN_1])
def aWidest (S : AS) (a b i : Int) : Int := match tLn (sT S) a with
  | none => -1
  | some F => match tLn (sT S) b with
    | none => -1
    | some G => if -1 ≤ i then (match fWi 7 F G with
      | none => -4
      | some H => if 0 ≤ i then bt (fTxt H) i else fSz H) else -1
theorem kc_widest {ow : Nat → Nat × Nat} {x : Nat} {w : kW} {S : AS} (h : Kc ow x w S) {a b i : Int} (ha : I32 a) (hb : I32 b) (hi : I32 i) : Kd ow x w (fX11_widest x (iI a) (iI b) (iI i) w) (aWidest S a b i) S := by
  have hT := h.2.2.1
  obtain ⟨l1, l2⟩ := lineAt_ok hT ha.1 ha.2
  obtain ⟨m1, m2⟩ := lineAt_ok hT hb.1 hb.2
  obtain ⟨q0, q1⟩ := id hi
  unfold aWidest
  rw [fX11_widest, top_t h]
  have e0 : (0 : Int32) = iI (([] : List Nat).length : Int) := by decide +kernel
  cases hL : tLn (sT S) a with
  | none =>
    rw [l1 hL, Option.bind_some, top_t h]
    cases hM : tLn (sT S) b with
    | none => exact Kd.rf h (by rw [m1 hM, Option.bind_some, if_pos rfl, iN_1])
    | some G =>
      obtain ⟨c, e2, g2⟩ := m2 G hM
      exact Kd.rf h (by rw [e2, Option.bind_some, if_pos rfl, iN_1])
  | some F =>
    obtain ⟨c, e, g⟩ := l2 F hL
    rw [e, Option.bind_some, top_t h]
    cases hM : tLn (sT S) b with
    | none => exact Kd.rf h (by rw [m1 hM, Option.bind_some, if_neg (by simp), if_pos rfl, iN_1])
    | some G =>
      obtain ⟨c2, e2, g2⟩ := m2 G hM
      rw [e2, Option.bind_some, if_neg (by simp), if_neg (by simp)]
      show Kd ow x w _ (if -1 ≤ i then (match fWi 7 F G with | none => -4 | some H => if 0 ≤ i then bt (fTxt H) i else fSz H) else -1) S
      by_cases ci : -1 ≤ i
      · have hwd := h.2.2.2.2.2.2.2.2.1
        have ga := g.2.2.2
        have gb := g2.2.2.2
        obtain ⟨w1, e3, s3, g3⟩ := makeAlike_ok hwd g.1 g2.1 (fun z => by rcases z with z | z | z | z <;> omega) (fun z => by rcases z with z | z | z | z <;> omega)
        obtain ⟨k3, f3⟩ := h.wd s3
        have hk1 := k3.2.1.1.1
        have wd1 := k3.2.2.2.2.2.2.2.2.1
        rw [if_pos (by rw [iN_1, iI_le (by omega) (by omega) (by omega) (by omega)]; exact ci), if_pos ci, kgP_e h.2.1.1.1, Option.bind_some, h.2.1.2.1.2.2.2.2.2.2.1, kRc_e hwd.1.1, Option.bind_some, e3, kb2_s]
        cases hW : fWi 7 F G with
        | none =>
          rw [if_pos (show iB (none : Option Fo).isSome = 0 from rfl)]
          exact ⟨w1, ow, by rw [iN_4], k3, f3⟩
        | some H =>
          have gH := g3 H hW
          show Kd ow x w _ (if 0 ≤ i then bt (fTxt H) i else (fSz H : Int)) S
          rw [if_neg (show ¬ iB (some H).isSome = 0 by show ¬ iB true = 0; decide +kernel)]
          by_cases c0 : 0 ≤ i
          · obtain ⟨w2, e4, k4, f4⟩ := kc_byte (X := []) k3 gH.2.1 gH.2.2 (all_1 H) gH.1 hi
            rw [if_pos (by rw [iL_0, iI_le (by omega) (by omega) (by omega) (by omega)]; exact c0), if_pos c0, kgP_e hk1, Option.bind_some, k3.2.1.2.1.2.2.2.2.1, kgP_e hk1, Option.bind_some, k3.2.1.2.1.2.2.2.2.2.2.1, kgP_e wd1.1.1, Option.bind_some, wd1.1.2.2.1, kRc_e k3.2.2.2.2.2.2.1.1, Option.bind_some, e0, e4, kb2_s]
            exact ⟨w2, ow, rfl, k4, f3.cc f4⟩
          · rw [if_neg (by rw [iL_0, iI_le (by omega) (by omega) (by omega) (by omega)]; exact c0), if_neg c0, kgP_e hk1, Option.bind_some, k3.2.1.2.1.2.2.2.2.2.2.1, kgP_e wd1.1.1, Option.bind_some, wd1.1.2.2.1, kgI_e gH.2.1.1.1, Option.bind_some, gH.2.1.2.2.1.1]
            exact ⟨w1, ow, rfl, k3, f3⟩
      · rw [if_neg (by rw [iN_1, iI_le (by omega) (by omega) (by omega) (by omega)]; exact ci), if_neg ci]
        exact Kd.rf h (by rw [iN_1])
def aMust (S : AS) (a b c i : Int) : Int := match tLn (sT S) a with
  | none => -1
  | some F => match tLn (sT S) b with
    | none => -1
    | some G => if 0 ≤ leZ c ∧ 0 ≤ i then (match fMt F G σ0 with
      | none => -4
      | some σ => match σ (leZ c).toNat with
        | none => -4
        | some C => bt (fTxt C) i) else -1
theorem kc_must {ow : Nat → Nat × Nat} {x : Nat} {w : kW} {S : AS} (h : Kc ow x w S) {a b c i : Int} (ha : I32 a) (hb : I32 b) (hc : I32 c) (hi : I32 i) : Kd ow x w (fX11_must x (iI a) (iI b) (iI c) (iI i) w) (aMust S a b c i) S := by
  have hT := h.2.2.1
  obtain ⟨l1, l2⟩ := lineAt_ok hT ha.1 ha.2
  obtain ⟨m1, m2⟩ := lineAt_ok hT hb.1 hb.2
  obtain ⟨q0, q1⟩ := id hi
  have hlo := letterOf_ok c hc.1 hc.2
  have blz : leZ c = -1 ∨ (0 ≤ leZ c ∧ leZ c < 6) := by
    unfold leZ
    split <;> omega
  unfold aMust
  rw [fX11_must, top_t h]
  have e0 : (0 : Int32) = iI (([] : List Nat).length : Int) := by decide +kernel
  cases hL : tLn (sT S) a with
  | none =>
    rw [l1 hL, Option.bind_some, top_t h]
    cases hM : tLn (sT S) b with
    | none => exact Kd.rf h (by rw [m1 hM, Option.bind_some, hlo, Option.bind_some, if_pos rfl, iN_1])
    | some G =>
      obtain ⟨c, e2, g2⟩ := m2 G hM
      exact Kd.rf h (by rw [e2, Option.bind_some, hlo, Option.bind_some, if_pos rfl, iN_1])
  | some F =>
    obtain ⟨a', e, g⟩ := l2 F hL
    rw [e, Option.bind_some, top_t h]
    cases hM : tLn (sT S) b with
    | none => exact Kd.rf h (by rw [m1 hM, Option.bind_some, hlo, Option.bind_some, if_neg (by simp), if_pos rfl, iN_1])
    | some G =>
      obtain ⟨b', e2, g2⟩ := m2 G hM
      rw [e2, Option.bind_some, hlo, Option.bind_some, if_neg (by simp), if_neg (by simp)]
      show Kd ow x w _ (if 0 ≤ leZ c ∧ 0 ≤ i then (match fMt F G σ0 with | none => -4 | some σ => match σ (leZ c).toNat with | none => -4 | some C => bt (fTxt C) i) else -1) S
      by_cases c1 : 0 ≤ leZ c
      · rw [if_neg (by rw [iL_0, iI_lt (by omega) (by omega) (by omega) (by omega)]; omega)]
        by_cases c2 : 0 ≤ i
        · obtain ⟨w1, s, S1, g3, p3, pu3⟩ := makes_in h.2.2.2.2.2.2.2.1 g.1 g2.1 (all_1 F) g.1.1 (all_1 G) g2.1.1
          rw [← e0] at s
          obtain ⟨k3, f3⟩ := h.pg S1 g3
          rw [if_pos (by rw [iL_0, iI_le (by omega) (by omega) (by omega) (by omega)]; exact c2), if_pos ⟨c1, c2⟩, top_p h, s, kb2_s]
          cases hm : fMt F G σ0 with
          | none =>
            rw [if_pos (show iB (none : Option (Nat → Option Fo)).isSome = 0 from rfl)]
            exact ⟨w1, ow, by rw [iN_4], k3, f3⟩
          | some σ =>
            have lz6 : (leZ c).toNat < 6 := by omega
            have st := startOf_ok g3 (leZ c).toNat lz6
            rw [show (((leZ c).toNat : Nat) : Int) = leZ c by omega] at st
            obtain ⟨u1, u2⟩ := pu3 σ hm (leZ c).toNat lz6
            rw [if_neg (show ¬ iB (some σ).isSome = 0 by show ¬ iB true = 0; decide +kernel), top_p k3, st, Option.bind_some]
            show Kd ow x w _ (match σ (leZ c).toNat with | none => -4 | some C => bt (fTxt C) i) S
            cases hσ : σ (leZ c).toNat with
            | none =>
              rw [u1 hσ, if_neg (by decide +kernel)]
              exact ⟨w1, ow, by rw [iN_4], k3, f3⟩
            | some C =>
              obtain ⟨hC, X, Y, eC, vC⟩ := u2 C hσ
              have g2' := g2.fr S1.fr (by have := g2.2.2.2; omega)
              have lX := split_len eC
              have l200 := g2'.1.2.1.2.1
              have c200 := g2'.1.2.1.1.2.2.1
              obtain ⟨w2, e4, k4, f4⟩ := kc_byte k3 g2'.1.2.1 g2'.1.2.2 eC hC hi
              rw [vC, if_pos (by rw [iL_0, iI_le (by omega) (by omega) (by omega) (by omega)]; omega), top_w k3, e4, kb2_s]
              exact ⟨w2, ow, rfl, k4, f3.cc f4⟩
        · rw [if_neg (by rw [iL_0, iI_le (by omega) (by omega) (by omega) (by omega)]; exact c2), if_neg (fun z => c2 z.2)]
          exact Kd.rf h (by rw [iN_1])
      · rw [if_pos (by rw [iL_0, iI_lt (by omega) (by omega) (by omega) (by omega)]; omega), if_neg (fun z => c1 z.1)]
        exact Kd.rf h (by rw [iN_1])
