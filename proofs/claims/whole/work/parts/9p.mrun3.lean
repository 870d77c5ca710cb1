/-! THE MODEL'S CALLS, of runs -/
theorem mWrongRun {w : rW} {S : AS} (h : MI w S) {p l : Int} (hp : I32 p) (hl : I32 l) : fX12_wrongRun (iI p) (iI l) w = some (iI (aRef S p l)) := by
  obtain ⟨hW, ⟨-, -, n2⟩, -⟩ := h.1
  have h6 := hW.2.2.2.2.2.1
  have z2 : (2 : Int32) = iI ((2 : Nat) : Int) := rfl
  have hp' := hp
  obtain ⟨p0, p1⟩ := hp
  unfold aRef
  rw [fX12_wrongRun, z2, raN (by omega) (by omega), Option.bind_some, n2, iL_1, iI_sub, z0N, isIn_ok hp' (by unfold I32; omega) (by unfold I32; omega), Option.bind_some]
  have e : (tPn (sT S) p).isSome = decide (0 ≤ p ∧ p ≤ ((tP (sT S)).length : Int) - 1) := by
    unfold tPn
    by_cases c : p < 0
    · rw [if_pos c, decide_eq_false (by omega)]; rfl
    · rw [if_neg c]
      by_cases c2 : p.toNat < (tP (sT S)).length
      · rw [List.getElem?_eq_getElem c2, decide_eq_true (by omega)]; rfl
      · rw [List.getElem?_eq_none (by omega), decide_eq_false (by omega)]; rfl
  rw [← e]
  cases hP : tPn (sT S) p with
  | none => rw [if_pos (show iB (none : Option (List Int)).isSome = 0 from rfl), iI_neg]
  | some u =>
    rw [if_neg (show ¬ iB (some u).isSome = 0 from iB_tn), mIsLine h hl, Option.bind_some]
    show _ = some (iI (match tLn (sT S) l with | none => -1 | some _ => if aHw S l = 0 then 0 else -3))
    cases hL : tLn (sT S) l with
    | none => rw [if_pos (show iB (none : Option Fo).isSome = 0 from rfl), iI_neg]
    | some F =>
      obtain ⟨hw, h2⟩ := mHow h hL
      rw [if_neg (show ¬ iB (some F).isSome = 0 from iB_tn), hw, Option.bind_some]
      show _ = some (iI (if aHw S l = 0 then 0 else -3))
      by_cases c : aHw S l = 0
      · rw [if_pos (by rw [c]; rfl), if_pos c]; rfl
      · rw [if_neg (by rw [iL_0, iI_eq (by omega) (by omega) (by omega) (by omega)]; omega), if_neg c, iN_3]
theorem Ml.eq {w w' : rW} {l : Nat} {f : Fo} (h : Ml w l f) (e : rA w' = rA w) : Ml w' l f := by
  unfold Ml Lt at h ⊢
  rw [e]
  exact h
theorem tPn_lt {T : TbS} {p : Int} {u : List Int} (h : tPn T p = some u) : 0 ≤ p ∧ p.toNat < (tP T).length ∧ (tP T)[p.toNat]? = some u := by
  unfold tPn at h
  by_cases c : p < 0
  · rw [if_pos c] at h; cases h
  · rw [if_neg c] at h
    exact ⟨by omega, (List.getElem?_eq_some_iff.mp h).1, h⟩
theorem run_gen {w w5 : rW} {S : AS} (h : MI w5 S) (hA : rA w = rA w5) {K : List (Nat × Fo)} (hK : MkK w K) {p l : Int} {u : List Int} {F : Fo} (hu : tPn (sT S) p = some u) (hF : tLn (sT S) l = some F) {sl : Bool} {odds : Int} {z : Int32} (hs : SlP w sl odds z) : ∃ w', fX12_runs (iI p) (iI l) w = some w' ∧ Mq w' (psL (pEnd u)) (psS (pEnd u)) sl odds (qRun (pEnd u) K odds z 1000000 F) ∧ MkK w' K ∧ Rq RuA RuF w w' := by
  obtain ⟨b0, b1, b2⟩ := tPn_lt hu
  obtain ⟨hW, -, -, -, -, -, h5⟩ := h.1
  obtain ⟨c1, c2⟩ := h5 _ u b2
  have h6 := hW.2.2.2.2.2.1
  obtain ⟨u1, u2, u3⟩ := hW.2.2.2.2.2.2 u (List.mem_of_getElem? b2)
  obtain ⟨g, e⟩ := h.ml hF
  obtain ⟨w', q1, q2⟩ := runs_ok (w := w) (K := K) (p := p.toNat) (l := l.toNat) (by omega) u1 u3 u2 (by rw [hA]; exact c1) (fun i c hc => by rw [hA]; exact c2 i c hc) hK (g.eq hA) hs
  rw [e, show ((p.toNat : Nat) : Int) = p by omega] at q1
  exact ⟨w', q1, q2⟩
theorem aRQ_eq {S : AS} {p l : Int} {u : List Int} {F : Fo} (hu : tPn (sT S) p = some u) (hF : tLn (sT S) l = some F) (z : Int32) (odds : Int) : aRQ S p l z odds = qRun (pEnd u) (tKL (sT S)) odds z 1000000 F := by
  have lF : tLo (sT S) l = F := by unfold tLo; rw [hF]; rfl
  unfold aRQ
  rw [hu, lF]
  rfl
theorem tKL_40 {T : TbS} (h : TbW T) : ∀ e ∈ tKL T, e.1 < 40 := by
  intro e he
  obtain ⟨k, hk, rfl⟩ := List.mem_map.mp he
  have := ((h.2.2.2.1 k).mp hk).1
  have h40 := h.1
  show k < 40
  omega
theorem NwA.sc {w w' : rW} (h : Rq NwA NwF w w') : Rq ScA ScF w w' := h.wide (fun n i z => Or.inr (by have z' : n = 15 := z; omega)) (fun j z => by unfold ScF; have z' : j = 30 := z; omega)
theorem run_all {w : rW} {S : AS} (h : MI w S) {p l : Int} (h0 : aRef S p l = 0) : ∃ w5 w7, fX12_asNow w = some w5 ∧ fX12_runs (iI p) (iI l) w5 = some w7 ∧ (∃ lk st, Mq w7 lk st false 0 (aRQ S p l 0 0)) ∧ MI w7 S ∧ qHk (aRQ S p l 0 0) := by
  obtain ⟨⟨u, hu⟩, ⟨F, hF⟩, -⟩ := aRef_0 h0
  obtain ⟨w5, e5, r5, k5⟩ := asNow_ok h
  have m5 := h.rq (NwA.sc r5)
  obtain ⟨w7, e7, q7, -, r7⟩ := run_gen m5 rfl k5 hu hF (sl := false) (odds := 0) (z := 0) (Or.inr ⟨rfl, m5.2.2.2, rfl⟩)
  rw [← aRQ_eq hu hF] at q7
  refine ⟨w5, w7, e5, e7, ⟨_, _, q7⟩, m5.rq (RuA.sc r7), ?_⟩
  rw [aRQ_eq hu hF]
  exact qRun_Hk (tKL_40 h.1.1)
theorem shn_b {q : QS} (h : qHk q) : (qH q = none ∧ qShn q Prod.snd = -4) ∨ ∃ e, qH q = some e ∧ qShn q Prod.snd = (e.2 : Int) ∧ e.2 < 40 := by
  unfold qShn
  cases hh : qH q with
  | none => exact Or.inl ⟨rfl, rfl⟩
  | some e => exact Or.inr ⟨e, rfl, rfl, h e hh⟩
theorem shn_if {q : QS} (h : qHk q) {α : Type} (A B : α) : (if iI (qShn q Prod.snd) < 0 then A else B) = if (qH q).isSome = true then B else A := by
  rcases shn_b h with ⟨e1, e2⟩ | ⟨e, e1, e2, e3⟩
  · rw [e1, e2, if_pos (by decide +kernel)]
    rfl
  · rw [e1, e2, if_neg (by rw [iL_0, iI_lt (by omega) (by omega) (by omega) (by omega)]; omega)]
    rfl
theorem bI_if {α : Type} (b : Bool) (w : α) : (if b = true then some ((1 : Int32), w) else some (0, w)) = some (iI (bI b), w) := by
  cases b <;> rfl
theorem m_run {w : rW} {S : AS} (h : MI w S) {p l q : Int} (hp : I32 p) (hl : I32 l) (hq : I32 q) : Md (fX12_run (iI p) (iI l) (iI q) w) (aRun S p l q) S := by
  have hq' := hq
  obtain ⟨q0, q1⟩ := hq
  have bd := aRef_bd S p l
  unfold aRun
  rw [fX12_run, z0N, show (4 : Int64) = (iI 4).toInt64 by decide +kernel, isIn_ok hq' (by unfold I32; omega) (by unfold I32; omega), Option.bind_some]
  by_cases c : 0 ≤ q ∧ q ≤ 4
  · rw [decide_eq_true c, if_neg iB_tn, if_pos c, mWrongRun h hp hl, Option.bind_some]
    by_cases c0 : aRef S p l = 0
    · obtain ⟨w5, w7, e5, e7, ⟨lk, st, m7⟩, h7, hk⟩ := run_all h c0
      obtain ⟨mN, mA, mS, -⟩ := m7
      rw [if_pos (by rw [c0]; rfl), if_pos c0, e5, Option.bind_some, e7, Option.bind_some, mS.1, mA.2.2.2.1, mN.1, mS.2.1, shn_if hk, bI_if]
      refine ⟨w7, ?_, h7⟩
      by_cases c1 : q = 0
      · rw [if_pos (by rw [c1]; rfl), if_pos c1]
      rw [if_neg (by rw [iL_0, iI_eq (by omega) (by omega) (by omega) (by omega)]; exact c1), if_neg c1]
      by_cases c2 : q = 1
      · rw [if_pos (by rw [c2]; rfl), if_pos c2]
      rw [if_neg (by rw [iL_1, iI_eq (by omega) (by omega) (by omega) (by omega)]; exact c2), if_neg c2]
      by_cases c3 : q = 2
      · rw [if_pos (by rw [c3]; rfl), if_pos c3]
      rw [if_neg (by rw [iL_2, iI_eq (by omega) (by omega) (by omega) (by omega)]; exact c3), if_neg c3]
      by_cases c4 : q = 3
      · rw [if_pos (by rw [c4]; rfl), if_pos c4]
      · rw [if_neg (by rw [iL_3, iI_eq (by omega) (by omega) (by omega) (by omega)]; exact c4), if_neg c4]
    · rw [if_neg (by rw [iL_0, iI_eq (by omega) (by omega) (by omega) (by omega)]; exact c0), if_neg c0]
      exact ⟨w, rfl, h⟩
  · rw [decide_eq_false c, if_pos iB_fz, if_neg c]
    exact ⟨w, by rw [iN_1], h⟩
theorem m_need {w : rW} {S : AS} (h : MI w S) {p l i j : Int} (hp : I32 p) (hl : I32 l) (hi : I32 i) (hj : I32 j) : Md (fX12_need (iI p) (iI l) (iI i) (iI j) w) (aNeed S p l i j) S := by
  obtain ⟨i0, i1⟩ := hi
  obtain ⟨j0, j1⟩ := hj
  have bd := aRef_bd S p l
  unfold aNeed
  rw [fX12_need]
  by_cases ci : i < 0
  · rw [if_pos (by rw [iL_0, iI_lt (by omega) (by omega) (by omega) (by omega)]; exact ci), if_neg (by omega)]
    exact ⟨w, by rw [iN_1], h⟩
  rw [if_neg (by rw [iL_0, iI_lt (by omega) (by omega) (by omega) (by omega)]; exact ci)]
  by_cases cj : 0 ≤ j
  · rw [if_pos (by rw [iL_0, iI_le (by omega) (by omega) (by omega) (by omega)]; exact cj), if_pos (show 0 ≤ i ∧ 0 ≤ j by omega), mWrongRun h hp hl, Option.bind_some]
    by_cases c0 : aRef S p l = 0
    · obtain ⟨w5, w7, e5, e7, ⟨lk, st, m7⟩, h7, hk⟩ := run_all h c0
      obtain ⟨mN, -⟩ := m7
      have n24 := mN.2.1
      rw [if_pos (by rw [c0]; rfl), if_pos c0, e5, Option.bind_some, e7, Option.bind_some, mN.1]
      refine ⟨w7, ?_, h7⟩
      cases hn : (qN (aRQ S p l 0 0))[i.toNat]? with
      | none =>
        have := List.getElem?_eq_none_iff.mp hn
        rw [if_pos (by rw [iI_le (by omega) (by omega) (by omega) (by omega)]; omega), iN_4]
      | some en =>
        obtain ⟨F, d⟩ := en
        have hlt := (List.getElem?_eq_some_iff.mp hn).1
        obtain ⟨g1, g2, g3, -⟩ := mN.2.2 _ F d hn
        have ei : iI i = iI ((i.toNat : Nat) : Int) := by congr 1; omega
        have ej : iI j = iI ((j.toNat : Nat) : Int) := by congr 1; omega
        have lt : (fTxt F).length = tln F := rfl
        rw [if_neg (by rw [iI_le (by omega) (by omega) (by omega) (by omega)]; omega), ei, raN (by omega) (by omega), Option.bind_some, g3, needOf_ok, Option.bind_some, iI_sub, show ((2400 + 64 * i.toNat + tln F : Nat) : Int) - ((2400 + 64 * i.toNat : Nat) : Int) = (tln F : Int) by omega, Option.bind_some]
        show _ = some (iI (bt (fTxt F) j), w7)
        by_cases cb : (tln F : Int) ≤ j
        · rw [if_pos (by rw [iI_le (by omega) (by omega) (by omega) (by omega)]; exact cb), bt_no cj (by omega), iN_4]
        · have hb := bt_ok g1.2.1 (i := j.toNat) (by omega)
          rw [show ((j.toNat : Nat) : Int) = j by omega] at hb
          rw [if_neg (by rw [iI_le (by omega) (by omega) (by omega) (by omega)]; exact cb), ej, iI_add, show ((2400 + 64 * i.toNat : Nat) : Int) + ((j.toNat : Nat) : Int) = ((2400 + 64 * i.toNat + j.toNat : Nat) : Int) by omega, raN (by omega) (by omega), Option.bind_some, hb]
    · rw [if_neg (by rw [iL_0, iI_eq (by omega) (by omega) (by omega) (by omega)]; exact c0), if_neg c0]
      exact ⟨w, rfl, h⟩
  · rw [if_neg (by rw [iL_0, iI_le (by omega) (by omega) (by omega) (by omega)]; exact cj), if_neg (by omega)]
    exact ⟨w, by rw [iN_1], h⟩
theorem rsI_f {w w' : rW} {n len : Nat} {i x : Int32} (h : rsI w n len i x = some w') : rF w' = rF w := by
  unfold rsI at h
  obtain ⟨j, -, e⟩ := Option.map_eq_some_iff.mp h
  rw [← e]
  rfl
theorem becomes_f {a b c d e : Int32} {w w' : rW} (h : fX12_becomes a b c d e w = some w') : rF w' = rF w := by
  rw [fX12_becomes] at h
  obtain ⟨w1, h1, h⟩ := Option.bind_eq_some_iff.mp h
  obtain ⟨w2, h2, h⟩ := Option.bind_eq_some_iff.mp h
  obtain ⟨w3, h3, h⟩ := Option.bind_eq_some_iff.mp h
  obtain ⟨w4, h4, h⟩ := Option.bind_eq_some_iff.mp h
  obtain ⟨v5, -, h⟩ := Option.bind_eq_some_iff.mp h
  obtain ⟨w6, h6, h⟩ := Option.bind_eq_some_iff.mp h
  obtain ⟨v7, -, h⟩ := Option.bind_eq_some_iff.mp h
  obtain ⟨w8, h8, h⟩ := Option.bind_eq_some_iff.mp h
  cases h
  rw [rsI_f h8, rsI_f h6, rsI_f h4, rsI_f h3, rsI_f h2, rsI_f h1]
theorem m_show {w : rW} {S : AS} (h : MI w S) {p l : Int} (hp : I32 p) (hl : I32 l) : Md (fX12_show (iI p) (iI l) w) (aShow S p l).1 (aShow S p l).2 := by
  have bd := aRef_bd S p l
  unfold aShow
  rw [fX12_show, mWrongRun h hp hl, Option.bind_some]
  by_cases c0 : aRef S p l = 0
  · obtain ⟨⟨u, hu⟩, ⟨F, hF⟩, h00⟩ := aRef_0 c0
    obtain ⟨w5, w7, e5, e7, ⟨lk, st, m7⟩, h7, hk⟩ := run_all h c0
    obtain ⟨mN, mA, mS, -⟩ := m7
    rw [if_pos (by rw [c0]; rfl), if_pos c0, e5, Option.bind_some, e7, Option.bind_some, mS.1]
    rcases shn_b hk with ⟨e1, e2⟩ | ⟨e, e1, e2, e3⟩
    · rw [e1, e2, if_neg (by decide +kernel)]
      exact ⟨w7, by rw [iN_4], h7⟩
    · obtain ⟨b0, b1, b2⟩ := tLn_lt hF
      obtain ⟨w8, e8, h8⟩ := becomes_ok h7 (s := 2) (4, (e.2 : Int), -4) b1 h00 (by omega) (by omega)
      have el : ((l.toNat : Nat) : Int) = l := by omega
      rw [el] at e8
      have e8' : fX12_becomes (iI l) (2 : Int32) (4 : Int32) (iI (e.2 : Nat)) (-4 : Int32) w7 = some w8 := by rw [iN_4]; exact e8
      rw [e1, e2, if_pos (by rw [iL_0, iI_le (by omega) (by omega) (by omega) (by omega)]; omega), e8', Option.bind_some, becomes_f e8', mA.2.2.2.1]
      exact ⟨w8, rfl, h8⟩
  · rw [if_neg (by rw [iL_0, iI_eq (by omega) (by omega) (by omega) (by omega)]; exact c0), if_neg c0]
    exact ⟨w, rfl, h⟩
theorem m_slips {w : rW} {S : AS} (h : MI w S) {p l z o q : Int} (hp : I32 p) (hl : I32 l) (ho : I32 o) (hq : I32 q) : Md (fX12_slips (iI p) (iI l) (iI z) (iI o) (iI q) w) (aSlips S p l z o q) S := by
  have ho' := ho
  have hq' := hq
  obtain ⟨o0, o1⟩ := ho
  obtain ⟨q0, q1⟩ := hq
  have bd := aRef_bd S p l
  unfold aSlips
  rw [fX12_slips, z0N, show (100 : Int64) = (iI 100).toInt64 by decide +kernel, show (3 : Int64) = (iI 3).toInt64 by decide +kernel, isIn_ok ho' (by unfold I32; omega) (by unfold I32; omega), Option.bind_some]
  by_cases c1 : 0 ≤ o ∧ o ≤ 100
  · rw [decide_eq_true c1, if_neg iB_tn, isIn_ok hq' (by unfold I32; omega) (by unfold I32; omega), Option.bind_some]
    by_cases c2 : 0 ≤ q ∧ q ≤ 3
    · rw [decide_eq_true c2, if_neg iB_tn, if_pos (show 0 ≤ o ∧ o ≤ 100 ∧ 0 ≤ q ∧ q ≤ 3 by omega), mWrongRun h hp hl, Option.bind_some]
      by_cases c0 : aRef S p l = 0
      · obtain ⟨⟨u, hu⟩, ⟨F, hF⟩, -⟩ := aRef_0 c0
        obtain ⟨w5, e5, r5, k5⟩ := asNow_ok h
        have m5 := h.rq (NwA.sc r5)
        obtain ⟨w6, ew6⟩ : ∃ w6, w6 = rSF (rSF (rSF w5 37 (1 : Int32)) 35 (iI z)) 36 (iI o) := ⟨_, rfl⟩
        have hA : rA w6 = rA w5 := by rw [ew6]; rfl
        have k6 : MkK w6 (tKL (sT S)) := by
          obtain ⟨a, b, c⟩ := k5
          refine ⟨?_, b, fun k num G e => ?_⟩
          · rw [ew6, rF_SF_o (by omega), rF_SF_o (by omega), rF_SF_o (by omega)]; exact a
          · obtain ⟨y1, y2⟩ := c k num G e
            exact ⟨by rw [hA]; exact y1, y2.eq hA⟩
        have s6 : SlP w6 true o (iI z) := Or.inl ⟨rfl, by rw [ew6, rF_SF_o (by omega), rF_SF_o (by omega), rF_SF_s]; rfl, by rw [ew6, rF_SF_s], by rw [ew6, rF_SF_o (by omega), rF_SF_s]⟩
        obtain ⟨w7, e7, q7, -, r7⟩ := run_gen m5 hA k6 hu hF s6
        rw [← aRQ_eq hu hF] at q7
        have hk : qHk (aRQ S p l (iI z) o) := by
          rw [aRQ_eq hu hF]
          exact qRun_Hk (tKL_40 h.1.1)
        obtain ⟨mN, mA, mS, -⟩ := q7
        have hfin : MI (rSF w7 37 (0 : Int32)) S := by
          have e : Rq ScA ScF w5 (rSF w7 37 (0 : Int32)) := by
            have a := RuA.sc r7
            refine ⟨fun n i hn => ?_, fun j hj => ?_⟩
            · rw [rA_SF, a.1 n i hn, hA]
            · by_cases cj : j = 37
              · rw [cj, rF_SF_s, m5.2.2.2]
              · have j10 : j = 10 := by
                  unfold ScF at hj
                  omega
                rw [rF_SF_o cj, a.2 j hj, ew6, rF_SF_o (by omega), rF_SF_o (by omega), rF_SF_o (by omega)]
          exact m5.rq e
        rw [if_pos (by rw [c0]; rfl), if_pos c0, e5, Option.bind_some, rpN, Option.bind_some, rpN, Option.bind_some, rpN, Option.bind_some, ← ew6, e7, Option.bind_some, rpN, Option.bind_some, rF_SF_o (show 31 ≠ 37 by omega), rF_SF_o (show 29 ≠ 37 by omega), rF_SF_o (show 33 ≠ 37 by omega), rF_SF_o (show 34 ≠ 37 by omega), mS.1, mA.2.2.2.1, mS.2.2.1, mS.2.2.2, shn_if hk, bI_if]
        refine ⟨_, ?_, hfin⟩
        by_cases d1 : q = 0
        · rw [if_pos (by rw [d1]; rfl), if_pos d1]
        rw [if_neg (by rw [iL_0, iI_eq (by omega) (by omega) (by omega) (by omega)]; exact d1), if_neg d1]
        by_cases d2 : q = 1
        · rw [if_pos (by rw [d2]; rfl), if_pos d2]
        rw [if_neg (by rw [iL_1, iI_eq (by omega) (by omega) (by omega) (by omega)]; exact d2), if_neg d2]
        by_cases d3 : q = 2
        · rw [if_pos (by rw [d3]; rfl), if_pos d3]
        · rw [if_neg (by rw [iL_2, iI_eq (by omega) (by omega) (by omega) (by omega)]; exact d3), if_neg d3]
      · rw [if_neg (by rw [iL_0, iI_eq (by omega) (by omega) (by omega) (by omega)]; exact c0), if_neg c0]
        exact ⟨w, rfl, h⟩
    · rw [decide_eq_false c2, if_pos iB_fz, if_neg (by omega)]
      exact ⟨w, by rw [iN_1], h⟩
  · rw [decide_eq_false c1, if_pos iB_fz, if_neg (by omega)]
    exact ⟨w, by rw [iN_1], h⟩
