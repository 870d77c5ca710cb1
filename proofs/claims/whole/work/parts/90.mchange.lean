/-! THE MODEL: one change -/
theorem chA_iff {f A n : Fo} {C : Fo → Fo} {P R X Y : List Nat} (h : IsC C P R X Y) (hn : fOk n) (hA : C n = A) (hf : fOk f) : ChA f A P.length ↔ ∃ n', oCh n n' ∧ fTxt f = P ++ (fTxt n' ++ R) := by
  constructor
  · rintro ⟨C2, P2, R2, X2, Y2, n2, n2', g, e, hn2, e2, ho, e3⟩
    have t1 := h.2.1 n
    have t2 := g.2.1 n2
    rw [hA] at t1
    rw [e2, t1] at t2
    obtain ⟨a, b⟩ := List.append_inj t2 e.symm
    obtain ⟨c, d⟩ := fTxt_inj n hn n2 R R2 hn2 b
    subst c
    exact ⟨n2', ho, by rw [e3, g.2.1, ← a, ← d]⟩
  · rintro ⟨n', ho, e⟩
    exact ⟨C, P, R, X, Y, n, n', h, rfl, hn, hA, ho, fTxt_eq hf (h.1 _ (oCh_ok ho hn)) (by rw [e, h.2.1])⟩
theorem chA_40 {f A : Fo} {j : Nat} (h : ChA f A j) : (fTxt A)[j]? = some 40 := by
  obtain ⟨C, P, R, X, Y, n, n', g, e, hn, e2, ⟨x, y, ho⟩, -⟩ := h
  rw [← e2, g.2.1, ← e, List.getElem?_append_right (Nat.le_refl _), Nat.sub_self]
  rcases ho with ⟨e3, -⟩ | ⟨e3, -⟩
  · rw [e3, txt_sub]; rfl
  · rw [e3, txt_add]; rfl
def MaA (n i : Nat) : Prop := n = 0 ∧ 8000 ≤ i
theorem change163 {w : rW} {l : Nat} {f G : Fo} (hl : Ml w l f) (hG : fOk G) {M Tt : List Nat} (eG : fTxt G = M ++ Tt) (hM : Ly (rA w 0) 8000 M) (hM1 : 1 ≤ M.length) (hlen : M.length + Tt.length ≤ 400) {sg to : Nat} (hT : Ly (rA w 0) (sg + 1) Tt) (hto : sg + 1 + Tt.length = to) (to8 : to ≤ 2400) (b k : Int32 → rW → Option (Int32 × rW)) (x2 x3 x5 : Int32) : ∃ w', fX12_isByChange_J20_163 b k (iI l) x2 x3 (iI to) x5 (iI sg) (iI (8000 + M.length - 1 : Nat)) w = (if fTxt G = fTxt f then some (1, w') else b (x5 + 1) w') ∧ Rq MaA NoF w w' := by
  have e1 : ∀ n : Nat, iI (n : Int) + 1 = iI (n + 1 : Nat) := fun n => by rw [iL_1, iI_add]; rfl
  obtain ⟨w1, g1, r1, l1⟩ := copies_ok (a := 8000 + M.length) hT (by omega) (by omega) (Or.inl (by omega))
  rw [hto] at g1
  have R1 : Rq MaA NoF w w1 := r1.wide (fun n i z => ⟨z.1, by have := z.2.1; omega⟩) (fun _ z => z)
  have m1 : Ly (rA w1 0) 8000 (M ++ Tt) := Ly.app (hM.rq r1 (fun j j1 j2 z => by obtain ⟨-, z1, z2⟩ := z; omega)) l1
  have L1 : Ml w1 l f := hl.rq R1 (fun j hj z => by have := z.2; omega) (fun j z => by have := z.1; omega)
  rw [← eG] at m1
  have lG : (fTxt G).length = M.length + Tt.length := by rw [eG, List.length_append]
  have sm := same_ok m1 L1.2.1.2.1 (fun c hc => by have := fTxt_lt G hG c hc; omega) (fun c hc => by have := fTxt_lt f hl.2.1.1 c hc; omega) (by omega) L1.2.1.2.2.1
  have sm' : fX12_same (8000 : Int32) (iI (8000 + M.length + Tt.length : Nat)) (iI (60 * l : Nat)) (iI (60 * l + tln f : Nat)) w1 = some (iB (decide (fTxt G = fTxt f))) := by
    rw [lG, ← Nat.add_assoc] at sm
    exact sm
  refine ⟨w1, ?_, R1⟩
  rw [fX12_isByChange_J20_163, e1, e1, show 8000 + M.length - 1 + 1 = 8000 + M.length by omega, g1, kb2_s, textOf_ok, Option.bind_some, Option.bind_some, L1.size, Option.bind_some, L1.to, sm', Option.bind_some]
  by_cases c : fTxt G = fTxt f
  · rw [decide_eq_true c, if_neg iB_tn, if_pos c]
  · rw [decide_eq_false c, if_pos iB_fz, if_neg c]
theorem Ly.tail2 {T : Nat → Int32} {p s : Nat} {u v : Fo} {R : List Nat} (h : Ly T p ((40 :: (fTxt u ++ s :: (fTxt v ++ [41]))) ++ R)) : Ly T (p + 1 + tln u + 1) (fTxt v ++ 41 :: R) := by
  have e : (40 :: (fTxt u ++ s :: (fTxt v ++ [41]))) ++ R = (40 :: (fTxt u ++ [s])) ++ (fTxt v ++ 41 :: R) := by simp
  rw [e] at h
  have := h.snd
  rw [List.length_cons, List.length_append, List.length_singleton, show p + ((fTxt u).length + 1 + 1) = p + 1 + tln u + 1 by have : (fTxt u).length = tln u := rfl; omega] at this
  exact this
theorem change_loop {l a : Nat} {f A : Fo} (x2 : Int32) : ∀ (m fu j : Nat) (w : rW), m < fu → j + m = tln A → Ml w l f → Ml w a A → ∃ w' b, fX12_isByChange_L20 (iI l) x2 (iI (60 * a : Nat)) (iI (60 * a + tln A : Nat)) fu (fun _ w => some (0, w)) (iI (60 * a + j : Nat)) w = some (iB b, w') ∧ Rq MaA NoF w w' ∧ (b = true ↔ ∃ j', j ≤ j' ∧ ChA f A j') := by
  have e1 : ∀ n : Nat, iI (n : Int) + 1 = iI (n + 1 : Nat) := fun n => by rw [iL_1, iI_add]; rfl
  have e2 : ∀ n : Nat, iI (n : Int) + 2 = iI (n + 2 : Nat) := fun n => by rw [iL_2, iI_add]; rfl
  intro m
  induction m with
  | zero =>
    intro fu j w hf hj hl ha
    obtain ⟨fu, rfl⟩ : ∃ n, fu = n + 1 := ⟨fu - 1, by omega⟩
    have b1 := ha.1
    have b2 := ha.2.2.1
    refine ⟨w, false, by rw [fX12_isByChange_L20, if_pos (by rw [iI_le (by omega) (by omega) (by omega) (by omega)]; omega)]; rfl, Rq.rf w, fun z => by (cases z), ?_⟩
    rintro ⟨j', h1, h2⟩
    have := (List.getElem?_eq_some_iff.mp (chA_40 h2)).1
    have e : tln A = (fTxt A).length := rfl
    omega
  | succ m ih =>
    intro fu j w hf hj hl ha
    obtain ⟨fu, rfl⟩ : ∃ n, fu = n + 1 := ⟨fu - 1, by omega⟩
    have b1 := ha.1
    have b2 := ha.2.2.1
    have eA : tln A = (fTxt A).length := rfl
    have hjl : j < (fTxt A).length := by omega
    have hc : rA w 0 (60 * a + j) = iI (fTxt A)[j] := ha.2.1.2.1 j _ (List.getElem?_eq_getElem hjl)
    have clt := fTxt_lt A ha.2.1.1 _ (List.getElem_mem hjl)
    -- it goes on
    have on : ∀ w1, Rq MaA NoF w w1 → ¬ ChA f A j → ∃ w' b, fX12_isByChange_L20 (iI l) x2 (iI (60 * a : Nat)) (iI (60 * a + tln A : Nat)) fu (fun _ w => some (0, w)) (iI (60 * a + j + 1 : Nat)) w1 = some (iB b, w') ∧ Rq MaA NoF w w' ∧ (b = true ↔ ∃ j', j ≤ j' ∧ ChA f A j') := fun w1 r1 hn => by
      obtain ⟨w2, b, e, r2, hb⟩ := ih fu (j + 1) w1 (by omega) (by omega) (hl.rq r1 (fun j hj z => by have := z.2; omega) (fun j z => by have := z.1; omega)) (ha.rq r1 (fun j hj z => by have := z.2; omega) (fun j z => by have := z.1; omega))
      refine ⟨w2, b, e, r1.tr r2, hb.trans ⟨fun ⟨j', h1, h2⟩ => ⟨j', by omega, h2⟩, fun ⟨j', h1, h2⟩ => ⟨j', ?_, h2⟩⟩⟩
      by_cases q : j' = j
      · rw [q] at h2; exact absurd h2 hn
      · omega
    rw [fX12_isByChange_L20, if_neg (by rw [iI_le (by omega) (by omega) (by omega) (by omega)]; omega), raN (by omega) (by omega), Option.bind_some, hc, e1]
    by_cases c40 : (fTxt A)[j] = 40
    · have spl : fTxt A = (fTxt A).take j ++ (fTxt A)[j] :: (fTxt A).drop (j + 1) := by rw [← List.drop_eq_getElem_cons hjl, List.take_append_drop]
      obtain ⟨n, C, R, X, Y, hn, hC, hI⟩ := txtPos A ha.2.1.1 _ _ _ spl (by omega)
      generalize hP : (fTxt A).take j = P at spl hI
      have lP : P.length = j := by rw [← hP, List.length_take]; omega
      have tA : fTxt A = P ++ (fTxt n ++ R) := by rw [← hC, hI.2.1]
      have lA : tln A = j + (tln n + R.length) := by rw [eA, tA, List.length_append, List.length_append, lP]; rfl
      have lyA : Ly (rA w 0) (60 * a) (P ++ (fTxt n ++ R)) := by rw [← tA]; exact ha.2.1.2.1
      have lyP := lyA.fst
      have lyn := lyA.snd.fst
      have lyR := lyA.snd.snd
      rw [lP] at lyn lyR
      have h40 : fTxt n ++ R = 40 :: (fTxt A).drop (j + 1) := by
        rw [spl, c40] at tA
        exact (List.append_cancel_left tA).symm
      have cha := chA_iff hI hn hC hl.2.1.1
      rw [lP] at cha
      -- the copy of what lies before
      obtain ⟨w1, g1, r1, l1⟩ := copies_ok (a := 8000) lyP (by omega) (by omega) (Or.inl (by omega))
      rw [lP] at g1 r1
      have g1' : fX12_copies (iI (60 * a : Nat)) (iI (60 * a + j : Nat)) (8000 : Int32) w = some (iI (8000 + j : Nat), w1) := g1
      have R1 : Rq MaA NoF w w1 := r1.wide (fun n i z => ⟨z.1, z.2.1⟩) (fun _ z => z)
      have R2 : Rq MaA NoF w1 (rSA w1 0 (8000 + j) (40 : Int32)) := Rq.sa ⟨rfl, by omega⟩
      have l2 : Ly (rA (rSA w1 0 (8000 + j) (40 : Int32)) 0) 8000 (P ++ [40]) := Ly.app (fun i d hd => by
        have hi := (List.getElem?_eq_some_iff.mp hd).1
        rw [rA_SA_j (by omega)]
        exact l1 i d hd) (Ly.cons (by rw [lP, rA_SA_s]; rfl) Ly.nil)
      have R12 := R1.tr R2
      generalize hw2 : rSA w1 0 (8000 + j) (40 : Int32) = w2 at R12 l2
      have lo : ∀ i, i < 8000 → rA w2 0 i = rA w 0 i := fun i hi => R12.1 0 i (fun z => by have := z.2; omega)
      have oA : Ml w2 a A := ha.rq R12 (fun j hj z => by have := z.2; omega) (fun j z => by have := z.1; omega)
      have lyA2 : Ly (rA w2 0) (60 * a) (P ++ (fTxt n ++ R)) := by rw [← tA]; exact oA.2.1.2.1
      have Ltn : Lt w (60 * a + j) n := ⟨hn, lyn, by omega, by have := (lev_tl n hn).1; omega⟩
      have Ltn2 : Lt w2 (60 * a + j) n := Ltn.of (fun i h1 h2 => lo i (by omega))
      rw [if_pos (by rw [c40]; rfl)]
      rcases fCases hn with ⟨i, hi, rfl⟩ | ⟨c, hcc, rfl⟩ | ⟨u, v, hu, hv, rfl⟩ | ⟨u, v, hu, hv, rfl⟩
      · have := (List.cons.inj (show (112 + i) :: R = 40 :: _ from h40)).1
        omega
      · have := (List.cons.inj (show 126 :: (fTxt c ++ R) = 40 :: _ from h40)).1
        omega
      · -- add u v
        obtain ⟨q1, q2, q3, q4, q5⟩ := Ltn.ad
        obtain ⟨p1, p2, p3, p4, p5⟩ := Ltn2.ad
        rw [tln_add] at lA
        rw [q2.end, Option.bind_some, g1', kb2_s, rsN (by omega) (by omega), Option.bind_some, hw2, raN (by omega) (by omega), Option.bind_some, p3, if_neg (by decide +kernel), raN (by omega) (by omega), Option.bind_some]
        rcases fCases hu with ⟨i, hi, rfl⟩ | ⟨c, hcc, rfl⟩ | ⟨u1, u2, h1, h2, rfl⟩ | ⟨u1, u2, h1, h2, rfl⟩
        · rw [p2.va.1, if_neg (by rw [iL_126, iI_eq (by omega) (by omega) (by omega) (by omega)]; omega)]
          refine on w2 R12 (fun z => ?_)
          obtain ⟨n', ⟨x, y, ⟨z1, -⟩ | ⟨z1, -⟩⟩, -⟩ := cha.mp z <;> cases z1
        · -- the change
          rw [tln_neg] at lA
          rw [p2.nx.1, if_pos (by decide +kernel)]
          have lyc := p2.nx.2.2.1
          obtain ⟨w3, g3, r3, l3⟩ := copies_ok (a := 8000 + j + 1) lyc (by have : (fTxt c).length = tln c := rfl; omega) (by have : (fTxt c).length = tln c := rfl; omega) (Or.inl (by have : (fTxt c).length = tln c := rfl; omega))
          have g3' : fX12_copies (iI (60 * a + j + 2 : Nat)) (iI (60 * a + j + 1 + tln (.neg c) : Nat)) (iI (8000 + j + 1 : Nat)) w2 = some (iI (8000 + j + 1 + tln c : Nat), w3) := by
            rw [tln_neg, show 60 * a + j + 1 + (tln c + 1) = 60 * a + j + 1 + 1 + (fTxt c).length by have : (fTxt c).length = tln c := rfl; omega]
            exact g3
          have R3 : Rq MaA NoF w2 w3 := r3.wide (fun n i z => ⟨z.1, by have := z.2.1; omega⟩) (fun _ z => z)
          have R4 : Rq MaA NoF w3 (rSA w3 0 (8000 + j + 1 + tln c) (62 : Int32)) := Rq.sa ⟨rfl, by omega⟩
          have R24 := R12.tr (R3.tr R4)
          have m4 : Ly (rA (rSA w3 0 (8000 + j + 1 + tln c) (62 : Int32)) 0) 8000 ((P ++ [40]) ++ (fTxt c ++ [62])) := by
            refine Ly.app (fun i d hd => ?_) (Ly.app (fun i d hd => ?_) (Ly.cons ?_ Ly.nil))
            · have hi := (List.getElem?_eq_some_iff.mp hd).1
              rw [List.length_append, List.length_singleton, lP] at hi
              rw [rA_SA_j (by omega), r3.1 0 _ (fun z => by have := z.2.1; omega)]
              exact l2 i d hd
            · have hi := (List.getElem?_eq_some_iff.mp hd).1
              have : (fTxt c).length = tln c := rfl
              rw [List.length_append, List.length_singleton, lP, rA_SA_j (by omega)]
              have := l3 i d hd
              rw [← this]
              congr 1
            · rw [List.length_append, List.length_singleton, lP, show 8000 + (j + 1) + (fTxt c).length = 8000 + j + 1 + tln c by have : (fTxt c).length = tln c := rfl; omega, rA_SA_s]
              rfl
          have oL : Ml (rSA w3 0 (8000 + j + 1 + tln c) (62 : Int32)) l f := hl.rq R24 (fun j hj z => by have := z.2; omega) (fun j z => by have := z.1; omega)
          have h0 : Ly (rA w 0) (60 * a + j) (fTxt (.add (.neg c) v) ++ R) := by have := lyA.snd; rw [lP] at this; exact this
          have tT : Ly (rA (rSA w3 0 (8000 + j + 1 + tln c) (62 : Int32)) 0) (60 * a + j + 1 + tln (.neg c) + 1) (fTxt v ++ 41 :: R) := (Ly.tail2 (u := .neg c) h0).rq R24 (fun i i1 i2 z => by
            have z2 := z.2
            rw [List.length_append, List.length_cons, tln_neg] at i2
            have : (fTxt v).length = tln v := rfl
            omega)
          have eG : fTxt (C (.sub c v)) = ((P ++ [40]) ++ (fTxt c ++ [62])) ++ (fTxt v ++ 41 :: R) := by rw [hI.2.1, txt_sub]; simp
          have lM : ((P ++ [40]) ++ (fTxt c ++ [62])).length = j + 1 + (tln c + 1) := by
            rw [List.length_append, List.length_append, List.length_append, lP]
            rfl
          have lT : (fTxt v ++ 41 :: R).length = tln v + (R.length + 1) := by rw [List.length_append, List.length_cons]; rfl
          obtain ⟨w5, g5, r5⟩ := change163 (to := 60 * a + tln A) (sg := 60 * a + j + 1 + tln (.neg c)) oL (hI.1 (.sub c v) ⟨hcc, hv⟩) eG m4 (by rw [lM]; omega) (by rw [lM, lT]; omega) tT (by rw [lT, tln_neg]; omega) (by omega) (fun q5 qw => fX12_isByChange_L20 (iI l) x2 (iI (60 * a : Nat)) (iI (60 * a + tln A : Nat)) fu (fun _ w => some (0, w)) q5 qw) (fun _ w => some (0, w)) x2 (iI (60 * a : Nat)) (iI (60 * a + j : Nat))
          rw [lM, show 8000 + (j + 1 + (tln c + 1)) - 1 = 8000 + j + 1 + tln c by omega] at g5
          rw [e2, e1, g3', kb2_s, rsN (by omega) (by omega), Option.bind_some, g5, e1]
          by_cases cf : fTxt (C (.sub c v)) = fTxt f
          · rw [if_pos cf]
            exact ⟨w5, true, rfl, R24.tr r5, fun _ => ⟨j, Nat.le_refl _, cha.mpr ⟨.sub c v, ⟨c, v, Or.inr ⟨rfl, rfl⟩⟩, by rw [← cf, hI.2.1]⟩⟩, fun _ => rfl⟩
          · rw [if_neg cf]
            refine on w5 (R24.tr r5) (fun z => ?_)
            obtain ⟨n', ⟨x, y, ⟨z1, -⟩ | ⟨z1, z2⟩⟩, z3⟩ := cha.mp z
            · cases z1
            · cases z1
              rw [z2] at z3
              exact cf (by rw [hI.2.1, z3])
        · rw [p2.ad.1, if_neg (by decide +kernel)]
          refine on w2 R12 (fun z => ?_)
          obtain ⟨n', ⟨x, y, ⟨z1, -⟩ | ⟨z1, -⟩⟩, -⟩ := cha.mp z <;> cases z1
        · rw [p2.su.1, if_neg (by decide +kernel)]
          refine on w2 R12 (fun z => ?_)
          obtain ⟨n', ⟨x, y, ⟨z1, -⟩ | ⟨z1, -⟩⟩, -⟩ := cha.mp z <;> cases z1
      · -- sub u v
        obtain ⟨q1, q2, q3, q4, q5⟩ := Ltn.su
        obtain ⟨p1, p2, p3, p4, p5⟩ := Ltn2.su
        rw [tln_sub] at lA
        have R3 : Rq MaA NoF w2 (rSA w2 0 (8000 + j + 1) (126 : Int32)) := Rq.sa ⟨rfl, by omega⟩
        have lyu : Ly (rA (rSA w2 0 (8000 + j + 1) (126 : Int32)) 0) (60 * a + j + 1) (fTxt u) := p2.2.1.rq R3 (fun i i1 i2 z => by
          have z2 := z.2
          have : (fTxt u).length = tln u := rfl
          omega)
        obtain ⟨w3, g3, r3, l3⟩ := copies_ok (a := 8000 + j + 2) lyu (by have : (fTxt u).length = tln u := rfl; omega) (by have : (fTxt u).length = tln u := rfl; omega) (Or.inl (by have : (fTxt u).length = tln u := rfl; omega))
        have g3' : fX12_copies (iI (60 * a + j + 1 : Nat)) (iI (60 * a + j + 1 + tln u : Nat)) (iI (8000 + j + 2 : Nat)) (rSA w2 0 (8000 + j + 1) (126 : Int32)) = some (iI (8000 + j + 2 + tln u : Nat), w3) := g3
        have R4 : Rq MaA NoF (rSA w2 0 (8000 + j + 1) (126 : Int32)) w3 := r3.wide (fun n i z => ⟨z.1, by have := z.2.1; omega⟩) (fun _ z => z)
        have R5 : Rq MaA NoF w3 (rSA w3 0 (8000 + j + 2 + tln u) (118 : Int32)) := Rq.sa ⟨rfl, by omega⟩
        have R25 := R12.tr ((R3.tr R4).tr R5)
        have m4 : Ly (rA (rSA w3 0 (8000 + j + 2 + tln u) (118 : Int32)) 0) 8000 ((P ++ [40]) ++ 126 :: (fTxt u ++ [118])) := by
          refine Ly.app (fun i d hd => ?_) (Ly.cons ?_ (Ly.app (fun i d hd => ?_) (Ly.cons ?_ Ly.nil)))
          · have hi := (List.getElem?_eq_some_iff.mp hd).1
            rw [List.length_append, List.length_singleton, lP] at hi
            rw [rA_SA_j (by omega), r3.1 0 _ (fun z => by have := z.2.1; omega), rA_SA_j (by omega)]
            exact l2 i d hd
          · rw [List.length_append, List.length_singleton, lP, rA_SA_j (by omega), r3.1 0 _ (fun z => by have := z.2.1; omega), show 8000 + (j + 1) = 8000 + j + 1 by omega, rA_SA_s]
            rfl
          · have hi := (List.getElem?_eq_some_iff.mp hd).1
            have : (fTxt u).length = tln u := rfl
            rw [List.length_append, List.length_singleton, lP, rA_SA_j (by omega)]
            have := l3 i d hd
            rw [← this]
            congr 1
          · rw [List.length_append, List.length_singleton, lP, show 8000 + (j + 1) + 1 + (fTxt u).length = 8000 + j + 2 + tln u by have : (fTxt u).length = tln u := rfl; omega, rA_SA_s]
            rfl
        have oL : Ml (rSA w3 0 (8000 + j + 2 + tln u) (118 : Int32)) l f := hl.rq R25 (fun j hj z => by have := z.2; omega) (fun j z => by have := z.1; omega)
        have h0 : Ly (rA w 0) (60 * a + j) (fTxt (.sub u v) ++ R) := by have := lyA.snd; rw [lP] at this; exact this
        have tT : Ly (rA (rSA w3 0 (8000 + j + 2 + tln u) (118 : Int32)) 0) (60 * a + j + 1 + tln u + 1) (fTxt v ++ 41 :: R) := (Ly.tail2 (u := u) h0).rq R25 (fun i i1 i2 z => by
          have z2 := z.2
          rw [List.length_append, List.length_cons] at i2
          have : (fTxt v).length = tln v := rfl
          omega)
        have eG : fTxt (C (.add (.neg u) v)) = ((P ++ [40]) ++ 126 :: (fTxt u ++ [118])) ++ (fTxt v ++ 41 :: R) := by rw [hI.2.1, txt_add, txt_neg]; simp
        have lM : ((P ++ [40]) ++ 126 :: (fTxt u ++ [118])).length = j + 1 + (tln u + 1 + 1) := by
          rw [List.length_append, List.length_append, lP]
          show j + 1 + ((fTxt u ++ [118]).length + 1) = _
          rw [List.length_append]
          rfl
        have lT : (fTxt v ++ 41 :: R).length = tln v + (R.length + 1) := by rw [List.length_append, List.length_cons]; rfl
        obtain ⟨w5, g5, r5⟩ := change163 (to := 60 * a + tln A) (sg := 60 * a + j + 1 + tln u) oL (hI.1 (.add (.neg u) v) ⟨hu, hv⟩) eG m4 (by rw [lM]; omega) (by rw [lM, lT]; omega) tT (by rw [lT]; omega) (by omega) (fun q5 qw => fX12_isByChange_L20 (iI l) x2 (iI (60 * a : Nat)) (iI (60 * a + tln A : Nat)) fu (fun _ w => some (0, w)) q5 qw) (fun _ w => some (0, w)) x2 (iI (60 * a : Nat)) (iI (60 * a + j : Nat))
        rw [lM, show 8000 + (j + 1 + (tln u + 1 + 1)) - 1 = 8000 + j + 2 + tln u by omega] at g5
        rw [q2.end, Option.bind_some, g1', kb2_s, rsN (by omega) (by omega), Option.bind_some, hw2, raN (by omega) (by omega), Option.bind_some, p3, if_pos (by decide +kernel), e1, rsN (by omega) (by omega), Option.bind_some, e2, g3', kb2_s, rsN (by omega) (by omega), Option.bind_some, g5, e1]
        by_cases cf : fTxt (C (.add (.neg u) v)) = fTxt f
        · rw [if_pos cf]
          exact ⟨w5, true, rfl, R25.tr r5, fun _ => ⟨j, Nat.le_refl _, cha.mpr ⟨.add (.neg u) v, ⟨u, v, Or.inl ⟨rfl, rfl⟩⟩, by rw [← cf, hI.2.1]⟩⟩, fun _ => rfl⟩
        · rw [if_neg cf]
          refine on w5 (R25.tr r5) (fun z => ?_)
          obtain ⟨n', ⟨x, y, ⟨z1, z2⟩ | ⟨z1, -⟩⟩, z3⟩ := cha.mp z
          · cases z1
            rw [z2] at z3
            exact cf (by rw [hI.2.1, z3])
          · cases z1
    · rw [if_neg (by rw [iL_40, iI_eq (by omega) (by omega) (by omega) (by omega)]; omega)]
      exact on w (Rq.rf w) (fun z => c40 (by have := chA_40 z; rw [List.getElem?_eq_getElem hjl] at this; exact Option.some.inj this))
theorem mByChange {w : rW} {l a : Nat} {f A : Fo} (hl : Ml w l f) (ha : Ml w a A) : ∃ w', fX12_isByChange (iI l) (iI a) w = some (iB (fMean f A), w') ∧ Rq MaA NoF w w' := by
  obtain ⟨w', b, e, r, hb⟩ := change_loop (iI a) (tln A) kFU 0 w (by unfold kFU; have := ha.2.2.1; omega) (by omega) hl ha
  have eb : b = fMean f A := by
    have := mean_iff hl.2.1.1 ha.2.1.1
    cases hm : fMean f A with
    | true =>
      obtain ⟨j, hj⟩ := this.mp hm
      exact hb.mpr ⟨j, Nat.zero_le _, hj⟩
    | false =>
      cases b with
      | false => rfl
      | true =>
        obtain ⟨j, -, hj⟩ := hb.mp rfl
        rw [this.mpr ⟨j, hj⟩] at hm
        cases hm
  rw [eb] at e
  refine ⟨w', ?_, r⟩
  rw [fX12_isByChange, textOf_ok, Option.bind_some, ha.size, Option.bind_some, ha.to]
  exact e
