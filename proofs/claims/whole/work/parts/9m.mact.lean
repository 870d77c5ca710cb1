/-! .. chains ahead, any act; the loops -/
theorem qBe_over {lk : Bool} {st d : Nat} {F G : Fo} {q : QS} (h : qO q = true) : qBe lk st d F G q = q := by
  cases F with
  | sub a b =>
    cases G with
    | sub x y =>
      show (if (qDn lk st (fLike b y) q).1 = true then (match fMt y b σ0 with | some σ => qOf d (.sub a (fSb σ x)) (qDn lk st (fLike b y) q).2 | none => (qDn lk st (fLike b y) q).2) else (qDn lk st (fLike b y) q).2) = q
      have e : qDn lk st (fLike b y) q = (false, q) := by
        unfold qDn
        rw [h, Bool.true_or, if_pos rfl]
      rw [e]
      rfl
    | _ => rfl
  | _ => rfl
theorem go_a {w : rW} {lk : Bool} {st : Nat} {sl : Bool} {odds : Int} {q : QS} (h : Mq w lk st sl odds q) (ho : qO q = false) {num i d : Nat} {a b X Y : Fo} (hG : Ml w num (.sub X Y)) (hN : (qN q)[i]? = some (.sub a b, d)) : Go w lk st sl odds (fX12_chains (iI (60 * num : Nat)) (iI (60 * num + 1 + tln X : Nat)) (iI (2400 + 64 * i : Nat)) (iI (d + 1 : Nat)) w) (qBe lk st d (.sub a b) (.sub X Y) (qAh lk st d (.sub a b) (.sub X Y) q)) := by
  obtain ⟨n1, n2, n3⟩ := id h.1
  obtain ⟨f1, f2, f3, f4, f5⟩ := n3 i _ d hN
  have hi := (List.getElem?_eq_some_iff.mp hN).1
  have l40 := hG.1
  have t60 := hG.2.2.1
  obtain ⟨p1, p2, p3, p4, p5⟩ := hG.2.1.su
  obtain ⟨g1, g2, g3, g4, g5⟩ := f1.su
  rw [tln_sub] at t60
  have eT : iI (2400 + 64 * i + tln (.sub a b) : Nat) = iI (2400 + 64 * i + 1 + tln a + (tln b + 2) : Nat) := by
    rw [tln_sub]
    congr 2
    omega
  rw [tln_sub] at f2
  rw [fX12_chains, e1s, g2.end, Option.bind_some, f1.end, Option.bind_some, e1s, eT, like_if h (g2.like p2)]
  show Go w lk st sl odds _ (qBe lk st d (.sub a b) (.sub X Y) (if (qDn lk st (fLike a X) q).1 = true then (match fMt X a σ0 with | some σ => qOf d (.sub (fSb σ Y) b) (qDn lk st (fLike a X) q).2 | none => (qDn lk st (fLike a X) q).2) else (qDn lk st (fLike a X) q).2))
  rw [qDn_eq ho]
  by_cases c1 : (lk && !fLike a X) = true
  · rw [if_pos c1, if_pos c1]
    exact go_b h ho hG hN _
  rw [if_neg c1, if_neg c1, fX12_chains_J36, act_if h]
  by_cases c2 : qA q < st
  · rw [if_pos c2, if_pos c2]
    have hc := h.count c2
    show Go w lk st sl odds _ (qBe lk st d (.sub a b) (.sub X Y) (if true = true then (match fMt X a σ0 with | some σ => qOf d (.sub (fSb σ Y) b) (q1 q) | none => q1 q) else q1 q))
    rw [if_pos rfl]
    refine Go.pre (Rq.ac29 (x := iI (qA q + 1 : Nat))) ?_
    have gG := hG.ac (Rq.ac29 (x := iI (qA q + 1 : Nat)))
    have gF : Lt (rSF w 29 (iI (qA q + 1 : Nat))) (2400 + 64 * i) (.sub a b) := f1
    generalize rSF w 29 (iI (qA q + 1 : Nat)) = w1 at hc gG gF ⊢
    obtain ⟨-, gX, -, gY, -⟩ := gG.2.1.su
    obtain ⟨-, gA, -, gB, -⟩ := gF.su
    obtain ⟨w2, e2, r2, m2⟩ := comesZ_ok (lo := 2400 + 64 * i + 1) (hi := 2400 + 64 * i + 1 + tln a) gX gA (Nat.le_refl _) (Nat.le_refl _)
    have h2 := hc.pt r2
    have oq : qO (q1 q) = false := ho
    have gG2 := gG.ac (PtA.ac r2)
    rw [e1s, e1s, e2, kb2_s]
    refine Go.pre (PtA.ac r2) ?_
    cases hm : fMt X a σ0 with
    | none =>
      rw [if_pos (show iB (none : Option (Nat → Option Fo)).isSome = 0 from rfl)]
      exact go_b h2 oq gG2 hN _
    | some σ =>
      have hz := m2 σ hm
      have gF2 := gF.pt r2
      rw [if_neg (show ¬ iB (some σ).isSome = 0 from iB_tn)]
      have lt : (fTxt Y).length = tln Y := rfl
      have lb : (62 :: (fTxt b ++ [41])).length = tln b + 2 := by
        rw [List.length_cons, List.length_append, List.length_singleton]
        rfl
      have c8 : (8000 : Int32) = iI ((8000 : Nat) : Int) := by decide +kernel
      have c81 : (8001 : Int32) = iI ((8001 : Nat) : Int) := by decide +kernel
      obtain ⟨w3, ew3⟩ : ∃ w3, w3 = rSA w2 0 8000 (40 : Int32) := ⟨_, rfl⟩
      have r3 : Rq (InA 8000 8001) NoF w2 w3 := by rw [ew3]; exact Rq.sa ⟨rfl, Nat.le_refl _, by omega⟩
      have h3 := h2.in (by omega) r3
      have hz3 := hz.rq r3 (fun n i z => ⟨z.1, z.2.1⟩) (by omega)
      have gG3 := gG2.ac (InA.ac (by omega) r3)
      have gF3 := gF2.rq r3 (fun k k1 k2 z => by have := z.2.1; rw [tln_sub] at k2; omega)
      obtain ⟨-, -, -, gY3, -⟩ := gG3.2.1.su
      obtain ⟨j, w4, j1, j2, j3, j4, j5, j6⟩ := mk_ok (by omega) (by omega) gY3 (by omega) hz3 (o := 8001) (by omega) (by omega)
      have h4 := h3.in (by omega) j3
      have gF4 := gF3.rq j3 (fun k k1 k2 z => by have := z.2.1; rw [tln_sub] at k2; omega)
      obtain ⟨M, eM⟩ : ∃ M, M = mkL σ ((fTxt Y).take j) := ⟨_, rfl⟩
      rw [← eM] at j2 j3 j4 j5 j6
      have hb : j = (fTxt Y).length ∨ 20 < (mkL σ ((fTxt Y).take j)).countP noP := j5.imp id (fun z => by rw [eM] at z; exact cut_big hz.sok (by omega) (b := 8001) (by omega) z)
      have l4 := (Mz.pos gF4).2
      obtain ⟨w5, e5, r5, l5⟩ := copies_ok (a := 8001 + M.length) l4 (by rw [lb]; omega) (by rw [lb]; omega) (Or.inl (by rw [lb]; omega))
      rw [lb] at e5 r5
      have h5 := h4.in (by omega) r5
      have L5 : Ly (rA w5 0) 8000 ([40] ++ (M ++ (62 :: (fTxt b ++ [41])))) := by
        refine Ly.app (Ly.cons ?_ Ly.nil) (Ly.app (j4.rq r5 (fun k k1 k2 z => by have := z.2.1; omega)) l5)
        rw [r5.1 0 _ (fun z => by have := z.2.1; omega), j3.1 0 _ (fun z => by have := z.2.1; omega), ew3, rA_SA_s]
        decide +kernel
      have dl := (h5.1.2.2 i _ d hN).2.2.2.2
      have hil : i < (qN (q1 q)).length := hi
      have lM : ([40] ++ (M ++ (62 :: (fTxt b ++ [41])))).length = 1 + M.length + (tln b + 2) := by
        rw [List.length_append, List.length_append, lb, List.length_singleton]
        omega
      have es : fTxt (.sub (fSb σ Y) b) = [40] ++ (mkL σ (fTxt Y) ++ (62 :: (fTxt b ++ [41]))) := by
        rw [mkL_txt σ Y gY.1]
        rfl
      rw [eM] at L5 lM
      obtain ⟨w6, e6, N6, r6⟩ := offer_ok h5.1 hz.sok (D := .sub (fSb σ Y) b) ⟨mSb_ok hz.sok Y gY.1, gF.1.2⟩ es hb L5 (by rw [lM, ← eM]; omega) (fTxt_lt Y gY.1) (dd := d) (by omega)
      rw [lM, ← eM, show 8000 + (1 + M.length + (tln b + 2)) = 8001 + M.length + (tln b + 2) by omega] at e6
      rw [c8, rsN (by omega) (by omega), Option.bind_some, ← ew3, e1s, gY3.end, Option.bind_some, c81, j2, kb2_s, e5, kb2_s, e6, Option.bind_some]
      have rr : Rq AcA AcF w2 w6 := (((InA.ac (by omega) r3).tr (InA.ac (by omega) j3)).tr (InA.ac (by omega) r5)).tr (CoA.ac r6)
      refine Go.pre rr ?_
      have h6 := h5.nd r6 N6
      have hN6 : (qN (qOf d (.sub (fSb σ Y) b) (q1 q)))[i]? = some (.sub a b, d) := (qOf_g (show d < (qN (q1 q)).length by omega)).at hN
      show Go w6 lk st sl odds _ (qBe lk st d (.sub a b) (.sub X Y) (qOf d (.sub (fSb σ Y) b) (q1 q)))
      rw [qOf_eq] at hN6 ⊢
      exact go_b h6 oq (gG2.ac rr) hN6 _
  · rw [if_neg c2, if_neg c2]
    show Go w lk st sl odds _ (qBe lk st d (.sub a b) (.sub X Y) (qMk (qN q) (qA q) true (qH q) (qZ q) (qS q) (qU q)))
    rw [qBe_over (by rfl)]
    exact Go.no h
theorem go_c {w : rW} {lk : Bool} {st : Nat} {sl : Bool} {odds : Int} {q : QS} (h : Mq w lk st sl odds q) (ho : qO q = false) {num i d : Nat} {F G : Fo} (hG : Ml w num G) (hN : (qN q)[i]? = some (F, d)) : Go w lk st sl odds (fX12_goesOn (99 : Int32) (iI num) (iI i) w) (qBe lk st d F G (qAh lk st d F G q)) := by
  obtain ⟨n1, n2, n3⟩ := id h.1
  obtain ⟨f1, f2, f3, f4, f5⟩ := n3 i F d hN
  have hi := (List.getElem?_eq_some_iff.mp hN).1
  rw [fX12_goesOn, needOf_ok, Option.bind_some, textOf_ok, Option.bind_some, if_neg (by decide +kernel), hG.2.1.isIf, Option.bind_some]
  cases hI : fIsIf G with
  | false =>
    rw [if_pos iB_fz, qAh_no (Or.inl hI), qBe_no (Or.inl hI)]
    exact Go.rf h ho
  | true =>
    obtain ⟨X, Y, rfl⟩ := fIsIf_ex hI
    obtain ⟨p1, p2, p3, p4, p5⟩ := hG.2.1.su
    rw [if_neg iB_tn, e1s, p2.end, Option.bind_some, if_neg (by decide +kernel), f1.isIf, Option.bind_some]
    cases hJ : fIsIf F with
    | false =>
      rw [if_pos iB_fz, qAh_no (Or.inr hJ), qBe_no (Or.inr hJ)]
      exact Go.rf h ho
    | true =>
      obtain ⟨a, b, rfl⟩ := fIsIf_ex hJ
      obtain ⟨w', e, m, r⟩ := go_a h ho hG hN
      rw [if_neg iB_tn, raN (by omega) (by omega), Option.bind_some, f4, e1s, e, kb2_s]
      refine ⟨w', ?_, m, r⟩
      cases qO (qBe lk st d (.sub a b) (.sub X Y) (qAh lk st d (.sub a b) (.sub X Y) q)) <;> rfl
theorem go_any {w : rW} {lk : Bool} {st : Nat} {sl : Bool} {odds : Int} {q : QS} (h : Mq w lk st sl odds q) (ho : qO q = false) {c : Nat} (hc : c = 109 ∨ c = 100 ∨ c = 99) {num i d : Nat} {F G : Fo} (hG : Ml w num G) (hN : (qN q)[i]? = some (F, d)) : Go w lk st sl odds (fX12_goesOn (iI c) (iI num) (iI i) w) (qAct lk st odds c F d num G q) := by
  rcases hc with rfl | rfl | rfl
  · exact go_m h ho hG hN
  · exact go_d h ho hG hN
  · exact go_c h ho hG hN
/-- the known lines, the cards, as a run has them -/
def MkK (w : rW) (K : List (Nat × Fo)) : Prop := rF w 30 = iI K.length ∧ K.length ≤ 40 ∧ ∀ (k num : Nat) (G : Fo), K[k]? = some (num, G) → rA w 15 k = iI num ∧ Ml w num G
def MkC (w : rW) (acts : List Nat) : Prop := rF w 21 = iI acts.length ∧ acts.length ≤ 120 ∧ ∀ (j c : Nat), acts[j]? = some c → rA w 12 j = iI c ∧ (c = 109 ∨ c = 100 ∨ c = 99)
theorem MkK.ac {w w' : rW} {K : List (Nat × Fo)} (h : MkK w K) (hs : Rq AcA AcF w w') : MkK w' K := by
  obtain ⟨a, b, c⟩ := h
  refine ⟨by rw [hs.2 30 (fun z => by rcases z with z | z | z | z | z | z | z <;> omega)]; exact a, b, fun k num G e => ?_⟩
  obtain ⟨c1, c2⟩ := c k num G e
  exact ⟨by rw [hs.1 15 k (fun z => by rcases z with z | z | z | z | z <;> omega)]; exact c1, c2.ac hs⟩
theorem MkC.ac {w w' : rW} {acts : List Nat} (h : MkC w acts) (hs : Rq AcA AcF w w') : MkC w' acts := by
  obtain ⟨a, b, c⟩ := h
  refine ⟨by rw [hs.2 21 (fun z => by rcases z with z | z | z | z | z | z | z <;> omega)]; exact a, b, fun j x e => ?_⟩
  obtain ⟨c1, c2⟩ := c j x e
  exact ⟨by rw [hs.1 12 j (fun z => by rcases z with z | z | z | z | z <;> omega)]; exact c1, c2⟩
theorem runK {K : List (Nat × Fo)} {lk : Bool} {st : Nat} {sl : Bool} {odds : Int} (x1 x2 x3 : Int32) {i j d c : Nat} {F : Fo} (hc : c = 109 ∨ c = 100 ∨ c = 99) (hj : j < 120) (T : rW → Option rW) : ∀ (m fu k : Nat) (w : rW) (q : QS), m < fu → k + m = K.length → Mq w lk st sl odds q → qO q = false → MkK w K → rA w 12 j = iI c → (qN q)[i]? = some (F, d) → d < (qN q).length →
    ∃ w', fX12_runs_L62 x1 x2 x3 (iI i) (iI j) fu (fun _ p => T p) (iI k) w = (if qO (qKs lk st odds c F d (K.drop k) q) = true then some w' else T w') ∧ Mq w' lk st sl odds (qKs lk st odds c F d (K.drop k) q) ∧ Rq AcA AcF w w' := by
  intro m
  induction m with
  | zero =>
    intro fu k w q hf hk h ho hK h12 hN hd
    obtain ⟨fu, rfl⟩ : ∃ z, fu = z + 1 := ⟨fu - 1, by omega⟩
    have n40 := hK.2.1
    have e : K.drop k = [] := List.drop_eq_nil_iff.mpr (by omega)
    rw [e]
    refine ⟨w, ?_, h, Rq.rf w⟩
    show _ = if qO q = true then some w else T w
    rw [ho, if_neg Bool.false_ne_true, fX12_runs_L62, hK.1, if_pos (by rw [iI_le (by omega) (by omega) (by omega) (by omega)]; omega)]
  | succ m ih =>
    intro fu k w q hf hk h ho hK h12 hN hd
    obtain ⟨fu, rfl⟩ : ∃ z, fu = z + 1 := ⟨fu - 1, by omega⟩
    have n40 := hK.2.1
    have hlt : k < K.length := by omega
    obtain ⟨num, G, eK⟩ : ∃ num G, K[k] = (num, G) := ⟨_, _, rfl⟩
    obtain ⟨k1, k2⟩ := hK.2.2 k num G (by rw [List.getElem?_eq_getElem hlt, eK])
    have e : K.drop k = (num, G) :: K.drop (k + 1) := by rw [List.drop_eq_getElem_cons hlt, eK]
    obtain ⟨w1, e1, m1, r1⟩ := go_any h ho hc k2 hN
    have eq : qKs lk st odds c F d (K.drop k) q = qKs lk st odds c F d (K.drop (k + 1)) (qAct lk st odds c F d num G q) := by
      rw [e]
      show (if qO q = true then q else qKs lk st odds c F d (K.drop (k + 1)) (qAct lk st odds c F d num G q)) = _
      rw [ho, if_neg Bool.false_ne_true]
    rw [eq, fX12_runs_L62, hK.1, if_neg (by rw [iI_le (by omega) (by omega) (by omega) (by omega)]; omega), raN hj (by omega), Option.bind_some, h12, raN (by omega) (by omega), Option.bind_some, k1, e1, kb2_s, e1s]
    have g := qAct_g (lk := lk) (st := st) (odds := odds) (c := c) (num := num) (F := F) (G := G) hd
    cases hq : qO (qAct lk st odds c F d num G q) with
    | true =>
      have es : ∀ l, qKs lk st odds c F d l (qAct lk st odds c F d num G q) = qAct lk st odds c F d num G q := fun l => by
        cases l with
        | nil => rfl
        | cons a l =>
          show (if qO (qAct lk st odds c F d num G q) = true then _ else _) = _
          rw [if_pos hq]
      rw [es, hq, if_pos (show iB (!true) = 0 from rfl)]
      exact ⟨w1, by rw [if_pos rfl], m1, r1⟩
    | false =>
      obtain ⟨w2, e2, m2, r2⟩ := ih fu (k + 1) w1 _ (by omega) (by omega) m1 hq (hK.ac r1) (by rw [r1.1 12 j (fun z => by rcases z with z | z | z | z | z <;> omega)]; exact h12) (g.at hN) (by have := g.len; omega)
      rw [if_neg (show ¬ iB (!false) = 0 from iB_tn)]
      exact ⟨w2, e2, m2, r1.tr r2⟩
theorem runA {K : List (Nat × Fo)} {lk : Bool} {st : Nat} {sl : Bool} {odds : Int} {acts : List Nat} (x1 x2 : Int32) {i d first : Nat} {F : Fo} (hfi : first ≤ K.length) (T : rW → Option rW) : ∀ (m fu j : Nat) (w : rW) (q : QS), m < fu → j + m = acts.length → Mq w lk st sl odds q → qO q = false → MkK w K → MkC w acts → (qN q)[i]? = some (F, d) → d < (qN q).length →
    ∃ w', fX12_runs_L50 x1 x2 (iI first) (iI i) fu (fun _ p => T p) (iI j) w = (if qO (qAs lk st odds (K.drop first) F d (acts.drop j) q) = true then some w' else T w') ∧ Mq w' lk st sl odds (qAs lk st odds (K.drop first) F d (acts.drop j) q) ∧ Rq AcA AcF w w' := by
  intro m
  induction m with
  | zero =>
    intro fu j w q hf hj h ho hK hC hN hd
    obtain ⟨fu, rfl⟩ : ∃ z, fu = z + 1 := ⟨fu - 1, by omega⟩
    have n120 := hC.2.1
    have e : acts.drop j = [] := List.drop_eq_nil_iff.mpr (by omega)
    rw [e]
    refine ⟨w, ?_, h, Rq.rf w⟩
    show _ = if qO q = true then some w else T w
    rw [ho, if_neg Bool.false_ne_true, fX12_runs_L50, hC.1, if_pos (by rw [iI_le (by omega) (by omega) (by omega) (by omega)]; omega)]
  | succ m ih =>
    intro fu j w q hf hj h ho hK hC hN hd
    obtain ⟨fu, rfl⟩ : ∃ z, fu = z + 1 := ⟨fu - 1, by omega⟩
    have n120 := hC.2.1
    have hlt : j < acts.length := by omega
    obtain ⟨c1, c2⟩ := hC.2.2 j acts[j] (List.getElem?_eq_getElem hlt)
    have e : acts.drop j = acts[j] :: acts.drop (j + 1) := List.drop_eq_getElem_cons hlt
    have eq : qAs lk st odds (K.drop first) F d (acts.drop j) q = qAs lk st odds (K.drop first) F d (acts.drop (j + 1)) (qKs lk st odds acts[j] F d (K.drop first) q) := by
      rw [e]
      show (if qO q = true then q else qAs lk st odds (K.drop first) F d (acts.drop (j + 1)) (qKs lk st odds acts[j] F d (K.drop first) q)) = _
      rw [ho, if_neg Bool.false_ne_true]
    obtain ⟨w1, e1, m1, r1⟩ := runK (K := K) x1 x2 (iI first) (j := j) c2 (by omega) (fun w2 => fX12_runs_L50 x1 x2 (iI first) (iI i) fu (fun _ p => T p) (iI j + (1 : Int32)) w2) (K.length - first) kFU first w q (by unfold kFU; have := hK.2.1; omega) (by omega) h ho hK c1 hN hd
    rw [eq, fX12_runs_L50, hC.1, if_neg (by rw [iI_le (by omega) (by omega) (by omega) (by omega)]; omega), e1]
    have g := qKs_g (lk := lk) (st := st) (odds := odds) (c := acts[j]) (F := F) (K.drop first) q hd
    cases hq : qO (qKs lk st odds acts[j] F d (K.drop first) q) with
    | true =>
      have es : ∀ l, qAs lk st odds (K.drop first) F d l (qKs lk st odds acts[j] F d (K.drop first) q) = qKs lk st odds acts[j] F d (K.drop first) q := fun l => by
        cases l with
        | nil => rfl
        | cons a l =>
          show (if qO (qKs lk st odds acts[j] F d (K.drop first) q) = true then _ else _) = _
          rw [if_pos hq]
      rw [es, hq, if_pos rfl]
      exact ⟨w1, by rw [if_pos rfl], m1, r1⟩
    | false =>
      obtain ⟨w2, e2, m2, r2⟩ := ih fu (j + 1) w1 _ (by omega) (by omega) m1 hq (hK.ac r1) (hC.ac r1) (g.at hN) (by have := g.len; omega)
      rw [if_neg Bool.false_ne_true, e1s]
      exact ⟨w2, e2, m2, r1.tr r2⟩
theorem runN {K : List (Nat × Fo)} {lk : Bool} {st : Nat} {sl : Bool} {odds : Int} {acts : List Nat} (x1 x2 : Int32) {first deepest : Nat} (hde : 24 ≤ deepest) (hfi : first ≤ K.length) : ∀ (m fu i : Nat) (w : rW) (q : QS), m < fu → i + m = 24 → Mq w lk st sl odds q → qO q = false → MkK w K → MkC w acts →
    ∃ w', fX12_runs_L38 x1 x2 (iI first) fu (fun _ p => some p) (iI i) w = some w' ∧ Mq w' lk st sl odds (qNs lk st odds (K.drop first) acts deepest m i q) ∧ Rq AcA AcF w w' := by
  intro m
  induction m with
  | zero =>
    intro fu i w q hf hi h ho hK hC
    obtain ⟨fu, rfl⟩ : ∃ z, fu = z + 1 := ⟨fu - 1, by omega⟩
    have n24 := h.1.2.1
    refine ⟨w, ?_, h, Rq.rf w⟩
    rw [fX12_runs_L38, h.1.1, if_pos (by rw [iI_le (by omega) (by omega) (by omega) (by omega)]; omega)]
  | succ m ih =>
    intro fu i w q hf hi h ho hK hC
    obtain ⟨fu, rfl⟩ : ∃ z, fu = z + 1 := ⟨fu - 1, by omega⟩
    have n24 := h.1.2.1
    have n120 := hC.2.1
    show ∃ w', _ = some w' ∧ Mq w' lk st sl odds (if qO q = true then q else match (qN q)[i]? with | none => q | some e => qNs lk st odds (K.drop first) acts deepest m (i + 1) (if e.2 < deepest then qAs lk st odds (K.drop first) e.1 e.2 acts q else q)) ∧ _
    rw [ho, if_neg Bool.false_ne_true, fX12_runs_L38, h.1.1]
    by_cases c : i < (qN q).length
    · obtain ⟨F, d, eN⟩ : ∃ F d, (qN q)[i] = (F, d) := ⟨_, _, rfl⟩
      have hN : (qN q)[i]? = some (F, d) := by rw [List.getElem?_eq_getElem c, eN]
      have hd := (h.1.2.2 i F d hN).2.2.2.2
      rw [if_neg (by rw [iI_le (by omega) (by omega) (by omega) (by omega)]; omega), hN]
      show ∃ w', _ = some w' ∧ Mq w' lk st sl odds (qNs lk st odds (K.drop first) acts deepest m (i + 1) (if d < deepest then qAs lk st odds (K.drop first) F d acts q else q)) ∧ _
      rw [if_pos (show d < deepest by omega)]
      obtain ⟨w1, e1, m1, r1⟩ := runA (K := K) (acts := acts) x1 x2 (i := i) hfi (fun w2 => fX12_runs_L38 x1 x2 (iI first) fu (fun _ p => some p) (iI i + (1 : Int32)) w2) acts.length kFU 0 w q (by unfold kFU; omega) (by omega) h ho hK hC hN (by omega)
      rw [List.drop_zero] at e1 m1
      have z0 : (0 : Int32) = iI ((0 : Nat) : Int) := rfl
      rw [z0, e1]
      cases hq : qO (qAs lk st odds (K.drop first) F d acts q) with
      | true =>
        have es : ∀ m i, qNs lk st odds (K.drop first) acts deepest m i (qAs lk st odds (K.drop first) F d acts q) = qAs lk st odds (K.drop first) F d acts q := fun m i => by
          cases m with
          | zero => rfl
          | succ m =>
            show (if qO (qAs lk st odds (K.drop first) F d acts q) = true then _ else _) = _
            rw [if_pos hq]
        rw [es, if_pos rfl]
        exact ⟨w1, rfl, m1, r1⟩
      | false =>
        obtain ⟨w2, e2, m2, r2⟩ := ih fu (i + 1) w1 _ (by omega) (by omega) m1 hq (hK.ac r1) (hC.ac r1)
        rw [if_neg Bool.false_ne_true, e1s]
        exact ⟨w2, e2, m2, r1.tr r2⟩
    · rw [if_pos (by rw [iI_le (by omega) (by omega) (by omega) (by omega)]; omega), List.getElem?_eq_none (by omega)]
      exact ⟨w, rfl, h, Rq.rf w⟩
