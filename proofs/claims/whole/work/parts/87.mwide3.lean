/-! THE MODEL: isWidest -/
def WdA (n i : Nat) : Prop := n = 0 ∧ 4000 ≤ i
theorem rpN {w : rW} {j : Nat} {x : Int32} : rpF w j x = some (rSF w j x) := rfl
def WdF (j : Nat) : Prop := j = 17 ∨ j = 18
theorem c4K : (4000 : Int32) = iI ((4000 : Nat) : Int) := by decide +kernel
theorem c6K : (6000 : Int32) = iI ((6000 : Nat) : Int) := by decide +kernel
theorem c8K : (8000 : Int32) = iI ((8000 : Nat) : Int) := by decide +kernel
def Wq (w : rW) (F G : Fo) : Prop := (rF w 17 = iI (4000 + tln F : Nat) ∧ rF w 18 = iI (6000 + tln G : Nat)) ∧ Lt w 4000 F ∧ Lt w 6000 G ∧ fSz F ≤ 200 ∧ fSz G ≤ 200
theorem tln_399 {F : Fo} (h : fOk F) (h2 : fSz F ≤ 200) : tln F ≤ 399 := by
  have := fTxt_len F h
  have e : tln F = (fTxt F).length := rfl
  omega
theorem lev_200 {F : Fo} (h : fOk F) (h2 : fSz F ≤ 200) : fLev F < 400 := by
  have := (fLev_le F h).2
  omega
theorem wide58 {w : rW} {F G : Fo} (h : Wq w F G) (x1 x2 : Int32) {X Z Z' : List Nat} (e1 : fTxt F = X ++ Z) (e2 : fTxt G = X ++ Z') (hz : (Z = [] ∧ Z' = []) ∨ ∃ c Y c' Y', Z = c :: Y ∧ Z' = c' :: Y' ∧ c ≠ c') (K : Int32 → Option (Int32 × rW)) : ∀ (m fu j : Nat), m < fu → j + m = X.length → fX12_isWidest_L58 x1 x2 w fu K (iI j) = K (iI X.length) := by
  obtain ⟨⟨f1, f2⟩, hF, hG, s1, s2⟩ := h
  have t1 := tln_399 hF.1 s1
  have t2 := tln_399 hG.1 s2
  have l1 : tln F = X.length + Z.length := by show (fTxt F).length = _; rw [e1, List.length_append]
  have l2 : tln G = X.length + Z'.length := by show (fTxt G).length = _; rw [e2, List.length_append]
  have g1 : Ly (rA w 0) 4000 (X ++ Z) := by rw [← e1]; exact hF.2.1
  have g2 : Ly (rA w 0) 6000 (X ++ Z') := by rw [← e2]; exact hG.2.1
  have a1 : ∀ j : Nat, (4000 : Int32) + iI j = iI (4000 + j : Nat) := fun j => by rw [c4K, iI_add]; rfl
  have a2 : ∀ j : Nat, (6000 : Int32) + iI j = iI (6000 + j : Nat) := fun j => by rw [c6K, iI_add]; rfl
  intro m
  induction m with
  | zero =>
    intro fu j hf hj
    obtain ⟨fu, rfl⟩ : ∃ n, fu = n + 1 := ⟨fu - 1, by omega⟩
    have hj' : j = X.length := hj
    subst hj'
    rw [fX12_isWidest_L58, a1, a2, f1, f2]
    rcases hz with ⟨rfl, rfl⟩ | ⟨c, Y, c', Y', rfl, rfl, hcc⟩
    · rw [List.length_nil] at l1
      rw [if_pos (by rw [iI_le (by omega) (by omega) (by omega) (by omega)]; omega)]
    · rw [List.length_cons] at l1 l2
      have q1 : rA w 0 (4000 + X.length) = iI c := g1.snd.hd
      have q2 : rA w 0 (6000 + X.length) = iI c' := g2.snd.hd
      have b1 : c < 128 := fTxt_lt F hF.1 c (by rw [e1]; simp)
      have b2 : c' < 128 := fTxt_lt G hG.1 c' (by rw [e2]; simp)
      rw [if_neg (by rw [iI_le (by omega) (by omega) (by omega) (by omega)]; omega), if_neg (by rw [iI_le (by omega) (by omega) (by omega) (by omega)]; omega), raN (by omega) (by omega), Option.bind_some, raN (by omega) (by omega), Option.bind_some, q1, q2, if_neg (by rw [iI_eq (by omega) (by omega) (by omega) (by omega)]; omega)]
  | succ m ih =>
    intro fu j hf hj
    obtain ⟨fu, rfl⟩ : ∃ n, fu = n + 1 := ⟨fu - 1, by omega⟩
    have hjX : j < X.length := by omega
    have q1 : rA w 0 (4000 + j) = iI X[j] := g1.fst j _ (List.getElem?_eq_getElem hjX)
    have q2 : rA w 0 (6000 + j) = iI X[j] := g2.fst j _ (List.getElem?_eq_getElem hjX)
    rw [fX12_isWidest_L58, a1, a2, f1, f2, if_neg (by rw [iI_le (by omega) (by omega) (by omega) (by omega)]; omega), if_neg (by rw [iI_le (by omega) (by omega) (by omega) (by omega)]; omega), raN (by omega) (by omega), Option.bind_some, raN (by omega) (by omega), Option.bind_some, q1, q2, if_pos rfl, iL_1, iI_add]
    exact ih fu (j + 1) (by omega) (by omega)
theorem wide217 {w : rW} {F G p : Fo} {k s0 : Nat} (h : Wq w F G) (hk : k < 6) (hp : Lt w s0 p) (hs : fSz p ≤ 200) (h8 : s0 + tln p ≤ 8000) (b kk : rW → Option (Int32 × rW)) (x1 x2 x3 x4 x5 : Int32) : ∃ w', Rq WdA WdF w w' ∧ (fNq k p F G = none → fX12_isWidest_J56_217 b kk x1 x2 x3 x4 x5 (iI (112 + k : Nat)) (iI s0) w = some (0, w')) ∧ ∀ F' G', fNq k p F G = some (F', G') → fX12_isWidest_J56_217 b kk x1 x2 x3 x4 x5 (iI (112 + k : Nat)) (iI s0) w = b w' ∧ Wq w' F' G' := by
  obtain ⟨⟨f1, f2⟩, hF, hG, s1, s2⟩ := h
  have t1 := tln_399 hF.1 s1
  have t2 := tln_399 hG.1 s2
  have t3 := tln_399 hp.1 hs
  have p1 := fSz_pos hp.1
  obtain ⟨w1, e1, r1, g1⟩ := copies_ok (a := 8000) hp.2.1 (by have e : tln p = (fTxt p).length := rfl; omega) (by have e : tln p = (fTxt p).length := rfl; omega) (Or.inl (by have e : tln p = (fTxt p).length := rfl; omega))
  have e1' : fX12_copies (iI s0) (iI (s0 + tln p : Nat)) (iI (8000 : Nat)) w = some (iI (8000 + tln p : Nat), w1) := e1
  have r1' : Rq WdA WdF w w1 := r1.wide (fun n i z => ⟨z.1, by have := z.2.1; omega⟩) (fun _ z => z.elim)
  have P1 : Lt w1 8000 p := ⟨hp.1, g1, by omega, hp.2.2.2⟩
  have nb : ∀ {i : Nat} {f : Fo}, Lt w i f → i + tln f ≤ 8000 → Lt w1 i f := fun hf hb => hf.rq r1 (fun j j1 j2 z => by obtain ⟨-, z1, z2⟩ := z; omega)
  have F1 := nb hF (by omega)
  have G1 := nb hG (by omega)
  have m8 := many_ok (k := 112 + k) (by omega) (fTxt_lt p hp.1) P1.2.1 P1.2.2.1
  have m4 := many_ok (k := 112 + k) (by omega) (fTxt_lt F hF.1) F1.2.1 F1.2.2.1
  have m6 := many_ok (k := 112 + k) (by omega) (fTxt_lt G hG.1) G1.2.1 G1.2.2.1
  have c1 : cntC (112 + k) (fTxt F) ≤ tln F := List.countP_le_length
  have c2 : cntC (112 + k) (fTxt G) ≤ tln G := List.countP_le_length
  have c3 : cntC (112 + k) (fTxt p) ≤ tln p := List.countP_le_length
  have z1 := sz_S1 (k := k) hk hp.1 hF.1
  have z2 := sz_S1 (k := k) hk hp.1 hG.1
  have y1 : cntC (112 + k) (fTxt F) * (fSz p - 1) ≤ 399 * 199 := Nat.mul_le_mul (by omega) (by omega)
  have y2 : cntC (112 + k) (fTxt G) * (fSz p - 1) ≤ 399 * 199 := Nat.mul_le_mul (by omega) (by omega)
  have v : ∀ s c : Nat, iI (s : Int) + (iI (fSz p) - (1 : Int32)) * iI (c : Int) = iI ((s + c * (fSz p - 1) : Nat) : Int) := fun s c => by
    rw [iL_1, iI_sub, iI_mul, iI_add]
    congr 1
    obtain ⟨q, hq⟩ : ∃ q, fSz p = q + 1 := ⟨fSz p - 1, by omega⟩
    rw [hq, Nat.add_sub_cancel, show ((q + 1 : Nat) : Int) - 1 = (q : Int) by omega]
    push_cast
    rw [Int.mul_comm]
  have fk17 : rF w1 17 = iI (4000 + tln F : Nat) := by rw [r1.2 17 (fun z => z)]; exact f1
  have fk18 : rF w1 18 = iI (6000 + tln G : Nat) := by rw [r1.2 18 (fun z => z)]; exact f2
  have run : fX12_isWidest_J56_217 b kk x1 x2 x3 x4 x5 (iI (112 + k : Nat)) (iI s0) w = if iI (cntC (112 + k) (fTxt p) : Nat) ≤ 0 then
  (if (200 : Int32) < iI (fSz (fS1 k p F)) then
  some ((0 : Int32), w1)
  else
  if iI (fSz (fS1 k p G)) ≤ (200 : Int32) then
  kb2 (fX12_puts (4000 : Int32) (rF w1 17) (iI (112 + k : Nat)) (iI (8000 + tln p : Nat)) w1) fun v20 w18 =>
  (rpF w18 17 v20).bind fun w21 =>
  kb2 (fX12_puts (6000 : Int32) (rF w21 18) (iI (112 + k : Nat)) (iI (8000 + tln p : Nat)) w21) fun v24 w22 =>
  (rpF w22 18 v24).bind fun w25 =>
  b w25
  else
  some ((0 : Int32), w1))
  else
  some ((0 : Int32), w1) := by
    have m8' : fX12_many (8000 : Int32) (iI (8000 + tln p : Nat)) (iI (112 + k : Nat)) w1 = some (iI (cntC (112 + k) (fTxt p) : Nat)) := m8
    have m4' : fX12_many (4000 : Int32) (iI (4000 + tln F : Nat)) (iI (112 + k : Nat)) w1 = some (iI (cntC (112 + k) (fTxt F) : Nat)) := m4
    have m6' : fX12_many (6000 : Int32) (iI (6000 + tln G : Nat)) (iI (112 + k : Nat)) w1 = some (iI (cntC (112 + k) (fTxt G) : Nat)) := m6
    have z8 : fX12_sizeOf (8000 : Int32) (iI (8000 + tln p : Nat)) w1 = some (iI (fSz p)) := P1.size
    have z4 : fX12_sizeOf (4000 : Int32) (iI (4000 + tln F : Nat)) w1 = some (iI (fSz F)) := F1.size
    have z6 : fX12_sizeOf (6000 : Int32) (iI (6000 + tln G : Nat)) w1 = some (iI (fSz G)) := G1.size
    have e1'' : fX12_copies (iI s0) (iI (s0 + tln p : Nat)) (8000 : Int32) w = some (iI (8000 + tln p : Nat), w1) := e1'
    rw [fX12_isWidest_J56_217, hp.end, Option.bind_some, e1'', kb2_s, m8', Option.bind_some, z8, Option.bind_some, fk17, z4, Option.bind_some, m4', Option.bind_some, v, ← z1, fk18, z6, Option.bind_some, m6', Option.bind_some, v, ← z2]
  rw [run]
  unfold fNq
  rw [has_cnt hk hp.1]
  by_cases hc : 0 < cntC (112 + k) (fTxt p)
  · rw [decide_eq_true hc, if_pos rfl, if_neg (show ¬ iI (cntC (112 + k) (fTxt p) : Nat) ≤ (0 : Int32) by rw [iL_0, iI_le (by omega) (by omega) (by omega) (by omega)]; omega)]
    exact ⟨w1, r1', fun _ => rfl, fun F' G' z => by cases z⟩
  · rw [decide_eq_false hc, if_neg Bool.false_ne_true, if_pos (show iI (cntC (112 + k) (fTxt p) : Nat) ≤ (0 : Int32) by rw [iL_0, iI_le (by omega) (by omega) (by omega) (by omega)]; omega)]
    by_cases cF : fSz (fS1 k p F) ≤ 200
    · rw [if_neg (show ¬ (200 : Int32) < iI (fSz (fS1 k p F)) by rw [iL_200, iI_lt (by omega) (by omega) (by omega) (by omega)]; omega)]
      by_cases cG : fSz (fS1 k p G) ≤ 200
      · rw [if_pos (show iI (fSz (fS1 k p G)) ≤ (200 : Int32) by rw [iL_200, iI_le (by omega) (by omega) (by omega) (by omega)]; omega), if_pos (show fSz (fS1 k p F) ≤ 200 ∧ fSz (fS1 k p G) ≤ 200 from ⟨cF, cG⟩)]
        have okF := fS1_ok (k := k) hp.1 F hF.1
        have okG := fS1_ok (k := k) hp.1 G hG.1
        have lF := tln_399 okF cF
        have lG := tln_399 okG cG
        have xF : tln (fS1 k p F) = (rp (112 + k) (fTxt p) (fTxt F)).length := by rw [← rp_txt hk F hF.1]; rfl
        have xG : tln (fS1 k p G) = (rp (112 + k) (fTxt p) (fTxt G)).length := by rw [← rp_txt hk G hG.1]; rfl
        have pp : 1 ≤ (fTxt p).length := (lev_tl p hp.1).2
        have lp : (fTxt p).length = tln p := rfl
        obtain ⟨w2, e2, r2, g2⟩ := puts_ok (k := 112 + k) pp (by omega) (by omega) (fTxt_lt F hF.1) (by omega) F1.2.1 g1
        rw [← rp_txt hk F hF.1] at e2 r2 g2
        have e2' : fX12_puts (4000 : Int32) (iI (4000 + tln F : Nat)) (iI (112 + k : Nat)) (iI (8000 + tln p : Nat)) w1 = some (iI (4000 + tln (fS1 k p F) : Nat), w2) := e2
        have G2 : Lt w2 6000 G := G1.rq r2 (fun j j1 j2 z => by obtain ⟨-, z1, z2⟩ := z; have : (fTxt (fS1 k p F)).length = tln (fS1 k p F) := rfl; omega)
        have g22 : Ly (rA w2 0) 8000 (fTxt p) := g1.rq r2 (fun j j1 j2 z => by obtain ⟨-, z1, z2⟩ := z; have : (fTxt (fS1 k p F)).length = tln (fS1 k p F) := rfl; omega)
        obtain ⟨w3, e3, r3, g3⟩ := puts_ok (w := rSF w2 17 (iI (4000 + tln (fS1 k p F) : Nat))) (k := 112 + k) pp (by omega) (by omega) (fTxt_lt G hG.1) (by omega) G2.2.1 g22
        rw [← rp_txt hk G hG.1] at e3 r3 g3
        have e3' : fX12_puts (6000 : Int32) (iI (6000 + tln G : Nat)) (iI (112 + k : Nat)) (iI (8000 + tln p : Nat)) (rSF w2 17 (iI (4000 + tln (fS1 k p F) : Nat))) = some (iI (6000 + tln (fS1 k p G) : Nat), w3) := e3
        have R2 : Rq WdA WdF w1 w2 := r2.wide (fun n i z => ⟨z.1, z.2.1⟩) (fun _ z => z.elim)
        have R3 : Rq WdA WdF (rSF w2 17 (iI (4000 + tln (fS1 k p F) : Nat))) w3 := r3.wide (fun n i z => ⟨z.1, by have := z.2.1; omega⟩) (fun _ z => z.elim)
        have Rx : Rq WdA WdF w2 (rSF w2 17 (iI (4000 + tln (fS1 k p F) : Nat))) := Rq.sf (Or.inl rfl)
        have Ry : Rq WdA WdF w3 (rSF w3 18 (iI (6000 + tln (fS1 k p G) : Nat))) := Rq.sf (Or.inr rfl)
        have f18 : rF (rSF w2 17 (iI (4000 + tln (fS1 k p F) : Nat))) 18 = iI (6000 + tln G : Nat) := by rw [rF_SF_o (by omega), r2.2 18 (fun z => z)]; exact fk18
        refine ⟨rSF w3 18 (iI (6000 + tln (fS1 k p G) : Nat)), (((r1'.tr R2).tr Rx).tr R3).tr Ry, fun z => by (cases z), fun F' G' z => ?_⟩
        cases z
        refine ⟨?_, ⟨?_, rF_SF_s⟩, ⟨okF, ?_, by omega, lev_200 okF cF⟩, ⟨okG, g3, by omega, lev_200 okG cG⟩, cF, cG⟩
        · rw [fk17, e2', kb2_s, rpN, Option.bind_some, f18, e3', kb2_s, rpN, Option.bind_some]
        · rw [rF_SF_o (by omega), r3.2 17 (fun z => z), rF_SF_s]
        · have := g2.rq (A := InA 6000 (6000 + (fTxt (fS1 k p G)).length)) (Q := NoF) (w := rSF w2 17 (iI (4000 + tln (fS1 k p F) : Nat))) r3 (fun j j1 j2 z => by obtain ⟨-, z1, z2⟩ := z; have : (fTxt (fS1 k p F)).length = tln (fS1 k p F) := rfl; omega)
          exact this
      · rw [if_neg (show ¬ iI (fSz (fS1 k p G)) ≤ (200 : Int32) by rw [iL_200, iI_le (by omega) (by omega) (by omega) (by omega)]; omega), if_neg (show ¬ (fSz (fS1 k p F) ≤ 200 ∧ fSz (fS1 k p G) ≤ 200) from fun z => cG z.2)]
        exact ⟨w1, r1', fun _ => rfl, fun F' G' z => by cases z⟩
    · rw [if_pos (show (200 : Int32) < iI (fSz (fS1 k p F)) by rw [iL_200, iI_lt (by omega) (by omega) (by omega) (by omega)]; omega), if_neg (show ¬ (fSz (fS1 k p F) ≤ 200 ∧ fSz (fS1 k p G) ≤ 200) from fun z => cF z.1)]
      exact ⟨w1, r1', fun _ => rfl, fun F' G' z => by cases z⟩
theorem tHd_ne {x y : Fo} (hx : fOk x) (hy : fOk y) (h : tHd x ≠ tHd y) : ∃ c Y c' Y', fTxt x = c :: Y ∧ fTxt y = c' :: Y' ∧ c ≠ c' ∧ c = tHd x ∧ c' = tHd y := by
  have hd : ∀ f, fOk f → ∃ Y, fTxt f = tHd f :: Y := by
    apply fInd
    · exact fun i _ => ⟨[], rfl⟩
    · exact fun a _ _ => ⟨_, rfl⟩
    · exact fun a b _ _ _ _ => ⟨_, rfl⟩
    · exact fun a b _ _ _ _ => ⟨_, rfl⟩
  obtain ⟨Y, e⟩ := hd x hx
  obtain ⟨Y', e'⟩ := hd y hy
  exact ⟨_, _, _, _, e, e', h, rfl, rfl⟩
theorem tHd_let {x : Fo} (h : fOk x) : (∃ k : Nat, k < 6 ∧ x = .var k ∧ tHd x = 112 + k ∧ isL (tHd x) = true) ∨ (fLk x = none ∧ isL (tHd x) = false ∧ tHd x < 200) := by
  rcases fCases h with ⟨j, hj, rfl⟩ | ⟨c, hc, rfl⟩ | ⟨c, d, hc, hd, rfl⟩ | ⟨c, d, hc, hd, rfl⟩
  · exact Or.inl ⟨j, hj, rfl, rfl, by show isL (112 + j) = true; unfold isL; exact decide_eq_true (by omega)⟩
  · exact Or.inr ⟨rfl, by show isL 126 = false; decide, by show 126 < 200; omega⟩
  · exact Or.inr ⟨rfl, by show isL 40 = false; decide, by show 40 < 200; omega⟩
  · exact Or.inr ⟨rfl, by show isL 40 = false; decide, by show 40 < 200; omega⟩
theorem has_part {j : Nat} {x F : Fo} (hj : j < 6) (hx : fOk x) (hF : fOk F) {X Y : List Nat} (e : fTxt F = X ++ (fTxt x ++ Y)) (h : fHas j x = true) : fHas j F = true := by
  rw [has_cnt hj hx, decide_eq_true_iff] at h
  rw [has_cnt hj hF, decide_eq_true_iff, e, cntC_app, cntC_app]
  omega
theorem wide_loop (x1 x2 : Int32) (kk : rW → Option (Int32 × rW)) : ∀ (n fu : Nat) (w : rW) (F G : Fo), n < fu → muL F G < n → Wq w F G → ∃ w', fX12_isWidest_L56 x1 x2 fu kk w = some (iB (tWi n F G).isSome, w') ∧ Rq WdA WdF w w' ∧ ∀ H, tWi n F G = some H → rF w' 17 = iI (4000 + tln H : Nat) ∧ Lt w' 4000 H ∧ fSz H ≤ 200 := by
  have a1 : ∀ j : Nat, (4000 : Int32) + iI j = iI (4000 + j : Nat) := fun j => by rw [c4K, iI_add]; rfl
  have a2 : ∀ j : Nat, (6000 : Int32) + iI j = iI (6000 + j : Nat) := fun j => by rw [c6K, iI_add]; rfl
  intro n
  induction n with
  | zero => intro fu w F G _ h; omega
  | succ n ih =>
    intro fu w F G hf hm hW
    obtain ⟨fu, rfl⟩ : ∃ g, fu = g + 1 := ⟨fu - 1, by omega⟩
    obtain ⟨⟨f1, f2⟩, hF, hG, s1, s2⟩ := id hW
    have t1 := tln_399 hF.1 s1
    have t2 := tln_399 hG.1 s2
    have hd := tDf_ok F hF.1 G hG.1
    have eW : tWi (n + 1) F G = match tDf F G with
      | none => some F
      | some none => none
      | some (some (x, y)) => (fNx x y F G).bind fun q => tWi n q.1 q.2 := rfl
    rw [eW, fX12_isWidest_L56]
    have go : ∀ {X Z Z' : List Nat} (e1 : fTxt F = X ++ Z) (e2 : fTxt G = X ++ Z') (hz : (Z = [] ∧ Z' = []) ∨ ∃ c Y c' Y', Z = c :: Y ∧ Z' = c' :: Y' ∧ c ≠ c') (K : Int32 → Option (Int32 × rW)), fX12_isWidest_L58 x1 x2 w kFU K 0 = K (iI X.length) := fun {X Z Z'} e1 e2 hz K => by
      have l1 : tln F = X.length + Z.length := by show (fTxt F).length = _; rw [e1, List.length_append]
      exact wide58 hW x1 x2 e1 e2 hz K X.length kFU 0 (by unfold kFU; omega) (by omega)
    -- what they part in
    have part : ∀ {X Y Y' : List Nat} {c c' : Nat}, fTxt F = X ++ c :: Y → fTxt G = X ++ c' :: Y' → c ≠ c' → ∀ b : rW → Option (Int32 × rW), fX12_isWidest_L58 x1 x2 w kFU (fun y3_1 => if ((4000 : Int32) + y3_1) = (rF w 17) then
  if ((6000 : Int32) + y3_1) = (rF w 18) then
  some ((1 : Int32), w)
  else
  fX12_isWidest_J56_137 b kk x1 x2 y3_1 w
  else
  fX12_isWidest_J56_137 b kk x1 x2 y3_1 w) (0 : Int32) = (if iB (isL c) = 0 then if iB (isL c') = 0 then some ((0 : Int32), w) else fX12_isWidest_J56_179 b kk x1 x2 (iI X.length) (iI c) (iI c') w else fX12_isWidest_J56_179 b kk x1 x2 (iI X.length) (iI c) (iI c') w) := by
      intro X Y Y' c c' e1 e2 hc b
      have l1 : tln F = X.length + (Y.length + 1) := by show (fTxt F).length = _; rw [e1, List.length_append, List.length_cons]
      have l2 : tln G = X.length + (Y'.length + 1) := by show (fTxt G).length = _; rw [e2, List.length_append, List.length_cons]
      have q1 : rA w 0 (4000 + X.length) = iI c := by have := hF.2.1; rw [e1] at this; exact this.snd.hd
      have q2 : rA w 0 (6000 + X.length) = iI c' := by have := hG.2.1; rw [e2] at this; exact this.snd.hd
      have b1 : c < 128 := fTxt_lt F hF.1 c (by rw [e1]; simp)
      have b2 : c' < 128 := fTxt_lt G hG.1 c' (by rw [e2]; simp)
      rw [go e1 e2 (Or.inr ⟨c, Y, c', Y', rfl, rfl, hc⟩), a1, f1, if_neg (by rw [iI_eq (by omega) (by omega) (by omega) (by omega)]; omega), fX12_isWidest_J56_137, a1, a2, raN (by omega) (by omega), Option.bind_some, raN (by omega) (by omega), Option.bind_some, q1, q2, isLetter_ok (by omega), Option.bind_some, isLetter_ok (by omega), Option.bind_some]
    cases e : tDf F G with
    | none =>
      rw [e] at hd
      have hd' : F = G := hd
      subst hd'
      refine ⟨w, ?_, Rq.rf w, fun H z => ?_⟩
      · rw [go (X := fTxt F) (Z := []) (Z' := []) (by simp) (by simp) (Or.inl ⟨rfl, rfl⟩), a1, a2, f1, f2]
        show (if iI (4000 + tln F : Nat) = iI (4000 + tln F : Nat) then (if iI (6000 + tln F : Nat) = iI (6000 + tln F : Nat) then some ((1 : Int32), w) else _) else _) = _
        rw [if_pos rfl, if_pos rfl]
        rfl
      · cases z
        exact ⟨f1, hF, s1⟩
    | some r =>
      rw [e] at hd
      cases r with
      | none =>
        obtain ⟨X, Y, Y', c, c', e1, e2, hc, u1, u2⟩ := hd
        refine ⟨w, ?_, Rq.rf w, fun H z => by cases z⟩
        have i1 : isL c = false := by rcases u1 with rfl | rfl <;> decide
        have i2 : isL c' = false := by rcases u2 with rfl | rfl <;> decide
        rw [part e1 e2 hc, i1, i2, if_pos iB_fz, if_pos iB_fz]
        rfl
      | some r =>
        obtain ⟨x, y⟩ := r
        obtain ⟨X, Y, Y', e1, e2, hx, hy, hh⟩ := hd
        obtain ⟨c, Z, c', Z', v1, v2, hc, c1, c2⟩ := tHd_ne hx hy hh
        have w1 : fTxt F = X ++ c :: (Z ++ Y) := by rw [e1, v1]; simp
        have w2 : fTxt G = X ++ c' :: (Z' ++ Y') := by rw [e2, v2]; simp
        have lx : tln F = X.length + (tln x + Y.length) := by show (fTxt F).length = _; rw [e1, List.length_append, List.length_append]; rfl
        have ly : tln G = X.length + (tln y + Y'.length) := by show (fTxt G).length = _; rw [e2, List.length_append, List.length_append]; rfl
        have zx : fSz x ≤ fSz F := by rw [← cntP x hx, ← cntP F hF.1, e1, List.countP_append, List.countP_append]; omega
        have zy : fSz y ≤ fSz G := by rw [← cntP y hy, ← cntP G hG.1, e2, List.countP_append, List.countP_append]; omega
        have Lx : Lt w (4000 + X.length) x := ⟨hx, by have := hF.2.1; rw [e1] at this; exact this.snd.fst, by omega, lev_200 hx (by omega)⟩
        have Ly' : Lt w (6000 + X.length) y := ⟨hy, by have := hG.2.1; rw [e2] at this; exact this.snd.fst, by omega, lev_200 hy (by omega)⟩
        have hasx : ∀ j, j < 6 → fHas j x = true → fHas j F = true := fun j hj h => has_part hj hx hF.1 e1 h
        have hasy : ∀ j, j < 6 → fHas j y = true → fHas j G = true := fun j hj h => has_part hj hy hG.1 e2 h
        rw [part w1 w2 hc]
        show ∃ w', _ = some (iB ((fNx x y F G).bind fun q => tWi n q.1 q.2).isSome, w') ∧ Rq WdA WdF w w' ∧ ∀ H, ((fNx x y F G).bind fun q => tWi n q.1 q.2) = some H → _
        -- a letter is put
        have fin : ∀ (k s0 : Nat) (p : Fo), k < 6 → Lt w s0 p → fSz p ≤ 200 → s0 + tln p ≤ 8000 → fPk x y = some (k, p) → ((x = .var k ∧ p = y) ∨ (y = .var k ∧ p = x)) → ∃ w', fX12_isWidest_J56_217 (fun qw => fX12_isWidest_L56 x1 x2 fu kk qw) kk x1 x2 (iI X.length) (iI c) (iI c') (iI (112 + k : Nat)) (iI s0) w = some (iB ((fNx x y F G).bind fun q => tWi n q.1 q.2).isSome, w') ∧ Rq WdA WdF w w' ∧ ∀ H, ((fNx x y F G).bind fun q => tWi n q.1 q.2) = some H → rF w' 17 = iI (4000 + tln H : Nat) ∧ Lt w' 4000 H ∧ fSz H ≤ 200 := by
          intro k s0 p hk hp hs h8 hpk hor
          have en : fNx x y F G = fNq k p F G := by rw [fNx_eq, hpk]; rfl
          obtain ⟨w', r, g1, g2⟩ := wide217 hW hk hp hs h8 (fun qw => fX12_isWidest_L56 x1 x2 fu kk qw) kk x1 x2 (iI X.length) (iI c) (iI c')
          rw [en]
          cases hn : fNq k p F G with
          | none =>
            rw [g1 hn]
            exact ⟨w', rfl, r, fun H z => by cases z⟩
          | some q =>
            obtain ⟨F', G'⟩ := q
            obtain ⟨g3, g4⟩ := g2 F' G' hn
            rw [g3]
            obtain ⟨k', p', hpk', -, -, -, hno, eF, eG, -⟩ := fNx_S1 hx hy (en.trans hn)
            rw [hpk] at hpk'
            cases hpk'
            have dec := mu_dec hF.1 hG.1 hk hno hasx hasy hor
            rw [← eF, ← eG] at dec
            obtain ⟨w'', g5, g6, g7⟩ := ih fu w' F' G' (by omega) (by omega) g4
            exact ⟨w'', g5, r.tr g6, g7⟩
        have bc : c < 200 := by have := fTxt_lt F hF.1 c (by rw [w1]; simp); omega
        have bc' : c' < 200 := by have := fTxt_lt G hG.1 c' (by rw [w2]; simp); omega
        rcases tHd_let hx with ⟨k, hk, ex, kx, lx1⟩ | ⟨nx, lx1, -⟩
        · have i1 : isL c = true := by rw [c1]; exact lx1
          rw [i1, if_neg iB_tn, fX12_isWidest_J56_179, isLetter_ok (by omega), Option.bind_some, i1, if_neg iB_tn, fX12_isWidest_J56_194, isLetter_ok (by omega), Option.bind_some, i1, if_neg iB_tn, a2]
          have ec : c = 112 + k := by rw [c1, kx]
          have hpk : fPk x y = some (k, y) := by rw [ex]; rfl
          have := fin k (6000 + X.length) y hk Ly' (by omega) (by omega) hpk (Or.inl ⟨ex, rfl⟩)
          rw [← ec] at this
          exact this
        · have i1 : isL c = false := by rw [c1]; exact lx1
          rcases tHd_let hy with ⟨k, hk, ey, ky, ly1⟩ | ⟨ny, ly1, -⟩
          · have i2 : isL c' = true := by rw [c2]; exact ly1
            rw [i1, if_pos iB_fz, i2, if_neg iB_tn, fX12_isWidest_J56_179, isLetter_ok (by omega), Option.bind_some, i1, if_pos iB_fz, fX12_isWidest_J56_194, isLetter_ok (by omega), Option.bind_some, i1, if_pos iB_fz, a1]
            have ec : c' = 112 + k := by rw [c2, ky]
            have hpk : fPk x y = some (k, x) := by unfold fPk; rw [nx, ey]; rfl
            have := fin k (4000 + X.length) x hk Lx (by omega) (by omega) hpk (Or.inr ⟨ey, rfl⟩)
            rw [← ec] at this
            exact this
          · have i2 : isL c' = false := by rw [c2]; exact ly1
            have hpk : fPk x y = none := by unfold fPk; rw [nx, ny]
            have en : fNx x y F G = none := by rw [fNx_eq, hpk]; rfl
            rw [i1, i2, if_pos iB_fz, if_pos iB_fz, en]
            exact ⟨w, rfl, Rq.rf w, fun H z => by cases z⟩
