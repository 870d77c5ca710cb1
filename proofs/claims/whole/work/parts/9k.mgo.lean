/-! THE MODEL: a run's state, its acts -/
theorem zDiv {n : Int} (h0 : 0 ≤ n) (h1 : n < 2147483648) (k : Nat) (hk : 1 < k) (hk2 : k < 2147483648) : iI n / iI k = iI (n / k) := by
  apply Int32.toInt.inj
  have b1 : 0 ≤ n / (k : Int) := Int.ediv_nonneg h0 (by omega)
  have b2 : n / (k : Int) ≤ n := Int.ediv_le_self _ h0
  rw [Int32.toInt_div_of_ne_right _ _ (by rw [iN_1, Ne, iI_eq (by omega) (by omega) (by omega) (by omega)]; omega), iI_toInt (by omega) h1, iI_toInt (by omega) (by omega), iI_toInt (by omega) (by omega), Int.tdiv_eq_ediv_of_nonneg h0]
theorem zTh_0 (z : Int32) : iI 0 ≤ zTh z := by
  unfold zTh
  obtain ⟨n, n0, n1, e⟩ : ∃ n : Int, 0 ≤ n ∧ n < 2147483648 ∧ z &&& (2147483647 : Int32) = iI n := by
    refine ⟨(z &&& (2147483647 : Int32)).toInt, ?_, Int32.toInt_lt _, (Int32.ofInt_toInt _).symm⟩
    have h1 : (z &&& (2147483647 : Int32)).toBitVec.toNat ≤ 2147483647 := by
      rw [Int32.toBitVec_and, BitVec.toNat_and]
      exact Nat.le_trans Nat.and_le_right (by decide +kernel)
    rw [← Int32.toInt_toBitVec, BitVec.toInt_eq_toNat_of_lt (by omega)]
    omega
  have c1 : (65536 : Int32) = iI (65536 : Nat) := by decide +kernel
  have c2 : (100 : Int32) = iI (100 : Nat) := by decide +kernel
  have m0 : 0 ≤ n / ((65536 : Nat) : Int) := Int.ediv_nonneg n0 (by omega)
  have m1 : n / ((65536 : Nat) : Int) ≤ n := Int.ediv_le_self _ n0
  rw [e, c1, zDiv n0 n1 65536 (by omega) (by omega), c2, zDiv m0 (by omega) 100 (by omega) (by omega), iI_mul, iI_sub, iI_le (by omega) (by omega) (by omega) (by omega)]
  omega
theorem zSl_0 (z : Int32) : zSl z 0 = false := zSl_t (zTh_0 z)
def AcA (n i : Nat) : Prop := (n = 0 ∧ 2400 ≤ i) ∨ n = 10 ∨ n = 11 ∨ n = 13 ∨ n = 14
def AcF (j : Nat) : Prop := j = 28 ∨ j = 29 ∨ j = 31 ∨ j = 32 ∨ j = 33 ∨ j = 34 ∨ j = 35
def Mq (w : rW) (lk : Bool) (st : Nat) (sl : Bool) (odds : Int) (q : QS) : Prop :=
  Nd w (qN q) ∧ (rF w 24 = iB lk ∧ rF w 23 = iI st ∧ st ≤ 1000000 ∧ rF w 29 = iI (qA q) ∧ qA q ≤ st) ∧ (rF w 31 = iI (qShn q Prod.snd) ∧ rF w 32 = iI (qShn q Prod.fst) ∧ rF w 33 = iI (qS q) ∧ rF w 34 = iI (qU q)) ∧ ((sl = true ∧ rF w 37 = iB true ∧ rF w 36 = iI odds ∧ rF w 35 = qZ q) ∨ (sl = false ∧ rF w 37 = 0 ∧ odds = 0))
theorem Mq.rq {A : Nat → Nat → Prop} {Q : Nat → Prop} {w w' : rW} {lk : Bool} {st : Nat} {sl : Bool} {odds : Int} {q : QS} (h : Mq w lk st sl odds q) (hs : Rq A Q w w') (hA : ∀ n i, A n i → (n = 0 ∧ 4000 ≤ i) ∨ (n ≠ 0 ∧ n ≠ 13 ∧ n ≠ 14)) (hQ : ∀ j, 23 ≤ j → ¬ Q j) : Mq w' lk st sl odds q := by
  obtain ⟨h1, h2, h3, h4⟩ := h
  refine ⟨h1.rq hs hA (hQ 28 (by omega)), ?_, ?_, ?_⟩
  · rw [hs.2 24 (hQ 24 (by omega)), hs.2 23 (hQ 23 (by omega)), hs.2 29 (hQ 29 (by omega))]; exact h2
  · rw [hs.2 31 (hQ 31 (by omega)), hs.2 32 (hQ 32 (by omega)), hs.2 33 (hQ 33 (by omega)), hs.2 34 (hQ 34 (by omega))]; exact h3
  · rw [hs.2 37 (hQ 37 (by omega)), hs.2 36 (hQ 36 (by omega)), hs.2 35 (hQ 35 (by omega))]; exact h4
theorem Mq.pt {w w' : rW} {lk : Bool} {st : Nat} {sl : Bool} {odds : Int} {q : QS} (h : Mq w lk st sl odds q) (hs : Rq PtA NoF w w') : Mq w' lk st sl odds q := h.rq hs (fun n i z => Or.inr (by rcases z with z | z <;> omega)) (fun j _ z => z)
theorem Mq.in {a b : Nat} {w w' : rW} {lk : Bool} {st : Nat} {sl : Bool} {odds : Int} {q : QS} (h : Mq w lk st sl odds q) (ha : 4000 ≤ a) (hs : Rq (InA a b) NoF w w') : Mq w' lk st sl odds q := h.rq hs (fun n i z => Or.inl ⟨z.1, by have := z.2.1; omega⟩) (fun j _ z => z)
theorem Mq.over {w : rW} {lk : Bool} {st : Nat} {sl : Bool} {odds : Int} {q : QS} (h : Mq w lk st sl odds q) : Mq w lk st sl odds (qMk (qN q) (qA q) true (qH q) (qZ q) (qS q) (qU q)) := h
def q1 (q : QS) : QS := qMk (qN q) (qA q + 1) (qO q) (qH q) (qZ q) (qS q) (qU q)
theorem Mq.count {w : rW} {lk : Bool} {st : Nat} {sl : Bool} {odds : Int} {q : QS} (h : Mq w lk st sl odds q) (hlt : qA q < st) : Mq (rSF w 29 (iI (qA q + 1 : Nat))) lk st sl odds (q1 q) := by
  obtain ⟨⟨n1, n2, n3⟩, ⟨a, b, c, d, e⟩, h3, h4⟩ := h
  exact ⟨⟨(rF_SF_o (by omega)).trans n1, n2, n3⟩, ⟨(rF_SF_o (by omega)).trans a, (rF_SF_o (by omega)).trans b, c, rF_SF_s, hlt⟩, ⟨(rF_SF_o (by omega)).trans h3.1, (rF_SF_o (by omega)).trans h3.2.1, (rF_SF_o (by omega)).trans h3.2.2.1, (rF_SF_o (by omega)).trans h3.2.2.2⟩, h4.imp (fun z => ⟨z.1, (rF_SF_o (by omega)).trans z.2.1, (rF_SF_o (by omega)).trans z.2.2.1, (rF_SF_o (by omega)).trans z.2.2.2⟩) (fun z => ⟨z.1, (rF_SF_o (by omega)).trans z.2.1, z.2.2⟩)⟩
theorem Mq.nd {w w' : rW} {lk : Bool} {st : Nat} {sl : Bool} {odds : Int} {q : QS} (h : Mq w lk st sl odds q) (hs : Rq CoA CoF w w') {N : List (Fo × Nat)} (hN : Nd w' N) : Mq w' lk st sl odds (qMk N (qA q) (qO q) (qH q) (qZ q) (qS q) (qU q)) := by
  obtain ⟨h1, h2, h3, h4⟩ := h
  have k : ∀ j, j ≠ 28 → rF w' j = rF w j := fun j hj => hs.2 j (fun z => hj z)
  refine ⟨hN, ?_, ?_, ?_⟩
  · rw [k 24 (by omega), k 23 (by omega), k 29 (by omega)]; exact h2
  · rw [k 31 (by omega), k 32 (by omega), k 33 (by omega), k 34 (by omega)]; exact h3
  · rw [k 37 (by omega), k 36 (by omega), k 35 (by omega)]; exact h4
theorem qOf_eq (d : Nat) (D : Fo) (q : QS) : qOf d D q = qMk (oNd d D (qN q)) (qA q) (qO q) (qH q) (qZ q) (qS q) (qU q) := by
  unfold qOf oNd
  split
  · rfl
  · split <;> rfl
theorem qDn_eq {lk : Bool} {st : Nat} {like : Bool} {q : QS} (h : qO q = false) : qDn lk st like q = if (lk && !like) = true then (false, q) else if qA q < st then (true, q1 q) else (false, qMk (qN q) (qA q) true (qH q) (qZ q) (qS q) (qU q)) := by
  unfold qDn q1
  rw [h, Bool.false_or]
/-- a result: whether it goes on, the state then -/
def Go (w : rW) (lk : Bool) (st : Nat) (sl : Bool) (odds : Int) (o : Option (Int32 × rW)) (q : QS) : Prop := ∃ w', o = some (iB (!qO q), w') ∧ Mq w' lk st sl odds q ∧ Rq AcA AcF w w'
theorem Go.pre {w w1 : rW} {lk : Bool} {st : Nat} {sl : Bool} {odds : Int} {o : Option (Int32 × rW)} {q : QS} (hr : Rq AcA AcF w w1) (h : Go w1 lk st sl odds o q) : Go w lk st sl odds o q := by
  obtain ⟨w', e, m, r⟩ := h
  exact ⟨w', e, m, hr.tr r⟩
theorem Go.rf {w : rW} {lk : Bool} {st : Nat} {sl : Bool} {odds : Int} {q : QS} (h : Mq w lk st sl odds q) (ho : qO q = false) : Go w lk st sl odds (some (1, w)) q := ⟨w, by rw [ho]; rfl, h, Rq.rf w⟩
theorem Go.no {w : rW} {lk : Bool} {st : Nat} {sl : Bool} {odds : Int} {q : QS} (h : Mq w lk st sl odds q) : Go w lk st sl odds (some (0, w)) (qMk (qN q) (qA q) true (qH q) (qZ q) (qS q) (qU q)) := ⟨w, rfl, h, Rq.rf w⟩
theorem act_if {w : rW} {lk : Bool} {st : Nat} {sl : Bool} {odds : Int} {q : QS} (h : Mq w lk st sl odds q) (A : rW → Option (Int32 × rW)) : (if rF w 29 = rF w 23 then some ((0 : Int32), w) else (rpF w 29 (rF w 29 + (1 : Int32))).bind A) = if qA q < st then A (rSF w 29 (iI (qA q + 1 : Nat))) else some (0, w) := by
  obtain ⟨-, ⟨a, b, c, d, e⟩, -⟩ := h
  rw [b, d]
  by_cases hlt : qA q < st
  · rw [if_neg (by rw [iI_eq (by omega) (by omega) (by omega) (by omega)]; omega), if_pos hlt, rpN, Option.bind_some, iL_1, iI_add]
    rfl
  · rw [if_pos (by congr 1; omega), if_neg hlt]
theorem like_if {w : rW} {lk : Bool} {st : Nat} {sl : Bool} {odds : Int} {q : QS} (h : Mq w lk st sl odds q) {L : Option Int32} {like : Bool} (hL : L = some (iB like)) {α : Type} (A B : Option α) : (if rF w 24 = 0 then A else L.bind fun v => if v = 0 then B else A) = if (lk && !like) = true then B else A := by
  rw [h.2.1.1, hL, Option.bind_some]
  cases lk with
  | false => rw [if_pos iB_fz, if_neg (by simp)]
  | true =>
    rw [if_neg iB_tn]
    cases like with
    | false => rw [if_pos iB_fz]; rfl
    | true => rw [if_neg iB_tn]; rfl
theorem Rq.ac29 {w : rW} {x : Int32} : Rq AcA AcF w (rSF w 29 x) := Rq.sf (Or.inr (Or.inl rfl))
theorem PtA.ac {w w' : rW} (h : Rq PtA NoF w w') : Rq AcA AcF w w' := h.wide (fun n i z => by rcases z with z | z; exact Or.inr (Or.inl z); exact Or.inr (Or.inr (Or.inl z))) (fun _ z => z.elim)
theorem InA.ac {a b : Nat} {w w' : rW} (ha : 2400 ≤ a) (h : Rq (InA a b) NoF w w') : Rq AcA AcF w w' := h.wide (fun n i z => Or.inl ⟨z.1, by have := z.2.1; omega⟩) (fun _ z => z.elim)
theorem CoA.ac {w w' : rW} (h : Rq CoA CoF w w') : Rq AcA AcF w w' := h.wide (fun n i z => by rcases z with z | z | z; exact Or.inl ⟨z.1, z.2.1⟩; exact Or.inr (Or.inr (Or.inr (Or.inl z))); exact Or.inr (Or.inr (Or.inr (Or.inr z)))) (fun j z => Or.inl z)
theorem Ml.ac {w w' : rW} {l : Nat} {f : Fo} (h : Ml w l f) (hs : Rq AcA AcF w w') : Ml w' l f := h.rq hs (fun j hj z => by rcases z with z | z | z | z | z <;> omega) (fun j z => by rcases z with z | z | z | z | z <;> omega)
theorem qZt_eq (q : QS) (X : Int32) : qZt q X = qMk (qN q) (qA q) (qO q) (qH q) X (qS q) (qU q) := rfl
theorem isSaid_eq (x1 : Int32) (w : rW) : fX12_isSaid x1 w = if (rF w 37) = 0 then (kBl x1).bind (fun v5 => some (v5, w)) else (rpF w 35 (zNx (rF w 35))).bind fun w1 => if zTh (rF w1 35) < (rF w1 36) then (if x1 = 0 then (rpF w1 33 ((rF w1 33) + (1 : Int32))).bind (fun w2 => some ((0 : Int32), w2)) else (rpF w1 34 ((rF w1 34) + (1 : Int32))).bind (fun w3 => some ((0 : Int32), w3))) else (kBl x1).bind (fun v4 => some (v4, w1)) := rfl
theorem said_t {w : rW} {lk : Bool} {st : Nat} {odds : Int} {q : QS} (h : Mq w lk st true odds q) (X : Int32) : Mq (rSF w 35 X) lk st true odds (qZt q X) := by
  obtain ⟨h1, h2, h3, h4⟩ := h
  have g : rF w 37 = iB true ∧ rF w 36 = iI odds := by
    rcases h4 with z | z
    · exact ⟨z.2.1, z.2.2.1⟩
    · cases z.1
  exact ⟨⟨(rF_SF_o (by omega)).trans h1.1, h1.2.1, h1.2.2⟩, ⟨(rF_SF_o (by omega)).trans h2.1, (rF_SF_o (by omega)).trans h2.2.1, h2.2.2.1, (rF_SF_o (by omega)).trans h2.2.2.2.1, h2.2.2.2.2⟩, ⟨(rF_SF_o (by omega)).trans h3.1, (rF_SF_o (by omega)).trans h3.2.1, (rF_SF_o (by omega)).trans h3.2.2.1, (rF_SF_o (by omega)).trans h3.2.2.2⟩, Or.inl ⟨rfl, (rF_SF_o (by omega)).trans g.1, (rF_SF_o (by omega)).trans g.2, rF_SF_s⟩⟩
theorem said_f {w : rW} {lk : Bool} {st : Nat} {odds : Int} {q : QS} (h : Mq w lk st false odds q) (X : Int32) : Mq w lk st false odds (qZt q X) := by
  obtain ⟨h1, h2, h3, h4⟩ := h
  refine ⟨h1, h2, h3, ?_⟩
  rcases h4 with z | z
  · cases z.1
  · exact Or.inr z
theorem said_go {w1 : rW} {lk : Bool} {st : Nat} {odds : Int} {t : QS} (hs : Mq w1 lk st true odds t) (X : Int32) (c : Bool) (d num : Nat) : (c && !zSl X odds) = true ∧ (∃ w', (if zTh X < iI odds then (if iB c = 0 then (rpF w1 33 ((rF w1 33) + (1 : Int32))).bind (fun w2 => some ((0 : Int32), w2)) else (rpF w1 34 ((rF w1 34) + (1 : Int32))).bind (fun w3 => some ((0 : Int32), w3))) else (kBl (iB c)).bind (fun v4 => some (v4, w1))) = some (1, w') ∧ Mq w' lk st true odds t ∧ Rq AcA AcF w1 w') ∨ (c && !zSl X odds) = false ∧ ∃ w', (if zTh X < iI odds then (if iB c = 0 then (rpF w1 33 ((rF w1 33) + (1 : Int32))).bind (fun w2 => some ((0 : Int32), w2)) else (rpF w1 34 ((rF w1 34) + (1 : Int32))).bind (fun w3 => some ((0 : Int32), w3))) else (kBl (iB c)).bind (fun v4 => some (v4, w1))) = some (0, w') ∧ Mq w' lk st true odds (qM2 c (zSl X odds) d num t) ∧ Rq AcA AcF w1 w' := by
  obtain ⟨t1, t2, t3, t4⟩ := id hs
  by_cases hz : iI odds ≤ zTh X
  · rw [zSl_t hz, if_neg (Int32.not_lt.mpr hz), kBl_B, Option.bind_some]
    cases c with
    | true => exact Or.inl ⟨rfl, w1, rfl, hs, Rq.rf w1⟩
    | false => exact Or.inr ⟨rfl, w1, rfl, hs, Rq.rf w1⟩
  · rw [zSl_f hz, if_pos (Int32.not_le.mp hz)]
    cases c with
    | true =>
      refine Or.inr ⟨rfl, rSF w1 34 (rF w1 34 + (1 : Int32)), ?_, ?_, Rq.sf (Or.inr (Or.inr (Or.inr (Or.inr (Or.inr (Or.inl rfl))))))⟩
      · rw [if_neg iB_tn, rpN, Option.bind_some]
      · refine ⟨⟨(rF_SF_o (by omega)).trans t1.1, t1.2.1, t1.2.2⟩, ⟨(rF_SF_o (by omega)).trans t2.1, (rF_SF_o (by omega)).trans t2.2.1, t2.2.2.1, (rF_SF_o (by omega)).trans t2.2.2.2.1, t2.2.2.2.2⟩, ⟨(rF_SF_o (by omega)).trans t3.1, (rF_SF_o (by omega)).trans t3.2.1, (rF_SF_o (by omega)).trans t3.2.2.1, ?_⟩, ?_⟩
        · rw [rF_SF_s, t3.2.2.2, iL_1, iI_add]
          rfl
        · rcases t4 with z | z
          · exact Or.inl ⟨rfl, (rF_SF_o (by omega)).trans z.2.1, (rF_SF_o (by omega)).trans z.2.2.1, (rF_SF_o (by omega)).trans z.2.2.2⟩
          · cases z.1
    | false =>
      refine Or.inr ⟨rfl, rSF w1 33 (rF w1 33 + (1 : Int32)), ?_, ?_, Rq.sf (Or.inr (Or.inr (Or.inr (Or.inr (Or.inl rfl)))))⟩
      · rw [if_pos iB_fz, rpN, Option.bind_some]
      · refine ⟨⟨(rF_SF_o (by omega)).trans t1.1, t1.2.1, t1.2.2⟩, ⟨(rF_SF_o (by omega)).trans t2.1, (rF_SF_o (by omega)).trans t2.2.1, t2.2.2.1, (rF_SF_o (by omega)).trans t2.2.2.2.1, t2.2.2.2.2⟩, ⟨(rF_SF_o (by omega)).trans t3.1, (rF_SF_o (by omega)).trans t3.2.1, ?_, (rF_SF_o (by omega)).trans t3.2.2.2⟩, ?_⟩
        · rw [rF_SF_s, t3.2.2.1, iL_1, iI_add]
          rfl
        · rcases t4 with z | z
          · exact Or.inl ⟨rfl, (rF_SF_o (by omega)).trans z.2.1, (rF_SF_o (by omega)).trans z.2.2.1, (rF_SF_o (by omega)).trans z.2.2.2⟩
          · cases z.1
theorem said_x {w : rW} {lk : Bool} {st : Nat} {odds : Int} {q : QS} (h : Mq w lk st true odds q) (X : Int32) (eX : zNx (qZ q) = X) (c : Bool) (d num : Nat) : (c && !zSl X odds) = true ∧ (∃ w', fX12_isSaid (iB c) w = some (1, w') ∧ Mq w' lk st true odds (qZt q X) ∧ Rq AcA AcF w w') ∨ (c && !zSl X odds) = false ∧ ∃ w', fX12_isSaid (iB c) w = some (0, w') ∧ Mq w' lk st true odds (qM2 c (zSl X odds) d num (qZt q X)) ∧ Rq AcA AcF w w' := by
  have hs := said_t h X
  have g : rF w 37 = iB true ∧ rF w 36 = iI odds ∧ rF w 35 = qZ q := by
    rcases h.2.2.2 with z | z
    · exact z.2
    · cases z.1
  have e35 : rF (rSF w 35 X) 35 = X := rF_SF_s
  have e36 : rF (rSF w 35 X) 36 = iI odds := (rF_SF_o (by omega)).trans g.2.1
  have rs : Rq AcA AcF w (rSF w 35 X) := Rq.sf (Or.inr (Or.inr (Or.inr (Or.inr (Or.inr (Or.inr rfl))))))
  rw [isSaid_eq, g.1, if_neg iB_tn, rpN, Option.bind_some, g.2.2, eX, e35, e36]
  rcases said_go hs X c d num with ⟨a, w', e, m, r⟩ | ⟨a, w', e, m, r⟩
  · exact Or.inl ⟨a, w', e, m, rs.tr r⟩
  · exact Or.inr ⟨a, w', e, m, rs.tr r⟩
/-- what a match says -/
theorem isSaid_ok {w : rW} {lk : Bool} {st : Nat} {sl : Bool} {odds : Int} {q : QS} (h : Mq w lk st sl odds q) (c : Bool) (d num : Nat) : ∃ (s : Bool) (X : Int32), qSl odds q = (s, qZt q X) ∧ ((c && !s) = true ∧ (∃ w', fX12_isSaid (iB c) w = some (1, w') ∧ Mq w' lk st sl odds (qZt q X) ∧ Rq AcA AcF w w') ∨ (c && !s) = false ∧ ∃ w', fX12_isSaid (iB c) w = some (0, w') ∧ Mq w' lk st sl odds (qM2 c s d num (qZt q X)) ∧ Rq AcA AcF w w') := by
  have hq : qSl odds q = (zSl (zNx (qZ q)) odds, qZt q (zNx (qZ q))) := by
    rw [qZt_eq]
    exact Prod.ext (qSl_1 odds q) (qSl_2 odds q)
  cases sl with
  | true => exact ⟨_, _, hq, said_x h _ rfl c d num⟩
  | false =>
    have g : rF w 37 = 0 ∧ odds = 0 := by
      rcases h.2.2.2 with z | z
      · cases z.1
      · exact z.2
    have hs := said_f h (zNx (qZ q))
    rw [g.2, zSl_0] at hq
    rw [g.2] at hs ⊢
    refine ⟨_, _, hq, ?_⟩
    rw [isSaid_eq, g.1, if_pos rfl, kBl_B, Option.bind_some]
    cases c with
    | true => exact Or.inl ⟨rfl, w, rfl, hs, Rq.rf w⟩
    | false => exact Or.inr ⟨rfl, w, rfl, hs, Rq.rf w⟩
theorem go_m {w : rW} {lk : Bool} {st : Nat} {sl : Bool} {odds : Int} {q : QS} (h : Mq w lk st sl odds q) (ho : qO q = false) {num i d : Nat} {F G : Fo} (hG : Ml w num G) (hN : (qN q)[i]? = some (F, d)) : Go w lk st sl odds (fX12_goesOn (109 : Int32) (iI num) (iI i) w) (qMa lk st odds F d num G q) := by
  obtain ⟨n1, n2, n3⟩ := id h.1
  obtain ⟨f1, f2, f3, f4, f5⟩ := n3 i F d hN
  have hi := (List.getElem?_eq_some_iff.mp hN).1
  rw [fX12_goesOn, needOf_ok, Option.bind_some, textOf_ok, Option.bind_some, if_pos rfl, like_if h (f1.like hG.2.1)]
  unfold qMa
  dsimp only
  rw [qDn_eq ho]
  by_cases c1 : (lk && !fLike F G) = true
  · rw [if_pos c1, if_pos c1]
    exact Go.rf h ho
  rw [if_neg c1, if_neg c1, fX12_goesOn_J38, act_if h]
  by_cases c2 : qA q < st
  · rw [if_pos c2, if_pos c2]
    have hc := h.count c2
    show Go w lk st sl odds _ (if true = true then qM2 (fMt G F σ0).isSome (qSl odds (q1 q)).1 d num (qSl odds (q1 q)).2 else q1 q)
    rw [if_pos rfl]
    refine Go.pre (Rq.ac29 (x := iI (qA q + 1 : Nat))) ?_
    have gG := hG.ac (Rq.ac29 (x := iI (qA q + 1 : Nat)))
    have gF : Lt (rSF w 29 (iI (qA q + 1 : Nat))) (2400 + 64 * i) F := f1
    generalize rSF w 29 (iI (qA q + 1 : Nat)) = w1 at hc gG gF ⊢
    obtain ⟨w2, e2, r2, -⟩ := comes_ok gG.2.1 gF
    have h2 := hc.pt r2
    have oq : qO (q1 q) = false := ho
    rw [e2, kb2_s]
    refine Go.pre (PtA.ac r2) ?_
    obtain ⟨s, X, hq, hs⟩ := isSaid_ok h2 (fMt G F σ0).isSome d num
    rw [hq]
    show Go w2 lk st sl odds _ (qM2 (fMt G F σ0).isSome s d num (qZt (q1 q) X))
    rcases hs with ⟨s1, w3, e3, h3, r3⟩ | ⟨s1, w3, e3, h3, r3⟩
    · rw [e3, kb2_s, if_neg (show ¬ (1 : Int32) = 0 by decide), rpN, Option.bind_some]
      rw [Bool.and_eq_true] at s1
      obtain ⟨s1, s2⟩ := s1
      have s2' : s = false := by
        cases s with
        | true => cases s2
        | false => rfl
      refine Go.pre r3 ?_
      rw [s1, s2']
      obtain ⟨t1, t2, t3, t4⟩ := h3
      have hN3 : (qN (qZt (q1 q) X))[i]? = some (F, d) := hN
      obtain ⟨-, -, -, v4, -⟩ := t1.2.2 i F d hN3
      have v4' : rA (rSF w3 31 (iI num)) 14 i = iI d := v4
      rw [raN (by omega) (by omega), Option.bind_some, v4', rpN, Option.bind_some]
      refine ⟨_, rfl, ⟨⟨(rF_SF_o (by omega)).trans ((rF_SF_o (by omega)).trans t1.1), t1.2.1, t1.2.2⟩, ⟨(rF_SF_o (by omega)).trans ((rF_SF_o (by omega)).trans t2.1), (rF_SF_o (by omega)).trans ((rF_SF_o (by omega)).trans t2.2.1), t2.2.2.1, (rF_SF_o (by omega)).trans ((rF_SF_o (by omega)).trans t2.2.2.2.1), t2.2.2.2.2⟩, ⟨(rF_SF_o (by omega)).trans rF_SF_s, rF_SF_s, (rF_SF_o (by omega)).trans ((rF_SF_o (by omega)).trans t3.2.2.1), (rF_SF_o (by omega)).trans ((rF_SF_o (by omega)).trans t3.2.2.2)⟩, t4.imp (fun z => ⟨z.1, (rF_SF_o (by omega)).trans ((rF_SF_o (by omega)).trans z.2.1), (rF_SF_o (by omega)).trans ((rF_SF_o (by omega)).trans z.2.2.1), (rF_SF_o (by omega)).trans ((rF_SF_o (by omega)).trans z.2.2.2)⟩) (fun z => ⟨z.1, (rF_SF_o (by omega)).trans ((rF_SF_o (by omega)).trans z.2.1), z.2.2⟩)⟩, (Rq.sf (Or.inr (Or.inr (Or.inl rfl)))).tr (Rq.sf (Or.inr (Or.inr (Or.inr (Or.inl rfl)))))⟩
    · rw [e3, kb2_s, if_pos rfl]
      refine ⟨w3, ?_, h3, r3⟩
      have eo : qO (qM2 (fMt G F σ0).isSome s d num (qZt (q1 q) X)) = false := by
        have o2 : qO (qZt (q1 q) X) = false := ho
        unfold qM2
        cases hx : (fMt G F σ0).isSome with
        | true =>
          cases s with
          | true => exact o2
          | false => rw [hx] at s1; cases s1
        | false =>
          cases s with
          | true => exact o2
          | false => exact o2
      rw [eo]
      rfl
  · rw [if_neg c2, if_neg c2]
    exact Go.no h
