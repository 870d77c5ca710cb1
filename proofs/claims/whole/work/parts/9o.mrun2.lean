/-! .. begins, as it is now, a run whole -/
def SlP (w : rW) (sl : Bool) (odds : Int) (z : Int32) : Prop := (sl = true ∧ rF w 37 = iB true ∧ rF w 36 = iI odds ∧ rF w 35 = z) ∨ (sl = false ∧ rF w 37 = 0 ∧ odds = 0)
theorem SlP.of {w w' : rW} {sl : Bool} {odds : Int} {z : Int32} (h : SlP w sl odds z) (h7 : rF w' 37 = rF w 37) (h6 : rF w' 36 = rF w 36) (h5 : rF w' 35 = rF w 35) : SlP w' sl odds z := by
  unfold SlP
  rw [h7, h6, h5]
  exact h
theorem begins_ok {w : rW} {l : Nat} {F : Fo} {lk : Bool} {st : Nat} {sl : Bool} {odds : Int} {z : Int32} (hF : Ml w l F) (h24 : rF w 24 = iB lk) (h23 : rF w 23 = iI st) (hst : st ≤ 1000000) (hs : SlP w sl odds z) : ∃ w', fX12_begins (iI l) w = some w' ∧ Mq w' lk st sl odds (qQ0 F z) ∧ Rq AcA AcF w w' := by
  have l40 := hF.1
  have t60 := hF.2.2.1
  have lt : (fTxt F).length = tln F := rfl
  have c0 : (0 : Int32) = iI ((0 : Nat) : Int) := rfl
  have c1 : (1 : Int32) = iI ((1 : Nat) : Int) := rfl
  obtain ⟨w1, e1, r1, l1⟩ := copies_ok (a := 2400) hF.2.1.2.1 (by omega) (by omega) (Or.inl (by omega))
  rw [lt] at e1 r1
  obtain ⟨w2, ew2⟩ : ∃ w2, w2 = rSA (rSA w1 13 0 (iI (2400 + tln F : Nat))) 14 0 (iI ((0 : Nat) : Int)) := ⟨_, rfl⟩
  obtain ⟨w3, ew3⟩ : ∃ w3, w3 = rSF (rSF (rSF (rSF (rSF (rSF w2 28 (iI ((1 : Nat) : Int))) 29 (iI ((0 : Nat) : Int))) 31 (iI (-4))) 32 (iI (-4))) 33 (iI ((0 : Nat) : Int))) 34 (iI ((0 : Nat) : Int)) := ⟨_, rfl⟩
  have r2 : Rq AcA AcF w w2 := by
    rw [ew2]
    exact Rq.tr (Rq.tr (InA.ac (by omega) r1) (Rq.sa (Or.inr (Or.inr (Or.inr (Or.inl rfl)))))) (Rq.sa (Or.inr (Or.inr (Or.inr (Or.inr rfl)))))
  have r3 : Rq AcA AcF w w3 := by
    rw [ew3]
    exact Rq.tr (Rq.tr (Rq.tr (Rq.tr (Rq.tr (Rq.tr r2 (Rq.sf (Or.inl rfl))) (Rq.sf (Or.inr (Or.inl rfl)))) (Rq.sf (Or.inr (Or.inr (Or.inl rfl))))) (Rq.sf (Or.inr (Or.inr (Or.inr (Or.inl rfl)))))) (Rq.sf (Or.inr (Or.inr (Or.inr (Or.inr (Or.inl rfl))))))) (Rq.sf (Or.inr (Or.inr (Or.inr (Or.inr (Or.inr (Or.inl rfl)))))))
  have A : rA w3 = rA w2 := by rw [ew3]; rfl
  have keep : ∀ j, j ≠ 28 → j ≠ 29 → j ≠ 31 → j ≠ 32 → j ≠ 33 → j ≠ 34 → rF w3 j = rF w j := fun j a b c d e f => by
    rw [ew3, rF_SF_o f, rF_SF_o e, rF_SF_o d, rF_SF_o c, rF_SF_o b, rF_SF_o a, ew2]
    exact r1.2 j (fun z => z)
  refine ⟨w3, ?_, ⟨⟨?_, by show 1 ≤ 24; omega, fun j G d hj => ?_⟩, ⟨(keep 24 (by omega) (by omega) (by omega) (by omega) (by omega) (by omega)).trans h24, (keep 23 (by omega) (by omega) (by omega) (by omega) (by omega) (by omega)).trans h23, hst, ?_, Nat.zero_le _⟩, ⟨?_, ?_, ?_, ?_⟩, ?_⟩, r3⟩
  · rw [fX12_begins, textOf_ok, Option.bind_some, Option.bind_some, hF.size, Option.bind_some, hF.to, c0, needOf_ok, Option.bind_some]
    show (kb2 (fX12_copies (iI (60 * l : Nat)) (iI (60 * l + tln F : Nat)) (iI (2400 : Nat)) w) fun v10 w8 => _) = _
    rw [e1, kb2_s, rsN (by omega) (by omega), Option.bind_some, rsN (by omega) (by omega), Option.bind_some, ← ew2, c1, iN_4, rpN, Option.bind_some, rpN, Option.bind_some, rpN, Option.bind_some, rpN, Option.bind_some, rpN, Option.bind_some, rpN, Option.bind_some, ew3]
  · rw [ew3, rF_SF_o (by omega), rF_SF_o (by omega), rF_SF_o (by omega), rF_SF_o (by omega), rF_SF_o (by omega), rF_SF_s]
    rfl
  · have hj' : [(F, 0)][j]? = some (G, d) := hj
    have j0 : j = 0 := by
      have := (List.getElem?_eq_some_iff.mp hj').1
      rw [List.length_singleton] at this
      omega
    subst j0
    cases hj'
    rw [A, ew2]
    refine ⟨⟨hF.2.1.1, ?_, by omega, hF.2.1.2.2.2⟩, by omega, ?_, ?_, Nat.le_refl _⟩
    · have : rA w3 0 = rA w1 0 := by rw [A, ew2]; rfl
      rw [this]
      exact l1
    · rw [rA_SA_o (by omega), rA_SA_s]
    · rw [rA_SA_s]
  · rw [ew3, rF_SF_o (by omega), rF_SF_o (by omega), rF_SF_o (by omega), rF_SF_o (by omega), rF_SF_s]
    rfl
  · rw [ew3, rF_SF_o (by omega), rF_SF_o (by omega), rF_SF_o (by omega), rF_SF_s]
    rfl
  · rw [ew3, rF_SF_o (by omega), rF_SF_o (by omega), rF_SF_s]
    rfl
  · rw [ew3, rF_SF_o (by omega), rF_SF_s]
    rfl
  · rw [ew3, rF_SF_s]
    rfl
  · have := hs.of (w' := w3) (keep 37 (by omega) (by omega) (by omega) (by omega) (by omega) (by omega)) (keep 36 (by omega) (by omega) (by omega) (by omega) (by omega) (by omega)) (keep 35 (by omega) (by omega) (by omega) (by omega) (by omega) (by omega))
    exact this
def NwA (n _i : Nat) : Prop := n = 15
def NwF (j : Nat) : Prop := j = 30
theorem asNow_ok {w : rW} {S : AS} (h : MI w S) : ∃ w', fX12_asNow w = some w' ∧ Rq NwA NwF w w' ∧ MkK w' (tKL (sT S)) := by
  obtain ⟨hW, ⟨n0, n1, n2⟩, -, -, -, h4, -⟩ := h.1
  have hkl := hW.kl
  have h40 := hW.1
  have c1 : (1 : Int32) = iI ((1 : Nat) : Int) := rfl
  have L : ∀ (m fu i : Nat) (w1 : rW), m < fu → i + m = (tK (sT S)).length → rF w1 30 = iI (tK (sT S)).length → rA w1 2 = rA w 2 → (∀ k num, k < i → (tK (sT S))[k]? = some num → rA w1 15 k = iI num) → ∃ w', fX12_asNow_L12 fu (fun _ q => some q) (iI i) w1 = some w' ∧ Rq NwA NoF w1 w' ∧ ∀ (k num : Nat), (tK (sT S))[k]? = some num → rA w' 15 k = iI num := by
    intro m
    induction m with
    | zero =>
      intro fu i w1 hf hi h30 h2 h15
      obtain ⟨fu, rfl⟩ : ∃ z, fu = z + 1 := ⟨fu - 1, by omega⟩
      refine ⟨w1, ?_, Rq.rf w1, fun k num e => h15 k num (by have := (List.getElem?_eq_some_iff.mp e).1; omega) e⟩
      rw [fX12_asNow_L12, h30, if_pos (by rw [iI_le (by omega) (by omega) (by omega) (by omega)]; omega)]
    | succ m ih =>
      intro fu i w1 hf hi h30 h2 h15
      obtain ⟨fu, rfl⟩ : ∃ z, fu = z + 1 := ⟨fu - 1, by omega⟩
      have hlt : i < (tK (sT S)).length := by omega
      have e0 := List.getElem?_eq_getElem hlt
      have e203 : (203 : Int32) + iI i = iI (203 + i : Nat) := by rw [iL_203, iI_add]; rfl
      obtain ⟨w', e, r, g⟩ := ih fu (i + 1) (rSA w1 15 i (iI ((tK (sT S))[i] : Nat))) (by omega) (by omega) h30 (by rw [rA_SA_o (by omega)]; exact h2) (fun k num hk hn => by
        by_cases c : k = i
        · rw [c, rA_SA_s]
          rw [c, e0] at hn
          cases hn
          rfl
        · rw [rA_SA_j c]
          exact h15 k num (by omega) hn)
      refine ⟨w', ?_, Rq.tr (Rq.sa rfl) r, g⟩
      rw [fX12_asNow_L12, h30, if_neg (by rw [iI_le (by omega) (by omega) (by omega) (by omega)]; omega), e203, raN (by omega) (by omega), Option.bind_some, h2, h4 i _ e0, rsN (by omega) (by omega), Option.bind_some, e1s]
      exact e
  obtain ⟨w', e, r, g⟩ := L (tK (sT S)).length kFU 0 (rSF w 30 (iI (tK (sT S)).length)) (by unfold kFU; omega) (by omega) rF_SF_s rfl (fun k num hk => absurd hk (Nat.not_lt_zero k))
  have R : Rq NwA NwF w w' := Rq.tr (Rq.sf rfl) (r.wide (fun _ _ z => z) (fun _ z => z.elim))
  have hm : MI w' S := h.rq (R.wide (fun n i z => Or.inr (by have z' : n = 15 := z; omega)) (fun j z => by unfold ScF; have z' : j = 30 := z; omega))
  refine ⟨w', ?_, R, ?_, ?_, fun k num G e' => ?_⟩
  · rw [fX12_asNow, c1, raN (by omega) (by omega), Option.bind_some, n1, rpN, Option.bind_some]
    exact e
  · rw [tKL_len]
    have f30 : rF w' 30 = rF (rSF w 30 (iI (tK (sT S)).length)) 30 := r.2 30 (fun z => z)
    rw [f30, rF_SF_s]
  · rw [tKL_len]; omega
  · have e2 : ((tK (sT S)).map fun k => (k, tLd (sT S) k))[k]? = some (num, G) := e'
    rw [List.getElem?_map] at e2
    obtain ⟨n', hn, he⟩ := Option.map_eq_some_iff.mp e2
    cases he
    have hin := ((hW.2.2.2.1 num).mp (List.mem_of_getElem? hn)).1
    exact ⟨g k num hn, hm.mn hin⟩
/-- what a run may change -/
def RuA (n i : Nat) : Prop := AcA n i ∨ n = 12
def RuF (j : Nat) : Prop := AcF j ∨ TpF j
theorem RuA.sc {w w' : rW} (h : Rq RuA RuF w w') : Rq ScA ScF w w' := h.wide (fun n i z => by
    rcases z with z | z
    · rcases z with z | z | z | z | z
      · exact Or.inl z
      · exact Or.inr (by omega)
      · exact Or.inr (by omega)
      · exact Or.inr (by omega)
      · exact Or.inr (by omega)
    · exact Or.inr (by omega)) (fun j z => by
    unfold ScF
    rcases z with z | z
    · rcases z with z | z | z | z | z | z | z <;> omega
    · have := z.1; have := z.2; omega)
theorem MkK.tp {w w' : rW} {K : List (Nat × Fo)} (h : MkK w K) (hs : Rq TpA TpF w w') : MkK w' K := by
  obtain ⟨a, b, c⟩ := h
  refine ⟨by rw [hs.2 30 (fun z => by have := z.2; omega)]; exact a, b, fun k num G e => ?_⟩
  obtain ⟨c1, c2⟩ := c k num G e
  exact ⟨by rw [hs.1 15 k (fun z => by have z' : (15 : Nat) = 12 := z; omega)]; exact c1, c2.rq hs (fun j _ z => by have z' : (0 : Nat) = 12 := z; omega) (fun j z => by have z' : (2 : Nat) = 12 := z; omega)⟩
theorem runs_ok {w : rW} {K : List (Nat × Fo)} {u : List Int} {p l : Nat} {F : Fo} {sl : Bool} {odds : Int} {z : Int32} (hp : p < 6) (hu : u.length ≤ 120) (hb : ∀ c ∈ u, -128 ≤ c ∧ c < 128) (h0 : pFt u = none) (h1 : rA w 2 (243 + 121 * p) = iI u.length) (h2 : ∀ (i : Nat) (c : Int), u[i]? = some c → rA w 2 (243 + 121 * p + 1 + i) = iI c) (hK : MkK w K) (hF : Ml w l F) (hs : SlP w sl odds z) : ∃ w', fX12_runs (iI p) (iI l) w = some w' ∧ Mq w' (psL (pEnd u)) (psS (pEnd u)) sl odds (qRun (pEnd u) K odds z 1000000 F) ∧ MkK w' K ∧ Rq RuA RuF w w' := by
  obtain ⟨w1, lm, e1, r1, hC, f24, f23, f22, hl⟩ := takes_prog hp hu hb h0 h1 h2
  have hK1 := hK.tp r1
  have hF1 : Ml w1 l F := hF.rq r1 (fun j _ z => by have z' : (0 : Nat) = 12 := z; omega) (fun j z => by have z' : (2 : Nat) = 12 := z; omega)
  have bd := (pEnd_bd hb).1
  have sS : psS (pEnd u) ≤ 100 := bd.2.2.2.2.2
  have sN : psN (pEnd u) ≤ 1000000 := bd.2.2.2.2.1
  obtain ⟨w2, e2, m2, r2⟩ := begins_ok hF1 f24 f23 (by omega) (hs.of (r1.2 37 (fun z => by have := z.2; omega)) (r1.2 36 (fun z => by have := z.2; omega)) (r1.2 35 (fun z => by have := z.2; omega)))
  have hK2 := hK1.ac r2
  have hC2 := hC.ac r2
  have g22 : rF w2 22 = iI lm := by rw [r2.2 22 (fun z => by rcases z with z | z | z | z | z | z | z <;> omega)]; exact f22
  have k40 := hK.2.1
  have lmb : lm ≤ 1000000 := by rcases hl with h | ⟨h, h'⟩ <;> omega
  have first : K.length - lm = K.length - psN (pEnd u) := by rcases hl with h | ⟨h, h'⟩ <;> omega
  obtain ⟨w3, e3, m3, r3⟩ := runN (K := K) (acts := psA (pEnd u)) (iI p) (iI l) (first := K.length - lm) (deepest := 1000000) (by omega) (by omega) 24 kFU 0 w2 _ (by unfold kFU; omega) (by omega) m2 rfl hK2 hC2
  have rr : Rq RuA RuF w w3 := ((r1.wide (fun n i z => Or.inr z) (fun j z => Or.inr z)).tr (r2.wide (fun n i z => Or.inl z) (fun j z => Or.inl z))).tr (r3.wide (fun n i z => Or.inl z) (fun j z => Or.inl z))
  refine ⟨w3, ?_, ?_, hK2.ac r3, rr⟩
  · rw [fX12_runs, e1, Option.bind_some, e2, Option.bind_some, g22, hK2.1]
    by_cases c : K.length ≤ lm
    · rw [if_pos (by rw [iI_le (by omega) (by omega) (by omega) (by omega)]; omega), fX12_runs_J34]
      rw [show K.length - lm = 0 by omega] at e3
      exact e3
    · rw [if_neg (by rw [iI_le (by omega) (by omega) (by omega) (by omega)]; omega), fX12_runs_J34, iI_sub, show (K.length : Int) - (lm : Int) = ((K.length - lm : Nat) : Int) by omega]
      exact e3
  · rw [first] at m3
    exact m3
/-- by which line a run has shown: a known one -/
def qHk (q : QS) : Prop := ∀ e, qH q = some e → e.2 < 40
theorem qDn_H (lk : Bool) (st : Nat) (like : Bool) (q : QS) : qH (qDn lk st like q).2 = qH q := by
  unfold qDn
  split
  · rfl
  · split <;> rfl
theorem qOf_H (d : Nat) (D : Fo) (q : QS) : qH (qOf d D q) = qH q := by
  unfold qOf
  split
  · rfl
  · split <;> rfl
theorem qM2_Hk {c s : Bool} {d num : Nat} {t : QS} (hn : num < 40) (h : qHk t) : qHk (qM2 c s d num t) := by
  unfold qM2
  cases c <;> cases s
  · exact h
  · exact h
  · intro e he
    have he' : some (d, num) = some e := he
    cases he'
    exact hn
  · exact h
theorem qH_mk (n : List (Fo × Nat)) (a : Nat) (o : Bool) (h : Option (Nat × Nat)) (z : Int32) (s u : Nat) : qH (qMk n a o h z s u) = h := rfl
theorem qSl_H (odds : Int) (q : QS) : qH (qSl odds q).2 = qH q := by
  rw [qSl_2]
  exact qH_mk _ _ _ _ _ _ _
theorem qMa_Hk {lk : Bool} {st : Nat} {odds : Int} {F G : Fo} {d num : Nat} {q : QS} (hn : num < 40) (h : qHk q) : qHk (qMa lk st odds F d num G q) := by
  unfold qMa
  dsimp only
  split
  · refine qM2_Hk hn (fun e he => h e ?_)
    rw [qSl_H, qDn_H] at he
    exact he
  · exact fun e he => h e (by rw [qDn_H] at he; exact he)
theorem qBa_H {lk : Bool} {st : Nat} {F G : Fo} {d : Nat} {q : QS} : qH (qBa lk st F d G q) = qH q := by
  cases G with
  | sub x y =>
    show qH (if (qDn lk st (fLike F y) q).1 = true then (match fMt y F σ0 with | some σ => qOf d (fSb σ x) (qDn lk st (fLike F y) q).2 | none => (qDn lk st (fLike F y) q).2) else (qDn lk st (fLike F y) q).2) = _
    split
    · cases fMt y F σ0 with
      | none => exact qDn_H _ _ _ _
      | some σ => exact (qOf_H _ _ _).trans (qDn_H _ _ _ _)
    · exact qDn_H _ _ _ _
  | _ => rfl
theorem qAh_H {lk : Bool} {st : Nat} {F G : Fo} {d : Nat} {q : QS} : qH (qAh lk st d F G q) = qH q := by
  cases F with
  | sub a b =>
    cases G with
    | sub x y =>
      show qH (if (qDn lk st (fLike a x) q).1 = true then (match fMt x a σ0 with | some σ => qOf d (.sub (fSb σ y) b) (qDn lk st (fLike a x) q).2 | none => (qDn lk st (fLike a x) q).2) else (qDn lk st (fLike a x) q).2) = _
      split
      · cases fMt x a σ0 with
        | none => exact qDn_H _ _ _ _
        | some σ => exact (qOf_H _ _ _).trans (qDn_H _ _ _ _)
      · exact qDn_H _ _ _ _
    | _ => rfl
  | _ => rfl
theorem qBe_H {lk : Bool} {st : Nat} {F G : Fo} {d : Nat} {q : QS} : qH (qBe lk st d F G q) = qH q := by
  cases F with
  | sub a b =>
    cases G with
    | sub x y =>
      show qH (if (qDn lk st (fLike b y) q).1 = true then (match fMt y b σ0 with | some σ => qOf d (.sub a (fSb σ x)) (qDn lk st (fLike b y) q).2 | none => (qDn lk st (fLike b y) q).2) else (qDn lk st (fLike b y) q).2) = _
      split
      · cases fMt y b σ0 with
        | none => exact qDn_H _ _ _ _
        | some σ => exact (qOf_H _ _ _).trans (qDn_H _ _ _ _)
      · exact qDn_H _ _ _ _
    | _ => rfl
  | _ => rfl
theorem qAct_Hk {lk : Bool} {st : Nat} {odds : Int} {c : Nat} {F G : Fo} {d num : Nat} {q : QS} (hn : num < 40) (h : qHk q) : qHk (qAct lk st odds c F d num G q) := by
  unfold qAct
  split
  · exact qMa_Hk hn h
  · split
    · exact fun e he => h e (by rw [qBa_H] at he; exact he)
    · exact fun e he => h e (by rw [qBe_H, qAh_H] at he; exact he)
theorem qKs_Hk {lk : Bool} {st : Nat} {odds : Int} {c : Nat} {F : Fo} {d : Nat} : ∀ (l : List (Nat × Fo)) (q : QS), (∀ e ∈ l, e.1 < 40) → qHk q → qHk (qKs lk st odds c F d l q) := by
  intro l
  induction l with
  | nil => exact fun q _ h => h
  | cons a l ih =>
    intro q hl h
    show qHk (if qO q = true then q else qKs lk st odds c F d l (qAct lk st odds c F d a.1 a.2 q))
    split
    · exact h
    · exact ih _ (fun e he => hl e (List.mem_cons_of_mem _ he)) (qAct_Hk (hl a List.mem_cons_self) h)
theorem qAs_Hk {lk : Bool} {st : Nat} {odds : Int} {K : List (Nat × Fo)} (hK : ∀ e ∈ K, e.1 < 40) {F : Fo} {d : Nat} : ∀ (l : List Nat) (q : QS), qHk q → qHk (qAs lk st odds K F d l q) := by
  intro l
  induction l with
  | nil => exact fun q h => h
  | cons a l ih =>
    intro q h
    show qHk (if qO q = true then q else qAs lk st odds K F d l (qKs lk st odds a F d K q))
    split
    · exact h
    · exact ih _ (qKs_Hk K q hK h)
theorem qNs_Hk {lk : Bool} {st : Nat} {odds : Int} {K : List (Nat × Fo)} (hK : ∀ e ∈ K, e.1 < 40) {acts : List Nat} {deepest : Nat} : ∀ (m i : Nat) (q : QS), qHk q → qHk (qNs lk st odds K acts deepest m i q) := by
  intro m
  induction m with
  | zero => exact fun i q h => h
  | succ m ih =>
    intro i q h
    show qHk (if qO q = true then q else match (qN q)[i]? with | none => q | some e => qNs lk st odds K acts deepest m (i + 1) (if e.2 < deepest then qAs lk st odds K e.1 e.2 acts q else q))
    split
    · exact h
    · cases (qN q)[i]? with
      | none => exact h
      | some e =>
        refine ih (i + 1) _ ?_
        show qHk (if e.2 < deepest then qAs lk st odds K e.1 e.2 acts q else q)
        split
        · exact qAs_Hk hK acts q h
        · exact h
theorem qRun_Hk {P : PS} {K : List (Nat × Fo)} (hK : ∀ e ∈ K, e.1 < 40) {odds : Int} {z : Int32} {deepest : Nat} {F : Fo} : qHk (qRun P K odds z deepest F) :=
  qNs_Hk (fun e he => hK e (List.mem_of_mem_drop he)) 24 0 _ (fun e he => by cases he)
