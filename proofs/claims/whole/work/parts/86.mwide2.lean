/-! .. is where the signs part, or nothing makes them one -/
def fCl : Fo → Fo → Bool
  | .neg a, g => match g with
    | .neg b => fCl a b
    | _ => false
  | .add a c, g => match g with
    | .add b d => fCl a b || fCl c d
    | .sub _ _ => true
    | _ => false
  | .sub a c, g => match g with
    | .sub b d => fCl a b || fCl c d
    | .add _ _ => true
    | _ => false
  | _, _ => false
theorem cl_ne : ∀ f, fOk f → ∀ g, fCl f g = true → f ≠ g := by
  apply fInd
  · intro i hi g h; cases h
  · intro a ha ih g h e
    subst e
    exact ih a h rfl
  · intro a b ha hb iha ihb g h e
    subst e
    have h' : (fCl a a || fCl b b) = true := h
    rw [Bool.or_eq_true] at h'
    rcases h' with h' | h'
    · exact iha a h' rfl
    · exact ihb b h' rfl
  · intro a b ha hb iha ihb g h e
    subst e
    have h' : (fCl a a || fCl b b) = true := h
    rw [Bool.or_eq_true] at h'
    rcases h' with h' | h'
    · exact iha a h' rfl
    · exact ihb b h' rfl
theorem cl_S1 (k : Nat) (p : Fo) : ∀ f, fOk f → ∀ g, fOk g → fCl f g = true → fCl (fS1 k p f) (fS1 k p g) = true := by
  apply fInd
  · intro i hi g hg h; cases h
  · intro a ha ih g hg h
    rcases fCases hg with ⟨j, hj, rfl⟩ | ⟨c, hc, rfl⟩ | ⟨c, d, hc, hd, rfl⟩ | ⟨c, d, hc, hd, rfl⟩
    · cases h
    · exact ih c hc h
    · cases h
    · cases h
  · intro a b ha hb iha ihb g hg h
    rcases fCases hg with ⟨j, hj, rfl⟩ | ⟨c, hc, rfl⟩ | ⟨c, d, hc, hd, rfl⟩ | ⟨c, d, hc, hd, rfl⟩
    · cases h
    · cases h
    · have h' : (fCl a c || fCl b d) = true := h
      show (fCl (fS1 k p a) (fS1 k p c) || fCl (fS1 k p b) (fS1 k p d)) = true
      rw [Bool.or_eq_true] at h' ⊢
      rcases h' with h' | h'
      · exact Or.inl (iha c hc h')
      · exact Or.inr (ihb d hd h')
    · rfl
  · intro a b ha hb iha ihb g hg h
    rcases fCases hg with ⟨j, hj, rfl⟩ | ⟨c, hc, rfl⟩ | ⟨c, d, hc, hd, rfl⟩ | ⟨c, d, hc, hd, rfl⟩
    · cases h
    · cases h
    · rfl
    · have h' : (fCl a c || fCl b d) = true := h
      show (fCl (fS1 k p a) (fS1 k p c) || fCl (fS1 k p b) (fS1 k p d)) = true
      rw [Bool.or_eq_true] at h' ⊢
      rcases h' with h' | h'
      · exact Or.inl (iha c hc h')
      · exact Or.inr (ihb d hd h')
theorem cl_no : ∀ f, fOk f → ∀ g, fOk g → fCl f g = false → tDf f g = (fDf f g).map some := by
  have two : ∀ (a b c d : Fo), tDf a b = (fDf a b).map some → tDf c d = (fDf c d).map some → (match tDf a b with
      | none => tDf c d
      | r => r) = ((fDf a b).or (fDf c d)).map some := by
    intro a b c d h1 h2
    rw [h1, h2]
    cases fDf a b with
    | none => rfl
    | some r => rfl
  apply fInd
  · intro i hi g hg h
    rcases fCases hg with ⟨j, hj, rfl⟩ | ⟨c, hc, rfl⟩ | ⟨c, d, hc, hd, rfl⟩ | ⟨c, d, hc, hd, rfl⟩
    · show (if (i : Nat) = j then none else some (some ((Int.Internal.Linear.Expr.var i : Fo), (Int.Internal.Linear.Expr.var j : Fo)))) = (if fEq (.var i) (.var j) then none else some ((Int.Internal.Linear.Expr.var i : Fo), (Int.Internal.Linear.Expr.var j : Fo))).map some
      by_cases e : i = j
      · rw [if_pos e, e, fEq_self]; rfl
      · have : fEq (.var i) (.var j) = false := by
          cases hq : fEq (.var i) (.var j) with
          | false => rfl
          | true =>
            have := (fEq_iff (a := .var i) (b := .var j) hi hj).mp hq
            cases this
            exact absurd rfl e
        rw [if_neg e, this]; rfl
    · show _ = (if fEq (.var i) (.neg c) then none else some _).map some
      rw [show fEq (.var i) (.neg c) = false from decide_eq_false (fun z => by
        have := (List.cons.inj (show (112 + i) :: [] = 126 :: fPre c from z)).1
        omega)]; rfl
    · show _ = (if fEq (.var i) (.add c d) then none else some _).map some
      rw [show fEq (.var i) (.add c d) = false from decide_eq_false (fun z => by
        have := (List.cons.inj (show (112 + i) :: [] = 118 :: (fPre c ++ fPre d) from z)).2
        have l := congrArg List.length this
        rw [List.length_append] at l
        have := fSz_pos hc
        have e : fSz c = (fPre c).length := rfl
        rw [List.length_nil] at l
        omega)]; rfl
    · show _ = (if fEq (.var i) (.sub c d) then none else some _).map some
      rw [show fEq (.var i) (.sub c d) = false from decide_eq_false (fun z => by
        have := (List.cons.inj (show (112 + i) :: [] = 62 :: (fPre c ++ fPre d) from z)).1
        omega)]; rfl
  · intro a ha ih g hg h
    rcases fCases hg with ⟨j, hj, rfl⟩ | ⟨c, hc, rfl⟩ | ⟨c, d, hc, hd, rfl⟩ | ⟨c, d, hc, hd, rfl⟩
    · rfl
    · exact ih c hc h
    · rfl
    · rfl
  · intro a b ha hb iha ihb g hg h
    rcases fCases hg with ⟨j, hj, rfl⟩ | ⟨c, hc, rfl⟩ | ⟨c, d, hc, hd, rfl⟩ | ⟨c, d, hc, hd, rfl⟩
    · rfl
    · rfl
    · have h' : (fCl a c || fCl b d) = false := h
      rw [Bool.or_eq_false_iff] at h'
      exact two a c b d (iha c hc h'.1) (ihb d hd h'.2)
    · cases h
  · intro a b ha hb iha ihb g hg h
    rcases fCases hg with ⟨j, hj, rfl⟩ | ⟨c, hc, rfl⟩ | ⟨c, d, hc, hd, rfl⟩ | ⟨c, d, hc, hd, rfl⟩
    · rfl
    · rfl
    · cases h
    · have h' : (fCl a c || fCl b d) = false := h
      rw [Bool.or_eq_false_iff] at h'
      exact two a c b d (iha c hc h'.1) (ihb d hd h'.2)
/-- the model's road -/
def tWi : Nat → Fo → Fo → Option Fo
  | 0, _, _ => none
  | n + 1, F, G => match tDf F G with
    | none => some F
    | some none => none
    | some (some (x, y)) => (fNx x y F G).bind fun q => tWi n q.1 q.2
theorem fPk_ok {x y : Fo} (hx : fOk x) (hy : fOk y) {k : Nat} {p : Fo} (h : fPk x y = some (k, p)) : k < 6 ∧ fOk p ∧ ((x = .var k ∧ p = y) ∨ (y = .var k ∧ p = x)) := by
  unfold fPk at h
  rcases fLet hx with ⟨i, hi, rfl⟩ | ⟨e, -⟩
  · have h' : some ((i : Nat), y) = some (k, p) := h
    cases h'
    exact ⟨hi, hy, Or.inl ⟨rfl, rfl⟩⟩
  · rw [e] at h
    rcases fLet hy with ⟨i, hi, rfl⟩ | ⟨e', -⟩
    · have h' : some ((i : Nat), x) = some (k, p) := h
      cases h'
      exact ⟨hi, hx, Or.inr ⟨rfl, rfl⟩⟩
    · rw [e'] at h
      cases h
theorem fNx_S1 {x y F G F' G' : Fo} (hx : fOk x) (hy : fOk y) (h : fNx x y F G = some (F', G')) : ∃ k p, fPk x y = some (k, p) ∧ k < 6 ∧ fOk p ∧ ((x = .var k ∧ p = y) ∨ (y = .var k ∧ p = x)) ∧ fHas k p = false ∧ F' = fS1 k p F ∧ G' = fS1 k p G ∧ fSz F' ≤ 200 ∧ fSz G' ≤ 200 := by
  unfold fNx at h
  cases hp : fPk x y with
  | none => rw [hp] at h; cases h
  | some q =>
    obtain ⟨k, p⟩ := q
    obtain ⟨a, b, c⟩ := fPk_ok hx hy hp
    rw [hp] at h
    have h' : (if fHas k p then none else if fSz (fS1 k p F) ≤ 200 ∧ fSz (fS1 k p G) ≤ 200 then some (fS1 k p F, fS1 k p G) else none) = some (F', G') := h
    cases hh : fHas k p with
    | true => rw [hh, if_pos rfl] at h'; cases h'
    | false =>
      rw [hh, if_neg Bool.false_ne_true] at h'
      by_cases hz : fSz (fS1 k p F) ≤ 200 ∧ fSz (fS1 k p G) ≤ 200
      · rw [if_pos hz] at h'
        cases h'
        exact ⟨k, p, rfl, a, b, c, hh, rfl, rfl, hz.1, hz.2⟩
      · rw [if_neg hz] at h'; cases h'
theorem wi_cl : ∀ (n : Nat) (F G : Fo), fOk F → fOk G → fCl F G = true → fWi n F G = none ∧ tWi n F G = none := by
  intro n
  induction n with
  | zero => exact fun F G _ _ _ => ⟨rfl, rfl⟩
  | succ n ih =>
    intro F G hF hG h
    have ne := cl_ne F hF G h
    have nx : ∀ x y, fOk x → fOk y → ((fNx x y F G).bind fun q => fWi n q.1 q.2) = none ∧ ((fNx x y F G).bind fun q => tWi n q.1 q.2) = none := fun x y hx hy => by
      cases hn : fNx x y F G with
      | none => exact ⟨rfl, rfl⟩
      | some q =>
        obtain ⟨F', G'⟩ := q
        obtain ⟨k, p, -, a, b, c, d, e1, e2, -⟩ := fNx_S1 hx hy hn
        subst e1; subst e2
        exact ih _ _ (fS1_ok b F hF) (fS1_ok b G hG) (cl_S1 k p F hF G hG h)
    constructor
    · show (match fDf F G with
        | none => some F
        | some (x, y) => (fNx x y F G).bind fun q => fWi n q.1 q.2) = none
      cases hd : fDf F G with
      | none => exact absurd (fDf_none F hF G hG hd) ne
      | some r =>
        obtain ⟨x, y⟩ := r
        obtain ⟨X, Y, Y', -, -, hx, hy, -⟩ := fDf_some F hF G hG x y hd
        exact (nx x y hx hy).1
    · have hdd := tDf_ok F hF G hG
      show (match tDf F G with
        | none => some F
        | some none => none
        | some (some (x, y)) => (fNx x y F G).bind fun q => tWi n q.1 q.2) = none
      cases hd : tDf F G with
      | none => rw [hd] at hdd; exact absurd hdd ne
      | some r =>
        rw [hd] at hdd
        cases r with
        | none => rfl
        | some r =>
          obtain ⟨x, y⟩ := r
          obtain ⟨X, Y, Y', -, -, hx, hy, -⟩ := hdd
          exact (nx x y hx hy).2
theorem wi_eq : ∀ (n : Nat) (F G : Fo), fOk F → fOk G → tWi n F G = fWi n F G := by
  intro n
  induction n with
  | zero => exact fun F G _ _ => rfl
  | succ n ih =>
    intro F G hF hG
    cases hc : fCl F G with
    | true =>
      obtain ⟨a, b⟩ := wi_cl (n + 1) F G hF hG hc
      rw [a, b]
    | false =>
      have e := cl_no F hF G hG hc
      show (match tDf F G with
        | none => some F
        | some none => none
        | some (some (x, y)) => (fNx x y F G).bind fun q => tWi n q.1 q.2) = (match fDf F G with
        | none => some F
        | some (x, y) => (fNx x y F G).bind fun q => fWi n q.1 q.2)
      rw [e]
      cases hd : fDf F G with
      | none => rfl
      | some r =>
        obtain ⟨x, y⟩ := r
        obtain ⟨X, Y, Y', -, -, hx, hy, -⟩ := fDf_some F hF G hG x y hd
        show ((fNx x y F G).bind fun q => tWi n q.1 q.2) = ((fNx x y F G).bind fun q => fWi n q.1 q.2)
        cases hn : fNx x y F G with
        | none => rfl
        | some q =>
          obtain ⟨F', G'⟩ := q
          obtain ⟨k, p, -, a, b, c, d, e1, e2, -⟩ := fNx_S1 hx hy hn
          subst e1; subst e2
          exact ih _ _ (fS1_ok b F hF) (fS1_ok b G hG)
/-! how many letters are left -/
def muL (F G : Fo) : Nat := (List.range 6).countP fun k => fHas k F || fHas k G
theorem muL_le (F G : Fo) : muL F G ≤ 6 := by
  have := List.countP_le_length (p := fun k => fHas k F || fHas k G) (l := List.range 6)
  rw [List.length_range] at this
  exact this
theorem countP_lt {P Q : Nat → Bool} : ∀ (l : List Nat), (∀ j ∈ l, P j = true → Q j = true) → (∃ k ∈ l, Q k = true ∧ P k = false) → l.countP P < l.countP Q := by
  intro l
  induction l with
  | nil => rintro - ⟨k, hk, -⟩; cases hk
  | cons a l ih =>
    intro h1 h2
    rw [List.countP_cons, List.countP_cons]
    have mono : l.countP P ≤ l.countP Q := List.countP_mono_left (fun j hj => h1 j (List.mem_cons_of_mem _ hj))
    obtain ⟨k, hk, hq, hp⟩ := h2
    rcases List.mem_cons.mp hk with e | hk'
    · subst e
      rw [hq, hp, if_neg Bool.false_ne_true, if_pos rfl]
      omega
    · have := ih (fun j hj => h1 j (List.mem_cons_of_mem _ hj)) ⟨k, hk', hq, hp⟩
      have h3 := h1 a List.mem_cons_self
      cases hPa : P a with
      | false =>
        rw [if_neg Bool.false_ne_true]
        split <;> omega
      | true =>
        rw [h3 hPa, if_pos rfl]
        omega
theorem has_S1 {k j : Nat} {p : Fo} (hk : k < 6) : ∀ f, fOk f → fHas j (fS1 k p f) = true → (j ≠ k ∧ fHas j f = true) ∨ (fHas j p = true ∧ fHas k f = true) := by
  intro f hf h
  have h' : 112 + j ∈ fPre (fS1 k p f) := of_decide_eq_true h
  rw [fS1_pre hk f hf] at h'
  unfold sL at h'
  obtain ⟨c, hc, hm⟩ := List.mem_flatMap.mp h'
  by_cases ck : c = 112 + k
  · rw [if_pos ck] at hm
    rw [ck] at hc
    exact Or.inr ⟨decide_eq_true hm, decide_eq_true hc⟩
  · rw [if_neg ck] at hm
    have e := List.mem_singleton.mp hm
    exact Or.inl ⟨by omega, decide_eq_true (by rw [e]; exact hc)⟩
theorem mu_dec {x y F G : Fo} (hF : fOk F) (hG : fOk G) {k : Nat} {p : Fo} (hk : k < 6) (hp : fHas k p = false) (hx : ∀ j, j < 6 → fHas j x = true → fHas j F = true) (hy : ∀ j, j < 6 → fHas j y = true → fHas j G = true) (hc : (x = .var k ∧ p = y) ∨ (y = .var k ∧ p = x)) : muL (fS1 k p F) (fS1 k p G) < muL F G := by
  have sub : ∀ j, j < 6 → fHas j p = true → (fHas j F || fHas j G) = true := fun j hj h => by
    rw [Bool.or_eq_true]
    rcases hc with ⟨-, e⟩ | ⟨-, e⟩
    · rw [e] at h; exact Or.inr (hy j hj h)
    · rw [e] at h; exact Or.inl (hx j hj h)
  have vk : fHas k (.var k) = true := decide_eq_true List.mem_cons_self
  apply countP_lt
  · intro j hj h
    rw [Bool.or_eq_true] at h
    rcases h with h | h
    · rcases has_S1 hk F hF h with ⟨-, q⟩ | ⟨q, -⟩
      · rw [q]; rfl
      · exact sub j (List.mem_range.mp hj) q
    · rcases has_S1 hk G hG h with ⟨-, q⟩ | ⟨q, -⟩
      · rw [q, Bool.or_true]
      · exact sub j (List.mem_range.mp hj) q
  · refine ⟨k, List.mem_range.mpr hk, ?_, ?_⟩
    · rw [Bool.or_eq_true]
      rcases hc with ⟨e, -⟩ | ⟨e, -⟩
      · exact Or.inl (hx k hk (by rw [e]; exact vk))
      · exact Or.inr (hy k hk (by rw [e]; exact vk))
    · rw [Bool.or_eq_false_iff]
      have no : ∀ f, fOk f → fHas k (fS1 k p f) = false := fun f hf => by
        cases h : fHas k (fS1 k p f) with
        | false => rfl
        | true =>
          rcases has_S1 hk f hf h with ⟨q, -⟩ | ⟨q, -⟩
          · exact absurd rfl q
          · rw [hp] at q; cases q
      exact ⟨no F hF, no G hG⟩
