/-! WHERE TWO LINES PART, by their signs -/
def fDf : Fo → Fo → Option (Fo × Fo)
  | .var i, g => if fEq (.var i) g then none else some (.var i, g)
  | .neg a, g => match g with
    | .neg b => fDf a b
    | _ => some (.neg a, g)
  | .add a b, g => match g with
    | .add c d => (fDf a c).or (fDf b d)
    | _ => some (.add a b, g)
  | .sub a b, g => match g with
    | .sub c d => (fDf a c).or (fDf b d)
    | _ => some (.sub a b, g)
  | f, g => some (f, g)
theorem fEq_self (f : Fo) : fEq f f = true := by unfold fEq; exact decide_eq_true rfl
theorem fDf_self : ∀ f, fOk f → fDf f f = none := by
  refine fInd ?_ ?_ ?_ ?_
  · intro i hi
    show (if fEq (.var i) (.var i) then none else _) = none
    rw [fEq_self]; rfl
  · exact fun a ha ih => ih
  · intro a b ha hb iha ihb
    show (fDf a a).or (fDf b b) = none
    rw [iha, ihb]; rfl
  · intro a b ha hb iha ihb
    show (fDf a a).or (fDf b b) = none
    rw [iha, ihb]; rfl
theorem fDf_none : ∀ f, fOk f → ∀ g, fOk g → fDf f g = none → f = g := by
  refine fInd ?_ ?_ ?_ ?_
  · intro i hi g hg h
    have h' : (if fEq (.var i) g then none else some ((Int.Internal.Linear.Expr.var i : Fo), g)) = none := h
    by_cases e : fEq (.var i) g = true
    · exact (fEq_iff (show fOk (.var i) from hi) hg).mp e
    · rw [if_neg e] at h'; cases h'
  · intro a ha ih g hg h
    rcases fCases hg with ⟨j, hj, rfl⟩ | ⟨c, hc, rfl⟩ | ⟨c, d, hc, hd, rfl⟩ | ⟨c, d, hc, hd, rfl⟩
    · cases h
    · rw [ih c hc h]
    · cases h
    · cases h
  · intro a b ha hb iha ihb g hg h
    rcases fCases hg with ⟨j, hj, rfl⟩ | ⟨c, hc, rfl⟩ | ⟨c, d, hc, hd, rfl⟩ | ⟨c, d, hc, hd, rfl⟩
    · cases h
    · cases h
    · have h' : (fDf a c).or (fDf b d) = none := h
      cases h1 : fDf a c with
      | none =>
        rw [h1] at h'
        rw [iha c hc h1, ihb d hd h']
      | some z => rw [h1] at h'; cases h'
    · cases h
  · intro a b ha hb iha ihb g hg h
    rcases fCases hg with ⟨j, hj, rfl⟩ | ⟨c, hc, rfl⟩ | ⟨c, d, hc, hd, rfl⟩ | ⟨c, d, hc, hd, rfl⟩
    · cases h
    · cases h
    · cases h
    · have h' : (fDf a c).or (fDf b d) = none := h
      cases h1 : fDf a c with
      | none =>
        rw [h1] at h'
        rw [iha c hc h1, ihb d hd h']
      | some z => rw [h1] at h'; cases h'
def fDs (f g x y : Fo) : Prop := ∃ X Y Y', fPre f = X ++ (fPre x ++ Y) ∧ fPre g = X ++ (fPre y ++ Y') ∧ fOk x ∧ fOk y ∧ fHd x ≠ fHd y
theorem fDs_top {f g : Fo} (hf : fOk f) (hg : fOk g) (h : fHd f ≠ fHd g) : fDs f g f g := ⟨[], [], [], by simp, by simp, hf, hg, h⟩
theorem fDf_some : ∀ f, fOk f → ∀ g, fOk g → ∀ x y, fDf f g = some (x, y) → fDs f g x y := by
  have two : ∀ (s : Nat) (a b c d : Fo) (x y : Fo), fOk a → fOk c → (∀ x y, fDf a c = some (x, y) → fDs a c x y) → (∀ x y, fDf b d = some (x, y) → fDs b d x y) → (fDf a c).or (fDf b d) = some (x, y) →
      ∃ X Y Y', s :: (fPre a ++ fPre b) = X ++ (fPre x ++ Y) ∧ s :: (fPre c ++ fPre d) = X ++ (fPre y ++ Y') ∧ fOk x ∧ fOk y ∧ fHd x ≠ fHd y := by
    intro s a b c d x y ha hc h1 h2 h
    cases h3 : fDf a c with
    | none =>
      rw [h3] at h
      have e := fDf_none a ha c hc h3
      subst e
      obtain ⟨X, Y, Y', e1, e2, e3⟩ := h2 x y h
      exact ⟨s :: (fPre a ++ X), Y, Y', by rw [e1]; simp, by rw [e2]; simp, e3⟩
    | some z =>
      rw [h3] at h
      have hz : z = (x, y) := by simpa using h
      obtain ⟨X, Y, Y', e1, e2, e3⟩ := h1 x y (by rw [h3, hz])
      exact ⟨s :: X, Y ++ fPre b, Y' ++ fPre d, by rw [e1]; simp, by rw [e2]; simp, e3⟩
  refine fInd ?_ ?_ ?_ ?_
  · intro i hi g hg x y h
    have h' : (if fEq (.var i) g then none else some ((Int.Internal.Linear.Expr.var i : Fo), g)) = some (x, y) := h
    by_cases e : fEq (.var i) g = true
    · rw [if_pos e] at h'; cases h'
    · rw [if_neg e] at h'
      have e2 : (Int.Internal.Linear.Expr.var i : Fo) = x ∧ g = y := by simpa using h'
      obtain ⟨rfl, rfl⟩ := e2
      refine fDs_top hi hg ?_
      intro q
      refine e ((fEq_iff (show fOk (.var i) from hi) hg).mpr ?_)
      rcases fCases hg with ⟨j, hj, rfl⟩ | ⟨c, hc, rfl⟩ | ⟨c, d, hc, hd, rfl⟩ | ⟨c, d, hc, hd, rfl⟩
      · have q' : 112 + i = 112 + j := q
        rw [show i = j by omega]
      · have q' : 112 + i = 126 := q
        omega
      · have q' : 112 + i = 118 := q
        omega
      · have q' : 112 + i = 62 := q
        omega
  · intro a ha ih g hg x y h
    rcases fCases hg with ⟨j, hj, rfl⟩ | ⟨c, hc, rfl⟩ | ⟨c, d, hc, hd, rfl⟩ | ⟨c, d, hc, hd, rfl⟩
    · cases h
      exact fDs_top ha hj (by show 126 ≠ 112 + j; omega)
    · obtain ⟨X, Y, Y', e1, e2, e3⟩ := ih c hc x y h
      exact ⟨126 :: X, Y, Y', by rw [fPre_neg, e1]; rfl, by rw [fPre_neg, e2]; rfl, e3⟩
    · cases h
      exact fDs_top ha ⟨hc, hd⟩ (by show 126 ≠ 118; omega)
    · cases h
      exact fDs_top ha ⟨hc, hd⟩ (by show 126 ≠ 62; omega)
  · intro a b ha hb iha ihb g hg x y h
    rcases fCases hg with ⟨j, hj, rfl⟩ | ⟨c, hc, rfl⟩ | ⟨c, d, hc, hd, rfl⟩ | ⟨c, d, hc, hd, rfl⟩
    · cases h
      exact fDs_top ⟨ha, hb⟩ hj (by show 118 ≠ 112 + j; omega)
    · cases h
      exact fDs_top ⟨ha, hb⟩ hc (by show 118 ≠ 126; omega)
    · exact two 118 a b c d x y ha hc (iha c hc) (ihb d hd) h
    · cases h
      exact fDs_top ⟨ha, hb⟩ ⟨hc, hd⟩ (by show 118 ≠ 62; omega)
  · intro a b ha hb iha ihb g hg x y h
    rcases fCases hg with ⟨j, hj, rfl⟩ | ⟨c, hc, rfl⟩ | ⟨c, d, hc, hd, rfl⟩ | ⟨c, d, hc, hd, rfl⟩
    · cases h
      exact fDs_top ⟨ha, hb⟩ hj (by show 62 ≠ 112 + j; omega)
    · cases h
      exact fDs_top ⟨ha, hb⟩ hc (by show 62 ≠ 126; omega)
    · cases h
      exact fDs_top ⟨ha, hb⟩ ⟨hc, hd⟩ (by show 62 ≠ 118; omega)
    · exact two 62 a b c d x y ha hc (iha c hc) (ihb d hd) h
/-- one letter put everywhere -/
def fS1 (k : Nat) (p : Fo) : Fo → Fo := fSb (fun j => if j = k then some p else none)
def sL (k : Nat) (p : Fo) (v : List Nat) : List Nat := v.flatMap fun c => if c = 112 + k then fPre p else [c]
theorem sL_app (k : Nat) (p : Fo) (v u : List Nat) : sL k p (v ++ u) = sL k p v ++ sL k p u := List.flatMap_append
theorem sL_cons (k : Nat) (p : Fo) (c : Nat) (v : List Nat) : sL k p (c :: v) = (if c = 112 + k then fPre p else [c]) ++ sL k p v := List.flatMap_cons
theorem fS1_var (k : Nat) (p : Fo) (i : Nat) : fS1 k p (.var i) = if i = k then p else .var i := by
  show (if i = k then some p else none).getD (.var i) = _
  by_cases e : i = k
  · rw [if_pos e, if_pos e]; rfl
  · rw [if_neg e, if_neg e]; rfl
theorem fS1_neg (k : Nat) (p a : Fo) : fS1 k p (.neg a) = .neg (fS1 k p a) := rfl
theorem fS1_add (k : Nat) (p a b : Fo) : fS1 k p (.add a b) = .add (fS1 k p a) (fS1 k p b) := rfl
theorem fS1_sub (k : Nat) (p a b : Fo) : fS1 k p (.sub a b) = .sub (fS1 k p a) (fS1 k p b) := rfl
theorem fS1_ok {k : Nat} {p : Fo} (hp : fOk p) : ∀ f, fOk f → fOk (fS1 k p f) := by
  refine fInd ?_ ?_ ?_ ?_
  · intro i hi
    rw [fS1_var]
    by_cases e : i = k
    · rw [if_pos e]; exact hp
    · rw [if_neg e]; exact hi
  · exact fun a ha ih => ih
  · exact fun a b ha hb iha ihb => ⟨iha, ihb⟩
  · exact fun a b ha hb iha ihb => ⟨iha, ihb⟩
theorem fS1_pre {k : Nat} {p : Fo} (hk : k < 6) : ∀ f, fOk f → fPre (fS1 k p f) = sL k p (fPre f) := by
  refine fInd ?_ ?_ ?_ ?_
  · intro i hi
    rw [fS1_var, fPre_var, sL_cons]
    by_cases e : i = k
    · rw [if_pos e, if_pos (by omega)]; simp [sL]
    · rw [if_neg e, if_neg (by omega)]; simp [sL, fPre_var]
  · intro a ha ih
    rw [fS1_neg, fPre_neg, fPre_neg, sL_cons, if_neg (by omega), ih]; rfl
  · intro a b ha hb iha ihb
    rw [fS1_add, fPre_add, fPre_add, sL_cons, if_neg (by omega), sL_app, iha, ihb]; rfl
  · intro a b ha hb iha ihb
    rw [fS1_sub, fPre_sub, fPre_sub, sL_cons, if_neg (by omega), sL_app, iha, ihb]; rfl
def fHas (k : Nat) (p : Fo) : Bool := decide (112 + k ∈ fPre p)
def fLk : Fo → Option Nat
  | .var i => some i
  | _ => none
/-- which letter is put, and what for it -/
def fPk (x y : Fo) : Option (Nat × Fo) := match fLk x with
  | some k => some (k, y)
  | none => match fLk y with
    | some k => some (k, x)
    | none => none
def fNx (x y F G : Fo) : Option (Fo × Fo) := (fPk x y).bind fun q => if fHas q.1 q.2 then none else if fSz (fS1 q.1 q.2 F) ≤ 200 ∧ fSz (fS1 q.1 q.2 G) ≤ 200 then some (fS1 q.1 q.2 F, fS1 q.1 q.2 G) else none
def fWi : Nat → Fo → Fo → Option Fo
  | 0, _, _ => none
  | n + 1, F, G => match fDf F G with
    | none => some F
    | some (x, y) => (fNx x y F G).bind fun q => fWi n q.1 q.2
