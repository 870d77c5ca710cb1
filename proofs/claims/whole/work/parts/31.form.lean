/-! LINES AS TREES: var i a LETTER, neg ~, add v, sub > -/
abbrev Fo : Type := Int.Internal.Linear.Expr
def fOk : Fo → Prop
  | .var i => i < 6
  | .neg a => fOk a
  | .add a b => fOk a ∧ fOk b
  | .sub a b => fOk a ∧ fOk b
  | _ => False
/-- the signs ahead of their parts, as the class keeps them -/
def fPre : Fo → List Nat
  | .var i => [112 + i]
  | .neg a => 126 :: fPre a
  | .add a b => 118 :: (fPre a ++ fPre b)
  | .sub a b => 62 :: (fPre a ++ fPre b)
  | _ => []
/-- the text -/
def fTxt : Fo → List Nat
  | .var i => [112 + i]
  | .neg a => 126 :: fTxt a
  | .add a b => 40 :: (fTxt a ++ 118 :: (fTxt b ++ [41]))
  | .sub a b => 40 :: (fTxt a ++ 62 :: (fTxt b ++ [41]))
  | _ => []
def fSz (f : Fo) : Nat := (fPre f).length
def fLev : Fo → Nat
  | .var _ => 1
  | .neg a => 1 + fLev a
  | .add a b => 1 + max (fLev a) (fLev b)
  | .sub a b => 1 + max (fLev a) (fLev b)
  | _ => 0
def fPl : Fo → Nat
  | .var _ => 1
  | .neg a => fPl a
  | .add a b => fPl a + fPl b
  | .sub a b => fPl a + fPl b
  | _ => 0
/-- the letters, a bit each -/
def fLs : Fo → Nat
  | .var i => 2 ^ i
  | .neg a => fLs a
  | .add a b => fLs a ||| fLs b
  | .sub a b => fLs a ||| fLs b
  | _ => 0
theorem fInd {P : Fo → Prop} (h1 : ∀ i : Nat, i < 6 → P (.var i)) (h2 : ∀ a, fOk a → P a → P (.neg a)) (h3 : ∀ a b, fOk a → fOk b → P a → P b → P (.add a b)) (h4 : ∀ a b, fOk a → fOk b → P a → P b → P (.sub a b)) : ∀ f, fOk f → P f := by
  intro f
  induction f with
  | var i => exact h1 i
  | neg a ih => exact fun h => h2 a h (ih h)
  | add a b iha ihb => exact fun h => h3 a b h.1 h.2 (iha h.1) (ihb h.2)
  | sub a b iha ihb => exact fun h => h4 a b h.1 h.2 (iha h.1) (ihb h.2)
  | num v => exact fun h => h.elim
  | mulL k a _ => exact fun h => h.elim
  | mulR a k _ => exact fun h => h.elim
theorem fCases {g : Fo} (h : fOk g) : (∃ i : Nat, i < 6 ∧ g = .var i) ∨ (∃ a, fOk a ∧ g = .neg a) ∨ (∃ a b, fOk a ∧ fOk b ∧ g = .add a b) ∨ (∃ a b, fOk a ∧ fOk b ∧ g = .sub a b) := by
  cases g with
  | var i => exact Or.inl ⟨i, h, rfl⟩
  | neg a => exact Or.inr (Or.inl ⟨a, h, rfl⟩)
  | add a b => exact Or.inr (Or.inr (Or.inl ⟨a, b, h.1, h.2, rfl⟩))
  | sub a b => exact Or.inr (Or.inr (Or.inr ⟨a, b, h.1, h.2, rfl⟩))
  | num v => exact h.elim
  | mulL k a => exact h.elim
  | mulR a k => exact h.elim
theorem fPre_var (i : Nat) : fPre (.var i) = [112 + i] := rfl
theorem fPre_neg (a : Fo) : fPre (.neg a) = 126 :: fPre a := rfl
theorem fPre_add (a b : Fo) : fPre (.add a b) = 118 :: (fPre a ++ fPre b) := rfl
theorem fPre_sub (a b : Fo) : fPre (.sub a b) = 62 :: (fPre a ++ fPre b) := rfl
theorem fSz_pos {f : Fo} (h : fOk f) : 0 < fSz f := by
  revert h
  exact fInd (P := fun f => 0 < fSz f) (fun _ _ => by simp [fSz, fPre]) (fun _ _ _ => by simp [fSz, fPre]) (fun _ _ _ _ _ _ => by simp [fSz, fPre]) (fun _ _ _ _ _ _ => by simp [fSz, fPre]) f
theorem fSz_neg (a : Fo) : fSz (.neg a) = fSz a + 1 := by simp [fSz, fPre]
theorem fSz_add (a b : Fo) : fSz (.add a b) = fSz a + fSz b + 1 := by simp [fSz, fPre]
theorem fSz_sub (a b : Fo) : fSz (.sub a b) = fSz a + fSz b + 1 := by simp [fSz, fPre]
theorem fSz_var (i : Nat) : fSz (.var i) = 1 := rfl
/-- no line's signs begin another's -/
theorem fPre_inj : ∀ f, fOk f → ∀ (g : Fo) (X Y : List Nat), fOk g → fPre f ++ X = fPre g ++ Y → f = g ∧ X = Y := by
  refine fInd ?_ ?_ ?_ ?_
  · intro i hi g X Y hg h
    rcases fCases hg with ⟨j, hj, rfl⟩ | ⟨c, hc, rfl⟩ | ⟨c, d, hc, hd, rfl⟩ | ⟨c, d, hc, hd, rfl⟩ <;>
      simp only [fPre_var, fPre_neg, fPre_add, fPre_sub, List.cons_append, List.nil_append, List.cons.injEq] at h
    · have e : i = j := by omega
      exact ⟨by rw [e], h.2⟩
    · omega
    · omega
    · omega
  · intro a ha ih g X Y hg h
    rcases fCases hg with ⟨j, hj, rfl⟩ | ⟨c, hc, rfl⟩ | ⟨c, d, hc, hd, rfl⟩ | ⟨c, d, hc, hd, rfl⟩ <;>
      simp only [fPre_var, fPre_neg, fPre_add, fPre_sub, List.cons_append, List.nil_append, List.cons.injEq, List.append_assoc] at h
    · omega
    · obtain ⟨e1, e2⟩ := ih c X Y hc h.2
      exact ⟨by rw [e1], e2⟩
    · omega
    · omega
  · intro a b ha hb iha ihb g X Y hg h
    rcases fCases hg with ⟨j, hj, rfl⟩ | ⟨c, hc, rfl⟩ | ⟨c, d, hc, hd, rfl⟩ | ⟨c, d, hc, hd, rfl⟩ <;>
      simp only [fPre_var, fPre_neg, fPre_add, fPre_sub, List.cons_append, List.nil_append, List.cons.injEq, List.append_assoc] at h
    · omega
    · omega
    · obtain ⟨e1, e2⟩ := iha c _ _ hc h.2
      obtain ⟨e3, e4⟩ := ihb d _ _ hd e2
      exact ⟨by rw [e1, e3], e4⟩
    · omega
  · intro a b ha hb iha ihb g X Y hg h
    rcases fCases hg with ⟨j, hj, rfl⟩ | ⟨c, hc, rfl⟩ | ⟨c, d, hc, hd, rfl⟩ | ⟨c, d, hc, hd, rfl⟩ <;>
      simp only [fPre_var, fPre_neg, fPre_add, fPre_sub, List.cons_append, List.nil_append, List.cons.injEq, List.append_assoc] at h
    · omega
    · omega
    · omega
    · obtain ⟨e1, e2⟩ := iha c _ _ hc h.2
      obtain ⟨e3, e4⟩ := ihb d _ _ hd e2
      exact ⟨by rw [e1, e3], e4⟩
theorem fPre_eq {f g : Fo} (hf : fOk f) (hg : fOk g) (h : fPre f = fPre g) : f = g := (fPre_inj f hf g [] [] hg (by rw [h])).1
/-- at each place of a line a part of it begins -/
theorem fPart : ∀ f, fOk f → ∀ (X : List Nat) (c : Nat) (Y : List Nat), fPre f = X ++ c :: Y → ∃ (a : Fo) (Z : List Nat), fOk a ∧ c :: Y = fPre a ++ Z := by
  have two : ∀ (a b : Fo), fOk b → (∀ (X : List Nat) (c : Nat) (Y : List Nat), fPre a = X ++ c :: Y → ∃ (q : Fo) (Z : List Nat), fOk q ∧ c :: Y = fPre q ++ Z) → (∀ (X : List Nat) (c : Nat) (Y : List Nat), fPre b = X ++ c :: Y → ∃ (q : Fo) (Z : List Nat), fOk q ∧ c :: Y = fPre q ++ Z) →
      ∀ (X : List Nat) (c : Nat) (Y : List Nat), fPre a ++ fPre b = X ++ c :: Y → ∃ (q : Fo) (Z : List Nat), fOk q ∧ c :: Y = fPre q ++ Z := by
    intro a b hb iha ihb X c Y h
    rcases List.append_eq_append_iff.mp h with ⟨L, h1, h2⟩ | ⟨L, h1, h2⟩
    · exact ihb L c Y h2
    · cases L with
      | nil => exact ⟨b, [], hb, by simpa using h2⟩
      | cons d L =>
        simp only [List.cons_append, List.cons.injEq] at h2
        obtain ⟨rfl, h2⟩ := h2
        obtain ⟨q, Z, hq, hz⟩ := iha X c L h1
        exact ⟨q, Z ++ fPre b, hq, by rw [h2, ← List.cons_append, hz, List.append_assoc]⟩
  refine fInd ?_ ?_ ?_ ?_
  · intro i hi X c Y h
    cases X with
    | nil => exact ⟨.var i, [], hi, by simpa using h.symm⟩
    | cons d X => simp [fPre] at h
  · intro a ha ih X c Y h
    cases X with
    | nil => exact ⟨.neg a, [], ha, by simpa using h.symm⟩
    | cons d X =>
      simp only [fPre, List.cons_append, List.cons.injEq] at h
      exact ih X c Y h.2
  · intro a b ha hb iha ihb X c Y h
    cases X with
    | nil => exact ⟨.add a b, [], ⟨ha, hb⟩, by simpa using h.symm⟩
    | cons d X =>
      simp only [fPre, List.cons_append, List.cons.injEq] at h
      exact two a b hb iha ihb X c Y h.2
  · intro a b ha hb iha ihb X c Y h
    cases X with
    | nil => exact ⟨.sub a b, [], ⟨ha, hb⟩, by simpa using h.symm⟩
    | cons d X =>
      simp only [fPre, List.cons_append, List.cons.injEq] at h
      exact two a b hb iha ihb X c Y h.2
/-- the signs -/
def fSig (c : Nat) : Prop := (112 ≤ c ∧ c ≤ 117) ∨ c = 126 ∨ c = 118 ∨ c = 62
theorem fPre_sig : ∀ f, fOk f → ∀ c ∈ fPre f, fSig c := by
  refine fInd ?_ ?_ ?_ ?_
  · intro i hi c hc
    rw [fPre_var, List.mem_singleton] at hc
    exact Or.inl (by omega)
  · intro a ha ih c hc
    simp only [fPre, List.mem_cons] at hc
    rcases hc with rfl | hc
    · exact Or.inr (Or.inl rfl)
    · exact ih c hc
  · intro a b ha hb iha ihb c hc
    simp only [fPre, List.mem_cons, List.mem_append] at hc
    rcases hc with rfl | hc | hc
    · exact Or.inr (Or.inr (Or.inl rfl))
    · exact iha c hc
    · exact ihb c hc
  · intro a b ha hb iha ihb c hc
    simp only [fPre, List.mem_cons, List.mem_append] at hc
    rcases hc with rfl | hc | hc
    · exact Or.inr (Or.inr (Or.inr rfl))
    · exact iha c hc
    · exact ihb c hc
theorem fSig_lt {c : Nat} (h : fSig c) : c < 128 := by unfold fSig at h; omega
theorem fLs_lt : ∀ f, fOk f → fLs f < 64 := by
  refine fInd ?_ ?_ ?_ ?_
  · intro i hi
    show 2 ^ i < 2 ^ 6
    exact Nat.pow_lt_pow_right (by decide) hi
  · exact fun a _ ih => ih
  · exact fun a b _ _ iha ihb => Nat.or_lt_two_pow (n := 6) iha ihb
  · exact fun a b _ _ iha ihb => Nat.or_lt_two_pow (n := 6) iha ihb
theorem fLev_le : ∀ f, fOk f → 0 < fLev f ∧ fLev f ≤ fSz f := by
  refine fInd ?_ ?_ ?_ ?_
  · intro i hi; exact ⟨Nat.one_pos, Nat.le_refl 1⟩
  · intro a ha ih
    rw [fSz_neg]
    exact ⟨by show 0 < 1 + fLev a; omega, by show 1 + fLev a ≤ _; omega⟩
  · intro a b ha hb iha ihb
    rw [fSz_add]
    exact ⟨by show 0 < 1 + max (fLev a) (fLev b); omega, by show 1 + max (fLev a) (fLev b) ≤ _; omega⟩
  · intro a b ha hb iha ihb
    rw [fSz_sub]
    exact ⟨by show 0 < 1 + max (fLev a) (fLev b); omega, by show 1 + max (fLev a) (fLev b) ≤ _; omega⟩
theorem fPl_le : ∀ f, fOk f → 0 < fPl f ∧ fPl f ≤ fSz f := by
  refine fInd ?_ ?_ ?_ ?_
  · intro i hi; exact ⟨Nat.one_pos, Nat.le_refl 1⟩
  · intro a ha ih
    rw [fSz_neg]
    exact ⟨ih.1, by show fPl a ≤ _; omega⟩
  · intro a b ha hb iha ihb
    rw [fSz_add]
    exact ⟨by show 0 < fPl a + fPl b; omega, by show fPl a + fPl b ≤ _; omega⟩
  · intro a b ha hb iha ihb
    rw [fSz_sub]
    exact ⟨by show 0 < fPl a + fPl b; omega, by show fPl a + fPl b ≤ _; omega⟩
