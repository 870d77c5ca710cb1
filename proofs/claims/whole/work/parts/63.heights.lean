/-! HEIGHTS, round by round -/
def anyN (g : Nat → Bool) : Nat → Nat → Bool
  | _, 0 => false
  | i, m + 1 => g i || anyN g (i + 1) m
theorem anyN_iff {g : Nat → Bool} : ∀ m i, anyN g i m = true ↔ ∃ j, i ≤ j ∧ j < i + m ∧ g j = true := by
  intro m
  induction m with
  | zero => exact fun i => ⟨fun h => (by cases h), fun ⟨j, h1, h2, _⟩ => absurd h2 (by omega)⟩
  | succ m ih =>
    intro i
    show (g i || anyN g (i + 1) m) = true ↔ _
    rw [Bool.or_eq_true, ih (i + 1)]
    constructor
    · rintro (h | ⟨j, h1, h2, h3⟩)
      · exact ⟨i, Nat.le_refl _, by omega, h⟩
      · exact ⟨j, by omega, by omega, h3⟩
    · rintro ⟨j, h1, h2, h3⟩
      by_cases e : j = i
      · subst e; exact Or.inl h3
      · exact Or.inr ⟨j, by omega, by omega, h3⟩
theorem anyN_congr {g h : Nat → Bool} {i m : Nat} (e : ∀ j, i ≤ j → j < i + m → g j = h j) : anyN g i m = anyN h i m := by
  rw [Bool.eq_iff_iff, anyN_iff, anyN_iff]
  exact ⟨fun ⟨j, h1, h2, h3⟩ => ⟨j, h1, h2, by rw [← e j h1 h2]; exact h3⟩, fun ⟨j, h1, h2, h3⟩ => ⟨j, h1, h2, by rw [e j h1 h2]; exact h3⟩⟩
def stp1 (f A : Fo) : Bool := (fMt A f σ0).isSome || fMean f A
def stp2 (f A B : Fo) : Bool := fThen f A B || fChain f A B
def rch (n : Nat) (L : Nat → Fo) (P : Nat → Bool) (f : Fo) : Bool := anyN (fun a => P a && (stp1 f (L a) || anyN (fun b => P b && stp2 f (L a) (L b)) 0 n)) 0 n
def Qr (n : Nat) (L : Nat → Fo) (g : Nat → Bool) : Nat → Nat → Bool
  | 0, i => g i
  | r + 1, i => Qr n L g r i || rch n L (Qr n L g r) (L i)
def hAt (n : Nat) (L : Nat → Fo) (g : Nat → Bool) : Nat → Nat → Int
  | 0, i => if g i then 0 else -4
  | r + 1, i => if Qr n L g r i then hAt n L g r i else if rch n L (Qr n L g r) (L i) then (r + 1 : Nat) else -4
theorem rch_iff {n : Nat} {L : Nat → Fo} {P : Nat → Bool} {f : Fo} : rch n L P f = true ↔ ∃ a, a < n ∧ P a = true ∧ (stp1 f (L a) = true ∨ ∃ b, b < n ∧ P b = true ∧ stp2 f (L a) (L b) = true) := by
  unfold rch
  rw [anyN_iff]
  constructor
  · rintro ⟨a, -, h2, h3⟩
    rw [Bool.and_eq_true, Bool.or_eq_true, anyN_iff] at h3
    obtain ⟨h4, h5⟩ := h3
    refine ⟨a, by omega, h4, h5.imp_right ?_⟩
    rintro ⟨b, -, g2, g3⟩
    rw [Bool.and_eq_true] at g3
    exact ⟨b, by omega, g3⟩
  · rintro ⟨a, h1, h2, h3⟩
    refine ⟨a, Nat.zero_le _, by omega, ?_⟩
    rw [Bool.and_eq_true, Bool.or_eq_true, anyN_iff]
    refine ⟨h2, h3.imp_right ?_⟩
    rintro ⟨b, g1, g2⟩
    exact ⟨b, Nat.zero_le _, by omega, by rw [Bool.and_eq_true]; exact g2⟩
theorem Qr_succ {n : Nat} {L : Nat → Fo} {g : Nat → Bool} {r i : Nat} (h : Qr n L g r i = true) : Qr n L g (r + 1) i = true := by
  show (Qr n L g r i || _) = true
  rw [h]; rfl
theorem Qr_le {n : Nat} {L : Nat → Fo} {g : Nat → Bool} {r i : Nat} (h : Qr n L g r i = true) : ∀ k, Qr n L g (r + k) i = true := by
  intro k
  induction k with
  | zero => exact h
  | succ k ih => exact Qr_succ ih
theorem Qr_mono {n : Nat} {L : Nat → Fo} {g : Nat → Bool} {r s i : Nat} (hrs : r ≤ s) (h : Qr n L g r i = true) : Qr n L g s i = true := by
  have := Qr_le h (s - r)
  rw [show r + (s - r) = s by omega] at this
  exact this
theorem hAt_Q {n : Nat} {L : Nat → Fo} {g : Nat → Bool} : ∀ r i, (Qr n L g r i = true → 0 ≤ hAt n L g r i ∧ hAt n L g r i ≤ r) ∧ (Qr n L g r i = false → hAt n L g r i = -4) := by
  intro r
  induction r with
  | zero =>
    intro i
    show (g i = true → 0 ≤ (if g i then (0 : Int) else -4) ∧ (if g i then (0 : Int) else -4) ≤ (0 : Nat)) ∧ (g i = false → (if g i then (0 : Int) else -4) = -4)
    exact ⟨fun h => by rw [h]; simp, fun h => by rw [h]; rfl⟩
  | succ r ih =>
    intro i
    have eh : hAt n L g (r + 1) i = if Qr n L g r i then hAt n L g r i else if rch n L (Qr n L g r) (L i) then ((r + 1 : Nat) : Int) else -4 := rfl
    have eq : Qr n L g (r + 1) i = (Qr n L g r i || rch n L (Qr n L g r) (L i)) := rfl
    rw [eh, eq]
    cases h : Qr n L g r i with
    | true =>
      obtain ⟨h1, h2⟩ := (ih i).1 h
      exact ⟨fun _ => ⟨h1, by show hAt n L g r i ≤ _; omega⟩, fun z => (by cases z)⟩
    | false =>
      cases h2 : rch n L (Qr n L g r) (L i) with
      | true => exact ⟨fun _ => ⟨by show (0 : Int) ≤ ((r + 1 : Nat) : Int); omega, Int.le_refl _⟩, fun z => (by cases z)⟩
      | false => exact ⟨fun z => (by cases z), fun _ => rfl⟩
theorem hAt_bd {n : Nat} {L : Nat → Fo} {g : Nat → Bool} (r i : Nat) : -4 ≤ hAt n L g r i ∧ hAt n L g r i ≤ r := by
  cases h : Qr n L g r i with
  | true => have := (hAt_Q r i).1 h; omega
  | false => have := (hAt_Q r i).2 h; omega
/-- the height is the first round -/
theorem hAt_least {n : Nat} {L : Nat → Fo} {g : Nat → Bool} : ∀ r i s, s ≤ r → Qr n L g s i = true → hAt n L g r i ≤ s ∧ Qr n L g (hAt n L g r i).toNat i = true := by
  intro r
  induction r with
  | zero =>
    intro i s hs h
    have hs0 : s = 0 := by omega
    subst hs0
    have hg : g i = true := h
    show (if g i then (0 : Int) else -4) ≤ (0 : Nat) ∧ Qr n L g (if g i then (0 : Int) else -4).toNat i = true
    rw [hg]
    exact ⟨Int.le_refl _, h⟩
  | succ r ih =>
    intro i s hs h
    have eh : hAt n L g (r + 1) i = if Qr n L g r i then hAt n L g r i else if rch n L (Qr n L g r) (L i) then ((r + 1 : Nat) : Int) else -4 := rfl
    cases hq : Qr n L g r i with
    | true =>
      rw [eh, hq]
      show hAt n L g r i ≤ s ∧ Qr n L g (hAt n L g r i).toNat i = true
      by_cases hsr : s ≤ r
      · exact ih i s hsr h
      · obtain ⟨h1, h2⟩ := ih i r (Nat.le_refl _) hq
        exact ⟨by omega, h2⟩
    | false =>
      have hsr : s = r + 1 := by
        rcases Nat.lt_or_ge r s with h1 | h1
        · omega
        · rw [Qr_mono h1 h] at hq; cases hq
      subst hsr
      have hr : rch n L (Qr n L g r) (L i) = true := by
        have h' : (Qr n L g r i || rch n L (Qr n L g r) (L i)) = true := h
        rw [hq, Bool.false_or] at h'
        exact h'
      rw [eh, hq, hr]
      show ((r + 1 : Nat) : Int) ≤ ((r + 1 : Nat) : Int) ∧ Qr n L g (((r + 1 : Nat) : Int)).toNat i = true
      rw [Int.toNat_natCast]
      exact ⟨Int.le_refl _, h⟩
/-- of the round itself -/
def frs (n : Nat) (L : Nat → Fo) (g : Nat → Bool) (r i : Nat) : Bool := decide (hAt n L g r i = r)
theorem frs_not {n : Nat} {L : Nat → Fo} {g : Nat → Bool} {r i : Nat} (h : Qr n L g (r + 1) i = true) (hf : frs n L g (r + 1) i = false) : Qr n L g r i = true := by
  have e : ¬ hAt n L g (r + 1) i = ((r + 1 : Nat) : Int) := of_decide_eq_false hf
  cases hq : Qr n L g r i with
  | true => rfl
  | false =>
    have eh : hAt n L g (r + 1) i = if Qr n L g r i then hAt n L g r i else if rch n L (Qr n L g r) (L i) then ((r + 1 : Nat) : Int) else -4 := rfl
    have hr : rch n L (Qr n L g r) (L i) = true := by
      have h' : (Qr n L g r i || rch n L (Qr n L g r) (L i)) = true := h
      rw [hq, Bool.false_or] at h'
      exact h'
    rw [hq, hr] at eh
    exact absurd eh e
theorem frs_0 {n : Nat} {L : Nat → Fo} {g : Nat → Bool} {i : Nat} (h : Qr n L g 0 i = true) : frs n L g 0 i = true := by
  have hg : g i = true := h
  show decide ((if g i then (0 : Int) else -4) = (0 : Nat)) = true
  rw [hg]; rfl
/-- the class leaves out what it knows -/
def prn (n : Nat) (L : Nat → Fo) (g : Nat → Bool) (r : Nat) (f : Fo) : Bool := anyN (fun a => Qr n L g r a && ((frs n L g r a && stp1 f (L a)) || anyN (fun b => (Qr n L g r b && (frs n L g r a || frs n L g r b)) && stp2 f (L a) (L b)) 0 n)) 0 n
theorem prn_ok {n : Nat} {L : Nat → Fo} {g : Nat → Bool} {r i : Nat} (h : Qr n L g r i = false) : prn n L g r (L i) = rch n L (Qr n L g r) (L i) := by
  rw [Bool.eq_iff_iff, rch_iff]
  unfold prn
  rw [anyN_iff]
  constructor
  · rintro ⟨a, -, h2, h3⟩
    rw [Bool.and_eq_true, Bool.or_eq_true, anyN_iff, Bool.and_eq_true] at h3
    obtain ⟨h4, h5⟩ := h3
    refine ⟨a, by omega, h4, h5.imp (fun z => z.2) ?_⟩
    rintro ⟨b, -, g2, g3⟩
    rw [Bool.and_eq_true, Bool.and_eq_true] at g3
    exact ⟨b, by omega, g3.1.1, g3.2⟩
  · rintro ⟨a, h1, h2, h3⟩
    refine ⟨a, Nat.zero_le _, by omega, ?_⟩
    rw [Bool.and_eq_true, Bool.or_eq_true, anyN_iff, Bool.and_eq_true]
    refine ⟨h2, ?_⟩
    -- with nothing fresh it would have been reached before
    have before : ∀ s, r = s + 1 → Qr n L g s a = true → (stp1 (L i) (L a) = true ∨ ∃ b, b < n ∧ Qr n L g s b = true ∧ stp2 (L i) (L a) (L b) = true) → False := by
      intro s hs ha hst
      have : Qr n L g r i = true := by
        rw [hs]
        show (Qr n L g s i || rch n L (Qr n L g s) (L i)) = true
        rw [rch_iff.mpr ⟨a, h1, ha, hst⟩, Bool.or_true]
      rw [h] at this
      cases this
    rcases h3 with h3 | ⟨b, g1, g2, g3⟩
    · refine Or.inl ⟨?_, h3⟩
      cases hf : frs n L g r a with
      | true => rfl
      | false =>
        cases r with
        | zero => rw [frs_0 h2] at hf; cases hf
        | succ s => exact (before s rfl (frs_not h2 hf) (Or.inl h3)).elim
    · refine Or.inr ⟨b, Nat.zero_le _, by omega, ?_⟩
      rw [Bool.and_eq_true, Bool.and_eq_true]
      refine ⟨⟨g2, ?_⟩, g3⟩
      cases hf : frs n L g r a with
      | true => rfl
      | false =>
        cases hf2 : frs n L g r b with
        | true => rfl
        | false =>
          cases r with
          | zero => rw [frs_0 h2] at hf; cases hf
          | succ s => exact (before s rfl (frs_not h2 hf) (Or.inr ⟨b, g1, frs_not g2 hf2, g3⟩)).elim
/-- nothing new in a round: nothing new behind it -/
theorem Qr_stop {n : Nat} {L : Nat → Fo} {g : Nat → Bool} {r : Nat} (h : ∀ i, i < n → Qr n L g (r + 1) i = Qr n L g r i) : ∀ k i, i < n → Qr n L g (r + k) i = Qr n L g r i := by
  intro k
  induction k with
  | zero => exact fun i _ => rfl
  | succ k ih =>
    intro i hi
    have e : rch n L (Qr n L g (r + k)) (L i) = rch n L (Qr n L g r) (L i) := by
      rw [Bool.eq_iff_iff, rch_iff, rch_iff]
      constructor
      · rintro ⟨a, h1, h2, h3⟩
        refine ⟨a, h1, by rw [← ih a h1]; exact h2, h3.imp_right ?_⟩
        rintro ⟨b, g1, g2, g3⟩
        exact ⟨b, g1, by rw [← ih b g1]; exact g2, g3⟩
      · rintro ⟨a, h1, h2, h3⟩
        refine ⟨a, h1, by rw [ih a h1]; exact h2, h3.imp_right ?_⟩
        rintro ⟨b, g1, g2, g3⟩
        exact ⟨b, g1, by rw [ih b g1]; exact g2, g3⟩
    show (Qr n L g (r + k) i || rch n L (Qr n L g (r + k)) (L i)) = _
    rw [ih i hi, e]
    exact h i hi
theorem hAt_stop {n : Nat} {L : Nat → Fo} {g : Nat → Bool} {r : Nat} (h : ∀ i, i < n → Qr n L g (r + 1) i = Qr n L g r i) : ∀ k i, i < n → hAt n L g (r + k) i = hAt n L g r i := by
  intro k
  induction k with
  | zero => exact fun i _ => rfl
  | succ k ih =>
    intro i hi
    have eh : hAt n L g (r + k + 1) i = if Qr n L g (r + k) i then hAt n L g (r + k) i else if rch n L (Qr n L g (r + k)) (L i) then ((r + k + 1 : Nat) : Int) else -4 := rfl
    have e1 := Qr_stop h k i hi
    have e2 := Qr_stop h (k + 1) i hi
    have e2' : (Qr n L g (r + k) i || rch n L (Qr n L g (r + k)) (L i)) = Qr n L g r i := e2
    show hAt n L g (r + k + 1) i = _
    rw [eh]
    cases hq : Qr n L g (r + k) i with
    | true => exact ih i hi
    | false =>
      rw [hq] at e1 e2'
      rw [Bool.false_or, ← e1] at e2'
      rw [e2']
      exact ((hAt_Q r i).2 e1.symm).symm
/-- the height of a line among n -/
def hgt (n : Nat) (L : Nat → Fo) (g : Nat → Bool) (i : Nat) : Int := hAt n L g 40 i
