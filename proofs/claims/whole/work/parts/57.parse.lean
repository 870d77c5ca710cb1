/-! HOW A TEXT IS READ: by parts, and by an automaton with what is open -/
def rE : List Int → List Int
  | [] => []
  | t :: O => if t = -1 then rE O else t :: O
abbrev RS : Type := List Nat × List Int × Bool
def rStp : RS → Int → Option RS
  | (v, O, true), c => if 112 ≤ c ∧ c ≤ 117 then some (v ++ [c.toNat], rE O, false) else if (c = 126 ∨ c = 40) ∧ O.length < 12 then some (v ++ [c.toNat], (if c = 126 then -1 else (v.length : Int)) :: O, true) else none
  | (_, [], false), _ => none
  | (v, t :: O, false), c => if t = -2 then (if c = 41 then some (v, rE O, false) else none) else if c = 118 ∨ c = 62 then some (v.set t.toNat c.toNat, -2 :: O, true) else none
def rGo : RS → List Int → Nat → Sum Nat RS
  | s, [], _ => .inr s
  | s, c :: l, i => if 60 ≤ i then .inl i else match rStp s c with
    | none => .inl i
    | some s' => rGo s' l (i + 1)
/-- a line from the front of l, at place i, with 13 - n open: where it fails, or the tree, what is left, its place -/
def pL : Nat → List Int → Nat → Sum Nat (Fo × List Int × Nat)
  | 0, _, i => .inl i
  | n + 1, l, i => match l with
    | [] => .inl i
    | c :: l' => if 60 ≤ i then .inl i
      else if 112 ≤ c ∧ c ≤ 117 then .inr (.var (c - 112).toNat, l', i + 1)
      else if n = 0 then .inl i
      else if c = 126 then (match pL n l' (i + 1) with
        | .inl j => .inl j
        | .inr (f, r, j) => .inr (.neg f, r, j))
      else if c = 40 then (match pL n l' (i + 1) with
        | .inl j => .inl j
        | .inr (f, r, j) => match r with
          | [] => .inl j
          | s :: r' => if 60 ≤ j ∨ ¬ (s = 118 ∨ s = 62) then .inl j else match pL n r' (j + 1) with
            | .inl k => .inl k
            | .inr (g, r2, k) => match r2 with
              | [] => .inl k
              | e :: r3 => if 60 ≤ k ∨ e ≠ 41 then .inl k else .inr (if s = 118 then .add f g else .sub f g, r3, k + 1))
      else .inl i
theorem pL_nil (n i : Nat) : pL (n + 1) [] i = .inl i := rfl
theorem pL_cons (n : Nat) (c : Int) (l' : List Int) (i : Nat) : pL (n + 1) (c :: l') i = if 60 ≤ i then .inl i
      else if 112 ≤ c ∧ c ≤ 117 then .inr (.var (c - 112).toNat, l', i + 1)
      else if n = 0 then .inl i
      else if c = 126 then (match pL n l' (i + 1) with
        | .inl j => .inl j
        | .inr (f, r, j) => .inr (.neg f, r, j))
      else if c = 40 then (match pL n l' (i + 1) with
        | .inl j => .inl j
        | .inr (f, r, j) => match r with
          | [] => .inl j
          | s :: r' => if 60 ≤ j ∨ ¬ (s = 118 ∨ s = 62) then .inl j else match pL n r' (j + 1) with
            | .inl k => .inl k
            | .inr (g, r2, k) => match r2 with
              | [] => .inl k
              | e :: r3 => if 60 ≤ k ∨ e ≠ 41 then .inl k else .inr (if s = 118 then .add f g else .sub f g, r3, k + 1))
      else .inl i := rfl
/-- the fault of a text; its tree -/
def pF (l : List Int) : Option Nat := match pL 13 l 0 with
  | .inl j => some j
  | .inr (_, r, j) => if r = [] then none else some j
def pT (l : List Int) : Fo := match pL 13 l 0 with
  | .inl _ => .var 0
  | .inr (f, _, _) => f
theorem rGo_step {s s' : RS} {c : Int} {i : Nat} (l : List Int) (hi : i < 60) (h : rStp s c = some s') : rGo s (c :: l) i = rGo s' l (i + 1) := by
  show (if 60 ≤ i then _ else match rStp s c with | none => _ | some s' => _) = _
  rw [if_neg (by omega), h]
theorem rGo_stop {s : RS} {c : Int} {i : Nat} (l : List Int) (h : rStp s c = none) : rGo s (c :: l) i = .inl i := by
  show (if 60 ≤ i then _ else match rStp s c with | none => _ | some s' => _) = _
  by_cases hi : 60 ≤ i
  · rw [if_pos hi]
  · rw [if_neg hi, h]
theorem rGo_60 {s : RS} {c : Int} {i : Nat} (l : List Int) (hi : 60 ≤ i) : rGo s (c :: l) i = .inl i := if_pos hi
theorem rE_pos {t : Int} (O : List Int) (h : t ≠ -1) : rE (t :: O) = t :: O := if_neg h
theorem rE_neg (O : List Int) : rE (-1 :: O) = rE O := if_pos rfl
/-- it has failed where the automaton stops, or the text ends too early -/
def rBad (s : RS) (l : List Int) (i j : Nat) : Prop := rGo s l i = .inl j ∨ ∃ s', rGo s l i = .inr s' ∧ j = i + l.length ∧ (s'.2.2 = true ∨ s'.2.1 ≠ [])
def rGood (v : List Nat) (O l : List Int) (i : Nat) (f : Fo) (r : List Int) (j : Nat) : Prop := fOk f ∧ rGo (v, O, true) l i = rGo (v ++ fPre f, rE O, false) r j ∧ l = (fTxt f).map Int.ofNat ++ r ∧ j = i + (fTxt f).length ∧ j ≤ 60
theorem rBad.of {s s' : RS} {l l' : List Int} {i i' j : Nat} (h : rBad s' l' i' j) (e : rGo s l i = rGo s' l' i') (hl : i + l.length = i' + l'.length) : rBad s l i j := by
  rcases h with h | ⟨q, h1, h2, h3⟩
  · exact Or.inl (e.trans h)
  · exact Or.inr ⟨q, e.trans h1, by omega, h3⟩
theorem pL_go : ∀ (n : Nat) (l : List Int) (i : Nat) (v : List Nat) (O : List Int), O.length + n = 13 → 0 < n → (∀ j, pL n l i = .inl j → rBad (v, O, true) l i j) ∧ ∀ f r j, pL n l i = .inr (f, r, j) → rGood v O l i f r j := by
  intro n
  induction n with
  | zero => intro l i v O h h0; omega
  | succ n ih =>
    intro l i v O hO _
    cases l with
    | nil =>
      refine ⟨fun j h => ?_, fun f r j h => by rw [pL_nil] at h; cases h⟩
      rw [pL_nil] at h
      have e : i = j := Sum.inl.inj h
      exact Or.inr ⟨(v, O, true), rfl, by simp [e], Or.inl rfl⟩
    | cons c l' =>
      rw [pL_cons]
      by_cases c60 : 60 ≤ i
      · rw [if_pos c60]
        exact ⟨fun j h => by cases h; exact Or.inl (rGo_60 l' c60), fun f r j h => (by cases h)⟩
      rw [if_neg c60]
      by_cases cl : 112 ≤ c ∧ c ≤ 117
      · rw [if_pos cl]
        refine ⟨fun j h => (by cases h), fun f r j h => ?_⟩
        cases h
        have ec : 112 + (c - 112).toNat = c.toNat := by omega
        refine ⟨by show (c - 112).toNat < 6; omega, ?_, ?_, ?_, by omega⟩
        · rw [rGo_step l' (by omega) (show rStp (v, O, true) c = some (v ++ [c.toNat], rE O, false) from if_pos cl), fPre_var, ec]
        · show c :: l' = Int.ofNat (112 + (c - 112).toNat) :: l'
          rw [ec]
          congr 1
          show c = (c.toNat : Int)
          omega
        · show i + 1 = i + [112 + (c - 112).toNat].length
          simp
      rw [if_neg cl]
      have stO : rStp (v, O, true) c = if (c = 126 ∨ c = 40) ∧ O.length < 12 then some (v ++ [c.toNat], (if c = 126 then -1 else (v.length : Int)) :: O, true) else none := if_neg cl
      by_cases c0 : n = 0
      · rw [if_pos c0]
        exact ⟨fun j h => by cases h; exact Or.inl (rGo_stop l' (stO.trans (if_neg (by omega)))), fun f r j h => (by cases h)⟩
      rw [if_neg c0]
      by_cases c1 : c = 126
      · rw [if_pos c1]
        have st : rStp (v, O, true) c = some (v ++ [126], -1 :: O, true) := by
          rw [stO, if_pos ⟨Or.inl c1, by omega⟩, if_pos c1, c1]; rfl
        have go := rGo_step l' (i := i) (by omega) st
        obtain ⟨i1, i2⟩ := ih l' (i + 1) (v ++ [126]) (-1 :: O) (by rw [List.length_cons]; omega) (by omega)
        cases hp : pL n l' (i + 1) with
        | inl k =>
          refine ⟨fun j h => ?_, fun f r j h => (by cases h)⟩
          have e : k = j := Sum.inl.inj h
          subst e
          exact (i1 k hp).of go (by rw [List.length_cons]; omega)
        | inr q =>
          obtain ⟨g, r0, k⟩ := q
          refine ⟨fun j h => (by cases h), fun f r j h => ?_⟩
          cases h
          obtain ⟨g1, g2, g3, g4, g5⟩ := i2 g r0 k hp
          refine ⟨g1, ?_, ?_, ?_, g5⟩
          · rw [go, g2, rE_neg, fPre_neg, List.append_assoc]; rfl
          · rw [c1, g3]; rfl
          · show k = i + ((fTxt g).length + 1)
            omega
      rw [if_neg c1]
      by_cases c2 : c = 40
      · rw [if_pos c2]
        have st : rStp (v, O, true) c = some (v ++ [40], (v.length : Int) :: O, true) := by
          rw [stO, if_pos ⟨Or.inr c2, by omega⟩, if_neg c1, c2]; rfl
        have go := rGo_step l' (i := i) (by omega) st
        obtain ⟨i1, i2⟩ := ih l' (i + 1) (v ++ [40]) ((v.length : Int) :: O) (by rw [List.length_cons]; omega) (by omega)
        cases hp : pL n l' (i + 1) with
        | inl k =>
          refine ⟨fun j h => ?_, fun f r j h => (by cases h)⟩
          have e : k = j := Sum.inl.inj h
          subst e
          exact (i1 k hp).of go (by rw [List.length_cons]; omega)
        | inr q =>
          obtain ⟨g, r0, k⟩ := q
          obtain ⟨g1, g2, g3, g4, g5⟩ := i2 g r0 k hp
          rw [rE_pos O (show (v.length : Int) ≠ -1 by omega)] at g2
          have ln1 : l'.length = (fTxt g).length + r0.length := by rw [g3]; simp
          show (∀ j, (match r0 with | [] => Sum.inl k | s :: r' => _) = Sum.inl j → _) ∧ _
          cases r0 with
          | nil =>
            refine ⟨fun j h => ?_, fun f r j h => (by cases h)⟩
            have e : k = j := Sum.inl.inj h
            subst e
            exact Or.inr ⟨_, (go.trans g2), by rw [List.length_cons, ln1, g4]; simp; omega, Or.inr (by simp)⟩
          | cons s r' =>
            have lr : (s :: r').length = r'.length + 1 := List.length_cons
            by_cases c3 : 60 ≤ k ∨ ¬ (s = 118 ∨ s = 62)
            · simp only [if_pos c3]
              refine ⟨fun j h => ?_, fun f r j h => (by cases h)⟩
              have e : k = j := Sum.inl.inj h
              subst e
              refine Or.inl ((go.trans g2).trans ?_)
              rcases c3 with c3 | c3
              · exact rGo_60 r' c3
              · have eN : rStp (v ++ [40] ++ fPre g, (v.length : Int) :: O, false) s = if (v.length : Int) = -2 then (if s = 41 then some (v ++ [40] ++ fPre g, rE O, false) else none) else if s = 118 ∨ s = 62 then some ((v ++ [40] ++ fPre g).set (v.length : Int).toNat s.toNat, -2 :: O, true) else none := rfl
                rw [if_neg (by omega), if_neg c3] at eN
                exact rGo_stop r' eN
            simp only [if_neg c3]
            have cs : s = 118 ∨ s = 62 := Classical.byContradiction fun z => c3 (Or.inr z)
            have k60 : k < 60 := Nat.lt_of_not_le fun z => c3 (Or.inl z)
            have set1 : (v ++ [40] ++ fPre g).set v.length s.toNat = v ++ [s.toNat] ++ fPre g := by
              rw [List.append_assoc, List.append_assoc, List.set_append_right _ _ (Nat.le_refl _)]
              simp
            have st2 : rStp (v ++ [40] ++ fPre g, (v.length : Int) :: O, false) s = some (v ++ [s.toNat] ++ fPre g, -2 :: O, true) := by
              have eN : rStp (v ++ [40] ++ fPre g, (v.length : Int) :: O, false) s = if (v.length : Int) = -2 then (if s = 41 then some (v ++ [40] ++ fPre g, rE O, false) else none) else if s = 118 ∨ s = 62 then some ((v ++ [40] ++ fPre g).set (v.length : Int).toNat s.toNat, -2 :: O, true) else none := rfl
              rw [eN, if_neg (by omega), if_pos cs, Int.toNat_natCast, set1]
            have go2 := (go.trans g2).trans (rGo_step r' k60 st2)
            obtain ⟨j1, j2⟩ := ih r' (k + 1) (v ++ [s.toNat] ++ fPre g) (-2 :: O) (by rw [List.length_cons]; omega) (by omega)
            cases hq : pL n r' (k + 1) with
            | inl k2 =>
              refine ⟨fun j h => ?_, fun f r j h => (by cases h)⟩
              have e : k2 = j := Sum.inl.inj h
              subst e
              exact (j1 k2 hq).of go2 (by rw [List.length_cons, ln1, lr]; omega)
            | inr q2 =>
              obtain ⟨g', r2, k2⟩ := q2
              obtain ⟨m1, m2, m3, m4, m5⟩ := j2 g' r2 k2 hq
              rw [rE_pos O (show (-2 : Int) ≠ -1 by omega)] at m2
              have ln2 : r'.length = (fTxt g').length + r2.length := by rw [m3]; simp
              have go3 := go2.trans m2
              show (∀ j, (match r2 with | [] => Sum.inl k2 | e :: r3 => _) = Sum.inl j → _) ∧ _
              cases r2 with
              | nil =>
                refine ⟨fun j h => ?_, fun f r j h => (by cases h)⟩
                have e : k2 = j := Sum.inl.inj h
                subst e
                exact Or.inr ⟨_, go3, by rw [List.length_cons, ln1, lr, ln2]; simp; omega, Or.inr (by simp)⟩
              | cons e r3 =>
                have lr3 : (e :: r3).length = r3.length + 1 := List.length_cons
                by_cases c4 : 60 ≤ k2 ∨ e ≠ 41
                · simp only [if_pos c4]
                  refine ⟨fun j h => ?_, fun f r j h => (by cases h)⟩
                  have e' : k2 = j := Sum.inl.inj h
                  subst e'
                  refine Or.inl (go3.trans ?_)
                  rcases c4 with c4 | c4
                  · exact rGo_60 r3 c4
                  · have eN : rStp (v ++ [s.toNat] ++ fPre g ++ fPre g', -2 :: O, false) e = if (-2 : Int) = -2 then (if e = 41 then some (v ++ [s.toNat] ++ fPre g ++ fPre g', rE O, false) else none) else if e = 118 ∨ e = 62 then some ((v ++ [s.toNat] ++ fPre g ++ fPre g').set (-2 : Int).toNat e.toNat, -2 :: O, true) else none := rfl
                    rw [if_pos rfl, if_neg c4] at eN
                    exact rGo_stop r3 eN
                simp only [if_neg c4]
                have ce : e = 41 := Classical.byContradiction fun z => c4 (Or.inr z)
                have k260 : k2 < 60 := Nat.lt_of_not_le fun z => c4 (Or.inl z)
                have st3 : rStp (v ++ [s.toNat] ++ fPre g ++ fPre g', -2 :: O, false) e = some (v ++ [s.toNat] ++ fPre g ++ fPre g', rE O, false) := by
                  have eN : rStp (v ++ [s.toNat] ++ fPre g ++ fPre g', -2 :: O, false) e = if (-2 : Int) = -2 then (if e = 41 then some (v ++ [s.toNat] ++ fPre g ++ fPre g', rE O, false) else none) else if e = 118 ∨ e = 62 then some ((v ++ [s.toNat] ++ fPre g ++ fPre g').set (-2 : Int).toNat e.toNat, -2 :: O, true) else none := rfl
                  rw [eN, if_pos rfl, if_pos ce]
                have go4 := go3.trans (rGo_step r3 k260 st3)
                refine ⟨fun j h => (by cases h), fun f r j h => ?_⟩
                rcases cs with cs | cs
                · rw [if_pos cs] at h
                  cases h
                  refine ⟨⟨g1, m1⟩, ?_, ?_, ?_, by omega⟩
                  · rw [go4, fPre_add, cs]
                    simp
                  · rw [c2, g3, m3, ce, cs]
                    simp [fTxt]
                  · simp [fTxt]; omega
                · rw [if_neg (by omega)] at h
                  cases h
                  refine ⟨⟨g1, m1⟩, ?_, ?_, ?_, by omega⟩
                  · rw [go4, fPre_sub, cs]
                    simp
                  · rw [c2, g3, m3, ce, cs]
                    simp [fTxt]
                  · simp [fTxt]; omega
      · rw [if_neg c2]
        exact ⟨fun j h => by cases h; exact Or.inl (rGo_stop l' (stO.trans (if_neg (by omega)))), fun f r j h => (by cases h)⟩
/-- the automaton on a whole text: its fault, or the tree -/
theorem pF_go (l : List Int) : (∀ j, pF l = some j → rGo ([], [], true) l 0 = .inl j ∨ ∃ s', rGo ([], [], true) l 0 = .inr s' ∧ j = l.length ∧ (s'.2.2 = true ∨ s'.2.1 ≠ [])) ∧ (pF l = none → rGo ([], [], true) l 0 = .inr (fPre (pT l), [], false) ∧ fOk (pT l) ∧ l = (fTxt (pT l)).map Int.ofNat ∧ (fTxt (pT l)).length ≤ 60) := by
  obtain ⟨h1, h2⟩ := pL_go 13 l 0 [] [] rfl (by omega)
  unfold pF pT
  cases hp : pL 13 l 0 with
  | inl k =>
    refine ⟨fun j h => ?_, fun h => (by cases h)⟩
    have e : k = j := Option.some.inj h
    subst e
    rcases h1 k hp with h | ⟨s', a, b, c⟩
    · exact Or.inl h
    · exact Or.inr ⟨s', a, by omega, c⟩
  | inr q =>
    obtain ⟨f, r, k⟩ := q
    obtain ⟨g1, g2, g3, g4, g5⟩ := h2 f r k hp
    show (∀ j, (if r = [] then none else some k) = some j → _) ∧ ((if r = [] then none else some k) = none → _)
    by_cases hr : r = []
    · rw [if_pos hr]
      subst hr
      refine ⟨fun j h => (by cases h), fun _ => ⟨g2, g1, ?_, ?_⟩⟩
      · show l = (fTxt f).map Int.ofNat
        rw [g3]; simp
      · show (fTxt f).length ≤ 60
        omega
    · rw [if_neg hr]
      refine ⟨fun j h => ?_, fun h => (by cases h)⟩
      have e : k = j := Option.some.inj h
      subst e
      refine Or.inl (g2.trans ?_)
      cases r with
      | nil => exact absurd rfl hr
      | cons c r => exact rGo_stop r rfl
