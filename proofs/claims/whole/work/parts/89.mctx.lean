/-! parts of a tree, in its text and in its signs -/
def IsC (C : Fo → Fo) (P R X Y : List Nat) : Prop := (∀ m, fOk m → fOk (C m)) ∧ (∀ m, fTxt (C m) = P ++ (fTxt m ++ R)) ∧ ∀ m, fPre (C m) = X ++ (fPre m ++ Y)
theorem IsC.id : IsC (fun m => m) [] [] [] [] := ⟨fun _ h => h, fun m => by simp, fun m => by simp⟩
theorem IsC.neg {C : Fo → Fo} {P R X Y : List Nat} (h : IsC C P R X Y) : IsC (fun m => .neg (C m)) (126 :: P) R (126 :: X) Y := ⟨fun m hm => h.1 m hm, fun m => by rw [txt_neg, h.2.1]; rfl, fun m => by rw [fPre_neg, h.2.2]; rfl⟩
theorem IsC.addL {C : Fo → Fo} {P R X Y : List Nat} {b : Fo} (hb : fOk b) (h : IsC C P R X Y) : IsC (fun m => .add (C m) b) (40 :: P) (R ++ 118 :: (fTxt b ++ [41])) (118 :: X) (Y ++ fPre b) := ⟨fun m hm => ⟨h.1 m hm, hb⟩, fun m => by rw [txt_add, h.2.1]; simp, fun m => by rw [fPre_add, h.2.2]; simp⟩
theorem IsC.addR {C : Fo → Fo} {P R X Y : List Nat} {a : Fo} (ha : fOk a) (h : IsC C P R X Y) : IsC (fun m => .add a (C m)) (40 :: (fTxt a ++ 118 :: P)) (R ++ [41]) (118 :: (fPre a ++ X)) Y := ⟨fun m hm => ⟨ha, h.1 m hm⟩, fun m => by rw [txt_add, h.2.1]; simp, fun m => by rw [fPre_add, h.2.2]; simp⟩
theorem IsC.subL {C : Fo → Fo} {P R X Y : List Nat} {b : Fo} (hb : fOk b) (h : IsC C P R X Y) : IsC (fun m => .sub (C m) b) (40 :: P) (R ++ 62 :: (fTxt b ++ [41])) (62 :: X) (Y ++ fPre b) := ⟨fun m hm => ⟨h.1 m hm, hb⟩, fun m => by rw [txt_sub, h.2.1]; simp, fun m => by rw [fPre_sub, h.2.2]; simp⟩
theorem IsC.subR {C : Fo → Fo} {P R X Y : List Nat} {a : Fo} (ha : fOk a) (h : IsC C P R X Y) : IsC (fun m => .sub a (C m)) (40 :: (fTxt a ++ 62 :: P)) (R ++ [41]) (62 :: (fPre a ++ X)) Y := ⟨fun m hm => ⟨ha, h.1 m hm⟩, fun m => by rw [txt_sub, h.2.1]; simp, fun m => by rw [fPre_sub, h.2.2]; simp⟩
theorem txtPos : ∀ A, fOk A → ∀ (P : List Nat) (c : Nat) (R : List Nat), fTxt A = P ++ c :: R → (c ≠ 118 ∧ c ≠ 62 ∧ c ≠ 41) → ∃ n C R' X Y, fOk n ∧ C n = A ∧ IsC C P R' X Y := by
  have two : ∀ (s : Nat) (a b : Fo) (P R : List Nat) (c : Nat), (s = 118 ∨ s = 62) → (c ≠ 118 ∧ c ≠ 62 ∧ c ≠ 41) → fTxt a ++ s :: (fTxt b ++ [41]) = P ++ c :: R → (∃ R1, fTxt a = P ++ c :: R1) ∨ ∃ P' R1, P = fTxt a ++ s :: P' ∧ fTxt b = P' ++ c :: R1 := by
    intro s a b P R c hs hc h
    rcases List.append_eq_append_iff.mp h with ⟨a', e1, e2⟩ | ⟨c', e1, e2⟩
    · -- P = fTxt a ++ a'
      cases a' with
      | nil =>
        have := (List.cons.inj e2).1
        omega
      | cons d a'' =>
        obtain ⟨e3, e4⟩ := List.cons.inj e2
        subst e3
        rcases List.append_eq_append_iff.mp e4 with ⟨b', f1, f2⟩ | ⟨b', f1, f2⟩
        · cases b' with
          | nil =>
            have := (List.cons.inj f2).1
            omega
          | cons d b'' =>
            have := congrArg List.length (List.cons.inj (show (41 : Nat) :: [] = d :: (b'' ++ c :: R) from f2)).2
            rw [List.length_nil, List.length_append, List.length_cons] at this
            omega
        · cases b' with
          | nil =>
            have f2' : c :: R = [41] := f2
            have := (List.cons.inj f2').1
            omega
          | cons d b'' =>
            have f2' : c :: R = d :: (b'' ++ [41]) := f2
            have e5 := (List.cons.inj f2').1
            exact Or.inr ⟨a'', b'', e1, by rw [f1, e5]⟩
    · cases c' with
      | nil =>
        have e2' : c :: R = s :: (fTxt b ++ [41]) := e2
        have := (List.cons.inj e2').1
        omega
      | cons d c'' =>
        have e2' : c :: R = d :: (c'' ++ s :: (fTxt b ++ [41])) := e2
        have e5 := (List.cons.inj e2').1
        exact Or.inl ⟨c'', by rw [e1, e5]⟩
  apply fInd
  · intro i hi P c R h _
    cases P with
    | nil => exact ⟨.var i, fun m => m, [], [], [], hi, rfl, IsC.id⟩
    | cons d P =>
      have h' : [112 + i] = d :: (P ++ c :: R) := h
      have := congrArg List.length (List.cons.inj h').2
      rw [List.length_nil, List.length_append, List.length_cons] at this
      omega
  · intro a ha ih P c R h hc
    cases P with
    | nil => exact ⟨.neg a, fun m => m, [], [], [], ha, rfl, IsC.id⟩
    | cons d P =>
      have h' : 126 :: fTxt a = d :: (P ++ c :: R) := h
      obtain ⟨e1, e2⟩ := List.cons.inj h'
      obtain ⟨n, C, R', X, Y, g1, g2, g3⟩ := ih P c R e2 hc
      rw [← e1]
      exact ⟨n, _, R', _, Y, g1, by show Int.Internal.Linear.Expr.neg (C n) = _; rw [g2], g3.neg⟩
  · intro a b ha hb iha ihb P c R h hc
    cases P with
    | nil => exact ⟨.add a b, fun m => m, [], [], [], ⟨ha, hb⟩, rfl, IsC.id⟩
    | cons d P =>
      have h' : 40 :: (fTxt a ++ 118 :: (fTxt b ++ [41])) = d :: (P ++ c :: R) := h
      obtain ⟨e1, e2⟩ := List.cons.inj h'
      rw [← e1]
      rcases two 118 a b P R c (Or.inl rfl) hc e2 with ⟨R1, q⟩ | ⟨P', R1, q1, q2⟩
      · obtain ⟨n, C, R', X, Y, g1, g2, g3⟩ := iha P c R1 q hc
        exact ⟨n, _, _, _, _, g1, by show Int.Internal.Linear.Expr.add (C n) b = _; rw [g2], g3.addL hb⟩
      · obtain ⟨n, C, R', X, Y, g1, g2, g3⟩ := ihb P' c R1 q2 hc
        rw [q1]
        exact ⟨n, _, _, _, _, g1, by show Int.Internal.Linear.Expr.add a (C n) = _; rw [g2], g3.addR ha⟩
  · intro a b ha hb iha ihb P c R h hc
    cases P with
    | nil => exact ⟨.sub a b, fun m => m, [], [], [], ⟨ha, hb⟩, rfl, IsC.id⟩
    | cons d P =>
      have h' : 40 :: (fTxt a ++ 62 :: (fTxt b ++ [41])) = d :: (P ++ c :: R) := h
      obtain ⟨e1, e2⟩ := List.cons.inj h'
      rw [← e1]
      rcases two 62 a b P R c (Or.inr rfl) hc e2 with ⟨R1, q⟩ | ⟨P', R1, q1, q2⟩
      · obtain ⟨n, C, R', X, Y, g1, g2, g3⟩ := iha P c R1 q hc
        exact ⟨n, _, _, _, _, g1, by show Int.Internal.Linear.Expr.sub (C n) b = _; rw [g2], g3.subL hb⟩
      · obtain ⟨n, C, R', X, Y, g1, g2, g3⟩ := ihb P' c R1 q2 hc
        rw [q1]
        exact ⟨n, _, _, _, _, g1, by show Int.Internal.Linear.Expr.sub a (C n) = _; rw [g2], g3.subR ha⟩
theorem prePos : ∀ A, fOk A → ∀ (X : List Nat) (c : Nat) (Y : List Nat), fPre A = X ++ c :: Y → ∃ n C P R Y', fOk n ∧ C n = A ∧ IsC C P R X Y' := by
  have two : ∀ (a b : Fo) (X Y : List Nat) (c : Nat), fPre a ++ fPre b = X ++ c :: Y → (∃ Y1, fPre a = X ++ c :: Y1) ∨ ∃ X', X = fPre a ++ X' ∧ fPre b = X' ++ c :: Y := by
    intro a b X Y c h
    rcases List.append_eq_append_iff.mp h with ⟨a', e1, e2⟩ | ⟨c', e1, e2⟩
    · exact Or.inr ⟨a', e1, e2⟩
    · cases c' with
      | nil => exact Or.inr ⟨[], by rw [e1]; simp, by rw [e2]; simp⟩
      | cons d c'' =>
        have e2' : c :: Y = d :: (c'' ++ fPre b) := e2
        exact Or.inl ⟨c'', by rw [e1, (List.cons.inj e2').1]⟩
  apply fInd
  · intro i hi X c Y h
    cases X with
    | nil => exact ⟨.var i, fun m => m, [], [], [], hi, rfl, IsC.id⟩
    | cons d X =>
      have h' : [112 + i] = d :: (X ++ c :: Y) := h
      have := congrArg List.length (List.cons.inj h').2
      rw [List.length_nil, List.length_append, List.length_cons] at this
      omega
  · intro a ha ih X c Y h
    cases X with
    | nil => exact ⟨.neg a, fun m => m, [], [], [], ha, rfl, IsC.id⟩
    | cons d X =>
      have h' : 126 :: fPre a = d :: (X ++ c :: Y) := h
      obtain ⟨e1, e2⟩ := List.cons.inj h'
      obtain ⟨n, C, P, R, Y', g1, g2, g3⟩ := ih X c Y e2
      rw [← e1]
      exact ⟨n, _, _, R, Y', g1, by show Int.Internal.Linear.Expr.neg (C n) = _; rw [g2], g3.neg⟩
  · intro a b ha hb iha ihb X c Y h
    cases X with
    | nil => exact ⟨.add a b, fun m => m, [], [], [], ⟨ha, hb⟩, rfl, IsC.id⟩
    | cons d X =>
      have h' : 118 :: (fPre a ++ fPre b) = d :: (X ++ c :: Y) := h
      obtain ⟨e1, e2⟩ := List.cons.inj h'
      rw [← e1]
      rcases two a b X Y c e2 with ⟨Y1, q⟩ | ⟨X', q1, q2⟩
      · obtain ⟨n, C, P, R, Y', g1, g2, g3⟩ := iha X c Y1 q
        exact ⟨n, _, _, _, _, g1, by show Int.Internal.Linear.Expr.add (C n) b = _; rw [g2], g3.addL hb⟩
      · obtain ⟨n, C, P, R, Y', g1, g2, g3⟩ := ihb X' c Y q2
        rw [q1]
        exact ⟨n, _, _, _, _, g1, by show Int.Internal.Linear.Expr.add a (C n) = _; rw [g2], g3.addR ha⟩
  · intro a b ha hb iha ihb X c Y h
    cases X with
    | nil => exact ⟨.sub a b, fun m => m, [], [], [], ⟨ha, hb⟩, rfl, IsC.id⟩
    | cons d X =>
      have h' : 62 :: (fPre a ++ fPre b) = d :: (X ++ c :: Y) := h
      obtain ⟨e1, e2⟩ := List.cons.inj h'
      rw [← e1]
      rcases two a b X Y c e2 with ⟨Y1, q⟩ | ⟨X', q1, q2⟩
      · obtain ⟨n, C, P, R, Y', g1, g2, g3⟩ := iha X c Y1 q
        exact ⟨n, _, _, _, _, g1, by show Int.Internal.Linear.Expr.sub (C n) b = _; rw [g2], g3.subL hb⟩
      · obtain ⟨n, C, P, R, Y', g1, g2, g3⟩ := ihb X' c Y q2
        rw [q1]
        exact ⟨n, _, _, _, _, g1, by show Int.Internal.Linear.Expr.sub a (C n) = _; rw [g2], g3.subR ha⟩
/-! one change -/
def oCh (n n' : Fo) : Prop := ∃ x y, (n = .sub x y ∧ n' = .add (.neg x) y) ∨ (n = .add (.neg x) y ∧ n' = .sub x y)
def ChA (f A : Fo) (j : Nat) : Prop := ∃ C P R X Y n n', IsC C P R X Y ∧ P.length = j ∧ fOk n ∧ C n = A ∧ oCh n n' ∧ f = C n'
theorem oCh_ok {n n' : Fo} (h : oCh n n') (hn : fOk n) : fOk n' := by
  obtain ⟨x, y, ⟨e1, e2⟩ | ⟨e1, e2⟩⟩ := h
  · rw [e1] at hn
    rw [e2]
    exact hn
  · rw [e1] at hn
    rw [e2]
    exact hn
theorem lOpn_iff : ∀ v u : List Nat, lOpn v u = true ↔ ∃ X Y, v = X ++ 62 :: Y ∧ u = X ++ 118 :: 126 :: Y := by
  intro v
  induction v with
  | nil =>
    intro u
    refine ⟨fun h => (by cases u <;> cases h), fun h => ?_⟩
    obtain ⟨X, Y, e, -⟩ := h
    have := congrArg List.length e
    rw [List.length_nil, List.length_append, List.length_cons] at this
    omega
  | cons c v ih =>
    intro u
    cases u with
    | nil =>
      refine ⟨fun h => (by cases h), fun h => ?_⟩
      obtain ⟨X, Y, -, e⟩ := h
      have := congrArg List.length e
      rw [List.length_nil, List.length_append, List.length_cons] at this
      omega
    | cons d u =>
      have e : lOpn (c :: v) (d :: u) = if c = d then lOpn v u else decide (c = 62 ∧ d = 118 ∧ u = 126 :: v) := rfl
      rw [e]
      by_cases cd : c = d
      · rw [if_pos cd, ih]
        constructor
        · rintro ⟨X, Y, e1, e2⟩
          exact ⟨c :: X, Y, by rw [e1]; rfl, by rw [e2, cd]; rfl⟩
        · rintro ⟨X, Y, e1, e2⟩
          cases X with
          | nil =>
            have h1 := (List.cons.inj (show c :: v = 62 :: Y from e1)).1
            have h2 := (List.cons.inj (show d :: u = 118 :: 126 :: Y from e2)).1
            omega
          | cons a X => exact ⟨X, Y, (List.cons.inj (show c :: v = a :: (X ++ 62 :: Y) from e1)).2, (List.cons.inj (show d :: u = a :: (X ++ 118 :: 126 :: Y) from e2)).2⟩
      · rw [if_neg cd, decide_eq_true_iff]
        constructor
        · rintro ⟨h1, h2, h3⟩
          exact ⟨[], v, by rw [h1]; rfl, by rw [h2, h3]; rfl⟩
        · rintro ⟨X, Y, e1, e2⟩
          cases X with
          | nil =>
            obtain ⟨h1, h1'⟩ := List.cons.inj (show c :: v = 62 :: Y from e1)
            obtain ⟨h2, h2'⟩ := List.cons.inj (show d :: u = 118 :: 126 :: Y from e2)
            exact ⟨h1, h2, by rw [h2', h1']⟩
          | cons a X =>
            have h1 := (List.cons.inj (show c :: v = a :: (X ++ 62 :: Y) from e1)).1
            have h2 := (List.cons.inj (show d :: u = a :: (X ++ 118 :: 126 :: Y) from e2)).1
            exact absurd (h1.trans h2.symm) cd
theorem mean_iff {f A : Fo} (hf : fOk f) (hA : fOk A) : fMean f A = true ↔ ∃ j, ChA f A j := by
  have open1 : ∀ {u v : Fo}, fOk u → fOk v → (∃ X Y, fPre u = X ++ 62 :: Y ∧ fPre v = X ++ 118 :: 126 :: Y) → ∃ C P R X Y x y, IsC C P R X Y ∧ fOk x ∧ fOk y ∧ C (.sub x y) = u ∧ v = C (.add (.neg x) y) := by
    rintro u v hu hv ⟨X, Z, e1, e2⟩
    obtain ⟨n, C, P, R, Y, g1, g2, g3⟩ := prePos u hu X 62 Z e1
    have e3 : fPre n ++ Y = 62 :: Z := by
      have := g3.2.2 n
      rw [g2, e1] at this
      exact (List.append_cancel_left this).symm
    rcases fCases g1 with ⟨i, hi, rfl⟩ | ⟨c, hc, rfl⟩ | ⟨c, d, hc, hd, rfl⟩ | ⟨c, d, hc, hd, rfl⟩
    · have := (List.cons.inj (show (112 + i) :: Y = 62 :: Z from e3)).1
      omega
    · have := (List.cons.inj (show 126 :: (fPre c ++ Y) = 62 :: Z from e3)).1
      omega
    · have := (List.cons.inj (show 118 :: ((fPre c ++ fPre d) ++ Y) = 62 :: Z from e3)).1
      omega
    · have e4 := (List.cons.inj (show 62 :: ((fPre c ++ fPre d) ++ Y) = 62 :: Z from e3)).2
      refine ⟨C, P, R, X, Y, c, d, g3, hc, hd, g2, fPre_eq hv (g3.1 _ ⟨hc, hd⟩) ?_⟩
      rw [g3.2.2, e2, ← e4]
      rfl
  unfold fMean
  rw [Bool.or_eq_true, lOpn_iff, lOpn_iff]
  constructor
  · rintro (h | h)
    · obtain ⟨C, P, R, X, Y, x, y, g1, hx, hy, g2, g3⟩ := open1 hA hf h
      exact ⟨P.length, C, P, R, X, Y, .sub x y, .add (.neg x) y, g1, rfl, ⟨hx, hy⟩, g2, ⟨x, y, Or.inl ⟨rfl, rfl⟩⟩, g3⟩
    · obtain ⟨C, P, R, X, Y, x, y, g1, hx, hy, g2, g3⟩ := open1 hf hA h
      exact ⟨P.length, C, P, R, X, Y, .add (.neg x) y, .sub x y, g1, rfl, ⟨hx, hy⟩, g3.symm, ⟨x, y, Or.inr ⟨rfl, rfl⟩⟩, g2.symm⟩
  · rintro ⟨j, C, P, R, X, Y, n, n', g1, -, hn, g2, ⟨x, y, ⟨e1, e2⟩ | ⟨e1, e2⟩⟩, g3⟩
    · refine Or.inl ⟨X, fPre x ++ (fPre y ++ Y), ?_, ?_⟩
      · rw [← g2, g1.2.2, e1, fPre_sub]; simp
      · rw [g3, g1.2.2, e2, fPre_add, fPre_neg]; simp
    · refine Or.inr ⟨X, fPre x ++ (fPre y ++ Y), ?_, ?_⟩
      · rw [g3, g1.2.2, e2, fPre_sub]; simp
      · rw [← g2, g1.2.2, e1, fPre_add, fPre_neg]; simp
