/-! THE MODEL: two trees alike, in the order of their texts -/
theorem txt_add (a b : Fo) : fTxt (.add a b) = 40 :: (fTxt a ++ 118 :: (fTxt b ++ [41])) := rfl
theorem txt_sub (a b : Fo) : fTxt (.sub a b) = 40 :: (fTxt a ++ 62 :: (fTxt b ++ [41])) := rfl
theorem txt_neg (a : Fo) : fTxt (.neg a) = 126 :: fTxt a := rfl
theorem rp_one (k : Nat) (m : List Nat) : rp k m [41] = if 41 = k then m else [41] := by
  show (if 41 = k then m else [41]) ++ [] = _
  rw [List.append_nil]
theorem rp_txt {k : Nat} {p : Fo} (hk : k < 6) : ∀ f, fOk f → fTxt (fS1 k p f) = rp (112 + k) (fTxt p) (fTxt f) := by
  apply fInd
  · intro i hi
    rw [fS1_var]
    show _ = (if 112 + i = 112 + k then fTxt p else [112 + i]) ++ []
    rw [List.append_nil]
    by_cases e : i = k
    · rw [if_pos e, if_pos (by omega)]
    · rw [if_neg e, if_neg (by omega)]
      rfl
  · intro a ha ih
    rw [fS1_neg, txt_neg, txt_neg, rp_cons, if_neg (by omega), ih]
    rfl
  · intro a b ha hb iha ihb
    rw [fS1_add, txt_add, txt_add, rp_cons, if_neg (by omega), rp_app, rp_cons, if_neg (by omega), rp_app, rp_one, if_neg (by omega), iha, ihb]
    rfl
  · intro a b ha hb iha ihb
    rw [fS1_sub, txt_sub, txt_sub, rp_cons, if_neg (by omega), rp_app, rp_cons, if_neg (by omega), rp_app, rp_one, if_neg (by omega), iha, ihb]
    rfl
theorem cntC_app (k : Nat) (l m : List Nat) : cntC k (l ++ m) = cntC k l + cntC k m := List.countP_append
theorem cntC_cons (k c : Nat) (l : List Nat) : cntC k (c :: l) = cntC k l + if c = k then 1 else 0 := by
  unfold cntC
  rw [List.countP_cons]
  by_cases h : c = k
  · rw [if_pos h, if_pos (decide_eq_true h)]
  · rw [if_neg h, if_neg (by rw [decide_eq_false h]; exact Bool.false_ne_true)]
theorem cntC_nil (k : Nat) : cntC k [] = 0 := rfl
theorem cnt_txt {k : Nat} (hk : k < 6) : ∀ f, fOk f → cntC (112 + k) (fTxt f) = cntC (112 + k) (fPre f) := by
  apply fInd
  · intro i hi; rfl
  · intro a ha ih
    rw [txt_neg, fPre_neg, cntC_cons, cntC_cons, ih]
  · intro a b ha hb iha ihb
    rw [txt_add, fPre_add, cntC_cons, cntC_cons, cntC_app, cntC_app, cntC_cons, cntC_app, cntC_cons, cntC_nil, if_neg (by omega), if_neg (by omega), if_neg (by omega), iha, ihb]
    omega
  · intro a b ha hb iha ihb
    rw [txt_sub, fPre_sub, cntC_cons, cntC_cons, cntC_app, cntC_app, cntC_cons, cntC_app, cntC_cons, cntC_nil, if_neg (by omega), if_neg (by omega), if_neg (by omega), iha, ihb]
    omega
theorem has_cnt {k : Nat} (hk : k < 6) {p : Fo} (hp : fOk p) : fHas k p = decide (0 < cntC (112 + k) (fTxt p)) := by
  rw [cnt_txt hk p hp]
  unfold fHas cntC
  by_cases h : 112 + k ∈ fPre p
  · rw [decide_eq_true h, decide_eq_true (List.countP_pos_iff.mpr ⟨_, h, decide_eq_true rfl⟩)]
  · rw [decide_eq_false h, decide_eq_false (fun z => by
      obtain ⟨a, ha, e⟩ := List.countP_pos_iff.mp z
      rw [of_decide_eq_true e] at ha
      exact h ha)]
theorem sz_S1 {k : Nat} {p : Fo} (hk : k < 6) (hp : fOk p) {f : Fo} (hf : fOk f) : fSz (fS1 k p f) = fSz f + cntC (112 + k) (fTxt f) * (fSz p - 1) := by
  have h : sL k p (fPre f) = rp (112 + k) (fPre p) (fPre f) := rfl
  have := rp_len (m := fPre p) (fSz_pos hp) (k := 112 + k) (fPre f)
  show (fPre (fS1 k p f)).length = _
  rw [fS1_pre hk f hf, h, this, cnt_txt hk f hf]
  rfl
/-! the first place where two texts part -/
def tDf : Fo → Fo → Option (Option (Fo × Fo))
  | .var i, g => match g with
    | .var j => if i = j then none else some (some (.var i, .var j))
    | g => some (some (.var i, g))
  | .neg a, g => match g with
    | .neg b => tDf a b
    | g => some (some (.neg a, g))
  | .add a c, g => match g with
    | .add b d => (match tDf a b with
      | none => tDf c d
      | r => r)
    | .sub b _ => (match tDf a b with
      | none => some none
      | r => r)
    | g => some (some (.add a c, g))
  | .sub a c, g => match g with
    | .sub b d => (match tDf a b with
      | none => tDf c d
      | r => r)
    | .add b _ => (match tDf a b with
      | none => some none
      | r => r)
    | g => some (some (.sub a c, g))
  | f, g => some (some (f, g))
def tHd : Fo → Nat
  | .var i => 112 + i
  | .neg _ => 126
  | _ => 40
def tDs (f g : Fo) : Option (Option (Fo × Fo)) → Prop
  | none => f = g
  | some none => ∃ X Y Y' c c', fTxt f = X ++ c :: Y ∧ fTxt g = X ++ c' :: Y' ∧ c ≠ c' ∧ (c = 118 ∨ c = 62) ∧ (c' = 118 ∨ c' = 62)
  | some (some (x, y)) => ∃ X Y Y', fTxt f = X ++ (fTxt x ++ Y) ∧ fTxt g = X ++ (fTxt y ++ Y') ∧ fOk x ∧ fOk y ∧ tHd x ≠ tHd y
theorem tDs_top {f g : Fo} (hf : fOk f) (hg : fOk g) (h : tHd f ≠ tHd g) : tDs f g (some (some (f, g))) := ⟨[], [], [], by simp, by simp, hf, hg, h⟩
theorem tDf_ok : ∀ f, fOk f → ∀ g, fOk g → tDs f g (tDf f g) := by
  -- two of one sign
  have one : ∀ (s : Nat) (mk : Fo → Fo → Fo) (a b c d : Fo), (∀ a b, fTxt (mk a b) = 40 :: (fTxt a ++ s :: (fTxt b ++ [41]))) → tDs a b (tDf a b) → tDs c d (tDf c d) → tDs (mk a c) (mk b d) (match tDf a b with
      | none => tDf c d
      | r => r) := by
    intro s mk a b c d ht h1 h2
    cases e1 : tDf a b with
    | none =>
      rw [e1] at h1
      have h1' : a = b := h1
      subst h1'
      show tDs (mk a c) (mk a d) (tDf c d)
      cases e2 : tDf c d with
      | none =>
        rw [e2] at h2
        have h2' : c = d := h2
        rw [h2']
        rfl
      | some r =>
        rw [e2] at h2
        cases r with
        | none =>
          obtain ⟨X, Y, Y', u, u', q1, q2, q3⟩ := h2
          exact ⟨40 :: (fTxt a ++ s :: X), Y ++ [41], Y' ++ [41], u, u', by rw [ht, q1]; simp, by rw [ht, q2]; simp, q3⟩
        | some r =>
          obtain ⟨x, y⟩ := r
          obtain ⟨X, Y, Y', q1, q2, q3⟩ := h2
          exact ⟨40 :: (fTxt a ++ s :: X), Y ++ [41], Y' ++ [41], by rw [ht, q1]; simp, by rw [ht, q2]; simp, q3⟩
    | some r =>
      rw [e1] at h1
      cases r with
      | none =>
        obtain ⟨X, Y, Y', u, u', q1, q2, q3⟩ := h1
        exact ⟨40 :: X, Y ++ s :: (fTxt c ++ [41]), Y' ++ s :: (fTxt d ++ [41]), u, u', by rw [ht, q1]; simp, by rw [ht, q2]; simp, q3⟩
      | some r =>
        obtain ⟨x, y⟩ := r
        obtain ⟨X, Y, Y', q1, q2, q3⟩ := h1
        exact ⟨40 :: X, Y ++ s :: (fTxt c ++ [41]), Y' ++ s :: (fTxt d ++ [41]), by rw [ht, q1]; simp, by rw [ht, q2]; simp, q3⟩
  have oth : ∀ (s s' : Nat) (mk mk' : Fo → Fo → Fo) (a b c d : Fo), s ≠ s' → (s = 118 ∨ s = 62) → (s' = 118 ∨ s' = 62) → (∀ a b, fTxt (mk a b) = 40 :: (fTxt a ++ s :: (fTxt b ++ [41]))) → (∀ a b, fTxt (mk' a b) = 40 :: (fTxt a ++ s' :: (fTxt b ++ [41]))) → tDs a b (tDf a b) → tDs (mk a c) (mk' b d) (match tDf a b with
      | none => some none
      | r => r) := by
    intro s s' mk mk' a b c d hs hs1 hs2 ht ht' h1
    cases e1 : tDf a b with
    | none =>
      rw [e1] at h1
      have h1' : a = b := h1
      subst h1'
      exact ⟨40 :: fTxt a, fTxt c ++ [41], fTxt d ++ [41], s, s', by rw [ht]; simp, by rw [ht']; simp, hs, hs1, hs2⟩
    | some r =>
      rw [e1] at h1
      cases r with
      | none =>
        obtain ⟨X, Y, Y', u, u', q1, q2, q3⟩ := h1
        exact ⟨40 :: X, Y ++ s :: (fTxt c ++ [41]), Y' ++ s' :: (fTxt d ++ [41]), u, u', by rw [ht, q1]; simp, by rw [ht', q2]; simp, q3⟩
      | some r =>
        obtain ⟨x, y⟩ := r
        obtain ⟨X, Y, Y', q1, q2, q3⟩ := h1
        exact ⟨40 :: X, Y ++ s :: (fTxt c ++ [41]), Y' ++ s' :: (fTxt d ++ [41]), by rw [ht, q1]; simp, by rw [ht', q2]; simp, q3⟩
  apply fInd
  · intro i hi g hg
    rcases fCases hg with ⟨j, hj, rfl⟩ | ⟨c, hc, rfl⟩ | ⟨c, d, hc, hd, rfl⟩ | ⟨c, d, hc, hd, rfl⟩
    · show tDs (.var i) (.var j) (if (i : Nat) = j then none else some (some (.var i, .var j)))
      by_cases e : i = j
      · rw [if_pos e]; show Int.Internal.Linear.Expr.var i = .var j; rw [e]
      · rw [if_neg e]; exact tDs_top hi hj (by show 112 + i ≠ 112 + j; omega)
    · exact tDs_top hi hc (by show 112 + i ≠ 126; omega)
    · exact tDs_top hi ⟨hc, hd⟩ (by show 112 + i ≠ 40; omega)
    · exact tDs_top hi ⟨hc, hd⟩ (by show 112 + i ≠ 40; omega)
  · intro a ha ih g hg
    rcases fCases hg with ⟨j, hj, rfl⟩ | ⟨c, hc, rfl⟩ | ⟨c, d, hc, hd, rfl⟩ | ⟨c, d, hc, hd, rfl⟩
    · exact tDs_top ha hj (by show 126 ≠ 112 + j; omega)
    · show tDs (.neg a) (.neg c) (tDf a c)
      have h1 := ih c hc
      cases e1 : tDf a c with
      | none =>
        rw [e1] at h1
        have h1' : a = c := h1
        rw [h1']
        rfl
      | some r =>
        rw [e1] at h1
        cases r with
        | none =>
          obtain ⟨X, Y, Y', u, u', q1, q2, q3⟩ := h1
          exact ⟨126 :: X, Y, Y', u, u', by rw [txt_neg, q1]; rfl, by rw [txt_neg, q2]; rfl, q3⟩
        | some r =>
          obtain ⟨x, y⟩ := r
          obtain ⟨X, Y, Y', q1, q2, q3⟩ := h1
          exact ⟨126 :: X, Y, Y', by rw [txt_neg, q1]; rfl, by rw [txt_neg, q2]; rfl, q3⟩
    · exact tDs_top ha ⟨hc, hd⟩ (by show 126 ≠ 40; omega)
    · exact tDs_top ha ⟨hc, hd⟩ (by show 126 ≠ 40; omega)
  · intro a b ha hb iha ihb g hg
    rcases fCases hg with ⟨j, hj, rfl⟩ | ⟨c, hc, rfl⟩ | ⟨c, d, hc, hd, rfl⟩ | ⟨c, d, hc, hd, rfl⟩
    · exact tDs_top ⟨ha, hb⟩ hj (by show 40 ≠ 112 + j; omega)
    · exact tDs_top ⟨ha, hb⟩ hc (by show 40 ≠ 126; omega)
    · exact one 118 .add a c b d txt_add (iha c hc) (ihb d hd)
    · exact oth 118 62 .add .sub a c b d (by omega) (Or.inl rfl) (Or.inr rfl) txt_add txt_sub (iha c hc)
  · intro a b ha hb iha ihb g hg
    rcases fCases hg with ⟨j, hj, rfl⟩ | ⟨c, hc, rfl⟩ | ⟨c, d, hc, hd, rfl⟩ | ⟨c, d, hc, hd, rfl⟩
    · exact tDs_top ⟨ha, hb⟩ hj (by show 40 ≠ 112 + j; omega)
    · exact tDs_top ⟨ha, hb⟩ hc (by show 40 ≠ 126; omega)
    · exact oth 62 118 .sub .add a c b d (by omega) (Or.inr rfl) (Or.inl rfl) txt_sub txt_add (iha c hc)
    · exact one 62 .sub a c b d txt_sub (iha c hc) (ihb d hd)
