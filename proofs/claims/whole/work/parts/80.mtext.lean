/-! THE MODEL: what lies in its row of texts -/
def Ly (T : Nat → Int32) (a : Nat) (l : List Nat) : Prop := ∀ (j c : Nat), l[j]? = some c → T (a + j) = iI c
theorem Ly.nil {T : Nat → Int32} {a : Nat} : Ly T a [] := fun j c h => by rw [List.getElem?_nil] at h; cases h
theorem Ly.hd {T : Nat → Int32} {a c : Nat} {l : List Nat} (h : Ly T a (c :: l)) : T a = iI c := h 0 c rfl
theorem Ly.tl {T : Nat → Int32} {a c : Nat} {l : List Nat} (h : Ly T a (c :: l)) : Ly T (a + 1) l := fun j d hd => by
  have := h (j + 1) d hd
  rw [← this]
  congr 1
  omega
theorem Ly.cons {T : Nat → Int32} {a c : Nat} {l : List Nat} (h1 : T a = iI c) (h2 : Ly T (a + 1) l) : Ly T a (c :: l) := fun j d hd => by
  cases j with
  | zero => cases hd; exact h1
  | succ j =>
    have := h2 j d hd
    rw [← this]
    congr 1
    omega
theorem Ly.fst {T : Nat → Int32} {a : Nat} {l m : List Nat} (h : Ly T a (l ++ m)) : Ly T a l := fun j c hc => h j c (by
  rw [List.getElem?_append_left (List.getElem?_eq_some_iff.mp hc).1]
  exact hc)
theorem Ly.snd {T : Nat → Int32} {a : Nat} {l m : List Nat} (h : Ly T a (l ++ m)) : Ly T (a + l.length) m := fun j c hc => by
  have := h (l.length + j) c (by rw [List.getElem?_append_right (by omega), Nat.add_sub_cancel_left]; exact hc)
  rw [← this]
  congr 1
  omega
theorem Ly.app {T : Nat → Int32} {a : Nat} {l m : List Nat} (h1 : Ly T a l) (h2 : Ly T (a + l.length) m) : Ly T a (l ++ m) := fun j c hc => by
  by_cases hj : j < l.length
  · rw [List.getElem?_append_left hj] at hc
    exact h1 j c hc
  · rw [List.getElem?_append_right (by omega)] at hc
    have := h2 (j - l.length) c hc
    rw [← this]
    congr 1
    omega
theorem raN {w : rW} {n len : Nat} {i : Nat} (h : i < len) (h2 : len < 2147483648) : raI w n len (iI i) = some (rA w n i) := by
  unfold raI
  rw [kIx_i (by omega) (by omega) h2]
  rfl
theorem rsN {w : rW} {n len : Nat} {i : Nat} {x : Int32} (h : i < len) (h2 : len < 2147483648) : rsI w n len (iI i) x = some (rSA w n i x) := by
  unfold rsI
  rw [kIx_i (by omega) (by omega) h2]
  rfl
theorem rA_SA_s {w : rW} {n i : Nat} {x : Int32} : rA (rSA w n i x) n i = x := if_pos ⟨rfl, rfl⟩
theorem rA_SA_o {w : rW} {n i m : Nat} {x : Int32} (h : m ≠ n) : rA (rSA w n i x) m = rA w m := funext fun j => if_neg (fun z => h z.1)
theorem rA_SA_j {w : rW} {n i j : Nat} {x : Int32} (h : j ≠ i) : rA (rSA w n i x) n j = rA w n j := if_neg (fun z => h z.2)
theorem rF_SF_s {w : rW} {j : Nat} {x : Int32} : rF (rSF w j x) j = x := if_pos rfl
theorem rF_SF_o {w : rW} {j k : Nat} {x : Int32} (h : k ≠ j) : rF (rSF w j x) k = rF w k := if_neg h
def isL (c : Nat) : Bool := decide (112 ≤ c ∧ c ≤ 117)
theorem isLetter_ok {c : Nat} (h : c < 2147483648) : fX12_isLetter (iI c) = some (iB (isL c)) := by
  unfold isL
  rw [fX12_isLetter]
  by_cases c1 : c < 112
  · rw [if_pos (by rw [iL_112, iI_lt (by omega) (by omega) (by omega) (by omega)]; omega), decide_eq_false (by omega)]
    rfl
  rw [if_neg (by rw [iL_112, iI_lt (by omega) (by omega) (by omega) (by omega)]; omega)]
  by_cases c2 : 117 < c
  · rw [if_pos (by rw [iL_117, iI_lt (by omega) (by omega) (by omega) (by omega)]; omega), decide_eq_false (by omega)]
    rfl
  · rw [if_neg (by rw [iL_117, iI_lt (by omega) (by omega) (by omega) (by omega)]; omega), decide_eq_true (by omega)]
    rfl
theorem iB_tn : ¬ iB true = 0 := by decide +kernel
theorem iB_fz : iB false = 0 := rfl
/-- lengths of texts -/
def tln (f : Fo) : Nat := (fTxt f).length
theorem tln_var (i : Nat) : tln (.var i) = 1 := rfl
theorem tln_neg (a : Fo) : tln (.neg a) = tln a + 1 := rfl
theorem tln_add (a b : Fo) : tln (.add a b) = tln a + tln b + 3 := by
  show (40 :: (fTxt a ++ 118 :: (fTxt b ++ [41]))).length = _
  simp only [List.length_cons, List.length_append, List.length_nil, tln]
  omega
theorem tln_sub (a b : Fo) : tln (.sub a b) = tln a + tln b + 3 := by
  show (40 :: (fTxt a ++ 62 :: (fTxt b ++ [41]))).length = _
  simp only [List.length_cons, List.length_append, List.length_nil, tln]
  omega
theorem lev_tl : ∀ f, fOk f → fLev f ≤ tln f ∧ 0 < tln f := by
  apply fInd
  · intro i _
    exact ⟨Nat.le_refl _, Nat.one_pos⟩
  · intro a _ h
    rw [tln_neg]
    have : fLev (.neg a) = 1 + fLev a := rfl
    omega
  · intro a b _ _ ha hb
    rw [tln_add]
    have : fLev (.add a b) = 1 + max (fLev a) (fLev b) := rfl
    omega
  · intro a b _ _ ha hb
    rw [tln_sub]
    have : fLev (.sub a b) = 1 + max (fLev a) (fLev b) := rfl
    omega
/-- a two-part text, laid -/
theorem Ly.two {T : Nat → Int32} {at' c : Nat} {a b : Fo} (h : Ly T at' (40 :: (fTxt a ++ c :: (fTxt b ++ [41])))) : T at' = iI (40 : Nat) ∧ Ly T (at' + 1) (fTxt a) ∧ T (at' + 1 + tln a) = iI c ∧ Ly T (at' + 1 + tln a + 1) (fTxt b) ∧ T (at' + 1 + tln a + 1 + tln b) = iI (41 : Nat) :=
  ⟨h.hd, h.tl.fst, h.tl.snd.hd, h.tl.snd.tl.fst, h.tl.snd.tl.snd.hd⟩
theorem Ly.var {T : Nat → Int32} {at' i : Nat} (h : Ly T at' (fTxt (.var i))) : T at' = iI (112 + i : Nat) := h.hd
theorem Ly.neg {T : Nat → Int32} {at' : Nat} {a : Fo} (h : Ly T at' (fTxt (.neg a))) : T at' = iI (126 : Nat) ∧ Ly T (at' + 1) (fTxt a) := ⟨Ly.hd (l := fTxt a) h, Ly.tl (c := 126) h⟩
theorem isLetter_var {i : Nat} (h : i < 6) : fX12_isLetter (iI (112 + i : Nat)) = some (iB true) := by
  rw [isLetter_ok (by omega), isL, decide_eq_true (by omega)]
theorem isLetter_not {c : Nat} (h : c = 126 ∨ c = 40 ∨ c = 41 ∨ c = 118 ∨ c = 62) : fX12_isLetter (iI c) = some (iB false) := by
  rw [isLetter_ok (by omega), isL, decide_eq_false (by omega)]
theorem end_ok {w : rW} : ∀ f, fOk f → ∀ (dp i : Nat), fLev f < dp → Ly (rA w 0) i (fTxt f) → i + tln f ≤ 10000 → fX12_end dp (iI i) w = some (iI (i + tln f : Nat)) := by
  have e1 : ∀ n : Nat, iI (n : Int) + 1 = iI (n + 1 : Nat) := fun n => by rw [iL_1, iI_add]; rfl
  have two : ∀ (a b : Fo) (c : Nat), (∀ (dp i : Nat), fLev a < dp → Ly (rA w 0) i (fTxt a) → i + tln a ≤ 10000 → fX12_end dp (iI i) w = some (iI (i + tln a : Nat))) → (∀ (dp i : Nat), fLev b < dp → Ly (rA w 0) i (fTxt b) → i + tln b ≤ 10000 → fX12_end dp (iI i) w = some (iI (i + tln b : Nat))) → ∀ (dp i : Nat), 1 + max (fLev a) (fLev b) < dp → Ly (rA w 0) i (40 :: (fTxt a ++ c :: (fTxt b ++ [41]))) → i + (tln a + tln b + 3) ≤ 10000 → fX12_end dp (iI i) w = some (iI (i + (tln a + tln b + 3) : Nat)) := by
    intro a b c ha hb dp i hd h hi
    obtain ⟨dp, rfl⟩ : ∃ g, dp = g + 1 := ⟨dp - 1, by omega⟩
    obtain ⟨q1, q2, q3, q4, q5⟩ := h.two
    rw [fX12_end, raN (by omega) (by omega), Option.bind_some, q1, isLetter_not (by omega), Option.bind_some, if_pos iB_fz, if_neg (by decide +kernel), e1, ha dp (i + 1) (by omega) q2 (by omega), Option.bind_some, e1, hb dp _ (by omega) q4 (by omega), Option.bind_some, e1]
    congr 3
    omega
  apply fInd
  · intro i hi dp j hd h hj
    obtain ⟨dp, rfl⟩ : ∃ g, dp = g + 1 := ⟨dp - 1, by omega⟩
    rw [tln_var] at hj ⊢
    rw [fX12_end, raN (by omega) (by omega), Option.bind_some, h.var, isLetter_var hi, Option.bind_some, if_neg iB_tn, e1]
  · intro a _ ih dp j hd h hj
    obtain ⟨dp, rfl⟩ : ∃ g, dp = g + 1 := ⟨dp - 1, by omega⟩
    have hd' : 1 + fLev a < dp + 1 := hd
    rw [tln_neg] at hj ⊢
    obtain ⟨q1, q2⟩ := h.neg
    rw [fX12_end, raN (by omega) (by omega), Option.bind_some, q1, isLetter_not (by omega), Option.bind_some, if_pos iB_fz, if_pos (by decide +kernel), e1, ih dp (j + 1) (by omega) q2 (by omega), Option.bind_some]
    congr 3
    omega
  · intro a b _ _ ha hb dp i hd h hi
    rw [tln_add] at hi ⊢
    exact two a b 118 ha hb dp i hd h hi
  · intro a b _ _ ha hb dp i hd h hi
    rw [tln_sub] at hi ⊢
    exact two a b 62 ha hb dp i hd h hi
theorem endD {w : rW} {f : Fo} (hf : fOk f) {i : Nat} (h : Ly (rA w 0) i (fTxt f)) (hi : i + tln f ≤ 10000) (hd : fLev f < 400) : fX12_end kDP (iI i) w = some (iI (i + tln f : Nat)) := end_ok f hf kDP i hd h hi
theorem levels_ok {w : rW} : ∀ f, fOk f → ∀ (dp i : Nat), fLev f < dp → fLev f < 400 → Ly (rA w 0) i (fTxt f) → i + tln f ≤ 10000 → fX12_levels dp (iI i) w = some (iI (fLev f)) := by
  have e1 : ∀ n : Nat, iI (n : Int) + 1 = iI (n + 1 : Nat) := fun n => by rw [iL_1, iI_add]; rfl
  have two : ∀ (a b : Fo) (c : Nat), fOk a → fOk b → (∀ (dp i : Nat), fLev a < dp → fLev a < 400 → Ly (rA w 0) i (fTxt a) → i + tln a ≤ 10000 → fX12_levels dp (iI i) w = some (iI (fLev a))) → (∀ (dp i : Nat), fLev b < dp → fLev b < 400 → Ly (rA w 0) i (fTxt b) → i + tln b ≤ 10000 → fX12_levels dp (iI i) w = some (iI (fLev b))) → ∀ (dp i : Nat), 1 + max (fLev a) (fLev b) < dp → 1 + max (fLev a) (fLev b) < 400 → Ly (rA w 0) i (40 :: (fTxt a ++ c :: (fTxt b ++ [41]))) → i + (tln a + tln b + 3) ≤ 10000 → fX12_levels dp (iI i) w = some (iI (1 + max (fLev a) (fLev b) : Nat)) := by
    intro a b c oa ob ha hb dp i hd h4 h hi
    obtain ⟨dp, rfl⟩ : ∃ g, dp = g + 1 := ⟨dp - 1, by omega⟩
    obtain ⟨q1, q2, q3, q4, q5⟩ := h.two
    rw [fX12_levels, raN (by omega) (by omega), Option.bind_some, q1, isLetter_not (by omega), Option.bind_some, if_pos iB_fz, Option.bind_some, if_neg (by decide +kernel), e1, ha dp (i + 1) (by omega) (by omega) q2 (by omega), Option.bind_some, endD oa q2 (by omega) (by omega), Option.bind_some, e1, hb dp _ (by omega) (by omega) q4 (by omega), Option.bind_some]
    by_cases cm : fLev a ≤ fLev b
    · rw [if_pos (by rw [iI_le (by omega) (by omega) (by omega) (by omega)]; omega), iL_1, iI_add]
      congr 2
      omega
    · rw [if_neg (by rw [iI_le (by omega) (by omega) (by omega) (by omega)]; omega), iL_1, iI_add]
      congr 2
      omega
  apply fInd
  · intro i hi dp j hd h4 h hj
    obtain ⟨dp, rfl⟩ : ∃ g, dp = g + 1 := ⟨dp - 1, by omega⟩
    rw [tln_var] at hj
    rw [fX12_levels, raN (by omega) (by omega), Option.bind_some, h.var, isLetter_var hi, Option.bind_some, if_neg iB_tn]
    rfl
  · intro a _ ih dp j hd h4 h hj
    obtain ⟨dp, rfl⟩ : ∃ g, dp = g + 1 := ⟨dp - 1, by omega⟩
    have hd' : 1 + fLev a < dp + 1 := hd
    have hd4 : 1 + fLev a < 400 := h4
    rw [tln_neg] at hj
    obtain ⟨q1, q2⟩ := h.neg
    rw [fX12_levels, raN (by omega) (by omega), Option.bind_some, q1, isLetter_not (by omega), Option.bind_some, if_pos iB_fz, Option.bind_some, if_pos (by decide +kernel), e1, ih dp (j + 1) (by omega) (by omega) q2 (by omega), Option.bind_some, iL_1, iI_add]
    rfl
  · intro a b oa ob ha hb dp i hd h4 h hi
    rw [tln_add] at hi
    exact two a b 118 oa ob ha hb dp i hd h4 h hi
  · intro a b oa ob ha hb dp i hd h4 h hi
    rw [tln_sub] at hi
    exact two a b 62 oa ob ha hb dp i hd h4 h hi
/-! counts over a text -/
def noP (c : Nat) : Bool := decide (c ≠ 40 ∧ c ≠ 41)
theorem sizeL_ok {w : rW} (x1 : Int32) {x2 : Nat} (K : Int32 → Int32 → Option Int32) : ∀ (l : List Nat) (fu n i : Nat), l.length < fu → (∀ c ∈ l, c < 128) → Ly (rA w 0) i l → i + l.length = x2 → x2 ≤ 10000 → fX12_sizeOf_L5 x1 (iI x2) w fu K (iI n) (iI i) = K (iI (n + l.countP noP : Nat)) (iI x2) := by
  intro l
  induction l with
  | nil =>
    intro fu n i hf _ _ hi h0
    obtain ⟨fu, rfl⟩ : ∃ g, fu = g + 1 := ⟨fu - 1, by omega⟩
    have hi' : i = x2 := hi
    rw [fX12_sizeOf_L5, if_pos (by rw [iI_le (by omega) (by omega) (by omega) (by omega)]; omega), hi']
    rfl
  | cons c l ih =>
    intro fu n i hf hc h hi h0
    rw [List.length_cons] at hf hi
    obtain ⟨fu, rfl⟩ : ∃ g, fu = g + 1 := ⟨fu - 1, by omega⟩
    have hcc := hc c List.mem_cons_self
    have hr := fun n => ih fu n (i + 1) (by omega) (fun d hd => hc d (List.mem_cons_of_mem _ hd)) h.tl (by omega) h0
    have e1 : iI (i : Int) + 1 = iI (i + 1 : Nat) := by rw [iL_1, iI_add]; rfl
    rw [fX12_sizeOf_L5, if_neg (by rw [iI_le (by omega) (by omega) (by omega) (by omega)]; omega), raN (by omega) (by omega), Option.bind_some, h.hd, Option.bind_some, e1, List.countP_cons]
    by_cases c1 : c = 40
    · rw [if_pos (by rw [c1]; rfl), iL_0, iI_add, Int.add_zero, hr, if_neg (by rw [c1]; decide)]
      rfl
    rw [if_neg (by rw [iL_40, iI_eq (by omega) (by omega) (by omega) (by omega)]; omega)]
    by_cases c2 : c = 41
    · rw [if_pos (by rw [c2]; rfl), iL_0, iI_add, Int.add_zero, hr, if_neg (by rw [c2]; decide)]
      rfl
    · rw [if_neg (by rw [iL_41, iI_eq (by omega) (by omega) (by omega) (by omega)]; omega), iL_1, iI_add, show (n : Int) + 1 = ((n + 1 : Nat) : Int) by omega, hr, if_pos (by unfold noP; exact decide_eq_true ⟨c1, c2⟩)]
      congr 2
      omega
theorem size_ok {w : rW} {l : List Nat} {i : Nat} (hc : ∀ c ∈ l, c < 128) (h : Ly (rA w 0) i l) (hi : i + l.length ≤ 10000) : fX12_sizeOf (iI i) (iI (i + l.length : Nat)) w = some (iI (l.countP noP : Nat)) := by
  have := sizeL_ok (iI i) (x2 := i + l.length) (fun y _ => some y) l kFU 0 i (by unfold kFU; omega) hc h rfl hi
  rw [Nat.zero_add] at this
  rw [fX12_sizeOf]
  exact this
theorem placeL_ok {w : rW} (x1 : Int32) {x2 : Nat} (K : Int32 → Int32 → Option Int32) : ∀ (l : List Nat) (fu n i : Nat), l.length < fu → (∀ c ∈ l, c < 128) → Ly (rA w 0) i l → i + l.length = x2 → x2 ≤ 10000 → fX12_places_L5 x1 (iI x2) w fu K (iI n) (iI i) = K (iI (n + l.countP isL : Nat)) (iI x2) := by
  intro l
  induction l with
  | nil =>
    intro fu n i hf _ _ hi h0
    obtain ⟨fu, rfl⟩ : ∃ g, fu = g + 1 := ⟨fu - 1, by omega⟩
    have hi' : i = x2 := hi
    rw [fX12_places_L5, if_pos (by rw [iI_le (by omega) (by omega) (by omega) (by omega)]; omega), hi']
    rfl
  | cons c l ih =>
    intro fu n i hf hc h hi h0
    rw [List.length_cons] at hf hi
    obtain ⟨fu, rfl⟩ : ∃ g, fu = g + 1 := ⟨fu - 1, by omega⟩
    have hcc := hc c List.mem_cons_self
    have hr := fun n => ih fu n (i + 1) (by omega) (fun d hd => hc d (List.mem_cons_of_mem _ hd)) h.tl (by omega) h0
    have e1 : iI (i : Int) + 1 = iI (i + 1 : Nat) := by rw [iL_1, iI_add]; rfl
    rw [fX12_places_L5, if_neg (by rw [iI_le (by omega) (by omega) (by omega) (by omega)]; omega), raN (by omega) (by omega), Option.bind_some, h.hd, isLetter_ok (by omega), Option.bind_some, e1, List.countP_cons]
    cases hL : isL c with
    | false =>
      rw [if_pos iB_fz, iL_0, iI_add, Int.add_zero, hr, if_neg (by simp)]
      rfl
    | true =>
      rw [if_neg iB_tn, iL_1, iI_add, show (n : Int) + 1 = ((n + 1 : Nat) : Int) by omega, hr, if_pos rfl]
      congr 2
      omega
theorem place_ok {w : rW} {l : List Nat} {i : Nat} (hc : ∀ c ∈ l, c < 128) (h : Ly (rA w 0) i l) (hi : i + l.length ≤ 10000) : fX12_places (iI i) (iI (i + l.length : Nat)) w = some (iI (l.countP isL : Nat)) := by
  have := placeL_ok (iI i) (x2 := i + l.length) (fun y _ => some y) l kFU 0 i (by unfold kFU; omega) hc h rfl hi
  rw [Nat.zero_add] at this
  rw [fX12_places]
  exact this
def lSet (l : List Nat) (s : Nat) : Nat := l.foldl (fun s c => if isL c = true then s ||| 2 ^ (c - 112) else s) s
theorem lSet_lt : ∀ (l : List Nat) (s : Nat), s < 64 → lSet l s < 64 := by
  intro l
  induction l with
  | nil => exact fun s h => h
  | cons c l ih =>
    intro s h
    show lSet l (if isL c = true then s ||| 2 ^ (c - 112) else s) < 64
    apply ih
    split
    · rename_i q
      have q' : 112 ≤ c ∧ c ≤ 117 := of_decide_eq_true q
      have h2 : 2 ^ (c - 112) < 2 ^ 6 := Nat.pow_lt_pow_right (by decide) (by omega)
      exact Nat.or_lt_two_pow (n := 6) h h2
    · exact h
theorem or_64 : ∀ s : Nat, s < 64 → ∀ k : Nat, k < 6 → iI (s : Int) ||| ((1 : Int32) <<< ((iI (112 + k : Nat) - (112 : Int32)) &&& 31)) = iI (s ||| 2 ^ k : Nat) := by decide +kernel
theorem or_0 : ∀ s : Nat, s < 64 → iI (s : Int) ||| (0 : Int32) = iI s := by decide +kernel
theorem lettersL_ok {w : rW} (x1 : Int32) {x2 : Nat} (K : Int32 → Int32 → Option Int32) : ∀ (l : List Nat) (fu n i : Nat), l.length < fu → n < 64 → (∀ c ∈ l, c < 128) → Ly (rA w 0) i l → i + l.length = x2 → x2 ≤ 10000 → fX12_letters_L5 x1 (iI x2) w fu K (iI n) (iI i) = K (iI (lSet l n : Nat)) (iI x2) := by
  intro l
  induction l with
  | nil =>
    intro fu n i hf _ _ _ hi h0
    obtain ⟨fu, rfl⟩ : ∃ g, fu = g + 1 := ⟨fu - 1, by omega⟩
    have hi' : i = x2 := hi
    rw [fX12_letters_L5, if_pos (by rw [iI_le (by omega) (by omega) (by omega) (by omega)]; omega), hi']
    rfl
  | cons c l ih =>
    intro fu n i hf hn hc h hi h0
    rw [List.length_cons] at hf hi
    obtain ⟨fu, rfl⟩ : ∃ g, fu = g + 1 := ⟨fu - 1, by omega⟩
    have hcc := hc c List.mem_cons_self
    have hr := fun n hn => ih fu n (i + 1) (by omega) hn (fun d hd => hc d (List.mem_cons_of_mem _ hd)) h.tl (by omega) h0
    have e1 : iI (i : Int) + 1 = iI (i + 1 : Nat) := by rw [iL_1, iI_add]; rfl
    have es : lSet (c :: l) n = lSet l (if isL c = true then n ||| 2 ^ (c - 112) else n) := rfl
    rw [fX12_letters_L5, if_neg (by rw [iI_le (by omega) (by omega) (by omega) (by omega)]; omega), raN (by omega) (by omega), Option.bind_some, h.hd, isLetter_ok (by omega), Option.bind_some, e1, es, Option.bind_some, Option.bind_some]
    cases hL : isL c with
    | false => rw [if_pos iB_fz, or_0 n hn, hr n hn, if_neg (by simp)]
    | true =>
      have q' : 112 ≤ c ∧ c ≤ 117 := of_decide_eq_true hL
      have hlt : (n ||| 2 ^ (c - 112)) < 64 := by
        have h2 : 2 ^ (c - 112) < 2 ^ 6 := Nat.pow_lt_pow_right (by decide) (by omega)
        exact Nat.or_lt_two_pow (n := 6) hn h2
      have e := or_64 n hn (c - 112) (by omega)
      rw [show 112 + (c - 112) = c by omega] at e
      rw [if_neg iB_tn, e, hr _ hlt, if_pos rfl]
theorem letters_ok {w : rW} {l : List Nat} {i : Nat} (hc : ∀ c ∈ l, c < 128) (h : Ly (rA w 0) i l) (hi : i + l.length ≤ 10000) : fX12_letters (iI i) (iI (i + l.length : Nat)) w = some (iI (lSet l 0 : Nat)) := by
  have := lettersL_ok (iI i) (x2 := i + l.length) (fun y _ => some y) l kFU 0 i (by unfold kFU; omega) (by omega) hc h rfl hi
  rw [fX12_letters]
  exact this
