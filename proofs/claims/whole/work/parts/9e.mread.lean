/-! THE MODEL: how a text is read -/
def sg (t : List Int) (i : Nat) : Int := (t[i]?).getD (-1000)
def Rx (w : rW) (d : Nat) (t : List Int) : Prop := d < 8 ∧ t.length ≤ 120 ∧ rF w 13 = iI (120 * d : Nat) ∧ rF w 14 = iI t.length ∧ (∀ (j : Nat) (c : Int), t[j]? = some c → rA w 7 (120 * d + j) = iI c) ∧ ∀ c ∈ t, -128 ≤ c ∧ c < 128
def Wk (w : rW) (i : Nat) : rW := rSF w 12 (iI i)
theorem rSF_SF {w : rW} {j : Nat} {a b : Int32} : rSF (rSF w j a) j b = rSF w j b := by
  show rMk (fun k => if k = j then b else (fun k => if k = j then a else rF w k) k) (rA w) = rMk (fun k => if k = j then b else rF w k) (rA w)
  congr 1
  funext k
  by_cases e : k = j
  · rw [if_pos e, if_pos e]
  · rw [if_neg e, if_neg e]
    exact if_neg e
theorem Wk_to {w : rW} {i j : Nat} : rSF (Wk w i) 12 (iI j) = Wk w j := rSF_SF
theorem sg_bd {w : rW} {d : Nat} {t : List Int} (h : Rx w d t) (i : Nat) : -1000 ≤ sg t i ∧ sg t i < 128 := by
  unfold sg
  cases e : t[i]? with
  | none => exact ⟨by show (-1000 : Int) ≤ -1000; omega, by show (-1000 : Int) < 128; omega⟩
  | some c => have := h.2.2.2.2.2 c (List.mem_of_getElem? e); exact ⟨by show (-1000 : Int) ≤ c; omega, this.2⟩
theorem sign_ok {w : rW} {d : Nat} {t : List Int} (h : Rx w d t) (i : Nat) (hi : i ≤ 120) : fX12_sign (Wk w i) = some (iI (sg t i)) := by
  obtain ⟨hd, ht, h13, h14, h7, -⟩ := h
  have e12 : rF (Wk w i) 12 = iI i := rF_SF_s
  have e13 : rF (Wk w i) 13 = iI (120 * d : Nat) := (rF_SF_o (by omega)).trans h13
  have e14 : rF (Wk w i) 14 = iI t.length := (rF_SF_o (by omega)).trans h14
  have e7 : rA (Wk w i) = rA w := rfl
  rw [fX12_sign, e12, e13, e14]
  unfold sg
  by_cases c : t.length ≤ i
  · rw [if_pos (by rw [iI_le (by omega) (by omega) (by omega) (by omega)]; omega), List.getElem?_eq_none c]
    exact congrArg some (by decide +kernel)
  · have e := List.getElem?_eq_getElem (show i < t.length by omega)
    rw [if_neg (by rw [iI_le (by omega) (by omega) (by omega) (by omega)]; omega), iI_add, show ((120 * d : Nat) : Int) + (i : Int) = ((120 * d + i : Nat) : Int) by omega, raN (by omega) (by omega), Option.bind_some, e7, h7 i _ e, e]
    rfl
theorem isLetI {c : Int} (h : I32 c) : fX12_isLetter (iI c) = some (iB (decide (112 ≤ c ∧ c ≤ 117))) := by
  obtain ⟨c0, c1⟩ := h
  rw [fX12_isLetter]
  by_cases c1 : c < 112
  · rw [if_pos (by rw [iL_112, iI_lt (by omega) (by omega) (by omega) (by omega)]; omega), decide_eq_false (by omega)]
    rfl
  rw [if_neg (by rw [iL_112, iI_lt (by omega) (by omega) (by omega) (by omega)]; omega)]
  by_cases c2 : 117 < c
  · rw [if_pos (by rw [iL_117, iI_lt (by omega) (by omega) (by omega) (by omega)]; omega), decide_eq_false (by omega)]
    rfl
  · rw [if_neg (by rw [iL_117, iI_lt (by omega) (by omega) (by omega) (by omega)]; omega), decide_eq_true (by omega)]
    rfl
theorem iI_is {a : Int} (ha : -1000 ≤ a ∧ a ≤ 100000) (n : Nat) (hn : n < 100000) : (iI a = iI n) = (a = n) := iI_eq (by omega) (by omega) (by omega) (by omega)
theorem takes_ok {w : rW} {d : Nat} {t : List Int} (h : Rx w d t) {i : Nat} (hi : i ≤ 60) {c : Nat} (hc : c < 128) : fX12_takes (iI c) (Wk w i) = if i = 60 ∨ sg t i ≠ c then some (0, Wk w i) else some (1, Wk w (i + 1)) := by
  have b := sg_bd h i
  have e12 : rF (Wk w i) 12 = iI i := rF_SF_s
  have c60 : (60 : Int32) = iI ((60 : Nat) : Int) := by decide +kernel
  rw [fX12_takes, e12, sign_ok h i (by omega), c60]
  by_cases c1 : i = 60
  · rw [if_pos (by rw [c1]), if_pos (Or.inl c1)]
  rw [if_neg (by rw [iI_eq (by omega) (by omega) (by omega) (by omega)]; omega), Option.bind_some]
  by_cases c2 : sg t i = c
  · rw [if_pos (by rw [c2]), if_neg (by rintro (z | z); exact c1 z; exact z c2), rpN, Option.bind_some, iL_1, iI_add, show (i : Int) + 1 = ((i + 1 : Nat) : Int) by omega, Wk_to]
  · rw [if_neg (by rw [iI_is (by omega) c (by omega)]; exact c2), if_pos (Or.inr c2)]
theorem rl_stop {w : rW} {d : Nat} {t : List Int} (h : Rx w d t) {dp o i : Nat} (ho : o ≤ 12) (hi : i ≤ 60) (c1 : i = 60 ∨ ¬ (112 ≤ sg t i ∧ sg t i ≤ 117)) (c2 : i = 60 ∨ o = 12 ∨ (sg t i ≠ 126 ∧ sg t i ≠ 40)) : fX12_readsLine (dp + 1) (iI o) (Wk w i) = some (0, Wk w i) := by
  have b := sg_bd h i
  have e12 : rF (Wk w i) 12 = iI i := rF_SF_s
  have n126 : ∀ {α : Type} (a b : α), sg t i ≠ 126 → (if iI (sg t i) = (126 : Int32) then a else b) = b := fun a b z => if_neg (by rw [iL_126, iI_eq (by omega) (by omega) (by omega) (by omega)]; exact z)
  have n40 : ∀ {α : Type} (a b : α), sg t i ≠ 40 → (if iI (sg t i) = (40 : Int32) then a else b) = b := fun a b z => if_neg (by rw [iL_40, iI_eq (by omega) (by omega) (by omega) (by omega)]; exact z)
  have p126 : ∀ {α : Type} (a b : α), sg t i = 126 → (if iI (sg t i) = (126 : Int32) then a else b) = a := fun a b z => if_pos (by rw [z]; rfl)
  have p40 : ∀ {α : Type} (a b : α), sg t i = 40 → (if iI (sg t i) = (40 : Int32) then a else b) = a := fun a b z => if_pos (by rw [z]; rfl)
  have n12 : ∀ {α : Type} (a b : α), o ≠ 12 → (if iI (o : Int) = (12 : Int32) then a else b) = b := fun a b z => if_neg (by rw [iL_12, iI_eq (by omega) (by omega) (by omega) (by omega)]; omega)
  have p12 : ∀ {α : Type} (a b : α), o = 12 → (if iI (o : Int) = (12 : Int32) then a else b) = a := fun a b z => if_pos (by rw [z]; rfl)
  have n60 : ∀ {α : Type} (a b : α), i ≠ 60 → (if iI (i : Int) = (60 : Int32) then a else b) = b := fun a b z => if_neg (by rw [iL_60, iI_eq (by omega) (by omega) (by omega) (by omega)]; omega)
  have p60 : ∀ {α : Type} (a b : α), i = 60 → (if iI (i : Int) = (60 : Int32) then a else b) = a := fun a b z => if_pos (by rw [z]; rfl)
  rw [fX12_readsLine, e12, sign_ok h i (by omega)]
  by_cases c60 : i = 60
  · rw [if_pos (by rw [iL_60, iI_le (by omega) (by omega) (by omega) (by omega)]; omega), Option.bind_some]
    by_cases a : sg t i = 126
    · rw [p126 _ _ a]
      by_cases z : o = 12
      · rw [p12 _ _ z]
      · rw [n12 _ _ z, p60 _ _ c60]
    · rw [n126 _ _ a]
      by_cases a2 : sg t i = 40
      · rw [p40 _ _ a2]
        by_cases z : o = 12
        · rw [p12 _ _ z]
        · rw [n12 _ _ z, p60 _ _ c60]
      · rw [n40 _ _ a2]
  · have c1' : ¬ (112 ≤ sg t i ∧ sg t i ≤ 117) := c1.resolve_left c60
    rw [if_neg (by rw [iL_60, iI_le (by omega) (by omega) (by omega) (by omega)]; omega), Option.bind_some, isLetI ⟨by omega, by omega⟩, Option.bind_some, decide_eq_false c1', if_pos iB_fz, Option.bind_some]
    rcases c2.resolve_left c60 with z | ⟨z1, z2⟩
    · by_cases a : sg t i = 126
      · rw [p126 _ _ a, p12 _ _ z]
      · rw [n126 _ _ a]
        by_cases a2 : sg t i = 40
        · rw [p40 _ _ a2, p12 _ _ z]
        · rw [n40 _ _ a2]
    · rw [n126 _ _ z1, n40 _ _ z2]
theorem rl_let {w : rW} {d : Nat} {t : List Int} (h : Rx w d t) {dp i : Nat} (o : Int32) (hi : i < 60) (c : 112 ≤ sg t i ∧ sg t i ≤ 117) : fX12_readsLine (dp + 1) o (Wk w i) = some (1, Wk w (i + 1)) := by
  have e12 : rF (Wk w i) 12 = iI i := rF_SF_s
  rw [fX12_readsLine, e12, sign_ok h i (by omega), if_neg (by rw [iL_60, iI_le (by omega) (by omega) (by omega) (by omega)]; omega), Option.bind_some, isLetI ⟨by omega, by omega⟩, Option.bind_some, decide_eq_true c, if_neg iB_tn, rpN, Option.bind_some, iL_1, iI_add, show (i : Int) + 1 = ((i + 1 : Nat) : Int) by omega, Wk_to]
noncomputable def rT2 (dp o : Nat) (w : rW) : Option (Int32 × rW) := kb2 (fX12_readsLine dp (iI o) w) fun v12 w10 =>
  if v12 = 0 then
  some ((0 : Int32), w10)
  else
  kb2 (fX12_takes (41 : Int32) w10) fun v15 w13 =>
  if v15 = 0 then
  some ((0 : Int32), w13)
  else
  some ((1 : Int32), w13)
noncomputable def rT1 (dp o : Nat) (w : rW) : Option (Int32 × rW) := kb2 (fX12_readsLine dp (iI o) w) fun v6 w4 =>
  if v6 = 0 then
  some ((0 : Int32), w4)
  else
  kb2 (fX12_takes (118 : Int32) w4) fun v9 w7 =>
  if v9 = 0 then
  kb2 (fX12_takes (62 : Int32) w7) fun v18 w16 =>
  if v18 = 0 then
  some ((0 : Int32), w16)
  else
  rT2 dp o w16
  else
  rT2 dp o w7
theorem rl_go {w : rW} {d : Nat} {t : List Int} (h : Rx w d t) {dp o i : Nat} (ho : o < 12) (hi : i < 60) : (sg t i = 126 → fX12_readsLine (dp + 1) (iI o) (Wk w i) = kb2 (fX12_readsLine dp (iI (o + 1 : Nat)) (Wk w (i + 1))) fun v w5 => (kBl v).bind fun v8 => some (v8, w5)) ∧ (sg t i = 40 → fX12_readsLine (dp + 1) (iI o) (Wk w i) = rT1 dp (o + 1) (Wk w (i + 1))) := by
  have e12 : rF (Wk w i) 12 = iI i := rF_SF_s
  have eo : iI (o : Int) + (1 : Int32) = iI (o + 1 : Nat) := by rw [iL_1, iI_add]; rfl
  have n12 : ∀ {α : Type} (a b : α), (if iI (o : Int) = (12 : Int32) then a else b) = b := fun a b => if_neg (by rw [iL_12, iI_eq (by omega) (by omega) (by omega) (by omega)]; omega)
  have n60 : ∀ {α : Type} (a b : α), (if iI (i : Int) = (60 : Int32) then a else b) = b := fun a b => if_neg (by rw [iL_60, iI_eq (by omega) (by omega) (by omega) (by omega)]; omega)
  have go : ∀ c : Int, sg t i = c → (c = 126 ∨ c = 40) → fX12_readsLine (dp + 1) (iI o) (Wk w i) = if iI c = (126 : Int32) then kb2 (fX12_readsLine dp (iI (o + 1 : Nat)) (Wk w (i + 1))) (fun v w5 => (kBl v).bind fun v8 => some (v8, w5)) else rT1 dp (o + 1) (Wk w (i + 1)) := by
    intro c hc cc
    rw [fX12_readsLine, e12, sign_ok h i (by omega), if_neg (by rw [iL_60, iI_le (by omega) (by omega) (by omega) (by omega)]; omega), Option.bind_some, isLetI (by rw [hc]; unfold I32; omega), Option.bind_some, hc, decide_eq_false (by omega), if_pos iB_fz, Option.bind_some]
    rcases cc with rfl | rfl
    · rw [if_pos (show iI 126 = (126 : Int32) by decide +kernel), n12, n60, rpN, Option.bind_some, eo, if_pos (show iI 126 = (126 : Int32) by decide +kernel), if_pos (show iI 126 = (126 : Int32) by decide +kernel), iL_1, iI_add, show (i : Int) + 1 = ((i + 1 : Nat) : Int) by omega, Wk_to]
    · rw [if_neg (show ¬ iI 40 = (126 : Int32) by decide +kernel), if_pos (show iI 40 = (40 : Int32) by decide +kernel), n12, n60, rpN, Option.bind_some, eo, if_neg (show ¬ iI 40 = (126 : Int32) by decide +kernel), if_neg (show ¬ iI 40 = (126 : Int32) by decide +kernel), iL_1, iI_add, show (i : Int) + 1 = ((i + 1 : Nat) : Int) by omega, Wk_to]
      rfl
  constructor
  · intro hc
    rw [go 126 hc (Or.inl rfl), if_pos (show iI 126 = (126 : Int32) by decide +kernel)]
  · intro hc
    rw [go 40 hc (Or.inr rfl), if_neg (show ¬ iI 40 = (126 : Int32) by decide +kernel)]
theorem drop_nil {t : List Int} {i : Nat} (h : [] = t.drop i) : sg t i = -1000 := by
  have : t.length ≤ i := List.drop_eq_nil_iff.mp h.symm
  unfold sg
  rw [List.getElem?_eq_none this]
  rfl
theorem drop_cons {t : List Int} {i : Nat} {c : Int} {l : List Int} (h : c :: l = t.drop i) : sg t i = c ∧ l = t.drop (i + 1) ∧ i < t.length := by
  have hi : i < t.length := by
    have := congrArg List.length h
    rw [List.length_cons, List.length_drop] at this
    omega
  rw [List.drop_eq_getElem_cons hi] at h
  obtain ⟨h1, h2⟩ := List.cons.inj h
  refine ⟨?_, h2, hi⟩
  unfold sg
  rw [List.getElem?_eq_getElem hi, h1]
  rfl
def RdR (w : rW) (t : List Int) (n dp i : Nat) (x : Sum Nat (Fo × List Int × Nat)) : Prop := (∀ j, x = .inl j → fX12_readsLine dp (iI (13 - n : Nat)) (Wk w i) = some (0, Wk w j)) ∧ ∀ f r j, x = .inr (f, r, j) → fX12_readsLine dp (iI (13 - n : Nat)) (Wk w i) = some (1, Wk w j) ∧ r = t.drop j ∧ j ≤ 60 ∧ j ≤ t.length
theorem rd_ok {w : rW} {d : Nat} {t : List Int} (h : Rx w d t) : ∀ n dp i l, 0 < n → n ≤ 13 → n ≤ dp → l = t.drop i → i ≤ 60 → i ≤ t.length → RdR w t n dp i (pL n l i) := by
  have c118 : (118 : Int32) = iI ((118 : Nat) : Int) := by decide +kernel
  have c62 : (62 : Int32) = iI ((62 : Nat) : Int) := by decide +kernel
  have c41 : (41 : Int32) = iI ((41 : Nat) : Int) := by decide +kernel
  have stop : ∀ {n dp i k : Nat} {e : Int32 × rW}, k = i → fX12_readsLine dp (iI (13 - n : Nat)) (Wk w i) = some (0, Wk w i) → RdR w t n dp i (.inl k) := by
    intro n dp i k e hk he
    subst hk
    exact ⟨fun j z => by rw [← Sum.inl.inj z]; exact he, fun f r j z => by cases z⟩
  intro n
  induction n with
  | zero => intro dp i l h0; omega
  | succ n ih =>
    intro dp i l _ h13 hdp hl hi hit
    obtain ⟨dp, rfl⟩ : ∃ z, dp = z + 1 := ⟨dp - 1, by omega⟩
    have eo : 13 - (n + 1) = 12 - n := by omega
    cases l with
    | nil =>
      have e := drop_nil hl
      exact stop (e := (0, w)) rfl (by rw [eo]; exact rl_stop h (by omega) hi (Or.inr (by omega)) (Or.inr (Or.inr (by omega))))
    | cons c l' =>
      obtain ⟨e, el, hlt⟩ := drop_cons hl
      rw [pL_cons]
      by_cases c60 : 60 ≤ i
      · rw [if_pos c60]
        exact stop (e := (0, w)) rfl (by rw [eo]; exact rl_stop h (by omega) hi (Or.inl (by omega)) (Or.inl (by omega)))
      rw [if_neg c60]
      by_cases cl : 112 ≤ c ∧ c ≤ 117
      · rw [if_pos cl]
        refine ⟨fun j z => (by cases z), fun f r j z => ?_⟩
        cases z
        exact ⟨rl_let h _ (by omega) (by omega), el, by omega, by omega⟩
      rw [if_neg cl]
      by_cases c0 : n = 0
      · rw [if_pos c0]
        exact stop (e := (0, w)) rfl (by rw [eo]; exact rl_stop h (by omega) hi (Or.inr (by rw [e]; exact cl)) (Or.inr (Or.inl (by omega))))
      rw [if_neg c0]
      obtain ⟨g1, g2⟩ := rl_go h (dp := dp) (o := 12 - n) (i := i) (by omega) (by omega)
      rw [show 12 - n + 1 = 13 - n by omega] at g1 g2
      have hr := ih dp (i + 1) l' (by omega) (by omega) (by omega) el (by omega) (by omega)
      by_cases c1 : c = 126
      · rw [if_pos c1]
        have g := g1 (e.trans c1)
        cases hp : pL n l' (i + 1) with
        | inl k =>
          refine ⟨fun j z => ?_, fun f r j z => (by cases z)⟩
          have ek : k = j := Sum.inl.inj z
          rw [eo, g, hr.1 k hp, kb2_s, kBl_0, ek]
          rfl
        | inr q =>
          obtain ⟨g', r0, k⟩ := q
          refine ⟨fun j z => (by cases z), fun f r j z => ?_⟩
          cases z
          obtain ⟨q1, q2⟩ := hr.2 g' r0 k hp
          exact ⟨by rw [eo, g, q1, kb2_s, kBl_1]; rfl, q2⟩
      rw [if_neg c1]
      by_cases c2 : c = 40
      · rw [if_pos c2]
        have g := g2 (e.trans c2)
        cases hp : pL n l' (i + 1) with
        | inl k =>
          refine ⟨fun j z => ?_, fun f r j z => (by cases z)⟩
          have ek : k = j := Sum.inl.inj z
          rw [eo, g, rT1, hr.1 k hp, kb2_s, if_pos rfl, ek]
        | inr q =>
          obtain ⟨g', r0, k⟩ := q
          obtain ⟨q1, q2, q3, q4⟩ := hr.2 g' r0 k hp
          have g3 : fX12_readsLine (dp + 1) (iI (12 - n : Nat)) (Wk w i) = kb2 (fX12_takes (118 : Int32) (Wk w k)) fun v9 w7 =>
                  if v9 = 0 then
                  kb2 (fX12_takes (62 : Int32) w7) fun v18 w16 =>
                  if v18 = 0 then
                  some ((0 : Int32), w16)
                  else
                  rT2 dp (13 - n) w16
                  else
                  rT2 dp (13 - n) w7 := by rw [g, rT1, q1, kb2_s, if_neg (show ¬ (1 : Int32) = 0 by decide)]
          have t1 := takes_ok h q3 (c := 118) (by omega)
          have t2 := takes_ok h q3 (c := 62) (by omega)
          have no : (k = 60 ∨ (sg t k ≠ 118 ∧ sg t k ≠ 62)) → fX12_readsLine (dp + 1) (iI (12 - n : Nat)) (Wk w i) = some (0, Wk w k) := by
            intro z
            rw [if_pos (by rcases z with z | z; exact Or.inl z; exact Or.inr (by omega))] at t1
            rw [if_pos (by rcases z with z | z; exact Or.inl z; exact Or.inr (by omega))] at t2
            rw [g3, c118, t1, kb2_s, if_pos rfl, c62, t2, kb2_s, if_pos rfl]
          cases r0 with
          | nil =>
            have e0 := drop_nil q2
            refine ⟨fun j z => ?_, fun f r j z => (by cases z)⟩
            have ek : k = j := Sum.inl.inj z
            rw [eo, no (Or.inr (by omega)), ek]
          | cons s r' =>
            obtain ⟨e0, el0, hlt0⟩ := drop_cons q2
            by_cases c3 : 60 ≤ k ∨ ¬ (s = 118 ∨ s = 62)
            · simp only [if_pos c3]
              refine ⟨fun j z => ?_, fun f r j z => (by cases z)⟩
              have ek : k = j := Sum.inl.inj z
              rw [eo, no (by rcases c3 with c3 | c3; exact Or.inl (by omega); exact Or.inr (by omega)), ek]
            simp only [if_neg c3]
            have cs : s = 118 ∨ s = 62 := Classical.byContradiction fun z => c3 (Or.inr z)
            have k60 : k < 60 := Nat.lt_of_not_le fun z => c3 (Or.inl z)
            have g4 : fX12_readsLine (dp + 1) (iI (12 - n : Nat)) (Wk w i) = rT2 dp (13 - n) (Wk w (k + 1)) := by
              by_cases cv : s = 118
              · rw [if_neg (by rintro (z | z) <;> omega)] at t1
                rw [g3, c118, t1, kb2_s, if_neg (show ¬ (1 : Int32) = 0 by decide)]
              · rw [if_pos (Or.inr (by omega))] at t1
                rw [if_neg (by rintro (z | z) <;> omega)] at t2
                rw [g3, c118, t1, kb2_s, if_pos rfl, c62, t2, kb2_s, if_neg (show ¬ (1 : Int32) = 0 by decide)]
            have hr2 := ih dp (k + 1) r' (by omega) (by omega) (by omega) el0 (by omega) (by omega)
            cases hq : pL n r' (k + 1) with
            | inl k2 =>
              refine ⟨fun j z => ?_, fun f r j z => (by cases z)⟩
              have ek : k2 = j := Sum.inl.inj z
              rw [eo, g4, rT2, hr2.1 k2 hq, kb2_s, if_pos rfl, ek]
            | inr q2 =>
              obtain ⟨g'', r2, k2⟩ := q2
              obtain ⟨p1, p2, p3, p4⟩ := hr2.2 g'' r2 k2 hq
              have t3 := takes_ok h p3 (c := 41) (by omega)
              have g5 : fX12_readsLine (dp + 1) (iI (12 - n : Nat)) (Wk w i) = kb2 (fX12_takes (41 : Int32) (Wk w k2)) fun v15 w13 =>
                  if v15 = 0 then
                  some ((0 : Int32), w13)
                  else
                  some ((1 : Int32), w13) := by rw [g4, rT2, p1, kb2_s, if_neg (show ¬ (1 : Int32) = 0 by decide)]
              cases r2 with
              | nil =>
                have e1 := drop_nil p2
                refine ⟨fun j z => ?_, fun f r j z => (by cases z)⟩
                have ek : k2 = j := Sum.inl.inj z
                rw [if_pos (Or.inr (by omega))] at t3
                rw [eo, g5, c41, t3, kb2_s, if_pos rfl, ek]
              | cons e' r3 =>
                obtain ⟨e1, el1, hlt1⟩ := drop_cons p2
                by_cases c4 : 60 ≤ k2 ∨ e' ≠ 41
                · simp only [if_pos c4]
                  refine ⟨fun j z => ?_, fun f r j z => (by cases z)⟩
                  have ek : k2 = j := Sum.inl.inj z
                  rw [if_pos (by rcases c4 with c4 | c4; exact Or.inl (by omega); exact Or.inr (by omega))] at t3
                  rw [eo, g5, c41, t3, kb2_s, if_pos rfl, ek]
                simp only [if_neg c4]
                have ce : e' = 41 := Classical.byContradiction fun z => c4 (Or.inr z)
                have k260 : k2 < 60 := Nat.lt_of_not_le fun z => c4 (Or.inl z)
                rw [if_neg (by rintro (z | z) <;> omega)] at t3
                refine ⟨fun j z => (by cases z), fun f r j z => ?_⟩
                cases z
                exact ⟨by rw [eo, g5, c41, t3, kb2_s, if_neg (show ¬ (1 : Int32) = 0 by decide)], el1, by omega, by omega⟩
      · rw [if_neg c2]
        exact stop (e := (0, w)) rfl (by rw [eo]; exact rl_stop h (by omega) hi (Or.inr (by rw [e]; exact cl)) (Or.inr (Or.inr (by omega))))
