/-! THE MODEL: tables, one text like another, what comes of what -/
theorem way_0 : ∀ s : Nat, s < 64 → ∀ k : Nat, k < 64 → ((iI (s : Int) &&& (iI (k : Int) ^^^ (-1 : Int32))) = 0 ↔ s &&& k = s) := by decide +kernel
def wyP (f : Fo) (so : Nat) : Bool := decide (so &&& fLs f = so) && fTv f so
theorem tabL_ok {w : rW} {i : Nat} {f : Fo} (h : Lt w i f) (x1 : Int32) (K : Int32 → Int32 → Option Int32) : ∀ (m fu n so : Nat), m < fu → so + m = 64 → fX12_tableOf_L27 x1 (iI i) (iI (fLs f)) w fu K (iI n) (iI so) = K (iI (n + (List.range' so m).countP (wyP f) : Nat)) (iI (64 : Nat)) := by
  have hL := fLs_lt f h.1
  intro m
  induction m with
  | zero =>
    intro fu n so hf hs
    obtain ⟨fu, rfl⟩ : ∃ g, fu = g + 1 := ⟨fu - 1, by omega⟩
    have hs' : so = 64 := hs
    rw [fX12_tableOf_L27, if_pos (by rw [iL_64, iI_le (by omega) (by omega) (by omega) (by omega)]; omega), hs']
    rfl
  | succ m ih =>
    intro fu n so hf hs
    obtain ⟨fu, rfl⟩ : ∃ g, fu = g + 1 := ⟨fu - 1, by omega⟩
    have e1 : iI (so : Int) + 1 = iI (so + 1 : Nat) := by rw [iL_1, iI_add]; rfl
    have hr := fun n => ih fu n (so + 1) (by omega) (by omega)
    rw [fX12_tableOf_L27, if_neg (by rw [iL_64, iI_le (by omega) (by omega) (by omega) (by omega)]; omega), e1, List.range'_succ, List.countP_cons, iL_0, iI_add, Int.add_zero, hr, iL_1, iI_add, show (n : Int) + 1 = ((n + 1 : Nat) : Int) by omega, hr]
    have ew : wyP f so = (decide (so &&& fLs f = so) && fTv f so) := rfl
    rw [ew]
    by_cases c : so &&& fLs f = so
    · rw [if_pos (by rw [← iL_0]; exact (way_0 so (by omega) _ hL).mpr c), decide_eq_true c, Bool.true_and, true_ok (by omega) f h.1 kDP i h.2.2.2 h, Option.bind_some]
      cases fTv f so with
      | true =>
        rw [if_neg (show ¬ iB true = iI 0 from iB_tn), if_pos rfl]
        congr 2
        omega
      | false => rw [if_pos (show iB false = iI 0 from iB_fz), if_neg Bool.false_ne_true]; rfl
    · rw [if_neg (fun z => c ((way_0 so (by omega) _ hL).mp (by rw [← iL_0] at z; exact z))), decide_eq_false c, Bool.false_and, if_neg Bool.false_ne_true]
      rfl
/-- a line of the model's -/
def Ml (w : rW) (l : Nat) (f : Fo) : Prop := l < 40 ∧ Lt w (60 * l) f ∧ tln f ≤ 60 ∧ rA w 2 (3 + l) = iI (tln f)
theorem textOf_ok (l : Nat) : fX12_textOf (iI l) = some (iI (60 * l : Nat)) := by
  rw [fX12_textOf, show (60 : Int32) = iI 60 by decide +kernel, iI_mul]
  rfl
theorem Ml.size {w : rW} {l : Nat} {f : Fo} (h : Ml w l f) : raI w 2 1000 ((3 : Int32) + iI l) = some (iI (tln f)) := by
  rw [iL_3, iI_add, show (3 : Int) + (l : Int) = ((3 + l : Nat) : Int) by omega, raN (by have := h.1; omega) (by omega), h.2.2.2]
theorem mTable {w : rW} {l : Nat} {f : Fo} (h : Ml w l f) : fX12_tableOf (iI l) w = some (iI (fWy f)) := by
  have := tabL_ok h.2.1 (iI l) (fun y _ => some y) 64 kFU 0 0 (by unfold kFU; omega) (by omega)
  rw [Nat.zero_add, ← List.range_eq_range'] at this
  rw [fX12_tableOf, textOf_ok, Option.bind_some, h.size, Option.bind_some, iI_add, show ((60 * l : Nat) : Int) + (tln f : Int) = ((60 * l + tln f : Nat) : Int) by omega, h.2.1.let, Option.bind_some]
  exact this
theorem mAlways {w : rW} {l : Nat} {f : Fo} (h : Ml w l f) : fX12_isAlways (iI l) w = some (iB (fTr f)) := by
  have hU : fUn f ≤ 6 := pcN_le _
  have hW := fWy_le f
  have h2 : 2 ^ fUn f ≤ 2 ^ 6 := Nat.pow_le_pow_right (by decide) hU
  rw [fX12_isAlways, mTable h, Option.bind_some, textOf_ok, Option.bind_some, Option.bind_some, h.size, Option.bind_some, iI_add, show ((60 * l : Nat) : Int) + (tln f : Int) = ((60 * l + tln f : Nat) : Int) by omega, h.2.1.let, Option.bind_some, bits_ok (fLs_lt f h.2.1.1), Option.bind_some]
  show (if iI (fWy f) = (1 : Int32) <<< (iI (fUn f) &&& 31) then some (1 : Int32) else some 0) = _
  rw [iL_1, shl7_ok (fUn f) hU]
  unfold fTr
  generalize 2 ^ fUn f = z at h2 ⊢
  by_cases c : fWy f = z
  · rw [if_pos (by rw [c]), decide_eq_true c]; rfl
  · rw [if_neg (by rw [iI_eq (by omega) (by omega) (by omega) (by omega)]; omega), decide_eq_false c]; rfl
/-! the same text -/
theorem sameL_ok {w : rW} {a b n : Nat} (x4 : Int32) (ha : a + n ≤ 10000) (hb : b + n ≤ 10000) : ∀ (l m : List Nat) (fu i : Nat), l.length < fu → l.length = m.length → i + l.length = n → (∀ c ∈ l, c < 2147483648) → (∀ c ∈ m, c < 2147483648) → Ly (rA w 0) (a + i) l → Ly (rA w 0) (b + i) m → fX12_same_L15 (iI a) (iI (a + n : Nat)) (iI b) x4 w fu (fun _ => some 1) (iI i) = some (iB (decide (l = m))) := by
  have e0 : iI ((a + n : Nat) : Int) - iI a = iI n := by rw [iI_sub]; congr 1; omega
  intro l
  induction l with
  | nil =>
    intro m fu i hf hm hi _ _ _ _
    obtain ⟨fu, rfl⟩ : ∃ g, fu = g + 1 := ⟨fu - 1, by omega⟩
    have hm' : m = [] := List.eq_nil_of_length_eq_zero hm.symm
    have hi' : i = n := hi
    rw [fX12_same_L15, e0, if_pos (by rw [iI_le (by omega) (by omega) (by omega) (by omega)]; omega), hm', decide_eq_true rfl]
    rfl
  | cons c l ih =>
    intro m fu i hf hm hi hc hd h1 h2
    obtain ⟨fu, rfl⟩ : ∃ g, fu = g + 1 := ⟨fu - 1, by omega⟩
    obtain ⟨d, m, rfl⟩ : ∃ d m', m = d :: m' := by
      cases m with
      | nil => rw [List.length_cons, List.length_nil] at hm; omega
      | cons d m => exact ⟨d, m, rfl⟩
    rw [List.length_cons] at hf hi
    rw [List.length_cons, List.length_cons] at hm
    have hcc := hc c List.mem_cons_self
    have hdd := hd d List.mem_cons_self
    have e1 : iI (i : Int) + 1 = iI (i + 1 : Nat) := by rw [iL_1, iI_add]; rfl
    rw [fX12_same_L15, e0, if_neg (by rw [iI_le (by omega) (by omega) (by omega) (by omega)]; omega), iI_add, iI_add, show (a : Int) + (i : Int) = ((a + i : Nat) : Int) by omega, show (b : Int) + (i : Int) = ((b + i : Nat) : Int) by omega, raN (by omega) (by omega), Option.bind_some, raN (by omega) (by omega), Option.bind_some, h1.hd, h2.hd, e1]
    by_cases cd : c = d
    · rw [if_pos (by rw [cd]), ih m fu (i + 1) (by omega) (by omega) (by omega) (fun z hz => hc z (List.mem_cons_of_mem _ hz)) (fun z hz => hd z (List.mem_cons_of_mem _ hz)) h1.tl h2.tl, cd]
      by_cases lm : l = m
      · rw [lm, decide_eq_true rfl, decide_eq_true rfl]
      · rw [decide_eq_false lm, decide_eq_false (fun z => lm (List.cons.inj z).2)]
    · rw [if_neg (by rw [iI_eq (by omega) (by omega) (by omega) (by omega)]; omega), decide_eq_false (fun z => cd (List.cons.inj z).1)]
      rfl
theorem same_ok {w : rW} {a b : Nat} {l m : List Nat} (h1 : Ly (rA w 0) a l) (h2 : Ly (rA w 0) b m) (c1 : ∀ c ∈ l, c < 2147483648) (c2 : ∀ c ∈ m, c < 2147483648) (ha : a + l.length ≤ 10000) (hb : b + m.length ≤ 10000) : fX12_same (iI a) (iI (a + l.length : Nat)) (iI b) (iI (b + m.length : Nat)) w = some (iB (decide (l = m))) := by
  have e1 : iI ((a + l.length : Nat) : Int) - iI a = iI l.length := by rw [iI_sub]; congr 1; omega
  have e2 : iI ((b + m.length : Nat) : Int) - iI b = iI m.length := by rw [iI_sub]; congr 1; omega
  rw [fX12_same, e1, e2]
  by_cases c : l.length = m.length
  · rw [if_pos (by rw [c])]
    exact sameL_ok _ (by omega) (by omega) l m kFU 0 (by unfold kFU; omega) c (by omega) c1 c2 h1 h2
  · rw [if_neg (by rw [iI_eq (by omega) (by omega) (by omega) (by omega)]; omega), decide_eq_false (fun z => c (by rw [z]))]
    rfl
theorem Lt.same {w : rW} {a b : Nat} {f g : Fo} (hf : Lt w a f) (hg : Lt w b g) : fX12_same (iI a) (iI (a + tln f : Nat)) (iI b) (iI (b + tln g : Nat)) w = some (iB (fEq f g)) := by
  rw [← dTxt hf.1 hg.1]
  exact same_ok hf.2.1 hg.2.1 (fun c hc => by have := fTxt_lt f hf.1 c hc; omega) (fun c hc => by have := fTxt_lt g hg.1 c hc; omega) hf.2.2.1 hg.2.2.1
theorem Lt.like {w : rW} {a b : Nat} {f g : Fo} (hf : Lt w a f) (hg : Lt w b g) : fX12_isLike (iI a) (iI b) w = some (iB (fLike f g)) := by
  have p1 := fPl_le f hf.1
  have p2 := fPl_le g hg.1
  have t1 := hf.2.2.1
  have t2 := hg.2.2.1
  have l1 := hf.2.2.2
  have l2 := hg.2.2.2
  have u1 : fUn f ≤ 6 := pcN_le _
  have u2 : fUn g ≤ 6 := pcN_le _
  have s1 : fSz f ≤ tln f := by rw [← cntP f hf.1]; exact List.countP_le_length
  have s2 : fSz g ≤ tln g := by rw [← cntP g hg.1]; exact List.countP_le_length
  rw [fX12_isLike, hf.end, Option.bind_some, hg.end, Option.bind_some, hf.lev, Option.bind_some, hg.lev, Option.bind_some]
  unfold fLike
  by_cases c1 : fLev f = fLev g
  · rw [if_pos (by rw [c1]), hf.pl, Option.bind_some, hg.pl, Option.bind_some, beq_iff_eq.mpr c1, Bool.true_and]
    by_cases c2 : fPl f = fPl g
    · rw [if_pos (by rw [c2]), hf.let, Option.bind_some, bits_ok (fLs_lt f hf.1), Option.bind_some, hg.let, Option.bind_some, bits_ok (fLs_lt g hg.1), Option.bind_some, beq_iff_eq.mpr c2, Bool.true_and]
      show (if iI (fUn f) = iI (fUn g) then some (1 : Int32) else some 0) = _
      by_cases c3 : fUn f = fUn g
      · rw [if_pos (by rw [c3]), beq_iff_eq.mpr c3]; rfl
      · rw [if_neg (by rw [iI_eq (by omega) (by omega) (by omega) (by omega)]; omega), beq_eq_false_iff_ne.mpr c3]; rfl
    · rw [if_neg (by rw [iI_eq (by omega) (by omega) (by omega) (by omega)]; omega), beq_eq_false_iff_ne.mpr c2]; rfl
  · rw [if_neg (by rw [iI_eq (by omega) (by omega) (by omega) (by omega)]; omega), beq_eq_false_iff_ne.mpr c1]; rfl
theorem Lt.isIf {w : rW} {a : Nat} {f : Fo} (h : Lt w a f) : fX12_isIf (iI a) w = some (iB (fIsIf f)) := by
  have e1 : ∀ n : Nat, iI (n : Int) + 1 = iI (n + 1 : Nat) := fun n => by rw [iL_1, iI_add]; rfl
  have hb := h.2.2.1
  have p := (lev_tl f h.1).2
  rw [fX12_isIf, raN (by omega) (by omega), Option.bind_some]
  rcases fCases h.1 with ⟨k, hk, rfl⟩ | ⟨c, hc, rfl⟩ | ⟨c, d, hc, hd, rfl⟩ | ⟨c, d, hc, hd, rfl⟩
  · rw [h.va.1, if_neg (by rw [iL_40, iI_eq (by omega) (by omega) (by omega) (by omega)]; omega)]; rfl
  · rw [h.nx.1, if_neg (by decide +kernel)]; rfl
  · obtain ⟨q1, q2, q3, q4, q5⟩ := h.ad
    rw [q1, if_pos (by decide +kernel), e1, q2.end, Option.bind_some, raN (by omega) (by omega), Option.bind_some, q3, if_neg (by decide +kernel)]; rfl
  · obtain ⟨q1, q2, q3, q4, q5⟩ := h.su
    rw [q1, if_pos (by decide +kernel), e1, q2.end, Option.bind_some, raN (by omega) (by omega), Option.bind_some, q3, if_pos (by decide +kernel)]; rfl
