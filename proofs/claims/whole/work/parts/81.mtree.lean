/-! THE MODEL: texts of trees -/
theorem fTxt_lt : ∀ f, fOk f → ∀ c ∈ fTxt f, c < 128 := by
  have two : ∀ (a b : Fo) (d : Nat), d < 128 → (∀ c ∈ fTxt a, c < 128) → (∀ c ∈ fTxt b, c < 128) → ∀ c ∈ 40 :: (fTxt a ++ d :: (fTxt b ++ [41])), c < 128 := fun a b d hd ha hb c hc => by
    simp only [List.mem_cons, List.mem_append, List.not_mem_nil, or_false] at hc
    rcases hc with h | h | h | h | h
    · omega
    · exact ha c h
    · omega
    · exact hb c h
    · omega
  apply fInd
  · intro i hi c hc
    have : c = 112 + i := List.mem_singleton.mp hc
    omega
  · intro a _ ih c hc
    rcases List.mem_cons.mp hc with h | h
    · omega
    · exact ih c h
  · intro a b _ _ ha hb
    exact two a b 118 (by omega) ha hb
  · intro a b _ _ ha hb
    exact two a b 62 (by omega) ha hb
theorem fTxt_inj : ∀ f, fOk f → ∀ (g : Fo) (X Y : List Nat), fOk g → fTxt f ++ X = fTxt g ++ Y → f = g ∧ X = Y := by
  have v : ∀ i : Nat, fTxt (.var i) = [112 + i] := fun _ => rfl
  have n : ∀ a : Fo, fTxt (.neg a) = 126 :: fTxt a := fun _ => rfl
  have ad : ∀ a b : Fo, fTxt (.add a b) = 40 :: (fTxt a ++ 118 :: (fTxt b ++ [41])) := fun _ _ => rfl
  have su : ∀ a b : Fo, fTxt (.sub a b) = 40 :: (fTxt a ++ 62 :: (fTxt b ++ [41])) := fun _ _ => rfl
  refine fInd ?_ ?_ ?_ ?_
  · intro i hi g X Y hg h
    rcases fCases hg with ⟨j, hj, rfl⟩ | ⟨c, hc, rfl⟩ | ⟨c, d, hc, hd, rfl⟩ | ⟨c, d, hc, hd, rfl⟩ <;>
      simp only [v, n, ad, su, List.cons_append, List.nil_append, List.cons.injEq] at h
    · have e : i = j := by omega
      exact ⟨by rw [e], h.2⟩
    · omega
    · omega
    · omega
  · intro a ha ih g X Y hg h
    rcases fCases hg with ⟨j, hj, rfl⟩ | ⟨c, hc, rfl⟩ | ⟨c, d, hc, hd, rfl⟩ | ⟨c, d, hc, hd, rfl⟩ <;>
      simp only [v, n, ad, su, List.cons_append, List.nil_append, List.cons.injEq, List.append_assoc] at h
    · omega
    · obtain ⟨e1, e2⟩ := ih c X Y hc h.2
      exact ⟨by rw [e1], e2⟩
    · omega
    · omega
  · intro a b ha hb iha ihb g X Y hg h
    rcases fCases hg with ⟨j, hj, rfl⟩ | ⟨c, hc, rfl⟩ | ⟨c, d, hc, hd, rfl⟩ | ⟨c, d, hc, hd, rfl⟩ <;>
      simp only [v, n, ad, su, List.cons_append, List.nil_append, List.cons.injEq, List.append_assoc] at h
    · omega
    · omega
    · obtain ⟨e1, e2⟩ := iha c _ _ hc h.2
      rw [List.cons.injEq] at e2
      obtain ⟨e3, e4⟩ := ihb d _ _ hd e2.2
      rw [List.cons.injEq] at e4
      exact ⟨by rw [e1, e3], e4.2⟩
    · obtain ⟨e1, e2⟩ := iha c _ _ hc h.2
      rw [List.cons.injEq] at e2
      omega
  · intro a b ha hb iha ihb g X Y hg h
    rcases fCases hg with ⟨j, hj, rfl⟩ | ⟨c, hc, rfl⟩ | ⟨c, d, hc, hd, rfl⟩ | ⟨c, d, hc, hd, rfl⟩ <;>
      simp only [v, n, ad, su, List.cons_append, List.nil_append, List.cons.injEq, List.append_assoc] at h
    · omega
    · omega
    · obtain ⟨e1, e2⟩ := iha c _ _ hc h.2
      rw [List.cons.injEq] at e2
      omega
    · obtain ⟨e1, e2⟩ := iha c _ _ hc h.2
      rw [List.cons.injEq] at e2
      obtain ⟨e3, e4⟩ := ihb d _ _ hd e2.2
      rw [List.cons.injEq] at e4
      exact ⟨by rw [e1, e3], e4.2⟩
theorem fTxt_eq {f g : Fo} (hf : fOk f) (hg : fOk g) (h : fTxt f = fTxt g) : f = g := (fTxt_inj f hf g [] [] hg (by rw [h])).1
theorem dTxt {f g : Fo} (hf : fOk f) (hg : fOk g) : decide (fTxt f = fTxt g) = fEq f g := by
  unfold fEq
  by_cases h : f = g
  · rw [h, decide_eq_true rfl, decide_eq_true rfl]
  · rw [decide_eq_false (fun z => h (fTxt_eq hf hg z)), decide_eq_false (fun z => h (fPre_eq hf hg z))]
theorem cntP : ∀ f, fOk f → (fTxt f).countP noP = fSz f := by
  apply fInd
  · intro i hi
    show [112 + i].countP noP = 1
    rw [List.countP_cons_of_pos (by unfold noP; exact decide_eq_true (by omega))]
    rfl
  · intro a _ ih
    show (126 :: fTxt a).countP noP = _
    rw [List.countP_cons_of_pos (by decide), ih, fSz_neg]
  · intro a b _ _ ha hb
    show (40 :: (fTxt a ++ 118 :: (fTxt b ++ [41]))).countP noP = _
    rw [List.countP_cons_of_neg (by decide), List.countP_append, List.countP_cons_of_pos (by decide), List.countP_append, ha, hb, fSz_add]
    show fSz a + (fSz b + 0 + 1) = _
    omega
  · intro a b _ _ ha hb
    show (40 :: (fTxt a ++ 62 :: (fTxt b ++ [41]))).countP noP = _
    rw [List.countP_cons_of_neg (by decide), List.countP_append, List.countP_cons_of_pos (by decide), List.countP_append, ha, hb, fSz_sub]
    show fSz a + (fSz b + 0 + 1) = _
    omega
theorem cntL : ∀ f, fOk f → (fTxt f).countP isL = fPl f := by
  apply fInd
  · intro i hi
    show [112 + i].countP isL = 1
    rw [List.countP_cons_of_pos (by unfold isL; exact decide_eq_true (by omega))]
    rfl
  · intro a _ ih
    show (126 :: fTxt a).countP isL = _
    rw [List.countP_cons_of_neg (by decide), ih]
    rfl
  · intro a b _ _ ha hb
    show (40 :: (fTxt a ++ 118 :: (fTxt b ++ [41]))).countP isL = fPl a + fPl b
    rw [List.countP_cons_of_neg (by decide), List.countP_append, List.countP_cons_of_neg (by decide), List.countP_append, ha, hb]
    rfl
  · intro a b _ _ ha hb
    show (40 :: (fTxt a ++ 62 :: (fTxt b ++ [41]))).countP isL = fPl a + fPl b
    rw [List.countP_cons_of_neg (by decide), List.countP_append, List.countP_cons_of_neg (by decide), List.countP_append, ha, hb]
    rfl
theorem lSet_app (l m : List Nat) (s : Nat) : lSet (l ++ m) s = lSet m (lSet l s) := List.foldl_append
theorem lSet_cons (c : Nat) (l : List Nat) (s : Nat) : lSet (c :: l) s = lSet l (if isL c = true then s ||| 2 ^ (c - 112) else s) := rfl
theorem lSet_txt : ∀ f, fOk f → ∀ s, lSet (fTxt f) s = s ||| fLs f := by
  apply fInd
  · intro i hi s
    show lSet [112 + i] s = s ||| 2 ^ i
    rw [lSet_cons, if_pos (by unfold isL; exact decide_eq_true (by omega)), Nat.add_sub_cancel_left]
    rfl
  · intro a _ ih s
    show lSet (126 :: fTxt a) s = s ||| fLs a
    rw [lSet_cons, if_neg (by decide), ih]
  · intro a b _ _ ha hb s
    show lSet (40 :: (fTxt a ++ 118 :: (fTxt b ++ [41]))) s = s ||| (fLs a ||| fLs b)
    rw [lSet_cons, if_neg (by decide), lSet_app, ha, lSet_cons, if_neg (by decide), lSet_app, hb, lSet_cons, if_neg (by decide), Nat.or_assoc]
    rfl
  · intro a b _ _ ha hb s
    show lSet (40 :: (fTxt a ++ 62 :: (fTxt b ++ [41]))) s = s ||| (fLs a ||| fLs b)
    rw [lSet_cons, if_neg (by decide), lSet_app, ha, lSet_cons, if_neg (by decide), lSet_app, hb, lSet_cons, if_neg (by decide), Nat.or_assoc]
    rfl
/-- a tree's text lies there -/
def Lt (w : rW) (i : Nat) (f : Fo) : Prop := fOk f ∧ Ly (rA w 0) i (fTxt f) ∧ i + tln f ≤ 10000 ∧ fLev f < 400
theorem Lt.end {w : rW} {i : Nat} {f : Fo} (h : Lt w i f) : fX12_end kDP (iI i) w = some (iI (i + tln f : Nat)) := endD h.1 h.2.1 h.2.2.1 h.2.2.2
theorem Lt.lev {w : rW} {i : Nat} {f : Fo} (h : Lt w i f) : fX12_levels kDP (iI i) w = some (iI (fLev f)) := levels_ok f h.1 kDP i h.2.2.2 h.2.2.2 h.2.1 h.2.2.1
theorem Lt.size {w : rW} {i : Nat} {f : Fo} (h : Lt w i f) : fX12_sizeOf (iI i) (iI (i + tln f : Nat)) w = some (iI (fSz f)) := by
  have := size_ok (fTxt_lt f h.1) h.2.1 h.2.2.1
  rw [cntP f h.1] at this
  exact this
theorem Lt.pl {w : rW} {i : Nat} {f : Fo} (h : Lt w i f) : fX12_places (iI i) (iI (i + tln f : Nat)) w = some (iI (fPl f)) := by
  have := place_ok (fTxt_lt f h.1) h.2.1 h.2.2.1
  rw [cntL f h.1] at this
  exact this
theorem Lt.let {w : rW} {i : Nat} {f : Fo} (h : Lt w i f) : fX12_letters (iI i) (iI (i + tln f : Nat)) w = some (iI (fLs f)) := by
  have := letters_ok (fTxt_lt f h.1) h.2.1 h.2.2.1
  rw [lSet_txt f h.1, Nat.zero_or] at this
  exact this
theorem Lt.nx {w : rW} {i : Nat} {a : Fo} (h : Lt w i (.neg a)) : rA w 0 i = iI (126 : Nat) ∧ Lt w (i + 1) a := by
  obtain ⟨h1, h2, h3, h4⟩ := h
  rw [tln_neg] at h3
  have h4' : 1 + fLev a < 400 := h4
  exact ⟨h2.neg.1, h1, h2.neg.2, by omega, by omega⟩
theorem Lt.va {w : rW} {i k : Nat} (h : Lt w i (.var k)) : rA w 0 i = iI (112 + k : Nat) ∧ k < 6 := ⟨h.2.1.var, h.1⟩
theorem Lt.ad {w : rW} {i : Nat} {a b : Fo} (h : Lt w i (.add a b)) : rA w 0 i = iI (40 : Nat) ∧ Lt w (i + 1) a ∧ rA w 0 (i + 1 + tln a) = iI (118 : Nat) ∧ Lt w (i + 1 + tln a + 1) b ∧ i + 1 + tln a + 1 + tln b + 1 ≤ 10000 := by
  obtain ⟨h1, h2, h3, h4⟩ := h
  rw [tln_add] at h3
  have h4' : 1 + max (fLev a) (fLev b) < 400 := h4
  have h2' : Ly (rA w 0) i (40 :: (fTxt a ++ 118 :: (fTxt b ++ [41]))) := h2
  obtain ⟨q1, q2, q3, q4, q5⟩ := h2'.two
  exact ⟨q1, ⟨h1.1, q2, by omega, by omega⟩, q3, ⟨h1.2, q4, by omega, by omega⟩, by omega⟩
theorem Lt.su {w : rW} {i : Nat} {a b : Fo} (h : Lt w i (.sub a b)) : rA w 0 i = iI (40 : Nat) ∧ Lt w (i + 1) a ∧ rA w 0 (i + 1 + tln a) = iI (62 : Nat) ∧ Lt w (i + 1 + tln a + 1) b ∧ i + 1 + tln a + 1 + tln b + 1 ≤ 10000 := by
  obtain ⟨h1, h2, h3, h4⟩ := h
  rw [tln_sub] at h3
  have h4' : 1 + max (fLev a) (fLev b) < 400 := h4
  have h2' : Ly (rA w 0) i (40 :: (fTxt a ++ 62 :: (fTxt b ++ [41]))) := h2
  obtain ⟨q1, q2, q3, q4, q5⟩ := h2'.two
  exact ⟨q1, ⟨h1.1, q2, by omega, by omega⟩, q3, ⟨h1.2, q4, by omega, by omega⟩, by omega⟩
theorem Lt.of {w w' : rW} {i : Nat} {f : Fo} (h : Lt w i f) (e : ∀ j, i ≤ j → j < i + tln f → rA w' 0 j = rA w 0 j) : Lt w' i f :=
  ⟨h.1, fun j c hc => by
    have hj := (List.getElem?_eq_some_iff.mp hc).1
    rw [e (i + j) (by omega) (by have : tln f = (fTxt f).length := rfl; omega)]
    exact h.2.1 j c hc, h.2.2⟩
/-! bits; truth -/
def pcR : Nat → Nat → Nat
  | 0, _ => 0
  | m + 1, s => s % 2 + pcR m (s / 2)
theorem bit_1 : ∀ s : Nat, s < 64 → iI (s : Int) &&& (1 : Int32) = iI (s % 2 : Nat) ∧ iI (s : Int) >>> ((1 : Int32) &&& 31) = iI (s / 2 : Nat) := by decide +kernel
theorem bitsL_ok (x0 : Int32) (K : Int32 → Int32 → Option Int32) : ∀ (m fu n s : Nat), m < fu → s < 2 ^ m → s < 64 → fX12_bits_L4 x0 fu K (iI n) (iI s) = K (iI (n + pcR m s : Nat)) (iI (0 : Nat)) := by
  intro m
  induction m with
  | zero =>
    intro fu n s hf h1 h2
    obtain ⟨fu, rfl⟩ : ∃ g, fu = g + 1 := ⟨fu - 1, by omega⟩
    have hs : s = 0 := by rw [Nat.pow_zero] at h1; omega
    rw [fX12_bits_L4, if_pos (by rw [iL_0, iI_le (by omega) (by omega) (by omega) (by omega)]; omega), hs]
    rfl
  | succ m ih =>
    intro fu n s hf h1 h2
    obtain ⟨fu, rfl⟩ : ∃ g, fu = g + 1 := ⟨fu - 1, by omega⟩
    rw [Nat.pow_succ] at h1
    by_cases c : s = 0
    · have z : ∀ m, pcR m 0 = 0 := fun m => by
        induction m with
        | zero => rfl
        | succ m ih => exact (Nat.zero_add _).trans ih
      rw [fX12_bits_L4, if_pos (by rw [iL_0, iI_le (by omega) (by omega) (by omega) (by omega)]; omega), c, z]
      rfl
    · obtain ⟨b1, b2⟩ := bit_1 s h2
      rw [fX12_bits_L4, if_neg (by rw [iL_0, iI_le (by omega) (by omega) (by omega) (by omega)]; omega), b1, b2, iI_add, show (n : Int) + ((s % 2 : Nat) : Int) = ((n + s % 2 : Nat) : Int) by omega, ih fu _ _ (by omega) (by omega) (by omega)]
      congr 2
      show ((n + s % 2 + pcR m (s / 2) : Nat) : Int) = ((n + (s % 2 + pcR m (s / 2)) : Nat) : Int)
      omega
theorem pcR_6 : ∀ s : Nat, s < 64 → pcR 6 s = pcN s := by decide +kernel
theorem bits_ok {s : Nat} (h : s < 64) : fX12_bits (iI s) = some (iI (pcN s)) := by
  have := bitsL_ok (iI s) (fun y _ => some y) 6 kFU 0 s (by unfold kFU; omega) h h
  rw [pcR_6 s h, Nat.zero_add] at this
  rw [fX12_bits]
  exact this
theorem way_1 : ∀ s : Nat, s < 64 → ∀ k : Nat, k < 6 → (((iI (s : Int) >>> ((iI (112 + k : Nat) - (112 : Int32)) &&& 31)) &&& (1 : Int32)) = (1 : Int32)) = (s.testBit k = true) := by
  intro s hs k hk
  exact propext ((show ∀ s : Nat, s < 64 → ∀ k : Nat, k < 6 → ((((iI (s : Int) >>> ((iI (112 + k : Nat) - (112 : Int32)) &&& 31)) &&& (1 : Int32)) = (1 : Int32)) ↔ (s.testBit k = true)) by decide +kernel) s hs k hk)
theorem true_ok {w : rW} {so : Nat} (hso : so < 64) : ∀ f, fOk f → ∀ (dp i : Nat), fLev f < dp → Lt w i f → fX12_isTrue dp (iI i) (iI so) w = some (iB (fTv f so)) := by
  have e1 : ∀ n : Nat, iI (n : Int) + 1 = iI (n + 1 : Nat) := fun n => by rw [iL_1, iI_add]; rfl
  apply fInd
  · intro k hk dp i hd h
    obtain ⟨dp, rfl⟩ : ∃ g, dp = g + 1 := ⟨dp - 1, by omega⟩
    have hb := h.2.2.1
    rw [tln_var] at hb
    rw [fX12_isTrue, raN (by omega) (by omega), Option.bind_some, h.va.1, isLetter_var hk, Option.bind_some, if_neg iB_tn]
    show _ = some (iB (so.testBit k))
    cases ht : so.testBit k with
    | true => rw [if_pos (by rw [way_1 so hso k hk]; exact ht)]; rfl
    | false => rw [if_neg (by rw [way_1 so hso k hk, ht]; exact Bool.false_ne_true)]; rfl
  · intro a _ ih dp i hd h
    obtain ⟨dp, rfl⟩ : ∃ g, dp = g + 1 := ⟨dp - 1, by omega⟩
    have hd' : 1 + fLev a < dp + 1 := hd
    obtain ⟨q1, q2⟩ := h.nx
    have hb := h.2.2.1
    rw [tln_neg] at hb
    rw [fX12_isTrue, raN (by omega) (by omega), Option.bind_some, q1, isLetter_not (by omega), Option.bind_some, if_pos iB_fz, if_pos (by decide +kernel), e1, ih dp (i + 1) (by omega) q2, Option.bind_some]
    show _ = some (iB (!fTv a so))
    cases fTv a so with
    | true => rw [if_neg iB_tn]; rfl
    | false => rw [if_pos iB_fz]; rfl
  · intro a b _ _ ha hb dp i hd h
    obtain ⟨dp, rfl⟩ : ∃ g, dp = g + 1 := ⟨dp - 1, by omega⟩
    have hd' : 1 + max (fLev a) (fLev b) < dp + 1 := hd
    obtain ⟨q1, q2, q3, q4, q5⟩ := h.ad
    rw [fX12_isTrue, raN (by omega) (by omega), Option.bind_some, q1, isLetter_not (by omega), Option.bind_some, if_pos iB_fz, if_neg (by decide +kernel), e1, q2.end, Option.bind_some, ha dp (i + 1) (by omega) q2, Option.bind_some, e1, hb dp _ (by omega) q4, Option.bind_some, raN (by omega) (by omega), Option.bind_some, q3, if_pos (by decide +kernel)]
    show _ = some (iB (fTv a so || fTv b so))
    cases fTv a so with
    | true => rw [if_neg iB_tn]; rfl
    | false =>
      rw [if_pos iB_fz]
      cases fTv b so with
      | true => rw [if_neg iB_tn]; rfl
      | false => rw [if_pos iB_fz]; rfl
  · intro a b _ _ ha hb dp i hd h
    obtain ⟨dp, rfl⟩ : ∃ g, dp = g + 1 := ⟨dp - 1, by omega⟩
    have hd' : 1 + max (fLev a) (fLev b) < dp + 1 := hd
    obtain ⟨q1, q2, q3, q4, q5⟩ := h.su
    rw [fX12_isTrue, raN (by omega) (by omega), Option.bind_some, q1, isLetter_not (by omega), Option.bind_some, if_pos iB_fz, if_neg (by decide +kernel), e1, q2.end, Option.bind_some, ha dp (i + 1) (by omega) q2, Option.bind_some, e1, hb dp _ (by omega) q4, Option.bind_some, raN (by omega) (by omega), Option.bind_some, q3, if_neg (by decide +kernel)]
    show _ = some (iB (!fTv a so || fTv b so))
    cases fTv a so with
    | false => rw [if_pos iB_fz]; rfl
    | true =>
      rw [if_neg iB_tn]
      cases fTv b so with
      | true => rw [if_neg iB_tn]; rfl
      | false => rw [if_pos iB_fz]; rfl
