/-! .. what is made; what comes on the list -/
def mkS (σ : Nat → Option Fo) (c : Nat) : List Nat := if isL c = true then (match σ (c - 112) with
  | some t => fTxt t
  | none => [c]) else [c]
def mkL (σ : Nat → Option Fo) (l : List Nat) : List Nat := l.flatMap (mkS σ)
theorem mkL_app (σ : Nat → Option Fo) (l m : List Nat) : mkL σ (l ++ m) = mkL σ l ++ mkL σ m := List.flatMap_append
theorem mkL_cons (σ : Nat → Option Fo) (c : Nat) (l : List Nat) : mkL σ (c :: l) = mkS σ c ++ mkL σ l := List.flatMap_cons
theorem mkS_no {σ : Nat → Option Fo} {c : Nat} (h : isL c = false) : mkS σ c = [c] := if_neg (by rw [h]; exact Bool.false_ne_true)
theorem mkL_txt (σ : Nat → Option Fo) : ∀ f, fOk f → mkL σ (fTxt f) = fTxt (fSb σ f) := by
  have two : ∀ (a b : Fo) (s : Nat), isL s = false → mkL σ (fTxt a) = fTxt (fSb σ a) → mkL σ (fTxt b) = fTxt (fSb σ b) → mkL σ (40 :: (fTxt a ++ s :: (fTxt b ++ [41]))) = 40 :: (fTxt (fSb σ a) ++ s :: (fTxt (fSb σ b) ++ [41])) := by
    intro a b s hs ha hb
    rw [mkL_cons, mkS_no (by decide), mkL_app, ha, mkL_cons, mkS_no hs, mkL_app, hb, mkL_cons, mkS_no (by decide)]
    rfl
  apply fInd
  · intro i hi
    show mkL σ [112 + i] = fTxt ((σ i).getD (.var i))
    have e : isL (112 + i) = true := by unfold isL; exact decide_eq_true (by omega)
    rw [mkL_cons]
    unfold mkS
    rw [if_pos e, Nat.add_sub_cancel_left]
    cases σ i with
    | none => rfl
    | some t => exact List.append_nil _
  · intro a _ ih
    show mkL σ (126 :: fTxt a) = 126 :: fTxt (fSb σ a)
    rw [mkL_cons, mkS_no (by decide), ih]
    rfl
  · intro a b _ _ ha hb
    exact two a b 118 (by decide) ha hb
  · intro a b _ _ ha hb
    exact two a b 62 (by decide) ha hb
theorem tln_3 : ∀ f, fOk f → tln f + 2 ≤ 3 * fSz f := by
  apply fInd
  · intro i _
    rw [tln_var, fSz_var]
    omega
  · intro a _ ih
    rw [tln_neg, fSz_neg]
    omega
  · intro a b _ _ ha hb
    rw [tln_add, fSz_add]
    omega
  · intro a b _ _ ha hb
    rw [tln_sub, fSz_sub]
    omega
def sOk (σ : Nat → Option Fo) : Prop := ∀ k t, k < 6 → σ k = some t → fOk t
theorem mkS_len {σ : Nat → Option Fo} (h : sOk σ) (c : Nat) : (mkS σ c).length ≤ 1 + 3 * (mkS σ c).countP noP := by
  unfold mkS
  by_cases e : isL c = true
  · have e' : 112 ≤ c ∧ c ≤ 117 := of_decide_eq_true e
    rw [if_pos e]
    cases hs : σ (c - 112) with
    | none => show 1 ≤ _; omega
    | some t =>
      have ok := h (c - 112) t (by omega) hs
      have := tln_3 t ok
      show tln t ≤ 1 + 3 * (fTxt t).countP noP
      rw [cntP t ok]
      omega
  · rw [if_neg e]
    show 1 ≤ _
    omega
theorem mkL_len {σ : Nat → Option Fo} (h : sOk σ) : ∀ l, (mkL σ l).length ≤ l.length + 3 * (mkL σ l).countP noP := by
  intro l
  induction l with
  | nil => exact Nat.zero_le _
  | cons c l ih =>
    have := mkS_len h c
    rw [mkL_cons, List.length_append, List.countP_append, List.length_cons]
    omega
theorem mkL_lt {σ : Nat → Option Fo} (h : sOk σ) {l : List Nat} (hl : ∀ c ∈ l, c < 128) : ∀ c ∈ mkL σ l, c < 128 := by
  intro c hc
  obtain ⟨d, hd, hc'⟩ := List.mem_flatMap.mp hc
  unfold mkS at hc'
  by_cases e : isL d = true
  · have e' : 112 ≤ d ∧ d ≤ 117 := of_decide_eq_true e
    rw [if_pos e] at hc'
    cases hs : σ (d - 112) with
    | none =>
      rw [hs] at hc'
      rw [List.mem_singleton.mp hc']
      exact hl d hd
    | some t =>
      rw [hs] at hc'
      exact fTxt_lt t (h (d - 112) t (by omega) hs) c hc'
  · rw [if_neg e] at hc'
    rw [List.mem_singleton.mp hc']
    exact hl d hd
theorem Mz.sok {lo hi : Nat} {w : rW} {σ : Nat → Option Fo} (h : Mz lo hi w σ) : sOk σ := fun k t hk e => by
  obtain ⟨p, -, -, g, -⟩ := (h k hk).2 t e
  exact g.1
theorem Mz.rq {lo hi : Nat} {A : Nat → Nat → Prop} {Q : Nat → Prop} {w w' : rW} {σ : Nat → Option Fo} (h : Mz lo hi w σ) (hs : Rq A Q w w') (hA : ∀ n i, A n i → n = 0 ∧ 8000 ≤ i) (hhi : hi ≤ 8000) : Mz lo hi w' σ := fun k hk => by
  obtain ⟨h1, h2⟩ := h k hk
  have n10 : ∀ i, ¬ A 10 i := fun i z => by have := (hA _ _ z).1; omega
  have n11 : ∀ i, ¬ A 11 i := fun i z => by have := (hA _ _ z).1; omega
  refine ⟨fun e => by rw [hs.1 10 k (n10 k)]; exact h1 e, fun c e => ?_⟩
  obtain ⟨p, p1, p2, p3, p4, p5⟩ := h2 c e
  exact ⟨p, by rw [hs.1 10 k (n10 k)]; exact p1, by rw [hs.1 11 k (n11 k)]; exact p2, p3.rq hs (fun j j1 j2 z => by have := (hA _ _ z).2; omega), p4, p5⟩
theorem InA.w {a b a' b' : Nat} (h1 : a' ≤ a) (h2 : b ≤ b') : ∀ n i, InA a b n i → InA a' b' n i := fun n i z => ⟨z.1, by have := z.2.1; omega, by have := z.2.2; omega⟩
theorem mMakes_ok {σ : Nat → Option Fo} {lo hi : Nat} (h8 : hi ≤ 8000) (h70 : hi ≤ lo + 70) (x1 x3 : Int32) {x2 : Nat} (hx2 : x2 ≤ 8000) : ∀ (l : List Nat) (fu i o : Nat) (w : rW), l.length < fu → i + l.length = x2 → (∀ c ∈ l, c < 128) → Ly (rA w 0) i l → Mz lo hi w σ → 8000 ≤ o → o ≤ 9080 →
    ∃ j w', j ≤ l.length ∧ fX12_makes_L6 x1 (iI x2) x3 fu (fun y _ q => some (y, q)) (iI o) (iI i) w = some (iI (o + (mkL σ (l.take j)).length : Nat), w') ∧ Rq (InA o (o + (mkL σ (l.take j)).length)) NoF w w' ∧ Ly (rA w' 0) o (mkL σ (l.take j)) ∧ (j = l.length ∨ 9000 < o + (mkL σ (l.take j)).length) ∧ o + (mkL σ (l.take j)).length ≤ 9080 := by
  have c9 : (9000 : Int32) = iI ((9000 : Nat) : Int) := by decide +kernel
  intro l
  induction l with
  | nil =>
    intro fu i o w hf hi' _ _ _ ho1 ho2
    obtain ⟨fu, rfl⟩ : ∃ z, fu = z + 1 := ⟨fu - 1, by omega⟩
    rw [List.length_nil] at hi'
    refine ⟨0, w, Nat.le_refl _, ?_, Rq.rf w, Ly.nil, Or.inl rfl, ho2⟩
    rw [fX12_makes_L6, if_pos (by rw [iI_le (by omega) (by omega) (by omega) (by omega)]; omega)]
    rfl
  | cons c l ih =>
    intro fu i o w hf hi' hc h hz ho1 ho2
    obtain ⟨fu, rfl⟩ : ∃ z, fu = z + 1 := ⟨fu - 1, by omega⟩
    rw [List.length_cons] at hf hi'
    have hcc := hc c List.mem_cons_self
    have e1 : iI (i : Int) + (1 : Int32) = iI (i + 1 : Nat) := by rw [iL_1, iI_add]; rfl
    have eo : iI (o : Int) + (1 : Int32) = iI (o + 1 : Nat) := by rw [iL_1, iI_add]; rfl
    have rd : raI w 0 10000 (iI i) = some (iI c) := by rw [raN (by omega) (by omega), h.hd]
    rw [fX12_makes_L6, if_neg (by rw [iI_le (by omega) (by omega) (by omega) (by omega)]; omega), rd, Option.bind_some, Option.bind_some]
    by_cases c1 : o ≤ 9000
    · rw [if_pos (by rw [c9, iI_le (by omega) (by omega) (by omega) (by omega)]; omega), isLetter_ok (by omega), Option.bind_some]
      -- the rest, behind what was written
      have rest : ∀ (w1 : rW), (mkS σ c).length ≤ 70 → Rq (InA o (o + (mkS σ c).length)) NoF w w1 → Ly (rA w1 0) o (mkS σ c) → ∃ j w', j ≤ (c :: l).length ∧ fX12_makes_L6 x1 (iI x2) x3 fu (fun y _ q => some (y, q)) (iI (o + (mkS σ c).length : Nat)) (iI (i + 1 : Nat)) w1 = some (iI (o + (mkL σ ((c :: l).take j)).length : Nat), w') ∧ Rq (InA o (o + (mkL σ ((c :: l).take j)).length)) NoF w w' ∧ Ly (rA w' 0) o (mkL σ ((c :: l).take j)) ∧ (j = (c :: l).length ∨ 9000 < o + (mkL σ ((c :: l).take j)).length) ∧ o + (mkL σ ((c :: l).take j)).length ≤ 9080 := by
        intro w1 h70' r1 l1
        have A8 : ∀ n i, InA o (o + (mkS σ c).length) n i → n = 0 ∧ 8000 ≤ i := fun n i z => ⟨z.1, by have := z.2.1; omega⟩
        obtain ⟨j, w', j1, j2, j3, j4, j5, j6⟩ := ih fu (i + 1) (o + (mkS σ c).length) w1 (by omega) (by omega) (fun d hd => hc d (List.mem_cons_of_mem _ hd)) (h.tl.rq r1 (fun j j1 j2 z => by have := z.2.1; omega)) (hz.rq r1 A8 h8) (by omega) (by omega)
        have et : mkL σ ((c :: l).take (j + 1)) = mkS σ c ++ mkL σ (l.take j) := by rw [List.take_succ_cons, mkL_cons]
        refine ⟨j + 1, w', by rw [List.length_cons]; omega, ?_, ?_, ?_, ?_, ?_⟩
        · rw [j2, et, List.length_append, Nat.add_assoc]
        · rw [et, List.length_append, ← Nat.add_assoc]
          exact (r1.wide (InA.w (by omega) (by omega)) (fun _ z => z)).tr (j3.wide (InA.w (by omega) (by omega)) (fun _ z => z))
        · rw [et]
          exact Ly.app (l1.rq j3 (fun k k1 k2 z => by have := z.2.1; omega)) j4
        · rw [et, List.length_append, List.length_cons, ← Nat.add_assoc]
          exact j5.imp (fun z => by omega) (fun z => z)
        · rw [et, List.length_append, ← Nat.add_assoc]
          exact j6
      have one : mkS σ c = [c] → ∃ j w', j ≤ (c :: l).length ∧ ((some (iI (c : Int))).bind fun v5 => (rsI w 0 10000 (iI o) v5).bind fun w6 => fX12_makes_L6 x1 (iI x2) x3 fu (fun y _ q => some (y, q)) (iI o + (1 : Int32)) (iI i + (1 : Int32)) w6) = some (iI (o + (mkL σ ((c :: l).take j)).length : Nat), w') ∧ Rq (InA o (o + (mkL σ ((c :: l).take j)).length)) NoF w w' ∧ Ly (rA w' 0) o (mkL σ ((c :: l).take j)) ∧ (j = (c :: l).length ∨ 9000 < o + (mkL σ ((c :: l).take j)).length) ∧ o + (mkL σ ((c :: l).take j)).length ≤ 9080 := by
        intro e
        have := rest (rSA w 0 o (iI c)) (by rw [e]; show 1 ≤ 70; omega) (Rq.sa ⟨rfl, Nat.le_refl _, by rw [e]; show o < o + 1; omega⟩) (by rw [e]; exact Ly.cons rA_SA_s Ly.nil)
        rw [Option.bind_some, rsN (by omega) (by omega), Option.bind_some, eo, e1]
        rw [e] at this
        exact this
      cases hL : isL c with
      | false =>
        rw [if_pos iB_fz]
        exact one (mkS_no hL)
      | true =>
        have hL' : 112 ≤ c ∧ c ≤ 117 := of_decide_eq_true hL
        have ek : iI (c : Int) - (112 : Int32) = iI (c - 112 : Nat) := by rw [iL_112, iI_sub]; congr 1; omega
        obtain ⟨z1, z2⟩ := hz (c - 112) (by omega)
        rw [if_neg iB_tn, ek, raN (by omega) (by omega), Option.bind_some, Option.bind_some]
        cases hs : σ (c - 112) with
        | none =>
          rw [z1 hs, if_pos (by decide +kernel)]
          refine one ?_
          unfold mkS
          rw [if_pos hL, hs]
        | some t =>
          obtain ⟨p, p1, p2, p3, p4, p5⟩ := z2 t hs
          have em : mkS σ c = fTxt t := by
            unfold mkS
            rw [if_pos hL, hs]
          have lt : (fTxt t).length = tln t := rfl
          obtain ⟨w1, e2, r1, l1⟩ := copies_ok (a := o) p3.2.1 (by omega) (by omega) (Or.inl (by omega))
          rw [lt] at e2 r1
          rw [p1, if_neg (by rw [iL_0, iI_lt (by omega) (by omega) (by omega) (by omega)]; omega), raN (by omega) (by omega), Option.bind_some, p2, Option.bind_some, e2, kb2_s, e1]
          have := rest w1 (by rw [em]; omega) (by rw [em]; exact r1) (by rw [em]; exact l1)
          rw [em] at this
          exact this
    · rw [if_neg (by rw [c9, iI_le (by omega) (by omega) (by omega) (by omega)]; omega)]
      exact ⟨0, w, Nat.zero_le _, rfl, Rq.rf w, Ly.nil, Or.inr (by show 9000 < o + 0; omega), ho2⟩
theorem cut_big {σ : Nat → Option Fo} (h : sOk σ) {l : List Nat} (hl : l.length ≤ 64) {b j : Nat} (hb : b ≤ 8100) (hj : 9000 < b + (mkL σ (l.take j)).length) : 20 < (mkL σ (l.take j)).countP noP := by
  have := mkL_len h (l.take j)
  have l2 : (l.take j).length ≤ l.length := by rw [List.length_take]; omega
  omega
/-- the needs on the list -/
def Nd (w : rW) (N : List (Fo × Nat)) : Prop := rF w 28 = iI N.length ∧ N.length ≤ 24 ∧ ∀ (j : Nat) (F : Fo) (d : Nat), N[j]? = some (F, d) → Lt w (2400 + 64 * j) F ∧ tln F ≤ 64 ∧ rA w 13 j = iI (2400 + 64 * j + tln F : Nat) ∧ rA w 14 j = iI d ∧ d ≤ j
def oNd (dd : Nat) (D : Fo) (N : List (Fo × Nat)) : List (Fo × Nat) := if 20 < fSz D ∨ 24 ≤ N.length then N else if N.any (fun e => fEq e.1 D) then N else N ++ [(D, dd + 1)]
def CoA (n i : Nat) : Prop := (n = 0 ∧ 2400 ≤ i ∧ i < 4000) ∨ n = 13 ∨ n = 14
def CoF (j : Nat) : Prop := j = 28
theorem needOf_ok (i : Nat) : fX12_needOf (iI i) = some (iI (2400 + 64 * i : Nat)) := by
  rw [fX12_needOf, show (2400 : Int32) = iI 2400 by decide +kernel, show (64 : Int32) = iI 64 by decide +kernel, iI_mul, iI_add]
  rfl
theorem Nd.rq {A : Nat → Nat → Prop} {Q : Nat → Prop} {w w' : rW} {N : List (Fo × Nat)} (h : Nd w N) (hs : Rq A Q w w') (hA : ∀ n i, A n i → (n = 0 ∧ 4000 ≤ i) ∨ (n ≠ 0 ∧ n ≠ 13 ∧ n ≠ 14)) (hQ : ¬ Q 28) : Nd w' N := by
  obtain ⟨h1, h2, h3⟩ := h
  have n13 : ∀ i, ¬ A 13 i := fun i z => by have := hA _ _ z; omega
  have n14 : ∀ i, ¬ A 14 i := fun i z => by have := hA _ _ z; omega
  refine ⟨by rw [hs.2 28 hQ]; exact h1, h2, fun j F d e => ?_⟩
  obtain ⟨a, b, c, g, g2⟩ := h3 j F d e
  have hj := (List.getElem?_eq_some_iff.mp e).1
  exact ⟨a.rq hs (fun k k1 k2 z => by have := hA _ _ z; omega), b, by rw [hs.1 13 j (n13 j)]; exact c, by rw [hs.1 14 j (n14 j)]; exact g, g2⟩
theorem comesOn_big {w : rW} {p : List Nat} (hp : Ly (rA w 0) 8000 p) (hc : ∀ c ∈ p, c < 128) (hl : 8000 + p.length ≤ 10000) (hb : 20 < p.countP noP) (dd : Int32) : fX12_comesOn (iI (8000 + p.length : Nat)) dd w = some w := by
  have c8 : (8000 : Int32) = iI ((8000 : Nat) : Int) := by decide +kernel
  have c20 : (20 : Int32) = iI ((20 : Nat) : Int) := by decide +kernel
  have := List.countP_le_length (p := noP) (l := p)
  rw [fX12_comesOn, c8, size_ok hc hp hl, Option.bind_some, if_pos (by rw [c20, iI_lt (by omega) (by omega) (by omega) (by omega)]; omega)]
theorem comesOnL_ok {w : rW} {N : List (Fo × Nat)} (h : Nd w N) {D : Fo} (hD : Lt w 8000 D) (x2 : Int32) (K : Int32 → Option rW) : ∀ (m fu j : Nat), m < fu → j + m = N.length → fX12_comesOn_L25 (iI (8000 + tln D : Nat)) x2 w fu K (iI j) = if (N.drop j).any (fun e => fEq e.1 D) = true then some w else K (iI N.length) := by
  obtain ⟨h1, h2, h3⟩ := h
  intro m
  induction m with
  | zero =>
    intro fu j hf hj
    obtain ⟨fu, rfl⟩ : ∃ z, fu = z + 1 := ⟨fu - 1, by omega⟩
    have hj' : j = N.length := hj
    rw [fX12_comesOn_L25, h1, if_pos (by rw [iI_le (by omega) (by omega) (by omega) (by omega)]; omega), hj', List.drop_length]
    rw [if_neg (by simp)]
  | succ m ih =>
    intro fu j hf hj
    obtain ⟨fu, rfl⟩ : ∃ z, fu = z + 1 := ⟨fu - 1, by omega⟩
    have hlt : j < N.length := by omega
    obtain ⟨F, d⟩ : Fo × Nat := N[j]
    obtain ⟨F, d, eN⟩ : ∃ F d, N[j] = (F, d) := ⟨_, _, rfl⟩
    obtain ⟨a, b, c, g, -⟩ := h3 j F d (by rw [List.getElem?_eq_getElem hlt, eN])
    rw [fX12_comesOn_L25, h1, if_neg (by rw [iI_le (by omega) (by omega) (by omega) (by omega)]; omega), needOf_ok, Option.bind_some, raN (by omega) (by omega), Option.bind_some, c, show (8000 : Int32) = iI ((8000 : Nat) : Int) by decide +kernel, a.same hD, Option.bind_some, List.drop_eq_getElem_cons hlt, eN, List.any_cons, iL_1, iI_add, show (j : Int) + 1 = ((j + 1 : Nat) : Int) by omega, ih fu (j + 1) (by omega) (by omega)]
    cases fEq F D with
    | true => rw [if_neg iB_tn, Bool.true_or, if_pos rfl]
    | false => rw [if_pos iB_fz, Bool.false_or]
theorem comesOn_ok {w : rW} {N : List (Fo × Nat)} (h : Nd w N) {D : Fo} (hD : fOk D) (hT : Ly (rA w 0) 8000 (fTxt D)) (hl : 8000 + tln D ≤ 10000) {dd : Nat} (hd : dd < N.length) : ∃ w', fX12_comesOn (iI (8000 + tln D : Nat)) (iI (dd + 1 : Nat)) w = some w' ∧ Nd w' (oNd dd D N) ∧ Rq CoA CoF w w' := by
  obtain ⟨h1, h2, h3⟩ := id h
  have c20 : (20 : Int32) = iI ((20 : Nat) : Int) := by decide +kernel
  have c24 : (24 : Int32) = iI ((24 : Nat) : Int) := by decide +kernel
  have c8 : (8000 : Int32) = iI ((8000 : Nat) : Int) := by decide +kernel
  have lt : (fTxt D).length = tln D := rfl
  have es := size_ok (fTxt_lt D hD) hT (by omega)
  rw [cntP D hD, lt] at es
  have sz : fSz D ≤ tln D := by rw [← cntP D hD]; exact List.countP_le_length
  unfold oNd
  rw [fX12_comesOn, c8, es, Option.bind_some, h1]
  by_cases c1 : 20 < fSz D
  · rw [if_pos (by rw [c20, iI_lt (by omega) (by omega) (by omega) (by omega)]; omega), if_pos (Or.inl c1)]
    exact ⟨w, rfl, h, Rq.rf w⟩
  rw [if_neg (by rw [c20, iI_lt (by omega) (by omega) (by omega) (by omega)]; omega)]
  by_cases c2 : 24 ≤ N.length
  · rw [if_pos (by rw [c24]; congr 1; omega), if_pos (Or.inr c2)]
    exact ⟨w, rfl, h, Rq.rf w⟩
  have t3 := tln_3 D hD
  have lv := (lev_tl D hD).1
  have hDt : Lt w 8000 D := ⟨hD, hT, hl, by omega⟩
  rw [if_neg (by rw [c24, iI_eq (by omega) (by omega) (by omega) (by omega)]; omega), if_neg (show ¬ (20 < fSz D ∨ 24 ≤ N.length) from fun z => z.elim c1 c2), show (0 : Int32) = iI ((0 : Nat) : Int) from rfl, comesOnL_ok h hDt _ _ N.length kFU 0 (by unfold kFU; omega) (by omega), List.drop_zero]
  by_cases c3 : N.any (fun e => fEq e.1 D) = true
  · rw [if_pos c3, if_pos c3]
    exact ⟨w, rfl, h, Rq.rf w⟩
  · rw [if_neg c3, if_neg c3, needOf_ok, Option.bind_some]
    obtain ⟨w1, e1, r1, l1⟩ := copies_ok (a := 2400 + 64 * N.length) hT (by omega) (by omega) (Or.inr (by omega))
    rw [lt] at e1 r1
    have f28 : rF w1 28 = iI N.length := by rw [r1.2 28 (fun z => z)]; exact h1
    obtain ⟨w2, ew2⟩ : ∃ w2, w2 = rSF (rSA (rSA w1 13 N.length (iI (2400 + 64 * N.length + tln D : Nat))) 14 N.length (iI (dd + 1 : Nat))) 28 (iI (N.length + 1 : Nat)) := ⟨_, rfl⟩
    have A2 : rA w2 0 = rA w1 0 := by rw [ew2]; rfl
    have A13 : ∀ j, j ≠ N.length → rA w2 13 j = rA w 13 j := fun j hj => by
      rw [ew2]
      rw [rA_SF]
      rw [rA_SA_o (by omega), rA_SA_j hj]
      exact r1.1 13 j (fun z => by have := z.1; omega)
    have A14 : ∀ j, j ≠ N.length → rA w2 14 j = rA w 14 j := fun j hj => by
      rw [ew2]
      rw [rA_SF]
      rw [rA_SA_j hj, rA_SA_o (by omega)]
      exact r1.1 14 j (fun z => by have := z.1; omega)
    have rr : Rq CoA CoF w w2 := by
      rw [ew2]
      exact Rq.tr (Rq.tr (Rq.tr (r1.wide (fun n i z => Or.inl ⟨z.1, by have := z.2.1; omega, by have := z.2.2; omega⟩) (fun _ z => z.elim)) (Rq.sa (Or.inr (Or.inl rfl)))) (Rq.sa (Or.inr (Or.inr rfl)))) (Rq.sf rfl)
    refine ⟨w2, ?_, ⟨?_, ?_, fun j F d e => ?_⟩, rr⟩
    · rw [e1, kb2_s, rsN (by omega) (by omega), Option.bind_some, rF_SA, f28, rsN (by omega) (by omega), Option.bind_some, rpN, Option.bind_some, rF_SA, rF_SA, f28, iL_1, iI_add, ew2]
      rfl
    · rw [ew2, rF_SF_s, List.length_append, List.length_singleton]
    · rw [List.length_append, List.length_singleton]; omega
    · by_cases c : j < N.length
      · rw [List.getElem?_append_left c] at e
        obtain ⟨a, b, c', g, g2⟩ := h3 j F d e
        refine ⟨(a.rq r1 (fun k k1 k2 z => by have := z.2.1; omega)).of (fun k _ _ => by rw [A2]), b, by rw [A13 j (by omega)]; exact c', by rw [A14 j (by omega)]; exact g, g2⟩
      · have hj := (List.getElem?_eq_some_iff.mp e).1
        rw [List.length_append, List.length_singleton] at hj
        have ej : j = N.length := by omega
        rw [ej, List.getElem?_append_right (Nat.le_refl _), Nat.sub_self] at e
        cases e
        rw [ej]
        refine ⟨⟨hD, by rw [A2]; exact l1, by omega, by omega⟩, by omega, ?_, ?_, by omega⟩
        · rw [ew2]
          rw [rA_SF]
          rw [rA_SA_o (by omega), rA_SA_s]
        · rw [ew2]
          rw [rA_SF]
          rw [rA_SA_s]
/-- what was made, whole or cut -/
theorem offer_ok {w : rW} {N : List (Fo × Nat)} (h : Nd w N) {σ : Nat → Option Fo} (hσ : sOk σ) {pre l post : List Nat} {j : Nat} {D : Fo} (hD : fOk D) (eD : fTxt D = pre ++ (mkL σ l ++ post)) (hj : j = l.length ∨ 20 < (mkL σ (l.take j)).countP noP) (hT : Ly (rA w 0) 8000 (pre ++ (mkL σ (l.take j) ++ post))) (hl : 8000 + (pre ++ (mkL σ (l.take j) ++ post)).length ≤ 10000) (hl1 : ∀ c ∈ l, c < 128) {dd : Nat} (hd : dd < N.length) : ∃ w', fX12_comesOn (iI (8000 + (pre ++ (mkL σ (l.take j) ++ post)).length : Nat)) (iI (dd + 1 : Nat)) w = some w' ∧ Nd w' (oNd dd D N) ∧ Rq CoA CoF w w' := by
  by_cases c : j = l.length
  · rw [c, List.take_length] at hT hl ⊢
    rw [← eD] at hT hl ⊢
    exact comesOn_ok h hD hT hl hd
  · have hb := hj.resolve_left c
    have eL : mkL σ l = mkL σ (l.take j) ++ mkL σ (l.drop j) := by rw [← mkL_app, List.take_append_drop]
    have lt : ∀ x ∈ pre ++ (mkL σ (l.take j) ++ post), x < 128 := by
      have a := fTxt_lt D hD
      rw [eD] at a
      intro x hx
      rcases List.mem_append.mp hx with z | z
      · exact a x (List.mem_append.mpr (Or.inl z))
      · rcases List.mem_append.mp z with z | z
        · exact mkL_lt hσ (fun d hd => hl1 d (List.mem_of_mem_take hd)) x z
        · exact a x (List.mem_append.mpr (Or.inr (List.mem_append.mpr (Or.inr z))))
    have big : 20 < (pre ++ (mkL σ (l.take j) ++ post)).countP noP := by
      rw [List.countP_append, List.countP_append]
      omega
    have sD : 20 < fSz D := by
      rw [← cntP D hD, eD, List.countP_append, List.countP_append, eL, List.countP_append]
      omega
    refine ⟨w, comesOn_big hT lt hl big _, ?_, Rq.rf w⟩
    unfold oNd
    rw [if_pos (Or.inl sD)]
    exact h
