/-! THE MODEL: copies, counts of a sign, putting for a letter in a text -/
def InA (a b : Nat) (n i : Nat) : Prop := n = 0 ∧ a ≤ i ∧ i < b
theorem Ly.rq {A : Nat → Nat → Prop} {Q : Nat → Prop} {w w' : rW} {a : Nat} {l : List Nat} (h : Ly (rA w 0) a l) (hs : Rq A Q w w') (hA : ∀ j, a ≤ j → j < a + l.length → ¬ A 0 j) : Ly (rA w' 0) a l := fun j c hc => by
  have hj := (List.getElem?_eq_some_iff.mp hc).1
  rw [hs.1 0 (a + j) (hA _ (by omega) (by omega))]
  exact h j c hc
theorem copyL_ok (i0 x2 a0 : Nat) (K : rW → Option (Int32 × rW)) (hx : x2 ≤ 10000) (ha : a0 + (x2 - i0) ≤ 10000) (hd : x2 ≤ a0 ∨ a0 + (x2 - i0) ≤ i0) (h0 : i0 ≤ x2) : ∀ (l : List Nat) (fu i : Nat) (w : rW), l.length < fu → i0 ≤ i → i + l.length = x2 → Ly (rA w 0) i l → ∃ w', fX12_copies_L3 (iI i0) (iI x2) (iI a0) fu (fun _ w => K w) (iI i) w = K w' ∧ Rq (InA (a0 + (i - i0)) (a0 + (x2 - i0))) NoF w w' ∧ Ly (rA w' 0) (a0 + (i - i0)) l := by
  intro l
  induction l with
  | nil =>
    intro fu i w hf h1 hi h
    obtain ⟨fu, rfl⟩ : ∃ n, fu = n + 1 := ⟨fu - 1, by omega⟩
    have hi' : i = x2 := hi
    exact ⟨w, by rw [fX12_copies_L3, if_pos (by rw [iI_le (by omega) (by omega) (by omega) (by omega)]; omega)], Rq.rf w, Ly.nil⟩
  | cons c l ih =>
    intro fu i w hf h1 hi h
    obtain ⟨fu, rfl⟩ : ∃ n, fu = n + 1 := ⟨fu - 1, by omega⟩
    rw [List.length_cons] at hf hi
    have e1 : iI (i : Int) + 1 = iI (i + 1 : Nat) := by rw [iL_1, iI_add]; rfl
    have r1 : Rq (InA (a0 + (i - i0)) (a0 + (x2 - i0))) NoF w (rSA w 0 (a0 + (i - i0)) (iI c)) := Rq.sa ⟨rfl, Nat.le_refl _, by omega⟩
    have h2 : Ly (rA (rSA w 0 (a0 + (i - i0)) (iI c)) 0) (i + 1) l := h.tl.rq r1 (fun j j1 j2 z => by obtain ⟨-, z1, z2⟩ := z; omega)
    obtain ⟨w2, e2, r2, l2⟩ := ih fu (i + 1) _ (by omega) (by omega) (by omega) h2
    rw [show a0 + (i + 1 - i0) = a0 + (i - i0) + 1 by omega] at r2 l2
    refine ⟨w2, ?_, r1.tr (r2.wide (fun n j z => ⟨z.1, by have := z.2.1; omega, z.2.2⟩) (fun _ z => z)), Ly.cons ?_ l2⟩
    · rw [fX12_copies_L3, if_neg (by rw [iI_le (by omega) (by omega) (by omega) (by omega)]; omega), raN (by omega) (by omega), Option.bind_some, h.hd, iI_add, iI_sub, show (a0 : Int) + (i : Int) - (i0 : Int) = ((a0 + (i - i0) : Nat) : Int) by omega, rsN (by omega) (by omega), Option.bind_some, e1]
      exact e2
    · rw [r2.1 0 _ (fun z => by have := z.2.1; omega), rA_SA_s]
theorem copies_ok {w : rW} {i a : Nat} {l : List Nat} (h : Ly (rA w 0) i l) (hi : i + l.length ≤ 10000) (ha : a + l.length ≤ 10000) (hd : i + l.length ≤ a ∨ a + l.length ≤ i) : ∃ w', fX12_copies (iI i) (iI (i + l.length : Nat)) (iI a) w = some (iI (a + l.length : Nat), w') ∧ Rq (InA a (a + l.length)) NoF w w' ∧ Ly (rA w' 0) a l := by
  obtain ⟨w', e, r, g⟩ := copyL_ok i (i + l.length) a (fun w2 => some ((iI a + iI (i + l.length : Nat)) - iI i, w2)) hi (by omega) (by omega) (by omega) l kFU i w (by unfold kFU; omega) (Nat.le_refl _) rfl h
  rw [Nat.sub_self, Nat.add_zero] at r g
  rw [Nat.add_sub_cancel_left] at r
  refine ⟨w', ?_, r, g⟩
  rw [fX12_copies, e, iI_add, iI_sub]
  congr 3
  omega
def cntC (k : Nat) (l : List Nat) : Nat := l.countP fun c => decide (c = k)
theorem manyL_ok {w : rW} (x1 : Int32) {x2 k : Nat} (hk : k < 200) (K : Int32 → Int32 → Option Int32) : ∀ (l : List Nat) (fu n i : Nat), l.length < fu → (∀ c ∈ l, c < 128) → Ly (rA w 0) i l → i + l.length = x2 → x2 ≤ 10000 → fX12_many_L6 x1 (iI x2) (iI k) w fu K (iI n) (iI i) = K (iI (n + cntC k l : Nat)) (iI x2) := by
  intro l
  induction l with
  | nil =>
    intro fu n i hf _ _ hi h0
    obtain ⟨fu, rfl⟩ : ∃ g, fu = g + 1 := ⟨fu - 1, by omega⟩
    have hi' : i = x2 := hi
    rw [fX12_many_L6, if_pos (by rw [iI_le (by omega) (by omega) (by omega) (by omega)]; omega), hi']
    rfl
  | cons c l ih =>
    intro fu n i hf hc h hi h0
    rw [List.length_cons] at hf hi
    obtain ⟨fu, rfl⟩ : ∃ g, fu = g + 1 := ⟨fu - 1, by omega⟩
    have hcc := hc c List.mem_cons_self
    have hr := fun n => ih fu n (i + 1) (by omega) (fun d hd => hc d (List.mem_cons_of_mem _ hd)) h.tl (by omega) h0
    have e1 : iI (i : Int) + 1 = iI (i + 1 : Nat) := by rw [iL_1, iI_add]; rfl
    unfold cntC at hr ⊢
    rw [fX12_many_L6, if_neg (by rw [iI_le (by omega) (by omega) (by omega) (by omega)]; omega), raN (by omega) (by omega), Option.bind_some, h.hd, e1, List.countP_cons]
    by_cases ck : c = k
    · rw [if_pos (by rw [ck]), iL_1, iI_add, show (n : Int) + 1 = ((n + 1 : Nat) : Int) by omega, hr, if_pos (decide_eq_true ck)]
      congr 2
      omega
    · rw [if_neg (by rw [iI_eq (by omega) (by omega) (by omega) (by omega)]; omega), iL_0, iI_add, Int.add_zero, hr, if_neg (by rw [decide_eq_false ck]; exact Bool.false_ne_true)]
      rfl
theorem many_ok {w : rW} {l : List Nat} {i k : Nat} (hk : k < 200) (hc : ∀ c ∈ l, c < 128) (h : Ly (rA w 0) i l) (hi : i + l.length ≤ 10000) : fX12_many (iI i) (iI (i + l.length : Nat)) (iI k) w = some (iI (cntC k l : Nat)) := by
  have := manyL_ok (iI i) (x2 := i + l.length) hk (fun y _ => some y) l kFU 0 i (by unfold kFU; omega) hc h rfl hi
  rw [Nat.zero_add] at this
  rw [fX12_many]
  exact this
/-! putting -/
def rp (k : Nat) (m l : List Nat) : List Nat := l.flatMap fun c => if c = k then m else [c]
theorem rp_app (k : Nat) (m l l' : List Nat) : rp k m (l ++ l') = rp k m l ++ rp k m l' := List.flatMap_append
theorem rp_cons (k : Nat) (m l : List Nat) (c : Nat) : rp k m (c :: l) = (if c = k then m else [c]) ++ rp k m l := List.flatMap_cons
theorem rp_len {k : Nat} {m : List Nat} (hm : 1 ≤ m.length) : ∀ l, (rp k m l).length = l.length + cntC k l * (m.length - 1) := by
  intro l
  induction l with
  | nil => show 0 = 0 + 0 * (m.length - 1); omega
  | cons c l ih =>
    rw [rp_cons, List.length_append, ih, List.length_cons]
    unfold cntC
    rw [List.countP_cons]
    by_cases ck : c = k
    · rw [if_pos ck, if_pos (decide_eq_true ck), Nat.add_mul]
      omega
    · rw [if_neg ck, if_neg (by rw [decide_eq_false ck]; exact Bool.false_ne_true)]
      show 1 + (l.length + List.countP (fun c => decide (c = k)) l * (m.length - 1)) = l.length + 1 + List.countP (fun c => decide (c = k)) l * (m.length - 1)
      omega
theorem put76 {m : List Nat} (hm : 8000 + m.length ≤ 10000) {B : Nat} (hB : B + m.length ≤ 8000) (x1 x2 x3 x4 x5 x6 x8 : Int32) (K : Int32 → rW → Option (Int32 × rW)) : ∀ (t fu : Nat) (w : rW), t < fu → t ≤ m.length → Ly (rA w 0) 8000 m → ∃ w', fX12_puts_L76 x1 x2 x3 x4 x5 x6 x8 fu (fun y _ w => K y w) (iI (B + t : Nat)) (iI ((8000 : Int) + t - 1)) w = K (iI B) w' ∧ Rq (InA B (B + t)) NoF w w' ∧ Ly (rA w' 0) B (m.take t) := by
  intro t
  induction t with
  | zero =>
    intro fu w hf _ h
    obtain ⟨fu, rfl⟩ : ∃ n, fu = n + 1 := ⟨fu - 1, by omega⟩
    exact ⟨w, by rw [fX12_puts_L76, if_pos (by decide +kernel)]; rfl, Rq.rf w, by rw [List.take_zero]; exact Ly.nil⟩
  | succ t ih =>
    intro fu w hf ht h
    obtain ⟨fu, rfl⟩ : ∃ n, fu = n + 1 := ⟨fu - 1, by omega⟩
    have ht' : t < m.length := by omega
    have r1 : Rq (InA B (B + (t + 1))) NoF w (rSA w 0 (B + t) (iI m[t])) := Rq.sa ⟨rfl, by omega, by omega⟩
    have h2 : Ly (rA (rSA w 0 (B + t) (iI m[t])) 0) 8000 m := h.rq r1 (fun j j1 j2 z => by obtain ⟨-, z1, z2⟩ := z; omega)
    obtain ⟨w2, e2, r2, l2⟩ := ih fu _ (by omega) (by omega) h2
    refine ⟨w2, ?_, r1.tr (r2.wide (fun n j z => ⟨z.1, z.2.1, by have := z.2.2; omega⟩) (fun _ z => z)), ?_⟩
    · have e8 : rA w 0 (8000 + t) = iI m[t] := h t _ (List.getElem?_eq_getElem ht')
      rw [fX12_puts_L76, show (8000 : Int) + ((t + 1 : Nat) : Int) - 1 = ((8000 + t : Nat) : Int) by omega, if_neg (by rw [show (8000 : Int32) = iI 8000 by decide +kernel, iI_lt (by omega) (by omega) (by omega) (by omega)]; omega), raN (by omega) (by omega), Option.bind_some, e8, iN_1, iI_add, iI_add, show ((B + (t + 1) : Nat) : Int) + -1 = ((B + t : Nat) : Int) by omega, rsN (by omega) (by omega), Option.bind_some, show ((8000 + t : Nat) : Int) + -1 = (8000 : Int) + (t : Int) - 1 by omega]
      exact e2
    · rw [List.take_succ_eq_append_getElem ht']
      refine Ly.app l2 ?_
      rw [List.length_take, Nat.min_eq_left (by omega)]
      refine Ly.cons ?_ Ly.nil
      rw [r2.1 0 _ (fun z => by have := z.2.2; omega), rA_SA_s]
theorem put33 {m : List Nat} (hm1 : 1 ≤ m.length) (hm : 8000 + m.length ≤ 10000) {k a : Nat} (hk : k < 200) {l : List Nat} (hl : ∀ c ∈ l, c < 128) (hB : a + (rp k m l).length ≤ 8000) (x2 x5 x6 : Int32) (K : rW → Option (Int32 × rW)) (x4 : Int32) (h4 : x4 - (1 : Int32) = iI ((8000 : Int) + m.length - 1)) : ∀ (j fu : Nat) (w : rW), j < fu → j ≤ l.length → Ly (rA w 0) a (l.take j) → Ly (rA w 0) 8000 m → Ly (rA w 0) (a + (rp k m (l.take j)).length) (rp k m (l.drop j)) → ∃ w', fX12_puts_L33 (iI a) x2 (iI k) x4 x5 x6 fu (fun _ _ w => K w) (iI (a + (rp k m (l.take j)).length : Nat)) (iI ((a : Int) + j - 1)) w = K w' ∧ Rq (InA a (a + (rp k m l).length)) NoF w w' ∧ Ly (rA w' 0) a (rp k m l) := by
  have pre : ∀ j, (rp k m l).length = (rp k m (l.take j)).length + (rp k m (l.drop j)).length := fun j => by
    rw [← List.length_append, ← rp_app, List.take_append_drop]
  have le : ∀ u : List Nat, u.length ≤ (rp k m u).length := fun u => by rw [rp_len hm1]; omega
  intro j
  induction j with
  | zero =>
    intro fu w hf _ h1 h2 h3
    obtain ⟨fu, rfl⟩ : ∃ n, fu = n + 1 := ⟨fu - 1, by omega⟩
    refine ⟨w, by rw [fX12_puts_L33, if_pos (by rw [iI_lt (by omega) (by omega) (by omega) (by omega)]; omega)], Rq.rf w, ?_⟩
    rw [List.take_zero, List.drop_zero] at h3
    exact h3
  | succ j ih =>
    intro fu w hf hj h1 h2 h3
    obtain ⟨fu, rfl⟩ : ∃ n, fu = n + 1 := ⟨fu - 1, by omega⟩
    have hj' : j < l.length := by omega
    have hc := hl l[j] (List.getElem_mem hj')
    have et : l.take (j + 1) = l.take j ++ [l[j]] := List.take_succ_eq_append_getElem hj'
    have ed : l.drop j = l[j] :: l.drop (j + 1) := List.drop_eq_getElem_cons hj'
    have lt : (l.take j).length = j := by rw [List.length_take]; omega
    have lj := le (l.take j)
    have ll := pre j
    have ll1 := pre (j + 1)
    have er : rp k m (l.take (j + 1)) = rp k m (l.take j) ++ (if l[j] = k then m else [l[j]]) := by
      rw [et, rp_app, rp_cons]
      show _ ++ ((if l[j] = k then m else [l[j]]) ++ []) = _
      rw [List.append_nil]
    rw [et] at h1
    have e8 : rA w 0 (a + j) = iI l[j] := by have := h1.snd.hd; rw [lt] at this; exact this
    have erd : rp k m (l.drop j) = (if l[j] = k then m else [l[j]]) ++ rp k m (l.drop (j + 1)) := by rw [ed, rp_cons]
    rw [fX12_puts_L33, show (a : Int) + ((j + 1 : Nat) : Int) - 1 = ((a + j : Nat) : Int) by omega, if_neg (by rw [iI_lt (by omega) (by omega) (by omega) (by omega)]; omega), raN (by omega) (by omega), Option.bind_some, Option.bind_some, e8]
    by_cases c : l[j] = k
    · rw [if_pos c] at er erd
      rw [er, List.length_append] at h3 ll1
      obtain ⟨w1, e1, r1, l1⟩ := put76 hm (B := a + (rp k m (l.take j)).length) (by omega) (iI a) x2 (iI k) x4 x5 x6 (iI (a + j : Nat)) (fun y7 w4 => fX12_puts_L33 (iI a) x2 (iI k) x4 x5 x6 fu (fun _ _ w => K w) y7 (iI (a + j : Nat) + (-1 : Int32)) w4) m.length kFU w (by unfold kFU; omega) (Nat.le_refl _) h2
      rw [List.take_length] at l1
      have n1 : ∀ (b : Nat) (u : List Nat), (b + u.length ≤ a + (rp k m (l.take j)).length ∨ a + (rp k m (l.take j)).length + m.length ≤ b) → Ly (rA w 0) b u → Ly (rA w1 0) b u := fun b u hb hu => hu.rq r1 (fun i i1 i2 z => by obtain ⟨-, z1, z2⟩ := z; omega)
      obtain ⟨w2, e2, r2, l2⟩ := ih fu w1 (by omega) (by omega) (n1 _ _ (Or.inl (by omega)) h1.fst) (n1 _ _ (Or.inr (by omega)) h2) (by rw [erd]; exact Ly.app l1 (n1 _ _ (Or.inr (by omega)) (by rw [← Nat.add_assoc] at h3; exact h3)))
      refine ⟨w2, ?_, Rq.tr (r1.wide (fun n i z => ⟨z.1, by have := z.2.1; omega, by have := z.2.2; omega⟩) (fun _ z => z)) r2, l2⟩
      rw [if_pos (by rw [c]), er, List.length_append, ← Nat.add_assoc, h4]
      refine e1.trans ?_
      rw [iN_1, iI_add, show ((a + j : Nat) : Int) + -1 = (a : Int) + (j : Int) - 1 by omega]
      exact e2
    · rw [if_neg c] at er erd
      rw [er, List.length_append, List.length_singleton] at h3 ll1
      have r1 : Rq (InA a (a + (rp k m l).length)) NoF w (rSA w 0 (a + (rp k m (l.take j)).length) (iI l[j])) := Rq.sa ⟨rfl, by omega, by omega⟩
      have n1 : ∀ (b : Nat) (u : List Nat), (b + u.length ≤ a + (rp k m (l.take j)).length ∨ a + (rp k m (l.take j)).length + 1 ≤ b) → Ly (rA w 0) b u → Ly (rA (rSA w 0 (a + (rp k m (l.take j)).length) (iI l[j])) 0) b u := fun b u hb hu i d hd => by
        have hi := (List.getElem?_eq_some_iff.mp hd).1
        rw [rA_SA_j (by omega)]
        exact hu i d hd
      obtain ⟨w2, e2, r2, l2⟩ := ih fu _ (by omega) (by omega) (n1 _ _ (Or.inl (by omega)) h1.fst) (n1 _ _ (Or.inr (by omega)) h2) (by rw [erd]; exact Ly.cons rA_SA_s (n1 _ _ (Or.inr (by omega)) (by rw [← Nat.add_assoc] at h3; exact h3)))
      refine ⟨w2, ?_, r1.tr r2, l2⟩
      rw [if_neg (by rw [iI_eq (by omega) (by omega) (by omega) (by omega)]; omega), er, List.length_append, List.length_singleton, iN_1, iI_add, iI_add, show ((a + ((rp k m (l.take j)).length + 1) : Nat) : Int) + -1 = ((a + (rp k m (l.take j)).length : Nat) : Int) by omega, rsN (by omega) (by omega), Option.bind_some, show ((a + j : Nat) : Int) + -1 = (a : Int) + (j : Int) - 1 by omega]
      exact e2
theorem puts_ok {w : rW} {m : List Nat} (hm1 : 1 ≤ m.length) (hm : 8000 + m.length ≤ 10000) {k a : Nat} (hk : k < 200) {l : List Nat} (hl : ∀ c ∈ l, c < 128) (hB : a + (rp k m l).length ≤ 8000) (h1 : Ly (rA w 0) a l) (h2 : Ly (rA w 0) 8000 m) : ∃ w', fX12_puts (iI a) (iI (a + l.length : Nat)) (iI k) (iI (8000 + m.length : Nat)) w = some (iI (a + (rp k m l).length : Nat), w') ∧ Rq (InA a (a + (rp k m l).length)) NoF w w' ∧ Ly (rA w' 0) a (rp k m l) := by
  have len := rp_len hm1 (k := k) l
  have eg : (iI ((8000 + m.length : Nat) : Int) - (8000 : Int32)) - (1 : Int32) = iI ((m.length : Int) - 1) := by
    rw [show (8000 : Int32) = iI 8000 by decide +kernel, iL_1, iI_sub, iI_sub]
    congr 1
    omega
  have e4 : iI ((8000 + m.length : Nat) : Int) - (1 : Int32) = iI ((8000 : Int) + m.length - 1) := by
    rw [iL_1, iI_sub]
    congr 1
  have ev : iI ((a + l.length : Nat) : Int) + iI (cntC k l : Nat) * iI ((m.length : Int) - 1) = iI (a + (rp k m l).length : Nat) := by
    rw [iI_mul, iI_add, len]
    congr 1
    obtain ⟨q, hq⟩ : ∃ q, m.length = q + 1 := ⟨m.length - 1, by omega⟩
    rw [hq, show ((q + 1 : Nat) : Int) - 1 = (q : Int) by omega, Nat.add_sub_cancel]
    push_cast
    omega
  have hle : l.length ≤ (rp k m l).length := by rw [len]; exact Nat.le_add_right _ _
  have hfu : l.length < kFU := by unfold kFU; omega
  obtain ⟨w', e, r, g⟩ := put33 hm1 hm hk hl hB (iI (a + l.length : Nat)) (iI ((m.length : Int) - 1)) (iI (cntC k l : Nat) * iI ((m.length : Int) - 1)) (fun w => some (iI (a + (rp k m l).length : Nat), w)) _ e4 l.length kFU w hfu (Nat.le_refl _) (by rw [List.take_length]; exact h1) h2 (by rw [List.drop_length]; exact Ly.nil)
  rw [List.take_length] at e
  refine ⟨w', ?_, r, g⟩
  rw [fX12_puts, many_ok hk hl h1 (by omega), Option.bind_some, eg, ev, Option.bind_some]
  refine Eq.trans ?_ e
  rw [iL_1, iI_sub]
  congr 2
