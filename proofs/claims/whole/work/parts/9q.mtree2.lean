/-! .. trees -/
theorem begins_raw {w : rW} {l : Nat} {F : Fo} (hF : Ml w l F) : ∃ w', fX12_begins (iI l) w = some w' ∧ Nd w' [(F, 0)] ∧ rF w' 29 = iI ((0 : Nat) : Int) ∧ rF w' 31 = iI (-4) ∧ rF w' 32 = iI (-4) ∧ rF w' 33 = iI ((0 : Nat) : Int) ∧ rF w' 34 = iI ((0 : Nat) : Int) ∧ Rq AcA AcF w w' := by
  have l40 := hF.1
  have t60 := hF.2.2.1
  have lt : (fTxt F).length = tln F := rfl
  have c0 : (0 : Int32) = iI ((0 : Nat) : Int) := rfl
  have c1 : (1 : Int32) = iI ((1 : Nat) : Int) := rfl
  obtain ⟨w1, e1, r1, l1⟩ := copies_ok (a := 2400) hF.2.1.2.1 (by omega) (by omega) (Or.inl (by omega))
  rw [lt] at e1 r1
  obtain ⟨w2, ew2⟩ : ∃ w2, w2 = rSA (rSA w1 13 0 (iI (2400 + tln F : Nat))) 14 0 (iI ((0 : Nat) : Int)) := ⟨_, rfl⟩
  obtain ⟨w3, ew3⟩ : ∃ w3, w3 = rSF (rSF (rSF (rSF (rSF (rSF w2 28 (iI ((1 : Nat) : Int))) 29 (iI ((0 : Nat) : Int))) 31 (iI (-4))) 32 (iI (-4))) 33 (iI ((0 : Nat) : Int))) 34 (iI ((0 : Nat) : Int)) := ⟨_, rfl⟩
  have r2 : Rq AcA AcF w w2 := by
    rw [ew2]
    exact Rq.tr (Rq.tr (InA.ac (by omega) r1) (Rq.sa (Or.inr (Or.inr (Or.inr (Or.inl rfl)))))) (Rq.sa (Or.inr (Or.inr (Or.inr (Or.inr rfl)))))
  have r3 : Rq AcA AcF w w3 := by
    rw [ew3]
    exact Rq.tr (Rq.tr (Rq.tr (Rq.tr (Rq.tr (Rq.tr r2 (Rq.sf (Or.inl rfl))) (Rq.sf (Or.inr (Or.inl rfl)))) (Rq.sf (Or.inr (Or.inr (Or.inl rfl))))) (Rq.sf (Or.inr (Or.inr (Or.inr (Or.inl rfl)))))) (Rq.sf (Or.inr (Or.inr (Or.inr (Or.inr (Or.inl rfl))))))) (Rq.sf (Or.inr (Or.inr (Or.inr (Or.inr (Or.inr (Or.inl rfl)))))))
  have A : rA w3 = rA w2 := by rw [ew3]; rfl
  refine ⟨w3, ?_, ⟨?_, by show 1 ≤ 24; omega, fun j G d hj => ?_⟩, ?_, ?_, ?_, ?_, ?_, r3⟩
  · rw [fX12_begins, textOf_ok, Option.bind_some, Option.bind_some, hF.size, Option.bind_some, hF.to, c0, needOf_ok, Option.bind_some]
    show (kb2 (fX12_copies (iI (60 * l : Nat)) (iI (60 * l + tln F : Nat)) (iI (2400 : Nat)) w) fun v10 w8 => _) = _
    rw [e1, kb2_s, rsN (by omega) (by omega), Option.bind_some, rsN (by omega) (by omega), Option.bind_some, ← ew2, c1, iN_4, rpN, Option.bind_some, rpN, Option.bind_some, rpN, Option.bind_some, rpN, Option.bind_some, rpN, Option.bind_some, rpN, Option.bind_some, ew3]
  · rw [ew3, rF_SF_o (by omega), rF_SF_o (by omega), rF_SF_o (by omega), rF_SF_o (by omega), rF_SF_o (by omega), rF_SF_s]
    rfl
  · have j0 : j = 0 := by
      have := (List.getElem?_eq_some_iff.mp hj).1
      rw [List.length_singleton] at this
      omega
    subst j0
    cases hj
    rw [A, ew2]
    refine ⟨⟨hF.2.1.1, ?_, by omega, hF.2.1.2.2.2⟩, by omega, ?_, ?_, Nat.le_refl _⟩
    · have : rA w3 0 = rA w1 0 := by rw [A, ew2]; rfl
      rw [this]
      exact l1
    · rw [rA_SA_o (by omega), rA_SA_s]
    · rw [rA_SA_s]
  · rw [ew3, rF_SF_o (by omega), rF_SF_o (by omega), rF_SF_o (by omega), rF_SF_o (by omega), rF_SF_s]
  · rw [ew3, rF_SF_o (by omega), rF_SF_o (by omega), rF_SF_o (by omega), rF_SF_s]
  · rw [ew3, rF_SF_o (by omega), rF_SF_o (by omega), rF_SF_s]
  · rw [ew3, rF_SF_o (by omega), rF_SF_s]
  · rw [ew3, rF_SF_s]
/-- with room for acts it isn't over -/
def qLt (st k : Nat) (q q' : QS) : Prop := qO q' = false ∧ qA q' ≤ qA q + k
theorem qDn_lt {lk : Bool} {st : Nat} {like : Bool} {q : QS} (h : qO q = false) (hlt : qA q < st) : qLt st 1 q (qDn lk st like q).2 := by
  rw [qDn_eq h]
  split
  · exact ⟨h, Nat.le_succ _⟩
  · exact ⟨h, Nat.le_refl _⟩
theorem qOf_lt {st k d : Nat} {D : Fo} {q q' : QS} (h : qLt st k q q') : qLt st k q (qOf d D q') := by
  rw [qOf_eq]
  exact h
theorem qBa_lt {lk : Bool} {st : Nat} {F G : Fo} {d : Nat} {q : QS} (h : qO q = false) (hlt : qA q < st) : qLt st 1 q (qBa lk st F d G q) := by
  cases G with
  | sub x y =>
    have g := qDn_lt (lk := lk) (like := fLike F y) h hlt
    show qLt st 1 q (if (qDn lk st (fLike F y) q).1 = true then (match fMt y F σ0 with | some σ => qOf d (fSb σ x) (qDn lk st (fLike F y) q).2 | none => (qDn lk st (fLike F y) q).2) else (qDn lk st (fLike F y) q).2)
    split
    · cases fMt y F σ0 with
      | none => exact g
      | some σ => exact qOf_lt g
    · exact g
  | _ => exact ⟨h, Nat.le_succ _⟩
theorem qAh_lt {lk : Bool} {st : Nat} {F G : Fo} {d : Nat} {q : QS} (h : qO q = false) (hlt : qA q < st) : qLt st 1 q (qAh lk st d F G q) := by
  cases F with
  | sub a b =>
    cases G with
    | sub x y =>
      have g := qDn_lt (lk := lk) (like := fLike a x) h hlt
      show qLt st 1 q (if (qDn lk st (fLike a x) q).1 = true then (match fMt x a σ0 with | some σ => qOf d (.sub (fSb σ y) b) (qDn lk st (fLike a x) q).2 | none => (qDn lk st (fLike a x) q).2) else (qDn lk st (fLike a x) q).2)
      split
      · cases fMt x a σ0 with
        | none => exact g
        | some σ => exact qOf_lt g
      · exact g
    | _ => exact ⟨h, Nat.le_succ _⟩
  | _ => exact ⟨h, Nat.le_succ _⟩
theorem qBe_lt {lk : Bool} {st : Nat} {F G : Fo} {d : Nat} {q : QS} (h : qO q = false) (hlt : qA q < st) : qLt st 1 q (qBe lk st d F G q) := by
  cases F with
  | sub a b =>
    cases G with
    | sub x y =>
      have g := qDn_lt (lk := lk) (like := fLike b y) h hlt
      show qLt st 1 q (if (qDn lk st (fLike b y) q).1 = true then (match fMt y b σ0 with | some σ => qOf d (.sub a (fSb σ x)) (qDn lk st (fLike b y) q).2 | none => (qDn lk st (fLike b y) q).2) else (qDn lk st (fLike b y) q).2)
      split
      · cases fMt y b σ0 with
        | none => exact g
        | some σ => exact qOf_lt g
      · exact g
    | _ => exact ⟨h, Nat.le_succ _⟩
  | _ => exact ⟨h, Nat.le_succ _⟩
theorem qAct_lt {lk : Bool} {st : Nat} {odds : Int} {c : Nat} (hc : c = 100 ∨ c = 99) {F G : Fo} {d num : Nat} {q : QS} (h : qO q = false) (hlt : qA q + 2 ≤ st) : qLt st 2 q (qAct lk st odds c F d num G q) := by
  unfold qAct
  rw [if_neg (by omega)]
  rcases hc with rfl | rfl
  · rw [if_pos rfl]
    have := qBa_lt (lk := lk) (st := st) (F := F) (G := G) (d := d) h (by omega)
    exact ⟨this.1, by have := this.2; omega⟩
  · rw [if_neg (by omega)]
    have g := qAh_lt (lk := lk) (st := st) (F := F) (G := G) (d := d) h (by omega)
    have g2 := qBe_lt (lk := lk) (st := st) (F := F) (G := G) (d := d) g.1 (by have := g.2; omega)
    exact ⟨g2.1, by have := g.2; have := g2.2; omega⟩
/-- needs aren't deeper than told -/
def dOk (m : Nat) (q : QS) : Prop := ∀ e ∈ qN q, e.2 ≤ m
theorem qOf_d {m d : Nat} {D : Fo} {q : QS} (hd : d + 1 ≤ m) (h : dOk m q) : dOk m (qOf d D q) := by
  unfold qOf
  split
  · exact h
  · split
    · exact h
    · intro e he
      have he' : e ∈ qN q ++ [(D, d + 1)] := he
      rcases List.mem_append.mp he' with z | z
      · exact h e z
      · rw [List.mem_singleton.mp z]; exact hd
theorem qDn_d {m : Nat} {lk : Bool} {st : Nat} {like : Bool} {q : QS} (h : dOk m q) : dOk m (qDn lk st like q).2 := fun e he => h e (by rw [qDn_N] at he; exact he)
theorem qBa_d {m : Nat} {lk : Bool} {st : Nat} {F G : Fo} {d : Nat} {q : QS} (hd : d + 1 ≤ m) (h : dOk m q) : dOk m (qBa lk st F d G q) := by
  cases G with
  | sub x y =>
    show dOk m (if (qDn lk st (fLike F y) q).1 = true then (match fMt y F σ0 with | some σ => qOf d (fSb σ x) (qDn lk st (fLike F y) q).2 | none => (qDn lk st (fLike F y) q).2) else (qDn lk st (fLike F y) q).2)
    split
    · cases fMt y F σ0 with
      | none => exact qDn_d h
      | some σ => exact qOf_d hd (qDn_d h)
    · exact qDn_d h
  | _ => exact h
theorem qAh_d {m : Nat} {lk : Bool} {st : Nat} {F G : Fo} {d : Nat} {q : QS} (hd : d + 1 ≤ m) (h : dOk m q) : dOk m (qAh lk st d F G q) := by
  cases F with
  | sub a b =>
    cases G with
    | sub x y =>
      show dOk m (if (qDn lk st (fLike a x) q).1 = true then (match fMt x a σ0 with | some σ => qOf d (.sub (fSb σ y) b) (qDn lk st (fLike a x) q).2 | none => (qDn lk st (fLike a x) q).2) else (qDn lk st (fLike a x) q).2)
      split
      · cases fMt x a σ0 with
        | none => exact qDn_d h
        | some σ => exact qOf_d hd (qDn_d h)
      · exact qDn_d h
    | _ => exact h
  | _ => exact h
theorem qBe_d {m : Nat} {lk : Bool} {st : Nat} {F G : Fo} {d : Nat} {q : QS} (hd : d + 1 ≤ m) (h : dOk m q) : dOk m (qBe lk st d F G q) := by
  cases F with
  | sub a b =>
    cases G with
    | sub x y =>
      show dOk m (if (qDn lk st (fLike b y) q).1 = true then (match fMt y b σ0 with | some σ => qOf d (.sub a (fSb σ x)) (qDn lk st (fLike b y) q).2 | none => (qDn lk st (fLike b y) q).2) else (qDn lk st (fLike b y) q).2)
      split
      · cases fMt y b σ0 with
        | none => exact qDn_d h
        | some σ => exact qOf_d hd (qDn_d h)
      · exact qDn_d h
    | _ => exact h
  | _ => exact h
theorem qAct_d {m : Nat} {lk : Bool} {st : Nat} {odds : Int} {c : Nat} (hc : c = 100 ∨ c = 99) {F G : Fo} {d num : Nat} {q : QS} (hd : d + 1 ≤ m) (h : dOk m q) : dOk m (qAct lk st odds c F d num G q) := by
  unfold qAct
  rw [if_neg (by omega)]
  rcases hc with rfl | rfl
  · rw [if_pos rfl]
    exact qBa_d hd h
  · rw [if_neg (by omega)]
    exact qBe_d hd (qAh_d hd h)
theorem treeK {K : List (Nat × Fo)} {lk : Bool} {st : Nat} {sl : Bool} {odds : Int} (x1 x2 x4 : Int32) {i d c mx : Nat} {F : Fo} (hc : x4 = 0 ∧ c = 100 ∨ x4 ≠ 0 ∧ c = 99) (hdm : d + 1 ≤ mx) (T : rW → Option (Int32 × rW)) : ∀ (m fu k : Nat) (w : rW) (q : QS), m < fu → k + m = K.length → Mq w lk st sl odds q → qO q = false → qA q + 2 * m ≤ st → dOk mx q → MkK w K → (qN q)[i]? = some (F, d) → d < (qN q).length →
    ∃ w', fX12_tree_L78 x1 x2 (iI i) x4 fu (fun _ p => T p) (iI k) w = T w' ∧ Mq w' lk st sl odds (qKs lk st odds c F d (K.drop k) q) ∧ Rq AcA AcF w w' ∧ qLt st (2 * m) q (qKs lk st odds c F d (K.drop k) q) ∧ dOk mx (qKs lk st odds c F d (K.drop k) q) := by
  have hc' : c = 100 ∨ c = 99 := hc.imp (fun z => z.2) (fun z => z.2)
  intro m
  induction m with
  | zero =>
    intro fu k w q hf hk h ho ha hd0 hK hN hd
    obtain ⟨fu, rfl⟩ : ∃ z, fu = z + 1 := ⟨fu - 1, by omega⟩
    have n40 := hK.2.1
    have e : K.drop k = [] := List.drop_eq_nil_iff.mpr (by omega)
    rw [e]
    refine ⟨w, ?_, h, Rq.rf w, ⟨ho, Nat.le_refl _⟩, hd0⟩
    rw [fX12_tree_L78, hK.1, if_pos (by rw [iI_le (by omega) (by omega) (by omega) (by omega)]; omega)]
  | succ m ih =>
    intro fu k w q hf hk h ho ha hd0 hK hN hd
    obtain ⟨fu, rfl⟩ : ∃ z, fu = z + 1 := ⟨fu - 1, by omega⟩
    have n40 := hK.2.1
    have hlt : k < K.length := by omega
    obtain ⟨num, G, eK⟩ : ∃ num G, K[k] = (num, G) := ⟨_, _, rfl⟩
    obtain ⟨k1, k2⟩ := hK.2.2 k num G (by rw [List.getElem?_eq_getElem hlt, eK])
    have e : K.drop k = (num, G) :: K.drop (k + 1) := by rw [List.drop_eq_getElem_cons hlt, eK]
    obtain ⟨w1, e1, m1, r1⟩ := go_any h ho (Or.inr hc') k2 hN
    have eq : qKs lk st odds c F d (K.drop k) q = qKs lk st odds c F d (K.drop (k + 1)) (qAct lk st odds c F d num G q) := by
      rw [e]
      show (if qO q = true then q else qKs lk st odds c F d (K.drop (k + 1)) (qAct lk st odds c F d num G q)) = _
      rw [ho, if_neg Bool.false_ne_true]
    have g := qAct_g (lk := lk) (st := st) (odds := odds) (c := c) (num := num) (F := F) (G := G) hd
    have lt := qAct_lt (lk := lk) (st := st) (odds := odds) hc' (num := num) (F := F) (G := G) (d := d) ho (by omega)
    obtain ⟨w2, e2, m2, r2, l2, d2⟩ := ih fu (k + 1) w1 _ (by omega) (by omega) m1 lt.1 (by have := lt.2; omega) (qAct_d hc' hdm hd0) (hK.ac r1) (g.at hN) (by have := g.len; omega)
    have j100 : ∀ s1 : Int32, s1 = iI c → fX12_tree_J78_100 (fun q5 qw => fX12_tree_L78 x1 x2 (iI i) x4 fu (fun _ p => T p) q5 qw) (fun _ p => T p) x1 x2 (iI i) x4 (iI k) s1 w = T w2 := by
      intro s1 hs1
      rw [fX12_tree_J78_100, raN (by omega) (by omega), Option.bind_some, k1, hs1, e1, kb2_s, e1s]
      exact e2
    rw [eq]
    refine ⟨w2, ?_, m2, r1.tr r2, ⟨l2.1, by have := l2.2; have := lt.2; omega⟩, d2⟩
    rw [fX12_tree_L78, hK.1, if_neg (by rw [iI_le (by omega) (by omega) (by omega) (by omega)]; omega)]
    rcases hc with ⟨z1, z2⟩ | ⟨z1, z2⟩
    · rw [if_pos z1]
      exact j100 _ (by rw [z2]; decide +kernel)
    · rw [if_neg z1]
      exact j100 _ (by rw [z2]; decide +kernel)
theorem treeA {K : List (Nat × Fo)} {lk : Bool} {st : Nat} {sl : Bool} {odds : Int} (x1 x2 : Int32) {i d mx : Nat} {F : Fo} (hdm : d + 1 ≤ mx) (T : rW → Option (Int32 × rW)) {fu : Nat} (hf : 3 < fu) {w : rW} {q : QS} (h : Mq w lk st sl odds q) (ho : qO q = false) (ha : qA q + 160 ≤ st) (hd0 : dOk mx q) (hK : MkK w K) (hN : (qN q)[i]? = some (F, d)) (hd : d < (qN q).length) :
    ∃ w', fX12_tree_L69 x1 x2 (iI i) fu (fun _ p => T p) (0 : Int32) w = T w' ∧ Mq w' lk st sl odds (qAs lk st odds K F d [100, 99] q) ∧ Rq AcA AcF w w' ∧ qLt st 160 q (qAs lk st odds K F d [100, 99] q) ∧ dOk mx (qAs lk st odds K F d [100, 99] q) := by
  obtain ⟨fu, rfl⟩ : ∃ z, fu = z + 3 := ⟨fu - 3, by omega⟩
  have n40 := hK.2.1
  have z0 : (0 : Int32) = iI ((0 : Nat) : Int) := rfl
  obtain ⟨w1, e1, m1, r1, l1, d1⟩ := treeK (K := K) (lk := lk) (st := st) (sl := sl) (odds := odds) x1 x2 (0 : Int32) (i := i) (c := 100) (Or.inl ⟨rfl, rfl⟩) hdm (fun w2 => fX12_tree_L69 x1 x2 (iI i) (fu + 1 + 1) (fun _ p => T p) ((0 : Int32) + (1 : Int32)) w2) K.length kFU 0 w q (by unfold kFU; omega) (by omega) h ho (by omega) hd0 hK hN hd
  rw [List.drop_zero] at m1 l1 d1
  have g1 := qKs_g (lk := lk) (st := st) (odds := odds) (c := 100) (F := F) K q hd
  obtain ⟨w2, e2, m2, r2, l2, d2⟩ := treeK (K := K) (lk := lk) (st := st) (sl := sl) (odds := odds) x1 x2 ((0 : Int32) + (1 : Int32)) (i := i) (c := 99) (Or.inr ⟨by decide +kernel, rfl⟩) hdm (fun w2 => fX12_tree_L69 x1 x2 (iI i) (fu + 1) (fun _ p => T p) ((0 : Int32) + (1 : Int32) + (1 : Int32)) w2) K.length kFU 0 w1 _ (by unfold kFU; omega) (by omega) m1 l1.1 (by have := l1.2; omega) d1 (hK.ac r1) (g1.at hN) (by have := g1.len; omega)
  rw [List.drop_zero] at m2 l2 d2
  have eq : qAs lk st odds K F d [100, 99] q = qKs lk st odds 99 F d K (qKs lk st odds 100 F d K q) := by
    show (if qO q = true then q else if qO (qKs lk st odds 100 F d K q) = true then qKs lk st odds 100 F d K q else qKs lk st odds 99 F d K (qKs lk st odds 100 F d K q)) = _
    rw [ho, if_neg Bool.false_ne_true, l1.1, if_neg Bool.false_ne_true]
  rw [eq]
  refine ⟨w2, ?_, m2, r1.tr r2, ⟨l2.1, by have := l1.2; have := l2.2; omega⟩, d2⟩
  rw [fX12_tree_L69, if_neg (by decide +kernel)]
  refine Eq.trans e1 ?_
  show fX12_tree_L69 x1 x2 (iI i) (fu + 1 + 1) (fun _ p => T p) ((0 : Int32) + (1 : Int32)) w1 = _
  rw [fX12_tree_L69, if_neg (by decide +kernel)]
  refine Eq.trans e2 ?_
  show fX12_tree_L69 x1 x2 (iI i) (fu + 1) (fun _ p => T p) ((0 : Int32) + (1 : Int32) + (1 : Int32)) w2 = _
  rw [fX12_tree_L69, if_pos (by decide +kernel)]
theorem treeN {K : List (Nat × Fo)} {lk : Bool} {st : Nat} {sl : Bool} {odds : Int} (x1 : Int32) {mx : Nat} (hmx : mx ≤ 9) (T : rW → Option (Int32 × rW)) : ∀ (m fu i : Nat) (w : rW) (q : QS), m < fu → i + m = 24 → Mq w lk st sl odds q → qO q = false → qA q + 160 * m ≤ st → dOk mx q → MkK w K →
    ∃ w', fX12_tree_L45 x1 (iI mx) fu (fun _ p => T p) (iI i) w = T w' ∧ Mq w' lk st sl odds (qNs lk st odds K [100, 99] mx m i q) ∧ Rq AcA AcF w w' := by
  intro m
  induction m with
  | zero =>
    intro fu i w q hf hi h ho ha hd0 hK
    obtain ⟨fu, rfl⟩ : ∃ z, fu = z + 1 := ⟨fu - 1, by omega⟩
    have n24 := h.1.2.1
    refine ⟨w, ?_, h, Rq.rf w⟩
    rw [fX12_tree_L45, h.1.1, if_pos (by rw [iI_le (by omega) (by omega) (by omega) (by omega)]; omega)]
  | succ m ih =>
    intro fu i w q hf hi h ho ha hd0 hK
    obtain ⟨fu, rfl⟩ : ∃ z, fu = z + 1 := ⟨fu - 1, by omega⟩
    have n24 := h.1.2.1
    show ∃ w', _ = T w' ∧ Mq w' lk st sl odds (if qO q = true then q else match (qN q)[i]? with | none => q | some e => qNs lk st odds K [100, 99] mx m (i + 1) (if e.2 < mx then qAs lk st odds K e.1 e.2 [100, 99] q else q)) ∧ _
    rw [ho, if_neg Bool.false_ne_true, fX12_tree_L45, h.1.1]
    by_cases c : i < (qN q).length
    · obtain ⟨F, d, eN⟩ : ∃ F d, (qN q)[i] = (F, d) := ⟨_, _, rfl⟩
      have hN : (qN q)[i]? = some (F, d) := by rw [List.getElem?_eq_getElem c, eN]
      obtain ⟨-, -, -, v4, hd⟩ := h.1.2.2 i F d hN
      have hdm : d ≤ mx := hd0 (F, d) (List.mem_of_getElem? hN)
      rw [if_neg (by rw [iI_le (by omega) (by omega) (by omega) (by omega)]; omega), hN, raN (by omega) (by omega), Option.bind_some, v4]
      show ∃ w', _ = T w' ∧ Mq w' lk st sl odds (qNs lk st odds K [100, 99] mx m (i + 1) (if d < mx then qAs lk st odds K F d [100, 99] q else q)) ∧ _
      by_cases cd : d < mx
      · rw [if_neg (by rw [iI_eq (by omega) (by omega) (by omega) (by omega)]; omega), if_pos cd]
        obtain ⟨w1, e1, m1, r1, l1, d1⟩ := treeA (K := K) x1 (iI mx) (i := i) (show d + 1 ≤ mx by omega) (fun w3 => fX12_tree_L45 x1 (iI mx) fu (fun _ p => T p) (iI i + (1 : Int32)) w3) (fu := kFU) (by unfold kFU; omega) h ho (by omega) hd0 hK hN (by omega)
        obtain ⟨w2, e2, m2, r2⟩ := ih fu (i + 1) w1 _ (by omega) (by omega) m1 l1.1 (by have := l1.2; omega) d1 (hK.ac r1)
        refine ⟨w2, ?_, m2, r1.tr r2⟩
        refine Eq.trans e1 ?_
        show fX12_tree_L45 x1 (iI mx) fu (fun _ p => T p) (iI i + (1 : Int32)) w1 = _
        rw [e1s]
        exact e2
      · obtain ⟨w2, e2, m2, r2⟩ := ih fu (i + 1) w q (by omega) (by omega) h ho (by omega) hd0 hK
        rw [if_pos (by congr 1; omega), if_neg cd, e1s]
        exact ⟨w2, e2, m2, r2⟩
    · rw [if_pos (by rw [iI_le (by omega) (by omega) (by omega) (by omega)]; omega), List.getElem?_eq_none (by omega)]
      exact ⟨w, rfl, h, Rq.rf w⟩
theorem m_tree {w : rW} {S : AS} (h : MI w S) {l q : Int} (hl : I32 l) (hq : I32 q) : Md (fX12_tree (iI l) (iI q) w) (aTree S l q) S := by
  have hq' := hq
  obtain ⟨q0, q1⟩ := hq
  unfold aTree
  rw [fX12_tree, mIsLine h hl, Option.bind_some]
  cases hL : tLn (sT S) l with
  | none => exact Md.rf h (by rw [if_pos (show iB (none : Option Fo).isSome = 0 from rfl), iN_1])
  | some F =>
    rw [if_neg (show ¬ iB (some F).isSome = 0 from iB_tn), z0N, show (9 : Int64) = (iI 9).toInt64 by decide +kernel, isIn_ok hq' (by unfold I32; omega) (by unfold I32; omega), Option.bind_some]
    show Md _ (if 0 ≤ q ∧ q ≤ 9 then ((qN (qRun treeP (tKL (sT S)) 0 0 q.toNat F)).length : Int) else -1) S
    by_cases c : 0 ≤ q ∧ q ≤ 9
    · obtain ⟨w5, e5, r5, k5⟩ := asNow_ok h
      have m5 := h.rq (NwA.sc r5)
      obtain ⟨g5, el⟩ := m5.ml hL
      obtain ⟨w7, e7, n7, b29, b31, b32, b33, b34, r7⟩ := begins_raw g5
      rw [el] at e7
      have k7 := k5.ac r7
      obtain ⟨w10, ew10⟩ : ∃ w10, w10 = rSF (rSF w7 24 (0 : Int32)) 23 (1000000 : Int32) := ⟨_, rfl⟩
      have f37 : rF w10 37 = 0 := by
        rw [ew10, rF_SF_o (by omega), rF_SF_o (by omega), r7.2 37 (fun z => by rcases z with z | z | z | z | z | z | z <;> omega)]
        exact m5.2.2.2
      have keep : ∀ j, j ≠ 23 → j ≠ 24 → rF w10 j = rF w7 j := fun j a b => by rw [ew10, rF_SF_o a, rF_SF_o b]
      have hA : rA w10 = rA w7 := by rw [ew10]; rfl
      have m10 : Mq w10 false 1000000 false 0 (qQ0 F 0) := by
        refine ⟨⟨(keep 28 (by omega) (by omega)).trans n7.1, n7.2.1, fun j G d e => ?_⟩, ⟨?_, ?_, Nat.le_refl _, (keep 29 (by omega) (by omega)).trans b29, Nat.zero_le _⟩, ⟨(keep 31 (by omega) (by omega)).trans b31, (keep 32 (by omega) (by omega)).trans b32, (keep 33 (by omega) (by omega)).trans b33, (keep 34 (by omega) (by omega)).trans b34⟩, Or.inr ⟨rfl, f37, rfl⟩⟩
        · have := n7.2.2 j G d e
          unfold Lt at this ⊢
          rw [hA]
          exact this
        · rw [ew10, rF_SF_o (by omega), rF_SF_s]; rfl
        · rw [ew10, rF_SF_s]; decide +kernel
      have k10 : MkK w10 (tKL (sT S)) := by
        obtain ⟨a, b, c⟩ := k7
        refine ⟨(keep 30 (by omega) (by omega)).trans a, b, fun k num G e => ?_⟩
        obtain ⟨y1, y2⟩ := c k num G e
        exact ⟨by rw [hA]; exact y1, y2.eq hA⟩
      obtain ⟨w12, e12, m12, r12⟩ := treeN (K := tKL (sT S)) (iI l) (mx := q.toNat) (by omega) (fun w12 => some (rF w12 28, w12)) 24 kFU 0 w10 _ (by unfold kFU; omega) (by omega) m10 rfl (by show 0 + 160 * 24 ≤ 1000000; omega) (fun e he => by
        have he' : e ∈ [(F, 0)] := he
        rw [List.mem_singleton.mp he']
        exact Nat.zero_le _) k10
      have eq : qRun treeP (tKL (sT S)) 0 0 q.toNat F = qNs false 1000000 0 (tKL (sT S)) [100, 99] q.toNat 24 0 (qQ0 F 0) := by
        have k40 := k5.2.1
        show qNs false 1000000 0 ((tKL (sT S)).drop ((tKL (sT S)).length - 1000000)) [100, 99] q.toNat 24 0 (qQ0 F 0) = _
        rw [show (tKL (sT S)).length - 1000000 = 0 by omega, List.drop_zero]
      rw [decide_eq_true c, if_neg iB_tn, if_pos c, e5, Option.bind_some, e7, Option.bind_some, rpN, Option.bind_some, rpN, Option.bind_some, ← ew10, eq]
      rw [show ((q.toNat : Nat) : Int) = q by omega] at e12
      refine ⟨w12, ?_, ?_⟩
      · have e12' : fX12_tree_L45 (iI l) (iI q) kFU (fun y3_11 w12 => some (rF w12 28, w12)) (0 : Int32) w10 = some (rF w12 28, w12) := e12
        rw [e12', m12.1.1]
      · have rr : Rq RuA RuF w5 w12 := ((r7.wide (fun n i z => Or.inl z) (fun j z => Or.inl z)).tr (by
          rw [ew10]
          exact (Rq.sf (Or.inr ⟨by omega, by omega⟩)).tr (Rq.sf (Or.inr ⟨by omega, by omega⟩)))).tr (r12.wide (fun n i z => Or.inl z) (fun j z => Or.inl z))
        exact m5.rq (RuA.sc rr)
    · rw [decide_eq_false c, if_pos iB_fz, if_neg c]
      exact ⟨w, by rw [iN_1], h⟩
