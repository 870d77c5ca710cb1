/-! THE MODEL: its state -/
theorem lgN {a b : Int} (ha : I32 a) (hb : I32 b) : (lg_cmp (iI a).toInt64 (iI b).toInt64 < 0) = (a < b) ∧ (0 < lg_cmp (iI a).toInt64 (iI b).toInt64) = (b < a) := by
  have e : ∀ {z : Int}, I32 z → (iI z).toInt64.toInt = z := fun {z} h => by rw [Int32.toInt_toInt64, iI_toInt h.1 h.2]
  unfold lg_cmp
  simp only [gt_iff_lt, Int64.lt_iff_toInt_lt, ← Int64.toInt_inj, e ha, e hb]
  by_cases c : b < a
  · rw [if_pos c]
    exact ⟨by simp only [eq_iff_iff]; exact ⟨fun z => absurd z (by decide), fun z => by omega⟩, by simp only [eq_iff_iff]; exact ⟨fun _ => c, fun _ => by decide⟩⟩
  · rw [if_neg c]
    by_cases c2 : a = b
    · rw [if_pos c2]
      exact ⟨by simp only [eq_iff_iff]; exact ⟨fun z => absurd z (by decide), fun z => by omega⟩, by simp only [eq_iff_iff]; exact ⟨fun z => absurd z (by decide), fun z => by omega⟩⟩
    · rw [if_neg c2]
      exact ⟨by simp only [eq_iff_iff]; exact ⟨fun _ => by omega, fun _ => by decide⟩, by simp only [eq_iff_iff]; exact ⟨fun z => absurd z (by decide), fun z => by omega⟩⟩
theorem isIn_ok {v a b : Int} (hv : I32 v) (ha : I32 a) (hb : I32 b) : fX12_isIn (iI v).toInt64 (iI a).toInt64 (iI b).toInt64 = some (iB (decide (a ≤ v ∧ v ≤ b))) := by
  obtain ⟨p1, p2⟩ := lgN hv ha
  obtain ⟨q1, q2⟩ := lgN hv hb
  rw [fX12_isIn]
  by_cases c1 : v < a
  · rw [if_pos (by rw [p1]; exact c1), decide_eq_false (by omega)]
    rfl
  rw [if_neg (by rw [p1]; exact c1)]
  by_cases c2 : b < v
  · rw [if_pos (by rw [q2]; exact c2), decide_eq_false (by omega)]
    rfl
  · rw [if_neg (by rw [q2]; exact c2), decide_eq_true (by omega)]
    rfl
def MTb (t s : Nat → Int32) (T : TbS) : Prop :=
  TbW T ∧ (s 0 = iI (tL T).length ∧ s 1 = iI (tK T).length ∧ s 2 = iI (tP T).length) ∧
  (∀ (l : Nat) (F : Fo), (tL T)[l]? = some F → Ly t (60 * l) (fTxt F) ∧ s (3 + l) = iI (tln F)) ∧
  (∀ l, l < (tL T).length → s (43 + l) = iI (tH T l)) ∧
  (∀ l, l < (tL T).length → tH T l = 2 → s (83 + l) = iI (tF T l).1 ∧ s (123 + l) = iI (tF T l).2.1 ∧ s (163 + l) = iI (tF T l).2.2) ∧
  (∀ (i k : Nat), (tK T)[i]? = some k → s (203 + i) = iI k) ∧
  ∀ (p : Nat) (u : List Int), (tP T)[p]? = some u → s (243 + 121 * p) = iI u.length ∧ ∀ (i : Nat) (c : Int), u[i]? = some c → s (243 + 121 * p + 1 + i) = iI c
def tossV (k n : Nat) (F : Fo) : Int := if k = 5 ∨ fSz F = 1 then -15 else if k = 3 then 100 + n else if k = 6 then 200 + fLev F else n
def MSh (w : rW) (d : Nat) : Sh → Prop
  | none => rA w 4 d = iI 0
  | some (.inl q) => rA w 4 d = iI 1 ∧ rA w 8 d = iI (work q.1 q.2.2) ∧ rA w 9 d = iI (tossV q.1 q.2.1 q.2.2) ∧ q.1 ≤ 6 ∧ q.2.1 < 40 ∧ fOk q.2.2 ∧ tln q.2.2 ≤ 60
  | some (.inr q) => rA w 4 d = iI 2 ∧ rA w 5 d = iI q.1 ∧ rA w 6 d = iI q.2.length ∧ q.2.length ≤ 120 ∧ q.1 ≤ 2 ∧ (∀ (i : Nat) (c : Int), q.2[i]? = some c → rA w 7 (120 * d + i) = iI c) ∧ ∀ c ∈ q.2, elB q.1 c
def MI (w : rW) (S : AS) : Prop := MTb (rA w 0) (rA w 2) (sT S) ∧ (rF w 10 = iB (sI S).isSome ∧ ∀ T, sI S = some T → MTb (rA w 1) (rA w 3) T) ∧ (∀ d, d < 8 → MSh w d (sH S d)) ∧ rF w 37 = 0
/-- what is scratch -/
def ScA (n i : Nat) : Prop := (n = 0 ∧ 2400 ≤ i) ∨ 10 ≤ n
def ScF (j : Nat) : Prop := j ≠ 10 ∧ j ≠ 37
theorem MTb.of {t t' s s' : Nat → Int32} {T : TbS} (h : MTb t s T) (ht : ∀ i, i < 2400 → t' i = t i) (hs : ∀ i, i < 1000 → s' i = s i) : MTb t' s' T := by
  obtain ⟨hW, ⟨n0, n1, n2⟩, h1, h2, h3, h4, h5⟩ := h
  have hl := hW.1
  have hkl := hW.kl
  have hp := hW.2.2.2.2.2.1
  refine ⟨hW, ⟨by rw [hs 0 (by omega)]; exact n0, by rw [hs 1 (by omega)]; exact n1, by rw [hs 2 (by omega)]; exact n2⟩, fun l F e => ?_, fun l e => ?_, fun l e e2 => ?_, fun i k e => ?_, fun p u e => ?_⟩
  · obtain ⟨a, b⟩ := h1 l F e
    have hlt := (List.getElem?_eq_some_iff.mp e).1
    have h60 := (hW.2.1 F (List.mem_of_getElem? e)).2
    refine ⟨fun j c hc => ?_, by rw [hs _ (by omega)]; exact b⟩
    have hj := (List.getElem?_eq_some_iff.mp hc).1
    rw [ht _ (by omega)]
    exact a j c hc
  · rw [hs _ (by omega)]; exact h2 l e
  · rw [hs _ (by omega), hs _ (by omega), hs _ (by omega)]; exact h3 l e e2
  · have hlt := (List.getElem?_eq_some_iff.mp e).1
    rw [hs _ (by omega)]; exact h4 i k e
  · have hlt := (List.getElem?_eq_some_iff.mp e).1
    obtain ⟨a, b⟩ := h5 p u e
    have hu := (hW.2.2.2.2.2.2 u (List.mem_of_getElem? e)).1
    refine ⟨by rw [hs _ (by omega)]; exact a, fun i c hc => ?_⟩
    have hi := (List.getElem?_eq_some_iff.mp hc).1
    rw [hs _ (by omega)]; exact b i c hc
theorem MI.rq {w w' : rW} {S : AS} (h : MI w S) (hs : Rq ScA ScF w w') : MI w' S := by
  obtain ⟨h1, ⟨h2, h3⟩, h4, h5⟩ := h
  have na : ∀ n i, n < 10 → n ≠ 0 → ¬ ScA n i := fun n i a b z => by rcases z with z | z <;> omega
  have e0 : ∀ i, i < 2400 → rA w' 0 i = rA w 0 i := fun i hi => hs.1 0 i (fun z => by rcases z with z | z <;> omega)
  have en : ∀ n, n < 10 → n ≠ 0 → rA w' n = rA w n := fun n a b => funext fun i => hs.1 n i (na n i a b)
  refine ⟨h1.of e0 (fun i _ => by rw [en 2 (by omega) (by omega)]), ⟨by rw [hs.2 10 (fun z => z.1 rfl)]; exact h2, fun T e => by rw [en 1 (by omega) (by omega), en 3 (by omega) (by omega)]; exact h3 T e⟩, fun d hd => ?_, by rw [hs.2 37 (fun z => z.2 rfl)]; exact h5⟩
  have := h4 d hd
  unfold MSh at this ⊢
  rw [en 4 (by omega) (by omega), en 5 (by omega) (by omega), en 6 (by omega) (by omega), en 7 (by omega) (by omega), en 8 (by omega) (by omega), en 9 (by omega) (by omega)]
  exact this
/-- what a call of the model's does -/
def Md (o : Option (Int32 × rW)) (r : Int) (S' : AS) : Prop := ∃ w', o = some (iI r, w') ∧ MI w' S'
theorem Md.rf {w : rW} {S : AS} {o : Option (Int32 × rW)} {r : Int} (h : MI w S) (e : o = some (iI r, w)) : Md o r S := ⟨w, e, h⟩
theorem MI.ml {w : rW} {S : AS} (h : MI w S) {l : Int} {F : Fo} (hL : tLn (sT S) l = some F) : Ml w l.toNat F ∧ ((l.toNat : Nat) : Int) = l := by
  obtain ⟨b0, b1, b2⟩ := tLn_lt hL
  obtain ⟨hW, -, h1, -⟩ := h.1
  obtain ⟨a, b⟩ := h1 _ _ b2
  have hl := hW.1
  obtain ⟨ok, h60⟩ := hW.2.1 F (List.mem_of_getElem? b2)
  have lv := (lev_tl F ok).1
  have e : tln F = (fTxt F).length := rfl
  exact ⟨⟨by omega, ⟨ok, a, by omega, by omega⟩, h60, b⟩, by omega⟩
theorem mIsLine {w : rW} {S : AS} (h : MI w S) {l : Int} (hl : I32 l) : fX12_isLine (iI l) w = some (iB (tLn (sT S) l).isSome) := by
  obtain ⟨hW, ⟨n0, -⟩, -⟩ := h.1
  have h40 := hW.1
  have e : (tLn (sT S) l).isSome = decide (0 ≤ l ∧ l ≤ ((tL (sT S)).length : Int) - 1) := by
    unfold tLn
    by_cases c : l < 0
    · rw [if_pos c, decide_eq_false (by omega)]; rfl
    · rw [if_neg c]
      by_cases c2 : l.toNat < (tL (sT S)).length
      · rw [List.getElem?_eq_getElem c2, decide_eq_true (by omega)]; rfl
      · rw [List.getElem?_eq_none (by omega), decide_eq_false (by omega)]; rfl
  have z0 : (0 : Int32) = iI ((0 : Nat) : Int) := rfl
  have z1 : (0 : Int64) = (iI 0).toInt64 := by decide +kernel
  rw [fX12_isLine, z0, raN (by omega) (by omega), Option.bind_some, n0, iL_1, iI_sub, z1, isIn_ok hl (by unfold I32; omega) (by unfold I32; omega), Option.bind_some, kBl_B, Option.bind_some, e]
