/-! THE MODEL: heights, by passes; the best of candidates -/
def Bs (C : Int → Prop) (v : Int) : Prop := (v = -4 ∧ ∀ c, ¬ C c) ∨ (0 < v ∧ C v ∧ ∀ c, C c → v ≤ c)
def up1 (v c : Int) (t : Bool) : Int := if (v < 0 ∨ c < v) ∧ t = true then c else v
theorem Bs.congr {C C' : Int → Prop} {v : Int} (h : Bs C v) (e : ∀ z, C z ↔ C' z) : Bs C' v := by
  rcases h with ⟨h1, h2⟩ | ⟨h1, h2, h3⟩
  · exact Or.inl ⟨h1, fun c z => h2 c ((e c).mpr z)⟩
  · exact Or.inr ⟨h1, (e v).mp h2, fun c z => h3 c ((e c).mpr z)⟩
theorem Bs.up {C : Int → Prop} {v c : Int} {t : Bool} (h : Bs C v) (hc : 0 < c) : Bs (fun z => C z ∨ (t = true ∧ z = c)) (up1 v c t) := by
  unfold up1
  cases t with
  | false =>
    rw [if_neg (fun z => Bool.false_ne_true z.2)]
    exact h.congr fun z => ⟨Or.inl, fun q => q.elim id (fun q => absurd q.1 Bool.false_ne_true)⟩
  | true =>
    rcases h with ⟨h1, h2⟩ | ⟨h1, h2, h3⟩
    · rw [if_pos ⟨Or.inl (by omega), rfl⟩]
      exact Or.inr ⟨hc, Or.inr ⟨rfl, rfl⟩, fun z q => q.elim (fun q => absurd q (h2 z)) (fun q => by omega)⟩
    · by_cases e : c < v
      · rw [if_pos ⟨Or.inr e, rfl⟩]
        exact Or.inr ⟨hc, Or.inr ⟨rfl, rfl⟩, fun z q => q.elim (fun q => by have := h3 z q; omega) (fun q => by omega)⟩
      · rw [if_neg (fun z => z.1.elim (fun q => by omega) e)]
        exact Or.inr ⟨h1, Or.inl h2, fun z q => q.elim (h3 z) (fun q => by omega)⟩
def inB (H : Nat → Int) (L : Nat → Fo) (f : Fo) (a : Nat) : Nat → Nat → Int → Int
  | 0, _, v => v
  | m + 1, b, v => inB H L f a m (b + 1) (if 0 ≤ H b then up1 v (1 + max (H a) (H b)) (stp2 f (L a) (L b)) else v)
def hByL (n : Nat) (H : Nat → Int) (L : Nat → Fo) (f : Fo) : Nat → Nat → Int → Int
  | 0, _, v => v
  | m + 1, a, v => hByL n H L f m (a + 1) (if 0 ≤ H a then inB H L f a n 0 (up1 v (H a + 1) (stp1 f (L a))) else v)
def hBy (n : Nat) (H : Nat → Int) (L : Nat → Fo) (f : Fo) : Int := hByL n H L f n 0 (-4)
theorem inB_ok {H : Nat → Int} {L : Nat → Fo} {f : Fo} {a : Nat} (ha : 0 ≤ H a) : ∀ (m b : Nat) (v : Int) (C : Int → Prop), Bs C v → Bs (fun z => C z ∨ ∃ j, b ≤ j ∧ j < b + m ∧ 0 ≤ H j ∧ stp2 f (L a) (L j) = true ∧ z = 1 + max (H a) (H j)) (inB H L f a m b v) := by
  intro m
  induction m with
  | zero => exact fun b v C h => h.congr fun z => ⟨Or.inl, fun q => q.elim id (fun ⟨j, h1, h2, _⟩ => by omega)⟩
  | succ m ih =>
    intro b v C h
    show Bs _ (inB H L f a m (b + 1) (if 0 ≤ H b then up1 v (1 + max (H a) (H b)) (stp2 f (L a) (L b)) else v))
    by_cases hb : 0 ≤ H b
    · rw [if_pos hb]
      refine (ih (b + 1) _ _ (h.up (c := 1 + max (H a) (H b)) (t := stp2 f (L a) (L b)) (by omega))).congr fun z => ?_
      constructor
      · rintro ((q | ⟨q1, q2⟩) | ⟨j, j1, j2, j3⟩)
        · exact Or.inl q
        · exact Or.inr ⟨b, Nat.le_refl _, by omega, hb, q1, q2⟩
        · exact Or.inr ⟨j, by omega, by omega, j3⟩
      · rintro (q | ⟨j, j1, j2, j3, j4, j5⟩)
        · exact Or.inl (Or.inl q)
        · by_cases e : j = b
          · subst e; exact Or.inl (Or.inr ⟨j4, j5⟩)
          · exact Or.inr ⟨j, by omega, by omega, j3, j4, j5⟩
    · rw [if_neg hb]
      refine (ih (b + 1) _ _ h).congr fun z => ?_
      constructor
      · rintro (q | ⟨j, j1, j2, j3⟩)
        · exact Or.inl q
        · exact Or.inr ⟨j, by omega, by omega, j3⟩
      · rintro (q | ⟨j, j1, j2, j3, j4⟩)
        · exact Or.inl q
        · by_cases e : j = b
          · subst e; exact absurd j3 hb
          · exact Or.inr ⟨j, by omega, by omega, j3, j4⟩
def Cand (n : Nat) (H : Nat → Int) (L : Nat → Fo) (f : Fo) (a : Nat) (z : Int) : Prop := 0 ≤ H a ∧ ((stp1 f (L a) = true ∧ z = H a + 1) ∨ ∃ j, j < n ∧ 0 ≤ H j ∧ stp2 f (L a) (L j) = true ∧ z = 1 + max (H a) (H j))
theorem hByL_ok {n : Nat} {H : Nat → Int} {L : Nat → Fo} {f : Fo} : ∀ (m a : Nat) (v : Int) (C : Int → Prop), Bs C v → Bs (fun z => C z ∨ ∃ j, a ≤ j ∧ j < a + m ∧ Cand n H L f j z) (hByL n H L f m a v) := by
  intro m
  induction m with
  | zero => exact fun b v C h => h.congr fun z => ⟨Or.inl, fun q => q.elim id (fun ⟨j, h1, h2, _⟩ => by omega)⟩
  | succ m ih =>
    intro a v C h
    show Bs _ (hByL n H L f m (a + 1) (if 0 ≤ H a then inB H L f a n 0 (up1 v (H a + 1) (stp1 f (L a))) else v))
    by_cases ha : 0 ≤ H a
    · rw [if_pos ha]
      refine (ih (a + 1) _ _ (inB_ok ha n 0 _ _ (h.up (c := H a + 1) (t := stp1 f (L a)) (by omega)))).congr fun z => ?_
      constructor
      · rintro (((q | ⟨q1, q2⟩) | ⟨j, j1, j2, j3⟩) | ⟨j, j1, j2, j3⟩)
        · exact Or.inl q
        · exact Or.inr ⟨a, Nat.le_refl _, by omega, ha, Or.inl ⟨q1, q2⟩⟩
        · exact Or.inr ⟨a, Nat.le_refl _, by omega, ha, Or.inr ⟨j, by omega, j3⟩⟩
        · exact Or.inr ⟨j, by omega, by omega, j3⟩
      · rintro (q | ⟨j, j1, j2, j3⟩)
        · exact Or.inl (Or.inl (Or.inl q))
        · by_cases e : j = a
          · subst e
            rcases j3.2 with q | ⟨i, i1, i2⟩
            · exact Or.inl (Or.inl (Or.inr q))
            · exact Or.inl (Or.inr ⟨i, Nat.zero_le _, by omega, i2⟩)
          · exact Or.inr ⟨j, by omega, by omega, j3⟩
    · rw [if_neg ha]
      refine (ih (a + 1) _ _ h).congr fun z => ?_
      constructor
      · rintro (q | ⟨j, j1, j2, j3⟩)
        · exact Or.inl q
        · exact Or.inr ⟨j, by omega, by omega, j3⟩
      · rintro (q | ⟨j, j1, j2, j3⟩)
        · exact Or.inl q
        · by_cases e : j = a
          · subst e; exact absurd j3.1 ha
          · exact Or.inr ⟨j, by omega, by omega, j3⟩
theorem hBy_ok (n : Nat) (H : Nat → Int) (L : Nat → Fo) (f : Fo) : Bs (fun z => ∃ j, j < n ∧ Cand n H L f j z) (hBy n H L f) :=
  (hByL_ok n 0 (-4) (fun _ => False) (Or.inl ⟨rfl, fun _ z => z⟩)).congr fun z => ⟨fun q => q.elim False.elim (fun ⟨j, j1, j2, j3⟩ => ⟨j, by omega, j3⟩), fun ⟨j, j1, j2⟩ => Or.inr ⟨j, Nat.zero_le _, by omega, j2⟩⟩
theorem up1_bd {v c M : Int} {t : Bool} (hv : -4 ≤ v ∧ v ≤ M + 1) (hc : -4 ≤ c ∧ c ≤ M + 1) : -4 ≤ up1 v c t ∧ up1 v c t ≤ M + 1 := by
  unfold up1
  split <;> omega
theorem hBy_bd {n : Nat} {H : Nat → Int} {L : Nat → Fo} {f : Fo} {M : Int} (hM : 0 ≤ M) (hH : ∀ i, -4 ≤ H i ∧ H i ≤ M) : -4 ≤ hBy n H L f ∧ hBy n H L f ≤ M + 1 := by
  rcases hBy_ok n H L f with ⟨h1, -⟩ | ⟨h1, ⟨j, -, -, h2⟩, -⟩
  · omega
  · have a := hH j
    rcases h2 with ⟨-, h3⟩ | ⟨i, -, -, -, h3⟩
    · omega
    · have b := hH i
      omega
/-! what each pass keeps and wins -/
def HI (n : Nat) (L : Nat → Fo) (g : Nat → Bool) (H : Nat → Int) (r k : Nat) : Prop := (∀ i, i < n → H i = -4 ∨ 0 ≤ H i) ∧ (∀ i, i < n → 0 ≤ H i → Qr n L g (H i).toNat i = true) ∧ ∀ i s, i < n → Qr n L g s i = true → s ≤ (if i < k then r + 1 else r) → 0 ≤ H i ∧ H i ≤ s
theorem HI.upd {n : Nat} {L : Nat → Fo} {g : Nat → Bool} {H : Nat → Int} {r k : Nat} (h : HI n L g H r k) (hk : k < n) (h0 : H k ≠ 0) : HI n L g (fu H k (hBy n H L (L k))) r (k + 1) := by
  obtain ⟨h1, h2, h3⟩ := h
  have hb := hBy_ok n H L (L k)
  have lo : 0 ≤ hBy n H L (L k) → Qr n L g (hBy n H L (L k)).toNat k = true := by
    intro hp
    rcases hb with ⟨q, -⟩ | ⟨q, ⟨j, j1, j2, j3⟩, -⟩
    · omega
    · obtain ⟨m, hm⟩ : ∃ m : Nat, hBy n H L (L k) = ((m + 1 : Nat) : Int) := ⟨(hBy n H L (L k)).toNat - 1, by omega⟩
      rw [hm] at j3 ⊢
      have qj := h2 j j1 j2
      show (Qr n L g m k || rch n L (Qr n L g m) (L k)) = true
      rw [Bool.or_eq_true, rch_iff]
      rcases j3 with ⟨s1, s2⟩ | ⟨i, i1, i2, s1, s2⟩
      · exact Or.inr ⟨j, j1, Qr_mono (by omega) qj, Or.inl s1⟩
      · exact Or.inr ⟨j, j1, Qr_mono (by omega) qj, Or.inr ⟨i, i1, Qr_mono (by omega) (h2 i i1 i2), s1⟩⟩
  have ho : ∀ s, s ≤ r + 1 → Qr n L g s k = true → 0 ≤ hBy n H L (L k) ∧ hBy n H L (L k) ≤ s := by
    intro s
    induction s with
    | zero =>
      intro _ hq
      have := h3 k 0 hk hq (Nat.zero_le _)
      omega
    | succ s ih =>
      intro hs hq
      have hq' : (Qr n L g s k || rch n L (Qr n L g s) (L k)) = true := hq
      rw [Bool.or_eq_true, rch_iff] at hq'
      rcases hq' with q | ⟨a, a1, a2, a3⟩
      · have := ih (by omega) q
        omega
      · have ca := h3 a s a1 a2 (by split <;> omega)
        have : ∃ z, z ≤ ((s + 1 : Nat) : Int) ∧ ∃ j, j < n ∧ Cand n H L (L k) j z := by
          rcases a3 with q | ⟨b, b1, b2, b3⟩
          · exact ⟨H a + 1, by omega, a, a1, ca.1, Or.inl ⟨q, rfl⟩⟩
          · have cb := h3 b s b1 b2 (by split <;> omega)
            exact ⟨1 + max (H a) (H b), by omega, a, a1, ca.1, Or.inr ⟨b, b1, cb.1, b3, rfl⟩⟩
        obtain ⟨z, hz, hc⟩ := this
        rcases hb with ⟨-, q⟩ | ⟨q, -, q2⟩
        · exact absurd hc (q z)
        · have := q2 z hc
          omega
  refine ⟨fun i hi => ?_, fun i hi hp => ?_, fun i s hi hq hs => ?_⟩
  · by_cases e : i = k
    · rw [e, fu_s]
      rcases hb with ⟨q, -⟩ | ⟨q, -⟩
      · exact Or.inl q
      · exact Or.inr (by omega)
    · rw [fu_o _ _ e]; exact h1 i hi
  · by_cases e : i = k
    · rw [e, fu_s] at hp ⊢; exact lo hp
    · rw [fu_o _ _ e] at hp ⊢; exact h2 i hi hp
  · by_cases e : i = k
    · subst e
      rw [fu_s]
      rw [if_pos (by omega)] at hs
      exact ho s hs hq
    · rw [fu_o _ _ e]
      refine h3 i s hi hq ?_
      by_cases c : i < k
      · rw [if_pos c]; rw [if_pos (by omega)] at hs; exact hs
      · rw [if_neg c]; rw [if_neg (by omega)] at hs; exact hs
theorem HI.skip {n : Nat} {L : Nat → Fo} {g : Nat → Bool} {H : Nat → Int} {r k : Nat} (h : HI n L g H r k) (h0 : H k = 0) : HI n L g H r (k + 1) := by
  obtain ⟨h1, h2, h3⟩ := h
  refine ⟨h1, h2, fun i s hi hq hs => ?_⟩
  by_cases e : i = k
  · subst e; omega
  · refine h3 i s hi hq ?_
    by_cases c : i < k
    · rw [if_pos c]; rw [if_pos (by omega)] at hs; exact hs
    · rw [if_neg c]; rw [if_neg (by omega)] at hs; exact hs
theorem HI.next {n : Nat} {L : Nat → Fo} {g : Nat → Bool} {H : Nat → Int} {r : Nat} (h : HI n L g H r n) : HI n L g H (r + 1) 0 :=
  ⟨h.1, h.2.1, fun i s hi hq hs => h.2.2 i s hi hq (by rw [if_neg (Nat.not_lt_zero i)] at hs; rw [if_pos hi]; exact hs)⟩
/-- by the 40th round all is reached -/
theorem Qr_cnt {n : Nat} {L : Nat → Fo} {g : Nat → Bool} : ∀ r, (∃ s, s < r ∧ ∀ i, i < n → Qr n L g (s + 1) i = Qr n L g s i) ∨ r ≤ (List.range n).countP (Qr n L g r) := by
  intro r
  induction r with
  | zero => exact Or.inr (Nat.zero_le _)
  | succ r ih =>
    rcases ih with ⟨s, hs, h⟩ | ih
    · exact Or.inl ⟨s, by omega, h⟩
    · by_cases c : ∀ i, i < n → Qr n L g (r + 1) i = Qr n L g r i
      · exact Or.inl ⟨r, by omega, c⟩
      · refine Or.inr ?_
        have hx : ∃ i, i < n ∧ Qr n L g (r + 1) i = true ∧ Qr n L g r i = false := by
          refine Classical.byContradiction fun hn => c fun i hi => ?_
          cases h1 : Qr n L g r i with
          | true => exact Qr_succ h1
          | false =>
            cases h2 : Qr n L g (r + 1) i with
            | false => rfl
            | true => exact absurd ⟨i, hi, h2, h1⟩ hn
        obtain ⟨i, hi, h1, h2⟩ := hx
        have e1 : ∀ l : List Nat, l.countP (Qr n L g r) + l.countP (fun j => Qr n L g (r + 1) j && !Qr n L g r j) = l.countP (Qr n L g (r + 1)) := by
          intro l
          induction l with
          | nil => rfl
          | cons j l il =>
            rw [List.countP_cons, List.countP_cons, List.countP_cons, ← il]
            cases h3 : Qr n L g r j with
            | true => rw [Qr_succ h3]; simp; omega
            | false =>
              cases h4 : Qr n L g (r + 1) j with
              | true => simp; omega
              | false => simp
        have e2 := e1 (List.range n)
        have e3 : 0 < (List.range n).countP (fun j => Qr n L g (r + 1) j && !Qr n L g r j) := by
          rw [List.countP_pos_iff]
          exact ⟨i, List.mem_range.mpr hi, by rw [h1, h2]; rfl⟩
        omega
theorem Qr_all {n : Nat} (hn : n ≤ 40) {L : Nat → Fo} {g : Nat → Bool} {s i : Nat} (hi : i < n) (h : Qr n L g s i = true) : Qr n L g 40 i = true := by
  by_cases c : s ≤ 40
  · exact Qr_mono c h
  rcases Qr_cnt (n := n) (L := L) (g := g) 40 with ⟨r, hr, e⟩ | e
  · have a := Qr_stop e (s - r) i hi
    have b := Qr_stop e (40 - r) i hi
    rw [show r + (s - r) = s by omega] at a
    rw [show r + (40 - r) = 40 by omega] at b
    rw [b, ← a]
    exact h
  · have e2 : (List.range n).countP (Qr n L g 40) = (List.range n).length := by
      have := List.countP_le_length (p := Qr n L g 40) (l := List.range n)
      rw [List.length_range] at this ⊢
      omega
    exact List.countP_eq_length.mp e2 i (List.mem_range.mpr hi)
theorem HI.exact {n : Nat} (hn : n ≤ 40) {L : Nat → Fo} {g : Nat → Bool} {H : Nat → Int} {k : Nat} (h : HI n L g H 40 k) {i : Nat} (hi : i < n) : H i = hgt n L g i := by
  obtain ⟨h1, h2, h3⟩ := h
  unfold hgt
  rcases h1 i hi with e | e
  · cases hq : Qr n L g 40 i with
    | true => have := h3 i 40 hi hq (by split <;> omega); omega
    | false => rw [e, (hAt_Q 40 i).2 hq]
  · have q := h2 i hi e
    have q40 := Qr_all hn hi q
    have bd := (hAt_Q 40 i).1 q40
    obtain ⟨-, l2⟩ := hAt_least 40 i 40 (Nat.le_refl _) q40
    have u := h3 i _ hi l2 (by split <;> omega)
    obtain ⟨l3, -⟩ := hAt_least 40 i (H i).toNat (by omega) q
    omega
/-! a pass -/
def psK (n : Nat) (L : Nat → Fo) : Nat → Nat → (Nat → Int) → Nat → Int
  | 0, _, H => H
  | m + 1, k, H => psK n L m (k + 1) (if H k = 0 then H else fu H k (hBy n H L (L k)))
def pcK (n : Nat) (L : Nat → Fo) : Nat → Nat → (Nat → Int) → Bool
  | 0, _, _ => false
  | m + 1, k, H => (if H k = 0 then false else decide (hBy n H L (L k) ≠ H k)) || pcK n L m (k + 1) (if H k = 0 then H else fu H k (hBy n H L (L k)))
theorem fu_id {α : Type} (f : Nat → α) {n : Nat} {v : α} (h : v = f n) : fu f n v = f := by
  funext i
  unfold fu
  by_cases e : i = n
  · rw [if_pos e, e, h]
  · rw [if_neg e]
theorem pcK_f {n : Nat} {L : Nat → Fo} : ∀ (m k : Nat) (H : Nat → Int), pcK n L m k H = false → psK n L m k H = H := by
  intro m
  induction m with
  | zero => exact fun _ _ _ => rfl
  | succ m ih =>
    intro k H h
    have h' : ((if H k = 0 then false else decide (hBy n H L (L k) ≠ H k)) || pcK n L m (k + 1) (if H k = 0 then H else fu H k (hBy n H L (L k)))) = false := h
    rw [Bool.or_eq_false_iff] at h'
    obtain ⟨h1, h2⟩ := h'
    show psK n L m (k + 1) (if H k = 0 then H else fu H k (hBy n H L (L k))) = H
    by_cases c : H k = 0
    · rw [if_pos c] at h2 ⊢
      exact ih _ _ h2
    · rw [if_neg c] at h1 h2 ⊢
      have e := of_decide_eq_false h1
      rw [fu_id H (Classical.byContradiction e)] at h2 ⊢
      exact ih _ _ h2
theorem psK_HI {n : Nat} {L : Nat → Fo} {g : Nat → Bool} {r : Nat} : ∀ (m k : Nat) (H : Nat → Int), k + m = n → HI n L g H r k → HI n L g (psK n L m k H) r n := by
  intro m
  induction m with
  | zero => intro k H hk h; rw [show k = n from hk] at h; exact h
  | succ m ih =>
    intro k H hk h
    show HI n L g (psK n L m (k + 1) (if H k = 0 then H else fu H k (hBy n H L (L k)))) r n
    refine ih (k + 1) _ (by omega) ?_
    by_cases c : H k = 0
    · rw [if_pos c]; exact h.skip c
    · rw [if_neg c]; exact h.upd (by omega) c
theorem pcK_ex {n : Nat} (hn : n ≤ 40) {L : Nat → Fo} {g : Nat → Bool} : ∀ (m k : Nat) (H : Nat → Int), k + m = n → HI n L g H 40 k → pcK n L m k H = false := by
  intro m
  induction m with
  | zero => exact fun _ _ _ _ => rfl
  | succ m ih =>
    intro k H hk h
    show ((if H k = 0 then false else decide (hBy n H L (L k) ≠ H k)) || pcK n L m (k + 1) (if H k = 0 then H else fu H k (hBy n H L (L k)))) = false
    by_cases c : H k = 0
    · rw [if_pos c, if_pos c, Bool.false_or]
      exact ih _ _ (by omega) (h.skip c)
    · have u := h.upd (by omega) c
      have e1 := u.exact hn (show k < n by omega)
      rw [fu_s, ← h.exact hn (show k < n by omega)] at e1
      rw [if_neg c, if_neg c, decide_eq_false (fun z => z e1), Bool.false_or]
      exact ih _ _ (by omega) u
theorem psK_bd {n : Nat} {L : Nat → Fo} : ∀ (m k : Nat) (H : Nat → Int) (M : Int), 0 ≤ M → (∀ i, -4 ≤ H i ∧ H i ≤ M) → ∀ i, -4 ≤ psK n L m k H i ∧ psK n L m k H i ≤ M + m := by
  intro m
  induction m with
  | zero => intro k H M h0 h i; have := h i; show -4 ≤ H i ∧ H i ≤ M + (0 : Nat); omega
  | succ m ih =>
    intro k H M h0 h i
    have hb := hBy_bd (n := n) (L := L) (f := L k) h0 h
    have := ih (k + 1) (if H k = 0 then H else fu H k (hBy n H L (L k))) (M + 1) (by omega) (fun j => by
      by_cases c : H k = 0
      · rw [if_pos c]; have := h j; omega
      · rw [if_neg c]
        by_cases e : j = k
        · rw [e, fu_s]; exact hb
        · rw [fu_o _ _ e]; have := h j; omega) i
    show -4 ≤ psK n L m (k + 1) (if H k = 0 then H else fu H k (hBy n H L (L k))) i ∧ psK n L m (k + 1) (if H k = 0 then H else fu H k (hBy n H L (L k))) i ≤ M + ((m + 1 : Nat) : Int)
    omega
/-- a pass that changes nothing has found the heights -/
theorem fix_ex {n : Nat} (hn : n ≤ 40) {L : Nat → Fo} {g : Nat → Bool} {H : Nat → Int} (hp : psK n L n 0 H = H) (h : HI n L g H 0 0) : ∀ i, i < n → H i = hgt n L g i := by
  have : ∀ r, HI n L g H r 0 := by
    intro r
    induction r with
    | zero => exact h
    | succ r ih =>
      have := (psK_HI n 0 H (by omega) ih).next
      rw [hp] at this
      exact this
  exact fun i hi => (this 40).exact hn hi
theorem HI.zero {n : Nat} {L : Nat → Fo} {g : Nat → Bool} {H : Nat → Int} {r k : Nat} (h : HI n L g H r k) : HI n L g H 0 0 :=
  ⟨h.1, h.2.1, fun i s hi hq hs => h.2.2 i s hi hq (by rw [if_neg (Nat.not_lt_zero i)] at hs; omega)⟩
