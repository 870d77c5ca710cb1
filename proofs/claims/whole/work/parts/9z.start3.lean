/-! .. both invariants at the start -/
theorem kc_start {w : kW} {x : Nat} (hw : ∀ a, kKd w a = 99) : Kc (owX x) x (Rl x w vF) S0 := by
  have out : ∀ a, kKd (Rl x w vF) a < 19 → ∃ c, c < 256 ∧ a = x + c := fun a ha => by
    by_cases c1 : a < x
    · have e : kKd (Rl x w vF) a = kKd w a := rlF_lo c1
      rw [e, hw] at ha; omega
    · by_cases c2 : a - x < 256
      · exact ⟨a - x, c2, by omega⟩
      · have e : kKd (Rl x w vF) a = kKd w a := by
          show (if a < x then kKd w a else if a - x < kSz vF then kKd vF (a - x) else kKd w a) = _
          rw [if_neg c1, if_neg (by rw [vF_z]; exact c2)]
        rw [e, hw] at ha; omega
  have hz : kSz (Rl x w vF) = x + 256 := by
    show x + kSz vF = _
    rw [vF_z]
  have q1 := vq1
  have q2 := vq2
  have q3 := vq3
  have q4 := vq4
  have q5 := vq5
  have q6 := vq6
  have q7 := vq7
  have q8 := vq8
  have q9 := vq9
  simp only [Bool.and_eq_true, decide_eq_true_eq, List.all_eq_true, List.mem_range] at q1 q2 q3 q4 q5 q6 q7 q8 q9
  refine ⟨⟨fun a ha hk => ?_, fun b hb => ?_, by omega⟩, ?_, ?_, ?_, ?_, ?_, ?_, ?_, ?_, ?_, ?_, ?_⟩
  · obtain ⟨c, hc, rfl⟩ := out a hk
    omega
  · obtain ⟨c, hc, rfl⟩ := out b hb
    have := q9.1 c hc
    rw [owX_in hc, hz]
    show x + (OW c).1 < _
    omega
  · obtain ⟨⟨⟨⟨⟨⟨a1, a2⟩, a3⟩, a4⟩, a5⟩, a6⟩, a7⟩ := q1
    obtain ⟨k, o, l⟩ := ob_at (x := x) (w := w) a1
    have pp : ∀ j b, (j, b) ∈ [(0, 1), (1, 9), (3, 17), (4, 18), (5, 27), (6, 30), (7, 32), (8, 57), (9, 61), (10, 218)] → kP (Rl x w vF) (x + 0) j = some (x + b) := fun j b hm => p_at (a6 (j, b) hm) l
    exact ⟨⟨k, o, (congrFun (i_at (a := 0) l) 2).trans a2⟩, ⟨pp 0 1 (by decide), pp 1 9 (by decide), pp 3 17 (by decide), pp 4 18 (by decide), pp 5 27 (by decide), pp 6 30 (by decide), pp 7 32 (by decide), pp 8 57 (by decide), pp 9 61 (by decide), pp 10 218 (by decide)⟩, ⟨(ln_at a3 l).1, fun d hd => by rw [p_at (a7 d hd).1 (by omega)]; exact congrArg some (show x + (221 + 2 * d) = x + 221 + 2 * d by omega)⟩, (ln_at a4 l).1⟩
  · obtain ⟨⟨⟨⟨a1, a2⟩, a3⟩, a4⟩, a5⟩ := q2
    refine ⟨T0_W, tb_at a1, ⟨?_, ?_, ?_⟩, fun i f hf => ?_, fun i hi => absurd hi (Nat.not_lt_zero _), fun i k hk => ?_, fun i hi => absurd hi (Nat.not_lt_zero _), fun i u hu => ?_⟩
    · rw [i_at (by omega)]; exact a3
    · rw [i_at (by omega)]; exact a4
    · rw [i_at (by omega)]; exact a5
    · exact absurd ((List.getElem?_eq_some_iff.mp hf).1) (Nat.not_lt_zero _)
    · exact absurd ((List.getElem?_eq_some_iff.mp hk).1) (Nat.not_lt_zero _)
    · exact absurd ((List.getElem?_eq_some_iff.mp hu).1) (Nat.not_lt_zero _)
  · exact ⟨tb_at q2.1.1.1.2, fun T e => (by cases e)⟩
  · intro d hd
    have := sh_at (x := x) (w := w) (q1.2 d hd).2
    rw [← Nat.add_assoc] at this
    exact this
  · obtain ⟨⟨⟨⟨a1, a2⟩, a3⟩, a4⟩, a5⟩ := q3
    obtain ⟨k, o, l⟩ := ob_at (x := x) (w := w) a1
    exact ⟨k, o, p_at a2 l, lnS_at a3, (ln_at a4 l).1, (ln_at a5 l).1⟩
  · obtain ⟨⟨⟨a1, a2⟩, a3⟩, a4⟩ := q4
    obtain ⟨k, o, l⟩ := ob_at (x := x) (w := w) a1
    exact ⟨k, o, (ln_at a2 l).1, (ln_at a3 l).1⟩
  · exact pg_at q4.2
  · obtain ⟨⟨⟨⟨⟨⟨⟨⟨a1, a2⟩, a3⟩, a4⟩, a5⟩, a6⟩, a7⟩, a8⟩, a9⟩ := q5
    obtain ⟨k, o, l⟩ := ob_at (x := x) (w := w) a1
    exact ⟨⟨k, o, p_at a2 l, p_at a3 l, p_at a4 l, p_at a5 l⟩, ⟨lnS_at a6, lnS_at a7, lnS_at a8, lnS_at a9⟩, by omega, by omega, by omega, by omega, by omega, by omega⟩
  · obtain ⟨⟨⟨a1, a2⟩, a3⟩, a4⟩ := q6
    obtain ⟨k, o, l⟩ := ob_at (x := x) (w := w) a1
    exact ⟨k, o, p_at a2 l, pg_at a3, (ln_at a4 l).1⟩
  · obtain ⟨⟨⟨⟨⟨⟨⟨⟨⟨⟨a1, a2⟩, a3⟩, a4⟩, a5⟩, a6⟩, a7⟩, a8⟩, a9⟩, a10⟩, a11⟩ := q7
    obtain ⟨k, o, l⟩ := ob_at (x := x) (w := w) a1
    obtain ⟨r0, e0, b0⟩ := ln_at (x := x) (w := w) a2 l
    refine ⟨⟨x + 66, x + 68, fun j => x + (74 + 6 * j), ⟨k, o, r0, (ln_at a3 l).1, (ln_at a4 l).1, (ln_at a5 l).1⟩, ⟨p_at a6 l, pg_at a7⟩, ⟨p_at a8 l, lnS_at a9, by omega, by omega⟩, fun j hj => ⟨by rw [e0]; exact p_at (a10 j hj).1 b0, lnS_at (a10 j hj).2, (show x + 61 ≤ x + (74 + 6 * j) by omega), (show x + (74 + 6 * j) < x + 218 by omega), (show x + (74 + 6 * j) ≠ x + 68 by omega)⟩, fun i j hi hj e => by have e' : x + (74 + 6 * i) = x + (74 + 6 * j) := e; omega, by omega, by omega, by omega, by omega⟩, 0, by omega, by omega, ?_⟩
    rw [i_at (by omega)]
    exact a11
  · obtain ⟨⟨⟨⟨⟨⟨⟨a1, a2⟩, a3⟩, a4⟩, a5⟩, a6⟩, a7⟩, a8⟩ := q8
    obtain ⟨k, o, l⟩ := ob_at (x := x) (w := w) a1
    obtain ⟨r0, e0, b0⟩ := ln_at (x := x) (w := w) a2 l
    have ei : kI (Rl x w vF) (x + 218) = kI vF 218 := i_at l
    refine ⟨⟨k, o, by omega, r0⟩, Nat.le_refl _, ⟨by rw [ei]; exact a3, by rw [ei]; exact a4, by rw [ei]; exact a5, by rw [ei]; exact a6⟩, fun i c hc => ?_⟩
    rw [e0, i_at b0]
    have hc' : ([100, 99] : List Nat)[i]? = some c := hc
    match i, hc' with
    | 0, hc' => cases hc'; exact a7
    | 1, hc' => cases hc'; exact a8
set_option maxRecDepth 100000 in
theorem vq11 : (decide (kI vF 237 10 = 0) && decide (kI vF 237 37 = 0) && decide (kI vF 240 0 = 0) && decide (kI vF 240 1 = 0) && decide (kI vF 240 2 = 0) && (List.range 8).all (fun d => decide (kI vF 242 d = 0))) = true := by decide +kernel
/-- the model's part of a world -/
def rOf (h0 : Nat) (w : kW) : rW := rMk (fun j => kI w h0 j) (fun n i => kI w (h0 + n + 1) i)
theorem rWo_of {h0 : Nat} {w : kW} : rWo h0 w (rOf h0 w) = w := by
  have h : rI h0 w (rOf h0 w) = kI w := by
    funext b k
    unfold rI
    by_cases c : b = h0
    · rw [if_pos c, c]; rfl
    · rw [if_neg c]
      by_cases d : h0 < b ∧ b < h0 + 18
      · rw [if_pos d]
        show kI w (h0 + (b - h0 - 1) + 1) k = _
        rw [show h0 + (b - h0 - 1) + 1 = b by omega]
      · rw [if_neg d]
  unfold rWo
  rw [h]
  rfl
theorem mi_start {w : kW} {x : Nat} : MI (rOf (x + 237) (Rl x w vF)) S0 := by
  have q := vq11
  simp only [Bool.and_eq_true, decide_eq_true_eq, List.all_eq_true, List.mem_range] at q
  obtain ⟨⟨⟨⟨⟨a1, a2⟩, a3⟩, a4⟩, a5⟩, a6⟩ := q
  have z0 : (0 : Int32) = iI 0 := by decide +kernel
  have e : ∀ c j, c < 256 → kI (Rl x w vF) (x + c) j = kI vF c j := fun c j h => congrFun (i_at h) j
  refine ⟨⟨T0_W, ⟨?_, ?_, ?_⟩, fun i f hf => absurd ((List.getElem?_eq_some_iff.mp hf).1) (Nat.not_lt_zero _), fun i hi => absurd hi (Nat.not_lt_zero _), fun i hi => absurd hi (Nat.not_lt_zero _), fun i k hk => absurd ((List.getElem?_eq_some_iff.mp hk).1) (Nat.not_lt_zero _), fun i u hu => absurd ((List.getElem?_eq_some_iff.mp hu).1) (Nat.not_lt_zero _)⟩, ⟨(e 237 10 (by omega)).trans a1, fun T h => (by cases h)⟩, fun d hd => ?_, (e 237 37 (by omega)).trans a2⟩
  · exact (e 240 0 (by omega)).trans (a3.trans z0)
  · exact (e 240 1 (by omega)).trans (a4.trans z0)
  · exact (e 240 2 (by omega)).trans (a5.trans z0)
  · exact (e 242 d (by omega)).trans ((a6 d hd).trans z0)
/-- both sides in one world: the class at S, the model at S2 -/
def J (ow : Nat → Nat × Nat) (x : Nat) (w : kW) (S : AS) (r : rW) (S2 : AS) : Prop :=
  Kc ow x w S ∧ (rOK (x + 237) w ∧ rWo (x + 237) w r = w ∧ MI r S2) ∧ (∀ n, n < 19 → (ow (x + 237 + n)).1 = x + 2) ∧ kKd w (x + 255) = 15 ∧ kLn w (x + 255) = 1
theorem j_start {w : kW} {x : Nat} (hw : ∀ a, kKd w a = 99) : J (owX x) x (Rl x w vF) S0 (rOf (x + 237) (Rl x w vF)) S0 := by
  have q := vq10
  have q9 := vq9
  simp only [Bool.and_eq_true, decide_eq_true_eq, List.all_eq_true, List.mem_range] at q q9
  obtain ⟨⟨⟨a1, a2⟩, a3⟩, a4⟩ := q
  have hk : ∀ c, c < 256 → kKd (Rl x w vF) (x + c) = kKd vF c ∧ kLn (Rl x w vF) (x + c) = kLn vF c := fun c h => ⟨Rl_kd (by rw [vF_z]; exact h), Rl_ln (by rw [vF_z]; exact h)⟩
  refine ⟨kc_start hw, ⟨⟨(hk 237 (by omega)).1.trans a1, fun n hn => ?_⟩, rWo_of, mi_start⟩, fun n hn => ?_, (hk 255 (by omega)).1.trans a3, (hk 255 (by omega)).2.trans a4⟩
  · obtain ⟨⟨b1, b2⟩, b3⟩ := a2 n hn
    rw [show x + 237 + n + 1 = x + (237 + n + 1) by omega]
    exact ⟨(hk _ (by omega)).1.trans b1, (hk _ (by omega)).2.trans b2, p_at b3 (by omega)⟩
  · rw [Nat.add_assoc, owX_in (by omega), q9.2 n hn]
theorem J.cls {ow ow' : Nat → Nat × Nat} {x : Nat} {w w' : kW} {S S' S2 : AS} {r : rW} (h : J ow x w S r S2) (k : Kc ow' x w' S') (f : Fr ow ow' (Cx x) w w') : J ow' x w' S' r S2 := by
  obtain ⟨-, ⟨⟨b1, b2⟩, b3, b4⟩, o, l1, l2⟩ := h
  have nc : ∀ n, n < 19 → ¬ Cx x (ow (x + 237 + n)).1 := fun n hn z => z.2 (o n hn)
  have kk : ∀ n, n < 19 → kKd w (x + 237 + n) < 19 := fun n hn => by
    rcases Nat.lt_or_ge 0 n with c | c
    · rcases Nat.lt_or_ge n 18 with c2 | c2
      · have := (b2 (n - 1) (by omega)).1
        rw [show x + 237 + (n - 1) + 1 = x + 237 + n by omega] at this
        omega
      · rw [show x + 237 + n = x + 255 by omega, l1]; omega
    · rw [show x + 237 + n = x + 237 by omega, b1]; omega
  have fr : ∀ n, n < 19 → ow' (x + 237 + n) = ow (x + 237 + n) ∧ kKd w' (x + 237 + n) = kKd w (x + 237 + n) ∧ kLn w' (x + 237 + n) = kLn w (x + 237 + n) ∧ kI w' (x + 237 + n) = kI w (x + 237 + n) ∧ kP w' (x + 237 + n) = kP w (x + 237 + n) ∧ kJ w' (x + 237 + n) = kJ w (x + 237 + n) := fun n hn => f _ (kk n hn) (nc n hn)
  have hI : ∀ b c, kI w b c = rI (x + 237) w r b c := fun b c => by
    have := congrArg kI b3
    exact (congrFun (congrFun this b) c).symm
  refine ⟨k, ⟨⟨(fr 0 (by omega)).2.1.trans b1, fun n hn => ?_⟩, ?_, b4⟩, fun n hn => by rw [(fr n hn).1]; exact o n hn, (fr 18 (by omega)).2.1.trans l1, (fr 18 (by omega)).2.2.1.trans l2⟩
  · obtain ⟨c1, c2, c3⟩ := b2 n hn
    have g := fr (n + 1) (by omega)
    rw [← Nat.add_assoc] at g
    exact ⟨g.2.1.trans c1, g.2.2.1.trans c2, by rw [(fr 0 (by omega)).2.2.2.2.1]; exact c3⟩
  · have hr : rI (x + 237) w' r = kI w' := by
      funext b c
      unfold rI
      by_cases e : b = x + 237
      · rw [if_pos e, e, (fr 0 (by omega)).2.2.2.1, hI]
        exact rI_o.symm
      · rw [if_neg e]
        by_cases d : x + 237 < b ∧ b < x + 237 + 18
        · obtain ⟨n, rfl⟩ : ∃ n, b = x + 237 + n := ⟨b - (x + 237), by omega⟩
          rw [if_pos d, (fr n (by omega)).2.2.2.1, hI]
          unfold rI
          rw [if_neg e, if_pos d]
        · rw [if_neg d]
    unfold rWo
    rw [hr]
    rfl
theorem J.mdl {ow : Nat → Nat × Nat} {x : Nat} {w : kW} {S S2 S2' : AS} {r r' : rW} (h : J ow x w S r S2) (m : MI r' S2') : J ow x (rWo (x + 237) w r') S r' S2' := by
  obtain ⟨k, ⟨⟨b1, b2⟩, b3, b4⟩, o, l1, l2⟩ := h
  obtain ⟨⟨hW, hO, z0⟩, k0, kt, ki, ks, kr, kw, kp, kd, kh, kq, kg⟩ := k
  have hs : Fr ow ow (fun q => q = x + 2) w (rWo (x + 237) w r') := fun a ha hn => by
    have out : ¬ (x + 237 ≤ a ∧ a < x + 255) := fun c => hn (by
      have := o (a - (x + 237)) (by omega)
      rw [show x + 237 + (a - (x + 237)) = a by omega] at this
      exact this)
    refine ⟨rfl, rfl, rfl, ?_, rfl, rfl⟩
    funext c
    show rI (x + 237) w r' a c = _
    unfold rI
    rw [if_neg (by omega), if_neg (by omega)]
  refine ⟨⟨⟨hW, hO, z0⟩, k0.fr hs (by omega), kt.fr hs (by omega) (fun _ _ => by omega), ki.fr hs (by omega) (fun _ _ => by omega), ks.fr hs (fun _ _ => by omega) (fun _ _ => by omega), kr.fr hs (by omega) (by omega), kw.fr hs (by omega), kp.fr hs (by omega), kd.fr hs (by omega) (by omega) (by omega) (by omega) (by omega), kh.fr hs (by omega) (by omega), kq.fr hs (fun _ _ _ => by omega), kg.fr hs (by omega)⟩, ⟨⟨b1, b2⟩, ?_, m⟩, o, l1, l2⟩
  have hr : rI (x + 237) (rWo (x + 237) w r') r' = rI (x + 237) w r' := by
    funext b c
    unfold rI
    by_cases e : b = x + 237
    · rw [if_pos e, if_pos e]
    · rw [if_neg e, if_neg e]
      by_cases d : x + 237 < b ∧ b < x + 237 + 18
      · rw [if_pos d, if_pos d]
      · rw [if_neg d, if_neg d]
        show rI (x + 237) w r' b c = _
        unfold rI
        rw [if_neg e, if_neg d]
  show kMk _ _ (rI (x + 237) (rWo (x + 237) w r') r') _ _ _ = _
  rw [hr]
  rfl
