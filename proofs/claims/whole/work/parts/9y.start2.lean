/-! .. what lies where at the start -/
def owX (x q : Nat) : Nat × Nat := if x ≤ q ∧ q < x + 256 then (x + (OW (q - x)).1, (OW (q - x)).2) else (q, 0)
theorem owX_in {x c : Nat} (h : c < 256) : owX x (x + c) = (x + (OW c).1, (OW c).2) := by
  unfold owX
  rw [if_pos (by omega), Nat.add_sub_cancel_left]
def qOb (v : kW) (a k : Nat) : Bool := decide (kKd v a = k) && decide (a < 256) && decide (OW a = (a, 0))
def qLs (v : kW) (a cap : Nat) : Bool := qOb v a 1 && decide (cap ≤ 200) && qLn v a cap 0 13 && qLn v a cap 1 14 && qLn v a cap 2 14 && qLn v a cap 3 14 && qLn v a cap 4 14
def qPg (v : kW) (a : Nat) : Bool := qOb v a 4 && qLn v a 6 0 14
def qTb (v : kW) (a : Nat) : Bool := qOb v a 8 && qLn v a 40 0 16 && qLn v a 40 1 14 && qLn v a 40 2 14 && qLn v a 40 3 14 && qLn v a 40 4 14 && qLn v a 40 5 14 && qLn v a 6 6 17 && (List.range 40).all (fun i => decide (kP v (Lp v a 0) i = none)) && (List.range 6).all (fun i => decide (kP v (Lp v a 6) i = none))
def qSh (v : kW) (a : Nat) : Bool := qOb v a 6 && qLn v a 120 0 14 && decide (kI v a 1 = iI (-1)) && decide (kP v a 3 = none)
section ATX
variable {w : kW} {x : Nat}
theorem ob_at {a k : Nat} (h : qOb vF a k = true) : kKd (Rl x w vF) (x + a) = k ∧ owX x (x + a) = (x + a, 0) ∧ a < 256 := by
  unfold qOb at h
  simp only [Bool.and_eq_true, decide_eq_true_eq] at h
  obtain ⟨⟨h1, h2⟩, h3⟩ := h
  exact ⟨by rw [Rl_kd (by rw [vF_z]; exact h2)]; exact h1, by rw [owX_in h2, h3], h2⟩
theorem p_at {a j : Nat} {r : Option Nat} (h : kP vF a j = r) (ha : a < 256) : kP (Rl x w vF) (x + a) j = Rp x r := by
  rw [Rl_p (by rw [vF_z]; exact ha), h]
theorem i_at {a : Nat} (ha : a < 256) : kI (Rl x w vF) (x + a) = kI vF a := Rl_i (by rw [vF_z]; exact ha)
theorem ln_at {a cap j k : Nat} (h : qLn vF a cap j k = true) (ha : a < 256) : LnA (owX x) (Rl x w vF) (x + a) cap j k ∧ Lp (Rl x w vF) (x + a) j = x + Lp vF a j ∧ Lp vF a j < 256 := by
  unfold qLn at h
  cases hp : kP vF a j with
  | none => rw [hp] at h; cases h
  | some b =>
    rw [hp] at h
    simp only [Bool.and_eq_true, decide_eq_true_eq] at h
    obtain ⟨⟨⟨h1, h2⟩, h3⟩, h4⟩ := h
    have hP : kP (Rl x w vF) (x + a) j = some (x + b) := p_at hp ha
    have hL : Lp (Rl x w vF) (x + a) j = x + b := by unfold Lp; rw [hP]; rfl
    have hL2 : Lp vF a j = b := by unfold Lp; rw [hp]; rfl
    refine ⟨⟨by rw [hL]; exact hP, by rw [hL, Rl_kd (by rw [vF_z]; exact h3)]; exact h1, by rw [hL, Rl_ln (by rw [vF_z]; exact h3)]; exact h2, by rw [hL, owX_in h3, h4]⟩, by rw [hL, hL2], by rw [hL2]; exact h3⟩
theorem lnS_at {a cap : Nat} (h : qLs vF a cap = true) : LnS (owX x) (Rl x w vF) (x + a) cap := by
  unfold qLs at h
  simp only [Bool.and_eq_true, decide_eq_true_eq] at h
  obtain ⟨⟨⟨⟨⟨⟨h1, h2⟩, h3⟩, h4⟩, h5⟩, h6⟩, h7⟩ := h
  obtain ⟨k, o, l⟩ := ob_at h1
  exact ⟨k, o, h2, (ln_at h3 l).1, (ln_at h4 l).1, (ln_at h5 l).1, (ln_at h6 l).1, (ln_at h7 l).1⟩
theorem pg_at {a : Nat} (h : qPg vF a = true) : Pg (owX x) (Rl x w vF) (x + a) := by
  unfold qPg at h
  simp only [Bool.and_eq_true] at h
  obtain ⟨k, o, l⟩ := ob_at h.1
  exact ⟨k, o, (ln_at h.2 l).1⟩
theorem tb_at {a : Nat} (h : qTb vF a = true) : TbR (owX x) x (Rl x w vF) (x + a) := by
  unfold qTb at h
  simp only [Bool.and_eq_true] at h
  obtain ⟨⟨⟨⟨⟨⟨⟨⟨⟨h1, h2⟩, h3⟩, h4⟩, h5⟩, h6⟩, h7⟩, h8⟩, h9⟩, h10⟩ := h
  obtain ⟨k, o, l⟩ := ob_at h1
  obtain ⟨r0, e0, b0⟩ := ln_at (x := x) (w := w) h2 l
  obtain ⟨r6, e6, b6⟩ := ln_at (x := x) (w := w) h8 l
  refine ⟨k, o, r0, (ln_at h3 l).1, (ln_at h4 l).1, (ln_at h5 l).1, (ln_at h6 l).1, (ln_at h7 l).1, r6, fun i hi b hb => ?_, fun i hi b hb => ?_⟩
  · have := of_decide_eq_true (List.all_eq_true.mp h9 i (List.mem_range.mpr hi))
    rw [e0, p_at this b0] at hb
    cases hb
  · have := of_decide_eq_true (List.all_eq_true.mp h10 i (List.mem_range.mpr hi))
    rw [e6, p_at this b6] at hb
    cases hb
theorem sh_at {a : Nat} (h : qSh vF a = true) : ShO (owX x) x (Rl x w vF) (x + a) none := by
  unfold qSh at h
  simp only [Bool.and_eq_true, decide_eq_true_eq] at h
  obtain ⟨⟨⟨h1, h2⟩, h3⟩, h4⟩ := h
  obtain ⟨k, o, l⟩ := ob_at h1
  exact ⟨⟨k, o, (ln_at h2 l).1⟩, by rw [i_at l]; exact h3, p_at h4 l⟩
end ATX
def T0 : TbS := tMk [] (fun _ => 0) [] (fun _ => (0, 0, 0)) []
def S0 : AS := (T0, none, fun _ => none)
theorem T0_W : TbW T0 := ⟨Nat.zero_le _, fun f hf => (by cases hf), List.nodup_nil, fun k => ⟨fun h => (by cases h), fun h => absurd h.1 (Nat.not_lt_zero _)⟩, fun _ => Nat.zero_le _, Nat.zero_le _, fun u hu => (by cases hu)⟩
set_option maxRecDepth 100000 in
theorem vq1 : (qOb vF 0 11 && decide (kI vF 0 2 = iB false) && qLn vF 0 8 3 18 && qLn vF 0 3 11 14 && decide (Lp vF 0 3 = 17) && [(0, 1), (1, 9), (3, 17), (4, 18), (5, 27), (6, 30), (7, 32), (8, 57), (9, 61), (10, 218)].all (fun q => decide (kP vF 0 q.1 = some q.2)) && (List.range 8).all (fun d => decide (kP vF 17 d = some (221 + 2 * d)) && qSh vF (221 + 2 * d))) = true := by decide +kernel
set_option maxRecDepth 100000 in
theorem vq2 : (qTb vF 1 && qTb vF 9 && decide (kI vF 1 7 = iI 0) && decide (kI vF 1 8 = iI 0) && decide (kI vF 1 9 = iI 0)) = true := by decide +kernel
set_option maxRecDepth 100000 in
theorem vq3 : (qOb vF 18 2 && decide (kP vF 18 0 = some 19) && qLs vF 19 60 && qLn vF 18 12 1 14 && qLn vF 18 60 2 15) = true := by decide +kernel
set_option maxRecDepth 100000 in
theorem vq4 : (qOb vF 27 10 && qLn vF 27 400 0 13 && qLn vF 27 200 1 14 && qPg vF 30) = true := by decide +kernel
set_option maxRecDepth 100000 in
theorem vq5 : (qOb vF 32 9 && decide (kP vF 32 0 = some 33) && decide (kP vF 32 1 = some 39) && decide (kP vF 32 2 = some 45) && decide (kP vF 32 3 = some 51) && qLs vF 33 200 && qLs vF 39 200 && qLs vF 45 200 && qLs vF 51 200) = true := by decide +kernel
set_option maxRecDepth 100000 in
theorem vq6 : (qOb vF 57 7 && decide (kP vF 57 0 = some 58) && qPg vF 58 && qLn vF 57 40 1 14) = true := by decide +kernel
set_option maxRecDepth 100000 in
theorem vq7 : (qOb vF 61 5 && qLn vF 61 24 0 16 && qLn vF 61 24 1 14 && qLn vF 61 40 2 16 && qLn vF 61 40 3 14 && decide (kP vF 61 4 = some 66) && qPg vF 66 && decide (kP vF 61 5 = some 68) && qLs vF 68 20 && (List.range 24).all (fun j => decide (kP vF (Lp vF 61 0) j = some (74 + 6 * j)) && qLs vF (74 + 6 * j) (if j = 0 then 60 else 20)) && decide (kI vF 61 16 = iI 0)) = true := by decide +kernel
set_option maxRecDepth 100000 in
theorem vq8 : (qOb vF 218 3 && qLn vF 218 2 0 13 && decide (kI vF 218 1 = iI 2) && decide (kI vF 218 2 = iB false) && decide (kI vF 218 3 = iI 1000000) && decide (kI vF 218 4 = iI 1000000) && decide (kI vF (Lp vF 218 0) 0 = iI 100) && decide (kI vF (Lp vF 218 0) 1 = iI 99)) = true := by decide +kernel
set_option maxRecDepth 100000 in
theorem vq9 : ((List.range 256).all (fun c => decide ((OW c).1 < 256)) && (List.range 19).all (fun n => decide (OW (237 + n) = (2, 0)))) = true := by decide +kernel
set_option maxRecDepth 100000 in
theorem vq10 : (decide (kKd vF 237 = 12) && (List.range 17).all (fun n => decide (kKd vF (237 + n + 1) = 14) && decide (kLn vF (237 + n + 1) = rLen n) && decide (kP vF 237 (rSl n) = some (237 + n + 1))) && decide (kKd vF 255 = 15) && decide (kLn vF 255 = 1)) = true := by decide +kernel
