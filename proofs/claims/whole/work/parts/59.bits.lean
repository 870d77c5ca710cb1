/-! BITS: counting them in a long -/
def jN (n : Nat) : Int64 := Int64.ofBitVec (BitVec.ofNat 64 n)
theorem jN_or {n m : Nat} (hn : n < 2 ^ 64) (hm : m < 2 ^ 64) : jN n ||| jN m = jN (n ||| m) := by
  apply Int64.toBitVec.inj
  apply BitVec.eq_of_toNat_eq
  show ((BitVec.ofNat 64 n) ||| (BitVec.ofNat 64 m)).toNat = (BitVec.ofNat 64 (n ||| m)).toNat
  rw [BitVec.toNat_or, BitVec.toNat_ofNat, BitVec.toNat_ofNat, BitVec.toNat_ofNat, Nat.mod_eq_of_lt hn, Nat.mod_eq_of_lt hm, Nat.mod_eq_of_lt (Nat.or_lt_two_pow hn hm)]
theorem jN_and {n m : Nat} (hn : n < 2 ^ 64) (hm : m < 2 ^ 64) : jN n &&& jN m = jN (n &&& m) := by
  apply Int64.toBitVec.inj
  apply BitVec.eq_of_toNat_eq
  show ((BitVec.ofNat 64 n) &&& (BitVec.ofNat 64 m)).toNat = (BitVec.ofNat 64 (n &&& m)).toNat
  rw [BitVec.toNat_and, BitVec.toNat_ofNat, BitVec.toNat_ofNat, BitVec.toNat_ofNat, Nat.mod_eq_of_lt hn, Nat.mod_eq_of_lt hm, Nat.mod_eq_of_lt (Nat.and_lt_two_pow n hm)]
theorem jN_xor {n m : Nat} (hn : n < 2 ^ 64) (hm : m < 2 ^ 64) : jN n ^^^ jN m = jN (n ^^^ m) := by
  apply Int64.toBitVec.inj
  apply BitVec.eq_of_toNat_eq
  show ((BitVec.ofNat 64 n) ^^^ (BitVec.ofNat 64 m)).toNat = (BitVec.ofNat 64 (n ^^^ m)).toNat
  rw [BitVec.toNat_xor, BitVec.toNat_ofNat, BitVec.toNat_ofNat, BitVec.toNat_ofNat, Nat.mod_eq_of_lt hn, Nat.mod_eq_of_lt hm, Nat.mod_eq_of_lt (Nat.xor_lt_two_pow hn hm)]
theorem jN_add {n m : Nat} (h : n + m < 2 ^ 64) : jN n + jN m = jN (n + m) := by
  apply Int64.toBitVec.inj
  apply BitVec.eq_of_toNat_eq
  show ((BitVec.ofNat 64 n) + (BitVec.ofNat 64 m)).toNat = (BitVec.ofNat 64 (n + m)).toNat
  rw [BitVec.toNat_add, BitVec.toNat_ofNat, BitVec.toNat_ofNat, BitVec.toNat_ofNat, ← Nat.add_mod]
theorem jN_sub {n m : Nat} (hn : n < 2 ^ 64) (h : m ≤ n) : jN n - jN m = jN (n - m) := by
  apply Int64.toBitVec.inj
  apply BitVec.eq_of_toNat_eq
  show ((BitVec.ofNat 64 n) - (BitVec.ofNat 64 m)).toNat = (BitVec.ofNat 64 (n - m)).toNat
  rw [BitVec.toNat_sub, BitVec.toNat_ofNat, BitVec.toNat_ofNat, BitVec.toNat_ofNat]
  omega
theorem jN_sh {n k : Nat} (hn : n < 2 ^ 64) (s : UInt64) (hs : (UInt64.mod s 64).toBitVec.toNat = k) : ((jN n).toUInt64 >>> s).toInt64 = jN (n / 2 ^ k) := by
  apply Int64.toBitVec.inj
  apply BitVec.eq_of_toNat_eq
  show ((BitVec.ofNat 64 n) >>> (UInt64.mod s 64).toBitVec).toNat = (BitVec.ofNat 64 (n / 2 ^ k)).toNat
  rw [BitVec.ushiftRight_eq', hs, BitVec.toNat_ushiftRight, BitVec.toNat_ofNat, BitVec.toNat_ofNat, Nat.mod_eq_of_lt hn, Nat.shiftRight_eq_div_pow, Nat.mod_eq_of_lt (Nat.lt_of_le_of_lt (Nat.div_le_self _ _) hn)]
theorem jN_127 {n : Nat} (hn : n < 2 ^ 64) : (jN n).toInt32 &&& (127 : Int32) = iI ((n % 128 : Nat) : Int) := by
  apply Int32.toBitVec.inj
  apply BitVec.eq_of_toNat_eq
  show (((BitVec.ofNat 64 n).signExtend 32) &&& (BitVec.ofNat 32 127)).toNat = (BitVec.ofInt 32 ((n % 128 : Nat) : Int)).toNat
  rw [BitVec.signExtend_eq_setWidth_of_le _ (by decide), BitVec.toNat_and, BitVec.toNat_setWidth, BitVec.toNat_ofNat, BitVec.toNat_ofNat, BitVec.toNat_ofInt]
  have e : (127 : Nat) % 2 ^ 32 = 2 ^ 7 - 1 := by decide
  rw [e, Nat.and_two_pow_sub_one_eq_mod]
  omega
def cS (g : Nat → Bool) : Nat → Nat
  | 0 => 0
  | k + 1 => cS g k + (g k).toNat
theorem cS_congr {g h : Nat → Bool} : ∀ k, (∀ i, i < k → g i = h i) → cS g k = cS h k := by
  intro k
  induction k with
  | zero => exact fun _ => rfl
  | succ k ih =>
    intro e
    show cS g k + (g k).toNat = cS h k + (h k).toNat
    rw [ih (fun i hi => e i (by omega)), e k (by omega)]
theorem cS_add (g : Nat → Bool) (a : Nat) : ∀ b, cS g (a + b) = cS g a + cS (fun i => g (a + i)) b := by
  intro b
  induction b with
  | zero => rfl
  | succ b ih =>
    show cS g (a + b) + (g (a + b)).toNat = cS g a + (cS (fun i => g (a + i)) b + (g (a + b)).toNat)
    rw [ih]; omega
theorem cS_false : ∀ k, cS (fun _ => false) k = 0 := by
  intro k
  induction k with
  | zero => rfl
  | succ k ih => show cS _ k + 0 = 0; rw [ih]
theorem cS_range (g : Nat → Bool) : ∀ k, (List.range k).countP g = cS g k := by
  intro k
  induction k with
  | zero => rfl
  | succ k ih =>
    rw [List.range_succ, List.countP_append, ih]
    show cS g k + [k].countP g = cS g k + (g k).toNat
    cases h : g k <;> simp [h]
/-! a long as bytes -/
def vL : List Nat → Nat
  | [] => 0
  | a :: L => a + 256 * vL L
def mk8 (c : Nat) : Nat → Nat
  | 0 => 0
  | k + 1 => c + 256 * mk8 c k
theorem and_l {a c : Nat} (ha : a < 256) (hc : c < 256) (N M : Nat) : (a + 256 * N) &&& (c + 256 * M) = (a &&& c) + 256 * (N &&& M) := by
  have hac : (a &&& c) < 2 ^ 8 := Nat.and_lt_two_pow a hc
  apply Nat.eq_of_testBit_eq
  intro i
  rw [Nat.testBit_and, Nat.add_comm a, Nat.add_comm c, Nat.add_comm (a &&& c), show (256 : Nat) = 2 ^ 8 from rfl, Nat.testBit_two_pow_mul_add N ha, Nat.testBit_two_pow_mul_add M hc, Nat.testBit_two_pow_mul_add (N &&& M) hac]
  by_cases hi : i < 8
  · rw [if_pos hi, if_pos hi, if_pos hi, Nat.testBit_and]
  · rw [if_neg hi, if_neg hi, if_neg hi, Nat.testBit_and]
def by1 (a : Nat) : Nat := (a / 2) &&& 85
def by2 (a : Nat) : Nat := a - by1 a
def by3 (a : Nat) : Nat := (a &&& 51) + ((a / 4) &&& 51)
def by4 (a : Nat) : Nat := (a + a / 16) &&& 15
theorem by_1 (a r : Nat) (ha : a < 256) (hr : r < 2) : (a / 2 + 128 * r) &&& 85 = by1 a := by
  have h : ∀ a : Fin 256, ∀ r : Fin 2, (a.val / 2 + 128 * r.val) &&& 85 = by1 a.val := by decide +kernel
  exact h ⟨a, ha⟩ ⟨r, hr⟩
theorem by_1l (a : Nat) (ha : a < 256) : by1 a ≤ a := by
  have h : ∀ a : Fin 256, by1 a.val ≤ a.val := by decide +kernel
  exact h ⟨a, ha⟩
theorem by_3 (a r : Nat) (ha : a < 256) (hr : r < 4) : (a / 4 + 64 * r) &&& 51 = (a / 4) &&& 51 := by
  have h : ∀ a : Fin 256, ∀ r : Fin 4, (a.val / 4 + 64 * r.val) &&& 51 = (a.val / 4) &&& 51 := by decide +kernel
  exact h ⟨a, ha⟩ ⟨r, hr⟩
theorem by_3n (a : Nat) (ha : a < 256) : by3 (by2 a) % 16 ≤ 4 ∧ by3 (by2 a) / 16 ≤ 4 ∧ by2 a < 256 := by
  have h : ∀ a : Fin 256, by3 (by2 a.val) % 16 ≤ 4 ∧ by3 (by2 a.val) / 16 ≤ 4 ∧ by2 a.val < 256 := by decide +kernel
  exact h ⟨a, ha⟩
theorem by_4 (a r : Nat) (ha : a % 16 ≤ 4 ∧ a / 16 ≤ 4) (hr : r ≤ 4) : (a + a / 16 + 16 * r) &&& 15 = by4 a ∧ a + a / 16 + 16 * r < 256 := by
  have h : ∀ p : Fin 5, ∀ q : Fin 5, ∀ r : Fin 5, ((p.val + 16 * q.val) + (p.val + 16 * q.val) / 16 + 16 * r.val) &&& 15 = by4 (p.val + 16 * q.val) ∧ (p.val + 16 * q.val) + (p.val + 16 * q.val) / 16 + 16 * r.val < 256 := by decide +kernel
  have h2 := h ⟨a % 16, by omega⟩ ⟨a / 16, by omega⟩ ⟨r, by omega⟩
  have e : a % 16 + 16 * (a / 16) = a := by omega
  simp only [e] at h2
  exact h2
theorem by_s (a : Nat) (ha : a < 256) : by4 (by3 (by2 a)) = cS (fun i => a.testBit i) 8 := by
  have h : ∀ a : Fin 256, by4 (by3 (by2 a.val)) = cS (fun i => a.val.testBit i) 8 := by decide +kernel
  exact h ⟨a, ha⟩
theorem vL_cons (a : Nat) (L : List Nat) : vL (a :: L) = a + 256 * vL L := rfl
theorem st_1 : ∀ L : List Nat, (∀ a ∈ L, a < 256) → (vL L / 2) &&& mk8 85 L.length = vL (L.map by1) ∧ vL (L.map by1) ≤ vL L ∧ vL L - vL (L.map by1) = vL (L.map by2) := by
  intro L
  induction L with
  | nil => exact fun _ => ⟨rfl, Nat.le_refl _, rfl⟩
  | cons a L ih =>
    intro h
    have ha := h a List.mem_cons_self
    obtain ⟨i1, i2, i3⟩ := ih (fun b hb => h b (List.mem_cons_of_mem _ hb))
    have l1 := by_1l a ha
    rw [List.length_cons, List.map_cons, List.map_cons, vL_cons, vL_cons, vL_cons]
    refine ⟨?_, by omega, ?_⟩
    · rw [show (a + 256 * vL L) / 2 = (a / 2 + 128 * (vL L % 2)) + 256 * (vL L / 2) by omega]
      show _ &&& (85 + 256 * mk8 85 L.length) = _
      rw [and_l (by omega) (by omega), i1, by_1 a _ ha (by omega)]
    · rw [← i3]
      unfold by2
      omega
theorem st_2 : ∀ L : List Nat, (∀ a ∈ L, a < 256) → vL L &&& mk8 51 L.length = vL (L.map fun a => a &&& 51) ∧ (vL L / 4) &&& mk8 51 L.length = vL (L.map fun a => (a / 4) &&& 51) ∧ vL (L.map fun a => a &&& 51) + vL (L.map fun a => (a / 4) &&& 51) = vL (L.map by3) := by
  intro L
  induction L with
  | nil => exact fun _ => ⟨rfl, rfl, rfl⟩
  | cons a L ih =>
    intro h
    have ha := h a List.mem_cons_self
    obtain ⟨i1, i2, i3⟩ := ih (fun b hb => h b (List.mem_cons_of_mem _ hb))
    rw [List.length_cons, List.map_cons, List.map_cons, List.map_cons, vL_cons, vL_cons, vL_cons, vL_cons]
    refine ⟨?_, ?_, ?_⟩
    · show _ &&& (51 + 256 * mk8 51 L.length) = _
      rw [and_l ha (by omega), i1]
    · rw [show (a + 256 * vL L) / 4 = (a / 4 + 64 * (vL L % 4)) + 256 * (vL L / 4) by omega]
      show _ &&& (51 + 256 * mk8 51 L.length) = _
      rw [and_l (by omega) (by omega), i2, by_3 a _ ha (by omega)]
    · rw [← i3]
      unfold by3
      omega
theorem st_3 : ∀ L : List Nat, (∀ a ∈ L, a % 16 ≤ 4 ∧ a / 16 ≤ 4) → (vL L + vL L / 16) &&& mk8 15 L.length = vL (L.map by4) ∧ vL L % 16 ≤ 4 ∧ 2 * vL L < 256 ^ L.length := by
  intro L
  induction L with
  | nil => exact fun _ => ⟨rfl, by decide, by decide⟩
  | cons a L ih =>
    intro h
    have ha := h a List.mem_cons_self
    obtain ⟨i1, i2, i3⟩ := ih (fun b hb => h b (List.mem_cons_of_mem _ hb))
    obtain ⟨q1, q2⟩ := by_4 a _ ha i2
    rw [List.length_cons, List.map_cons, vL_cons, vL_cons]
    refine ⟨?_, by omega, ?_⟩
    · rw [show a + 256 * vL L + (a + 256 * vL L) / 16 = (a + a / 16 + 16 * (vL L % 16)) + 256 * (vL L + vL L / 16) by omega]
      show _ &&& (15 + 256 * mk8 15 L.length) = _
      rw [and_l q2 (by omega), i1, q1]
    · rw [Nat.pow_succ]
      omega
theorem cS_byte {a : Nat} (ha : a < 256) (N k : Nat) : cS (fun i => (a + 256 * N).testBit i) (8 + k) = cS (fun i => a.testBit i) 8 + cS (fun i => N.testBit i) k := by
  rw [cS_add]
  congr 1
  · refine cS_congr 8 fun i hi => ?_
    rw [Nat.add_comm a, show (256 : Nat) = 2 ^ 8 from rfl, Nat.testBit_two_pow_mul_add N ha, if_pos hi]
  · refine cS_congr k fun i hi => ?_
    rw [Nat.add_comm a, show (256 : Nat) = 2 ^ 8 from rfl, Nat.testBit_two_pow_mul_add N ha, if_neg (by omega)]
    congr 1
    omega
theorem cS_le (g : Nat → Bool) : ∀ k, cS g k ≤ k := by
  intro k
  induction k with
  | zero => exact Nat.le_refl _
  | succ k ih =>
    show cS g k + (g k).toNat ≤ k + 1
    have := Bool.toNat_le (g k)
    omega
