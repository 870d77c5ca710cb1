/-! .. of a long -/
def dg : Nat → Nat → List Nat
  | _, 0 => []
  | n, k + 1 => n % 256 :: dg (n / 256) k
theorem dg_ok : ∀ k n : Nat, n < 256 ^ k → (dg n k).length = k ∧ vL (dg n k) = n ∧ ∀ a ∈ dg n k, a < 256 := by
  intro k
  induction k with
  | zero =>
    intro n h
    have h0 : n < 1 := h
    exact ⟨rfl, by show 0 = n; omega, fun a ha => (by cases ha)⟩
  | succ k ih =>
    intro n h
    obtain ⟨i1, i2, i3⟩ := ih (n / 256) (by rw [Nat.pow_succ] at h; omega)
    refine ⟨by show (n % 256 :: dg (n / 256) k).length = k + 1; rw [List.length_cons, i1], ?_, fun a ha => ?_⟩
    · show n % 256 + 256 * vL (dg (n / 256) k) = n
      rw [i2]; omega
    · rcases List.mem_cons.mp ha with rfl | ha
      · omega
      · exact i3 a ha
theorem len_8 : ∀ L : List Nat, L.length = 8 → ∃ a0 a1 a2 a3 a4 a5 a6 a7, L = [a0, a1, a2, a3, a4, a5, a6, a7]
  | [a0, a1, a2, a3, a4, a5, a6, a7], _ => ⟨a0, a1, a2, a3, a4, a5, a6, a7, rfl⟩
theorem bit64_fin {c0 c1 c2 c3 c4 c5 c6 c7 V : Nat} (l0 : c0 ≤ 8) (l1 : c1 ≤ 8) (l2 : c2 ≤ 8) (l3 : c3 ≤ 8) (l4 : c4 ≤ 8) (l5 : c5 ≤ 8) (l6 : c6 ≤ 8) (l7 : c7 ≤ 8) (eV : V = vL [c0, c1, c2, c3, c4, c5, c6, c7]) :
    ((some (jN V + (((jN V).toUInt64 >>> ((8 : Int32).toInt64.toUInt64 &&& Int64.toUInt64 63)).toInt64))).bind fun v4 => (some (v4 + ((v4.toUInt64 >>> ((16 : Int32).toInt64.toUInt64 &&& Int64.toUInt64 63)).toInt64))).bind fun v5 => (some (v5 + ((v5.toUInt64 >>> ((32 : Int32).toInt64.toUInt64 &&& Int64.toUInt64 63)).toInt64))).bind fun v6 => some (v6.toInt32 &&& (127 : Int32))) = some (iI ((c0 + (c1 + (c2 + (c3 + (c4 + (c5 + (c6 + (c7 + 0))))))) : Nat) : Int)) := by
  simp only [vL] at eV
  have v1 : V / 2 ^ 8 = c1 + 256 * (c2 + 256 * (c3 + 256 * (c4 + 256 * (c5 + 256 * (c6 + 256 * c7))))) := by
    rw [eV]; omega
  have bV : V < 2 ^ 62 := by omega
  have bV2 : V / 2 ^ 8 < 2 ^ 62 := by omega
  have eU : V + V / 2 ^ 8 = (c0 + c1) + 256 * ((c1 + c2) + 256 * ((c2 + c3) + 256 * ((c3 + c4) + 256 * ((c4 + c5) + 256 * ((c5 + c6) + 256 * ((c6 + c7) + 256 * c7)))))) := by
    rw [v1, eV]; omega
  have f4 : jN V + (((jN V).toUInt64 >>> ((8 : Int32).toInt64.toUInt64 &&& Int64.toUInt64 63)).toInt64) = jN (V + V / 2 ^ 8) := by
    rw [jN_sh (k := 8) (by omega) _ (by decide +kernel), jN_add (by omega)]
  have bU : V + V / 2 ^ 8 < 2 ^ 63 := by omega
  rw [f4, Option.bind_some]
  generalize V + V / 2 ^ 8 = U at eU bU
  clear f4 bV bV2 v1 eV
  have v2 : U / 2 ^ 16 = (c2 + c3) + 256 * ((c3 + c4) + 256 * ((c4 + c5) + 256 * ((c5 + c6) + 256 * ((c6 + c7) + 256 * c7)))) := by
    rw [eU]; omega
  have bU2 : U / 2 ^ 16 < 2 ^ 63 := by omega
  have f5 : jN U + (((jN U).toUInt64 >>> ((16 : Int32).toInt64.toUInt64 &&& Int64.toUInt64 63)).toInt64) = jN (U + U / 2 ^ 16) := by
    rw [jN_sh (k := 16) (by omega) _ (by decide +kernel), jN_add (by omega)]
  have eT : U + U / 2 ^ 16 = (c0 + c1 + c2 + c3) + 256 * ((c1 + c2 + c3 + c4) + 256 * ((c2 + c3 + c4 + c5) + 256 * ((c3 + c4 + c5 + c6) + 256 * ((c4 + c5 + c6 + c7) + 256 * ((c5 + c6 + c7) + 256 * ((c6 + c7) + 256 * c7)))))) := by
    rw [v2, eU]; omega
  rw [f5, Option.bind_some]
  generalize U + U / 2 ^ 16 = T at eT
  clear f5 bU bU2 v2 eU
  have bT : T < 2 ^ 63 := by omega
  have v3 : T / 2 ^ 32 = (c4 + c5 + c6 + c7) + 256 * ((c5 + c6 + c7) + 256 * ((c6 + c7) + 256 * c7)) := by
    rw [eT]; omega
  have f6 : jN T + (((jN T).toUInt64 >>> ((32 : Int32).toInt64.toUInt64 &&& Int64.toUInt64 63)).toInt64) = jN (T + T / 2 ^ 32) := by
    rw [jN_sh (k := 32) (by omega) _ (by decide +kernel), jN_add (by omega)]
  have bR : T + T / 2 ^ 32 < 2 ^ 64 := by omega
  have eR : (T + T / 2 ^ 32) % 128 = c0 + (c1 + (c2 + (c3 + (c4 + (c5 + (c6 + (c7 + 0))))))) := by
    have eq : T + T / 2 ^ 32 = (c0 + (c1 + (c2 + (c3 + (c4 + (c5 + (c6 + (c7 + 0)))))))) + 256 * (((c1 + c2 + c3 + c4) + 256 * ((c2 + c3 + c4 + c5) + 256 * ((c3 + c4 + c5 + c6) + 256 * ((c4 + c5 + c6 + c7) + 256 * ((c5 + c6 + c7) + 256 * ((c6 + c7) + 256 * c7)))))) + ((c5 + c6 + c7) + 256 * ((c6 + c7) + 256 * c7))) := by
      rw [v3, eT]; omega
    rw [eq]
    generalize ((c1 + c2 + c3 + c4) + 256 * ((c2 + c3 + c4 + c5) + 256 * ((c3 + c4 + c5 + c6) + 256 * ((c4 + c5 + c6 + c7) + 256 * ((c5 + c6 + c7) + 256 * ((c6 + c7) + 256 * c7)))))) + ((c5 + c6 + c7) + 256 * ((c6 + c7) + 256 * c7)) = R
    clear eq v3 eT f6 bR bT
    omega
  rw [f6, Option.bind_some, jN_127 bR, eR]
theorem bit64_ok {n : Nat} (hn : n < 2 ^ 64) : fJ13_bitCount_95d88 (jN n) = some (iI ((cS (fun i => n.testBit i) 64 : Nat) : Int)) := by
  obtain ⟨d1, d2, d3⟩ := dg_ok 8 n (by omega)
  generalize dg n 8 = L0 at d1 d2 d3
  obtain ⟨a0, a1, a2, a3, a4, a5, a6, a7, rfl⟩ := len_8 L0 d1
  have e : n = vL [a0, a1, a2, a3, a4, a5, a6, a7] := d2.symm
  have h0 := d3 a0 (by simp)
  have h1 := d3 a1 (by simp)
  have h2 := d3 a2 (by simp)
  have h3 := d3 a3 (by simp)
  have h4 := d3 a4 (by simp)
  have h5 := d3 a5 (by simp)
  have h6 := d3 a6 (by simp)
  have h7 := d3 a7 (by simp)
  have hb := d3
  clear d1 d2 d3
  generalize hL : [a0, a1, a2, a3, a4, a5, a6, a7] = L at hb e
  have len : L.length = 8 := by rw [← hL]; rfl
  obtain ⟨s1, s2, s3⟩ := st_1 L hb
  have hb2 : ∀ a ∈ L.map by2, a < 256 := fun a ha => by
    obtain ⟨b, hb', rfl⟩ := List.mem_map.mp ha
    exact (by_3n b (hb b hb')).2.2
  obtain ⟨t1, t2, t3⟩ := st_2 (L.map by2) hb2
  have hb3 : ∀ a ∈ (L.map by2).map by3, a % 16 ≤ 4 ∧ a / 16 ≤ 4 := fun a ha => by
    obtain ⟨c, hc, rfl⟩ := List.mem_map.mp ha
    obtain ⟨b, hb', rfl⟩ := List.mem_map.mp hc
    exact ⟨(by_3n b (hb b hb')).1, (by_3n b (hb b hb')).2.1⟩
  obtain ⟨u1, u2, u3⟩ := st_3 ((L.map by2).map by3) hb3
  rw [List.length_map] at t1 t2
  rw [List.length_map, List.length_map] at u1 u3
  rw [len] at s1 t1 t2 u1 u3
  have m5 : (6148914691236517205 : Int64) = jN (mk8 85 8) := by decide +kernel
  have m3 : (3689348814741910323 : Int64) = jN (mk8 51 8) := by decide +kernel
  have mf : (1085102592571150095 : Int64) = jN (mk8 15 8) := by decide +kernel
  have q5 : mk8 85 8 < 2 ^ 64 := by decide +kernel
  have q3 : mk8 51 8 < 2 ^ 64 := by decide +kernel
  have qf : mk8 15 8 < 2 ^ 64 := by decide +kernel
  have dv : ∀ k, n / k < 2 ^ 64 := fun k => Nat.lt_of_le_of_lt (Nat.div_le_self _ _) hn
  -- first
  have f1 : jN n - ((((jN n).toUInt64 >>> ((1 : Int32).toInt64.toUInt64 &&& Int64.toUInt64 63)).toInt64) &&& (6148914691236517205 : Int64)) = jN (vL (L.map by2)) := by
    rw [jN_sh (k := 1) hn _ (by decide +kernel), m5, jN_and (dv _) q5, e, show 2 ^ 1 = 2 from rfl, s1, jN_sub (by rw [← e]; exact hn) s2, s3]
  have b1 : vL (L.map by2) < 2 ^ 64 := by rw [← s3, ← e]; omega
  have dv1 : ∀ k, vL (L.map by2) / k < 2 ^ 64 := fun k => Nat.lt_of_le_of_lt (Nat.div_le_self _ _) b1
  have b2 : vL ((L.map by2).map by3) < 2 ^ 63 := by
    have : (256 : Nat) ^ 8 = 2 * 2 ^ 63 := by decide
    omega
  have f2 : (jN (vL (L.map by2)) &&& (3689348814741910323 : Int64)) + ((((jN (vL (L.map by2))).toUInt64 >>> ((2 : Int32).toInt64.toUInt64 &&& Int64.toUInt64 63)).toInt64) &&& (3689348814741910323 : Int64)) = jN (vL ((L.map by2).map by3)) := by
    rw [jN_sh (k := 2) b1 _ (by decide +kernel), m3, jN_and (dv1 _) q3, jN_and b1 q3, show 2 ^ 2 = 4 from rfl, t1, t2, jN_add (by rw [t3]; omega), t3]
  have f3 : (jN (vL ((L.map by2).map by3)) + (((jN (vL ((L.map by2).map by3))).toUInt64 >>> ((4 : Int32).toInt64.toUInt64 &&& Int64.toUInt64 63)).toInt64)) &&& (1085102592571150095 : Int64) = jN (vL (((L.map by2).map by3).map by4)) := by
    rw [jN_sh (k := 4) (by omega) _ (by decide +kernel), mf, show 2 ^ 4 = 16 from rfl, jN_add (by omega), jN_and (by omega) qf, u1]
  have eC : vL (((L.map by2).map by3).map by4) = vL [cS (fun i => a0.testBit i) 8, cS (fun i => a1.testBit i) 8, cS (fun i => a2.testBit i) 8, cS (fun i => a3.testBit i) 8, cS (fun i => a4.testBit i) 8, cS (fun i => a5.testBit i) 8, cS (fun i => a6.testBit i) 8, cS (fun i => a7.testBit i) 8] := by
    rw [← hL]
    simp only [List.map_cons, List.map_nil]
    rw [by_s a0 h0, by_s a1 h1, by_s a2 h2, by_s a3 h3, by_s a4 h4, by_s a5 h5, by_s a6 h6, by_s a7 h7]
  have eN : cS (fun i => n.testBit i) 64 = cS (fun i => a0.testBit i) 8 + (cS (fun i => a1.testBit i) 8 + (cS (fun i => a2.testBit i) 8 + (cS (fun i => a3.testBit i) 8 + (cS (fun i => a4.testBit i) 8 + (cS (fun i => a5.testBit i) 8 + (cS (fun i => a6.testBit i) 8 + (cS (fun i => a7.testBit i) 8 + 0))))))) := by
    rw [e, ← hL]
    simp only [vL]
    rw [cS_byte (k := 56) h0, cS_byte (k := 48) h1, cS_byte (k := 40) h2, cS_byte (k := 32) h3, cS_byte (k := 24) h4, cS_byte (k := 16) h5, cS_byte (k := 8) h6, cS_byte (k := 0) h7]
    rfl
  have l0 := cS_le (fun i => a0.testBit i) 8
  have l1 := cS_le (fun i => a1.testBit i) 8
  have l2 := cS_le (fun i => a2.testBit i) 8
  have l3 := cS_le (fun i => a3.testBit i) 8
  have l4 := cS_le (fun i => a4.testBit i) 8
  have l5 := cS_le (fun i => a5.testBit i) 8
  have l6 := cS_le (fun i => a6.testBit i) 8
  have l7 := cS_le (fun i => a7.testBit i) 8
  have fin := bit64_fin l0 l1 l2 l3 l4 l5 l6 l7 eC
  rw [fJ13_bitCount_95d88, Option.bind_some, f1, Option.bind_some, f2, Option.bind_some, f3, fin, eN]
