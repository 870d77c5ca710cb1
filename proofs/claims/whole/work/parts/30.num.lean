/-! NUMBERS: an int as a whole number -/
def iI (n : Int) : Int32 := Int32.ofInt n
theorem iI_add (a b : Int) : iI a + iI b = iI (a + b) := (Int32.ofInt_add a b).symm
theorem iI_sub (a b : Int) : iI a - iI b = iI (a - b) := (Int32.ofInt_sub a b).symm
theorem iI_mul (a b : Int) : iI a * iI b = iI (a * b) := (Int32.ofInt_mul a b).symm
theorem iI_neg (a : Int) : -iI a = iI (-a) := (Int32.ofInt_neg a).symm
theorem iI_n (n : Nat) : Int32.ofNat n = iI n := Int32.ofInt_eq_ofNat.symm
theorem iI_toInt {a : Int} (h : -2147483648 ≤ a) (h' : a < 2147483648) : (iI a).toInt = a := Int32.toInt_ofInt_of_le h h'
theorem iI_clamp {a : Int} (h : -2147483648 ≤ a) (h' : a < 2147483648) : (iI a).toNatClampNeg = a.toNat := Int32.toNatClampNeg_ofInt_of_le h h'
theorem iI_of (x : Int32) : ∃ a : Int, -2147483648 ≤ a ∧ a < 2147483648 ∧ x = iI a :=
  ⟨x.toInt, x.le_toInt, x.toInt_lt, (Int32.ofInt_toInt x).symm⟩
theorem iI_lt {a b : Int} (ha : -2147483648 ≤ a) (ha' : a < 2147483648) (hb : -2147483648 ≤ b) (hb' : b < 2147483648) : (iI a < iI b) = (a < b) :=
  propext (by rw [Int32.lt_iff_toInt_lt, iI_toInt ha ha', iI_toInt hb hb'])
theorem iI_le {a b : Int} (ha : -2147483648 ≤ a) (ha' : a < 2147483648) (hb : -2147483648 ≤ b) (hb' : b < 2147483648) : (iI a ≤ iI b) = (a ≤ b) :=
  propext (by rw [Int32.le_iff_toInt_le, iI_toInt ha ha', iI_toInt hb hb'])
theorem iI_eq {a b : Int} (ha : -2147483648 ≤ a) (ha' : a < 2147483648) (hb : -2147483648 ≤ b) (hb' : b < 2147483648) : (iI a = iI b) = (a = b) :=
  propext ⟨fun h => by
    have h2 := congrArg Int32.toInt h
    rw [iI_toInt ha ha', iI_toInt hb hb'] at h2
    exact h2, fun h => by rw [h]⟩
theorem iL_0 : (0 : Int32) = iI 0 := by decide +kernel
theorem iL_1 : (1 : Int32) = iI 1 := by decide +kernel
theorem iL_2 : (2 : Int32) = iI 2 := by decide +kernel
theorem iL_3 : (3 : Int32) = iI 3 := by decide +kernel
theorem iL_4 : (4 : Int32) = iI 4 := by decide +kernel
theorem iL_5 : (5 : Int32) = iI 5 := by decide +kernel
theorem iL_6 : (6 : Int32) = iI 6 := by decide +kernel
theorem iL_7 : (7 : Int32) = iI 7 := by decide +kernel
theorem iL_8 : (8 : Int32) = iI 8 := by decide +kernel
theorem iL_9 : (9 : Int32) = iI 9 := by decide +kernel
theorem iL_10 : (10 : Int32) = iI 10 := by decide +kernel
theorem iL_11 : (11 : Int32) = iI 11 := by decide +kernel
theorem iL_12 : (12 : Int32) = iI 12 := by decide +kernel
theorem iL_13 : (13 : Int32) = iI 13 := by decide +kernel
theorem iL_14 : (14 : Int32) = iI 14 := by decide +kernel
theorem iL_15 : (15 : Int32) = iI 15 := by decide +kernel
theorem iL_16 : (16 : Int32) = iI 16 := by decide +kernel
theorem iL_17 : (17 : Int32) = iI 17 := by decide +kernel
theorem iL_18 : (18 : Int32) = iI 18 := by decide +kernel
theorem iL_19 : (19 : Int32) = iI 19 := by decide +kernel
theorem iL_20 : (20 : Int32) = iI 20 := by decide +kernel
theorem iL_21 : (21 : Int32) = iI 21 := by decide +kernel
theorem iL_22 : (22 : Int32) = iI 22 := by decide +kernel
theorem iL_23 : (23 : Int32) = iI 23 := by decide +kernel
theorem iL_24 : (24 : Int32) = iI 24 := by decide +kernel
theorem iL_27 : (27 : Int32) = iI 27 := by decide +kernel
theorem iL_32 : (32 : Int32) = iI 32 := by decide +kernel
theorem iL_40 : (40 : Int32) = iI 40 := by decide +kernel
theorem iL_41 : (41 : Int32) = iI 41 := by decide +kernel
theorem iL_43 : (43 : Int32) = iI 43 := by decide +kernel
theorem iL_48 : (48 : Int32) = iI 48 := by decide +kernel
theorem iL_49 : (49 : Int32) = iI 49 := by decide +kernel
theorem iL_57 : (57 : Int32) = iI 57 := by decide +kernel
theorem iL_59 : (59 : Int32) = iI 59 := by decide +kernel
theorem iL_60 : (60 : Int32) = iI 60 := by decide +kernel
theorem iL_62 : (62 : Int32) = iI 62 := by decide +kernel
theorem iL_63 : (63 : Int32) = iI 63 := by decide +kernel
theorem iL_64 : (64 : Int32) = iI 64 := by decide +kernel
theorem iL_83 : (83 : Int32) = iI 83 := by decide +kernel
theorem iL_99 : (99 : Int32) = iI 99 := by decide +kernel
theorem iL_100 : (100 : Int32) = iI 100 := by decide +kernel
theorem iL_107 : (107 : Int32) = iI 107 := by decide +kernel
theorem iL_108 : (108 : Int32) = iI 108 := by decide +kernel
theorem iL_109 : (109 : Int32) = iI 109 := by decide +kernel
theorem iL_112 : (112 : Int32) = iI 112 := by decide +kernel
theorem iL_115 : (115 : Int32) = iI 115 := by decide +kernel
theorem iL_117 : (117 : Int32) = iI 117 := by decide +kernel
theorem iL_118 : (118 : Int32) = iI 118 := by decide +kernel
theorem iL_120 : (120 : Int32) = iI 120 := by decide +kernel
theorem iL_121 : (121 : Int32) = iI 121 := by decide +kernel
theorem iL_123 : (123 : Int32) = iI 123 := by decide +kernel
theorem iL_126 : (126 : Int32) = iI 126 := by decide +kernel
theorem iL_127 : (127 : Int32) = iI 127 := by decide +kernel
theorem iL_136 : (136 : Int32) = iI 136 := by decide +kernel
theorem iL_163 : (163 : Int32) = iI 163 := by decide +kernel
theorem iL_200 : (200 : Int32) = iI 200 := by decide +kernel
theorem iL_203 : (203 : Int32) = iI 203 := by decide +kernel
theorem iL_243 : (243 : Int32) = iI 243 := by decide +kernel
theorem iL_400 : (400 : Int32) = iI 400 := by decide +kernel
theorem iL_512 : (512 : Int32) = iI 512 := by decide +kernel
theorem iL_960 : (960 : Int32) = iI 960 := by decide +kernel
theorem iL_1000 : (1000 : Int32) = iI 1000 := by decide +kernel
theorem iL_2400 : (2400 : Int32) = iI 2400 := by decide +kernel
theorem iL_4000 : (4000 : Int32) = iI 4000 := by decide +kernel
theorem iL_6000 : (6000 : Int32) = iI 6000 := by decide +kernel
theorem iL_8000 : (8000 : Int32) = iI 8000 := by decide +kernel
theorem iL_8001 : (8001 : Int32) = iI 8001 := by decide +kernel
theorem iL_9000 : (9000 : Int32) = iI 9000 := by decide +kernel
theorem iL_10000 : (10000 : Int32) = iI 10000 := by decide +kernel
theorem iL_12345 : (12345 : Int32) = iI 12345 := by decide +kernel
theorem iL_65536 : (65536 : Int32) = iI 65536 := by decide +kernel
theorem iL_1000000 : (1000000 : Int32) = iI 1000000 := by decide +kernel
theorem iL_252645135 : (252645135 : Int32) = iI 252645135 := by decide +kernel
theorem iL_858993459 : (858993459 : Int32) = iI 858993459 := by decide +kernel
theorem iL_1103515245 : (1103515245 : Int32) = iI 1103515245 := by decide +kernel
theorem iL_1431655765 : (1431655765 : Int32) = iI 1431655765 := by decide +kernel
theorem iL_2147483647 : (2147483647 : Int32) = iI 2147483647 := by decide +kernel
theorem kIx_i {n : Nat} {a : Int} (h0 : 0 ≤ a) (h : a < n) (hn : n < 2147483648) : kIx n (iI a) = some a.toNat := by
  have e0 : (iI a < 0) = (a < 0) := by rw [iL_0]; exact iI_lt (by omega) (by omega) (by omega) (by omega)
  unfold kIx
  rw [if_neg (by rw [e0]; omega), iI_clamp (by omega) (by omega), if_pos (by omega)]
theorem kBl_0 : kBl 0 = some 0 := if_pos rfl
theorem kBl_1 : kBl 1 = some 1 := by decide +kernel
def iB (b : Bool) : Int32 := if b then 1 else 0
theorem iB_t : iB true = 1 := rfl
theorem iB_f : iB false = 0 := rfl
theorem kBl_B (b : Bool) : kBl (iB b) = some (iB b) := by cases b <;> decide +kernel
theorem iB_0 (b : Bool) : (iB b = 0) = (b = false) := by cases b <;> simp [iB]
theorem nar_b {a : Int} (h : -128 ≤ a) (h' : a < 128) : vp_nar .byte (iI a) = iI a := by
  show (iI a).toInt8.toInt32 = iI a
  apply Int32.toInt.inj
  rw [Int8.toInt_toInt32, Int32.toInt_toInt8, iI_toInt (by omega) (by omega)]
  exact Int.bmod_eq_of_le (by omega) (by omega)
/-! the operations, where they can go on -/
theorem kgI_e {w : kW} {k a j : Nat} (h : kKd w a = k) : kgI w k (some a) j = some (kI w a j) := if_pos h
theorem kgP_e {w : kW} {k a j : Nat} (h : kKd w a = k) : kgP w k (some a) j = some (kP w a j) := if_pos h
theorem kpI_e {w : kW} {k a j : Nat} {x : Int32} (h : kKd w a = k) : kpI w k (some a) j x = some (kSI w a j x) := if_pos h
theorem kpP_e {w : kW} {k a j : Nat} {x : Option Nat} (h : kKd w a = k) : kpP w k (some a) j x = some (kSP w a j x) := if_pos h
theorem kal_e {w : kW} {k a : Nat} (h : kKd w a = k) : kal w k (some a) = some (iI (kLn w a)) := (if_pos h).trans (by rw [iI_n])
theorem kaI_e {w : kW} {k a : Nat} {i : Int} (h : kKd w a = k) (h0 : 0 ≤ i) (hi : i < kLn w a) (hn : kLn w a < 2147483648) : kaI w k (some a) (iI i) = some (kI w a i.toNat) := by
  show (if kKd w a = k then (kIx (kLn w a) (iI i)).map (kI w a) else none) = _
  rw [if_pos h, kIx_i h0 hi hn]; rfl
theorem kaP_e {w : kW} {k a : Nat} {i : Int} (h : kKd w a = k) (h0 : 0 ≤ i) (hi : i < kLn w a) (hn : kLn w a < 2147483648) : kaP w k (some a) (iI i) = some (kP w a i.toNat) := by
  show (if kKd w a = k then (kIx (kLn w a) (iI i)).map (kP w a) else none) = _
  rw [if_pos h, kIx_i h0 hi hn]; rfl
theorem kaJ_e {w : kW} {a : Nat} {i : Int} (h : kKd w a = 15) (h0 : 0 ≤ i) (hi : i < kLn w a) (hn : kLn w a < 2147483648) : kaJ w (some a) (iI i) = some (kJ w a i.toNat) := by
  show (if kKd w a = 15 then (kIx (kLn w a) (iI i)).map (kJ w a) else none) = _
  rw [if_pos h, kIx_i h0 hi hn]; rfl
theorem ksI_e {w : kW} {k a : Nat} {i : Int} {x : Int32} (h : kKd w a = k) (h0 : 0 ≤ i) (hi : i < kLn w a) (hn : kLn w a < 2147483648) : ksI w k (some a) (iI i) x = some (kSI w a i.toNat (if k = 13 then vp_nar .byte x else x)) := by
  show (if kKd w a = k then (kIx (kLn w a) (iI i)).map _ else none) = _
  rw [if_pos h, kIx_i h0 hi hn]; rfl
theorem ksJ_e {w : kW} {a : Nat} {i : Int} {x : Int64} (h : kKd w a = 15) (h0 : 0 ≤ i) (hi : i < kLn w a) (hn : kLn w a < 2147483648) : ksJ w (some a) (iI i) x = some (kSJ w a i.toNat x) := by
  show (if kKd w a = 15 then (kIx (kLn w a) (iI i)).map _ else none) = _
  rw [if_pos h, kIx_i h0 hi hn]; rfl
theorem ksP_e {w : kW} {k a b : Nat} {i : Int} (h : kKd w a = k) (hb : kKd w b = kCo k) (h0 : 0 ≤ i) (hi : i < kLn w a) (hn : kLn w a < 2147483648) : ksP w k (some a) (iI i) (some b) = some (kSP w a i.toNat (some b)) := by
  show (if kKd w a = k ∧ _ then (kIx (kLn w a) (iI i)).map _ else none) = _
  rw [if_pos ⟨h, by simp [hb]⟩, kIx_i h0 hi hn]; rfl
theorem kRc_e {w : kW} {k a : Nat} (h : kKd w a = k) : kRc w k (some a) = some a := if_pos h
theorem kKd_SI {w : kW} {a j : Nat} {x : Int32} : kKd (kSI w a j x) = kKd w := rfl
theorem kKd_SP {w : kW} {a j : Nat} {x : Option Nat} : kKd (kSP w a j x) = kKd w := rfl
theorem kKd_SJ {w : kW} {a j : Nat} {x : Int64} : kKd (kSJ w a j x) = kKd w := rfl
theorem kLn_SI {w : kW} {a j : Nat} {x : Int32} : kLn (kSI w a j x) = kLn w := rfl
theorem kLn_SP {w : kW} {a j : Nat} {x : Option Nat} : kLn (kSP w a j x) = kLn w := rfl
theorem kLn_SJ {w : kW} {a j : Nat} {x : Int64} : kLn (kSJ w a j x) = kLn w := rfl
theorem kP_SI {w : kW} {a j : Nat} {x : Int32} : kP (kSI w a j x) = kP w := rfl
theorem kP_SJ {w : kW} {a j : Nat} {x : Int64} : kP (kSJ w a j x) = kP w := rfl
theorem kJ_SI {w : kW} {a j : Nat} {x : Int32} : kJ (kSI w a j x) = kJ w := rfl
theorem kJ_SP {w : kW} {a j : Nat} {x : Option Nat} : kJ (kSP w a j x) = kJ w := rfl
theorem kI_SP {w : kW} {a j : Nat} {x : Option Nat} : kI (kSP w a j x) = kI w := rfl
theorem kI_SJ {w : kW} {a j : Nat} {x : Int64} : kI (kSJ w a j x) = kI w := rfl
theorem kSz_SI {w : kW} {a j : Nat} {x : Int32} : kSz (kSI w a j x) = kSz w := rfl
theorem kSz_SP {w : kW} {a j : Nat} {x : Option Nat} : kSz (kSP w a j x) = kSz w := rfl
theorem kSz_SJ {w : kW} {a j : Nat} {x : Int64} : kSz (kSJ w a j x) = kSz w := rfl
theorem kI_SI {w : kW} {a j b k : Nat} {x : Int32} : kI (kSI w a j x) b k = if b = a ∧ k = j then x else kI w b k := rfl
theorem kI_SI_s {w : kW} {a j : Nat} {x : Int32} : kI (kSI w a j x) a j = x := if_pos ⟨rfl, rfl⟩
theorem kI_SI_o {w : kW} {a j b k : Nat} {x : Int32} (h : b ≠ a) : kI (kSI w a j x) b k = kI w b k := if_neg (fun q => h q.1)
theorem kI_SI_j {w : kW} {a j k : Nat} {x : Int32} (h : k ≠ j) : kI (kSI w a j x) a k = kI w a k := if_neg (fun q => h q.2)
theorem kP_SP_s {w : kW} {a j : Nat} {x : Option Nat} : kP (kSP w a j x) a j = x := if_pos ⟨rfl, rfl⟩
theorem kP_SP_o {w : kW} {a j b k : Nat} {x : Option Nat} (h : b ≠ a) : kP (kSP w a j x) b k = kP w b k := if_neg (fun q => h q.1)
theorem kP_SP_j {w : kW} {a j k : Nat} {x : Option Nat} (h : k ≠ j) : kP (kSP w a j x) a k = kP w a k := if_neg (fun q => h q.2)
theorem raI_e {w : rW} {n len : Nat} {i : Int} (h0 : 0 ≤ i) (hi : i < len) (hn : len < 2147483648) : raI w n len (iI i) = some (rA w n i.toNat) := by
  show (kIx len (iI i)).map _ = _
  rw [kIx_i h0 hi hn]; rfl
theorem rsI_e {w : rW} {n len : Nat} {i : Int} {x : Int32} (h0 : 0 ≤ i) (hi : i < len) (hn : len < 2147483648) : rsI w n len (iI i) x = some (rSA w n i.toNat x) := by
  show (kIx len (iI i)).map _ = _
  rw [kIx_i h0 hi hn]; rfl
theorem rpF_e {w : rW} {j : Nat} {x : Int32} : rpF w j x = some (rSF w j x) := rfl
theorem rF_SF {w : rW} {j k : Nat} {x : Int32} : rF (rSF w j x) k = if k = j then x else rF w k := rfl
theorem rA_SF {w : rW} {j : Nat} {x : Int32} : rA (rSF w j x) = rA w := rfl
theorem rF_SA {w : rW} {n i : Nat} {x : Int32} : rF (rSA w n i x) = rF w := rfl
theorem rA_SA {w : rW} {n i m k : Nat} {x : Int32} : rA (rSA w n i x) m k = if m = n ∧ k = i then x else rA w m k := rfl
