/-! the ways in which a line is true, counted -/
theorem fTv_ext : ∀ f, fOk f → ∀ so so' : Nat, (∀ i, (fLs f).testBit i = true → so.testBit i = so'.testBit i) → fTv f so = fTv f so' := by
  refine fInd ?_ ?_ ?_ ?_
  · intro i hi so so' h
    exact h i (by show (2 ^ i).testBit i = true; rw [Nat.testBit_two_pow_self])
  · intro a ha ih so so' h
    show (!fTv a so) = (!fTv a so')
    rw [ih so so' h]
  · intro a b ha hb iha ihb so so' h
    have h1 : ∀ i, (fLs a).testBit i = true → so.testBit i = so'.testBit i := fun i hi => h i (by show (fLs a ||| fLs b).testBit i = true; rw [Nat.testBit_or, hi]; rfl)
    have h2 : ∀ i, (fLs b).testBit i = true → so.testBit i = so'.testBit i := fun i hi => h i (by show (fLs a ||| fLs b).testBit i = true; rw [Nat.testBit_or, hi, Bool.or_true])
    show (fTv a so || fTv b so) = (fTv a so' || fTv b so')
    rw [iha so so' h1, ihb so so' h2]
  · intro a b ha hb iha ihb so so' h
    have h1 : ∀ i, (fLs a).testBit i = true → so.testBit i = so'.testBit i := fun i hi => h i (by show (fLs a ||| fLs b).testBit i = true; rw [Nat.testBit_or, hi]; rfl)
    have h2 : ∀ i, (fLs b).testBit i = true → so.testBit i = so'.testBit i := fun i hi => h i (by show (fLs a ||| fLs b).testBit i = true; rw [Nat.testBit_or, hi, Bool.or_true])
    show (!fTv a so || fTv b so) = (!fTv a so' || fTv b so')
    rw [iha so so' h1, ihb so so' h2]
theorem fTv_and {f : Fo} (hf : fOk f) (so : Nat) : fTv f (so &&& fLs f) = fTv f so := fTv_ext f hf _ _ fun i hi => by rw [Nat.testBit_and, hi, Bool.and_true]
theorem and_w {k a c : Nat} (ha : a < 2 ^ k) (hc : c < 2 ^ k) (N M : Nat) : (a + 2 ^ k * N) &&& (c + 2 ^ k * M) = (a &&& c) + 2 ^ k * (N &&& M) := by
  have hac : (a &&& c) < 2 ^ k := Nat.and_lt_two_pow a hc
  apply Nat.eq_of_testBit_eq
  intro i
  rw [Nat.testBit_and, Nat.add_comm a, Nat.add_comm c, Nat.add_comm (a &&& c), Nat.testBit_two_pow_mul_add N ha, Nat.testBit_two_pow_mul_add M hc, Nat.testBit_two_pow_mul_add (N &&& M) hac]
  by_cases hi : i < k
  · rw [if_pos hi, if_pos hi, if_pos hi, Nat.testBit_and]
  · rw [if_neg hi, if_neg hi, if_neg hi, Nat.testBit_and]
theorem cS_split : ∀ (k m : Nat) (h : Nat → Bool), m < 2 ^ k → cS (fun so => h (so &&& m)) (2 ^ k) = 2 ^ (k - cS (fun i => m.testBit i) k) * cS (fun so => decide (so &&& m = so) && h so) (2 ^ k) := by
  intro k
  induction k with
  | zero =>
    intro m h hm
    have hm0 : m = 0 := by have : m < 1 := hm; omega
    subst hm0
    show cS (fun so => h (so &&& 0)) 1 = 1 * cS (fun so => decide (so &&& 0 = so) && h so) 1
    show 0 + (h (0 &&& 0)).toNat = 1 * (0 + (decide (0 &&& 0 = 0) && h 0).toNat)
    rw [Nat.zero_and]
    simp
  | succ k ih =>
    intro m h hm
    have hp : 2 ^ (k + 1) = 2 ^ k + 2 ^ k := by rw [Nat.pow_succ]; omega
    obtain ⟨m', b, hm', hb, rfl⟩ : ∃ m' b, m' < 2 ^ k ∧ b < 2 ∧ m = m' + 2 ^ k * b := ⟨m % 2 ^ k, m / 2 ^ k, Nat.mod_lt _ (Nat.two_pow_pos k), by rw [Nat.div_lt_iff_lt_mul (Nat.two_pow_pos k)]; omega, by rw [Nat.mod_add_div]⟩
    have hlow : ∀ i, i < 2 ^ k → i &&& (m' + 2 ^ k * b) = i &&& m' := fun i hi => by
      have e := and_w hi hm' 0 b
      rw [Nat.mul_zero, Nat.add_zero, Nat.zero_and, Nat.mul_zero, Nat.add_zero] at e
      exact e
    have hhigh : ∀ i, i < 2 ^ k → (2 ^ k + i) &&& (m' + 2 ^ k * b) = (i &&& m') + 2 ^ k * (1 &&& b) := fun i hi => by
      have e := and_w hi hm' 1 b
      rw [Nat.mul_one, Nat.add_comm i] at e
      exact e
    have ple := cS_le (fun i => m'.testBit i) k
    have hbit : cS (fun i => (m' + 2 ^ k * b).testBit i) k = cS (fun i => m'.testBit i) k := cS_congr k fun i hi => by
      rw [Nat.add_comm m', Nat.testBit_two_pow_mul_add b hm', if_pos hi]
    have htop : (m' + 2 ^ k * b).testBit k = b.testBit 0 := by
      rw [Nat.add_comm m', Nat.testBit_two_pow_mul_add b hm', if_neg (by omega), Nat.sub_self]
    have hcard : cS (fun i => (m' + 2 ^ k * b).testBit i) (k + 1) = cS (fun i => m'.testBit i) k + (b.testBit 0).toNat := by
      show cS (fun i => (m' + 2 ^ k * b).testBit i) k + ((m' + 2 ^ k * b).testBit k).toNat = _
      rw [hbit, htop]
    rw [hcard, hp, cS_add, cS_add]
    have e1 : cS (fun so => h (so &&& (m' + 2 ^ k * b))) (2 ^ k) = cS (fun so => h (so &&& m')) (2 ^ k) := cS_congr _ fun i hi => by rw [hlow i hi]
    have e2 : cS (fun so => decide (so &&& (m' + 2 ^ k * b) = so) && h so) (2 ^ k) = cS (fun so => decide (so &&& m' = so) && h so) (2 ^ k) := cS_congr _ fun i hi => by rw [hlow i hi]
    have i1 := ih m' h hm'
    rcases (show b = 0 ∨ b = 1 by omega) with rfl | rfl
    · have e3 : cS (fun i => h ((2 ^ k + i) &&& (m' + 2 ^ k * 0))) (2 ^ k) = cS (fun so => h (so &&& m')) (2 ^ k) := cS_congr _ fun i hi => by
        rw [hhigh i hi, Nat.and_zero, Nat.mul_zero, Nat.add_zero]
      have e4 : cS (fun i => decide ((2 ^ k + i) &&& (m' + 2 ^ k * 0) = 2 ^ k + i) && h (2 ^ k + i)) (2 ^ k) = 0 := by
        refine (cS_congr (h := fun _ => false) _ fun i hi => ?_).trans (cS_false _)
        rw [hhigh i hi, Nat.and_zero, Nat.mul_zero, Nat.add_zero]
        have : (i &&& m') < 2 ^ k := Nat.and_lt_two_pow i hm'
        rw [decide_eq_false (by omega), Bool.false_and]
      rw [e1, e2, e3, e4, i1]
      show _ = 2 ^ (k + 1 - (cS (fun i => m'.testBit i) k + 0)) * _
      rw [show k + 1 - (cS (fun i => m'.testBit i) k + 0) = (k - cS (fun i => m'.testBit i) k) + 1 by omega, Nat.pow_succ, Nat.add_zero]
      generalize 2 ^ (k - cS (fun i => m'.testBit i) k) = A
      generalize cS (fun so => decide (so &&& m' = so) && h so) (2 ^ k) = B
      rw [Nat.mul_comm A 2, Nat.mul_assoc]
      omega
    · have e3 : cS (fun i => h ((2 ^ k + i) &&& (m' + 2 ^ k * 1))) (2 ^ k) = cS (fun so => (fun x => h (x + 2 ^ k)) (so &&& m')) (2 ^ k) := cS_congr _ fun i hi => by
        rw [hhigh i hi, Nat.and_self, Nat.mul_one]
      have e4 : cS (fun i => decide ((2 ^ k + i) &&& (m' + 2 ^ k * 1) = 2 ^ k + i) && h (2 ^ k + i)) (2 ^ k) = cS (fun so => decide (so &&& m' = so) && (fun x => h (x + 2 ^ k)) so) (2 ^ k) := cS_congr _ fun i hi => by
        rw [hhigh i hi, Nat.and_self, Nat.mul_one, Nat.add_comm (2 ^ k) i]
        congr 1
        rw [decide_eq_decide]
        omega
      rw [e1, e2, e3, e4, i1, ih m' (fun x => h (x + 2 ^ k)) hm']
      show _ = 2 ^ (k + 1 - (cS (fun i => m'.testBit i) k + 1)) * _
      rw [Nat.add_sub_add_right, Nat.mul_add]
theorem pcN_bits (n : Nat) (h : n < 64) : cS (fun i => n.testBit i) 6 = pcN n := by
  have h1 : ∀ a : Fin 64, cS (fun i => a.val.testBit i) 6 = pcN a.val := by decide +kernel
  exact h1 ⟨n, h⟩
theorem fWy_all {f : Fo} (hf : fOk f) : cS (fun so => fTv f so) 64 = 2 ^ (6 - fUn f) * fWy f := by
  have h := cS_split 6 (fLs f) (fTv f) (fLs_lt f hf)
  have e1 : cS (fun so => fTv f (so &&& fLs f)) (2 ^ 6) = cS (fun so => fTv f so) 64 := cS_congr _ fun i hi => fTv_and hf i
  rw [e1, pcN_bits _ (fLs_lt f hf)] at h
  rw [h]
  show _ = 2 ^ (6 - pcN (fLs f)) * (List.range 64).countP _
  rw [cS_range]
theorem shr_ok (N c : Nat) (hN : N ≤ 64) (hc : c ≤ 6) : iI N >>> (((6 : Int32) - iI c) &&& 31) = iI ((N / 2 ^ (6 - c) : Nat) : Int) := by
  have h : ∀ N : Fin 65, ∀ c : Fin 7, iI (N.val : Nat) >>> (((6 : Int32) - iI (c.val : Nat)) &&& 31) = iI ((N.val / 2 ^ (6 - c.val) : Nat) : Int) := by decide +kernel
  exact h ⟨N, by omega⟩ ⟨c, by omega⟩
/-! the class weighs -/
def LvB (n : Nat) (b : Fo) : Prop := n < 2 ^ 64 ∧ ∀ so, so < 64 → n.testBit so = fTv b so
def RmF (w : kW) (r : Nat) (v : List Nat) (m : Nat) : Prop := ∀ (X : List Nat) (b : Fo) (Y : List Nat), v = X ++ (fPre b ++ Y) → fOk b → m ≤ X.length → ∃ n, kJ w r X.length = jN n ∧ LvB n b
def SJ (r : Nat) (w w' : kW) : Prop := kKd w' = kKd w ∧ kLn w' = kLn w ∧ kSz w' = kSz w ∧ kI w' = kI w ∧ kP w' = kP w ∧ ∀ b, b ≠ r → kJ w' b = kJ w b
theorem SJ.rf (r : Nat) (w : kW) : SJ r w w := ⟨rfl, rfl, rfl, rfl, rfl, fun _ _ => rfl⟩
theorem SJ.tr {r : Nat} {w w1 w2 : kW} (h1 : SJ r w w1) (h2 : SJ r w1 w2) : SJ r w w2 := ⟨h2.1.trans h1.1, h2.2.1.trans h1.2.1, h2.2.2.1.trans h1.2.2.1, h2.2.2.2.1.trans h1.2.2.2.1, h2.2.2.2.2.1.trans h1.2.2.2.2.1, fun b hb => (h2.2.2.2.2.2 b hb).trans (h1.2.2.2.2.2 b hb)⟩
theorem SJ.sj {r j : Nat} {x : Int64} (w : kW) : SJ r w (kSJ w r j x) := ⟨rfl, rfl, rfl, rfl, rfl, fun b hb => kU_ne hb⟩
theorem SJ.q {ow : Nat → Nat × Nat} {r : Nat} {S : Nat → Prop} {w w1 : kW} (h : SJ r w w1) (hr : S (ow r).1) : Sq ow S w w1 :=
  ⟨h.1, h.2.1, h.2.2.1, fun b hb => ⟨by rw [h.2.2.2.1], by rw [h.2.2.2.2.1], h.2.2.2.2.2 b (fun e => hb (by rw [e]; exact hr))⟩⟩
theorem kJ_SJ_s {w : kW} {a j : Nat} {x : Int64} : kJ (kSJ w a j x) a j = x := if_pos ⟨rfl, rfl⟩
theorem kJ_SJ_j {w : kW} {a j k : Nat} {x : Int64} (h : k ≠ j) : kJ (kSJ w a j x) a k = kJ w a k := if_neg (fun q => h q.2)
theorem let_bits (k : Nat) (hk : k < 6) : ∃ n, kLet k = jN n ∧ LvB n (.var k) := by
  have mk : ∀ (k n : Nat), k < 6 → kLet k = jN n → n < 2 ^ 64 → (∀ so : Fin 64, n.testBit so.val = so.val.testBit k) → ∃ n, kLet k = jN n ∧ LvB n (.var k) := fun k n hk h1 h2 h3 => ⟨n, h1, h2, fun so hso => h3 ⟨so, hso⟩⟩
  rcases (show k = 0 ∨ k = 1 ∨ k = 2 ∨ k = 3 ∨ k = 4 ∨ k = 5 by omega) with rfl | rfl | rfl | rfl | rfl | rfl
  · exact mk 0 0xAAAAAAAAAAAAAAAA hk (by decide +kernel) (by decide +kernel) (by decide +kernel)
  · exact mk 1 0xCCCCCCCCCCCCCCCC hk (by decide +kernel) (by decide +kernel) (by decide +kernel)
  · exact mk 2 0xF0F0F0F0F0F0F0F0 hk (by decide +kernel) (by decide +kernel) (by decide +kernel)
  · exact mk 3 0xFF00FF00FF00FF00 hk (by decide +kernel) (by decide +kernel) (by decide +kernel)
  · exact mk 4 0xFFFF0000FFFF0000 hk (by decide +kernel) (by decide +kernel) (by decide +kernel)
  · exact mk 5 0xFFFFFFFF00000000 hk (by decide +kernel) (by decide +kernel) (by decide +kernel)
theorem not_bits {n : Nat} {a : Fo} (h : LvB n a) : ∃ m, jN n ^^^ (-1 : Int64) = jN m ∧ LvB m (.neg a) := by
  have e1 : (-1 : Int64) = jN (2 ^ 64 - 1) := by decide +kernel
  have e2 : 2 ^ 64 - 1 < 2 ^ 64 := by decide +kernel
  refine ⟨n ^^^ (2 ^ 64 - 1), by rw [e1, jN_xor h.1 e2], Nat.xor_lt_two_pow h.1 e2, fun so hso => ?_⟩
  rw [Nat.testBit_xor, Nat.testBit_two_pow_sub_one, decide_eq_true hso, h.2 so hso]
  show (fTv a so ^^ true) = !fTv a so
  cases fTv a so <;> rfl
theorem or_bits {n m : Nat} {a b : Fo} (h : LvB n a) (h' : LvB m b) : jN n ||| jN m = jN (n ||| m) ∧ LvB (n ||| m) (.add a b) :=
  ⟨jN_or h.1 h'.1, Nat.or_lt_two_pow h.1 h'.1, fun so hso => by rw [Nat.testBit_or, h.2 so hso, h'.2 so hso]; rfl⟩
theorem weigh_head {ow : Nat → Nat × Nat} {w : kW} {a r cap i fu : Nat} {v : List Nat} {e : Int} (h : Ln ow w a cap v) (hv : ∀ c ∈ v, c < 128) (kr : kKd w r = 15) (nr : kLn w r = 60) (hl : v.length ≤ 60) (hi : i < v.length) (k : Int32 → kW → Option kW) (he : fX1_endAt a (iI (i + 1 : Nat)) w = some (iI e)) (e0 : 0 ≤ e) (e1 : e ≤ 60) :
    fX1_weigh_L12 a (some r) (fu + 1) k (iI i) w = fX1_weigh_J12_73 (fun q2 qw => fX1_weigh_L12 a (some r) fu k q2 qw) k a (some r) (iI i) (iI (leZ v[i])) (if i + 1 < 60 then kJ w r (i + 1) else 0) (iI e) (if e < 60 then kJ w r e.toNat else 0) w := by
  have hk := h.1.1
  have f1 := at_in h hi
  have b1 := hv _ (List.getElem_mem hi)
  have lo := letterOf_ok v[i] (by omega) (by omega)
  have ei : iI (i : Int) + (1 : Int32) = iI ((i + 1 : Nat) : Int) := by rw [iL_1, iI_add]; rfl
  have tail : ∀ s0 : Int64, fX1_weigh_J12_42 (fun q2 qw => fX1_weigh_L12 a (some r) fu k q2 qw) k a (some r) (iI i) (iI (leZ v[i])) s0 w = fX1_weigh_J12_73 (fun q2 qw => fX1_weigh_L12 a (some r) fu k q2 qw) k a (some r) (iI i) (iI (leZ v[i])) s0 (iI e) (if e < 60 then kJ w r e.toNat else 0) w := by
    intro s0
    rw [fX1_weigh_J12_42, kRc_e hk, Option.bind_some, ei, he, Option.bind_some, if_neg (by rw [iL_0, iI_lt (by omega) (by omega) (by omega) (by omega)]; omega), kal_e kr, Option.bind_some, nr]
    by_cases c : e < 60
    · rw [if_neg (by rw [iI_le (by omega) (by omega) (by omega) (by omega)]; omega), kaJ_e kr e0 (by rw [nr]; omega) (by rw [nr]; omega), Option.bind_some, if_pos c]
    · rw [if_pos (by rw [iI_le (by omega) (by omega) (by omega) (by omega)]; omega), fX1_weigh_J12_72, if_neg c]
  rw [fX1_weigh_L12, if_neg (by rw [iL_0, iI_lt (by omega) (by omega) (by omega) (by omega)]; omega), kRc_e hk, Option.bind_some, f1, Option.bind_some, lo, Option.bind_some, kal_e kr, Option.bind_some, nr, ei]
  by_cases c : i + 1 < 60
  · rw [if_neg (by rw [iI_le (by omega) (by omega) (by omega) (by omega)]; omega), kaJ_e kr (by omega) (by rw [nr]; omega) (by rw [nr]; omega), Option.bind_some, Int.toNat_natCast, tail, if_pos c]
  · rw [if_pos (by rw [iI_le (by omega) (by omega) (by omega) (by omega)]; omega), tail, if_neg c]
theorem weigh_loop {ow : Nat → Nat × Nat} {a r cap : Nat} {v : List Nat} {f : Fo} (hf : fOk f) (hvf : v = fPre f) (hl : v.length ≤ 60) (hra : ¬ a = (ow r).1) (kont : kW → Option kW) : ∀ (m fu : Nat) (i : Int) (w : kW), m < fu → i = m - 1 → m ≤ v.length → Ln ow w a cap v → St w a v → kKd w r = 15 → kLn w r = 60 → RmF w r v m →
    ∃ w', fX1_weigh_L12 a (some r) fu (fun _ q => kont q) (iI i) w = kont w' ∧ SJ r w w' ∧ RmF w' r v 0 := by
  have hv : ∀ c ∈ v, c < 128 := fun c hc => fSig_lt (fPre_sig f hf c (by rw [← hvf]; exact hc))
  intro m
  induction m with
  | zero =>
    intro fu i w hn hi hm h hs kr nr hR
    obtain ⟨fu, rfl⟩ : ∃ q, fu = q + 1 := ⟨fu - 1, by omega⟩
    refine ⟨w, ?_, SJ.rf r w, hR⟩
    rw [fX1_weigh_L12, if_pos (by rw [iL_0, iI_lt (by omega) (by omega) (by omega) (by omega)]; omega)]
  | succ m ih =>
    intro fu i w hn hi hm h hs kr nr hR
    obtain ⟨fu, rfl⟩ : ∃ q, fu = q + 1 := ⟨fu - 1, by omega⟩
    have hi' : i = m := by omega
    subst hi'
    have hk := h.1.1
    have hlt : m < v.length := by omega
    have hsp : v = v.take m ++ v[m] :: v.drop (m + 1) := by
      rw [← List.drop_eq_getElem_cons hlt, List.take_append_drop]
    have htk : (v.take m).length = m := by rw [List.length_take]; omega
    obtain ⟨b, Z, hb, hZ⟩ := fPart f hf (v.take m) v[m] (v.drop (m + 1)) (by rw [← hvf]; exact hsp)
    -- a turn
    have turn : ∀ (x : Int64), (∃ n, x = jN n ∧ LvB n b) → ∃ w', ((ksJ w (some r) (iI m) x).bind fun w9 => fX1_weigh_L12 a (some r) fu (fun _ q => kont q) (iI m + (-1 : Int32)) w9) = kont w' ∧ SJ r w w' ∧ RmF w' r v 0 := by
      intro x ⟨n, hx, hn2⟩
      have s1 : SJ r w (kSJ w r m x) := SJ.sj w
      have sq := s1.q (ow := ow) (S := fun z => z = (ow r).1) rfl
      have R1 : RmF (kSJ w r m x) r v m := by
        intro X b' Y e hb' hmX
        by_cases hX : X.length = m
        · have hXe : X = v.take m := by rw [e, ← hX, List.take_left' rfl]
          have e2 : fPre b' ++ Y = fPre b ++ Z := by
            have e3 : X ++ (fPre b' ++ Y) = X ++ (fPre b ++ Z) := by
              rw [← e, ← hZ, hXe]; exact hsp
            exact List.append_cancel_left e3
          have e4 := (fPre_inj b' hb' b Y Z hb e2).1
          subst e4
          exact ⟨n, by rw [hX, kJ_SJ_s, hx], hn2⟩
        · obtain ⟨n', y1, y2⟩ := hR X b' Y e hb' (by omega)
          exact ⟨n', by rw [kJ_SJ_j hX]; exact y1, y2⟩
      obtain ⟨w', t1, t2, t3⟩ := ih fu (m - 1) (kSJ w r m x) (by omega) rfl (by omega) (h.sq sq hra) (hs.sq h.1 sq hra) kr nr R1
      refine ⟨w', ?_, s1.tr t2, t3⟩
      have en : (-1 : Int32) = iI (-1) := by decide +kernel
      rw [ksJ_e kr (by omega) (by rw [nr]; omega) (by rw [nr]; omega), Option.bind_some, Int.toNat_natCast, en, iI_add]
      exact t1
    -- where the part behind ends
    have hend : ∃ e : Int, fX1_endAt a (iI (m + 1 : Nat)) w = some (iI e) ∧ 0 ≤ e ∧ e ≤ 60 := by
      by_cases c : m + 1 < v.length
      · have hsp2 : v = v.take (m + 1) ++ v[m + 1] :: v.drop (m + 1 + 1) := by
          rw [← List.drop_eq_getElem_cons c, List.take_append_drop]
        obtain ⟨b2, Z2, hb2, hZ2⟩ := fPart f hf (v.take (m + 1)) v[m + 1] (v.drop (m + 1 + 1)) (by rw [← hvf]; exact hsp2)
        have e5 : v = v.take (m + 1) ++ (fPre b2 ++ Z2) := by rw [← hZ2]; exact hsp2
        have g := endAt_ok h hs e5 hb2
        have l5 := split_len e5
        rw [show (v.take (m + 1)).length = m + 1 by rw [List.length_take]; omega] at g l5
        exact ⟨_, g, by omega, by omega⟩
      · exact ⟨v.length, endAt_out h _ (by omega) (by omega), by omega, by omega⟩
    have hz := hZ
    rcases fCases hb with ⟨k, hk6, rfl⟩ | ⟨c, hc0, rfl⟩ | ⟨c, d, hc0, hd0, rfl⟩ | ⟨c, d, hc0, hd0, rfl⟩
    · obtain ⟨e, he, q0, q1⟩ := hend
      have hc : v[m] = 112 + k := by
        simp only [fPre, List.cons_append, List.nil_append, List.cons.injEq] at hz
        exact hz.1
      rw [weigh_head h hv kr nr hl hlt _ he q0 q1, fX1_weigh_J12_73, hc, leZ_let hk6, if_neg (by rw [iL_0, iI_lt (by omega) (by omega) (by omega) (by omega)]; omega), if_neg (by rw [iL_6, iI_le (by omega) (by omega) (by omega) (by omega)]; omega)]
      have ew : kWy (iI k) = some (kLet k) := by
        unfold kWy
        rw [kIx_i (by omega) (by omega) (by omega), Int.toNat_natCast]
        rfl
      rw [ew, Option.bind_some]
      exact turn _ (let_bits k hk6)
    · have hc : v[m] = 126 ∧ v.drop (m + 1) = fPre c ++ Z := by
        simp only [fPre, List.cons_append, List.cons.injEq] at hz
        exact hz
      obtain ⟨e, he, q0, q1⟩ := hend
      have e6 : v = (v.take m ++ [126]) ++ (fPre c ++ Z) := by
        rw [List.append_assoc, List.singleton_append, ← hc.2, ← hc.1]; exact hsp
      have l6 := split_len e6
      have hlX : (v.take m ++ [126]).length = m + 1 := by simp; omega
      have pos := fSz_pos hc0
      obtain ⟨n1, y1, y2⟩ := hR _ c Z e6 hc0 (by omega)
      rw [hlX] at y1
      have f1 := at_in h hlt
      rw [weigh_head h hv kr nr hl hlt _ he q0 q1, fX1_weigh_J12_73, hc.1, leZ_no (Or.inl rfl), if_pos (by decide +kernel), fX1_weigh_J12_98, kRc_e hk, Option.bind_some, f1, Option.bind_some, hc.1, if_pos (by decide +kernel), if_pos (by omega), y1]
      obtain ⟨m2, z1, z2⟩ := not_bits y2
      exact turn _ ⟨m2, z1, z2⟩
    · have hc : v[m] = 118 ∧ v.drop (m + 1) = fPre c ++ (fPre d ++ Z) := by
        simp only [fPre, List.cons_append, List.cons.injEq, List.append_assoc] at hz
        exact hz
      have e6 : v = (v.take m ++ [118]) ++ (fPre c ++ (fPre d ++ Z)) := by
        rw [List.append_assoc, List.singleton_append, ← hc.2, ← hc.1]; exact hsp
      have e7 : v = (v.take m ++ ([118] ++ fPre c)) ++ (fPre d ++ Z) := by
        rw [List.append_assoc, List.append_assoc, List.singleton_append, ← hc.2, ← hc.1]; exact hsp
      have l6 := split_len e6
      have l7 := split_len e7
      have hlX : (v.take m ++ [118]).length = m + 1 := by simp; omega
      have hlY : (v.take m ++ ([118] ++ fPre c)).length = m + 1 + fSz c := by simp [fSz]; omega
      have pos := fSz_pos hc0
      have pos2 := fSz_pos hd0
      obtain ⟨n1, y1, y2⟩ := hR _ c _ e6 hc0 (by omega)
      obtain ⟨n2, y3, y4⟩ := hR _ d _ e7 hd0 (by omega)
      have he := endAt_ok h hs e6 hc0
      rw [hlX] at y1 he
      rw [hlY] at y3
      have f1 := at_in h hlt
      rw [weigh_head h hv kr nr hl hlt _ he (by omega) (by omega), fX1_weigh_J12_73, hc.1, leZ_no (Or.inr (Or.inl rfl)), if_pos (by decide +kernel), fX1_weigh_J12_98, kRc_e hk, Option.bind_some, f1, Option.bind_some, hc.1, if_neg (by decide +kernel), Option.bind_some, f1, Option.bind_some, hc.1, if_neg (by decide +kernel), if_pos (by omega), if_pos (by omega), Int.toNat_natCast, y1, y3]
      obtain ⟨z1, z2⟩ := or_bits y2 y4
      exact turn _ ⟨_, z1, z2⟩
    · have hc : v[m] = 62 ∧ v.drop (m + 1) = fPre c ++ (fPre d ++ Z) := by
        simp only [fPre, List.cons_append, List.cons.injEq, List.append_assoc] at hz
        exact hz
      have e6 : v = (v.take m ++ [62]) ++ (fPre c ++ (fPre d ++ Z)) := by
        rw [List.append_assoc, List.singleton_append, ← hc.2, ← hc.1]; exact hsp
      have e7 : v = (v.take m ++ ([62] ++ fPre c)) ++ (fPre d ++ Z) := by
        rw [List.append_assoc, List.append_assoc, List.singleton_append, ← hc.2, ← hc.1]; exact hsp
      have l6 := split_len e6
      have l7 := split_len e7
      have hlX : (v.take m ++ [62]).length = m + 1 := by simp; omega
      have hlY : (v.take m ++ ([62] ++ fPre c)).length = m + 1 + fSz c := by simp [fSz]; omega
      have pos := fSz_pos hc0
      have pos2 := fSz_pos hd0
      obtain ⟨n1, y1, y2⟩ := hR _ c _ e6 hc0 (by omega)
      obtain ⟨n2, y3, y4⟩ := hR _ d _ e7 hd0 (by omega)
      have he := endAt_ok h hs e6 hc0
      rw [hlX] at y1 he
      rw [hlY] at y3
      have f1 := at_in h hlt
      rw [weigh_head h hv kr nr hl hlt _ he (by omega) (by omega), fX1_weigh_J12_73, hc.1, leZ_no (Or.inr (Or.inr rfl)), if_pos (by decide +kernel), fX1_weigh_J12_98, kRc_e hk, Option.bind_some, f1, Option.bind_some, hc.1, if_neg (by decide +kernel), Option.bind_some, f1, Option.bind_some, hc.1, if_pos (by decide +kernel), if_pos (by omega), if_pos (by omega), Int.toNat_natCast, y1, y3]
      obtain ⟨m2, z1, z2⟩ := not_bits y2
      rw [z1]
      obtain ⟨z3, z4⟩ := or_bits z2 y4
      refine turn _ ⟨_, z3, z4.1, fun so hso => ?_⟩
      rw [z4.2 so hso]
      rfl
theorem weigh_ok {ow : Nat → Nat × Nat} {w : kW} {a r cap : Nat} {f : Fo} (h : Lf ow w a cap f) (hoa : (ow r).1 ≠ a) (kr : kKd w r = 15) (nr : kLn w r = 60) (hl : fSz f ≤ 60) :
    ∃ w', fX1_weigh a (some r) w = some w' ∧ Lf ow w' a cap f ∧ kI w' a 7 = iI (fWy f) ∧ Sq ow (fun z => z = a ∨ z = (ow r).1) w w' ∧ kP w' = kP w := by
  obtain ⟨hf, hLn, hSt⟩ := id h
  have hk := hLn.1.1
  have ho := hLn.1.2.1
  have h5 := hLn.2.2.1.1
  have pos := fSz_pos hf
  have hl' : (fPre f).length ≤ 60 := hl
  obtain ⟨w1, e1, s1, R1⟩ := weigh_loop hf rfl (by exact hl) (Ne.symm hoa) (fun w4 => (kRc w4 1 (some a)).bind fun b5 => (fX1_unlikeAt b5 (0 : Int32) w4).bind fun v7 => (kal w4 15 (some r)).bind fun v8 => if v8 ≤ 0 then (kpI w4 1 (some a) 7 (0 : Int32)).bind fun w9 => some w9 else (kaJ w4 (some r) (0 : Int32)).bind fun v10 => (fJ13_bitCount_95d88 v10).bind fun v12 => (kpI w4 1 (some a) 7 (v12 >>> (((6 : Int32) - v7) &&& 31))).bind fun w13 => some w13) (fPre f).length kFU ((fPre f).length - 1) w (by unfold kFU; omega) rfl (Nat.le_refl _) hLn hSt kr nr (fun X b Y e hb hm => by
    have q1 := split_len e
    have q2 := fSz_pos hb
    omega)
  obtain ⟨n, y1, y2⟩ := R1 [] f [] (all_1 f) hf (Nat.zero_le _)
  have sq1 := s1.q (ow := ow) (S := fun z => z = a ∨ z = (ow r).1) (Or.inr rfl)
  have sq0 := s1.q (ow := ow) (S := fun z => z = (ow r).1) rfl
  have h1 : Lf ow w1 a cap f := h.sq sq0 (Ne.symm hoa)
  have e0 : (0 : Int32) = iI (([] : List Nat).length : Int) := by decide +kernel
  have hu := unlikeAt_ok (X := []) (Y := []) h1.2.1 h1.2.2 (all_1 f) hf
  rw [← e0] at hu
  have kr1 : kKd w1 r = 15 := by rw [s1.1]; exact kr
  have nr1 : kLn w1 r = 60 := by rw [s1.2.1]; exact nr
  have sm : Sm ow (fun z => z = a) w1 (kSI w1 a 7 (iI (fWy f))) := Sm.si (by rw [ho])
  have bc := bit64_ok y2.1
  have eC : cS (fun i => n.testBit i) 64 = cS (fun so => fTv f so) 64 := cS_congr 64 fun i hi => y2.2 i hi
  rw [eC, fWy_all hf] at bc
  have b1 : fUn f ≤ 6 := pcN_le _
  have b64 : 2 ^ (6 - fUn f) * fWy f ≤ 64 := by
    rw [← fWy_all hf]
    exact cS_le _ 64
  have sh := shr_ok (2 ^ (6 - fUn f) * fWy f) (fUn f) b64 b1
  rw [Nat.mul_div_cancel_left _ (Nat.two_pow_pos _)] at sh
  have h6 : Lf ow (kSI w1 a 7 (iI (fWy f))) a cap f := by
    obtain ⟨-, ⟨g1, g2, ⟨g3, g4⟩, g5⟩, g6⟩ := id h1
    have na : ∀ {c j k : Nat}, LnA ow w1 a c j k → Lp w1 a j ≠ a := fun r => row_no r ho
    obtain ⟨r0, r1, r2, r3, r4⟩ := g1.2.2.2
    refine ⟨hf, ⟨g1.sm sm, g2, ⟨by rw [kI_SI_j (by omega)]; exact g3, fun i c hc => ?_⟩, by rw [kI_SI_j (by omega)]; exact g5⟩, fun X b Y e hb hm => ?_⟩
    · rw [sm.lp, kI_SI_o (na r0)]; exact g4 i c hc
    · have hp := g6 X b Y e hb hm
      unfold PtOk
      rw [sm.lp, sm.lp, sm.lp, sm.lp, kI_SI_o (na r1), kI_SI_o (na r2), kI_SI_o (na r3), kI_SI_o (na r4)]
      exact hp
  refine ⟨kSI w1 a 7 (iI (fWy f)), ?_, h6, kI_SI_s, sq1.tr (sm.q.wide (fun z hz => Or.inl hz)), s1.2.2.2.2.1⟩
  have em : kMmin (iI ((fPre f).length : Int)) (iI ((60 : Nat) : Int)) = iI ((fPre f).length : Int) := by
    rw [kMmin_i (by omega) (by omega) (by omega) (by omega)]
    congr 1
    omega
  rw [fX1_weigh, kgI_e hk, Option.bind_some, h5, kal_e kr, Option.bind_some, nr, em, iL_1, iI_sub]
  refine e1.trans ?_
  show ((kRc w1 1 (some a)).bind fun b5 => _) = _
  rw [kRc_e h1.2.1.1.1, Option.bind_some, hu, Option.bind_some, kal_e kr1, Option.bind_some, nr1, if_neg (by decide +kernel), e0, show (([] : List Nat).length : Int) = ((0 : Nat) : Int) from rfl, kaJ_e kr1 (by omega) (by rw [nr1]; omega) (by rw [nr1]; omega), Option.bind_some, Int.toNat_natCast, show kJ w1 r 0 = jN n from y1, bc, Option.bind_some, sh, kpI_e h1.2.1.1.1, Option.bind_some]
