/-! MAKING -/
/-- nothing lies behind the end -/
def WF (w : kW) : Prop := ∀ a, kSz w ≤ a → ¬ kKd w a < 19
def Sa (w w' : kW) (q : Nat) : Prop := kKd w' q = kKd w q ∧ kLn w' q = kLn w q ∧ kI w' q = kI w q ∧ kP w' q = kP w q ∧ kJ w' q = kJ w q
theorem Sa.rf (w : kW) (q : Nat) : Sa w w q := ⟨rfl, rfl, rfl, rfl, rfl⟩
theorem Sa.tr {w w1 w2 : kW} {q : Nat} (h1 : Sa w w1 q) (h2 : Sa w1 w2 q) : Sa w w2 q := ⟨h2.1.trans h1.1, h2.2.1.trans h1.2.1, h2.2.2.1.trans h1.2.2.1, h2.2.2.2.1.trans h1.2.2.2.1, h2.2.2.2.2.trans h1.2.2.2.2⟩
theorem Sa.si {w : kW} {a j : Nat} {x : Int32} {q : Nat} (h : q ≠ a) : Sa w (kSI w a j x) q := ⟨rfl, rfl, by funext k; exact kI_SI_o h, rfl, rfl⟩
theorem Sa.sp {w : kW} {a j : Nat} {x : Option Nat} {q : Nat} (h : q ≠ a) : Sa w (kSP w a j x) q := ⟨rfl, rfl, rfl, by funext k; exact kP_SP_o h, rfl⟩
theorem Sa.nw {w : kW} {k n : Nat} {q : Nat} (h : q ≠ kSz w) : Sa w (kNw w k n) q := ⟨if_neg h, if_neg h, by funext j; exact if_neg h, by funext j; exact if_neg h, by funext j; exact if_neg h⟩
theorem kSz_N (w : kW) (k n : Nat) : kSz (kNw w k n) = kSz w + 1 := rfl
theorem kKd_N (w : kW) (k n : Nat) : kKd (kNw w k n) (kSz w) = k := if_pos rfl
theorem kLn_N (w : kW) (k n : Nat) : kLn (kNw w k n) (kSz w) = n := if_pos rfl
theorem kI_N (w : kW) (k n j : Nat) : kI (kNw w k n) (kSz w) j = 0 := if_pos rfl
theorem kP_N (w : kW) (k n j : Nat) : kP (kNw w k n) (kSz w) j = none := if_pos rfl
theorem WF.nw {w : kW} (h : WF w) (k n : Nat) : WF (kNw w k n) := fun a ha => by
  rw [kSz_N] at ha
  rw [(Sa.nw (w := w) (k := k) (n := n) (show a ≠ kSz w by omega)).1]
  exact h a (by omega)
theorem WF.of {w w' : kW} (h : WF w) (hk : kKd w' = kKd w) (hz : kSz w' = kSz w) : WF w' := fun a ha => by rw [hk]; exact h a (by rw [← hz]; exact ha)
theorem WF.sq {ow : Nat → Nat × Nat} {S : Nat → Prop} {w w' : kW} (h : WF w) (hs : Sq ow S w w') : WF w' := h.of hs.1 hs.2.2.1
theorem WF.lt {w : kW} (h : WF w) {a : Nat} (ha : kKd w a < 19) : a < kSz w := Nat.lt_of_not_le fun z => h a z ha
theorem knA_e {w : kW} {k n : Nat} (hn : n < 2147483648) : knA w k (iI n) = some (kNw w k n) := by
  unfold knA
  rw [if_neg (by rw [iL_0, iI_lt (by omega) (by omega) (by omega) (by omega)]; omega), iI_clamp (by omega) (by omega), Int.toNat_natCast]
theorem knC_e {w : kW} {k n mx : Nat} (hn : n ≤ mx) (hm : mx < 2147483648) : knC w k (iI n) mx = some (kNw w k n) := by
  unfold knC
  rw [if_pos (by rw [iI_clamp (by omega) (by omega), Int.toNat_natCast]; exact hn)]
  exact knA_e (by omega)
/-- an object in the making: it lies at a, and these are its rows: slot, place, kind, length -/
def Bd (w0 w : kW) (a kd : Nat) (L : List (Nat × Nat × Nat × Nat)) : Prop := kKd w a = kd ∧ kSz w0 ≤ a ∧ a < kSz w ∧ WF w ∧ (∀ q, q < kSz w0 → Sa w0 w q) ∧ ∀ e ∈ L, kP w a e.1 = some e.2.1 ∧ kKd w e.2.1 = e.2.2.1 ∧ kLn w e.2.1 = e.2.2.2 ∧ a < e.2.1 ∧ e.2.1 < kSz w
theorem Bd.new {w0 : kW} (h : WF w0) (kd : Nat) : Bd w0 (kNw w0 kd 0) (kSz w0) kd [] :=
  ⟨kKd_N _ _ _, Nat.le_refl _, Nat.lt_succ_self _, h.nw _ _, fun q hq => Sa.nw (by omega), fun e he => (by cases he)⟩
theorem Bd.si {w0 w : kW} {a kd j : Nat} {L : List (Nat × Nat × Nat × Nat)} (x : Int32) (h : Bd w0 w a kd L) : Bd w0 (kSI w a j x) a kd L :=
  ⟨h.1, h.2.1, h.2.2.1, h.2.2.2.1.of rfl rfl, fun q hq => (h.2.2.2.2.1 q hq).tr (Sa.si (by have := h.2.1; omega)), h.2.2.2.2.2⟩
theorem Bd.row {w0 w : kW} {a kd j k n : Nat} {L : List (Nat × Nat × Nat × Nat)} (h : Bd w0 w a kd L) (hj : ∀ e ∈ L, e.1 ≠ j) : Bd w0 (kSP (kNw w k n) a j (some (kSz w))) a kd ((j, kSz w, k, n) :: L) := by
  obtain ⟨h1, h2, h3, h4, h5, h6⟩ := h
  have na : a ≠ kSz w := by omega
  refine ⟨((Sa.nw (k := k) (n := n) na).1).trans h1, h2, by show a < kSz w + 1; omega, (h4.nw k n).of rfl rfl, fun q hq => ((h5 q hq).tr (Sa.nw (by omega))).tr (Sa.sp (by omega)), fun e he => ?_⟩
  rcases List.mem_cons.mp he with rfl | he
  · exact ⟨kP_SP_s, kKd_N w k n, kLn_N w k n, h3, Nat.lt_succ_self _⟩
  · obtain ⟨g1, g2, g3, g4, g5⟩ := h6 e he
    have ne : e.2.1 ≠ kSz w := by omega
    refine ⟨?_, ((Sa.nw (k := k) (n := n) ne).1).trans g2, ((Sa.nw (k := k) (n := n) ne).2.1).trans g3, g4, by show e.2.1 < kSz w + 1; omega⟩
    rw [kP_SP_j (hj e he), (Sa.nw (k := k) (n := n) na).2.2.2.1]
    exact g1
theorem Bd.fld {w : kW} {a j k n i : Nat} (ha : a < kSz w) : kI (kSP (kNw w k n) a j (some (kSz w))) a i = kI w a i := by
  show kI (kNw w k n) a i = _
  rw [(Sa.nw (show a ≠ kSz w by omega)).2.2.1]
def oN (ow : Nat → Nat × Nat) (a m : Nat) : Nat → Nat × Nat := fun q => if a ≤ q ∧ q < a + m then (a, q - a) else ow q
theorem oN_in {ow : Nat → Nat × Nat} {a m q : Nat} (h : a ≤ q ∧ q < a + m) : oN ow a m q = (a, q - a) := if_pos h
theorem oN_out {ow : Nat → Nat × Nat} {a m q : Nat} (h : q < a) : oN ow a m q = ow q := if_neg (by omega)
theorem Bd.fr {ow : Nat → Nat × Nat} {w0 w : kW} {kd m : Nat} {L : List (Nat × Nat × Nat × Nat)} (h : Bd w0 w (kSz w0) kd L) (hw : WF w0) : Fr ow (oN ow (kSz w0) m) (fun _ => False) w0 w := fun a ha _ => by
  have hlt := hw.lt ha
  obtain ⟨g1, g2, g3, g4, g5⟩ := h.2.2.2.2.1 a hlt
  exact ⟨oN_out hlt, g1, g2, g3, g4, g5⟩
/-- a new line -/
theorem newLine_ok {ow : Nat → Nat × Nat} {w : kW} (hw : WF w) {n : Nat} (hn : n ≤ 200) : ∃ w', fX1_init (kSz w) (iI n) (kNw w 1 0) = some w' ∧ Ln (oN ow (kSz w) 6) w' (kSz w) n [] ∧ Fr ow (oN ow (kSz w) 6) (fun _ => False) w w' ∧ WF w' ∧ kSz w' = kSz w + 6 ∧ ∀ q, q < kSz w → Sa w w' q := by
  obtain ⟨a, ea⟩ : ∃ a, a = kSz w := ⟨_, rfl⟩
  rw [← ea]
  have b0 := Bd.new hw 1
  rw [← ea] at b0
  obtain ⟨w3, e3⟩ : ∃ w3, w3 = kSI (kSI (kSI (kNw w 1 0) a 5 0) a 6 0) a 7 0 := ⟨_, rfl⟩
  have b3 : Bd w w3 a 1 [] := by rw [e3]; exact ((b0.si 0).si 0).si 0
  have z3 : kSz w3 = a + 1 := by rw [e3, ea]; rfl
  have i5 : kI w3 a 5 = 0 := by rw [e3, kI_SI_j (by omega), kI_SI_j (by omega), kI_SI_s]
  have i6 : kI w3 a 6 = 0 := by rw [e3, kI_SI_j (by omega), kI_SI_s]
  have b4 := b3.row (j := 0) (k := 13) (n := n) (fun e he => (by cases he))
  have f4 : ∀ i, kI (kSP (kNw w3 13 n) a 0 (some (kSz w3))) a i = kI w3 a i := fun i => Bd.fld b3.2.2.1
  have z4 : kSz (kSP (kNw w3 13 n) a 0 (some (kSz w3))) = a + 2 := by show kSz w3 + 1 = _; omega
  generalize e4 : kSP (kNw w3 13 n) a 0 (some (kSz w3)) = w4 at b4 f4 z4
  have b5 := b4.row (j := 1) (k := 14) (n := n) (fun e he => by simp at he; rw [he]; show 0 ≠ 1; omega)
  have f5 : ∀ i, kI (kSP (kNw w4 14 n) a 1 (some (kSz w4))) a i = kI w4 a i := fun i => Bd.fld b4.2.2.1
  have z5 : kSz (kSP (kNw w4 14 n) a 1 (some (kSz w4))) = a + 3 := by show kSz w4 + 1 = _; omega
  generalize e5 : kSP (kNw w4 14 n) a 1 (some (kSz w4)) = w5 at b5 f5 z5
  have b6 := b5.row (j := 2) (k := 14) (n := n) (fun e he => by simp at he; rcases he with rfl | rfl <;> simp)
  have f6 : ∀ i, kI (kSP (kNw w5 14 n) a 2 (some (kSz w5))) a i = kI w5 a i := fun i => Bd.fld b5.2.2.1
  have z6 : kSz (kSP (kNw w5 14 n) a 2 (some (kSz w5))) = a + 4 := by show kSz w5 + 1 = _; omega
  generalize e6 : kSP (kNw w5 14 n) a 2 (some (kSz w5)) = w6 at b6 f6 z6
  have b7 := b6.row (j := 3) (k := 14) (n := n) (fun e he => by simp at he; rcases he with rfl | rfl | rfl <;> simp)
  have f7 : ∀ i, kI (kSP (kNw w6 14 n) a 3 (some (kSz w6))) a i = kI w6 a i := fun i => Bd.fld b6.2.2.1
  have z7 : kSz (kSP (kNw w6 14 n) a 3 (some (kSz w6))) = a + 5 := by show kSz w6 + 1 = _; omega
  generalize e7 : kSP (kNw w6 14 n) a 3 (some (kSz w6)) = w7 at b7 f7 z7
  have b8 := b7.row (j := 4) (k := 14) (n := n) (fun e he => by simp at he; rcases he with rfl | rfl | rfl | rfl <;> simp)
  have f8 : ∀ i, kI (kSP (kNw w7 14 n) a 4 (some (kSz w7))) a i = kI w7 a i := fun i => Bd.fld b7.2.2.1
  have z8 : kSz (kSP (kNw w7 14 n) a 4 (some (kSz w7))) = a + 6 := by show kSz w7 + 1 = _; omega
  generalize e8 : kSP (kNw w7 14 n) a 4 (some (kSz w7)) = w8 at b8 f8 z8
  have f : ∀ i, kI w8 a i = kI w3 a i := fun i => by rw [f8, f7, f6, f5, f4]
  obtain ⟨q1, q2, q3, q4, q5, q6⟩ := b8
  obtain ⟨-, -, -, -, -, -, -⟩ := And.intro q1 (And.intro q2 (And.intro q3 (And.intro q4 (And.intro q5 (And.intro q6 trivial)))))
  have la : ∀ (j k : Nat), (j, a + 1 + j, k, n) ∈ [(4, kSz w7, 14, n), (3, kSz w6, 14, n), (2, kSz w5, 14, n), (1, kSz w4, 14, n), (0, kSz w3, 13, n)] → j < 5 → LnA (oN ow a 6) w8 a n j k := fun j k he hj => by
    obtain ⟨g1, g2, g3, g4, g5⟩ := q6 _ he
    have hl : Lp w8 a j = a + 1 + j := by unfold Lp; rw [g1]; rfl
    unfold LnA
    rw [hl]
    exact ⟨g1, g2, g3, by rw [oN_in ⟨by omega, by omega⟩]; congr 1; omega⟩
  refine ⟨w8, ?_, ⟨⟨q1, by rw [oN_in ⟨by omega, by omega⟩, Nat.sub_self], hn, la 0 13 (by rw [z3]; simp) (by omega), la 1 14 (by rw [z4]; simp) (by omega), la 2 14 (by rw [z5]; simp) (by omega), la 3 14 (by rw [z6]; simp) (by omega), la 4 14 (by rw [z7]; simp) (by omega)⟩, Nat.zero_le _, ⟨by rw [f, i5]; rfl, fun i c hc => by simp at hc⟩, by rw [f, i6]⟩, ?_, q4, z8, by rw [ea]; exact q5⟩
  · have em : kMmax (iI (n : Int)) (0 : Int32) = iI (n : Int) := by
      rw [iL_0, kMmax_i (by omega) (by omega) (by omega) (by omega)]
      congr 1
      omega
    have k0 : kKd (kNw w 1 0) a = 1 := by rw [ea]; exact kKd_N _ _ _
    have kk : ∀ {w9 : kW} {k m : Nat}, kKd w9 a = 1 → a < kSz w9 → kKd (kNw w9 k m) a = 1 := fun {w9 k m} h1 h2 => ((Sa.nw (show a ≠ kSz w9 by omega)).1).trans h1
    rw [fX1_init, kpI_e k0, Option.bind_some, kpI_e (show kKd (kSI (kNw w 1 0) a 5 0) a = 1 from k0), Option.bind_some, kpI_e (show kKd (kSI (kSI (kNw w 1 0) a 5 0) a 6 0) a = 1 from k0), Option.bind_some, ← e3, em]
    rw [knC_e hn (by omega), Option.bind_some, kpP_e (kk b3.1 b3.2.2.1), Option.bind_some, e4, knC_e hn (by omega), Option.bind_some, kpP_e (kk b4.1 b4.2.2.1), Option.bind_some, e5, knC_e hn (by omega), Option.bind_some, kpP_e (kk b5.1 b5.2.2.1), Option.bind_some, e6, knC_e hn (by omega), Option.bind_some, kpP_e (kk b6.1 b6.2.2.1), Option.bind_some, e7, knC_e hn (by omega), Option.bind_some, kpP_e (kk b7.1 b7.2.2.1), Option.bind_some, e8]
  · intro b hb _
    have hlt := hw.lt hb
    obtain ⟨g1, g2, g3, g4, g5⟩ := q5 b hlt
    exact ⟨oN_out (by omega), g1, g2, g3, g4, g5⟩
/-- owners lie there, too -/
def WO (ow : Nat → Nat × Nat) (w : kW) : Prop := ∀ b, kKd w b < 19 → (ow b).1 < kSz w
theorem WO.sq {ow : Nat → Nat × Nat} {S : Nat → Prop} {w w' : kW} (h : WO ow w) (hs : Sq ow S w w') : WO ow w' := fun b hb => by rw [hs.2.2.1]; exact h b (by rw [← hs.1]; exact hb)
theorem WO.new {ow : Nat → Nat × Nat} {w w' : kW} {m : Nat} (h : WO ow w) (hW : WF w') (hz : kSz w' = kSz w + m) (hs : ∀ q, q < kSz w → Sa w w' q) : WO (oN ow (kSz w) m) w' := fun b hb => by
  have hlt := hW.lt hb
  by_cases c : b < kSz w
  · rw [oN_out c, hz]
    have := h b (by rw [← (hs b c).1]; exact hb)
    omega
  · rw [oN_in ⟨by omega, by omega⟩]
    show kSz w < kSz w'
    omega
theorem RdS.of {ow : Nat → Nat × Nat} {w w1 : kW} {rd dr : Nat} (h : RdS ow w rd dr) (hk : kKd w1 = kKd w) (hl : kLn w1 = kLn w) (hp : kP w1 = kP w) : RdS ow w1 rd dr := by
  have lp : ∀ a j, Lp w1 a j = Lp w a j := fun a j => by unfold Lp; rw [hp]
  unfold RdS LnS LnA at *
  simp only [lp, hk, hl, hp]
  exact h
theorem Fr.sq {ow ow1 : Nat → Nat × Nat} {S : Nat → Prop} {w w1 w2 : kW} (h : Fr ow ow1 S w w1) (hs : Sq ow1 S w1 w2) : Fr ow ow1 S w w2 := h.tr hs.fr
/-- the line that was read -/
theorem madeLine_ok {ow : Nat → Nat × Nat} {x : Nat} {w : kW} {rd dr : Nat} {F : Fo} (hw : WF w) (hwo : WO ow w) (hx : x + 237 ≤ kSz w) (hS : RdS ow w rd dr) (hL : Ln ow w dr 60 (fPre F)) (hF : fOk F) (ht : (fTxt F).length ≤ 60) :
    ∃ w' ow', fX2_madeLine rd w = some (some (kSz w), w') ∧ Li ow' x w' (kSz w) F ∧ Fr ow ow' (RdQ rd dr) w w' ∧ WF w' ∧ WO ow' w' ∧ RdS ow' w' rd dr ∧ kSz w' = kSz w + 6 := by
  have e60 := fSz_le60 hF ht
  obtain ⟨w4, e4, L4, F4, W4, z4, same4⟩ := newLine_ok (ow := ow) (n := fSz F) hw (by omega)
  have F4' := F4.wide (S' := RdQ rd dr) (fun _ h => h.elim)
  have dlt : dr < kSz w := hw.lt (by rw [hS.2.2.2.1.1]; omega)
  have rlt : rd < kSz w := hw.lt (by rw [hS.1]; omega)
  have S4 := hS.fr F4 (fun h => h) (fun h => h)
  have D4 : Ln (oN ow (kSz w) 6) w4 dr 60 (fPre F) := hL.fr F4 (fun h => h)
  obtain ⟨w8, e8, D8, T8, m8, -⟩ := settle_ok hF D4
  have L8 := L4.1.sm m8
  have S8 := S4.sm m8
  have nd : kSz w ≠ dr := by omega
  have nr : kSz w ≠ rd := by omega
  obtain ⟨w12, e12, L12, T12, m12⟩ := become_ok (X := []) (Y := []) nd L8 D8 T8 (fun c hc => fSig_lt (fPre_sig F hF c hc)) (by simp) hF (Nat.le_refl _)
  have S12 := S8.sm m12
  obtain ⟨p2, k2, n2, o2⟩ := S12.2.2.2.2.2
  obtain ⟨w16, e16, L16, i16, q16, p16⟩ := weigh_ok (r := Lp w12 rd 2) ⟨hF, L12, T12⟩ (by rw [o2]; exact Ne.symm nr) k2 n2 e60
  have q16' : Sq (oN ow (kSz w) 6) (fun z => z = kSz w ∨ z = rd) w12 w16 := q16.wide (fun z hz => hz.elim Or.inl (fun h => Or.inr (by rw [h, o2])))
  have e0 : (0 : Int32) = iI (([] : List Nat).length : Int) := by decide +kernel
  rw [← e0] at e12
  refine ⟨w16, oN ow (kSz w) 6, ?_, ⟨L16, i16, ht, hx⟩, ?_, ((W4.sq m8.q).sq m12.q).sq q16, (((hwo.new W4 z4 same4).sq m8.q).sq m12.q).sq q16, S12.of q16.1 q16.2.1 p16, by rw [q16.2.2.1, m12.2.2.1, m8.2.2.1, z4]⟩
  · have hl5 : kI (kNw w 1 0) dr 5 = iI (fSz F) := by
      rw [(Sa.nw (show dr ≠ kSz w by omega)).2.2.1]
      exact hL.2.2.1.1
    have k1 : ∀ {k : Nat}, kKd w rd = k → kKd (kNw w 1 0) rd = k := fun h => ((Sa.nw (show rd ≠ kSz w by omega)).1).trans h
    have p1 : kP (kNw w 1 0) rd 0 = some dr := by rw [(Sa.nw (show rd ≠ kSz w by omega)).2.2.2.1]; exact hS.2.2.1
    have kd1 : kKd (kNw w 1 0) dr = 1 := ((Sa.nw (show dr ≠ kSz w by omega)).1).trans hS.2.2.2.1.1
    show ((some (kNw w 1 0)).bind fun w1 => _) = _
    rw [Option.bind_some, kgP_e (k1 hS.1), Option.bind_some, p1, kgI_e kd1, Option.bind_some, hl5, e4, Option.bind_some, kgP_e S4.1, Option.bind_some, S4.2.2.1, kRc_e S4.2.2.2.1.1, Option.bind_some, e8, Option.bind_some, kgP_e S8.1, Option.bind_some, S8.2.2.1, kRc_e L8.1, Option.bind_some, e12, Option.bind_some, kgP_e S12.1, Option.bind_some, p2, kRc_e L12.1.1, Option.bind_some, e16, Option.bind_some]
  · intro b hb hn
    have hlt := hw.lt hb
    obtain ⟨g1, g2, g3, g4, g5, g6⟩ := F4 b hb (fun h => h)
    have ho : (ow b).1 ≠ kSz w := Nat.ne_of_lt (hwo b hb)
    have N : Sq (oN ow (kSz w) 6) (fun z => z = dr ∨ z = kSz w ∨ z = rd) w4 w16 := ((m8.q.wide (fun z hz => Or.inl hz)).tr (m12.q.wide (fun z hz => Or.inr (Or.inl hz)))).tr (q16'.wide (fun z hz => Or.inr hz))
    obtain ⟨y1, y2, y3⟩ := N.2.2.2 b (by
      rw [g1]
      rintro (h | h | h)
      · exact hn (Or.inr h)
      · exact ho h
      · exact hn (Or.inl h))
    exact ⟨g1, by rw [N.1]; exact g2, by rw [N.2.1]; exact g3, y1.trans g4, y2.trans g5, y3.trans g6⟩
