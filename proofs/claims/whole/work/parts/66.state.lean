/-! THE STATE that both sides show: the table, the image, the shelves -/
abbrev Sh : Type := Option (Sum (Nat × Nat × Fo) (Nat × List Int))
abbrev AS : Type := TbS × Option TbS × (Nat → Sh)
def sT (S : AS) : TbS := S.1
def sI (S : AS) : Option TbS := S.2.1
def sH (S : AS) : Nat → Sh := S.2.2
def I32 (n : Int) : Prop := -2147483648 ≤ n ∧ n < 2147483648
def elB (so : Nat) (c : Int) : Prop := (so = 0 → -128 ≤ c ∧ c < 128) ∧ (so = 1 → -32768 ≤ c ∧ c < 32768) ∧ I32 c
def ShC (ow : Nat → Nat × Nat) (x : Nat) (w : kW) (sa : Nat) (k n : Nat) (F : Fo) : Prop := kI w sa 1 = iI (-1) ∧ k ≤ 6 ∧ n < 40 ∧ ∃ c a, kP w sa 3 = some c ∧ kKd w c = 0 ∧ ow c = (c, 0) ∧ x + 237 ≤ c ∧ kI w c 0 = iI k ∧ kI w c 1 = iI n ∧ kP w c 2 = some a ∧ Li ow x w a F
def ShW (w : kW) (sa so : Nat) (l : List Int) : Prop := so ≤ 2 ∧ kI w sa 1 = iI so ∧ kI w sa 2 = iI l.length ∧ kP w sa 3 = none ∧ l.length ≤ 120 ∧ (∀ (i : Nat) (c : Int), l[i]? = some c → kI w (Lp w sa 0) i = iI c) ∧ ∀ c ∈ l, elB so c
def ShV (ow : Nat → Nat × Nat) (x : Nat) (w : kW) (sa : Nat) : Sh → Prop
  | none => kI w sa 1 = iI (-1) ∧ kP w sa 3 = none
  | some (.inl q) => ShC ow x w sa q.1 q.2.1 q.2.2
  | some (.inr q) => ShW w sa q.1 q.2
def ShB (ow : Nat → Nat × Nat) (w : kW) (sa : Nat) : Prop := kKd w sa = 6 ∧ ow sa = (sa, 0) ∧ LnA ow w sa 120 0 14
def ShO (ow : Nat → Nat × Nat) (x : Nat) (w : kW) (sa : Nat) (s : Sh) : Prop := ShB ow w sa ∧ ShV ow x w sa s
theorem ShB.fr {ow ow' : Nat → Nat × Nat} {V : Nat → Prop} {w w' : kW} {sa : Nat} (h : ShB ow w sa) (hs : Fr ow ow' V w w') (n1 : ¬ V sa) : ShB ow' w' sa ∧ kI w' sa = kI w sa ∧ kP w' sa = kP w sa ∧ Lp w' sa 0 = Lp w sa 0 ∧ kI w' (Lp w sa 0) = kI w (Lp w sa 0) := by
  obtain ⟨hk, ho, h0⟩ := h
  have hoa : (ow sa).1 = sa := by rw [ho]
  obtain ⟨e1, e2, e3, e4, e5, e6⟩ := hs sa (by omega) (by rw [hoa]; exact n1)
  obtain ⟨q0, l0⟩ := h0.fr hs (by omega) (by omega) n1 hoa
  exact ⟨⟨by rw [e2]; exact hk, by rw [e1]; exact ho, q0⟩, e4, e5, l0, (h0.fi hs (by omega) n1).1⟩
theorem ShO.fr {ow ow' : Nat → Nat × Nat} {V : Nat → Prop} {x : Nat} {w w' : kW} {sa : Nat} {s : Sh} (h : ShO ow x w sa s) (hs : Fr ow ow' V w w') (n1 : ¬ V sa) (n2 : ∀ a, x + 237 ≤ a → ¬ V a) : ShO ow' x w' sa s := by
  obtain ⟨hB, hV⟩ := h
  obtain ⟨b, e4, e5, l0, f0⟩ := hB.fr hs n1
  refine ⟨b, ?_⟩
  cases s with
  | none => exact ⟨by rw [e4]; exact hV.1, by rw [e5]; exact hV.2⟩
  | some q =>
    cases q with
    | inl q =>
      obtain ⟨g1, g2, g3, c, a, g4, g5, g6, g7, g8, g9, g10, g11⟩ := hV
      obtain ⟨y1, y2, y3, y4, y5, y6⟩ := hs c (by omega) (by rw [g6]; exact n2 c g7)
      exact ⟨by rw [e4]; exact g1, g2, g3, c, a, by rw [e5]; exact g4, by rw [y2]; exact g5, by rw [y1]; exact g6, g7, by rw [y4]; exact g8, by rw [y4]; exact g9, by rw [y5]; exact g10, g11.fr hs (n2 a g11.2.2.2)⟩
    | inr q =>
      obtain ⟨g1, g2, g3, g4, g5, g6, g7⟩ := hV
      exact ⟨g1, by rw [e4]; exact g2, by rw [e4]; exact g3, by rw [e5]; exact g4, g5, fun i c hc => by rw [l0, f0]; exact g6 i c hc, g7⟩
/-! the class's world, by its parts -/
def treeP : PS := (0, 0, 0, 0, [100, 99], false, 1000000, 1000000)
def Vr (x a b : Nat) : Nat → Prop := fun q => x + a ≤ q ∧ q < x + b
def Cx (x : Nat) : Nat → Prop := fun q => (x ≤ q ∧ q < x + 237) ∧ q ≠ x + 2
def K0 (ow : Nat → Nat × Nat) (x : Nat) (w : kW) (b : Bool) : Prop := (kKd w x = 11 ∧ ow x = (x, 0) ∧ kI w x 2 = iB b) ∧ (kP w x 0 = some (x + 1) ∧ kP w x 1 = some (x + 9) ∧ kP w x 3 = some (x + 17) ∧ kP w x 4 = some (x + 18) ∧ kP w x 5 = some (x + 27) ∧ kP w x 6 = some (x + 30) ∧ kP w x 7 = some (x + 32) ∧ kP w x 8 = some (x + 57) ∧ kP w x 9 = some (x + 61) ∧ kP w x 10 = some (x + 218)) ∧ (LnA ow w x 8 3 18 ∧ ∀ d, d < 8 → kP w (x + 17) d = some (x + 221 + 2 * d)) ∧ LnA ow w x 3 11 14
def KI (ow : Nat → Nat × Nat) (x : Nat) (w : kW) (I : Option TbS) : Prop := TbR ow x w (x + 9) ∧ ∀ T, I = some T → Tb ow x w (x + 9) T
def KS (ow : Nat → Nat × Nat) (x : Nat) (w : kW) (sh : Nat → Sh) : Prop := ∀ d, d < 8 → ShO ow x w (x + 221 + 2 * d) (sh d)
def KQ (ow : Nat → Nat × Nat) (x : Nat) (w : kW) : Prop := (∃ p d nd, SsS ow x w (x + 61) p d nd) ∧ ∃ odds : Int, 0 ≤ odds ∧ odds ≤ 100 ∧ kI w (x + 61) 16 = iI odds
def Kc (ow : Nat → Nat × Nat) (x : Nat) (w : kW) (S : AS) : Prop :=
  (WF w ∧ WO ow w ∧ x + 256 ≤ kSz w) ∧ K0 ow x w (sI S).isSome ∧ Tb ow x w (x + 1) (sT S) ∧ KI ow x w (sI S) ∧ KS ow x w (sH S) ∧ RdS ow w (x + 18) (x + 19) ∧ WrS ow w (x + 27) ∧ Pg ow w (x + 30) ∧ WdS ow w (x + 32) (x + 33) (x + 39) (x + 45) (x + 51) ∧ Sp ow w (x + 57) (x + 58) ∧ KQ ow x w ∧ Pq ow w (x + 218) 2 treeP
theorem K0.fr {ow ow' : Nat → Nat × Nat} {V : Nat → Prop} {x : Nat} {w w' : kW} {b : Bool} (h : K0 ow x w b) (hs : Fr ow ow' V w w') (n : ¬ V x) : K0 ow' x w' b := by
  obtain ⟨⟨hk, ho, hb⟩, hp, ⟨r3, hsh⟩, r11⟩ := h
  have hoa : (ow x).1 = x := by rw [ho]
  obtain ⟨e1, e2, e3, e4, e5, e6⟩ := hs x (by omega) (by rw [hoa]; exact n)
  have l3 : Lp w x 3 = x + 17 := by unfold Lp; rw [hp.2.2.1]; rfl
  have f3 := (r3.fi hs (by omega) n).2
  rw [l3] at f3
  refine ⟨⟨by rw [e2]; exact hk, by rw [e1]; exact ho, by rw [e4]; exact hb⟩, by rw [e5]; exact hp, ⟨(r3.fr hs (by omega) (by omega) n hoa).1, fun d hd => by rw [f3]; exact hsh d hd⟩, (r11.fr hs (by omega) (by omega) n hoa).1⟩
theorem TbR.fr {ow ow' : Nat → Nat × Nat} {V : Nat → Prop} {x tb : Nat} {w w' : kW} (h : TbR ow x w tb) (hs : Fr ow ow' V w w') (ha : ¬ V tb) (hb : ∀ a, x + 237 ≤ a → ¬ V a) : TbR ow' x w' tb := by
  obtain ⟨hk, ho, r0, r1, r2, r3, r4, r5, r6, r7, r8⟩ := h
  have k19 : kKd w tb < 19 := by omega
  have hoa : (ow tb).1 = tb := by rw [ho]
  obtain ⟨e1, e2, e3, e4, e5, e6⟩ := hs tb k19 (by rw [hoa]; exact ha)
  obtain ⟨q0, l0⟩ := r0.fr hs k19 (by omega) ha hoa
  obtain ⟨q6, l6⟩ := r6.fr hs k19 (by omega) ha hoa
  have f0 := (r0.fi hs (by omega) ha).2
  have f6 := (r6.fi hs (by omega) ha).2
  have ref : ∀ b, (kKd w b = 1 ∨ kKd w b = 3) → ow b = (b, 0) → x + 237 ≤ b → kKd w' b = kKd w b ∧ ow' b = ow b := fun b k1 o1 g1 => by
    obtain ⟨z1, z2, -⟩ := hs b (by omega) (by rw [o1]; exact hb b g1)
    exact ⟨z2, z1⟩
  refine ⟨by rw [e2]; exact hk, by rw [e1]; exact ho, q0, (r1.fr hs k19 (by omega) ha hoa).1, (r2.fr hs k19 (by omega) ha hoa).1, (r3.fr hs k19 (by omega) ha hoa).1, (r4.fr hs k19 (by omega) ha hoa).1, (r5.fr hs k19 (by omega) ha hoa).1, q6, fun i hi b hp => ?_, fun i hi b hp => ?_⟩
  · rw [l0, f0] at hp
    obtain ⟨g1, g2, g3⟩ := r7 i hi b hp
    obtain ⟨z1, z2⟩ := ref b (Or.inl g1) g2 g3
    exact ⟨z1.trans g1, z2.trans g2, g3⟩
  · rw [l6, f6] at hp
    obtain ⟨g1, g2, g3⟩ := r8 i hi b hp
    obtain ⟨z1, z2⟩ := ref b (Or.inr g1) g2 g3
    exact ⟨z1.trans g1, z2.trans g2, g3⟩
theorem KI.fr {ow ow' : Nat → Nat × Nat} {V : Nat → Prop} {x : Nat} {w w' : kW} {I : Option TbS} (h : KI ow x w I) (hs : Fr ow ow' V w w') (n : ¬ V (x + 9)) (n2 : ∀ a, x + 237 ≤ a → ¬ V a) : KI ow' x w' I :=
  ⟨h.1.fr hs n n2, fun T e => (h.2 T e).fr hs n n2⟩
theorem KS.fr {ow ow' : Nat → Nat × Nat} {V : Nat → Prop} {x : Nat} {w w' : kW} {sh : Nat → Sh} (h : KS ow x w sh) (hs : Fr ow ow' V w w') (n : ∀ d, d < 8 → ¬ V (x + 221 + 2 * d)) (n2 : ∀ a, x + 237 ≤ a → ¬ V a) : KS ow' x w' sh :=
  fun d hd => (h d hd).fr hs (n d hd) n2
theorem SsS.fr {ow ow' : Nat → Nat × Nat} {V : Nat → Prop} {x : Nat} {w w' : kW} {s p d : Nat} {nd : Nat → Nat} (h : SsS ow x w s p d nd) (hs : Fr ow ow' V w w') (n : ∀ q, x + 61 ≤ q → q < x + 218 → ¬ V q) : SsS ow' x w' s p d nd := by
  obtain ⟨⟨hk, ho, r0, r1, r2, r3⟩, ⟨p4, hpg⟩, ⟨p5, hdS, bd1, bd2⟩, hnd, hinj, bs1, bs2, bp1, bp2⟩ := h
  have hoa : (ow s).1 = s := by rw [ho]
  have ns := n s bs1 bs2
  obtain ⟨e1, e2, e3, e4, e5, e6⟩ := hs s (by omega) (by rw [hoa]; exact ns)
  obtain ⟨q0, l0⟩ := r0.fr hs (by omega) (by omega) ns hoa
  have f0 := (r0.fi hs (by omega) ns).2
  refine ⟨⟨by rw [e2]; exact hk, by rw [e1]; exact ho, q0, (r1.fr hs (by omega) (by omega) ns hoa).1, (r2.fr hs (by omega) (by omega) ns hoa).1, (r3.fr hs (by omega) (by omega) ns hoa).1⟩, ⟨by rw [e5]; exact p4, hpg.fr hs (n p bp1 bp2)⟩, ⟨by rw [e5]; exact p5, hdS.fr hs (n d bd1 bd2), bd1, bd2⟩, fun j hj => ?_, hinj, bs1, bs2, bp1, bp2⟩
  obtain ⟨y1, y2, y3, y4, y5⟩ := hnd j hj
  exact ⟨by rw [l0, f0]; exact y1, y2.fr hs (n _ y3 y4), y3, y4, y5⟩
theorem KQ.fr {ow ow' : Nat → Nat × Nat} {V : Nat → Prop} {x : Nat} {w w' : kW} (h : KQ ow x w) (hs : Fr ow ow' V w w') (n : ∀ q, x + 61 ≤ q → q < x + 218 → ¬ V q) : KQ ow' x w' := by
  obtain ⟨⟨p, d, nd, h⟩, odds, b1, b2, b3⟩ := h
  obtain ⟨e1, e2, e3, e4, e5, e6⟩ := hs (x + 61) (by rw [h.1.1]; omega) (by rw [h.1.2.1]; exact n _ (Nat.le_refl _) (by omega))
  exact ⟨⟨p, d, nd, h.fr hs n⟩, odds, b1, b2, by rw [e4]; exact b3⟩
/-- what a change of [a, b) leaves -/
def Ok (x a b : Nat) (ow' : Nat → Nat × Nat) (w' : kW) (S : AS) : Prop :=
  ((0 < a ∨ b = 0) → K0 ow' x w' (sI S).isSome) ∧ ((1 < a ∨ b ≤ 1) → Tb ow' x w' (x + 1) (sT S)) ∧ ((9 < a ∨ b ≤ 9) → KI ow' x w' (sI S)) ∧ ((b ≤ 221) → KS ow' x w' (sH S)) ∧ ((19 < a ∨ b ≤ 18) → RdS ow' w' (x + 18) (x + 19)) ∧ ((27 < a ∨ b ≤ 27) → WrS ow' w' (x + 27)) ∧ ((30 < a ∨ b ≤ 30) → Pg ow' w' (x + 30)) ∧ ((51 < a ∨ b ≤ 32) → WdS ow' w' (x + 32) (x + 33) (x + 39) (x + 45) (x + 51)) ∧ ((58 < a ∨ b ≤ 57) → Sp ow' w' (x + 57) (x + 58)) ∧ ((218 ≤ a ∨ b ≤ 61) → KQ ow' x w') ∧ ((218 < a ∨ b ≤ 218) → Pq ow' w' (x + 218) 2 treeP)
theorem Kc.ok {ow ow' : Nat → Nat × Nat} {x a b : Nat} {w w' : kW} {S : AS} (h : Kc ow x w S) (hs : Fr ow ow' (Vr x a b) w w') (hb : b ≤ 237) : Ok x a b ow' w' S := by
  obtain ⟨-, k0, kt, ki, ks, kr, kw, kp, kd, kh, kq, kg⟩ := h
  have n2 : ∀ q, x + 237 ≤ q → ¬ Vr x a b q := fun q hq z => by have := z.2; omega
  have nv : ∀ c, (c < a ∨ b ≤ c) → ¬ Vr x a b (x + c) := fun c hc z => by have := z.1; have := z.2; omega
  refine ⟨fun c => k0.fr hs (nv 0 (by omega)), fun c => kt.fr hs (nv 1 (by omega)) n2, fun c => ki.fr hs (nv 9 (by omega)) n2, fun c => ks.fr hs (fun d hd z => by have := z.2; omega) n2, fun c => kr.fr hs (nv 18 (by omega)) (nv 19 (by omega)), fun c => kw.fr hs (nv 27 (by omega)), fun c => kp.fr hs (nv 30 (by omega)), fun c => kd.fr hs (nv 32 (by omega)) (nv 33 (by omega)) (nv 39 (by omega)) (nv 45 (by omega)) (nv 51 (by omega)), fun c => kh.fr hs (nv 57 (by omega)) (nv 58 (by omega)), fun c => kq.fr hs (fun q h1 h2 z => by have := z.1; have := z.2; omega), fun c => kg.fr hs (nv 218 (by omega))⟩
theorem Fr.cx {ow ow' : Nat → Nat × Nat} {x a b : Nat} {w w' : kW} (hs : Fr ow ow' (Vr x a b) w w') (hb : b ≤ 237) (h2 : 2 < a ∨ b ≤ 2) : Fr ow ow' (Cx x) w w' := hs.wide (fun q hq => ⟨⟨by have := hq.1; omega, by have := hq.2; omega⟩, fun e => by have := hq.1; have := hq.2; omega⟩)
/-! which shelf, which row -/
def shAt (S : AS) (d : Int) : Option Sh := if 0 ≤ d ∧ d < 8 then some (sH S d.toNat) else none
theorem shelfAt_ok {ow : Nat → Nat × Nat} {x : Nat} {w : kW} {S : AS} (h : Kc ow x w S) {d : Int} (hd : I32 d) : (shAt S d = none → fX11_shelfAt x (iI d) w = some none) ∧ ∀ s, shAt S d = some s → fX11_shelfAt x (iI d) w = some (some (x + 221 + 2 * d.toNat)) ∧ ShO ow x w (x + 221 + 2 * d.toNat) s ∧ d.toNat < 8 ∧ s = sH S d.toNat := by
  obtain ⟨-, ⟨⟨hk, -⟩, ⟨-, -, p3, -⟩, ⟨r3, hsh⟩, -⟩, -, -, ks, -⟩ := h
  obtain ⟨d0, d1⟩ := hd
  have l3 : Lp w x 3 = x + 17 := by unfold Lp; rw [p3]; rfl
  have k17 := r3.2.1
  have n17 := r3.2.2.1
  rw [l3] at k17 n17
  by_cases c : 0 ≤ d ∧ d < 8
  · have e : shAt S d = some (sH S d.toNat) := if_pos c
    rw [e]
    refine ⟨fun z => (by cases z), fun s z => ?_⟩
    have e2 := Option.some.inj z
    refine ⟨?_, by rw [← e2]; exact ks _ (by omega), by omega, e2.symm⟩
    rw [fX11_shelfAt, if_neg (by rw [iL_0, iI_lt (by omega) (by omega) (by omega) (by omega)]; omega), if_neg (by rw [iL_8, iI_le (by omega) (by omega) (by omega) (by omega)]; omega), kgP_e hk, Option.bind_some, p3, kaP_e k17 (by omega) (by rw [n17]; omega) (by omega), Option.bind_some, hsh d.toNat (by omega)]
  · have e : shAt S d = none := if_neg c
    rw [e]
    refine ⟨fun _ => ?_, fun s z => (by cases z)⟩
    rw [fX11_shelfAt]
    by_cases c0 : d < 0
    · rw [if_pos (by rw [iL_0, iI_lt (by omega) (by omega) (by omega) (by omega)]; exact c0)]
    · rw [if_neg (by rw [iL_0, iI_lt (by omega) (by omega) (by omega) (by omega)]; exact c0), if_pos (by rw [iL_8, iI_le (by omega) (by omega) (by omega) (by omega)]; omega)]
/-- refusals -/
def bRef : Sh → Int
  | none => -11
  | some (.inl _) => -12
  | some (.inr q) => if q.1 = 0 then 0 else -12
def rRef : Sh → Int
  | none => -11
  | some (.inl _) => -12
  | some (.inr _) => 0
def cRef : Sh → Int
  | none => -11
  | some (.inl _) => 0
  | some (.inr _) => -12
def rowL : Sh → List Int
  | some (.inr q) => q.2
  | _ => []
def rowS : Sh → Nat
  | some (.inr q) => q.1
  | _ => 0
theorem rowRef_ok {ow : Nat → Nat × Nat} {x : Nat} {w : kW} {sa : Nat} {s : Sh} (h : ShO ow x w sa s) : fX6_rowRefusal sa w = some (iI (rRef s)) := by
  obtain ⟨⟨hk, -⟩, hV⟩ := h
  have en : (-1 : Int32) = iI (-1) := by decide +kernel
  rw [fX6_rowRefusal, kgI_e hk, Option.bind_some]
  cases s with
  | none =>
    rw [hV.1, if_pos en.symm, kgP_e hk, Option.bind_some, hV.2, if_pos rfl]
    decide +kernel
  | some q =>
    cases q with
    | inl q =>
      obtain ⟨g1, g2, g3, c, a, g4, -⟩ := hV
      rw [g1, if_pos en.symm, kgP_e hk, Option.bind_some, g4, if_neg (by simp)]
      show some (-12 : Int32) = some (iI (-12))
      decide +kernel
    | inr q =>
      obtain ⟨g1, g2, -⟩ := hV
      rw [g2, if_neg (by rw [en, iI_eq (by omega) (by omega) (by omega) (by omega)]; omega)]
      show some (0 : Int32) = some (iI 0)
      decide +kernel
theorem bytesRef_ok {ow : Nat → Nat × Nat} {x : Nat} {w : kW} {sa : Nat} {s : Sh} (h : ShO ow x w sa s) : fX6_bytesRefusal sa w = some (iI (bRef s)) := by
  have hr := rowRef_ok h
  obtain ⟨⟨hk, -⟩, hV⟩ := h
  rw [fX6_bytesRefusal, kgI_e hk, Option.bind_some]
  cases s with
  | none =>
    rw [hV.1, if_pos (by decide +kernel), kRc_e hk, Option.bind_some, hr]
    rfl
  | some q =>
    cases q with
    | inl q =>
      obtain ⟨g1, -⟩ := hV
      rw [g1, if_pos (by decide +kernel), kRc_e hk, Option.bind_some, hr]
      rfl
    | inr q =>
      obtain ⟨g1, g2, -⟩ := hV
      have eB : bRef (some (.inr q)) = if q.1 = 0 then 0 else -12 := rfl
      rw [g2, eB]
      by_cases c : q.1 = 0
      · rw [if_pos (by rw [c]; decide +kernel), kRc_e hk, Option.bind_some, hr, if_pos c]
        rfl
      · rw [if_neg (by rw [iL_0, iI_le (by omega) (by omega) (by omega) (by omega)]; omega), if_neg c]
        show some (-12 : Int32) = some (iI (-12))
        decide +kernel
theorem rRef_0 {s : Sh} (h : rRef s = 0) : ∃ q, s = some (.inr q) := by
  cases s with
  | none => exact absurd h (by decide)
  | some q =>
    cases q with
    | inl q => exact absurd h (by show ¬ (-12 : Int) = 0; decide)
    | inr q => exact ⟨q, rfl⟩
theorem bRef_0 {s : Sh} (h : bRef s = 0) : ∃ l, s = some (.inr (0, l)) := by
  cases s with
  | none => exact absurd h (by decide)
  | some q =>
    cases q with
    | inl q => exact absurd h (by show ¬ (-12 : Int) = 0; decide)
    | inr q =>
      obtain ⟨so, l⟩ := q
      have h' : (if so = 0 then (0 : Int) else -12) = 0 := h
      by_cases c : so = 0
      · exact ⟨l, by rw [c]⟩
      · rw [if_neg c] at h'
        exact absurd h' (by decide)
theorem bRef_bd (s : Sh) : -12 ≤ bRef s ∧ bRef s ≤ 0 := by
  cases s with
  | none => exact ⟨by decide, by decide⟩
  | some q =>
    cases q with
    | inl q => exact ⟨by show (-12 : Int) ≤ -12; decide, by show (-12 : Int) ≤ 0; decide⟩
    | inr q =>
      show -12 ≤ (if q.1 = 0 then (0 : Int) else -12) ∧ (if q.1 = 0 then (0 : Int) else -12) ≤ 0
      split <;> exact ⟨by decide, by decide⟩
theorem rRef_bd (s : Sh) : -12 ≤ rRef s ∧ rRef s ≤ 0 := by
  cases s with
  | none => exact ⟨by decide, by decide⟩
  | some q =>
    cases q with
    | inl q => exact ⟨by show (-12 : Int) ≤ -12; decide, by show (-12 : Int) ≤ 0; decide⟩
    | inr q => exact ⟨by show (-12 : Int) ≤ 0; decide, by show (0 : Int) ≤ 0; decide⟩
