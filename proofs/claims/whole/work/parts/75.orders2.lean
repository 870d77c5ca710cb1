/-! .. a trial in an order -/
abbrev OS : Type := List (Nat × Fo) × Int32 × Nat × Nat
def oNx (s : OS) (n : Nat) (F : Fo) (q : QS) : OS := (if (qH q).isSome then s.1 ++ [(n, F)] else s.1, qZ q, if (qH q).isSome then s.2.2.1 + 1 else s.2.2.1, s.2.2.2 + qA q)
noncomputable def oSt (T : TbS) (P : PS) (s : OS) (v : Int) : OS := oNx s v.toNat (tLo T v) (qRun P s.1 0 s.2.1 1000000 (tLo T v))
noncomputable def oRun (T : TbS) (P : PS) (l : List Int) : OS := l.foldl (oSt T P) (tKL T, 0, 0, 0)
def Oq (ow : Nat → Nat × Nat) (x : Nat) (w : kW) (S : AS) (n : Nat) (pl : Nat → Nat) (s : OS) : Prop := Kc ow x w S ∧ (∃ p d nd, Sr ow x w (x + 61) p d nd s.1 0 s.2.1) ∧ (kI w x 12 = iI s.2.2.1 ∧ kI w x 13 = iI s.2.2.2) ∧ ∀ i, i < n → kI w (Lp w x 11) i = iI (pl i)
theorem Oq.x {ow : Nat → Nat × Nat} {x : Nat} {w : kW} {S : AS} {n : Nat} {pl : Nat → Nat} {s : OS} (h : Oq ow x w S n pl s) : kKd w x = 11 ∧ kP w x 9 = some (x + 61) ∧ kP w x 11 = some (Lp w x 11) ∧ kKd w (Lp w x 11) = 14 ∧ kLn w (Lp w x 11) = 3 ∧ (ow (Lp w x 11)).1 = x ∧ kP w x 0 = some (x + 1) := by
  obtain ⟨⟨hk, ho, hb⟩, hp, ⟨r3, hsh⟩, q1, q2, q3, q4⟩ := h.1.2.1
  exact ⟨hk, hp.2.2.2.2.2.2.2.2.1, q1, q2, q3, by rw [q4], hp.1⟩
/-- a field of the class that isn't its 2nd -/
theorem Oq.xi {ow : Nat → Nat × Nat} {x j : Nat} {w : kW} {S : AS} {n : Nat} {pl : Nat → Nat} {s : OS} (h : Oq ow x w S n pl s) (v : Int32) (s' : OS) (e1 : s'.1 = s.1) (e2 : s'.2.1 = s.2.1) (hj : j ≠ 2) (f1 : kI (kSI w x j v) x 12 = iI s'.2.2.1) (f2 : kI (kSI w x j v) x 13 = iI s'.2.2.2) : Oq ow x (kSI w x j v) S n pl s' ∧ Fr ow ow (Cx x) w (kSI w x j v) ∧ Sq ow (fun z => z = x) w (kSI w x j v) := by
  obtain ⟨hx, h9, h11, q2, q3, q4, h0⟩ := h.x
  obtain ⟨k, ⟨p, d, nd, r⟩, -, hpl⟩ := h
  obtain ⟨a, b, c⟩ := k.xi v hj
  have ne : Lp w x 11 ≠ x := fun e => by rw [e, hx] at q2; omega
  refine ⟨⟨a, ⟨p, d, nd, by rw [e1, e2]; exact r.fr c.fr (fun q h1 h2 => by omega) (fun q h1 => by omega)⟩, ⟨f1, f2⟩, fun i hi => ?_⟩, b, c⟩
  show kI (kSI w x j v) (Lp w x 11) i = _
  rw [kI_SI_o ne]
  exact hpl i hi
theorem oNx_t {s : OS} {n : Nat} {F : Fo} {q : QS} (h : (qH q).isSome = true) : oNx s n F q = (s.1 ++ [(n, F)], qZ q, s.2.2.1 + 1, s.2.2.2 + qA q) := by
  unfold oNx
  rw [if_pos h, if_pos h]
theorem oNx_f {s : OS} {n : Nat} {F : Fo} {q : QS} (h : (qH q).isSome = false) : oNx s n F q = (s.1, qZ q, s.2.2.1, s.2.2.2 + qA q) := by
  unfold oNx
  rw [if_neg (by rw [h]; simp), if_neg (by rw [h]; simp)]
theorem tryOrder_one {ow : Nat → Nat × Nat} {x : Nat} {w : kW} {S : AS} {n : Nat} {pl : Nat → Nat} {s : OS} (h : Oq ow x w S n pl s) {u : List Int} (hu : u ∈ tP (sT S)) {pr : Nat} (hP : Pm ow x w pr u) {v : Int} (hv : I32 v) {F : Fo} (hF : tLn (sT S) v = some F) (hK : s.1.length < 40) (x4 : Option Nat → Option kW) (K : kW → Option kW) :
    ∃ w', ((fX8_lineAt (x + 1) (iI v) w).bind fun v10 =>
  (kgP w 11 (some x) 9).bind fun v11 =>
  (kRc w 5 v11).bind fun b12 =>
  (fX5_look b12 (some pr) v10 (1000000 : Int32) w).bind fun w13 =>
  (kgI w13 11 (some x) 13).bind fun v15 =>
  (kgP w13 11 (some x) 9).bind fun v16 =>
  (kgI w13 5 v16 10).bind fun v17 =>
  (kpI w13 11 (some x) 13 (v15 + v17)).bind fun w18 =>
  (kgP w18 11 (some x) 9).bind fun v19 =>
  (kgI w18 5 v19 12).bind fun v20 =>
  if v20 = 0 then
  K w18
  else
  (kgI w18 11 (some x) 12).bind fun v21 =>
  (kpI w18 11 (some x) 12 (v21 + (1 : Int32))).bind fun w22 =>
  (kgP w22 11 (some x) 9).bind fun v23 =>
  (kRc w22 5 v23).bind fun b24 =>
  (fX5_learn b24 (iI v) v10 w22).bind fun w25 =>
  K w25) = K w' ∧ Oq ow x w' S n pl (oSt (sT S) (pEnd u) s v) ∧ Fr ow ow (Cx x) w w' ∧ Sq ow (fun z => z = x ∨ Vs x z) w w' ∧ (oSt (sT S) (pEnd u) s v).2.2.2 ≤ s.2.2.2 + 100 := by
  obtain ⟨hx, h9, h11, q2, q3, q4, h0⟩ := h.x
  have hO := h
  obtain ⟨k, ⟨p, d, nd, r⟩, ⟨f12, f13⟩, hpl⟩ := h
  obtain ⟨a, e4, g4⟩ := (lineAt_ok k.2.2.1 hv.1 hv.2).2 F hF
  have hu' := k.2.2.1.1.2.2.2.2.2.2 u hu
  obtain ⟨bd, ac⟩ := pEnd_bd hu'.2.2
  have npr : ¬ Vs x pr := fun z => by have := z.2; have := hP.2; omega
  obtain ⟨w3, d3, nd3, e5, s3, S3⟩ := look_ok r npr hP.1 (by have := bd.2.2.2.2.2; omega) bd.2.2.2.2.1 (fun c hc => by rcases ac c hc with h | h | h <;> omega) g4 (deepest := 1000000) (Nat.le_refl _)
  have e5' : fX5_look (x + 61) (some pr) (some a) (1000000 : Int32) w = some w3 := e5
  obtain ⟨k3, f3⟩ := s3.kq k S3
  have eF : tLo (sT S) v = F := by unfold tLo; rw [hF]; rfl
  have r3 := s3.r
  unfold oSt
  rw [eF]
  generalize qRun (pEnd u) s.1 0 s.2.1 1000000 F = q at s3 k3 r3 ⊢
  obtain ⟨hk5, ⟨z6, z10, z12, z13, z17, z18⟩, hg⟩ := k3.q
  have qb : s.2.2.2 + qA q ≤ s.2.2.2 + 100 := by have := s3.2.2.2.2.2.1; have := bd.2.2.2.2.2; omega
  have nVx : ¬ Vs x x := fun z => by have := z.1; omega
  have ox : (ow x).1 = x := by rw [k.2.1.1.2.1]
  obtain ⟨y1, y2, y3⟩ := S3.2.2.2 x (by rw [ox]; exact nVx)
  obtain ⟨y4, y5, y6⟩ := S3.2.2.2 (Lp w x 11) (by rw [q4]; exact nVx)
  have lp3 : Lp w3 x 11 = Lp w x 11 := S3.lp (by rw [ox]; exact nVx) 11
  have O3 : Oq ow x w3 S n pl (s.1, qZ q, s.2.2.1, s.2.2.2) := ⟨k3.1, ⟨p, d3, nd3, r3⟩, ⟨by rw [y1]; exact f12, by rw [y1]; exact f13⟩, fun i hi => by rw [lp3, y4]; exact hpl i hi⟩
  obtain ⟨O4, f4, S4⟩ := O3.xi (j := 13) (iI (s.2.2.2 + qA q : Nat)) (s.1, qZ q, s.2.2.1, s.2.2.2 + qA q) rfl rfl (by omega) (by rw [kI_SI_j (by omega), y1]; exact f12) kI_SI_s
  have S34 : Sq ow (fun z => z = x ∨ Vs x z) w (kSI w3 x 13 (iI (s.2.2.2 + qA q : Nat))) := (S3.wide (fun z hz => Or.inr hz)).tr (S4.wide (fun z hz => Or.inl hz))
  have hk4 : kKd (kSI w3 x 13 (iI (s.2.2.2 + qA q : Nat))) (x + 61) = 5 := by rw [kKd_SI]; exact hk5
  have n61 : x + 61 ≠ x := by omega
  obtain ⟨xx, x9, -⟩ := O4.x
  have ex : kKd w3 x = 11 := k3.1.2.1.1.1
  have run0 : ∀ K : kW → Option kW, (((some (some a)) : Option (Option Nat)).bind fun v10 =>
  (kgP w 11 (some x) 9).bind fun v11 =>
  (kRc w 5 v11).bind fun b12 =>
  (fX5_look b12 (some pr) v10 (1000000 : Int32) w).bind fun w13 =>
  (kgI w13 11 (some x) 13).bind fun v15 =>
  (kgP w13 11 (some x) 9).bind fun v16 =>
  (kgI w13 5 v16 10).bind fun v17 =>
  (kpI w13 11 (some x) 13 (v15 + v17)).bind fun w18 =>
  (kgP w18 11 (some x) 9).bind fun v19 =>
  (kgI w18 5 v19 12).bind fun v20 =>
  if v20 = 0 then
  K w18
  else
  (kgI w18 11 (some x) 12).bind fun v21 =>
  (kpI w18 11 (some x) 12 (v21 + (1 : Int32))).bind fun w22 =>
  (kgP w22 11 (some x) 9).bind fun v23 =>
  (kRc w22 5 v23).bind fun b24 =>
  (fX5_learn b24 (iI v) v10 w22).bind fun w25 =>
  K w25) = if iB (qH q).isSome = 0 then K (kSI w3 x 13 (iI (s.2.2.2 + qA q : Nat))) else
  (fX5_learn (x + 61) (iI v) (some a) (kSI (kSI w3 x 13 (iI (s.2.2.2 + qA q : Nat))) x 12 (iI (s.2.2.1 + 1 : Nat)))).bind fun w25 => K w25 := by
    intro K
    rw [Option.bind_some, kgP_e hx, Option.bind_some, h9, kRc_e r.1.1.1, Option.bind_some, e5', Option.bind_some, kgI_e ex, Option.bind_some, hg, Option.bind_some, kgI_e hk5, Option.bind_some, z10, y1, f13, iI_add, show (s.2.2.2 : Int) + (qA q : Int) = ((s.2.2.2 + qA q : Nat) : Int) by omega, kpI_e ex, Option.bind_some, kgP_e xx, Option.bind_some, x9, kgI_e hk4, Option.bind_some, kI_SI_o n61, z12, kgI_e xx, Option.bind_some, O4.2.2.1.1]
    show _ = _
    rw [iL_1, iI_add, show ((s.1, qZ q, s.2.2.1, s.2.2.2 + qA q) : OS).2.2.1 = s.2.2.1 from rfl, show (s.2.2.1 : Int) + 1 = ((s.2.2.1 + 1 : Nat) : Int) by omega, kpI_e xx, Option.bind_some, kgP_e (show kKd (kSI (kSI w3 x 13 (iI (s.2.2.2 + qA q : Nat))) x 12 (iI (s.2.2.1 + 1 : Nat))) x = 11 from xx), Option.bind_some, show kP (kSI (kSI w3 x 13 (iI (s.2.2.2 + qA q : Nat))) x 12 (iI (s.2.2.1 + 1 : Nat))) x 9 = some (x + 61) from x9, kRc_e (show kKd (kSI (kSI w3 x 13 (iI (s.2.2.2 + qA q : Nat))) x 12 (iI (s.2.2.1 + 1 : Nat))) (x + 61) = 5 from hk4), Option.bind_some]
  rw [e4, run0]
  cases hh : (qH q).isSome with
  | false =>
    rw [if_pos (show iB false = 0 from rfl), oNx_f hh]
    exact ⟨_, rfl, O4, f3.cc f4, S34, qb⟩
  | true =>
    rw [if_neg (show ¬ iB true = 0 by decide +kernel), oNx_t hh]
    obtain ⟨O5, f5, S5⟩ := O4.xi (j := 12) (iI (s.2.2.1 + 1 : Nat)) (s.1, qZ q, s.2.2.1 + 1, s.2.2.2 + qA q) rfl rfl (by omega) kI_SI_s (by rw [kI_SI_j (by omega), kI_SI_s])
    have S35 := S34.tr (S5.wide (fun z hz => Or.inl hz))
    have g5 : Li ow x (kSI (kSI w3 x 13 (iI (s.2.2.2 + qA q : Nat))) x 12 (iI (s.2.2.1 + 1 : Nat))) a F := g4.fr S35.fr (fun z => by have := g4.2.2.2; rcases z with z | z; omega; have := z.2; omega)
    obtain ⟨k5, ⟨p5, d5, nd5, r5⟩, ⟨f512, f513⟩, hpl5⟩ := O5
    have nv : ((v.toNat : Nat) : Int) = v := by have := (tLn_lt hF).1; omega
    obtain ⟨w6, e6, t1, t2, t3, S6, t4⟩ := learn_ok r5.1 r5.2.1 r5.2.2.1 hK g5 v.toNat
    rw [nv] at e6
    have S6' : Sq ow (Vs x) (kSI (kSI w3 x 13 (iI (s.2.2.2 + qA q : Nat))) x 12 (iI (s.2.2.1 + 1 : Nat))) w6 := S6.wide (fun z hz => by rw [hz]; exact ⟨Nat.le_refl _, by omega⟩)
    have r6 : Sr ow x w6 (x + 61) p5 d5 nd5 (s.1 ++ [(v.toNat, F)]) 0 (qZ q) := ⟨t1, t2, t3, by rw [t4 15 (by omega)]; exact r5.2.2.2.1, by rw [t4 16 (by omega)]; exact r5.2.2.2.2.1, by omega, by omega⟩
    obtain ⟨k6, f6⟩ := k5.ss S6' ⟨⟨p5, d5, nd5, r6.1⟩, 0, by omega, by omega, r6.2.2.2.2.1⟩
    obtain ⟨u1, u2, u3⟩ := S6'.2.2.2 x (by rw [ox]; exact nVx)
    have lp5 : Lp (kSI (kSI w3 x 13 (iI (s.2.2.2 + qA q : Nat))) x 12 (iI (s.2.2.1 + 1 : Nat))) x 11 = Lp w x 11 := lp3
    obtain ⟨u4, -, -⟩ := S6'.2.2.2 (Lp w x 11) (by rw [q4]; exact nVx)
    have lp6 : Lp w6 x 11 = Lp w x 11 := (S6'.lp (by rw [ox]; exact nVx) 11).trans lp5
    rw [e6, Option.bind_some]
    refine ⟨w6, rfl, ⟨k6, ⟨p5, d5, nd5, r6⟩, ⟨by rw [u1]; exact f512, by rw [u1]; exact f513⟩, fun i hi => ?_⟩, (f3.cc f4).cc (f5.cc f6), S35.tr (S6'.wide (fun z hz => Or.inr hz)), qb⟩
    rw [lp6, u4]
    have := hpl5 i hi
    rw [lp5] at this
    exact this
