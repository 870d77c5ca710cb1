/-! .. a whole trial; places; the best -/
def pls (l : List Int) (n : Nat) (pl : Nat → Nat) : List Int := (List.range n).map fun i => l.getD (pl i) 0
theorem oFold_len {T : TbS} {P : PS} : ∀ (l : List Int) (s : OS), (l.foldl (oSt T P) s).1.length ≤ s.1.length + l.length := by
  intro l
  induction l with
  | nil => exact fun s => Nat.le_refl _
  | cons v l ih =>
    intro s
    rw [List.foldl_cons, List.length_cons]
    have h1 := ih (oSt T P s v)
    have h2 : (oSt T P s v).1.length ≤ s.1.length + 1 := by
      unfold oSt
      generalize qRun P s.1 0 s.2.1 1000000 (tLo T v) = q
      cases hh : (qH q).isSome with
      | false => rw [oNx_f hh]; exact Nat.le_succ _
      | true => rw [oNx_t hh]; show (s.1 ++ [_]).length ≤ _; rw [List.length_append]; exact Nat.le_refl _
    omega
theorem tryOrder_loop {ow : Nat → Nat × Nat} {x : Nat} {S : AS} {pl : Nat → Nat} {u : List Int} (hu : u ∈ tP (sT S)) {pr : Nat} {sa : Nat} {l : List Int} (hsa : ow sa = (sa, 0)) (hsx : x + 221 ≤ sa) (hl : ∀ v ∈ l, ∃ F, tLn (sT S) v = some F) (hl3 : l.length ≤ 3) (hpl : ∀ i, i < l.length → pl i < l.length) (kont : kW → Option kW) : ∀ (m fu i : Nat) (w : kW) (s : OS), m < fu → i + m = l.length → Oq ow x w S l.length pl s → Pm ow x w pr u → ShO ow x w sa (some (.inr (0, l))) → s.1.length + m ≤ 40 →
    ∃ w', fX11_tryOrder_L32 x (some pr) (some sa) fu (fun _ w => kont w) (iI i) w = kont w' ∧ Oq ow x w' S l.length pl (((pls l l.length pl).drop i).foldl (oSt (sT S) (pEnd u)) s) ∧ Fr ow ow (Cx x) w w' ∧ Sq ow (fun z => z = x ∨ Vs x z) w w' ∧ (((pls l l.length pl).drop i).foldl (oSt (sT S) (pEnd u)) s).2.2.2 ≤ s.2.2.2 + 100 * m := by
  have hp_len : (pls l l.length pl).length = l.length := by unfold pls; rw [List.length_map, List.length_range]
  intro m
  induction m with
  | zero =>
    intro fu i w s hf hi hO hP hsh hK
    obtain ⟨fu, rfl⟩ : ∃ g, fu = g + 1 := ⟨fu - 1, by omega⟩
    have hk2 : kI w sa 2 = iI l.length := hsh.2.2.2.1
    rw [List.drop_eq_nil_of_le (by rw [hp_len]; omega)]
    refine ⟨w, ?_, hO, Fr.rf w, Sq.rf w, Nat.le_refl _⟩
    rw [fX11_tryOrder_L32, kgI_e hsh.1.1, Option.bind_some, hk2, if_pos (by rw [iI_le (by omega) (by omega) (by omega) (by omega)]; omega)]
  | succ m ih =>
    intro fu i w s hf hi hO hP hsh hK
    obtain ⟨fu, rfl⟩ : ∃ g, fu = g + 1 := ⟨fu - 1, by omega⟩
    have hil : i < l.length := by omega
    have hk2 : kI w sa 2 = iI l.length := hsh.2.2.2.1
    obtain ⟨hx, h9, h11, q2, q3, q4, h0⟩ := hO.x
    have hpi := hpl i hil
    have e2 : elV l ((pl i : Nat) : Int) = l.getD (pl i) 0 := by
      unfold elV
      rw [if_pos (by omega), Int.toNat_natCast]
    have hmem : l.getD (pl i) 0 ∈ l := by
      rw [List.getD_eq_getElem?_getD, List.getElem?_eq_getElem hpi]
      exact List.getElem_mem hpi
    have hv : I32 (l.getD (pl i) 0) := (hsh.2.2.2.2.2.2.2 _ hmem).2.2
    obtain ⟨F, hF⟩ := hl _ hmem
    have ed : (pls l l.length pl).drop i = l.getD (pl i) 0 :: (pls l l.length pl).drop (i + 1) := by
      rw [List.drop_eq_getElem_cons (by rw [hp_len]; exact hil)]
      congr 1
      unfold pls
      rw [List.getElem_map, List.getElem_range]
    obtain ⟨w1, e1, O1, f1, S1, B1⟩ := tryOrder_one hO hu hP hv hF (by omega) (fun _ => none) (fun w => fX11_tryOrder_L32 x (some pr) (some sa) fu (fun _ w => kont w) (iI i + 1) w)
    have nsa : ¬ (sa = x ∨ Vs x sa) := fun z => by rcases z with z | z; omega; have := z.2; omega
    have sh1 : ShO ow x w1 sa (some (.inr (0, l))) := hsh.fr S1.fr nsa (fun a ha z => by rcases z with z | z; omega; have := z.2; omega)
    have P1 : Pm ow x w1 pr u := ⟨hP.1.fr S1.fr (fun z => by have := hP.2; rcases z with z | z; omega; have := z.2; omega), hP.2⟩
    have hK1 : (oSt (sT S) (pEnd u) s (l.getD (pl i) 0)).1.length ≤ s.1.length + 1 := oFold_len [l.getD (pl i) 0] s
    obtain ⟨w2, e3, O2, f2, S2, B2⟩ := ih fu (i + 1) w1 _ (by omega) (by omega) O1 P1 sh1 (by omega)
    rw [ed, List.foldl_cons]
    refine ⟨w2, ?_, O2, f1.cc f2, S1.tr S2, by omega⟩
    rw [fX11_tryOrder_L32, kgI_e hsh.1.1, Option.bind_some, hk2, if_neg (by rw [iI_le (by omega) (by omega) (by omega) (by omega)]; omega), if_neg (by rw [iL_3, iI_le (by omega) (by omega) (by omega) (by omega)]; omega), kgP_e hx, Option.bind_some, h11, kaI_e q2 (by omega) (by rw [q3]; omega) (by omega), Option.bind_some, Int.toNat_natCast, hO.2.2.2 i hil, kRc_e hsh.1.1, Option.bind_some, elementAt_ok hsh (by unfold I32; omega), Option.bind_some, e2, top_t hO.1]
    refine e1.trans ?_
    rw [iL_1, iI_add, show (i : Int) + 1 = ((i + 1 : Nat) : Int) by omega]
    exact e3
/-- what the class has laid as places -/
def Op (ow : Nat → Nat × Nat) (x : Nat) (w : kW) (S : AS) (n : Nat) (pl : Nat → Nat) : Prop := Kc ow x w S ∧ ∀ i, i < n → kI w (Lp w x 11) i = iI (pl i)
theorem tryOrder_ok {ow : Nat → Nat × Nat} {x : Nat} {w : kW} {S : AS} {pl : Nat → Nat} {u : List Int} (hu : u ∈ tP (sT S)) {pr : Nat} {sa : Nat} {l : List Int} (hsa : ow sa = (sa, 0)) (hsx : x + 221 ≤ sa) (hpr : prF S [] l = true) (hl3 : l.length ≤ 3) (hpl : ∀ i, i < l.length → pl i < l.length) (hO : Op ow x w S l.length pl) (hP : Pm ow x w pr u) (hsh : ShO ow x w sa (some (.inr (0, l)))) :
    ∃ w', fX11_tryOrder x (some pr) (some sa) w = some w' ∧ Op ow x w' S l.length pl ∧ (kI w' x 12 = iI (oRun (sT S) (pEnd u) (pls l l.length pl)).2.2.1 ∧ kI w' x 13 = iI (oRun (sT S) (pEnd u) (pls l l.length pl)).2.2.2) ∧ Fr ow ow (Cx x) w w' ∧ Sq ow (fun z => z = x ∨ Vs x z) w w' ∧ (oRun (sT S) (pEnd u) (pls l l.length pl)).2.2.2 ≤ 300 := by
  obtain ⟨k, hpl0⟩ := hO
  obtain ⟨rm, hl⟩ := pb_room k.2.2.1.1 hpr
  have hk : kKd w x = 11 := k.2.1.1.1
  have q2 : kKd w (Lp w x 11) = 14 := k.2.1.2.2.2.2.1
  have q4 : (ow (Lp w x 11)).1 = x := by rw [k.2.1.2.2.2.2.2.2]
  have ox : (ow x).1 = x := by rw [k.2.1.1.2.1]
  have ne : Lp w x 11 ≠ x := fun e => by rw [e, hk] at q2; omega
  obtain ⟨k1, f1, S1⟩ := k.xi (j := 12) 0 (by omega)
  obtain ⟨k2, f2, S2⟩ := k1.xi (j := 13) 0 (by omega)
  obtain ⟨w3, p3, d3, nd3, e3, g3, g4, g5, S3, k3, odds, o0, o1, o16⟩ := learned k2
  obtain ⟨w4, e4, r4, S4⟩ := setSlips_ok g3 g4 g5 0 (odds := 0) (by omega) (by omega)
  have e4' : fX5_setSlips (x + 61) 0 0 w3 = some w4 := e4
  have S34 : Sq ow (Vs x) (kSI (kSI w x 12 0) x 13 0) w4 := (S3.tr S4).wide (fun z hz => by rw [hz]; exact ⟨Nat.le_refl _, by omega⟩)
  obtain ⟨k4, f4⟩ := k2.ss S34 ⟨⟨p3, d3, nd3, r4.1⟩, 0, by omega, by omega, r4.2.2.2.2.1⟩
  have nVx : ¬ Vs x x := fun z => by have := z.1; omega
  obtain ⟨u1, u2, u3⟩ := S34.2.2.2 x (by rw [ox]; exact nVx)
  obtain ⟨u4, -, -⟩ := S34.2.2.2 (Lp w x 11) (by rw [q4]; exact nVx)
  have lp4 : Lp w4 x 11 = Lp w x 11 := S34.lp (by rw [ox]; exact nVx) 11
  have Sq4 : Sq ow (fun z => z = x ∨ Vs x z) w w4 := ((S1.tr S2).wide (fun z hz => Or.inl hz)).tr (S34.wide (fun z hz => Or.inr hz))
  have O4 : Oq ow x w4 S l.length pl (tKL (sT S), 0, 0, 0) := by
    refine ⟨k4, ⟨p3, d3, nd3, r4⟩, ⟨?_, ?_⟩, fun i hi => ?_⟩
    · rw [u1, kI_SI_j (by omega), kI_SI_s]; rfl
    · rw [u1, kI_SI_s]; rfl
    · rw [lp4, u4]
      show kI (kSI (kSI w x 12 0) x 13 0) (Lp w x 11) i = _
      rw [kI_SI_o ne, kI_SI_o ne]
      exact hpl0 i hi
  have nsa : ¬ (sa = x ∨ Vs x sa) := fun z => by rcases z with z | z; omega; have := z.2; omega
  have sh4 : ShO ow x w4 sa (some (.inr (0, l))) := hsh.fr Sq4.fr nsa (fun a ha z => by rcases z with z | z; omega; have := z.2; omega)
  have P4 : Pm ow x w4 pr u := ⟨hP.1.fr Sq4.fr (fun z => by have := hP.2; rcases z with z | z; omega; have := z.2; omega), hP.2⟩
  obtain ⟨w5, e5, O5, f5, S5, B5⟩ := tryOrder_loop hu hsa hsx hl hl3 hpl (fun w => some w) l.length kFU 0 w4 (tKL (sT S), 0, 0, 0) (by unfold kFU; omega) (by omega) O4 P4 sh4 (by rw [show ((tKL (sT S), (0 : Int32), 0, 0) : OS).1 = tKL (sT S) from rfl, tKL_len]; omega)
  rw [List.drop_zero] at O5 B5
  have B6 : (oRun (sT S) (pEnd u) (pls l l.length pl)).2.2.2 ≤ 0 + 100 * l.length := B5
  refine ⟨w5, ?_, ⟨O5.1, O5.2.2.2⟩, O5.2.2.1, ((f1.cc f2).cc f4).cc f5, Sq4.tr S5, by omega⟩
  have hs0 := k2.2.2.2.2.2.2.2.2.2.2.1.1
  obtain ⟨p0, d0, nd0, hs0⟩ := hs0
  rw [fX11_tryOrder, kpI_e hk, Option.bind_some, kpI_e k1.2.1.1.1, Option.bind_some, kgP_e k2.2.1.1.1, Option.bind_some, k2.2.1.2.1.2.2.2.2.2.2.2.2.1, kgP_e k2.2.1.1.1, Option.bind_some, k2.2.1.2.1.1, kRc_e hs0.1.1, Option.bind_some, e3, Option.bind_some, kgP_e k3.2.1.1.1, Option.bind_some, k3.2.1.2.1.2.2.2.2.2.2.2.2.1, kRc_e g3.1.1, Option.bind_some, e4', Option.bind_some]
  exact e5
