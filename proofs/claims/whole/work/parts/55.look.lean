/-! A RUN, whole: acts on a need, needs in order -/
noncomputable def qAct (lk : Bool) (st : Nat) (odds : Int) (c : Nat) (F : Fo) (dd num : Nat) (G : Fo) (q : QS) : QS := if c = 109 then qMa lk st odds F dd num G q else if c = 100 then qBa lk st F dd G q else qBe lk st dd F G (qAh lk st dd F G q)
noncomputable def qKs (lk : Bool) (st : Nat) (odds : Int) (c : Nat) (F : Fo) (dd : Nat) : List (Nat × Fo) → QS → QS
  | [], q => q
  | e :: l, q => if qO q then q else qKs lk st odds c F dd l (qAct lk st odds c F dd e.1 e.2 q)
noncomputable def qAs (lk : Bool) (st : Nat) (odds : Int) (K : List (Nat × Fo)) (F : Fo) (dd : Nat) : List Nat → QS → QS
  | [], q => q
  | c :: l, q => if qO q then q else qAs lk st odds K F dd l (qKs lk st odds c F dd K q)
noncomputable def qNs (lk : Bool) (st : Nat) (odds : Int) (K : List (Nat × Fo)) (acts : List Nat) (deepest : Nat) : Nat → Nat → QS → QS
  | 0, _, q => q
  | m + 1, i, q => if qO q then q else match (qN q)[i]? with
    | none => q
    | some e => qNs lk st odds K acts deepest m (i + 1) (if e.2 < deepest then qAs lk st odds K e.1 e.2 acts q else q)
def qQ0 (F : Fo) (z : Int32) : QS := qMk [(F, 0)] 0 false none z 0 0
noncomputable def qRun (P : PS) (K : List (Nat × Fo)) (odds : Int) (z : Int32) (deepest : Nat) (F : Fo) : QS := qNs (psL P) (psS P) odds (K.drop (K.length - psN P)) (psA P) deepest 24 0 (qQ0 F z)
/-- depths are no more than places -/
def qD (N : List (Fo × Nat)) : Prop := ∀ (j : Nat) (F : Fo) (d : Nat), N[j]? = some (F, d) → d ≤ j
def gP (N N' : List (Fo × Nat)) : Prop := (∃ L, N' = N ++ L) ∧ (qD N → qD N')
theorem gP.rf (N : List (Fo × Nat)) : gP N N := ⟨⟨[], by simp⟩, fun h => h⟩
theorem gP.tr {N N1 N2 : List (Fo × Nat)} (h1 : gP N N1) (h2 : gP N1 N2) : gP N N2 := by
  obtain ⟨⟨L1, e1⟩, g1⟩ := h1
  obtain ⟨⟨L2, e2⟩, g2⟩ := h2
  exact ⟨⟨L1 ++ L2, by rw [e2, e1, List.append_assoc]⟩, fun h => g2 (g1 h)⟩
theorem gP.at {N N1 : List (Fo × Nat)} (h : gP N N1) {n : Nat} {e : Fo × Nat} (hn : N[n]? = some e) : N1[n]? = some e := by
  obtain ⟨⟨L, e1⟩, -⟩ := h
  rw [e1, List.getElem?_append_left (List.getElem?_eq_some_iff.mp hn).1]
  exact hn
theorem qDn_N (lk : Bool) (st : Nat) (like : Bool) (q : QS) : qN (qDn lk st like q).2 = qN q := by
  unfold qDn
  split
  · rfl
  · split <;> rfl
theorem qM2_N (c s : Bool) (d num : Nat) (t : QS) : qN (qM2 c s d num t) = qN t := by
  unfold qM2
  cases c <;> cases s <;> rfl
theorem qMa_N (lk : Bool) (st : Nat) (odds : Int) (F : Fo) (d num : Nat) (G : Fo) (q : QS) : qN (qMa lk st odds F d num G q) = qN q := by
  unfold qMa
  dsimp only
  split
  · rw [qM2_N, qSl_N, qDn_N]
  · rw [qDn_N]
theorem qOf_g {d : Nat} {D : Fo} {q : QS} (hd : d < (qN q).length) : gP (qN q) (qN (qOf d D q)) := by
  unfold qOf
  split
  · exact gP.rf _
  · split
    · exact gP.rf _
    · refine ⟨⟨[(D, d + 1)], rfl⟩, fun h j F e he => ?_⟩
      have he' : (qN q ++ [(D, d + 1)])[j]? = some (F, e) := he
      by_cases hj : j < (qN q).length
      · rw [List.getElem?_append_left hj] at he'
        exact h j F e he'
      · rw [List.getElem?_append_right (by omega)] at he'
        have hj2 : j - (qN q).length = 0 := by
          have := (List.getElem?_eq_some_iff.mp he').1
          rw [List.length_singleton] at this
          omega
        rw [hj2] at he'
        have : d + 1 = e := by simpa using congrArg (fun o => o.map Prod.snd) he'
        omega
theorem qBa_g {lk : Bool} {st : Nat} {F G : Fo} {d : Nat} {q : QS} (hd : d < (qN q).length) : gP (qN q) (qN (qBa lk st F d G q)) := by
  cases G with
  | sub u v =>
    have eq : qBa lk st F d (.sub u v) q = if (qDn lk st (fLike F v) q).1 then (match fMt v F σ0 with | some σ => qOf d (fSb σ u) (qDn lk st (fLike F v) q).2 | none => (qDn lk st (fLike F v) q).2) else (qDn lk st (fLike F v) q).2 := rfl
    have hN := qDn_N lk st (fLike F v) q
    rw [eq]
    split
    · split
      · rw [← hN]
        exact qOf_g (by rw [hN]; exact hd)
      · rw [hN]; exact gP.rf _
    · rw [hN]; exact gP.rf _
  | _ => exact gP.rf _
theorem qAh_g {lk : Bool} {st : Nat} {F G : Fo} {d : Nat} {q : QS} (hd : d < (qN q).length) : gP (qN q) (qN (qAh lk st d F G q)) := by
  cases F with
  | sub y z =>
    cases G with
    | sub u v =>
      have eq : qAh lk st d (.sub y z) (.sub u v) q = if (qDn lk st (fLike y u) q).1 then (match fMt u y σ0 with | some σ => qOf d (.sub (fSb σ v) z) (qDn lk st (fLike y u) q).2 | none => (qDn lk st (fLike y u) q).2) else (qDn lk st (fLike y u) q).2 := rfl
      have hN := qDn_N lk st (fLike y u) q
      rw [eq]
      split
      · split
        · rw [← hN]
          exact qOf_g (by rw [hN]; exact hd)
        · rw [hN]; exact gP.rf _
      · rw [hN]; exact gP.rf _
    | _ => exact gP.rf _
  | _ => exact gP.rf _
theorem qBe_g {lk : Bool} {st : Nat} {F G : Fo} {d : Nat} {q : QS} (hd : d < (qN q).length) : gP (qN q) (qN (qBe lk st d F G q)) := by
  cases F with
  | sub y z =>
    cases G with
    | sub u v =>
      have eq : qBe lk st d (.sub y z) (.sub u v) q = if (qDn lk st (fLike z v) q).1 then (match fMt v z σ0 with | some σ => qOf d (.sub y (fSb σ u)) (qDn lk st (fLike z v) q).2 | none => (qDn lk st (fLike z v) q).2) else (qDn lk st (fLike z v) q).2 := rfl
      have hN := qDn_N lk st (fLike z v) q
      rw [eq]
      split
      · split
        · rw [← hN]
          exact qOf_g (by rw [hN]; exact hd)
        · rw [hN]; exact gP.rf _
      · rw [hN]; exact gP.rf _
    | _ => exact gP.rf _
  | _ => exact gP.rf _
theorem gP.len {N N1 : List (Fo × Nat)} (h : gP N N1) : N.length ≤ N1.length := by
  obtain ⟨⟨L, e1⟩, -⟩ := h
  rw [e1, List.length_append]
  omega
theorem qAct_g {lk : Bool} {st : Nat} {odds : Int} {c d num : Nat} {F G : Fo} {q : QS} (hd : d < (qN q).length) : gP (qN q) (qN (qAct lk st odds c F d num G q)) := by
  unfold qAct
  split
  · rw [qMa_N]; exact gP.rf _
  · split
    · exact qBa_g hd
    · have g1 := qAh_g (lk := lk) (st := st) (F := F) (G := G) hd
      exact g1.tr (qBe_g (Nat.lt_of_lt_of_le hd g1.len))
theorem qKs_g {lk : Bool} {st : Nat} {odds : Int} {c d : Nat} {F : Fo} : ∀ (l : List (Nat × Fo)) (q : QS), d < (qN q).length → gP (qN q) (qN (qKs lk st odds c F d l q)) := by
  intro l
  induction l with
  | nil => exact fun q _ => gP.rf _
  | cons e l ih =>
    intro q hd
    have eq : qKs lk st odds c F d (e :: l) q = if qO q then q else qKs lk st odds c F d l (qAct lk st odds c F d e.1 e.2 q) := rfl
    rw [eq]
    split
    · exact gP.rf _
    · have g1 := qAct_g (lk := lk) (st := st) (odds := odds) (c := c) (num := e.1) (F := F) (G := e.2) hd
      exact g1.tr (ih _ (Nat.lt_of_lt_of_le hd g1.len))
theorem qAs_g {lk : Bool} {st : Nat} {odds : Int} {K : List (Nat × Fo)} {d : Nat} {F : Fo} : ∀ (l : List Nat) (q : QS), d < (qN q).length → gP (qN q) (qN (qAs lk st odds K F d l q)) := by
  intro l
  induction l with
  | nil => exact fun q _ => gP.rf _
  | cons c l ih =>
    intro q hd
    have eq : qAs lk st odds K F d (c :: l) q = if qO q then q else qAs lk st odds K F d l (qKs lk st odds c F d K q) := rfl
    rw [eq]
    split
    · exact gP.rf _
    · have g1 := qKs_g (lk := lk) (st := st) (odds := odds) (c := c) (F := F) K q hd
      exact g1.tr (ih _ (Nat.lt_of_lt_of_le hd g1.len))
/-! the class's loops -/
theorem look_k {ow : Nat → Nat × Nat} {x s p : Nat} {K : List (Nat × Fo)} {lk : Bool} {st : Nat} {odds : Int} (x1 x2 : Option Nat) (x3 x4 x6 : Int32) {n dd c : Nat} {F : Fo} (hc : c < 128) (kont : kW → Option kW) : ∀ (m fu k : Nat) (w : kW) (d : Nat) (nd : Nat → Nat) (q : QS), m < fu → k + m = K.length → Ss ow x w s p d nd K lk st odds q → (qN q)[n]? = some (F, dd) → dd < (qN q).length →
    ∃ w' d' nd', fX5_look_L101 s x1 x2 x3 x4 (iI n) x6 (iI c) fu (fun _ q => kont q) (iI k) w = kont w' ∧ Ss ow x w' s p d' nd' K lk st odds (qKs lk st odds c F dd (K.drop k) q) ∧ Sq ow (Vs x) w w' := by
  intro m
  induction m with
  | zero =>
    intro fu k w d nd q hf hk h hn hd
    obtain ⟨fu, rfl⟩ : ∃ z, fu = z + 1 := ⟨fu - 1, by omega⟩
    have k40 := h.2.1.1
    have f7 := h.2.2.2.1.1.2.1
    refine ⟨w, d, nd, ?_, ?_, Sq.rf w⟩
    · rw [fX5_look_L101, kgI_e h.1.1.1, Option.bind_some, f7, if_pos (by rw [iI_le (by omega) (by omega) (by omega) (by omega)]; omega)]
    · rw [List.drop_eq_nil_of_le (by omega)]; exact h
  | succ m ih =>
    intro fu k w d nd q hf hk h hn hd
    obtain ⟨fu, rfl⟩ : ∃ z, fu = z + 1 := ⟨fu - 1, by omega⟩
    have k40 := h.2.1.1
    have f7 := h.2.2.2.1.1.2.1
    have f11 := h.2.2.2.1.1.2.2.2.2.2
    have hlt : k < K.length := by omega
    have hdr : K.drop k = K[k] :: K.drop (k + 1) := List.drop_eq_getElem_cons hlt
    have hKk : K[k]? = some (K[k].1, K[k].2) := List.getElem?_eq_getElem hlt
    have hks := h.1.1.1
    have eq : qKs lk st odds c F dd (K[k] :: K.drop (k + 1)) q = if qO q then q else qKs lk st odds c F dd (K.drop (k + 1)) (qAct lk st odds c F dd K[k].1 K[k].2 q) := rfl
    rw [hdr, eq, fX5_look_L101, kgI_e hks, Option.bind_some, f7, if_neg (by rw [iI_le (by omega) (by omega) (by omega) (by omega)]; omega), if_neg (by rw [iL_40, iI_le (by omega) (by omega) (by omega) (by omega)]; omega), kgI_e hks, Option.bind_some, f11]
    cases hO : qO q with
    | true =>
      rw [if_neg (show ¬ iB true = 0 by decide +kernel), if_pos rfl]
      exact ⟨w, d, nd, rfl, h, Sq.rf w⟩
    | false =>
      rw [if_pos (show iB false = 0 from rfl), if_neg Bool.false_ne_true]
      obtain ⟨⟨-, -, r0, r1, r2, r3⟩, -⟩ := id h.1
      obtain ⟨pn, -, -, n24, -⟩ := h.need hn
      obtain ⟨a, pk, hLi, hnum, -⟩ := h.know hKk
      have g1 := qAct_g (lk := lk) (st := st) (odds := odds) (c := c) (num := K[k].1) (F := F) (G := K[k].2) hd
      have gn := g1.at hn
      have gd := Nat.lt_of_lt_of_le hd g1.len
      have step : ∀ (w1 : kW) (d1 : Nat) (nd1 : Nat → Nat), Ss ow x w1 s p d1 nd1 K lk st odds (qAct lk st odds c F dd K[k].1 K[k].2 q) → Sq ow (Vs x) w w1 → ∃ w' d' nd', fX5_look_L101 s x1 x2 x3 x4 (iI n) x6 (iI c) fu (fun _ q => kont q) (iI k + (1 : Int32)) w1 = kont w' ∧ Ss ow x w' s p d' nd' K lk st odds (qKs lk st odds c F dd (K.drop (k + 1)) (qAct lk st odds c F dd K[k].1 K[k].2 q)) ∧ Sq ow (Vs x) w w' := by
        intro w1 d1 nd1 h1 S1
        obtain ⟨w', d', nd', e', h', S'⟩ := ih fu (k + 1) w1 d1 nd1 _ (by omega) (by omega) h1 gn gd
        refine ⟨w', d', nd', ?_, h', S1.tr S'⟩
        rw [iL_1, iI_add]
        exact e'
      by_cases c1 : c = 109
      · obtain ⟨w1, e1, h1, S1⟩ := tryMatch_ok h hn hKk
        have eA : qAct lk st odds c F dd K[k].1 K[k].2 q = qMa lk st odds F dd K[k].1 K[k].2 q := if_pos c1
        rw [← eA] at h1
        rw [if_pos (by rw [c1]; decide +kernel), kRc_e hks, Option.bind_some, e1, Option.bind_some]
        exact step w1 d nd h1 S1
      · have ld : ∀ (w1 : kW) (d1 : Nat) (nd1 : Nat → Nat) (q1 : QS), Ss ow x w1 s p d1 nd1 K lk st odds q1 → (qN q1)[n]? = some (F, dd) → ∃ a1, (∀ {α : Type} (f : Option Nat → Option Nat → Option α), ((kgP w1 5 (some s) 0).bind fun v17 => (kaP w1 16 v17 (iI n)).bind fun v18 => (kgP w1 5 (some s) 2).bind fun v19 => (kaP w1 16 v19 (iI k)).bind fun v20 => f v18 v20) = f (some (nd1 n)) (some a1)) ∧ Li ow x w1 a1 K[k].2 ∧ kKd w1 s = 5 := by
          intro w1 d1 nd1 q1 h1 hn1
          obtain ⟨⟨z5, -, z0, z1, z2, z3⟩, -⟩ := id h1.1
          obtain ⟨pn1, -⟩ := h1.need hn1
          obtain ⟨a1, pk1, hLi1, -⟩ := h1.know hKk
          refine ⟨a1, fun f => ?_, hLi1, z5⟩
          rw [kgP_e z5, Option.bind_some, z0.1, kaP_e z0.2.1 (by omega) (by rw [z0.2.2.1]; omega) (by rw [z0.2.2.1]; omega), Option.bind_some, Int.toNat_natCast, pn1, kgP_e z5, Option.bind_some, z2.1, kaP_e z2.2.1 (by omega) (by rw [z2.2.2.1]; omega) (by rw [z2.2.2.1]; omega), Option.bind_some, Int.toNat_natCast, pk1]
        rw [if_neg (by rw [iL_109, iI_eq (by omega) (by omega) (by omega) (by omega)]; omega)]
        obtain ⟨a1, l1, hLi1, -⟩ := ld w d nd q h hn
        by_cases c2 : c = 100
        · obtain ⟨w1, d1, nd1, e1, h1, S1⟩ := tryBack_ok h hn hLi1
          have eA : qAct lk st odds c F dd K[k].1 K[k].2 q = qBa lk st F dd K[k].2 q := (if_neg c1).trans (if_pos c2)
          rw [← eA] at h1
          rw [if_pos (by rw [c2]; decide +kernel), l1 (fun v18 v20 => (kRc w 5 (some s)).bind fun b21 => (fX5_tryBack b21 (iI n) v18 v20 w).bind fun w22 => fX5_look_L101 s x1 x2 x3 x4 (iI n) x6 (iI c) fu (fun _ q => kont q) (iI k + (1 : Int32)) w22), kRc_e hks, Option.bind_some, e1, Option.bind_some]
          exact step w1 d1 nd1 h1 S1
        · obtain ⟨w1, d1, nd1, e1, h1, S1⟩ := tryAhead_ok h hn hLi1
          have gA := (qAh_g (lk := lk) (st := st) (F := F) (G := K[k].2) hd).at hn
          obtain ⟨a2, l2, hLi2, hk2⟩ := ld w1 d1 nd1 _ h1 gA
          obtain ⟨w2, d2, nd2, e2, h2, S2⟩ := tryBehind_ok h1 gA hLi2
          have eA : qAct lk st odds c F dd K[k].1 K[k].2 q = qBe lk st dd F K[k].2 (qAh lk st dd F K[k].2 q) := (if_neg c1).trans (if_neg c2)
          rw [← eA] at h2
          rw [if_neg (by rw [iL_100, iI_eq (by omega) (by omega) (by omega) (by omega)]; omega), l1 (fun v4 v6 => (kRc w 5 (some s)).bind fun b7 => (fX5_tryChainAhead b7 (iI n) v4 v6 w).bind fun w8 => (kgP w8 5 (some s) 0).bind fun v10 => (kaP w8 16 v10 (iI n)).bind fun v11 => (kgP w8 5 (some s) 2).bind fun v12 => (kaP w8 16 v12 (iI k)).bind fun v13 => (kRc w8 5 (some s)).bind fun b14 => (fX5_tryChainBehind b14 (iI n) v11 v13 w8).bind fun w15 => fX5_look_L101 s x1 x2 x3 x4 (iI n) x6 (iI c) fu (fun _ q => kont q) (iI k + (1 : Int32)) w15), kRc_e hks, Option.bind_some, e1, Option.bind_some, l2 (fun v11 v13 => (kRc w1 5 (some s)).bind fun b14 => (fX5_tryChainBehind b14 (iI n) v11 v13 w1).bind fun w15 => fX5_look_L101 s x1 x2 x3 x4 (iI n) x6 (iI c) fu (fun _ q => kont q) (iI k + (1 : Int32)) w15), kRc_e hk2, Option.bind_some, e2, Option.bind_some]
          exact step w2 d2 nd2 h2 (S1.tr S2)
theorem look_a {ow : Nat → Nat × Nat} {x s p : Nat} {K : List (Nat × Fo)} {lk : Bool} {st : Nat} {odds : Int} (x2 : Option Nat) (x3 : Int32) {n dd pr cap first : Nat} {F : Fo} {P : PS} (hpr : ¬ Vs x pr) (hac : ∀ c ∈ psA P, c < 128) (hfi : first ≤ K.length) (kont : kW → Option kW) : ∀ (m fu i : Nat) (w : kW) (d : Nat) (nd : Nat → Nat) (q : QS), m < fu → i + m = (psA P).length → Ss ow x w s p d nd K lk st odds q → Pq ow w pr cap P → (qN q)[n]? = some (F, dd) → dd < (qN q).length →
    ∃ w' d' nd', fX5_look_L73 s (some pr) x2 x3 (iI first) (iI n) fu (fun _ q => kont q) (iI i) w = kont w' ∧ Ss ow x w' s p d' nd' K lk st odds (qAs lk st odds (K.drop first) F dd ((psA P).drop i) q) ∧ Sq ow (Vs x) w w' := by
  intro m
  induction m with
  | zero =>
    intro fu i w d nd q hf hi h hP hn hd
    obtain ⟨fu, rfl⟩ : ∃ z, fu = z + 1 := ⟨fu - 1, by omega⟩
    have hlen := hP.2.1
    have hcap := hP.1.2.2.1
    refine ⟨w, d, nd, ?_, ?_, Sq.rf w⟩
    · rw [fX5_look_L73, kgI_e hP.1.1, Option.bind_some, hP.2.2.1.1, if_pos (by rw [iI_le (by omega) (by omega) (by omega) (by omega)]; omega)]
    · rw [List.drop_eq_nil_of_le (show (psA P).length ≤ i by omega)]; exact h
  | succ m ih =>
    intro fu i w d nd q hf hi h hP hn hd
    obtain ⟨fu, rfl⟩ : ∃ z, fu = z + 1 := ⟨fu - 1, by omega⟩
    have hlen := hP.2.1
    have hcap := hP.1.2.2.1
    have f11 := h.2.2.2.1.1.2.2.2.2.2
    have hlt : i < (psA P).length := by omega
    have hks := h.1.1.1
    have hdr : (psA P).drop i = (psA P)[i] :: (psA P).drop (i + 1) := List.drop_eq_getElem_cons hlt
    have eq : qAs lk st odds (K.drop first) F dd ((psA P)[i] :: (psA P).drop (i + 1)) q = if qO q then q else qAs lk st odds (K.drop first) F dd ((psA P).drop (i + 1)) (qKs lk st odds (psA P)[i] F dd (K.drop first) q) := rfl
    rw [hdr, eq, fX5_look_L73, kgI_e hP.1.1, Option.bind_some, hP.2.2.1.1, if_neg (by rw [iI_le (by omega) (by omega) (by omega) (by omega)]; omega), kgI_e hks, Option.bind_some, f11]
    cases hO : qO q with
    | true =>
      rw [if_neg (show ¬ iB true = 0 by decide +kernel), if_pos rfl]
      exact ⟨w, d, nd, rfl, h, Sq.rf w⟩
    | false =>
      rw [if_pos (show iB false = 0 from rfl), if_neg Bool.false_ne_true, kRc_e hP.1.1, Option.bind_some, actAt_ok hP hlt, Option.bind_some]
      have k40 := h.2.1.1
      obtain ⟨w1, d1, nd1, e1, h1, S1⟩ := look_k (some pr) x2 x3 (iI first) (iI i) (hac _ (List.getElem_mem hlt)) (fun w7 => fX5_look_L73 s (some pr) x2 x3 (iI first) (iI n) fu (fun _ q => kont q) (iI i + (1 : Int32)) w7) (K.length - first) kFU first w d nd q (by unfold kFU; omega) (by omega) h hn hd
      have g1 := qKs_g (lk := lk) (st := st) (odds := odds) (c := (psA P)[i]) (F := F) (K.drop first) q hd
      obtain ⟨w2, d2, nd2, e2, h2, S2⟩ := ih fu (i + 1) w1 d1 nd1 _ (by omega) (by omega) h1 (hP.fr S1.fr hpr) (g1.at hn) (Nat.lt_of_lt_of_le hd g1.len)
      refine ⟨w2, d2, nd2, ?_, h2, S1.tr S2⟩
      refine e1.trans ?_
      rw [iL_1, iI_add]
      exact e2
theorem look_n {ow : Nat → Nat × Nat} {x s p : Nat} {K : List (Nat × Fo)} {lk : Bool} {st : Nat} {odds : Int} (x2 : Option Nat) {pr cap first deepest : Nat} {P : PS} (hde : deepest ≤ 1000000) (hpr : ¬ Vs x pr) (hac : ∀ c ∈ psA P, c < 128) (hfi : first ≤ K.length) (kont : kW → Option kW) : ∀ (m fu i : Nat) (w : kW) (d : Nat) (nd : Nat → Nat) (q : QS), m < fu → i + m = 24 → Ss ow x w s p d nd K lk st odds q → Pq ow w pr cap P → qD (qN q) →
    ∃ w' d' nd', fX5_look_L33 s (some pr) x2 (iI deepest) (iI first) fu (fun _ q => kont q) (iI i) w = kont w' ∧ Ss ow x w' s p d' nd' K lk st odds (qNs lk st odds (K.drop first) (psA P) deepest m i q) ∧ Sq ow (Vs x) w w' := by
  intro m
  induction m with
  | zero =>
    intro fu i w d nd q hf hi h hP hD
    obtain ⟨fu, rfl⟩ : ∃ z, fu = z + 1 := ⟨fu - 1, by omega⟩
    refine ⟨w, d, nd, ?_, h, Sq.rf w⟩
    rw [fX5_look_L33, if_pos (by rw [iL_24, iI_le (by omega) (by omega) (by omega) (by omega)]; omega)]
  | succ m ih =>
    intro fu i w d nd q hf hi h hP hD
    obtain ⟨fu, rfl⟩ : ∃ z, fu = z + 1 := ⟨fu - 1, by omega⟩
    have hl24 := h.2.2.1.1
    have hks := h.1.1.1
    have f6 := h.2.2.2.1.1.1
    have f11 := h.2.2.2.1.1.2.2.2.2.2
    have eq : qNs lk st odds (K.drop first) (psA P) deepest (m + 1) i q = if qO q then q else match (qN q)[i]? with | none => q | some e => qNs lk st odds (K.drop first) (psA P) deepest m (i + 1) (if e.2 < deepest then qAs lk st odds (K.drop first) e.1 e.2 (psA P) q else q) := rfl
    rw [eq, fX5_look_L33, if_neg (by rw [iL_24, iI_le (by omega) (by omega) (by omega) (by omega)]; omega), kgI_e hks, Option.bind_some, f6]
    by_cases c1 : (qN q).length ≤ i
    · rw [if_pos (by rw [iI_le (by omega) (by omega) (by omega) (by omega)]; omega), List.getElem?_eq_none c1]
      have e9 : (if qO q then q else match (none : Option (Fo × Nat)) with | none => q | some e => qNs lk st odds (K.drop first) (psA P) deepest m (i + 1) (if e.2 < deepest then qAs lk st odds (K.drop first) e.1 e.2 (psA P) q else q)) = q := by split <;> rfl
      rw [e9]
      exact ⟨w, d, nd, rfl, h, Sq.rf w⟩
    · rw [if_neg (by rw [iI_le (by omega) (by omega) (by omega) (by omega)]; omega), kgI_e hks, Option.bind_some, f11]
      cases hO : qO q with
      | true =>
        rw [if_neg (show ¬ iB true = 0 by decide +kernel), if_pos rfl]
        exact ⟨w, d, nd, rfl, h, Sq.rf w⟩
      | false =>
        have hlt : i < (qN q).length := by omega
        have hn : (qN q)[i]? = some ((qN q)[i].1, (qN q)[i].2) := List.getElem?_eq_getElem hlt
        obtain ⟨⟨-, -, r0, r1, r2, r3⟩, -⟩ := id h.1
        obtain ⟨pn, -, hdep, n24, -⟩ := h.need hn
        have hdi := hD i _ _ hn
        rw [if_pos (show iB false = 0 from rfl), if_neg Bool.false_ne_true, kgP_e hks, Option.bind_some, r1.1, kaI_e r1.2.1 (by omega) (by rw [r1.2.2.1]; omega) (by rw [r1.2.2.1]; omega), Option.bind_some, Int.toNat_natCast, hdep, hn]
        show ∃ w' d' nd', _ ∧ Ss ow x w' s p d' nd' K lk st odds (qNs lk st odds (K.drop first) (psA P) deepest m (i + 1) (if (qN q)[i].2 < deepest then qAs lk st odds (K.drop first) (qN q)[i].1 (qN q)[i].2 (psA P) q else q)) ∧ _
        by_cases c2 : (qN q)[i].2 < deepest
        · rw [if_pos (by rw [iI_lt (by omega) (by omega) (by omega) (by omega)]; omega), if_pos c2]
          have hlen := hP.2.1
          have hcap := hP.1.2.2.1
          obtain ⟨w1, d1, nd1, e1, h1, S1⟩ := look_a x2 (iI deepest) hpr hac hfi (fun w6 => fX5_look_L33 s (some pr) x2 (iI deepest) (iI first) fu (fun _ q => kont q) (iI i + (1 : Int32)) w6) (psA P).length kFU 0 w d nd q (by unfold kFU; omega) (by omega) h hP hn (by omega)
          rw [List.drop_zero] at h1
          have g1 := qAs_g (lk := lk) (st := st) (odds := odds) (K := K.drop first) (F := (qN q)[i].1) (psA P) q (d := (qN q)[i].2) (by omega)
          obtain ⟨w2, d2, nd2, e2, h2, S2⟩ := ih fu (i + 1) w1 d1 nd1 _ (by omega) (by omega) h1 (hP.fr S1.fr hpr) (g1.2 hD)
          refine ⟨w2, d2, nd2, ?_, h2, S1.tr S2⟩
          have e0 : (0 : Int32) = iI ((0 : Nat) : Int) := by decide +kernel
          rw [e0]
          refine e1.trans ?_
          rw [iL_1, iI_add]
          exact e2
        · rw [if_neg (by rw [iI_lt (by omega) (by omega) (by omega) (by omega)]; omega), if_neg c2, iL_1, iI_add]
          exact ih fu (i + 1) w d nd q (by omega) (by omega) h hP hD
