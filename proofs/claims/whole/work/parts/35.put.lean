/-! WHAT IS PUT -/
/-- nothing but what S owns has changed -/
def Sq (ow : Nat → Nat × Nat) (S : Nat → Prop) (w w' : kW) : Prop := kKd w' = kKd w ∧ kLn w' = kLn w ∧ kSz w' = kSz w ∧ ∀ b, ¬ S (ow b).1 → kI w' b = kI w b ∧ kP w' b = kP w b ∧ kJ w' b = kJ w b
theorem Sq.rf {ow : Nat → Nat × Nat} {S : Nat → Prop} (w : kW) : Sq ow S w w := ⟨rfl, rfl, rfl, fun _ _ => ⟨rfl, rfl, rfl⟩⟩
theorem Sq.tr {ow : Nat → Nat × Nat} {S : Nat → Prop} {w w1 w2 : kW} (h1 : Sq ow S w w1) (h2 : Sq ow S w1 w2) : Sq ow S w w2 :=
  ⟨h2.1.trans h1.1, h2.2.1.trans h1.2.1, h2.2.2.1.trans h1.2.2.1, fun b hb => ⟨(h2.2.2.2 b hb).1.trans (h1.2.2.2 b hb).1, (h2.2.2.2 b hb).2.1.trans (h1.2.2.2 b hb).2.1, (h2.2.2.2 b hb).2.2.trans (h1.2.2.2 b hb).2.2⟩⟩
theorem Sq.wide {ow : Nat → Nat × Nat} {S S' : Nat → Prop} {w w1 : kW} (h : Sq ow S w w1) (hS : ∀ a, S a → S' a) : Sq ow S' w w1 :=
  ⟨h.1, h.2.1, h.2.2.1, fun b hb => h.2.2.2 b (fun q => hb (hS _ q))⟩
theorem Sm.q {ow : Nat → Nat × Nat} {S : Nat → Prop} {w w1 : kW} (h : Sm ow S w w1) : Sq ow S w w1 :=
  ⟨h.1, h.2.1, h.2.2.1, fun b hb => ⟨h.2.2.2.2.2 b hb, by rw [h.2.2.2.1], by rw [h.2.2.2.2.1]⟩⟩
theorem Sq.si {ow : Nat → Nat × Nat} {S : Nat → Prop} {w : kW} {a j : Nat} {x : Int32} (h : S (ow a).1) : Sq ow S w (kSI w a j x) := (Sm.si h).q
theorem Sq.sp {ow : Nat → Nat × Nat} {S : Nat → Prop} {w : kW} {a j : Nat} {x : Option Nat} (h : S (ow a).1) : Sq ow S w (kSP w a j x) :=
  ⟨rfl, rfl, rfl, fun b hb => ⟨rfl, by
    funext k
    exact kP_SP_o (fun e => hb (by rw [e]; exact h)), rfl⟩⟩
theorem Sq.lp {ow : Nat → Nat × Nat} {S : Nat → Prop} {w w1 : kW} (h : Sq ow S w w1) {a : Nat} (ha : ¬ S (ow a).1) (j : Nat) : Lp w1 a j = Lp w a j := by unfold Lp; rw [(h.2.2.2 a ha).2.1]
theorem LnA.sq {ow : Nat → Nat × Nat} {S : Nat → Prop} {w w1 : kW} {a cap j k : Nat} (h : LnA ow w a cap j k) (hs : Sq ow S w w1) (ha : ¬ S (ow a).1) : LnA ow w1 a cap j k := by
  unfold LnA
  rw [hs.lp ha, (hs.2.2.2 a ha).2.1, hs.1, hs.2.1]
  exact h
theorem LnS.na {ow : Nat → Nat × Nat} {S : Nat → Prop} {w : kW} {a cap : Nat} (h : LnS ow w a cap) (ha : ¬ S a) : ¬ S (ow a).1 := by rw [h.2.1]; exact ha
theorem LnS.sq {ow : Nat → Nat × Nat} {S : Nat → Prop} {w w1 : kW} {a cap : Nat} (h : LnS ow w a cap) (hs : Sq ow S w w1) (ha : ¬ S a) : LnS ow w1 a cap :=
  ⟨by rw [hs.1]; exact h.1, h.2.1, h.2.2.1, h.2.2.2.1.sq hs (h.na ha), h.2.2.2.2.1.sq hs (h.na ha), h.2.2.2.2.2.1.sq hs (h.na ha), h.2.2.2.2.2.2.1.sq hs (h.na ha), h.2.2.2.2.2.2.2.sq hs (h.na ha)⟩
theorem Ln.sq {ow : Nat → Nat × Nat} {S : Nat → Prop} {w w1 : kW} {a cap : Nat} {v : List Nat} (h : Ln ow w a cap v) (hs : Sq ow S w w1) (ha : ¬ S a) : Ln ow w1 a cap v := by
  obtain ⟨h1, h2, ⟨h3, h4⟩, h5⟩ := h
  refine ⟨h1.sq hs ha, h2, ⟨by rw [(hs.2.2.2 a (h1.na ha)).1]; exact h3, fun i c hc => ?_⟩, by rw [(hs.2.2.2 a (h1.na ha)).1]; exact h5⟩
  rw [hs.lp (h1.na ha), (hs.2.2.2 _ (by rw [h1.2.2.2.1.2.2.2]; exact ha)).1]
  exact h4 i c hc
theorem St.sq {ow : Nat → Nat × Nat} {S : Nat → Prop} {w w1 : kW} {a cap : Nat} {v : List Nat} (h0 : LnS ow w a cap) (h : St w a v) (hs : Sq ow S w w1) (ha : ¬ S a) : St w1 a v := by
  intro X b Y e hb hm
  have hp := h X b Y e hb hm
  unfold PtOk
  rw [hs.lp (h0.na ha), hs.lp (h0.na ha), hs.lp (h0.na ha), hs.lp (h0.na ha), (hs.2.2.2 (Lp w a 1) (by rw [h0.2.2.2.2.1.2.2.2]; exact ha)).1, (hs.2.2.2 (Lp w a 2) (by rw [h0.2.2.2.2.2.1.2.2.2]; exact ha)).1, (hs.2.2.2 (Lp w a 3) (by rw [h0.2.2.2.2.2.2.1.2.2.2]; exact ha)).1, (hs.2.2.2 (Lp w a 4) (by rw [h0.2.2.2.2.2.2.2.2.2.2]; exact ha)).1]
  exact hp
/-- a line with its parts: the tree f -/
def Lf (ow : Nat → Nat × Nat) (w : kW) (a cap : Nat) (f : Fo) : Prop := fOk f ∧ Ln ow w a cap (fPre f) ∧ St w a (fPre f)
theorem Lf.sq {ow : Nat → Nat × Nat} {S : Nat → Prop} {w w1 : kW} {a cap : Nat} {f : Fo} (h : Lf ow w a cap f) (hs : Sq ow S w w1) (ha : ¬ S a) : Lf ow w1 a cap f := ⟨h.1, h.2.1.sq hs ha, h.2.2.sq h.2.1.1 hs ha⟩
theorem Lf.lt {ow : Nat → Nat × Nat} {w : kW} {a cap : Nat} {f : Fo} (h : Lf ow w a cap f) : ∀ c ∈ fPre f, c < 128 := fun c hc => fSig_lt (fPre_sig f h.1 c hc)
/-- the row r of ints alone has changed -/
def So (r : Nat) (w w' : kW) : Prop := kKd w' = kKd w ∧ kLn w' = kLn w ∧ kSz w' = kSz w ∧ kP w' = kP w ∧ kJ w' = kJ w ∧ ∀ b, b ≠ r → kI w' b = kI w b
theorem fill_loop {r m : Nat} {x : Int32} (hm : m < 100000) (kont : kW → Option kW) : ∀ (k n i : Nat) (w : kW), k < n → i + k = m → kKd w r = 14 → kLn w r = m → ∃ w', fJ7_fill_53178_L5 (some r) x (iI m) n (fun _ q => kont q) (iI i) w = kont w' ∧ So r w w' ∧ (∀ j, i ≤ j → j < m → kI w' r j = x) ∧ (∀ j, j < i → kI w' r j = kI w r j) := by
  intro k
  induction k with
  | zero =>
    intro n i w hn hi hk hl
    obtain ⟨n, rfl⟩ : ∃ z, n = z + 1 := ⟨n - 1, by omega⟩
    refine ⟨w, ?_, ⟨rfl, rfl, rfl, rfl, rfl, fun _ _ => rfl⟩, fun j h1 h2 => absurd h2 (by omega), fun _ _ => rfl⟩
    rw [fJ7_fill_53178_L5]
    simp (disch := omega) only [iI_lt, iI_le, iI_eq, if_pos]
  | succ k ih =>
    intro n i w hn hi hk hl
    obtain ⟨n, rfl⟩ : ∃ z, n = z + 1 := ⟨n - 1, by omega⟩
    obtain ⟨w', e1, s1, g1, g2⟩ := ih n (i + 1) (kSI w r i x) (by omega) (by omega) hk hl
    refine ⟨w', ?_, ⟨s1.1, s1.2.1, s1.2.2.1, s1.2.2.2.1, s1.2.2.2.2.1, fun b hb => (s1.2.2.2.2.2 b hb).trans (by funext q; exact kI_SI_o hb)⟩, fun j h1 h2 => ?_, fun j h1 => ?_⟩
    · rw [fJ7_fill_53178_L5, ← e1]
      simp (disch := omega) only [iI_lt, iI_le, iI_eq, kgI_e, kgP_e, kpI_e, kpP_e, kal_e, kaI_e, kaP_e, kaJ_e, ksI_e, ksP_e, ksJ_e, kRc_e, kIx_i, Option.bind_some, Option.map_some, if_neg, ite_false, Int.toNat_natCast, iL_1, iI_add]
      rfl
    · by_cases e : j = i
      · subst e
        rw [g2 j (by omega), kI_SI_s]
      · exact g1 j (by omega) h2
    · rw [g2 j (by omega), kI_SI_j (by omega)]
theorem fill_ok {r m : Nat} {x : Int32} {w : kW} (hm : m < 100000) (hk : kKd w r = 14) (hl : kLn w r = m) : ∃ w', fJ7_fill_53178 (some r) x w = some w' ∧ So r w w' ∧ ∀ j, j < m → kI w' r j = x := by
  obtain ⟨w', e1, s1, g1, -⟩ := fill_loop (x := x) hm (fun q => some q) m kFU 0 w (by unfold kFU; omega) (by omega) hk hl
  refine ⟨w', ?_, s1, fun j hj => g1 j (Nat.zero_le _) hj⟩
  have e0 : (0 : Int32) = iI ((0 : Nat) : Int) := by decide +kernel
  rw [fJ7_fill_53178, kal_e hk, Option.bind_some, hl, e0]
  exact e1
/-- the trees that come of a tree: what is put for its letters -/
def fMt : Fo → Fo → (Nat → Option Fo) → Option (Nat → Option Fo)
  | .var i, b, σ => match σ i with
    | none => some (fun j => if j = i then some b else σ j)
    | some c => if fEq c b then some σ else none
  | .neg a, b, σ => match b with
    | .neg b' => fMt a b' σ
    | _ => none
  | .add a c, b, σ => match b with
    | .add b' d => (fMt a b' σ).bind (fMt c d)
    | _ => none
  | .sub a c, b, σ => match b with
    | .sub b' d => (fMt a b' σ).bind (fMt c d)
    | _ => none
  | _, _, _ => none
def fHd : Fo → Nat
  | .var i => 112 + i
  | .neg _ => 126
  | .add _ _ => 118
  | .sub _ _ => 62
  | _ => 0
def fTl : Fo → List Nat
  | .neg a => fPre a
  | .add a b => fPre a ++ fPre b
  | .sub a b => fPre a ++ fPre b
  | _ => []
theorem fHdTl : ∀ f, fOk f → fPre f = fHd f :: fTl f := fInd (fun _ _ => rfl) (fun _ _ _ => rfl) (fun _ _ _ _ _ _ => rfl) (fun _ _ _ _ _ _ => rfl)
/-- a Putting object -/
def Pg (ow : Nat → Nat × Nat) (w : kW) (p : Nat) : Prop := kKd w p = 4 ∧ ow p = (p, 0) ∧ LnA ow w p 6 0 14
/-- it holds σ, of parts of u -/
def Pu (w : kW) (p : Nat) (u : List Nat) (σ : Nat → Option Fo) : Prop := ∀ i, i < 6 → (σ i = none → kI w (Lp w p 0) i = iI (-1)) ∧ ∀ c, σ i = some c → fOk c ∧ ∃ X Y, u = X ++ (fPre c ++ Y) ∧ kI w (Lp w p 0) i = iI X.length
