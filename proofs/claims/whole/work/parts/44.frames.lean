/-! FRAMES: what S doesn't own is as it was, in a world that may have grown -/
def Fr (ow ow' : Nat → Nat × Nat) (S : Nat → Prop) (w w' : kW) : Prop := ∀ a, kKd w a < 19 → ¬ S (ow a).1 → ow' a = ow a ∧ kKd w' a = kKd w a ∧ kLn w' a = kLn w a ∧ kI w' a = kI w a ∧ kP w' a = kP w a ∧ kJ w' a = kJ w a
theorem Fr.rf {ow : Nat → Nat × Nat} {S : Nat → Prop} (w : kW) : Fr ow ow S w w := fun _ _ _ => ⟨rfl, rfl, rfl, rfl, rfl, rfl⟩
theorem Fr.tr {ow ow1 ow2 : Nat → Nat × Nat} {S : Nat → Prop} {w w1 w2 : kW} (h1 : Fr ow ow1 S w w1) (h2 : Fr ow1 ow2 S w1 w2) : Fr ow ow2 S w w2 := fun a hk hn => by
  obtain ⟨e1, e2, e3, e4, e5, e6⟩ := h1 a hk hn
  obtain ⟨f1, f2, f3, f4, f5, f6⟩ := h2 a (by rw [e2]; exact hk) (by rw [e1]; exact hn)
  exact ⟨f1.trans e1, f2.trans e2, f3.trans e3, f4.trans e4, f5.trans e5, f6.trans e6⟩
theorem Fr.wide {ow ow' : Nat → Nat × Nat} {S S' : Nat → Prop} {w w1 : kW} (h : Fr ow ow' S w w1) (hS : ∀ a, S a → S' a) : Fr ow ow' S' w w1 := fun a hk hn => h a hk (fun q => hn (hS _ q))
theorem Sq.fr {ow : Nat → Nat × Nat} {S : Nat → Prop} {w w1 : kW} (h : Sq ow S w w1) : Fr ow ow S w w1 := fun a _ hn => ⟨rfl, by rw [h.1], by rw [h.2.1], (h.2.2.2 a hn).1, (h.2.2.2 a hn).2.1, (h.2.2.2 a hn).2.2⟩
theorem Sm.fr {ow : Nat → Nat × Nat} {S : Nat → Prop} {w w1 : kW} (h : Sm ow S w w1) : Fr ow ow S w w1 := h.q.fr
theorem LnA.fr {ow ow' : Nat → Nat × Nat} {S : Nat → Prop} {w w1 : kW} {a cap j k : Nat} (h : LnA ow w a cap j k) (hs : Fr ow ow' S w w1) (hk : kKd w a < 19) (hk2 : k < 19) (ha : ¬ S a) (hoa : (ow a).1 = a) : LnA ow' w1 a cap j k ∧ Lp w1 a j = Lp w a j := by
  obtain ⟨p, k1, n1, o1⟩ := h
  obtain ⟨e1, e2, e3, e4, e5, e6⟩ := hs a hk (by rw [hoa]; exact ha)
  have hl : Lp w1 a j = Lp w a j := by unfold Lp; rw [e5]
  obtain ⟨f1, f2, f3, f4, f5, f6⟩ := hs (Lp w a j) (by rw [k1]; exact hk2) (by rw [o1]; exact ha)
  refine ⟨?_, hl⟩
  unfold LnA
  rw [hl, e5, f1, f2, f3]
  exact ⟨p, k1, n1, o1⟩
/-- what a row holds is as it was -/
theorem LnA.fi {ow ow' : Nat → Nat × Nat} {S : Nat → Prop} {w w1 : kW} {a cap j k : Nat} (h : LnA ow w a cap j k) (hs : Fr ow ow' S w w1) (hk2 : k < 19) (ha : ¬ S a) : kI w1 (Lp w a j) = kI w (Lp w a j) ∧ kP w1 (Lp w a j) = kP w (Lp w a j) := by
  obtain ⟨p, k1, n1, o1⟩ := h
  obtain ⟨f1, f2, f3, f4, f5, f6⟩ := hs (Lp w a j) (by rw [k1]; exact hk2) (by rw [o1]; exact ha)
  exact ⟨f4, f5⟩
theorem LnS.fr {ow ow' : Nat → Nat × Nat} {S : Nat → Prop} {w w1 : kW} {a cap : Nat} (h : LnS ow w a cap) (hs : Fr ow ow' S w w1) (ha : ¬ S a) : LnS ow' w1 a cap := by
  obtain ⟨hk, ho, hc, h0, h1, h2, h3, h4⟩ := h
  have k19 : kKd w a < 19 := by omega
  have hoa : (ow a).1 = a := by rw [ho]
  obtain ⟨e1, e2, e3, e4, e5, e6⟩ := hs a k19 (by rw [hoa]; exact ha)
  exact ⟨by rw [e2]; exact hk, by rw [e1]; exact ho, hc, (h0.fr hs k19 (by omega) ha hoa).1, (h1.fr hs k19 (by omega) ha hoa).1, (h2.fr hs k19 (by omega) ha hoa).1, (h3.fr hs k19 (by omega) ha hoa).1, (h4.fr hs k19 (by omega) ha hoa).1⟩
theorem lns_fa {ow ow' : Nat → Nat × Nat} {S : Nat → Prop} {w w1 : kW} {a cap : Nat} (h : LnS ow w a cap) (hs : Fr ow ow' S w w1) (ha : ¬ S a) : kI w1 a = kI w a ∧ kP w1 a = kP w a := by
  obtain ⟨e1, e2, e3, e4, e5, e6⟩ := hs a (by rw [h.1]; omega) (by rw [h.2.1]; exact ha)
  exact ⟨e4, e5⟩
theorem Ln.fr {ow ow' : Nat → Nat × Nat} {S : Nat → Prop} {w w1 : kW} {a cap : Nat} {v : List Nat} (h : Ln ow w a cap v) (hs : Fr ow ow' S w w1) (ha : ¬ S a) : Ln ow' w1 a cap v := by
  obtain ⟨h1, h2, ⟨h3, h4⟩, h5⟩ := h
  obtain ⟨e4, e5⟩ := lns_fa h1 hs ha
  refine ⟨h1.fr hs ha, h2, ⟨by rw [e4]; exact h3, fun i c hc => ?_⟩, by rw [e4]; exact h5⟩
  have hl : Lp w1 a 0 = Lp w a 0 := by unfold Lp; rw [e5]
  rw [hl, (h1.2.2.2.1.fi hs (by omega) ha).1]
  exact h4 i c hc
theorem St.fr {ow ow' : Nat → Nat × Nat} {S : Nat → Prop} {w w1 : kW} {a cap : Nat} {v : List Nat} (h0 : LnS ow w a cap) (h : St w a v) (hs : Fr ow ow' S w w1) (ha : ¬ S a) : St w1 a v := by
  intro X b Y e hb hm
  have hp := h X b Y e hb hm
  obtain ⟨e4, e5⟩ := lns_fa h0 hs ha
  have hl : ∀ j, Lp w1 a j = Lp w a j := fun j => by unfold Lp; rw [e5]
  unfold PtOk
  rw [hl, hl, hl, hl, (h0.2.2.2.2.1.fi hs (by omega) ha).1, (h0.2.2.2.2.2.1.fi hs (by omega) ha).1, (h0.2.2.2.2.2.2.1.fi hs (by omega) ha).1, (h0.2.2.2.2.2.2.2.fi hs (by omega) ha).1]
  exact hp
theorem Lf.fr {ow ow' : Nat → Nat × Nat} {S : Nat → Prop} {w w1 : kW} {a cap : Nat} {f : Fo} (h : Lf ow w a cap f) (hs : Fr ow ow' S w w1) (ha : ¬ S a) : Lf ow' w1 a cap f := ⟨h.1, h.2.1.fr hs ha, h.2.2.fr h.2.1.1 hs ha⟩
theorem Pg.fr {ow ow' : Nat → Nat × Nat} {S : Nat → Prop} {w w1 : kW} {p : Nat} (h : Pg ow w p) (hs : Fr ow ow' S w w1) (ha : ¬ S p) : Pg ow' w1 p := by
  obtain ⟨hk, ho, h0⟩ := h
  have k19 : kKd w p < 19 := by omega
  have hoa : (ow p).1 = p := by rw [ho]
  obtain ⟨e1, e2, e3, e4, e5, e6⟩ := hs p k19 (by rw [hoa]; exact ha)
  exact ⟨by rw [e2]; exact hk, by rw [e1]; exact ho, (h0.fr hs k19 (by omega) ha hoa).1⟩
theorem WrS.fr {ow ow' : Nat → Nat × Nat} {S : Nat → Prop} {w w1 : kW} {p : Nat} (h : WrS ow w p) (hs : Fr ow ow' S w w1) (ha : ¬ S p) : WrS ow' w1 p := by
  obtain ⟨hk, ho, h0, h1⟩ := h
  have k19 : kKd w p < 19 := by omega
  have hoa : (ow p).1 = p := by rw [ho]
  obtain ⟨e1, e2, e3, e4, e5, e6⟩ := hs p k19 (by rw [hoa]; exact ha)
  exact ⟨by rw [e2]; exact hk, by rw [e1]; exact ho, (h0.fr hs k19 (by omega) ha hoa).1, (h1.fr hs k19 (by omega) ha hoa).1⟩
theorem WdS.fr {ow ow' : Nat → Nat × Nat} {S : Nat → Prop} {w w1 : kW} {d l r t s : Nat} (h : WdS ow w d l r t s) (hs : Fr ow ow' S w w1) (n1 : ¬ S d) (n2 : ¬ S l) (n3 : ¬ S r) (n4 : ¬ S t) (n5 : ¬ S s) : WdS ow' w1 d l r t s := by
  obtain ⟨⟨h1, h2, h3, h4, h5, h6⟩, ⟨h7, h8, h9, h10⟩, h11⟩ := h
  obtain ⟨e1, e2, e3, e4, e5, e6⟩ := hs d (by omega) (by rw [h2]; exact n1)
  exact ⟨⟨by rw [e2]; exact h1, by rw [e1]; exact h2, by rw [e5]; exact h3, by rw [e5]; exact h4, by rw [e5]; exact h5, by rw [e5]; exact h6⟩, ⟨h7.fr hs n2, h8.fr hs n3, h9.fr hs n4, h10.fr hs n5⟩, h11⟩
theorem Sp.fr {ow ow' : Nat → Nat × Nat} {S : Nat → Prop} {w w1 : kW} {st p : Nat} (h : Sp ow w st p) (hs : Fr ow ow' S w w1) (n1 : ¬ S st) (n2 : ¬ S p) : Sp ow' w1 st p := by
  obtain ⟨hk, ho, p0, hp, h1⟩ := h
  have k19 : kKd w st < 19 := by omega
  have hoa : (ow st).1 = st := by rw [ho]
  obtain ⟨e1, e2, e3, e4, e5, e6⟩ := hs st k19 (by rw [hoa]; exact n1)
  exact ⟨by rw [e2]; exact hk, by rw [e1]; exact ho, by rw [e5]; exact p0, hp.fr hs n2, (h1.fr hs k19 (by omega) n1 hoa).1⟩
/-! WHAT A LINE IS WORTH: in how many ways of its letters it is true -/
def fTv : Fo → Nat → Bool
  | .var i, so => so.testBit i
  | .neg a, so => !fTv a so
  | .add a b, so => fTv a so || fTv b so
  | .sub a b, so => !fTv a so || fTv b so
  | _, _ => false
def fWy (f : Fo) : Nat := (List.range 64).countP fun so => decide (so &&& fLs f = so) && fTv f so
/-- a line of the table, or of a card: what is made behind the class's own parts -/
def Li (ow : Nat → Nat × Nat) (x : Nat) (w : kW) (a : Nat) (f : Fo) : Prop := Lf ow w a (fSz f) f ∧ kI w a 7 = iI (fWy f) ∧ (fTxt f).length ≤ 60 ∧ x + 237 ≤ a
theorem Li.fr {ow ow' : Nat → Nat × Nat} {S : Nat → Prop} {x : Nat} {w w1 : kW} {a : Nat} {f : Fo} (h : Li ow x w a f) (hs : Fr ow ow' S w w1) (ha : ¬ S a) : Li ow' x w1 a f :=
  ⟨h.1.fr hs ha, by rw [(lns_fa h.1.2.1.1 hs ha).1]; exact h.2.1, h.2.2⟩
theorem fWy_le (f : Fo) : fWy f ≤ 64 := by
  have h := List.countP_le_length (p := fun so => decide (so &&& fLs f = so) && fTv f so) (l := List.range 64)
  rw [List.length_range] at h
  exact h
