/-! THE CALLS, the class's: lines -/
def Kd (ow : Nat → Nat × Nat) (x : Nat) (w : kW) (o : Option (Int32 × kW)) (r : Int) (S' : AS) : Prop := ∃ w' ow', o = some (iI r, w') ∧ Kc ow' x w' S' ∧ Fr ow ow' (Cx x) w w'
theorem Kd.rf {ow : Nat → Nat × Nat} {x : Nat} {w : kW} {S : AS} {o : Option (Int32 × kW)} {r : Int} (h : Kc ow x w S) (e : o = some (iI r, w)) : Kd ow x w o r S := ⟨w, ow, e, h, Fr.rf w⟩
theorem Kc.sz {ow : Nat → Nat × Nat} {V : Nat → Prop} {x : Nat} {w w' : kW} {S : AS} (h : Kc ow x w S) (hs : Sq ow V w w') : WF w' ∧ WO ow w' ∧ x + 256 ≤ kSz w' := ⟨h.1.1.sq hs, h.1.2.1.sq hs, by rw [hs.2.2.1]; exact h.1.2.2⟩
theorem Kc.rd {ow : Nat → Nat × Nat} {x : Nat} {w w' : kW} {S : AS} (h : Kc ow x w S) (hs : Sq ow (Vr x 18 20) w w') (r : RdS ow w' (x + 18) (x + 19)) : Kc ow x w' S ∧ Fr ow ow (Cx x) w w' := by
  obtain ⟨o0, o1, o2, o3, o4, o5, o6, o7, o8, o9, o10⟩ := h.ok hs.fr (by omega)
  exact ⟨⟨h.sz hs, o0 (by omega), o1 (by omega), o2 (by omega), o3 (by omega), r, o5 (by omega), o6 (by omega), o7 (by omega), o8 (by omega), o9 (by omega), o10 (by omega)⟩, hs.fr.cx (by omega) (by omega)⟩
theorem Kc.wr {ow : Nat → Nat × Nat} {x : Nat} {w w' : kW} {S : AS} (h : Kc ow x w S) (hs : Sm ow (fun z => z = x + 27) w w') : Kc ow x w' S ∧ Fr ow ow (Cx x) w w' := by
  have hs' : Sq ow (Vr x 27 28) w w' := hs.q.wide (fun z hz => by rw [hz]; exact ⟨Nat.le_refl _, by omega⟩)
  obtain ⟨o0, o1, o2, o3, o4, o5, o6, o7, o8, o9, o10⟩ := h.ok hs'.fr (by omega)
  exact ⟨⟨h.sz hs', o0 (by omega), o1 (by omega), o2 (by omega), o3 (by omega), o4 (by omega), h.2.2.2.2.2.2.1.sm hs, o6 (by omega), o7 (by omega), o8 (by omega), o9 (by omega), o10 (by omega)⟩, hs'.fr.cx (by omega) (by omega)⟩
theorem Kc.pg {ow : Nat → Nat × Nat} {x : Nat} {w w' : kW} {S : AS} (h : Kc ow x w S) (hs : Sq ow (fun z => z = x + 30) w w') (r : Pg ow w' (x + 30)) : Kc ow x w' S ∧ Fr ow ow (Cx x) w w' := by
  have hs' : Sq ow (Vr x 30 31) w w' := hs.wide (fun z hz => by rw [hz]; exact ⟨Nat.le_refl _, by omega⟩)
  obtain ⟨o0, o1, o2, o3, o4, o5, o6, o7, o8, o9, o10⟩ := h.ok hs'.fr (by omega)
  exact ⟨⟨h.sz hs', o0 (by omega), o1 (by omega), o2 (by omega), o3 (by omega), o4 (by omega), o5 (by omega), r, o7 (by omega), o8 (by omega), o9 (by omega), o10 (by omega)⟩, hs'.fr.cx (by omega) (by omega)⟩
theorem Kc.wd {ow : Nat → Nat × Nat} {x : Nat} {w w' : kW} {S : AS} (h : Kc ow x w S) (hs : Sm ow (WdO (x + 33) (x + 39) (x + 45) (x + 51)) w w') : Kc ow x w' S ∧ Fr ow ow (Cx x) w w' := by
  have hs' : Sq ow (Vr x 32 57) w w' := hs.q.wide (fun z hz => by rcases hz with h | h | h | h <;> exact ⟨by omega, by omega⟩)
  obtain ⟨o0, o1, o2, o3, o4, o5, o6, o7, o8, o9, o10⟩ := h.ok hs'.fr (by omega)
  exact ⟨⟨h.sz hs', o0 (by omega), o1 (by omega), o2 (by omega), o3 (by omega), o4 (by omega), o5 (by omega), o6 (by omega), h.2.2.2.2.2.2.2.2.1.sm hs, o8 (by omega), o9 (by omega), o10 (by omega)⟩, hs'.fr.cx (by omega) (by omega)⟩
theorem Kc.sp {ow : Nat → Nat × Nat} {x : Nat} {w w' : kW} {S : AS} (h : Kc ow x w S) (hs : Sq ow (StQ (x + 57) (x + 58)) w w') (r : Sp ow w' (x + 57) (x + 58)) : Kc ow x w' S ∧ Fr ow ow (Cx x) w w' := by
  have hs' : Sq ow (Vr x 57 60) w w' := hs.wide (fun z hz => by rcases hz with h | h <;> exact ⟨by omega, by omega⟩)
  obtain ⟨o0, o1, o2, o3, o4, o5, o6, o7, o8, o9, o10⟩ := h.ok hs'.fr (by omega)
  exact ⟨⟨h.sz hs', o0 (by omega), o1 (by omega), o2 (by omega), o3 (by omega), o4 (by omega), o5 (by omega), o6 (by omega), o7 (by omega), r, o9 (by omega), o10 (by omega)⟩, hs'.fr.cx (by omega) (by omega)⟩
theorem Kc.ss {ow : Nat → Nat × Nat} {x : Nat} {w w' : kW} {S : AS} (h : Kc ow x w S) (hs : Sq ow (Vs x) w w') (r : KQ ow x w') : Kc ow x w' S ∧ Fr ow ow (Cx x) w w' := by
  have hs' : Sq ow (Vr x 61 218) w w' := hs
  obtain ⟨o0, o1, o2, o3, o4, o5, o6, o7, o8, o9, o10⟩ := h.ok hs'.fr (by omega)
  exact ⟨⟨h.sz hs', o0 (by omega), o1 (by omega), o2 (by omega), o3 (by omega), o4 (by omega), o5 (by omega), o6 (by omega), o7 (by omega), o8 (by omega), r, o10 (by omega)⟩, hs'.fr.cx (by omega) (by omega)⟩
theorem Kc.tb {ow : Nat → Nat × Nat} {x : Nat} {w w' : kW} {S : AS} {T : TbS} (h : Kc ow x w S) (hs : Sq ow (fun z => z = x + 1) w w') (r : Tb ow x w' (x + 1) T) : Kc ow x w' (T, sI S, sH S) ∧ Fr ow ow (Cx x) w w' := by
  have hs' : Sq ow (Vr x 1 2) w w' := hs.wide (fun z hz => by rw [hz]; exact ⟨Nat.le_refl _, by omega⟩)
  obtain ⟨o0, o1, o2, o3, o4, o5, o6, o7, o8, o9, o10⟩ := h.ok hs'.fr (by omega)
  exact ⟨⟨h.sz hs', o0 (by omega), r, o2 (by omega), o3 (by omega), o4 (by omega), o5 (by omega), o6 (by omega), o7 (by omega), o8 (by omega), o9 (by omega), o10 (by omega)⟩, hs'.fr.cx (by omega) (by omega)⟩
theorem Fr.cc {ow ow1 ow2 : Nat → Nat × Nat} {x : Nat} {w w1 w2 : kW} (h1 : Fr ow ow1 (Cx x) w w1) (h2 : Fr ow1 ow2 (Cx x) w1 w2) : Fr ow ow2 (Cx x) w w2 := h1.tr h2
/-- the class's row of a shelf, as a text -/
theorem rw_of {ow : Nat → Nat × Nat} {x : Nat} {w : kW} {sa : Nat} {l : List Int} (h : ShO ow x w sa (some (.inr (0, l)))) : kgP w 6 (some sa) 0 = some (some (Lp w sa 0)) ∧ kgI w 6 (some sa) 2 = some (iI l.length) ∧ Rw w (Lp w sa 0) 120 l ∧ (ow (Lp w sa 0)).1 = sa ∧ (∀ c ∈ l, -128 ≤ c ∧ c < 128) ∧ l.length ≤ 120 := by
  obtain ⟨⟨hk, ho, r0⟩, g1, g2, g3, g4, g5, g6, g7⟩ := h
  exact ⟨by rw [kgP_e hk, r0.1], by rw [kgI_e hk]; exact congrArg some g3, ⟨r0.2.1, r0.2.2.1, g5, g6⟩, by rw [r0.2.2.2], fun c hc => (g7 c hc).1 rfl, g5⟩
def aFault (S : AS) (d : Int) : Int := match shAt S d with
  | none => -1
  | some s => if bRef s = 0 then (match pF (rowL s) with
    | some j => (j : Int)
    | none => -4) else bRef s
theorem iN_1 : (-1 : Int32) = iI (-1) := by decide +kernel
theorem iN_2 : (-2 : Int32) = iI (-2) := by decide +kernel
theorem iN_3 : (-3 : Int32) = iI (-3) := by decide +kernel
theorem kc_read {ow : Nat → Nat × Nat} {x : Nat} {w : kW} {S : AS} (h : Kc ow x w S) {sa : Nat} {l : List Int} (hs : ShO ow x w sa (some (.inr (0, l)))) (hsa : x + 221 ≤ sa) :
    ∃ w', fX2_readText (x + 18) (some (Lp w sa 0)) (iI l.length) w = some (iI (match pF l with | some j => (j : Int) | none => -4), w') ∧ Kc ow x w' S ∧ Fr ow ow (Cx x) w w' ∧ (pF l = none → Ln ow w' (x + 19) 60 (fPre (pT l))) ∧ Sq ow (Vr x 18 20) w w' := by
  obtain ⟨r1, r2, r3, r4, r5, r6⟩ := rw_of hs
  have hr := h.2.2.2.2.2.1
  obtain ⟨w', e, m, S', g⟩ := readText_ok hr r5 (fun z => by rw [r4] at z; rcases z with z | z <;> omega) r6 r3
  have q : Sq ow (Vr x 18 20) w w' := m.q.wide (fun z hz => by rcases hz with h | h <;> exact ⟨by omega, by omega⟩)
  obtain ⟨k1, f1⟩ := h.rd q S'
  exact ⟨w', e, k1, f1, g, q⟩
theorem kc_fault {ow : Nat → Nat × Nat} {x : Nat} {w : kW} {S : AS} (h : Kc ow x w S) {d : Int} (hd : I32 d) : Kd ow x w (fX11_fault x (iI d) w) (aFault S d) S := by
  have hk : kKd w x = 11 := h.2.1.1.1
  obtain ⟨s1, s2⟩ := shelfAt_ok h hd
  unfold aFault
  rw [fX11_fault, kRc_e hk, Option.bind_some]
  cases hs : shAt S d with
  | none => exact Kd.rf h (by rw [s1 hs, Option.bind_some, if_pos rfl, iN_1])
  | some s =>
    obtain ⟨e1, o1, -⟩ := s2 s hs
    rw [e1, Option.bind_some, if_neg (by simp), kRc_e o1.1.1, Option.bind_some, bytesRef_ok o1, Option.bind_some]
    have bb := bRef_bd s
    by_cases c : bRef s = 0
    · obtain ⟨l, rfl⟩ := bRef_0 c
      obtain ⟨r1, r2, -⟩ := rw_of o1
      obtain ⟨w', e, k1, f1, -⟩ := kc_read h o1 (by omega)
      show Kd ow x w _ (if bRef (some (.inr (0, l))) = 0 then (match pF l with | some j => (j : Int) | none => -4) else _) S
      rw [if_pos (by rw [c]; decide +kernel), if_pos c, kgP_e hk, Option.bind_some, h.2.1.2.1.2.2.2.1, r1, Option.bind_some, r2, Option.bind_some, kRc_e h.2.2.2.2.2.1.1, Option.bind_some, e, kb2_s]
      exact ⟨w', ow, rfl, k1, f1⟩
    · show Kd ow x w _ (if bRef s = 0 then _ else bRef s) S
      rw [if_neg (by rw [iL_0, iI_eq (by omega) (by omega) (by omega) (by omega)]; exact c), if_neg c]
      exact Kd.rf h rfl
def tAdd (T : TbS) (F : Fo) : TbS := tMk (tL T ++ [F]) (fu (tH T) (tL T).length 0) (tK T) (tF T) (tP T)
def aLine (S : AS) (d : Int) : Int × AS := match shAt S d with
  | none => (-1, S)
  | some s => if (tL (sT S)).length < 40 then (if bRef s = 0 then (match pF (rowL s) with
    | some j => (-100 - (j : Int), S)
    | none => (((tL (sT S)).length : Int), (tAdd (sT S) (pT (rowL s)), sI S, sH S))) else (bRef s, S)) else (-2, S)
theorem rGo_lt : ∀ (l : List Int) (s : RS) (i j : Nat), rGo s l i = .inl j → j < i + l.length := by
  intro l
  induction l with
  | nil => intro s i j h; cases h
  | cons c l ih =>
    intro s i j h
    rw [List.length_cons]
    have h' : (if 60 ≤ i then Sum.inl i else match rStp s c with | none => Sum.inl i | some s' => rGo s' l (i + 1)) = (Sum.inl j : Sum Nat RS) := h
    by_cases c60 : 60 ≤ i
    · rw [if_pos c60] at h'
      have := Sum.inl.inj h'
      omega
    · rw [if_neg c60] at h'
      cases hs : rStp s c with
      | none =>
        rw [hs] at h'
        have := Sum.inl.inj h'
        omega
      | some s' =>
        rw [hs] at h'
        have := ih s' (i + 1) j h'
        omega
theorem pF_le {l : List Int} {j : Nat} (h : pF l = some j) : j ≤ l.length := by
  rcases (pF_go l).1 j h with h | ⟨s', h1, h2, -⟩
  · have := rGo_lt l _ 0 j h
    omega
  · omega
theorem top_t {ow : Nat → Nat × Nat} {x : Nat} {w : kW} {S : AS} (h : Kc ow x w S) {α : Type} (K : Nat → Option α) : ((kgP w 11 (some x) 0).bind fun v1 => (kRc w 8 v1).bind K) = K (x + 1) := by
  rw [kgP_e h.2.1.1.1, Option.bind_some, h.2.1.2.1.1, kRc_e h.2.2.1.2.1.1, Option.bind_some]
def aOf (S : AS) (l q : Int) : Int := match tLn (sT S) l with
  | none => -1
  | some F => if q = 0 then fSz F else if q = 1 then fLev F else if q = 2 then fPl F else if q = 3 then fUn F else if q = 4 then (if fTr F then 1 else 0) else if q = 5 then tH (sT S) l.toNat else if q = 6 then plc (tK (sT S)) 0 l else -1
theorem tLn_lt {T : TbS} {l : Int} {F : Fo} (h : tLn T l = some F) : 0 ≤ l ∧ l.toNat < (tL T).length ∧ (tL T)[l.toNat]? = some F := by
  unfold tLn at h
  by_cases c : l < 0
  · rw [if_pos c] at h; cases h
  · rw [if_neg c] at h
    exact ⟨by omega, (List.getElem?_eq_some_iff.mp h).1, h⟩
theorem kc_of {ow : Nat → Nat × Nat} {x : Nat} {w : kW} {S : AS} (h : Kc ow x w S) {l q : Int} (hl : I32 l) (hq : I32 q) : fX11_of x (iI l) (iI q) w = some (iI (aOf S l q)) := by
  have hT := h.2.2.1
  obtain ⟨l1, l2⟩ := lineAt_ok hT hl.1 hl.2
  obtain ⟨q0, q1⟩ := hq
  unfold aOf
  rw [fX11_of, top_t h]
  cases hL : tLn (sT S) l with
  | none => rw [l1 hL, Option.bind_some, if_pos rfl, iN_1]
  | some F =>
    obtain ⟨a, e, g⟩ := l2 F hL
    obtain ⟨b0, b1, b2⟩ := tLn_lt hL
    have hka := g.1.2.1.1.1
    have e0 : (0 : Int32) = iI (([] : List Nat).length : Int) := by decide +kernel
    have f1 := levelAt_ok (X := []) g.1.2.1 g.1.2.2 (all_1 F) g.1.1
    have f2 := placesAt_ok (X := []) g.1.2.1 g.1.2.2 (all_1 F) g.1.1
    have f3 := unlikeAt_ok (X := []) g.1.2.1 g.1.2.2 (all_1 F) g.1.1
    rw [← e0] at f1 f2 f3
    have f5 := howIs_in hT b1
    rw [show ((l.toNat : Nat) : Int) = l by omega] at f5
    have f6 := placeOf_ok hT hl.1 hl.2
    rw [e, Option.bind_some, if_neg (by simp)]
    show _ = some (iI (if q = 0 then fSz F else if q = 1 then fLev F else if q = 2 then fPl F else if q = 3 then fUn F else if q = 4 then (if fTr F then 1 else 0) else if q = 5 then tH (sT S) l.toNat else if q = 6 then plc (tK (sT S)) 0 l else -1))
    by_cases c0 : q = 0
    · subst c0
      rw [if_pos (show iI 0 = (0 : Int32) from rfl), if_pos rfl, kgI_e hka, Option.bind_some, g.1.2.1.2.2.1.1]
      rfl
    rw [if_neg (show ¬ iI q = (0 : Int32) by rw [iL_0, iI_eq (by omega) (by omega) (by omega) (by omega)]; exact c0), if_neg c0]
    by_cases c1 : q = 1
    · subst c1
      rw [if_pos (show iI 1 = (1 : Int32) from rfl), if_pos rfl, kRc_e hka, Option.bind_some, f1, Option.bind_some]
    rw [if_neg (show ¬ iI q = (1 : Int32) by rw [iL_1, iI_eq (by omega) (by omega) (by omega) (by omega)]; exact c1), if_neg c1]
    by_cases c2 : q = 2
    · subst c2
      rw [if_pos (show iI 2 = (2 : Int32) from rfl), if_pos rfl, kRc_e hka, Option.bind_some, f2, Option.bind_some]
    rw [if_neg (show ¬ iI q = (2 : Int32) by rw [iL_2, iI_eq (by omega) (by omega) (by omega) (by omega)]; exact c2), if_neg c2]
    by_cases c3 : q = 3
    · subst c3
      rw [if_pos (show iI 3 = (3 : Int32) from rfl), if_pos rfl, kRc_e hka, Option.bind_some, f3, Option.bind_some]
    rw [if_neg (show ¬ iI q = (3 : Int32) by rw [iL_3, iI_eq (by omega) (by omega) (by omega) (by omega)]; exact c3), if_neg c3]
    by_cases c4 : q = 4
    · subst c4
      rw [if_pos (show iI 4 = (4 : Int32) from rfl), if_pos rfl, kRc_e hka, Option.bind_some, isTrue_ok g, Option.bind_some]
      cases fTr F with
      | true => rw [if_neg (show ¬ iB true = 0 by decide +kernel), if_pos rfl, iL_1]
      | false => rw [if_pos (show iB false = 0 from rfl), if_neg Bool.false_ne_true, iL_0]
    rw [if_neg (show ¬ iI q = (4 : Int32) by rw [iL_4, iI_eq (by omega) (by omega) (by omega) (by omega)]; exact c4), if_neg c4]
    by_cases c5 : q = 5
    · subst c5
      rw [if_pos (show iI 5 = (5 : Int32) from rfl), if_pos rfl, top_t h, f5, Option.bind_some]
    rw [if_neg (show ¬ iI q = (5 : Int32) by rw [iL_5, iI_eq (by omega) (by omega) (by omega) (by omega)]; exact c5), if_neg c5]
    by_cases c6 : q = 6
    · subst c6
      rw [if_pos (show iI 6 = (6 : Int32) from rfl), if_pos rfl, top_t h, f6, Option.bind_some]
    rw [if_neg (show ¬ iI q = (6 : Int32) by rw [iL_6, iI_eq (by omega) (by omega) (by omega) (by omega)]; exact c6), if_neg c6, iN_1]
def aLetter (S : AS) (l i : Int) : Int := match tLn (sT S) l with
  | none => -1
  | some F => if 0 ≤ i then bt (fTxt F) i else -1
/-- byte i of a part of a line of the table -/
theorem kc_byte {ow : Nat → Nat × Nat} {x : Nat} {w : kW} {S : AS} (h : Kc ow x w S) {a cap : Nat} {v X Y : List Nat} {A : Fo} (hL : Ln ow w a cap v) (hSt : St w a v) (e : v = X ++ (fPre A ++ Y)) (hA : fOk A) {i : Int} (hi : I32 i) : ∃ w', fX10_byteOf (x + 27) (some a) (iI X.length) (iI i) w = some (iI (bt (fTxt A) i), w') ∧ Kc ow x w' S ∧ Fr ow ow (Cx x) w w' := by
  obtain ⟨w', g, m⟩ := byteOf_ok h.2.2.2.2.2.2.1 hL hSt e hA i hi.1 hi.2
  obtain ⟨k1, f1⟩ := h.wr m
  exact ⟨w', g, k1, f1⟩
theorem top_w {ow : Nat → Nat × Nat} {x : Nat} {w : kW} {S : AS} (h : Kc ow x w S) {α : Type} (K : Nat → Option α) : ((kgP w 11 (some x) 5).bind fun v1 => (kRc w 10 v1).bind K) = K (x + 27) := by
  rw [kgP_e h.2.1.1.1, Option.bind_some, h.2.1.2.1.2.2.2.2.1, kRc_e h.2.2.2.2.2.2.1.1, Option.bind_some]
theorem top_p {ow : Nat → Nat × Nat} {x : Nat} {w : kW} {S : AS} (h : Kc ow x w S) {α : Type} (K : Nat → Option α) : ((kgP w 11 (some x) 6).bind fun v1 => (kRc w 4 v1).bind K) = K (x + 30) := by
  rw [kgP_e h.2.1.1.1, Option.bind_some, h.2.1.2.1.2.2.2.2.2.1, kRc_e h.2.2.2.2.2.2.2.1.1, Option.bind_some]
theorem kc_letter {ow : Nat → Nat × Nat} {x : Nat} {w : kW} {S : AS} (h : Kc ow x w S) {l i : Int} (hl : I32 l) (hi : I32 i) : Kd ow x w (fX11_letter x (iI l) (iI i) w) (aLetter S l i) S := by
  have hT := h.2.2.1
  obtain ⟨l1, l2⟩ := lineAt_ok hT hl.1 hl.2
  obtain ⟨q0, q1⟩ := id hi
  unfold aLetter
  rw [fX11_letter, top_t h]
  cases hL : tLn (sT S) l with
  | none => exact Kd.rf h (by rw [l1 hL, Option.bind_some, if_pos rfl, iN_1])
  | some F =>
    obtain ⟨a, e, g⟩ := l2 F hL
    have e0 : (0 : Int32) = iI (([] : List Nat).length : Int) := by decide +kernel
    show Kd ow x w _ (if 0 ≤ i then bt (fTxt F) i else -1) S
    rw [e, Option.bind_some, if_neg (by simp)]
    by_cases c : 0 ≤ i
    · obtain ⟨w', e1, k1, f1⟩ := kc_byte (X := []) h g.1.2.1 g.1.2.2 (all_1 F) g.1.1 hi
      rw [if_pos (by rw [iL_0, iI_le (by omega) (by omega) (by omega) (by omega)]; exact c), top_w h, e0, e1, kb2_s, if_pos c]
      exact ⟨w', ow, rfl, k1, f1⟩
    · rw [if_neg (by rw [iL_0, iI_le (by omega) (by omega) (by omega) (by omega)]; exact c), if_neg c]
      exact Kd.rf h (by rw [iN_1])
def aTable (S : AS) (l : Int) : Int := match tLn (sT S) l with
  | none => -1
  | some F => fWy F
theorem kc_table {ow : Nat → Nat × Nat} {x : Nat} {w : kW} {S : AS} (h : Kc ow x w S) {l : Int} (hl : I32 l) : fX11_table x (iI l) w = some (iI (aTable S l)) := by
  obtain ⟨l1, l2⟩ := lineAt_ok h.2.2.1 hl.1 hl.2
  unfold aTable
  rw [fX11_table, top_t h]
  cases hL : tLn (sT S) l with
  | none => rw [l1 hL, Option.bind_some, if_pos rfl, iN_1]
  | some F =>
    obtain ⟨a, e, g⟩ := l2 F hL
    rw [e, Option.bind_some, if_neg (by simp), kgI_e g.1.2.1.1.1, Option.bind_some, g.2.1]
