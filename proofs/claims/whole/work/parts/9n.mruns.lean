/-! THE MODEL: what a program says, a run from its beginning -/
def TpA (n _i : Nat) : Prop := n = 12
def TpF (j : Nat) : Prop := 21 ≤ j ∧ j ≤ 24
def LsR (la lm : Nat) : Prop := la = lm ∨ (la = 1000000 ∧ lm = 40)
def TR (w : rW) (i : Nat) (s : PS) (v letter : Nat) : Prop := ∃ (cards : List Nat) (lkm : Bool) (lm : Nat), (MkC w cards ∧ cards.length ≤ i) ∧ rF w 24 = iB lkm ∧ rF w 22 = iI lm ∧ rF w 23 = iI (psS s) ∧ LsR (psN s) lm ∧ ((s.1 = 0 ∧ psA s = cards ∧ psL s = lkm) ∨ (s.1 = 1 ∧ (((letter = 109 ∨ letter = 100 ∨ letter = 99) ∧ psA s = cards ++ [letter] ∧ psL s = lkm) ∨ (letter = 108 ∧ psA s = cards ∧ psL s = true))) ∨ (s.1 = 2 ∧ letter = s.2.1 ∧ v = s.2.2.1 ∧ (letter = 107 ∨ letter = 115) ∧ psA s = cards ∧ psL s = lkm))
theorem MkC.fld {w w' : rW} {cards : List Nat} (h : MkC w cards) (h21 : rF w' 21 = rF w 21) (h12 : rA w' 12 = rA w 12) : MkC w' cards := ⟨by rw [h21]; exact h.1, h.2.1, fun j c e => by rw [h12]; exact h.2.2 j c e⟩
theorem takesL {u : List Int} {at' : Nat} (hat : at' + 121 ≤ 1000) (hu : u.length ≤ 120) (hb : ∀ c ∈ u, -128 ≤ c ∧ c < 128) {sF : PS} (h0 : sF.1 = 0) (x1 : Int32) : ∀ (l : List Int) (fu i : Nat) (w : rW) (s : PS) (v letter : Nat), l.length < fu → l = u.drop i → i + l.length = u.length → pGo s l i = .inr sF → pBd s → pAc s → TR w i s v letter → letter < 200 → v < 2000 → rA w 2 at' = iI u.length → (∀ (i : Nat) (c : Int), u[i]? = some c → rA w 2 (at' + 1 + i) = iI c) →
    ∃ (w' : rW) (lm : Nat), fX12_takesProgram_L39 x1 (iI at') fu (fun _ _ _ q => some q) (iI v) (iI letter) (iI (i + 1 : Nat)) w = some w' ∧ Rq TpA TpF w w' ∧ MkC w' (psA sF) ∧ rF w' 24 = iB (psL sF) ∧ rF w' 23 = iI (psS sF) ∧ rF w' 22 = iI lm ∧ LsR (psN sF) lm := by
  have c48 : (48 : Int32) = iI ((48 : Nat) : Int) := by decide +kernel
  have c57 : (57 : Int32) = iI ((57 : Nat) : Int) := by decide +kernel
  have c59 : (59 : Int32) = iI ((59 : Nat) : Int) := by decide +kernel
  have c107 : (107 : Int32) = iI ((107 : Nat) : Int) := by decide +kernel
  have c115 : (115 : Int32) = iI ((115 : Nat) : Int) := by decide +kernel
  have c108 : (108 : Int32) = iI ((108 : Nat) : Int) := by decide +kernel
  have c100 : (100 : Int32) = iI ((100 : Nat) : Int) := by decide +kernel
  have c10 : (10 : Int32) = iI ((10 : Nat) : Int) := by decide +kernel
  intro l
  induction l with
  | nil =>
    intro fu i w s v letter hf hl hi hg hbd hac ht hlt hv h1 h2
    obtain ⟨fu, rfl⟩ : ∃ z, fu = z + 1 := ⟨fu - 1, by omega⟩
    rw [List.length_nil] at hi
    have es : s = sF := Sum.inr.inj hg
    obtain ⟨cards, lkm, lm, ⟨t1, -⟩, t2, t3, t4, t5, t6⟩ := ht
    have t6' := t6.resolve_right (fun z => by rcases z with z | z <;> (rw [es] at z; have := z.1; omega))
    rw [es] at t4 t5 t6'
    refine ⟨w, lm, ?_, Rq.rf w, by rw [t6'.2.1]; exact t1, by rw [t6'.2.2]; exact t2, t4, t3, t5⟩
    rw [fX12_takesProgram_L39, raN (by omega) (by omega), Option.bind_some, h1, if_pos (by rw [iI_lt (by omega) (by omega) (by omega) (by omega)]; omega)]
  | cons c l ih =>
    intro fu i w s v letter hf hl hi hg hbd hac ht hlt hv h1 h2
    obtain ⟨fu, rfl⟩ : ∃ z, fu = z + 1 := ⟨fu - 1, by omega⟩
    rw [List.length_cons] at hf hi
    obtain ⟨e0, el, hlu⟩ := drop_cons hl
    have hcu : u[i]? = some c := by
      have e2 := List.getElem?_eq_getElem hlu
      unfold sg at e0
      rw [e2] at e0 ⊢
      exact congrArg some e0
    have cb := hb c (List.mem_of_getElem? hcu)
    obtain ⟨s', hs⟩ : ∃ s', pStp s c = some s' := by
      cases hs : pStp s c with
      | none => rw [pGo_stop hs] at hg; cases hg
      | some s' => exact ⟨s', rfl⟩
    rw [pGo_cons hs] at hg
    obtain ⟨hbd', hac'⟩ := pStp_bd hbd hac cb.1 cb.2 hs
    have ei : iI ((i + 1 : Nat) : Int) + (1 : Int32) = iI ((i + 1 + 1 : Nat) : Int) := by rw [iL_1, iI_add]; rfl
    have is : ∀ n : Nat, n < 200 → (iI c = iI n) = (c = n) := fun n hn => iI_is (by omega) n (by omega)
    have lis : ∀ n : Nat, n < 200 → (iI (letter : Int) = iI n) = (letter = n) := fun n hn => by rw [iI_eq (by omega) (by omega) (by omega) (by omega)]; exact propext ⟨fun z => by omega, fun z => by omega⟩
    -- what is to be shown behind this sign
    have go : ∀ (w1 : rW) (v' letter' : Nat), Rq TpA TpF w w1 → TR w1 (i + 1) s' v' letter' → letter' < 200 → v' < 2000 → ∃ (w' : rW) (lm : Nat), fX12_takesProgram_L39 x1 (iI at') fu (fun _ _ _ q => some q) (iI v') (iI letter') (iI (i + 1 + 1 : Nat)) w1 = some w' ∧ Rq TpA TpF w w' ∧ MkC w' (psA sF) ∧ rF w' 24 = iB (psL sF) ∧ rF w' 23 = iI (psS sF) ∧ rF w' 22 = iI lm ∧ LsR (psN sF) lm := by
      intro w1 v' letter' r1 t1 l1 v1
      obtain ⟨w', lm, q1, q2, q3⟩ := ih fu (i + 1) w1 s' v' letter' (by omega) el (by omega) hg hbd' hac' t1 l1 v1 (by rw [r1.1 2 _ (fun z => by have z' : (2 : Nat) = 12 := z; omega)]; exact h1) (fun j d hd => by rw [r1.1 2 _ (fun z => by have z' : (2 : Nat) = 12 := z; omega)]; exact h2 j d hd)
      exact ⟨w', lm, q1, r1.tr q2, q3⟩
    have run : fX12_takesProgram_L39 x1 (iI at') (fu + 1) (fun _ _ _ q => some q) (iI v) (iI letter) (iI (i + 1 : Nat)) w = if 48 ≤ c ∧ c ≤ 57 then fX12_takesProgram_L39 x1 (iI at') fu (fun _ _ _ q => some q) (iI (10 * v + c - 48)) (iI letter) (iI (i + 1 + 1 : Nat)) w else fX12_takesProgram_J39_89 (fun q3 q4 q5 qw => fX12_takesProgram_L39 x1 (iI at') fu (fun _ _ _ q => some q) q3 q4 q5 qw) (fun _ _ _ q => some q) x1 (iI at') (iI v) (iI letter) (iI (i + 1 : Nat)) (iI c) w := by
      have e2 := h2 i c hcu
      rw [fX12_takesProgram_L39, raN (by omega) (by omega), Option.bind_some, h1, if_neg (by rw [iI_lt (by omega) (by omega) (by omega) (by omega)]; omega), iI_add, show (at' : Int) + ((i + 1 : Nat) : Int) = ((at' + 1 + i : Nat) : Int) by omega, raN (by omega) (by omega), Option.bind_some, e2, c48, c57, c10, iI_mul, iI_add, iI_sub, ei]
      by_cases d1 : c < 48
      · rw [if_pos (by rw [iI_lt (by omega) (by omega) (by omega) (by omega)]; omega), if_neg (by omega)]
      rw [if_neg (by rw [iI_lt (by omega) (by omega) (by omega) (by omega)]; omega)]
      by_cases d2 : 57 < c
      · rw [if_pos (by rw [iI_lt (by omega) (by omega) (by omega) (by omega)]; omega), if_neg (by omega)]
      · rw [if_neg (by rw [iI_lt (by omega) (by omega) (by omega) (by omega)]; omega), if_pos (by omega)]
        rfl
    have j89 : ¬ (48 ≤ c ∧ c ≤ 57) → c ≠ 59 → fX12_takesProgram_L39 x1 (iI at') (fu + 1) (fun _ _ _ q => some q) (iI v) (iI letter) (iI (i + 1 : Nat)) w = fX12_takesProgram_L39 x1 (iI at') fu (fun _ _ _ q => some q) (iI ((0 : Nat) : Int)) (iI c) (iI (i + 1 + 1 : Nat)) w := by
      intro d1 d2
      rw [run, if_neg d1, fX12_takesProgram_J39_89, c59, if_neg (by rw [is 59 (by omega)]; exact d2), ei]
      rfl
    have end' : c = 59 → fX12_takesProgram_L39 x1 (iI at') (fu + 1) (fun _ _ _ q => some q) (iI v) (iI letter) (iI (i + 1 : Nat)) w = if letter = 107 then fX12_takesProgram_L39 x1 (iI at') fu (fun _ _ _ q => some q) (iI v) (iI letter) (iI (i + 1 + 1 : Nat)) (rSF w 22 (iI v)) else if letter = 115 then fX12_takesProgram_L39 x1 (iI at') fu (fun _ _ _ q => some q) (iI v) (iI letter) (iI (i + 1 + 1 : Nat)) (rSF w 23 (iI (min v 100 : Nat))) else if letter = 108 then fX12_takesProgram_L39 x1 (iI at') fu (fun _ _ _ q => some q) (iI v) (iI letter) (iI (i + 1 + 1 : Nat)) (rSF w 24 1) else (rsI w 12 120 (rF w 21) (iI letter)).bind fun w1 => (rpF w1 21 ((rF w1 21) + (1 : Int32))).bind fun w2 => fX12_takesProgram_L39 x1 (iI at') fu (fun _ _ _ q => some q) (iI v) (iI letter) (iI (i + 1 + 1 : Nat)) w2 := by
      intro d1
      rw [run, if_neg (by omega), fX12_takesProgram_J39_89, d1, if_pos (by decide +kernel), ei, c107, c115, c108]
      simp only [lis 107 (by omega), lis 115 (by omega), lis 108 (by omega)]
      by_cases q1 : letter = 107
      · rw [if_pos q1, if_pos q1]
        rfl
      rw [if_neg q1, if_neg q1]
      by_cases q2 : letter = 115
      · rw [if_pos q2, if_pos q2, c100]
        by_cases q3 : v ≤ 100
        · rw [if_pos (by rw [iI_le (by omega) (by omega) (by omega) (by omega)]; omega), Nat.min_eq_left q3]
          rfl
        · rw [if_neg (by rw [iI_le (by omega) (by omega) (by omega) (by omega)]; omega), Nat.min_eq_right (by omega)]
          rfl
      rw [if_neg q2, if_neg q2]
      by_cases q3 : letter = 108
      · rw [if_pos q3, if_pos q3]
        rfl
      · rw [if_neg q3, if_neg q3]
    obtain ⟨cards, lkm, lm, ⟨t1, t1'⟩, t2, t3, t4, t5, t6⟩ := ht
    obtain ⟨s1, nb, nu, di, ac, lk, la, st⟩ := s
    have t4' : rF w 23 = iI st := t4
    have t5' : LsR la lm := t5
    have t1'' : cards.length ≤ i + 1 := by omega
    rcases t6 with ⟨q1, q2, q3⟩ | ⟨q1, q2⟩ | ⟨q1, q2, q3, q4, q5, q6⟩
    · -- a statement begins
      have q1' : s1 = 0 := q1
      have q2' : ac = cards := q2
      have q3' : lk = lkm := q3
      subst q1' q2' q3'
      have hp : pStp (0, nb, nu, di, ac, lk, la, st) c = if c = 109 ∨ c = 100 ∨ c = 99 then some (1, nb, nu, di, ac ++ [c.toNat], lk, la, st) else if c = 108 then some (1, nb, nu, di, ac, true, la, st) else if c = 107 ∨ c = 115 then some (2, c.toNat, 0, 0, ac, lk, la, st) else none := rfl
      rw [hp] at hs
      have ec : iI c = iI (c.toNat : Int) → True := fun _ => trivial
      by_cases a1 : c = 109 ∨ c = 100 ∨ c = 99
      · rw [if_pos a1] at hs
        cases hs
        rw [j89 (by omega) (by omega), show c = ((c.toNat : Nat) : Int) by omega]
        exact go w 0 c.toNat (Rq.rf w) ⟨ac, lk, lm, ⟨t1, t1''⟩, t2, t3, t4', t5', Or.inr (Or.inl ⟨rfl, Or.inl ⟨by omega, rfl, rfl⟩⟩)⟩ (by omega) (by omega)
      rw [if_neg a1] at hs
      by_cases a2 : c = 108
      · rw [if_pos a2] at hs
        cases hs
        rw [j89 (by omega) (by omega), show c = ((108 : Nat) : Int) by omega]
        exact go w 0 108 (Rq.rf w) ⟨ac, lk, lm, ⟨t1, t1''⟩, t2, t3, t4', t5', Or.inr (Or.inl ⟨rfl, Or.inr ⟨rfl, rfl, rfl⟩⟩)⟩ (by omega) (by omega)
      rw [if_neg a2] at hs
      by_cases a3 : c = 107 ∨ c = 115
      · rw [if_pos a3] at hs
        cases hs
        rw [j89 (by omega) (by omega), show c = ((c.toNat : Nat) : Int) by omega]
        exact go w 0 c.toNat (Rq.rf w) ⟨ac, lk, lm, ⟨t1, t1''⟩, t2, t3, t4', t5', Or.inr (Or.inr ⟨rfl, rfl, rfl, by omega, rfl, rfl⟩)⟩ (by omega) (by omega)
      · rw [if_neg a3] at hs
        cases hs
    · -- it ends
      have q1' : s1 = 1 := q1
      subst q1'
      have hp : pStp (1, nb, nu, di, ac, lk, la, st) c = if c = 59 then some (0, nb, nu, di, ac, lk, la, st) else none := rfl
      rw [hp] at hs
      by_cases a1 : c = 59
      · rw [if_pos a1] at hs
        cases hs
        rw [end' a1]
        rcases q2 with ⟨q2, q3, q4⟩ | ⟨q2, q3, q4⟩
        · have q3' : ac = cards ++ [letter] := q3
          have q4' : lk = lkm := q4
          rw [if_neg (by omega), if_neg (by omega), if_neg (by omega), t1.1, rsN (by omega) (by omega), Option.bind_some, rpN, Option.bind_some, rF_SA, t1.1, e1s]
          refine go _ v letter (Rq.tr (Rq.sa rfl) (Rq.sf ⟨by omega, by omega⟩)) ⟨cards ++ [letter], lkm, lm, ⟨⟨?_, ?_, fun j d hd => ?_⟩, ?_⟩, (rF_SF_o (by omega)).trans t2, (rF_SF_o (by omega)).trans t3, (rF_SF_o (by omega)).trans t4', t5', Or.inl ⟨rfl, q3', q4'⟩⟩ hlt hv
          · rw [rF_SF_s, List.length_append, List.length_singleton]
          · rw [List.length_append, List.length_singleton]; omega
          · rw [rA_SF]
            by_cases cj : j < cards.length
            · rw [List.getElem?_append_left cj] at hd
              rw [rA_SA_j (by omega)]
              exact t1.2.2 j d hd
            · have hj := (List.getElem?_eq_some_iff.mp hd).1
              rw [List.length_append, List.length_singleton] at hj
              have ej : j = cards.length := by omega
              rw [ej, List.getElem?_append_right (Nat.le_refl _), Nat.sub_self] at hd
              cases hd
              rw [ej, rA_SA_s]
              exact ⟨rfl, q2⟩
          · rw [List.length_append, List.length_singleton]; omega
        · have q3' : ac = cards := q3
          have q4' : lk = true := q4
          rw [if_neg (by omega), if_neg (by omega), if_pos q2]
          exact go _ v letter (Rq.sf ⟨by omega, by omega⟩) ⟨cards, true, lm, ⟨t1.fld (rF_SF_o (by omega)) rfl, t1''⟩, rF_SF_s, (rF_SF_o (by omega)).trans t3, (rF_SF_o (by omega)).trans t4', t5', Or.inl ⟨rfl, q3', q4'⟩⟩ hlt hv
      · rw [if_neg a1] at hs
        cases hs
    · -- a number
      have q1' : s1 = 2 := q1
      have q2' : letter = nb := q2
      have q3' : v = nu := q3
      have q5' : ac = cards := q5
      have q6' : lk = lkm := q6
      subst q1' q2' q3' q5' q6'
      have b1 : v < 10 ^ di := hbd.2.2.2.1
      have b2 : di ≤ 3 := hbd.2.2.1
      have b3 : 10 ^ di ≤ 10 ^ 3 := Nat.pow_le_pow_right (by decide) b2
      have b4 : v < 1000 := Nat.lt_of_lt_of_le b1 b3
      rw [pStp_2] at hs
      by_cases a1 : (if di = 0 then 49 else 48) ≤ c ∧ c ≤ 57 ∧ di < 3
      · rw [if_pos a1] at hs
        cases hs
        have a48 : 48 ≤ c := by
          have := a1.1
          split at this <;> omega
        have b5 : v * 10 + (c - 48).toNat < 10 ^ (di + 1) := hbd'.2.2.2.1
        have b6 : 10 ^ (di + 1) ≤ 10 ^ 3 := Nat.pow_le_pow_right (by decide) (by omega)
        have b7 : v * 10 + (c - 48).toNat < 1000 := Nat.lt_of_lt_of_le b5 b6
        rw [run, if_pos ⟨a48, a1.2.1⟩, show (10 : Int) * (v : Int) + c - 48 = ((v * 10 + (c - 48).toNat : Nat) : Int) by omega]
        exact go w _ letter (Rq.rf w) ⟨ac, lk, lm, ⟨t1, t1''⟩, t2, t3, t4', t5', Or.inr (Or.inr ⟨rfl, rfl, rfl, q4, rfl, rfl⟩)⟩ hlt (by omega)
      rw [if_neg a1] at hs
      by_cases a2 : di = 0 ∨ c ≠ 59
      · rw [if_pos a2] at hs
        cases hs
      rw [if_neg a2] at hs
      have a59 : c = 59 := Classical.byContradiction fun z => a2 (Or.inr z)
      rw [end' a59]
      rcases q4 with q4 | q4
      · rw [if_pos q4] at hs
        cases hs
        rw [if_pos q4]
        exact go _ v letter (Rq.sf ⟨by omega, by omega⟩) ⟨ac, lk, v, ⟨t1.fld (rF_SF_o (by omega)) rfl, t1''⟩, (rF_SF_o (by omega)).trans t2, rF_SF_s, (rF_SF_o (by omega)).trans t4', Or.inl rfl, Or.inl ⟨rfl, rfl, rfl⟩⟩ hlt hv
      · rw [if_neg (by omega)] at hs
        cases hs
        rw [if_neg (by omega), if_pos q4]
        exact go _ v letter (Rq.sf ⟨by omega, by omega⟩) ⟨ac, lk, lm, ⟨t1.fld (rF_SF_o (by omega)) rfl, t1''⟩, (rF_SF_o (by omega)).trans t2, (rF_SF_o (by omega)).trans t3, rF_SF_s, t5', Or.inl ⟨rfl, rfl, rfl⟩⟩ hlt hv
theorem pEnd_inr {u : List Int} (h : pFt u = none) : pGo pS0 u 0 = .inr (pEnd u) ∧ (pEnd u).1 = 0 := by
  unfold pFt at h
  unfold pEnd
  cases hg : pGo pS0 u 0 with
  | inl j => rw [hg] at h; cases h
  | inr s =>
    rw [hg] at h
    have h' : (if 0 < u.length ∧ s.1 = 0 then (none : Option Nat) else some u.length) = none := h
    refine ⟨rfl, ?_⟩
    by_cases c : 0 < u.length ∧ s.1 = 0
    · exact c.2
    · rw [if_neg c] at h'; cases h'
theorem takes_prog {w : rW} {u : List Int} {p : Nat} (hp : p < 6) (hu : u.length ≤ 120) (hb : ∀ c ∈ u, -128 ≤ c ∧ c < 128) (h0 : pFt u = none) (h1 : rA w 2 (243 + 121 * p) = iI u.length) (h2 : ∀ (i : Nat) (c : Int), u[i]? = some c → rA w 2 (243 + 121 * p + 1 + i) = iI c) : ∃ (w' : rW) (lm : Nat), fX12_takesProgram (iI p) w = some w' ∧ Rq TpA TpF w w' ∧ MkC w' (psA (pEnd u)) ∧ rF w' 24 = iB (psL (pEnd u)) ∧ rF w' 23 = iI (psS (pEnd u)) ∧ rF w' 22 = iI lm ∧ LsR (psN (pEnd u)) lm := by
  obtain ⟨g1, g2⟩ := pEnd_inr h0
  obtain ⟨w4, ew4⟩ : ∃ w4, w4 = rSF (rSF (rSF (rSF w 21 (0 : Int32)) 22 (40 : Int32)) 23 (60 : Int32)) 24 (0 : Int32) := ⟨_, rfl⟩
  have r4 : Rq TpA TpF w w4 := by
    rw [ew4]
    exact Rq.tr (Rq.tr (Rq.tr (Rq.sf ⟨by omega, by omega⟩) (Rq.sf ⟨by omega, by omega⟩)) (Rq.sf ⟨by omega, by omega⟩)) (Rq.sf ⟨by omega, by omega⟩)
  have f21 : rF w4 21 = iI (([] : List Nat).length : Nat) := by rw [ew4, rF_SF_o (by omega), rF_SF_o (by omega), rF_SF_o (by omega), rF_SF_s]; rfl
  have f22 : rF w4 22 = iI ((40 : Nat) : Int) := by rw [ew4, rF_SF_o (by omega), rF_SF_o (by omega), rF_SF_s]; decide +kernel
  have f23 : rF w4 23 = iI ((60 : Nat) : Int) := by rw [ew4, rF_SF_o (by omega), rF_SF_s]; decide +kernel
  have f24 : rF w4 24 = iB false := by rw [ew4, rF_SF_s]; rfl
  have bd : pBd pS0 ∧ pAc pS0 := by
    refine ⟨⟨by decide, by decide, by decide, by decide, by decide, by decide⟩, fun c hc => ?_⟩
    have hc' : c ∈ ([] : List Nat) := hc
    cases hc'
  obtain ⟨w', lm, e, r, rest⟩ := takesL (at' := 243 + 121 * p) (by omega) hu hb g2 (iI p) u kFU 0 w4 pS0 0 0 (by unfold kFU; omega) rfl (by omega) g1 bd.1 bd.2 ⟨[], false, 40, ⟨⟨f21, Nat.zero_le _, fun j c z => by cases z⟩, Nat.le_refl _⟩, f24, f22, f23, Or.inr ⟨rfl, rfl⟩, Or.inl ⟨rfl, rfl, rfl⟩⟩ (by omega) (by omega) (by rw [ew4]; exact h1) (fun i c hc => by rw [ew4]; exact h2 i c hc)
  refine ⟨w', lm, ?_, r4.tr r, rest⟩
  have ea : (243 : Int32) + ((121 : Int32) * iI p) = iI (243 + 121 * p : Nat) := by
    rw [show (243 : Int32) = iI 243 by decide +kernel, show (121 : Int32) = iI 121 by decide +kernel, iI_mul, iI_add]
    congr 1
  rw [fX12_takesProgram, rpN, Option.bind_some, rpN, Option.bind_some, rpN, Option.bind_some, rpN, Option.bind_some, ← ew4, ea]
  exact e
