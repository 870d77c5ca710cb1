/-! reading a program's text; its acts -/
/-- a row of ints that holds l from its start -/
def Rw (w : kW) (r n : Nat) (l : List Int) : Prop := kKd w r = 14 ∧ kLn w r = n ∧ l.length ≤ n ∧ ∀ (i : Nat) (c : Int), l[i]? = some c → kI w r i = iI c
theorem Rw.sm {ow : Nat → Nat × Nat} {S : Nat → Prop} {w w1 : kW} {r n : Nat} {l : List Int} (h : Rw w r n l) (hs : Sm ow S w w1) (hr : ¬ S (ow r).1) : Rw w1 r n l := by
  unfold Rw
  rw [hs.1, hs.2.1, hs.2.2.2.2.2 r hr]
  exact h
theorem pq_read {ow : Nat → Nat × Nat} {p cap r : Nat} {l : List Int} (hb : ∀ c ∈ l, -128 ≤ c ∧ c < 128) (hr : (ow r).1 ≠ p) (hN : l.length ≤ 120) (kont : kW → Option (Int32 × kW)) : ∀ (m n i : Nat) (w : kW) (s : PS), m < n → i + m = l.length → Rw w r 120 l → Pz ow w p cap s → pBd s → (psA s).length + m ≤ cap →
    ∃ w', fX3_readText_L2 p (some r) (iI l.length) n (fun _ q => kont q) (iI i) w = (match pGo s (l.drop i) i with | .inl j => some (iI j, w') | .inr _ => kont w') ∧ Sm ow (fun q => q = p) w w' ∧ ∀ s', pGo s (l.drop i) i = .inr s' → Pz ow w' p cap s' ∧ pBd s' := by
  intro m
  induction m with
  | zero =>
    intro n i w s hn hi hw hz hbd hc
    obtain ⟨n, rfl⟩ : ∃ z, n = z + 1 := ⟨n - 1, by omega⟩
    have e : l.drop i = [] := List.drop_eq_nil_of_le (by omega)
    rw [e]
    refine ⟨w, ?_, Sm.rf w, fun s' hs' => ?_⟩
    · rw [fX3_readText_L2, if_pos (by rw [iI_le (by omega) (by omega) (by omega) (by omega)]; omega)]
      rfl
    · have e2 : s = s' := Sum.inr.inj hs'
      rw [← e2]
      exact ⟨hz, hbd⟩
  | succ m ih =>
    intro n i w s hn hi hw hz hbd hc
    obtain ⟨n, rfl⟩ : ∃ z, n = z + 1 := ⟨n - 1, by omega⟩
    have hlt : i < l.length := by omega
    obtain ⟨k0, n0, l0, v0⟩ := id hw
    have hv := v0 i l[i] (List.getElem?_eq_getElem hlt)
    obtain ⟨b0, b1⟩ := hb l[i] (List.getElem_mem hlt)
    have hd : l.drop i = l[i] :: l.drop (i + 1) := List.drop_eq_getElem_cons hlt
    have hk := hz.1.1.1
    obtain ⟨w1, e1, m1, i1⟩ := pz_acc hz hbd (by omega) l[i] b0 b1
    have run : fX3_readText_L2 p (some r) (iI l.length) (n + 1) (fun _ q => kont q) (iI i) w = if iB (pStp s l[i]).isSome = 0 then some (iI i, w1) else fX3_readText_L2 p (some r) (iI l.length) n (fun _ q => kont q) (iI (i + 1 : Nat)) w1 := by
      rw [fX3_readText_L2, if_neg (by rw [iI_le (by omega) (by omega) (by omega) (by omega)]; omega), kal_e k0, Option.bind_some, n0, if_neg (by rw [iI_le (by omega) (by omega) (by omega) (by omega)]; omega), kaI_e k0 (by omega) (by rw [n0]; omega) (by omega), Option.bind_some, Int.toNat_natCast, hv, kRc_e hk, Option.bind_some, e1, kb2_s, iL_1, iI_add]
      rfl
    rw [run, hd]
    cases hp : pStp s l[i] with
    | none =>
      have eg : pGo s (l[i] :: l.drop (i + 1)) i = .inl i := by
        show (match pStp s l[i] with | none => _ | some s' => _) = _
        rw [hp]
      rw [eg, if_pos (show iB (none : Option PS).isSome = 0 from rfl)]
      exact ⟨w1, rfl, m1, fun s' hs' => by cases hs'⟩
    | some s2 =>
      have eg : pGo s (l[i] :: l.drop (i + 1)) i = pGo s2 (l.drop (i + 1)) (i + 1) := by
        show (match pStp s l[i] with | none => _ | some s' => _) = _
        rw [hp]
      rw [eg, if_neg (show ¬ iB (some s2).isSome = 0 by show ¬ iB true = 0; decide +kernel)]
      obtain ⟨z1, z2, z3⟩ := i1 s2 hp
      obtain ⟨w2, e2, m2, i2⟩ := ih n (i + 1) w1 s2 (by omega) (by omega) (hw.sm m1 hr) z1 z2 (by omega)
      exact ⟨w2, e2, m1.tr m2, i2⟩
theorem progRead_ok {ow : Nat → Nat × Nat} {w : kW} {p r : Nat} {l : List Int} (hb : ∀ c ∈ l, -128 ≤ c ∧ c < 128) (hr : (ow r).1 ≠ p) (hN : l.length ≤ 120) (hw : Rw w r 120 l) (hz : Pz ow w p l.length pS0) :
    ∃ w', fX3_readText p (some r) (iI l.length) w = some (iI (match pFt l with | some i => (i : Int) | none => -4), w') ∧ Sm ow (fun q => q = p) w w' ∧ (pFt l = none → Pq ow w' p l.length (pEnd l)) := by
  obtain ⟨w', e1, m1, i1⟩ := pq_read hb hr hN (fun w2 => if iI l.length ≤ 0 then some (iI l.length, w2) else (kgI w2 3 (some p) 5).bind fun v3 => if v3 = 0 then some ((-4 : Int32), w2) else some (iI l.length, w2)) l.length kFU 0 w pS0 (by unfold kFU; omega) (by omega) hw hz ⟨by decide, by decide, by decide, by decide, by decide, by decide⟩ (by simp [psA, pS0])
  have e0 : (0 : Int32) = iI ((0 : Nat) : Int) := by decide +kernel
  rw [List.drop_zero] at e1 i1
  refine ⟨w', ?_, m1, fun hf => ?_⟩
  · rw [fX3_readText]
    refine Eq.trans ?_ (e1.trans ?_)
    · rw [e0]
    · unfold pFt
      cases hg : pGo pS0 l 0 with
      | inl j => rfl
      | inr s =>
        obtain ⟨z1, z2⟩ := i1 s hg
        show (if iI l.length ≤ 0 then some (iI l.length, w') else (kgI w' 3 (some p) 5).bind fun v3 => if v3 = 0 then some ((-4 : Int32), w') else some (iI l.length, w')) = some (iI (match (if 0 < l.length ∧ s.1 = 0 then none else some l.length) with | some i => (i : Int) | none => -4), w')
        have hs2 := z2.1
        by_cases c1 : 0 < l.length
        · rw [if_neg (by rw [iL_0, iI_le (by omega) (by omega) (by omega) (by omega)]; omega), kgI_e z1.1.1.1, Option.bind_some, z1.2.1]
          by_cases c2 : s.1 = 0
          · rw [if_pos (by rw [c2]; rfl), if_pos ⟨c1, c2⟩]
            congr 2
          · rw [if_neg (by rw [iL_0, iI_eq (by omega) (by omega) (by omega) (by omega)]; omega), if_neg (fun z => c2 z.2)]
        · rw [if_pos (by rw [iL_0, iI_le (by omega) (by omega) (by omega) (by omega)]; omega), if_neg (fun z => c1 z.1)]
  · unfold pFt at hf
    unfold pEnd
    cases hg : pGo pS0 l 0 with
    | inl j => rw [hg] at hf; cases hf
    | inr s => exact (i1 s hg).1.1
theorem actAt_ok {ow : Nat → Nat × Nat} {w : kW} {p cap : Nat} {s : PS} (h : Pq ow w p cap s) {i : Nat} (hi : i < (psA s).length) : fX3_actAt p (iI i) w = some (iI (psA s)[i]) := by
  obtain ⟨⟨hk, ho, hcap, p0, k0, n0, o0⟩, g2, ⟨g3, g4, g5, g6⟩, g7⟩ := h
  have hv := g7 i (psA s)[i] (List.getElem?_eq_getElem hi)
  rw [fX3_actAt, if_neg (by rw [iL_0, iI_lt (by omega) (by omega) (by omega) (by omega)]; omega), kgI_e hk, Option.bind_some, g3, if_neg (by rw [iI_le (by omega) (by omega) (by omega) (by omega)]; omega), kgP_e hk, Option.bind_some, p0, kal_e k0, Option.bind_some, n0, if_neg (by rw [iI_le (by omega) (by omega) (by omega) (by omega)]; omega), Option.bind_some, kaI_e k0 (by omega) (by rw [n0]; omega) (by omega), Option.bind_some, Int.toNat_natCast, hv]
