/-! .. rows: making, putting, reading, copying -/
theorem rowL_ok {d : Int} (d0 : 0 ≤ d) (d8 : d.toNat < 8) (x2 x3 : Int32) (K : rW → Option (Int32 × rW)) : ∀ (m fu i : Nat) (w : rW), m < fu → i + m = 120 → ∃ w', fX12_row_L58 (iI d) x2 x3 fu (fun _ z => K z) (iI i) w = K w' ∧ Rq (ShA d.toNat) NoF w w' ∧ (∀ n, n ≠ 7 → rA w' n = rA w n) ∧ (∀ j, i ≤ j → j < 120 → rA w' 7 (120 * d.toNat + j) = iI ((0 : Nat) : Int)) ∧ ∀ j, j < i → rA w' 7 (120 * d.toNat + j) = rA w 7 (120 * d.toNat + j) := by
  have c120 : (120 : Int32) = iI ((120 : Nat) : Int) := by decide +kernel
  intro m
  induction m with
  | zero =>
    intro fu i w hf hi
    obtain ⟨fu, rfl⟩ : ∃ g, fu = g + 1 := ⟨fu - 1, by omega⟩
    exact ⟨w, by rw [fX12_row_L58, if_pos (by rw [c120, iI_le (by omega) (by omega) (by omega) (by omega)]; omega)], Rq.rf w, fun n _ => rfl, fun j h1 h2 => by omega, fun j _ => rfl⟩
  | succ m ih =>
    intro fu i w hf hi
    obtain ⟨fu, rfl⟩ : ∃ g, fu = g + 1 := ⟨fu - 1, by omega⟩
    obtain ⟨w', e, r, g1, g2, g3⟩ := ih fu (i + 1) (rSA w 7 (120 * d.toNat + i) (iI ((0 : Nat) : Int))) (by omega) (by omega)
    refine ⟨w', ?_, Rq.tr (Rq.sa (Or.inr ⟨rfl, by omega, by omega⟩)) r, fun n hn => by rw [g1 n hn, rA_SA_o hn], fun j h1 h2 => ?_, fun j hj => by rw [g3 j (by omega), rA_SA_j (by omega)]⟩
    · rw [fX12_row_L58, if_neg (by rw [c120, iI_le (by omega) (by omega) (by omega) (by omega)]; omega), e120 d0, rsN (by omega) (by omega), Option.bind_some, e1s]
      exact e
    · by_cases c : j = i
      · rw [c, g3 i (by omega), rA_SA_s]
      · exact g2 j (by omega) h2
theorem m_row {w : rW} {S : AS} (h : MI w S) {d so n : Int} (hd : I32 d) (hs' : I32 so) (hn : I32 n) : Md (fX12_row (iI d) (iI so) (iI n) w) (aRow S d so n).1 (aRow S d so n).2 := by
  have is := mIsShelf (S := S) hd
  have hs2 := hs'
  obtain ⟨s0, s1⟩ := hs'
  obtain ⟨n0, n1⟩ := hn
  have c120 : (120 : Int32) = iI ((120 : Nat) : Int) := by decide +kernel
  unfold aRow
  rw [fX12_row, is, Option.bind_some]
  cases hs : shAt S d with
  | none => exact Md.rf h (by rw [if_pos (show iB (none : Option Sh).isSome = 0 from rfl), iN_1])
  | some s =>
    obtain ⟨d8, de, ds⟩ := shAt_s hs
    rw [if_neg (show ¬ iB (some s).isSome = 0 from iB_tn), z0N, show (2 : Int64) = (iI 2).toInt64 by decide +kernel, isIn_ok hs2 (by unfold I32; omega) (by unfold I32; omega), Option.bind_some]
    show Md _ (if 0 ≤ so ∧ so ≤ 2 ∧ n ≤ 120 then (if 0 ≤ n then ((0 : Int), aSh S d.toNat (some (.inr (so.toNat, List.replicate n.toNat 0)))) else (-14, S)) else (-1, S)).1 (if 0 ≤ so ∧ so ≤ 2 ∧ n ≤ 120 then (if 0 ≤ n then ((0 : Int), aSh S d.toNat (some (.inr (so.toNat, List.replicate n.toNat 0)))) else (-14, S)) else (-1, S)).2
    by_cases c1 : 0 ≤ so ∧ so ≤ 2
    · rw [decide_eq_true c1, if_neg iB_tn]
      by_cases c2 : n ≤ 120
      · rw [if_pos (by rw [c120, iI_le (by omega) (by omega) (by omega) (by omega)]; omega), if_pos (show 0 ≤ so ∧ so ≤ 2 ∧ n ≤ 120 by omega)]
        by_cases c3 : 0 ≤ n
        · have eD : iI d = iI ((d.toNat : Nat) : Int) := by congr 1; omega
          have z0 : (0 : Int32) = iI ((0 : Nat) : Int) := rfl
          obtain ⟨w3, ew3⟩ : ∃ w3, w3 = rSA (rSA (rSA w 4 d.toNat (2 : Int32)) 5 d.toNat (iI so)) 6 d.toNat (iI n) := ⟨_, rfl⟩
          have r3 : Rq (ShA d.toNat) NoF w w3 := by
            rw [ew3]
            exact Rq.tr (Rq.tr (Rq.sa (Or.inl ⟨Or.inl rfl, rfl⟩)) (Rq.sa (Or.inl ⟨Or.inr (Or.inl rfl), rfl⟩))) (Rq.sa (Or.inl ⟨Or.inr (Or.inr (Or.inl rfl)), rfl⟩))
          obtain ⟨w', e, r, g1, g2, -⟩ := rowL_ok (d := d) (by omega) d8 (iI so) (iI n) (fun z => some ((0 : Int32), z)) 120 kFU 0 w3 (by unfold kFU; omega) (by omega)
          rw [if_pos (by rw [iL_0, iI_le (by omega) (by omega) (by omega) (by omega)]; exact c3), if_pos c3, eD, rsN (by omega) (by omega), Option.bind_some, rsN (by omega) (by omega), Option.bind_some, rsN (by omega) (by omega), Option.bind_some, ← ew3, ← eD]
          refine ⟨w', e, h.shf (r3.tr r) ⟨?_, ?_, ?_, ?_, by show so.toNat ≤ 2; omega, fun i c hc => ?_, fun c hc => ?_⟩⟩
          · rw [g1 4 (by omega), ew3, rA_SA_o (by omega), rA_SA_o (by omega), rA_SA_s]
            decide +kernel
          · rw [g1 5 (by omega), ew3, rA_SA_o (by omega), rA_SA_s]
            show iI so = iI ((so.toNat : Nat) : Int)
            congr 1
            omega
          · rw [g1 6 (by omega), ew3, rA_SA_s]
            show iI n = iI ((List.replicate n.toNat (0 : Int)).length : Int)
            rw [List.length_replicate]
            congr 1
            omega
          · show (List.replicate n.toNat (0 : Int)).length ≤ 120
            rw [List.length_replicate]
            omega
          · have hc' : (List.replicate n.toNat (0 : Int))[i]? = some c := hc
            have hi := (List.getElem?_eq_some_iff.mp hc').1
            rw [List.length_replicate] at hi
            rw [List.getElem?_replicate, if_pos hi] at hc'
            cases hc'
            exact g2 i (by omega) (by omega)
          · have hc' : c ∈ List.replicate n.toNat (0 : Int) := hc
            rw [List.eq_of_mem_replicate hc']
            exact ⟨fun _ => ⟨by omega, by omega⟩, fun _ => ⟨by omega, by omega⟩, by omega, by omega⟩
        · rw [if_neg (by rw [iL_0, iI_le (by omega) (by omega) (by omega) (by omega)]; exact c3), if_neg c3]
          exact ⟨w, by rw [show (-14 : Int32) = iI (-14) by decide +kernel], h⟩
      · rw [if_neg (by rw [c120, iI_le (by omega) (by omega) (by omega) (by omega)]; omega), if_neg (by omega)]
        exact ⟨w, by rw [iN_1], h⟩
    · rw [decide_eq_false c1, if_pos iB_fz, if_neg (by omega)]
      exact ⟨w, by rw [iN_1], h⟩
theorem m_put {w : rW} {S : AS} (h : MI w S) {d i v : Int} (hd : I32 d) (hi : I32 i) (hv : I32 v) : Md (fX12_put (iI d) (iI i) (iI v) w) (aPut S d i v).1 (aPut S d i v).2 := by
  obtain ⟨k1, k2⟩ := mWrongRow h hd
  have hi' := hi
  obtain ⟨i0, i1⟩ := hi
  have e13 : (-13 : Int32) = iI (-13) := by decide +kernel
  unfold aPut
  rw [fX12_put]
  cases hs : shAt S d with
  | none =>
    rw [k1 hs, Option.bind_some, if_neg (by decide +kernel)]
    exact ⟨w, rfl, h⟩
  | some s =>
    obtain ⟨-, e, hm⟩ := k2 s hs
    obtain ⟨d8, de, ds⟩ := shAt_s hs
    have bb := rRef_bd s
    rw [e, Option.bind_some]
    show Md _ (if rRef s = 0 then (if 0 ≤ i ∧ i < (rowL s).length then ((0 : Int), aSh S d.toNat (some (.inr (rowS s, (rowL s).set i.toNat (narI (rowS s) v))))) else (-13, S)) else (rRef s, S)).1 (if rRef s = 0 then (if 0 ≤ i ∧ i < (rowL s).length then ((0 : Int), aSh S d.toNat (some (.inr (rowS s, (rowL s).set i.toNat (narI (rowS s) v))))) else (-13, S)) else (rRef s, S)).2
    by_cases c : rRef s = 0
    · obtain ⟨⟨so, l⟩, rfl⟩ := rRef_0 c
      obtain ⟨m1, m2, m3, m4, m5, m6, m7⟩ := hm
      have m2' : rA w 5 d.toNat = iI so := m2
      have m3' : rA w 6 d.toNat = iI l.length := m3
      have m4' : l.length ≤ 120 := m4
      have m5' : so ≤ 2 := m5
      have eD : iI d = iI ((d.toNat : Nat) : Int) := by congr 1; omega
      rw [if_pos (by rw [c]; rfl), if_pos c, eD, raN (by omega) (by omega), Option.bind_some, m3', iL_1, iI_sub, z0N, isIn_ok hi' (by unfold I32; omega) (by unfold I32; omega), Option.bind_some]
      show Md _ (if 0 ≤ i ∧ i < l.length then ((0 : Int), aSh S d.toNat (some (.inr (so, l.set i.toNat (narI so v))))) else (-13, S)).1 (if 0 ≤ i ∧ i < l.length then ((0 : Int), aSh S d.toNat (some (.inr (so, l.set i.toNat (narI so v))))) else (-13, S)).2
      by_cases ci : 0 ≤ i ∧ i < l.length
      · have eI : iI i = iI ((i.toNat : Nat) : Int) := by congr 1; omega
        have e120' : (120 : Int32) * iI ((d.toNat : Nat) : Int) + iI ((i.toNat : Nat) : Int) = iI (120 * d.toNat + i.toNat : Nat) := by
          rw [show (120 : Int32) = iI 120 by decide +kernel, iI_mul, iI_add]
          congr 1
        have fin : ∀ x : Int32, x = iI (narI so v) → Md ((rsI w 7 960 (iI (120 * d.toNat + i.toNat : Nat)) x).bind fun w10 => some ((0 : Int32), w10)) 0 (aSh S d.toNat (some (.inr (so, l.set i.toNat (narI so v))))) := by
          intro x hx
          rw [rsN (by omega) (by omega), Option.bind_some, hx]
          refine ⟨_, rfl, h.shf (Rq.sa (Or.inr ⟨rfl, by omega, by omega⟩)) ⟨?_, ?_, ?_, ?_, m5, fun j c' hc => ?_, fun c' hc => ?_⟩⟩
          · rw [rA_SA_o (by omega)]; exact m1
          · rw [rA_SA_o (by omega)]; exact m2
          · rw [rA_SA_o (by omega)]
            show rA w 6 d.toNat = iI ((l.set i.toNat (narI so v)).length : Int)
            rw [List.length_set]
            exact m3
          · show (l.set i.toNat (narI so v)).length ≤ 120
            rw [List.length_set]
            exact m4
          · have hc' : (l.set i.toNat (narI so v))[j]? = some c' := hc
            by_cases cj : j = i.toNat
            · rw [cj, List.getElem?_set_self (by omega)] at hc'
              cases hc'
              rw [cj, rA_SA_s]
            · rw [List.getElem?_set_ne (by omega)] at hc'
              rw [rA_SA_j (by omega)]
              exact m6 j c' hc'
          · have hc' : c' ∈ l.set i.toNat (narI so v) := hc
            rcases List.mem_or_eq_of_mem_set hc' with z | z
            · exact m7 c' z
            · rw [z]; exact narI_el hv m5
        rw [decide_eq_true (by omega), if_neg iB_tn, if_pos ci, eI, e120', raN (by omega) (by omega), Option.bind_some, Option.bind_some, m2', nar8 hv, nar16 hv]
        by_cases s0 : so = 0
        · rw [if_pos (by rw [s0]; rfl)]
          exact fin _ (by unfold narI; rw [if_pos s0])
        rw [if_neg (by rw [iL_0, iI_eq (by omega) (by omega) (by omega) (by omega)]; omega)]
        by_cases s1 : so = 1
        · rw [if_pos (by rw [s1]; rfl)]
          exact fin _ (by unfold narI; rw [if_neg s0, if_pos s1])
        · rw [if_neg (by rw [iI_eq (by omega) (by omega) (by omega) (by omega)]; omega)]
          exact fin _ (by unfold narI; rw [if_neg s0, if_neg s1])
      · rw [decide_eq_false (by omega), if_pos iB_fz, if_neg ci]
        exact ⟨w, by rw [e13], h⟩
    · rw [if_neg (by rw [iL_0, iI_eq (by omega) (by omega) (by omega) (by omega)]; exact c), if_neg c]
      exact ⟨w, rfl, h⟩
/-- which throw, which element -/
def aElT (S : AS) (d i : Int) : Int := match shAt S d with
  | none => 1
  | some s => if rRef s = 0 ∧ 0 ≤ i ∧ i < (rowL s).length then 0 else 2
def aElV (S : AS) (d i : Int) : Int := match shAt S d with
  | none => 0
  | some s => elV (rowL s) i
theorem m_element {w : rW} {S : AS} (h : MI w S) {d i : Int} (hd : I32 d) (hi : I32 i) : ∃ w' v, fX12_element (iI d) (iI i) w = some (v, w') ∧ MI w' S ∧ rF w' 11 = iI (aElT S d i) ∧ (aElT S d i = 0 → v = (iI (aElV S d i)).toInt64) := by
  have is := mIsShelf (S := S) hd
  have hi' := hi
  obtain ⟨i0, i1⟩ := hi
  have sf : ∀ x : Int32, MI (rSF w 11 x) S := fun x => h.rq (Rq.sf ⟨by omega, by omega⟩)
  have f11 : ∀ x : Int32, rF (rSF w 11 x) 11 = x := fun x => rF_SF_s
  unfold aElT aElV
  rw [fX12_element, is, Option.bind_some]
  cases hs : shAt S d with
  | none =>
    rw [if_pos (show iB (none : Option Sh).isSome = 0 from rfl), rpN, Option.bind_some, f11, if_neg (by decide +kernel)]
    exact ⟨_, _, rfl, sf _, f11 _, fun z => by cases z⟩
  | some s =>
    obtain ⟨d8, de, ds⟩ := shAt_s hs
    have hm := h.2.2.1 d.toNat d8
    rw [← ds] at hm
    have eD : iI d = iI ((d.toNat : Nat) : Int) := by congr 1; omega
    rw [if_neg (show ¬ iB (some s).isSome = 0 from iB_tn), eD, raN (by omega) (by omega), Option.bind_some, rpN, rpN, Option.bind_some, Option.bind_some, f11, f11]
    show ∃ w' v, _ = some (v, w') ∧ MI w' S ∧ rF w' 11 = iI (if rRef s = 0 ∧ 0 ≤ i ∧ i < (rowL s).length then 0 else 2) ∧ ((if rRef s = 0 ∧ 0 ≤ i ∧ i < (rowL s).length then (0 : Int) else 2) = 0 → v = (iI (elV (rowL s) i)).toInt64)
    have no : rA w 4 d.toNat ≠ (2 : Int32) → rRef s ≠ 0 → ∃ w' v, (if rA w 4 d.toNat = (2 : Int32) then (raI w 6 8 (iI ((d.toNat : Nat) : Int))).bind (fun v6 => (fX12_isIn (iI i).toInt64 (0 : Int64) ((v6 - (1 : Int32)).toInt64)).bind fun v8 => if v8 = 0 then (if (2 : Int32) = 0 then (raI (rSF w 11 (2 : Int32)) 7 960 (((120 : Int32) * iI ((d.toNat : Nat) : Int)) + iI i)).bind (fun v12 => some (v12.toInt64, rSF w 11 (2 : Int32))) else some ((0 : Int64), rSF w 11 (2 : Int32))) else (if (0 : Int32) = 0 then (raI (rSF w 11 (0 : Int32)) 7 960 (((120 : Int32) * iI ((d.toNat : Nat) : Int)) + iI i)).bind (fun v10 => some (v10.toInt64, rSF w 11 (0 : Int32))) else some ((0 : Int64), rSF w 11 (0 : Int32)))) else (if (2 : Int32) = 0 then (raI (rSF w 11 (2 : Int32)) 7 960 (((120 : Int32) * iI ((d.toNat : Nat) : Int)) + iI i)).bind (fun v5 => some (v5.toInt64, rSF w 11 (2 : Int32))) else some ((0 : Int64), rSF w 11 (2 : Int32)))) = some (v, w') ∧ MI w' S ∧ rF w' 11 = iI (if rRef s = 0 ∧ 0 ≤ i ∧ i < (rowL s).length then 0 else 2) ∧ ((if rRef s = 0 ∧ 0 ≤ i ∧ i < (rowL s).length then (0 : Int) else 2) = 0 → v = (iI (elV (rowL s) i)).toInt64) := by
      intro a b
      rw [if_neg a, if_neg (by decide +kernel), if_neg (fun z => b z.1)]
      exact ⟨_, _, rfl, sf _, f11 _, fun z => by cases z⟩
    cases s with
    | none => exact no (by rw [show rA w 4 d.toNat = iI 0 from hm]; decide +kernel) (by decide)
    | some qq =>
      cases qq with
      | inl qq => exact no (by rw [hm.1]; decide +kernel) (by show (-12 : Int) ≠ 0; decide)
      | inr qq =>
        obtain ⟨so, l⟩ := qq
        obtain ⟨m1, m2, m3, m4, m5, m6, m7⟩ := hm
        have m3' : rA w 6 d.toNat = iI l.length := m3
        have m4' : l.length ≤ 120 := m4
        rw [if_pos (by rw [m1]; decide +kernel), raN (by omega) (by omega), Option.bind_some, m3', iL_1, iI_sub, z0N, isIn_ok hi' (by unfold I32; omega) (by unfold I32; omega), Option.bind_some]
        show ∃ w' v, _ = some (v, w') ∧ MI w' S ∧ rF w' 11 = iI (if (0 : Int) = 0 ∧ 0 ≤ i ∧ i < l.length then 0 else 2) ∧ ((if (0 : Int) = 0 ∧ 0 ≤ i ∧ i < l.length then (0 : Int) else 2) = 0 → v = (iI (elV l i)).toInt64)
        by_cases ci : 0 ≤ i ∧ i < l.length
        · have eI : iI i = iI ((i.toNat : Nat) : Int) := by congr 1; omega
          have e120' : (120 : Int32) * iI ((d.toNat : Nat) : Int) + iI ((i.toNat : Nat) : Int) = iI (120 * d.toNat + i.toNat : Nat) := by
            rw [show (120 : Int32) = iI 120 by decide +kernel, iI_mul, iI_add]
            congr 1
          have hil : i.toNat < l.length := by omega
          have e7 := m6 i.toNat l[i.toNat] (List.getElem?_eq_getElem hil)
          have eV : elV l i = l[i.toNat] := by
            unfold elV
            rw [if_pos ci.1, List.getD_eq_getElem?_getD, List.getElem?_eq_getElem hil]
            rfl
          rw [decide_eq_true (by omega), if_neg iB_tn, if_pos rfl, eI, e120', raN (by omega) (by omega), Option.bind_some, rA_SF, e7, eV, if_pos (show (0 : Int) = 0 ∧ 0 ≤ i ∧ i < l.length from ⟨rfl, ci⟩)]
          exact ⟨_, _, rfl, sf _, f11 _, fun _ => rfl⟩
        · rw [decide_eq_false (by omega), if_pos iB_fz, if_neg (by decide +kernel), if_neg (show ¬ ((0 : Int) = 0 ∧ 0 ≤ i ∧ i < l.length) from fun z => ci z.2)]
          exact ⟨_, _, rfl, sf _, f11 _, fun z => by cases z⟩
