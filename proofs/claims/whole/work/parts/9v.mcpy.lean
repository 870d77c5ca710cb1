/-! .. copying -/
theorem cpL {d e : Int} (d0 : 0 ≤ d) (d8 : d.toNat < 8) (e0 : 0 ≤ e) (e8 : e.toNat < 8) {i j n : Nat} (hi : i + n ≤ 120) (hj : j + n ≤ 120) {w0 : rW} (K : rW → Option (Int32 × rW)) : ∀ (m fu k : Nat) (w : rW), m < fu → k + m = n → (∀ c, rA w 7 c = if (120 * e.toNat + j + (if i ≤ j then n - k else 0) ≤ c ∧ c < 120 * e.toNat + j + (if i ≤ j then n else k)) then rA w0 7 (120 * d.toNat + i + (c - (120 * e.toNat + j))) else rA w0 7 c) → (∀ n, n ≠ 7 → rA w n = rA w0 n) → (∀ j, rF w j = rF w0 j) →
    ∃ w', fX12_copy_L122 (iI d) (iI i) (iI e) (iI j) (iI n) fu (fun _ z => K z) (iI k) w = K w' ∧ (∀ c, rA w' 7 c = if 120 * e.toNat + j ≤ c ∧ c < 120 * e.toNat + j + n then rA w0 7 (120 * d.toNat + i + (c - (120 * e.toNat + j))) else rA w0 7 c) ∧ (∀ n, n ≠ 7 → rA w' n = rA w0 n) ∧ ∀ j, rF w' j = rF w0 j := by
  intro m
  induction m with
  | zero =>
    intro fu k w hf hk h7 hn hF
    obtain ⟨fu, rfl⟩ : ∃ z, fu = z + 1 := ⟨fu - 1, by omega⟩
    have hk' : k = n := hk
    refine ⟨w, by rw [fX12_copy_L122, if_pos (by rw [iI_le (by omega) (by omega) (by omega) (by omega)]; omega)], fun c => ?_, hn, hF⟩
    rw [h7 c]
    have e1 : (if i ≤ j then n - k else 0) = 0 := by split <;> omega
    have e2 : (if i ≤ j then n else k) = n := by split <;> omega
    rw [e1, e2, Nat.add_zero]
  | succ m ih =>
    intro fu k w hf hk h7 hn hF
    obtain ⟨fu, rfl⟩ : ∃ z, fu = z + 1 := ⟨fu - 1, by omega⟩
    have go : ∀ t : Nat, t < n → (t = if i ≤ j then n - 1 - k else k) → ∃ w', fX12_copy_J122_147 (fun q6 qw => fX12_copy_L122 (iI d) (iI i) (iI e) (iI j) (iI n) fu (fun _ z => K z) q6 qw) (fun _ z => K z) (iI d) (iI i) (iI e) (iI j) (iI n) (iI k) (iI t) w = K w' ∧ (∀ c, rA w' 7 c = if 120 * e.toNat + j ≤ c ∧ c < 120 * e.toNat + j + n then rA w0 7 (120 * d.toNat + i + (c - (120 * e.toNat + j))) else rA w0 7 c) ∧ (∀ n, n ≠ 7 → rA w' n = rA w0 n) ∧ ∀ j, rF w' j = rF w0 j := by
      intro t ht htk
      have a1 : (120 : Int32) * iI d + iI i + iI t = iI (120 * d.toNat + i + t : Nat) := by rw [e120 d0, iI_add]; rfl
      have a2 : (120 : Int32) * iI e + iI j + iI t = iI (120 * e.toNat + j + t : Nat) := by rw [e120 e0, iI_add]; rfl
      have src : rA w 7 (120 * d.toNat + i + t) = rA w0 7 (120 * d.toNat + i + t) := by
        rw [h7]
        by_cases ij : i ≤ j
        · rw [if_pos ij] at htk
          rw [if_pos ij, if_pos ij]
          refine if_neg ?_
          rintro ⟨z1, z2⟩
          by_cases de : d.toNat = e.toNat
          · omega
          · omega
        · rw [if_neg ij] at htk
          rw [if_neg ij, if_neg ij]
          refine if_neg ?_
          rintro ⟨z1, z2⟩
          by_cases de : d.toNat = e.toNat
          · omega
          · omega
      rw [fX12_copy_J122_147, a1, raN (by omega) (by omega), Option.bind_some, src, a2, rsN (by omega) (by omega), Option.bind_some, e1s]
      refine ih fu (k + 1) _ (by omega) (by omega) (fun c => ?_) (fun n' hn' => by rw [rA_SA_o hn']; exact hn n' hn') (fun j' => hF j')
      by_cases cc : c = 120 * e.toNat + j + t
      · rw [cc, rA_SA_s]
        by_cases ij : i ≤ j
        · rw [if_pos ij] at htk
          rw [if_pos ij, if_pos ij, if_pos (by omega)]
          congr 1
          omega
        · rw [if_neg ij] at htk
          rw [if_neg ij, if_neg ij, if_pos (by omega)]
          congr 1
          omega
      · rw [rA_SA_j cc, h7 c]
        by_cases ij : i ≤ j
        · rw [if_pos ij] at htk
          rw [if_pos ij, if_pos ij, if_pos ij, if_pos ij]
          by_cases c1 : 120 * e.toNat + j + (n - k) ≤ c ∧ c < 120 * e.toNat + j + n
          · rw [if_pos c1, if_pos (by omega)]
          · rw [if_neg c1, if_neg (by omega)]
        · rw [if_neg ij] at htk
          rw [if_neg ij, if_neg ij, if_neg ij, if_neg ij]
          by_cases c1 : 120 * e.toNat + j + 0 ≤ c ∧ c < 120 * e.toNat + j + k
          · rw [if_pos c1, if_pos (by omega)]
          · rw [if_neg c1, if_neg (by omega)]
    rw [fX12_copy_L122, if_neg (by rw [iI_le (by omega) (by omega) (by omega) (by omega)]; omega)]
    by_cases ij : i ≤ j
    · rw [if_pos (by rw [iI_le (by omega) (by omega) (by omega) (by omega)]; omega), iL_1, iI_sub, iI_sub, show (n : Int) - 1 - (k : Int) = ((n - 1 - k : Nat) : Int) by omega]
      have := go (n - 1 - k) (by omega) (by rw [if_pos ij])
      exact this
    · rw [if_neg (by rw [iI_le (by omega) (by omega) (by omega) (by omega)]; omega)]
      exact go k (by omega) (by rw [if_neg ij])
theorem m_copy {w : rW} {S : AS} (h : MI w S) {d i e j n : Int} (hd : I32 d) (hi : I32 i) (he : I32 e) (hj : I32 j) (hn : I32 n) : Md (fX12_copy (iI d) (iI i) (iI e) (iI j) (iI n) w) (aCopy S d i e j n).1 (aCopy S d i e j n).2 := by
  have is := mIsShelf (S := S) hd
  have is2 := mIsShelf (S := S) he
  obtain ⟨i0, i1⟩ := hi
  obtain ⟨j0, j1⟩ := hj
  obtain ⟨n0, n1⟩ := hn
  have e11 : (-11 : Int32) = iI (-11) := by decide +kernel
  have e12 : (-12 : Int32) = iI (-12) := by decide +kernel
  have e13 : (-13 : Int32) = iI (-13) := by decide +kernel
  unfold aCopy
  rw [fX12_copy, is, Option.bind_some]
  cases hs : shAt S d with
  | none => exact Md.rf h (by rw [if_pos (show iB (none : Option Sh).isSome = 0 from rfl), iN_1])
  | some s =>
    rw [if_neg (show ¬ iB (some s).isSome = 0 from iB_tn), is2, Option.bind_some]
    cases hr : shAt S e with
    | none => exact Md.rf h (by rw [if_pos (show iB (none : Option Sh).isSome = 0 from rfl), iN_1])
    | some r =>
      obtain ⟨d8, de, ds⟩ := shAt_s hs
      obtain ⟨r8, re, rs⟩ := shAt_s hr
      have hm := h.2.2.1 d.toNat d8
      have hm2 := h.2.2.1 e.toNat r8
      rw [← ds] at hm
      rw [← rs] at hm2
      have eD : iI d = iI ((d.toNat : Nat) : Int) := by congr 1; omega
      have eE : iI e = iI ((e.toNat : Nat) : Int) := by congr 1; omega
      have q4 : raI w 4 8 (iI d) = some (rA w 4 d.toNat) := by rw [eD, raN (by omega) (by omega)]
      have q4' : raI w 4 8 (iI e) = some (rA w 4 e.toNat) := by rw [eE, raN (by omega) (by omega)]
      have q5 : raI w 5 8 (iI d) = some (rA w 5 d.toNat) := by rw [eD, raN (by omega) (by omega)]
      have q5' : raI w 5 8 (iI e) = some (rA w 5 e.toNat) := by rw [eE, raN (by omega) (by omega)]
      have q6 : raI w 6 8 (iI d) = some (rA w 6 d.toNat) := by rw [eD, raN (by omega) (by omega)]
      have q6' : raI w 6 8 (iI e) = some (rA w 6 e.toNat) := by rw [eE, raN (by omega) (by omega)]
      rw [if_neg (show ¬ iB (some r).isSome = 0 from iB_tn), q4, q4', q5, q5', q6, q6', Option.bind_some, Option.bind_some, Option.bind_some, Option.bind_some]
      show Md _ (if s.isSome ∧ r.isSome then (if (rRef s = 0 ∧ rRef r = 0) ∧ rowS s = rowS r then (if (0 ≤ i ∧ 0 ≤ n ∧ i + n ≤ (rowL s).length) ∧ (0 ≤ j ∧ j + n ≤ (rowL r).length) then (n, aSh S e.toNat (some (.inr (rowS r, cpyL (rowL s) (rowL r) i.toNat j.toNat n.toNat)))) else (-13, S)) else (-12, S)) else (-11, S)).1 (if s.isSome ∧ r.isSome then (if (rRef s = 0 ∧ rRef r = 0) ∧ rowS s = rowS r then (if (0 ≤ i ∧ 0 ≤ n ∧ i + n ≤ (rowL s).length) ∧ (0 ≤ j ∧ j + n ≤ (rowL r).length) then (n, aSh S e.toNat (some (.inr (rowS r, cpyL (rowL s) (rowL r) i.toNat j.toNat n.toNat)))) else (-13, S)) else (-12, S)) else (-11, S)).2
      cases s with
      | none =>
        rw [show rA w 4 d.toNat = iI 0 from hm, if_pos (by decide +kernel), if_neg (fun z => by cases z.1)]
        exact ⟨w, by rw [e11], h⟩
      | some s1 =>
        cases r with
        | none =>
          rw [show rA w 4 e.toNat = iI 0 from hm2, if_neg (show ¬ (Option.isSome (some s1) = true ∧ Option.isSome (none : Sh) = true) from fun z => by cases z.2)]
          refine ⟨w, ?_, h⟩
          have : ¬ rA w 4 d.toNat = 0 := by
            cases s1 with
            | inl q => rw [hm.1]; decide +kernel
            | inr q => rw [hm.1]; decide +kernel
          rw [if_neg this, if_pos (by decide +kernel), e11]
        | some r1 =>
          have k1 : ¬ rA w 4 d.toNat = 0 := by
            cases s1 with
            | inl q => rw [hm.1]; decide +kernel
            | inr q => rw [hm.1]; decide +kernel
          have k2 : ¬ rA w 4 e.toNat = 0 := by
            cases r1 with
            | inl q => rw [hm2.1]; decide +kernel
            | inr q => rw [hm2.1]; decide +kernel
          rw [if_neg k1, if_neg k2, if_pos (show Option.isSome (some s1) = true ∧ Option.isSome (some r1) = true from ⟨rfl, rfl⟩)]
          cases s1 with
          | inl q =>
            rw [hm.1, if_neg (show ¬ iI 1 = (2 : Int32) by decide +kernel), if_neg (fun z => by have := z.1.1; cases this)]
            exact ⟨w, by rw [e12], h⟩
          | inr q =>
            obtain ⟨so, l⟩ := q
            cases r1 with
            | inl q' =>
              rw [hm.1, hm2.1, if_pos (show iI 2 = (2 : Int32) by decide +kernel), Option.bind_some, if_neg (show ¬ iI 1 = (2 : Int32) by decide +kernel), if_neg (fun z => by have := z.1.2; cases this)]
              exact ⟨w, by rw [e12], h⟩
            | inr q' =>
              obtain ⟨so2, l2⟩ := q'
              obtain ⟨a1, a2, a3, a4, a5, a6, a7⟩ := hm
              obtain ⟨b1, b2, b3, b4, b5, b6, b7⟩ := hm2
              have a2' : rA w 5 d.toNat = iI so := a2
              have b2' : rA w 5 e.toNat = iI so2 := b2
              have a3' : rA w 6 d.toNat = iI l.length := a3
              have b3' : rA w 6 e.toNat = iI l2.length := b3
              have a4' : l.length ≤ 120 := a4
              have b4' : l2.length ≤ 120 := b4
              have a5' : so ≤ 2 := a5
              have b5' : so2 ≤ 2 := b5
              rw [a1, b1, a2', b2', a3', b3', if_pos (show iI 2 = (2 : Int32) by decide +kernel), Option.bind_some, if_pos (show iI 2 = (2 : Int32) by decide +kernel), Option.bind_some, Option.bind_some]
              show Md _ (if ((0 : Int) = 0 ∧ (0 : Int) = 0) ∧ so = so2 then (if (0 ≤ i ∧ 0 ≤ n ∧ i + n ≤ l.length) ∧ (0 ≤ j ∧ j + n ≤ l2.length) then (n, aSh S e.toNat (some (.inr (so2, cpyL l l2 i.toNat j.toNat n.toNat)))) else (-13, S)) else (-12, S)).1 (if ((0 : Int) = 0 ∧ (0 : Int) = 0) ∧ so = so2 then (if (0 ≤ i ∧ 0 ≤ n ∧ i + n ≤ l.length) ∧ (0 ≤ j ∧ j + n ≤ l2.length) then (n, aSh S e.toNat (some (.inr (so2, cpyL l l2 i.toNat j.toNat n.toNat)))) else (-13, S)) else (-12, S)).2
              by_cases cs : so = so2
              · rw [if_pos (by rw [cs]), if_pos (show ((0 : Int) = 0 ∧ (0 : Int) = 0) ∧ so = so2 from ⟨⟨rfl, rfl⟩, cs⟩)]
                by_cases cn : n < 0
                · rw [if_pos (by rw [iL_0, iI_lt (by omega) (by omega) (by omega) (by omega)]; exact cn), if_neg (by omega)]
                  exact ⟨w, by rw [e13], h⟩
                rw [if_neg (by rw [iL_0, iI_lt (by omega) (by omega) (by omega) (by omega)]; exact cn)]
                by_cases ci : i < 0
                · rw [if_pos (by rw [iL_0, iI_lt (by omega) (by omega) (by omega) (by omega)]; exact ci), if_neg (by omega)]
                  exact ⟨w, by rw [e13], h⟩
                rw [if_neg (by rw [iL_0, iI_lt (by omega) (by omega) (by omega) (by omega)]; exact ci)]
                by_cases cj : j < 0
                · rw [if_pos (by rw [iL_0, iI_lt (by omega) (by omega) (by omega) (by omega)]; exact cj), if_neg (by omega)]
                  exact ⟨w, by rw [e13], h⟩
                rw [if_neg (by rw [iL_0, iI_lt (by omega) (by omega) (by omega) (by omega)]; exact cj), iI_sub, Option.bind_some, iI_sub]
                by_cases c1 : (l.length : Int) - i < n
                · rw [if_pos (by rw [iI_lt (by omega) (by omega) (by omega) (by omega)]; exact c1), if_neg (by omega)]
                  exact ⟨w, by rw [e13], h⟩
                rw [if_neg (by rw [iI_lt (by omega) (by omega) (by omega) (by omega)]; exact c1)]
                by_cases c2 : n ≤ (l2.length : Int) - j
                · obtain ⟨w', e', g7, gn, gF⟩ := cpL (d := d) (e := e) (by omega) d8 (by omega) r8 (i := i.toNat) (j := j.toNat) (n := n.toNat) (by omega) (by omega) (w0 := w) (fun w14 => some (iI n, w14)) n.toNat kFU 0 w (by unfold kFU; omega) (by omega) (fun c => by
                    rw [if_neg]
                    intro z
                    by_cases ij : i.toNat ≤ j.toNat
                    · rw [if_pos ij, if_pos ij] at z; omega
                    · rw [if_neg ij, if_neg ij] at z; omega) (fun _ _ => rfl) (fun _ => rfl)
                  have eI : iI i = iI ((i.toNat : Nat) : Int) := by congr 1; omega
                  have eJ : iI j = iI ((j.toNat : Nat) : Int) := by congr 1; omega
                  have eN : iI n = iI ((n.toNat : Nat) : Int) := by congr 1; omega
                  rw [← eI, ← eJ, ← eN] at e'
                  rw [if_pos (by rw [iI_le (by omega) (by omega) (by omega) (by omega)]; exact c2), if_pos (show (0 ≤ i ∧ 0 ≤ n ∧ i + n ≤ l.length) ∧ (0 ≤ j ∧ j + n ≤ l2.length) by omega)]
                  have cl : (cpyL l l2 i.toNat j.toNat n.toNat).length = l2.length := by unfold cpyL; rw [List.length_map, List.length_range]
                  refine ⟨w', e', h.shf (w' := w') (d := e.toNat) ⟨fun m c hc => ?_, fun k _ => gF k⟩ ⟨?_, ?_, ?_, ?_, b5, fun k c hc => ?_, fun c hc => ?_⟩⟩
                  · by_cases m7 : m = 7
                    · rw [m7, g7 c, if_neg (fun z => hc (Or.inr ⟨m7, by omega, by omega⟩))]
                    · rw [gn m m7]
                  · rw [gn 4 (by omega)]; exact b1
                  · rw [gn 5 (by omega)]; exact b2
                  · rw [gn 6 (by omega)]
                    show rA w 6 e.toNat = iI ((cpyL l l2 i.toNat j.toNat n.toNat).length : Int)
                    rw [cl]
                    exact b3
                  · show (cpyL l l2 i.toNat j.toNat n.toNat).length ≤ 120
                    rw [cl]
                    exact b4
                  · have hc' : (cpyL l l2 i.toNat j.toNat n.toNat)[k]? = some c := hc
                    have hk := (List.getElem?_eq_some_iff.mp hc').1
                    rw [cl] at hk
                    unfold cpyL at hc'
                    rw [List.getElem?_map, List.getElem?_range hk] at hc'
                    have hc2 : (if j.toNat ≤ k ∧ k < j.toNat + n.toNat then l.getD (i.toNat + (k - j.toNat)) 0 else l2.getD k 0) = c := Option.some.inj hc'
                    rw [g7]
                    by_cases ck : j.toNat ≤ k ∧ k < j.toNat + n.toNat
                    · rw [if_pos ck] at hc2
                      rw [if_pos (by omega), ← hc2]
                      have hl : i.toNat + (k - j.toNat) < l.length := by omega
                      rw [show 120 * d.toNat + i.toNat + (120 * e.toNat + k - (120 * e.toNat + j.toNat)) = 120 * d.toNat + (i.toNat + (k - j.toNat)) by omega]
                      refine a6 _ _ ?_
                      show l[i.toNat + (k - j.toNat)]? = _
                      rw [List.getD_eq_getElem?_getD, List.getElem?_eq_getElem hl]
                      rfl
                    · rw [if_neg ck] at hc2
                      rw [if_neg (by omega), ← hc2]
                      refine b6 _ _ ?_
                      show l2[k]? = _
                      rw [List.getD_eq_getElem?_getD, List.getElem?_eq_getElem hk]
                      rfl
                  · have hc' : c ∈ cpyL l l2 i.toNat j.toNat n.toNat := hc
                    unfold cpyL at hc'
                    obtain ⟨k, hk, hke⟩ := List.mem_map.mp hc'
                    have hk' := List.mem_range.mp hk
                    by_cases ck : j.toNat ≤ k ∧ k < j.toNat + n.toNat
                    · rw [if_pos ck] at hke
                      have hl : i.toNat + (k - j.toNat) < l.length := by omega
                      have hmem : c ∈ l := by
                        rw [← hke, List.getD_eq_getElem?_getD, List.getElem?_eq_getElem hl]
                        exact List.getElem_mem hl
                      have := a7 c hmem
                      rw [cs] at this
                      exact this
                    · rw [if_neg ck] at hke
                      have hmem : c ∈ l2 := by
                        rw [← hke, List.getD_eq_getElem?_getD, List.getElem?_eq_getElem hk']
                        exact List.getElem_mem hk'
                      exact b7 c hmem
                · rw [if_neg (by rw [iI_le (by omega) (by omega) (by omega) (by omega)]; exact c2), if_neg (by omega)]
                  exact ⟨w, by rw [e13], h⟩
              · rw [if_neg (by rw [iI_eq (by omega) (by omega) (by omega) (by omega)]; omega), if_neg (fun z => cs z.2)]
                exact ⟨w, by rw [e12], h⟩
