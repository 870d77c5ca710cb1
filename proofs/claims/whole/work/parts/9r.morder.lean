/-! THE MODEL: orders -/
theorem e120 {d : Int} {i : Nat} (h0 : 0 ≤ d) : (120 : Int32) * iI d + iI i = iI (120 * d.toNat + i : Nat) := by
  rw [show (120 : Int32) = iI 120 by decide +kernel, iI_mul, iI_add]
  congr 1
  omega
theorem ord109 {w : rW} {d : Int} {l : List Int} (d0 : 0 ≤ d) (d8 : d.toNat < 8) (hm : MSh w d.toNat (some (.inr (0, l)))) (x1 x3 : Int32) {i : Nat} (hi : i ≤ l.length) {v : Int} (hv : I32 v) (K : Int32 → Option Int32) : ∀ (m fu j : Nat), m < fu → j + m = i → fX12_wrongOrder_L109 x1 (iI d) x3 (iI i) (iI v) w fu K (iI j) = if v ∈ (l.take i).drop j then some (iI (-13)) else K (iI i) := by
  obtain ⟨m1, m2, m3, m4, m5, m6, m7⟩ := hm
  have m4' : l.length ≤ 120 := m4
  have e13 : (-13 : Int32) = iI (-13) := by decide +kernel
  intro m
  induction m with
  | zero =>
    intro fu j hf hj
    obtain ⟨fu, rfl⟩ : ∃ g, fu = g + 1 := ⟨fu - 1, by omega⟩
    rw [fX12_wrongOrder_L109, if_pos (by rw [iI_le (by omega) (by omega) (by omega) (by omega)]; omega), show j = i by omega, List.drop_eq_nil_of_le (by rw [List.length_take]; omega), if_neg (by simp)]
  | succ m ih =>
    intro fu j hf hj
    obtain ⟨fu, rfl⟩ : ∃ g, fu = g + 1 := ⟨fu - 1, by omega⟩
    have hjl : j < l.length := by omega
    have e1 : (l.take i).drop j = l[j] :: (l.take i).drop (j + 1) := by
      rw [List.drop_eq_getElem_cons (by rw [List.length_take]; omega), List.getElem_take]
    have e3 : I32 l[j] := (m7 _ (List.getElem_mem hjl)).2.2
    have e4 := m6 j l[j] (List.getElem?_eq_getElem hjl)
    rw [fX12_wrongOrder_L109, if_neg (by rw [iI_le (by omega) (by omega) (by omega) (by omega)]; omega), e120 d0, raN (by omega) (by omega), Option.bind_some, e4, e1s, ih fu (j + 1) (by omega) (by omega), e1]
    by_cases c : l[j] = v
    · rw [if_pos (by rw [c]), if_pos (by rw [← c]; exact List.mem_cons_self), e13]
    · rw [if_neg (by rw [iI_eq e3.1 e3.2 hv.1 hv.2]; exact c)]
      by_cases c2 : v ∈ (l.take i).drop (j + 1)
      · rw [if_pos c2, if_pos (List.mem_cons_of_mem _ c2)]
      · rw [if_neg c2, if_neg (fun z => by rcases List.mem_cons.mp z with z | z; exact c z.symm; exact c2 z)]
theorem ord56 {w : rW} {S : AS} (h : MI w S) {d : Int} {l : List Int} (d0 : 0 ≤ d) (d8 : d.toNat < 8) (hm : MSh w d.toNat (some (.inr (0, l)))) (x1 x3 : Int32) : ∀ (m fu i : Nat), m < fu → i + m = l.length → fX12_wrongOrder_L56 x1 (iI d) x3 w fu (fun _ => some (0 : Int32)) (iI i) = some (iI (if prF S (l.take i) (l.drop i) = true then 0 else -13)) := by
  obtain ⟨m1, m2, m3, m4, m5, m6, m7⟩ := id hm
  have m4' : l.length ≤ 120 := m4
  have m3' : rA w 6 d.toNat = iI l.length := m3
  have e13 : (-13 : Int32) = iI (-13) := by decide +kernel
  have e6 : raI w 6 8 (iI d) = some (iI l.length) := by
    rw [show iI d = iI ((d.toNat : Nat) : Int) by congr 1; omega, raN (by omega) (by omega), m3']
  intro m
  induction m with
  | zero =>
    intro fu i hf hi
    obtain ⟨fu, rfl⟩ : ∃ g, fu = g + 1 := ⟨fu - 1, by omega⟩
    rw [fX12_wrongOrder_L56, e6, Option.bind_some, if_pos (by rw [iI_le (by omega) (by omega) (by omega) (by omega)]; omega), List.drop_eq_nil_of_le (by omega)]
    rfl
  | succ m ih =>
    intro fu i hf hi
    obtain ⟨fu, rfl⟩ : ∃ g, fu = g + 1 := ⟨fu - 1, by omega⟩
    have hil : i < l.length := by omega
    have e3 : I32 l[i] := (m7 _ (List.getElem_mem hil)).2.2
    have e4 := m6 i l[i] (List.getElem?_eq_getElem hil)
    have ed : l.drop i = l[i] :: l.drop (i + 1) := List.drop_eq_getElem_cons hil
    have et : l.take (i + 1) = l.take i ++ [l[i]] := List.take_succ_eq_append_getElem hil
    have ep : prF S (l.take i) (l.drop i) = ((pbOk S l[i] && !decide (l[i] ∈ l.take i)) && prF S (l.take (i + 1)) (l.drop (i + 1))) := by
      rw [ed, et]
      rfl
    have e4' : rA w 7 (120 * d.toNat + i) = iI l[i] := e4
    rw [fX12_wrongOrder_L56, e6, Option.bind_some, if_neg (by rw [iI_le (by omega) (by omega) (by omega) (by omega)]; omega), e120 d0, raN (by omega) (by omega), Option.bind_some, e4', mIsLine h e3, Option.bind_some, ep]
    unfold pbOk
    cases hL : tLn (sT S) l[i] with
    | none =>
      rw [if_pos (show iB (none : Option Fo).isSome = 0 from rfl), e13]
      rfl
    | some F =>
      obtain ⟨hw, h2⟩ := mHow h hL
      rw [if_neg (show ¬ iB (some F).isSome = 0 from iB_tn), hw, Option.bind_some]
      by_cases c : aHw S l[i] = 0
      · have z0 : (0 : Int32) = iI ((0 : Nat) : Int) := rfl
        rw [if_pos (by rw [c]; rfl), decide_eq_true c, z0, ord109 d0 d8 hm x1 x3 (by omega) e3 _ i kFU 0 (by unfold kFU; omega) (by omega), List.drop_zero, e1s]
        by_cases c2 : l[i] ∈ l.take i
        · rw [if_pos c2, decide_eq_true c2]
          rfl
        · rw [if_neg c2, decide_eq_false c2]
          exact ih fu (i + 1) (by omega) (by omega)
      · rw [if_neg (by rw [iL_0, iI_eq (by omega) (by omega) (by omega) (by omega)]; omega), decide_eq_false c, e13]
        rfl
theorem mWrongOrder {w : rW} {S : AS} (h : MI w S) {p d : Int} (hp : I32 p) (hd : I32 d) : fX12_wrongOrder (iI p) (iI d) w = some (iI (match tPn (sT S) p, shAt S d with | some _, some s => aPr S s | _, _ => -1)) := by
  obtain ⟨hW, ⟨-, -, n2⟩, -⟩ := h.1
  have h6 := hW.2.2.2.2.2.1
  obtain ⟨k1, k2⟩ := mWrongRow h hd
  have z2 : (2 : Int32) = iI ((2 : Nat) : Int) := rfl
  have e1n : (-1 : Int32) = iI (-1) := by decide +kernel
  have e13 : (-13 : Int32) = iI (-13) := by decide +kernel
  have hp' := hp
  obtain ⟨p0, p1⟩ := hp
  have e : (tPn (sT S) p).isSome = decide (0 ≤ p ∧ p ≤ ((tP (sT S)).length : Int) - 1) := by
    unfold tPn
    by_cases c : p < 0
    · rw [if_pos c, decide_eq_false (by omega)]; rfl
    · rw [if_neg c]
      by_cases c2 : p.toNat < (tP (sT S)).length
      · rw [List.getElem?_eq_getElem c2, decide_eq_true (by omega)]; rfl
      · rw [List.getElem?_eq_none (by omega), decide_eq_false (by omega)]; rfl
  have o1 : (1 : Int64) = (iI 1).toInt64 := by decide +kernel
  have o3 : (3 : Int64) = (iI 3).toInt64 := by decide +kernel
  have en : iI (tP (sT S)).length - (1 : Int32) = iI ((tP (sT S)).length - 1) := by rw [iL_1, iI_sub]
  rw [fX12_wrongOrder, z2, raN (by omega) (by omega), Option.bind_some, n2, en, z0N, isIn_ok hp' (by unfold I32; omega) (by unfold I32; omega), Option.bind_some, ← e, e1n]
  cases hP : tPn (sT S) p with
  | none =>
    rw [if_pos (show iB (none : Option (List Int)).isSome = 0 from rfl)]
  | some u =>
    rw [if_neg (show ¬ iB (some u).isSome = 0 from iB_tn)]
    cases hs : shAt S d with
    | none =>
      rw [k1 hs, Option.bind_some, if_neg (by decide +kernel)]
    | some s =>
      obtain ⟨e', -, hm⟩ := k2 s hs
      obtain ⟨d8, de, ds⟩ := shAt_s hs
      have bb := bRef_bd s
      rw [e', Option.bind_some]
      show _ = some (iI (aPr S s))
      unfold aPr
      by_cases c : bRef s = 0
      · obtain ⟨l, rfl⟩ := bRef_0 c
        have e6 : raI w 6 8 (iI d) = some (iI l.length) := by
          rw [show iI d = iI ((d.toNat : Nat) : Int) by rw [de], raN (by omega) (by omega)]
          exact congrArg some hm.2.2.1
        have l120 : l.length ≤ 120 := hm.2.2.2.1
        rw [if_pos (by rw [c]; rfl), if_pos c, e6, Option.bind_some, o1, o3, isIn_ok (by unfold I32; omega) (by unfold I32; omega) (by unfold I32; omega), Option.bind_some]
        show _ = some (iI (if (1 ≤ l.length ∧ l.length ≤ 3) ∧ prF S [] l = true then 0 else -13))
        by_cases c3 : 1 ≤ l.length ∧ l.length ≤ 3
        · have := ord56 h (by omega) d8 hm (iI p) (iI (bRef (some (.inr (0, l))))) l.length kFU 0 (by unfold kFU; omega) (by omega)
          rw [decide_eq_true (by omega), if_neg iB_tn]
          refine Eq.trans this ?_
          rw [List.take_zero, List.drop_zero]
          by_cases c4 : prF S [] l = true
          · rw [if_pos c4, if_pos ⟨c3, c4⟩]
          · rw [if_neg c4, if_neg (fun z => c4 z.2)]
        · rw [decide_eq_false (by omega), if_pos iB_fz, if_neg (fun z => c3 z.1), e13]
      · rw [if_neg (by rw [iL_0, iI_eq (by omega) (by omega) (by omega) (by omega)]; exact c), if_neg c]
/-- in an order of places -/
theorem dig_cons (d : Nat) (p : List Nat) : dig (d :: p) = dig p * 8 + d := rfl
theorem dig_8 {d : Nat} {p : List Nat} (hd : d < 8) (hb : dig (d :: p) < 100000) : iI (dig (d :: p)) / (8 : Int32) = iI (dig p) ∧ iI (dig (d :: p)) - iI (dig (d :: p)) / (8 : Int32) * (8 : Int32) = iI d := by
  have c8 : (8 : Int32) = iI (8 : Nat) := by decide +kernel
  have e := zDiv (n := (dig (d :: p) : Nat)) (by omega) (by omega) 8 (by omega) (by omega)
  rw [dig_cons] at e hb ⊢
  have e2 : ((dig p * 8 + d : Nat) : Int) / ((8 : Nat) : Int) = (dig p : Int) := by omega
  rw [e2] at e
  rw [c8, e]
  refine ⟨rfl, ?_⟩
  rw [iI_mul, iI_sub]
  congr 1
  omega
def MOq (w : rW) (S : AS) (s : OS) : Prop := MI w S ∧ MkK w s.1 ∧ (rF w 39 = iI s.2.2.1 ∧ rF w 40 = iI s.2.2.2) ∧ ∀ e ∈ s.1, e.1 < 40
theorem inOrd {S : AS} {p : Int} {u : List Int} (hu : tPn (sT S) p = some u) {d : Int} {l : List Int} (d0 : 0 ≤ d) (d8 : d.toNat < 8) (hs : sH S d.toNat = some (.inr (0, l))) (hl : ∀ v ∈ l, ∃ F, tLn (sT S) v = some F) (x3 : Int32) : ∀ (q : List Nat) (fu i : Nat) (w : rW) (s : OS), q.length < fu → i + q.length = l.length → (∀ k ∈ q, k < l.length ∧ k < 8) → dig q < 100000 → MOq w S s → s.1.length + q.length ≤ 40 →
    ∃ w', fX12_inOrder_L20 (iI p) (iI d) x3 fu (fun _ _ z => some z) (iI (dig q)) (iI i) w = some w' ∧ MOq w' S ((q.map fun k => l.getD k 0).foldl (oSt (sT S) (pEnd u)) s) ∧ ((q.map fun k => l.getD k 0).foldl (oSt (sT S) (pEnd u)) s).2.2.2 ≤ s.2.2.2 + 100 * q.length := by
  have sz : ∀ {w : rW}, MI w S → raI w 6 8 (iI d) = some (iI l.length) ∧ l.length ≤ 120 ∧ (∀ (i : Nat) (c : Int), l[i]? = some c → rA w 7 (120 * d.toNat + i) = iI c) ∧ ∀ c ∈ l, I32 c := fun {w} h => by
    have hm := h.2.2.1 d.toNat d8
    rw [hs] at hm
    obtain ⟨m1, m2, m3, m4, m5, m6, m7⟩ := hm
    refine ⟨?_, m4, m6, fun c hc => (m7 c hc).2.2⟩
    rw [show iI d = iI ((d.toNat : Nat) : Int) by congr 1; omega, raN (by omega) (by omega)]
    exact congrArg some m3
  intro q
  induction q with
  | nil =>
    intro fu i w s hf hi hq hb hO hk
    obtain ⟨fu, rfl⟩ : ∃ g, fu = g + 1 := ⟨fu - 1, by omega⟩
    rw [List.length_nil] at hi
    obtain ⟨z1, z2, -⟩ := sz hO.1
    exact ⟨w, by rw [fX12_inOrder_L20, z1, Option.bind_some, if_pos (by rw [iI_le (by omega) (by omega) (by omega) (by omega)]; omega)], hO, Nat.le_refl _⟩
  | cons k q ih =>
    intro fu i w s hf hi hq hb hO hk
    obtain ⟨fu, rfl⟩ : ∃ g, fu = g + 1 := ⟨fu - 1, by omega⟩
    rw [List.length_cons] at hf hi hk
    obtain ⟨hM, hK, ⟨h39, h40⟩, h4⟩ := hO
    obtain ⟨z1, z2, z3, z4⟩ := sz hM
    obtain ⟨kl, k8⟩ := hq k List.mem_cons_self
    obtain ⟨g1, g2⟩ := dig_8 k8 hb
    have ek : l[k]? = some (l.getD k 0) := by
      rw [List.getD_eq_getElem?_getD, List.getElem?_eq_getElem kl]
      rfl
    obtain ⟨v, ev⟩ : ∃ v, v = l.getD k 0 := ⟨_, rfl⟩
    rw [← ev] at ek
    have vm := List.mem_of_getElem? ek
    have vi := z4 v vm
    obtain ⟨F, hF⟩ := hl v vm
    obtain ⟨b0, b1, b2⟩ := tLn_lt hF
    have n40 := hM.1.1.1
    obtain ⟨w3, e3, q3, k3, r3⟩ := run_gen hM rfl hK hu hF (sl := false) (odds := 0) (z := s.2.1) (Or.inr ⟨rfl, hM.2.2.2, rfl⟩)
    have lF : tLo (sT S) v = F := by unfold tLo; rw [hF]; rfl
    obtain ⟨Q, eQ⟩ : ∃ Q, Q = qRun (pEnd u) s.1 0 s.2.1 1000000 F := ⟨_, rfl⟩
    have hQ : qHk Q := by rw [eQ]; exact qRun_Hk h4
    have sS : psS (pEnd u) ≤ 100 := by
      obtain ⟨c0, c1, c2⟩ := tPn_lt hu
      exact (pEnd_bd (hM.1.1.2.2.2.2.2.2 u (List.mem_of_getElem? c2)).2.2).1.2.2.2.2.2
    rw [← eQ] at q3
    obtain ⟨mN, ⟨-, -, -, mA, mA'⟩, mS, -⟩ := q3
    have f39 : rF w3 39 = iI s.2.2.1 := by rw [r3.2 39 (fun z => by unfold RuF AcF TpF at z; omega)]; exact h39
    have f40 : rF w3 40 = iI s.2.2.2 := by rw [r3.2 40 (fun z => by unfold RuF AcF TpF at z; omega)]; exact h40
    have hM3 := hM.rq (RuA.sc r3)
    have eS : oSt (sT S) (pEnd u) s v = oNx s v.toNat F Q := by
      unfold oSt
      rw [lF, ← eQ]
    rw [List.map_cons, List.foldl_cons, ← ev, eS]
    obtain ⟨w5, ew5⟩ : ∃ w5, w5 = rSF w3 40 (iI (s.2.2.2 + qA Q : Nat)) := ⟨_, rfl⟩
    have M5 : MI w5 S := by
      rw [ew5]
      exact hM3.rq (Rq.sf ⟨by omega, by omega⟩)
    have run : fX12_inOrder_L20 (iI p) (iI d) x3 (fu + 1) (fun _ _ z => some z) (iI (dig (k :: q))) (iI i) w = if 0 ≤ rF w5 31 then (rpF w5 39 ((rF w5 39) + (1 : Int32))).bind fun w6 => (rsI w6 15 40 (rF w6 30) (iI v)).bind fun w7 => (rpF w7 30 ((rF w7 30) + (1 : Int32))).bind fun w8 => fX12_inOrder_L20 (iI p) (iI d) x3 fu (fun _ _ z => some z) (iI (dig q)) (iI (i + 1 : Nat)) w8 else fX12_inOrder_L20 (iI p) (iI d) x3 fu (fun _ _ z => some z) (iI (dig q)) (iI (i + 1 : Nat)) w5 := by
      rw [fX12_inOrder_L20, z1, Option.bind_some, if_neg (by rw [iI_le (by omega) (by omega) (by omega) (by omega)]; omega), g2, e120 d0, raN (by omega) (by omega), Option.bind_some, z3 k v ek, e3, Option.bind_some, f40, mA, iI_add, show (s.2.2.2 : Int) + (qA Q : Int) = ((s.2.2.2 + qA Q : Nat) : Int) by omega, rpN, Option.bind_some, ← ew5, g1, e1s]
    have f31 : rF w5 31 = iI (qShn Q Prod.snd) := by rw [ew5, rF_SF_o (by omega)]; exact mS.1
    have f30 : rF w5 30 = iI s.1.length := by rw [ew5, rF_SF_o (by omega)]; exact k3.1
    have a5 : rA w5 = rA w3 := by rw [ew5]; rfl
    rw [dig_cons] at hb
    rw [run, f31]
    rcases shn_b hQ with ⟨e1, e2⟩ | ⟨e, e1, e2, e3'⟩
    · have hn : oNx s v.toNat F Q = (s.1, qZ Q, s.2.2.1, s.2.2.2 + qA Q) := oNx_f (by rw [e1]; rfl)
      rw [e2, if_neg (by decide +kernel), hn]
      obtain ⟨w', r1, r2, r3⟩ := ih fu (i + 1) w5 (s.1, qZ Q, s.2.2.1, s.2.2.2 + qA Q) (by omega) (by omega) (fun j hj => hq j (List.mem_cons_of_mem _ hj)) (by omega) ⟨M5, ⟨f30, k3.2.1, fun j num G hj => by obtain ⟨y1, y2⟩ := k3.2.2 j num G hj; exact ⟨by rw [a5]; exact y1, y2.eq a5⟩⟩, ⟨by rw [ew5, rF_SF_o (by omega)]; exact f39, by rw [ew5, rF_SF_s]⟩, h4⟩ (by show s.1.length + q.length ≤ 40; omega)
      exact ⟨w', r1, r2, by have r3' : _ ≤ s.2.2.2 + qA Q + 100 * q.length := r3; rw [List.length_cons]; omega⟩
    · have hn : oNx s v.toNat F Q = (s.1 ++ [(v.toNat, F)], qZ Q, s.2.2.1 + 1, s.2.2.2 + qA Q) := oNx_t (by rw [e1]; rfl)
      obtain ⟨w8, ew8⟩ : ∃ w8, w8 = rSF (rSA (rSF w5 39 (iI (s.2.2.1 + 1 : Nat))) 15 s.1.length (iI v)) 30 (iI (s.1.length + 1 : Nat)) := ⟨_, rfl⟩
      have M8 : MI w8 S := by
        rw [ew8]
        exact ((M5.rq (Rq.sf ⟨by omega, by omega⟩)).rq (Rq.sa (Or.inr (by omega)))).rq (Rq.sf ⟨by omega, by omega⟩)
      have o8 : ∀ n, n ≠ 15 → rA w8 n = rA w3 n := fun n hn => by
        rw [ew8, rA_SF, rA_SA_o hn, rA_SF, a5]
      have ml8 : ∀ {num : Nat} {G : Fo}, Ml w3 num G → Ml w8 num G := fun {num G} hg => by
        unfold Ml Lt at hg ⊢
        rw [o8 0 (by omega), o8 2 (by omega)]
        exact hg
      have K8 : MkK w8 (s.1 ++ [(v.toNat, F)]) := by
        refine ⟨by rw [ew8, rF_SF_s, List.length_append, List.length_singleton], by rw [List.length_append, List.length_singleton]; omega, fun j num G hj => ?_⟩
        by_cases cj : j < s.1.length
        · rw [List.getElem?_append_left cj] at hj
          obtain ⟨y1, y2⟩ := k3.2.2 j num G hj
          refine ⟨?_, ml8 y2⟩
          rw [ew8, rA_SF, rA_SA_j (by omega), rA_SF, a5]
          exact y1
        · have hj2 := (List.getElem?_eq_some_iff.mp hj).1
          rw [List.length_append, List.length_singleton] at hj2
          have ej : j = s.1.length := by omega
          rw [ej, List.getElem?_append_right (Nat.le_refl _), Nat.sub_self] at hj
          cases hj
          refine ⟨?_, (M8.ml hF).1⟩
          rw [ej, ew8, rA_SF, rA_SA_s]
          congr 1
          omega
      have f39' : rF w5 39 = iI s.2.2.1 := by rw [ew5, rF_SF_o (by omega)]; exact f39
      rw [e2, if_pos (by rw [iL_0, iI_le (by omega) (by omega) (by omega) (by omega)]; omega), hn, f39', rpN, Option.bind_some, rF_SF_o (show 30 ≠ 39 by omega), f30, e1s, rsN (by omega) (by omega), Option.bind_some, rF_SA, rF_SF_o (show 30 ≠ 39 by omega), f30, e1s, rpN, Option.bind_some, ← ew8]
      obtain ⟨w', r1, r2, r3⟩ := ih fu (i + 1) w8 (s.1 ++ [(v.toNat, F)], qZ Q, s.2.2.1 + 1, s.2.2.2 + qA Q) (by omega) (by omega) (fun j hj => hq j (List.mem_cons_of_mem _ hj)) (by omega) ⟨M8, K8, ⟨by rw [ew8, rF_SF_o (by omega), rF_SA, rF_SF_s], by rw [ew8, rF_SF_o (by omega), rF_SA, rF_SF_o (by omega), ew5, rF_SF_s]⟩, fun e' he' => by
        have he2 : e' ∈ s.1 ++ [(v.toNat, F)] := he'
        rcases List.mem_append.mp he2 with z | z
        · exact h4 e' z
        · rw [List.mem_singleton.mp z]
          show v.toNat < 40
          omega⟩ (by show (s.1 ++ [(v.toNat, F)]).length + q.length ≤ 40; rw [List.length_append, List.length_singleton]; omega)
      exact ⟨w', r1, r2, by have r3' : _ ≤ s.2.2.2 + qA Q + 100 * q.length := r3; rw [List.length_cons]; omega⟩
