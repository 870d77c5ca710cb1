/-! .. image, restore -/
theorem copyRow {L : Nat → (Int32 → rW → Option (Int32 × rW)) → Int32 → rW → Option (Int32 × rW)} {src dst N : Nat} (hN : N < 100000) (hne : src ≠ dst) (K : rW → Option (Int32 × rW)) (h0 : ∀ fu w, L (fu + 1) (fun _ w => K w) (iI N) w = K w) (h1 : ∀ (fu i : Nat) (w : rW), i < N → L (fu + 1) (fun _ w => K w) (iI i) w = L fu (fun _ w => K w) (iI (i + 1 : Nat)) (rSA w dst i (rA w src i))) : ∀ (m fu i : Nat) (w : rW), m < fu → i + m = N → ∃ w', L fu (fun _ w => K w) (iI i) w = K w' ∧ (∀ n, n ≠ dst → rA w' n = rA w n) ∧ rF w' = rF w ∧ (∀ j, i ≤ j → j < N → rA w' dst j = rA w src j) ∧ ∀ j, (j < i ∨ N ≤ j) → rA w' dst j = rA w dst j := by
  intro m
  induction m with
  | zero =>
    intro fu i w hf hi
    obtain ⟨fu, rfl⟩ : ∃ n, fu = n + 1 := ⟨fu - 1, by omega⟩
    have hi' : i = N := hi
    exact ⟨w, by rw [hi', h0], fun _ _ => rfl, rfl, fun j a b => by omega, fun j _ => rfl⟩
  | succ m ih =>
    intro fu i w hf hi
    obtain ⟨fu, rfl⟩ : ∃ n, fu = n + 1 := ⟨fu - 1, by omega⟩
    obtain ⟨w', e, a1, a2, a3, a4⟩ := ih fu (i + 1) (rSA w dst i (rA w src i)) (by omega) (by omega)
    refine ⟨w', by rw [h1 fu i w (by omega), e], fun n hn => by rw [a1 n hn, rA_SA_o hn], by rw [a2]; rfl, fun j j1 j2 => ?_, fun j hj => by rw [a4 j (by omega), rA_SA_j (by omega)]⟩
    by_cases c : j = i
    · rw [c, a4 i (by omega), rA_SA_s]
    · rw [a3 j (by omega) j2, rA_SA_o hne]
theorem e1N (n : Nat) : iI (n : Int) + 1 = iI (n + 1 : Nat) := by rw [iL_1, iI_add]; rfl
theorem z0K : (0 : Int32) = iI ((0 : Nat) : Int) := rfl
theorem two_img {L1 L2 : Nat → (Int32 → rW → Option (Int32 × rW)) → Int32 → rW → Option (Int32 × rW)} (st dt ss ds : Nat) (n1 : st ≠ dt) (n2 : ss ≠ ds) (n3 : dt ≠ ss) (n4 : ds ≠ dt) (n5 : ds ≠ st) (n6 : dt ≠ ds) (K : rW → Option (Int32 × rW))
    (a0 : ∀ (K : rW → Option (Int32 × rW)) fu w, L1 (fu + 1) (fun _ w => K w) (iI (2400 : Nat)) w = K w) (a1 : ∀ (K : rW → Option (Int32 × rW)) (fu i : Nat) (w : rW), i < 2400 → L1 (fu + 1) (fun _ w => K w) (iI i) w = L1 fu (fun _ w => K w) (iI (i + 1 : Nat)) (rSA w dt i (rA w st i)))
    (b0 : ∀ (K : rW → Option (Int32 × rW)) fu w, L2 (fu + 1) (fun _ w => K w) (iI (1000 : Nat)) w = K w) (b1 : ∀ (K : rW → Option (Int32 × rW)) (fu i : Nat) (w : rW), i < 1000 → L2 (fu + 1) (fun _ w => K w) (iI i) w = L2 fu (fun _ w => K w) (iI (i + 1 : Nat)) (rSA w ds i (rA w ss i))) (w : rW) :
    ∃ w', L1 kFU (fun _ w2 => L2 kFU (fun _ w4 => K w4) 0 w2) 0 w = K w' ∧ (∀ n, n ≠ dt → n ≠ ds → rA w' n = rA w n) ∧ rF w' = rF w ∧ (∀ j, j < 2400 → rA w' dt j = rA w st j) ∧ (∀ j, 2400 ≤ j → rA w' dt j = rA w dt j) ∧ (∀ j, j < 1000 → rA w' ds j = rA w ss j) := by
  obtain ⟨w1, e1, c1, c2, c3, c4⟩ := copyRow (L := L1) (src := st) (dst := dt) (N := 2400) (by omega) n1 (fun w2 => L2 kFU (fun _ w4 => K w4) 0 w2) (fun fu w => a0 _ fu w) (fun fu i w hi => a1 _ fu i w hi) 2400 kFU 0 w (by unfold kFU; omega) (by omega)
  obtain ⟨w2, e2, d1, d2, d3, d4⟩ := copyRow (L := L2) (src := ss) (dst := ds) (N := 1000) (by omega) n2 K (fun fu w => b0 _ fu w) (fun fu i w hi => b1 _ fu i w hi) 1000 kFU 0 w1 (by unfold kFU; omega) (by omega)
  refine ⟨w2, e1.trans e2, fun n h1 h2 => by rw [d1 n h2, c1 n h1], by rw [d2, c2], fun j hj => by rw [d1 dt n6, c3 j (by omega) hj], fun j hj => by rw [d1 dt n6, c4 j (Or.inr hj)], fun j hj => by rw [d3 j (by omega) hj, c1 ss (fun z => n3 z.symm)]⟩
theorem m_image {w : rW} {S : AS} (h : MI w S) : Md (fX12_image w) (aImage S).1 (aImage S).2 := by
  have c24 : (2400 : Int32) = iI ((2400 : Nat) : Int) := by decide +kernel
  have c10 : (1000 : Int32) = iI ((1000 : Nat) : Int) := by decide +kernel
  obtain ⟨w', e, a1, a2, a3, a4, a5⟩ := two_img (L1 := fX12_image_L2) (L2 := fX12_image_L29) 0 1 2 3 (by omega) (by omega) (by omega) (by omega) (by omega) (by omega) (fun w4 => (rpF w4 10 (1 : Int32)).bind fun w5 =>
  (raI w5 2 1000 (0 : Int32)).bind fun v6 =>
  some (v6, w5))
    (fun K fu w => by rw [fX12_image_L2, if_pos (by rw [c24, iI_le (by omega) (by omega) (by omega) (by omega)]; omega)])
    (fun K fu i w hi => by rw [fX12_image_L2, if_neg (by rw [c24, iI_le (by omega) (by omega) (by omega) (by omega)]; omega), raN (by omega) (by omega), Option.bind_some, rsN (by omega) (by omega), Option.bind_some, e1N])
    (fun K fu w => by rw [fX12_image_L29, if_pos (by rw [c10, iI_le (by omega) (by omega) (by omega) (by omega)]; omega)])
    (fun K fu i w hi => by rw [fX12_image_L29, if_neg (by rw [c10, iI_le (by omega) (by omega) (by omega) (by omega)]; omega), raN (by omega) (by omega), Option.bind_some, rsN (by omega) (by omega), Option.bind_some, e1N]) w
  obtain ⟨hT, hI, hS, hz⟩ := h
  have n0 := hT.2.1.1
  have s2 : rA w' 2 = rA w 2 := a1 2 (by omega) (by omega)
  have en : ∀ n, n ≠ 1 → n ≠ 3 → rA (rSF w' 10 1) n = rA w n := fun n x y => a1 n x y
  refine ⟨rSF w' 10 1, ?_, ?_, ⟨rF_SF_s, fun T e => ?_⟩, fun d hd => ?_, by rw [rF_SF_o (by omega), a2]; exact hz⟩
  · rw [fX12_image, e, rpN, Option.bind_some, z0K, raN (by omega) (by omega), Option.bind_some, show rA (rSF w' 10 1) 2 = rA w 2 from s2, n0]
    rfl
  · show MTb (rA (rSF w' 10 1) 0) (rA (rSF w' 10 1) 2) (sT S)
    rw [en 0 (by omega) (by omega), en 2 (by omega) (by omega)]
    exact hT
  · have e' : some (sT S) = some T := e
    cases e'
    exact hT.of (fun i hi => a3 i hi) (fun i hi => a5 i hi)
  · have := hS d hd
    show MSh (rSF w' 10 1) d (sH S d)
    unfold MSh at this ⊢
    rw [en 4 (by omega) (by omega), en 5 (by omega) (by omega), en 6 (by omega) (by omega), en 7 (by omega) (by omega), en 8 (by omega) (by omega), en 9 (by omega) (by omega)]
    exact this
