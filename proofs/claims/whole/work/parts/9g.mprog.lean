/-! THE MODEL: how a program is read -/
def PrF (j : Nat) : Prop := j = 12 ∨ j = 13 ∨ j = 14 ∨ j = 19
theorem PrF.sc {w w' : rW} (h : Rq NoA PrF w w') : Rq ScA ScF w w' := h.wide (fun n i z => z.elim) (fun j z => by unfold ScF; rcases z with z | z | z | z <;> omega)
theorem Wk_id {w : rW} {i : Nat} (h : rF w 12 = iI i) : Wk w i = w := by
  show rMk (fun k => if k = 12 then iI i else rF w k) (rA w) = w
  have e : (fun k => if k = 12 then iI (i : Int) else rF w k) = rF w := by
    funext k
    by_cases c : k = 12
    · rw [if_pos c, c, h]
    · rw [if_neg c]
  rw [e]
  rfl
theorem Wk_19 {w : rW} {i j : Nat} {X : Int32} : rSF (rSF (Wk w i) 19 X) 12 (iI j) = Wk (rSF w 19 X) j := by
  show rMk (fun k => if k = 12 then iI (j : Int) else if k = 19 then X else if k = 12 then iI (i : Int) else rF w k) (rA w) = rMk (fun k => if k = 12 then iI (j : Int) else if k = 19 then X else rF w k) (rA w)
  congr 1
  funext k
  by_cases c : k = 12
  · rw [if_pos c, if_pos c]
  · rw [if_neg c, if_neg c, if_neg c]
theorem Rx.s19 {w : rW} {d : Nat} {t : List Int} (h : Rx w d t) (X : Int32) : Rx (rSF w 19 X) d t := by
  obtain ⟨a, b, c, e, f, g⟩ := h
  exact ⟨a, b, by rw [rF_SF_o (by omega)]; exact c, by rw [rF_SF_o (by omega)]; exact e, f, g⟩
def PR (d : Nat) (t : List Int) (w : rW) (i : Nat) (s : PS) (o : Option (Int32 × rW)) : Prop := ∃ w' j v, o = some (iB v, Wk w' j) ∧ Rx w' d t ∧ Rq NoA PrF w w' ∧ j ≤ t.length ∧ ((v = false ∧ (pGo s (t.drop i) i = .inl j ∨ ∃ s', pGo s (t.drop i) i = .inr s' ∧ s'.1 ≠ 0 ∧ j = t.length)) ∨ (v = true ∧ i < j ∧ ∃ s' : PS, s'.1 = 0 ∧ pGo s (t.drop i) i = pGo s' (t.drop j) j))
theorem PR.kbl {d : Nat} {t : List Int} {w : rW} {i : Nat} {s : PS} {o : Option (Int32 × rW)} (h : PR d t w i s o) : PR d t w i s (kb2 o fun v w1 => (kBl v).bind fun v1 => some (v1, w1)) := by
  obtain ⟨w', j, v, e, r⟩ := h
  exact ⟨w', j, v, by rw [e, kb2_s, kBl_B, Option.bind_some], r⟩
theorem pGo_cons {s s' : PS} {c : Int} {l : List Int} {i : Nat} (h : pStp s c = some s') : pGo s (c :: l) i = pGo s' l (i + 1) := by
  show (match pStp s c with | none => Sum.inl i | some s' => pGo s' l (i + 1)) = _
  rw [h]
theorem pGo_stop {s : PS} {c : Int} {l : List Int} {i : Nat} (h : pStp s c = none) : pGo s (c :: l) i = .inl i := by
  show (match pStp s c with | none => Sum.inl i | some s' => pGo s' l (i + 1)) = _
  rw [h]
/-- one sign on -/
theorem PR.on {d : Nat} {t : List Int} {w w1 : rW} {i : Nat} {s s' : PS} {c : Int} {l : List Int} {o : Option (Int32 × rW)} (hr : Rq NoA PrF w w1) (hd : t.drop i = c :: l) (hs : pStp s c = some s') (h : PR d t w1 (i + 1) s' o) : PR d t w i s o := by
  obtain ⟨w', j, v, e, r1, r2, r3, r4⟩ := h
  have e2 : pGo s (t.drop i) i = pGo s' (t.drop (i + 1)) (i + 1) := by
    obtain ⟨-, e2, -⟩ := drop_cons hd.symm
    rw [hd, pGo_cons hs, e2]
  refine ⟨w', j, v, e, r1, hr.tr r2, r3, ?_⟩
  rw [e2]
  rcases r4 with ⟨a, b⟩ | ⟨a, b, b2⟩
  · exact Or.inl ⟨a, b⟩
  · exact Or.inr ⟨a, by omega, b2⟩
/-- it stops here -/
theorem PR.no {d : Nat} {t : List Int} {w w1 : rW} {i : Nat} {s : PS} (hx : Rx w1 d t) (hr : Rq NoA PrF w w1) (hi : i ≤ t.length) (h0 : s.1 ≠ 0) (h : ∀ c l, t.drop i = c :: l → pStp s c = none) : PR d t w i s (some (0, Wk w1 i)) := by
  refine ⟨w1, i, false, rfl, hx, hr, hi, Or.inl ⟨rfl, ?_⟩⟩
  cases hd : t.drop i with
  | nil =>
    have := List.drop_eq_nil_iff.mp hd
    exact Or.inr ⟨s, rfl, h0, by omega⟩
  | cons c l => exact Or.inl (pGo_stop (h c l hd))
theorem sg_drop {t : List Int} {i : Nat} : (t.drop i = [] ∧ sg t i = -1000) ∨ ∃ c l, t.drop i = c :: l ∧ sg t i = c ∧ l = t.drop (i + 1) ∧ i < t.length := by
  cases hd : t.drop i with
  | nil => exact Or.inl ⟨rfl, drop_nil hd.symm⟩
  | cons c l => exact Or.inr ⟨c, l, rfl, drop_cons hd.symm⟩
theorem ends_ok {d : Nat} {t : List Int} {w : rW} {i : Nat} (hx : Rx w d t) (hi : i ≤ t.length) {s s' : PS} (h0 : s.1 ≠ 0) (h0' : s'.1 = 0) (hs : ∀ c l, t.drop i = c :: l → pStp s c = if c = 59 then some s' else none) : PR d t w i s (fX12_ends (Wk w i)) := by
  have b := sg_bd hx i
  have n120 := hx.2.1
  have e12 : rF (Wk w i) 12 = iI i := rF_SF_s
  have c59 : (59 : Int32) = iI ((59 : Nat) : Int) := by decide +kernel
  rw [fX12_ends, sign_ok hx i (by omega), Option.bind_some, e12, c59, rpN, Option.bind_some, iL_1, iI_add, show (i : Int) + 1 = ((i + 1 : Nat) : Int) by omega, Wk_to]
  rcases sg_drop (t := t) (i := i) with ⟨hd, e⟩ | ⟨c, l, hd, e, el, hlt⟩
  · rw [if_neg (by rw [iI_is (by omega) 59 (by omega)]; omega)]
    exact PR.no hx (Rq.rf w) hi h0 (fun c l z => by rw [hd] at z; cases z)
  · have hs' := hs c l hd
    by_cases c1 : c = 59
    · rw [if_pos (by rw [e, c1]; rfl)]
      rw [if_pos c1] at hs'
      exact ⟨w, i + 1, true, rfl, hx, Rq.rf w, by omega, Or.inr ⟨rfl, by omega, s', h0', by rw [hd, pGo_cons hs', el]⟩⟩
    · rw [if_neg (by rw [iI_is (by omega) 59 (by omega)]; omega)]
      rw [if_neg c1] at hs'
      exact PR.no hx (Rq.rf w) hi h0 (fun c' l' z => by rw [hd] at z; obtain ⟨rfl, rfl⟩ := List.cons.inj z; exact hs')
theorem pStp_2 (nb nu di : Nat) (ac : List Nat) (lk : Bool) (la st : Nat) (c : Int) : pStp (2, nb, nu, di, ac, lk, la, st) c = if (if di = 0 then 49 else 48) ≤ c ∧ c ≤ 57 ∧ di < 3 then some (2, nb, nu * 10 + (c - 48).toNat, di + 1, ac, lk, la, st) else if di = 0 ∨ c ≠ 59 then none else if nb = 107 then some (0, nb, nu, di, ac, lk, nu, st) else some (0, nb, nu, di, ac, lk, la, min nu 100) := rfl
theorem pStp_end {nb nu di : Nat} {ac : List Nat} {lk : Bool} {la st : Nat} {c : Int} (hd : di ≠ 0) (hc : ¬ (48 ≤ c ∧ c ≤ 57 ∧ di < 3)) : pStp (2, nb, nu, di, ac, lk, la, st) c = if c = 59 then some (if nb = 107 then (0, nb, nu, di, ac, lk, nu, st) else (0, nb, nu, di, ac, lk, la, min nu 100)) else none := by
  rw [pStp_2, if_neg hd, if_neg hc]
  by_cases e : c = 59
  · rw [if_neg (by rintro (z | z); exact hd z; exact z e), if_pos e]
    split <;> rfl
  · rw [if_pos (Or.inr e), if_neg e]
theorem numEnd_0 {nb nu di : Nat} {ac : List Nat} {lk : Bool} {la st : Nat} : ((if nb = 107 then (0, nb, nu, di, ac, lk, nu, st) else (0, nb, nu, di, ac, lk, la, min nu 100) : PS)).1 = 0 := by split <;> rfl
noncomputable def mEK : Int32 → rW → Option (Int32 × rW) := fun _ w7 => kb2 (fX12_ends w7) fun v10 w8 =>
  (kBl v10).bind fun v11 =>
  some (v11, w8)
theorem dig_ok {d : Nat} {t : List Int} (x1 : Int32) {nb : Nat} {ac : List Nat} {lk : Bool} {la st : Nat} : ∀ (m fu di nu i : Nat) (w : rW), m < fu → m + di = 3 → di ≠ 0 → Rx w d t → i ≤ t.length → PR d t w i (2, nb, nu, di, ac, lk, la, st) (fX12_readsStatement_L96 x1 fu mEK (iI di) (Wk w i)) := by
  intro m
  induction m with
  | zero =>
    intro fu di nu i w hf hm h0 hx hi
    obtain ⟨fu, rfl⟩ : ∃ z, fu = z + 1 := ⟨fu - 1, by omega⟩
    rw [fX12_readsStatement_L96, if_pos (by rw [iL_3, iI_le (by omega) (by omega) (by omega) (by omega)]; omega)]
    exact (ends_ok hx hi (by simp) numEnd_0 (fun c l _ => pStp_end h0 (by omega))).kbl
  | succ m ih =>
    intro fu di nu i w hf hm h0 hx hi
    obtain ⟨fu, rfl⟩ : ∃ z, fu = z + 1 := ⟨fu - 1, by omega⟩
    have b := sg_bd hx i
    have n120 := hx.2.1
    have e12 : ∀ X, rF (rSF (Wk w i) 19 X) 12 = iI i := fun X => (rF_SF_o (by omega)).trans rF_SF_s
    rw [fX12_readsStatement_L96, if_neg (by rw [iL_3, iI_le (by omega) (by omega) (by omega) (by omega)]; omega), sign_ok hx i (by omega), Option.bind_some, show (48 : Int64) = (iI 48).toInt64 by decide +kernel, show (57 : Int64) = (iI 57).toInt64 by decide +kernel, isIn_ok (by unfold I32; omega) (by unfold I32; omega) (by unfold I32; omega), Option.bind_some, Option.bind_some]
    by_cases c : 48 ≤ sg t i ∧ sg t i ≤ 57
    · rcases sg_drop (t := t) (i := i) with ⟨hd, e⟩ | ⟨c', l, hd, e, el, hlt⟩
      · omega
      rw [decide_eq_true c, if_neg iB_tn, rpN, Option.bind_some, rpN, Option.bind_some, e12, iL_1, iI_add, iI_add, show (i : Int) + 1 = ((i + 1 : Nat) : Int) by omega, Wk_19, show (di : Int) + 1 = ((di + 1 : Nat) : Int) by omega]
      exact PR.on (Rq.sf (Or.inr (Or.inr (Or.inr rfl)))) hd (by rw [pStp_2, if_neg h0, if_pos (by omega)]) (ih fu (di + 1) (nu * 10 + (c' - 48).toNat) (i + 1) _ (by omega) (by omega) (by omega) (hx.s19 _) (by omega))
    · rw [decide_eq_false c, if_pos iB_fz]
      refine (ends_ok hx hi (by simp) numEnd_0 (fun c' l hd => pStp_end h0 ?_)).kbl
      obtain ⟨e, -⟩ := drop_cons hd.symm
      omega
theorem j70_ok {d : Nat} {t : List Int} (x1 : Int32) {nb : Nat} {ac : List Nat} {lk : Bool} {la st : Nat} {i : Nat} {w : rW} (hx : Rx w d t) (hi : i ≤ t.length) : PR d t w i (2, nb, 0, 0, ac, lk, la, st) (fX12_readsStatement_J70 x1 (Wk w i)) := by
  have b := sg_bd hx i
  have n120 := hx.2.1
  have e12 : ∀ X, rF (rSF (Wk w i) 19 X) 12 = iI i := fun X => (rF_SF_o (by omega)).trans rF_SF_s
  rw [fX12_readsStatement_J70, sign_ok hx i (by omega), Option.bind_some, show (49 : Int64) = (iI 49).toInt64 by decide +kernel, show (57 : Int64) = (iI 57).toInt64 by decide +kernel, isIn_ok (by unfold I32; omega) (by unfold I32; omega) (by unfold I32; omega), Option.bind_some]
  by_cases c : 49 ≤ sg t i ∧ sg t i ≤ 57
  · rcases sg_drop (t := t) (i := i) with ⟨hd, e⟩ | ⟨c', l, hd, e, el, hlt⟩
    · omega
    have hx2 := hx.s19 0
    have ew : rSF (Wk w i) 19 (0 : Int32) = Wk (rSF w 19 0) i := by
      have := Wk_id (w := rSF (Wk w i) 19 (0 : Int32)) (e12 0)
      rw [← this]
      exact Wk_19
    obtain ⟨fu, hfu⟩ : ∃ fu, kFU = fu + 4 := ⟨kFU - 4, by unfold kFU; omega⟩
    rw [decide_eq_true c, if_neg iB_tn, rpN, Option.bind_some, ew, hfu]
    have e12' : ∀ X, rF (rSF (Wk (rSF w 19 0) i) 19 X) 12 = iI i := fun X => (rF_SF_o (by omega)).trans rF_SF_s
    show PR d t w i _ (fX12_readsStatement_L96 x1 (fu + 3 + 1) mEK (0 : Int32) (Wk (rSF w 19 0) i))
    rw [fX12_readsStatement_L96, if_neg (by decide +kernel), sign_ok hx2 i (by omega), Option.bind_some, show (48 : Int64) = (iI 48).toInt64 by decide +kernel, show (57 : Int64) = (iI 57).toInt64 by decide +kernel, isIn_ok (by unfold I32; omega) (by unfold I32; omega) (by unfold I32; omega), Option.bind_some, Option.bind_some, decide_eq_true (by omega), if_neg iB_tn, rpN, Option.bind_some, rpN, Option.bind_some, e12', iL_1, iI_add, show (i : Int) + 1 = ((i + 1 : Nat) : Int) by omega, Wk_19]
    exact PR.on ((Rq.sf (Or.inr (Or.inr (Or.inr rfl)))).tr (Rq.sf (Or.inr (Or.inr (Or.inr rfl))))) hd (by rw [pStp_2, if_pos rfl, if_pos (by omega)]) (dig_ok x1 2 (fu + 3) 1 _ (i + 1) _ (by omega) (by omega) (by omega) (hx2.s19 _) (by omega))
  · rw [decide_eq_false c, if_pos iB_fz]
    refine PR.no hx (Rq.rf w) hi (by simp) (fun c' l hd => ?_)
    obtain ⟨e, -⟩ := drop_cons hd.symm
    rw [pStp_2, if_pos rfl, if_neg (by omega), if_pos (Or.inl rfl)]
theorem st_ok {d : Nat} {t : List Int} {s : PS} (h0 : s.1 = 0) {i : Nat} {w : rW} (hx : Rx w d t) (hi : i < t.length) : PR d t w i s (fX12_readsStatement (Wk w i)) := by
  obtain ⟨s1, nb, nu, di, ac, lk, la, st⟩ := s
  have h0' : s1 = 0 := h0
  subst h0'
  have b := sg_bd hx i
  have n120 := hx.2.1
  have e12 : rF (Wk w i) 12 = iI i := rF_SF_s
  rcases sg_drop (t := t) (i := i) with ⟨hd, e⟩ | ⟨c, l, hd, e, el, hlt⟩
  · have := List.drop_eq_nil_iff.mp hd
    omega
  rw [e] at b
  have hp : pStp (0, nb, nu, di, ac, lk, la, st) c = if c = 109 ∨ c = 100 ∨ c = 99 then some (1, nb, nu, di, ac ++ [c.toNat], lk, la, st) else if c = 108 then some (1, nb, nu, di, ac, true, la, st) else if c = 107 ∨ c = 115 then some (2, c.toNat, 0, 0, ac, lk, la, st) else none := rfl
  have p1 : ∀ (nb nu di : Nat) (ac : List Nat) (lk : Bool) (la st : Nat) (c : Int), pStp (1, nb, nu, di, ac, lk, la, st) c = if c = 59 then some (0, nb, nu, di, ac, lk, la, st) else none := fun _ _ _ _ _ _ _ _ => rfl
  have one : ∀ (ac' : List Nat) (lk' : Bool), PR d t w (i + 1) (1, nb, nu, di, ac', lk', la, st) (kb2 (fX12_ends (Wk w (i + 1))) fun v4 w2 => (kBl v4).bind fun v5 => some (v5, w2)) := fun ac' lk' => (ends_ok hx (by omega) (s := (1, nb, nu, di, ac', lk', la, st)) (s' := (0, nb, nu, di, ac', lk', la, st)) (by simp) rfl (fun c l _ => p1 _ _ _ _ _ _ _ c)).kbl
  have j43 : fX12_readsStatement_J43 (iI c) (Wk w i) = if iI c = (107 : Int32) then fX12_readsStatement_J70 (iI c) (Wk w (i + 1)) else if iI c = (115 : Int32) then fX12_readsStatement_J70 (iI c) (Wk w (i + 1)) else kb2 (fX12_ends (Wk w (i + 1))) fun v4 w2 => (kBl v4).bind fun v5 => some (v5, w2) := by
    rw [fX12_readsStatement_J43, e12, rpN, Option.bind_some, iL_1, iI_add, show (i : Int) + 1 = ((i + 1 : Nat) : Int) by omega, Wk_to]
  have c109 : (109 : Int32) = iI ((109 : Nat) : Int) := by decide +kernel
  have c100 : (100 : Int32) = iI ((100 : Nat) : Int) := by decide +kernel
  have c99 : (99 : Int32) = iI ((99 : Nat) : Int) := by decide +kernel
  have c108 : (108 : Int32) = iI ((108 : Nat) : Int) := by decide +kernel
  have c107 : (107 : Int32) = iI ((107 : Nat) : Int) := by decide +kernel
  have c115 : (115 : Int32) = iI ((115 : Nat) : Int) := by decide +kernel
  have is : ∀ n : Nat, n < 200 → (iI c = iI n) = (c = n) := fun n hn => iI_is (by omega) n (by omega)
  rw [fX12_readsStatement, sign_ok hx i (by omega), Option.bind_some, e]
  simp only [j43]
  rw [c109, c100, c99, c108, c107, c115]
  simp only [is 109 (by omega), is 100 (by omega), is 99 (by omega), is 108 (by omega), is 107 (by omega), is 115 (by omega)]
  by_cases q1 : c = 109 ∨ c = 100 ∨ c = 99
  · have hp' := hp
    rw [if_pos q1] at hp'
    refine PR.on (Rq.rf w) hd hp' ?_
    have := one (ac ++ [c.toNat]) lk
    rcases q1 with q1 | q1 | q1
    · rw [if_pos (by omega), if_neg (by omega), if_neg (by omega)]; exact this
    · rw [if_neg (by omega), if_pos (by omega), if_neg (by omega), if_neg (by omega)]; exact this
    · rw [if_neg (by omega), if_neg (by omega), if_pos (by omega), if_neg (by omega), if_neg (by omega)]; exact this
  by_cases q2 : c = 108
  · have hp' := hp
    rw [if_neg q1, if_pos q2] at hp'
    refine PR.on (Rq.rf w) hd hp' ?_
    rw [if_neg (by omega), if_neg (by omega), if_neg (by omega), if_pos (by omega), if_neg (by omega), if_neg (by omega)]
    exact one ac true
  by_cases q3 : c = 107 ∨ c = 115
  · have hp' := hp
    rw [if_neg q1, if_neg q2, if_pos q3] at hp'
    refine PR.on (Rq.rf w) hd hp' ?_
    have := j70_ok (d := d) (t := t) (iI c) (nb := c.toNat) (ac := ac) (lk := lk) (la := la) (st := st) (i := i + 1) hx (by omega)
    rw [if_neg (by omega), if_neg (by omega), if_neg (by omega), if_neg (by omega)]
    rcases q3 with q3 | q3
    · rw [if_pos (by omega), if_pos (by omega)]; exact this
    · rw [if_neg (by omega), if_pos (by omega), if_neg (by omega), if_pos (by omega)]; exact this
  · rw [if_neg (by omega), if_neg (by omega), if_neg (by omega), if_neg (by omega), if_neg (by omega), if_neg (by omega)]
    have hp' := hp
    rw [if_neg q1, if_neg q2, if_neg q3] at hp'
    refine ⟨w, i, false, rfl, hx, Rq.rf w, by omega, Or.inl ⟨rfl, Or.inl ?_⟩⟩
    rw [hd]
    exact pGo_stop hp'
theorem st_nil {d : Nat} {t : List Int} {i : Nat} {w : rW} (hx : Rx w d t) (hi : t.length = i) : fX12_readsStatement (Wk w i) = some (0, Wk w i) := by
  have n120 := hx.2.1
  have e : sg t i = -1000 := by
    unfold sg
    rw [List.getElem?_eq_none (by omega)]
    rfl
  rw [fX12_readsStatement, sign_ok hx i (by omega), Option.bind_some, e, if_neg (by decide +kernel), if_neg (by decide +kernel), if_neg (by decide +kernel), if_neg (by decide +kernel), if_neg (by decide +kernel), if_neg (by decide +kernel)]
theorem prog_loop {d : Nat} {t : List Int} (x1 x2 : Int32) (K : rW → Option (Int32 × rW)) : ∀ (m fu i : Nat) (w : rW) (s : PS), m < fu → t.length ≤ i + m → i < t.length → s.1 = 0 → Rx w d t → ∃ w', Rx w' d t ∧ Rq NoA PrF w w' ∧ ((∃ j, j ≤ t.length ∧ (pGo s (t.drop i) i = .inl j ∨ ∃ s', pGo s (t.drop i) i = .inr s' ∧ s'.1 ≠ 0 ∧ j = t.length) ∧ fX12_program_L59 x1 x2 fu K (Wk w i) = some (iI (-100 - (j : Int)), w')) ∨ (∃ s' : PS, pGo s (t.drop i) i = .inr s' ∧ s'.1 = 0 ∧ fX12_program_L59 x1 x2 fu K (Wk w i) = K w')) := by
  intro m
  induction m with
  | zero => intro fu i w s hf hm hi; omega
  | succ m ih =>
    intro fu i w s hf hm hi h0 hx
    obtain ⟨fu, rfl⟩ : ∃ z, fu = z + 1 := ⟨fu - 1, by omega⟩
    obtain ⟨w1, j, v, e, hx1, r1, hj, hv⟩ := st_ok h0 hx hi
    have n120 := hx1.2.1
    have f12 : rF (Wk w1 j) 12 = iI j := rF_SF_s
    have f14 : rF (Wk w1 j) 14 = iI t.length := (rF_SF_o (by omega)).trans hx1.2.2.2.1
    have hxj : Rx (Wk w1 j) d t := ⟨hx1.1, hx1.2.1, (rF_SF_o (by omega)).trans hx1.2.2.1, f14, hx1.2.2.2.2.1, hx1.2.2.2.2.2⟩
    have rj : Rq NoA PrF w (Wk w1 j) := r1.tr (Rq.sf (Or.inl rfl))
    rw [fX12_program_L59, e, kb2_s, f12, f14]
    rcases hv with ⟨rfl, hv⟩ | ⟨rfl, hlt, s', h0', hv⟩
    · refine ⟨Wk w1 j, hxj, rj, Or.inl ⟨j, hj, hv, ?_⟩⟩
      rw [if_pos iB_fz, show (-100 : Int32) = iI (-100) by decide +kernel, iI_sub]
    · rw [if_neg iB_tn]
      by_cases c : j < t.length
      · obtain ⟨w2, hx2, r2, g2⟩ := ih fu j w1 s' (by omega) (by omega) c h0' hx1
        rw [if_pos (by rw [iI_lt (by omega) (by omega) (by omega) (by omega)]; omega), hv]
        exact ⟨w2, hx2, r1.tr r2, g2⟩
      · refine ⟨Wk w1 j, hxj, rj, Or.inr ⟨s', ?_, h0', ?_⟩⟩
        · rw [hv, List.drop_eq_nil_iff.mpr (by omega)]
          rfl
        · rw [if_neg (by rw [iI_lt (by omega) (by omega) (by omega) (by omega)]; omega)]
/-- the whole text -/
theorem prog_read {d : Nat} {t : List Int} (x1 x2 : Int32) (K : rW → Option (Int32 × rW)) {w : rW} (hx : Rx w d t) : ∃ w', Rx w' d t ∧ Rq NoA PrF w w' ∧ fX12_program_L59 x1 x2 kFU K (Wk w 0) = match pFt t with
    | some j => some (iI (-100 - (j : Int)), w')
    | none => K w' := by
  have n120 := hx.2.1
  obtain ⟨fu, hfu⟩ : ∃ fu, kFU = fu + 1 := ⟨kFU - 1, by unfold kFU; omega⟩
  by_cases c : t.length = 0
  · have e : t = [] := List.eq_nil_of_length_eq_zero c
    refine ⟨Wk w 0, ?_, Rq.sf (Or.inl rfl), ?_⟩
    · exact ⟨hx.1, hx.2.1, (rF_SF_o (by omega)).trans hx.2.2.1, (rF_SF_o (by omega)).trans hx.2.2.2.1, hx.2.2.2.2.1, hx.2.2.2.2.2⟩
    · rw [hfu, fX12_program_L59, st_nil hx c, kb2_s, if_pos rfl, show rF (Wk w 0) 12 = iI ((0 : Nat) : Int) from rF_SF_s, show (-100 : Int32) = iI (-100) by decide +kernel, iI_sub, e]
      rfl
  · obtain ⟨w', hx', r, g⟩ := prog_loop x1 x2 K t.length kFU 0 w pS0 (by unfold kFU; omega) (by omega) (by omega) rfl hx
    refine ⟨w', hx', r, ?_⟩
    rw [List.drop_zero] at g
    unfold pFt
    rcases g with ⟨j, hj, g1 | ⟨s', g1, g2, g3⟩, g4⟩ | ⟨s', g1, g2, g3⟩
    · rw [g1, g4]
    · rw [g1, g4]
      show _ = match (if 0 < t.length ∧ s'.1 = 0 then none else some t.length) with | some j => some (iI (-100 - (j : Int)), w') | none => K w'
      rw [if_neg (fun z => g2 z.2), g3]
    · rw [g1, g3]
      show _ = match (if 0 < t.length ∧ s'.1 = 0 then none else some t.length) with | some j => some (iI (-100 - (j : Int)), w') | none => K w'
      rw [if_pos ⟨by omega, g2⟩]
