/-! .. runs, needs, shown, trees -/
def pAc (s : PS) : Prop := ∀ c ∈ psA s, c = 109 ∨ c = 100 ∨ c = 99
theorem pStp_bd {s s' : PS} {c : Int} (hb : pBd s) (ha : pAc s) (h0 : -128 ≤ c) (h1 : c < 128) (h : pStp s c = some s') : pBd s' ∧ pAc s' := by
  obtain ⟨sa, nb, nu, di, ac, lk, la, st⟩ := s
  obtain ⟨b1, b2, b3, b4, b5, b6⟩ := hb
  simp only [psN, psS] at b1 b2 b3 b4 b5 b6
  rcases (show sa = 0 ∨ sa = 1 ∨ sa = 2 by omega) with rfl | rfl | rfl
  · have h' : (if c = 109 ∨ c = 100 ∨ c = 99 then some ((1, nb, nu, di, ac ++ [c.toNat], lk, la, st) : PS) else if c = 108 then some (1, nb, nu, di, ac, true, la, st) else if c = 107 ∨ c = 115 then some (2, c.toNat, 0, 0, ac, lk, la, st) else none) = some s' := h
    by_cases ca : c = 109 ∨ c = 100 ∨ c = 99
    · rw [if_pos ca] at h'
      cases h'
      refine ⟨⟨by show 1 ≤ 2; omega, b2, b3, b4, b5, b6⟩, fun d hd => ?_⟩
      have hd' : d ∈ ac ++ [c.toNat] := hd
      rcases List.mem_append.mp hd' with hd' | hd'
      · exact ha d hd'
      · rw [List.mem_singleton.mp hd']
        omega
    · rw [if_neg ca] at h'
      by_cases cb : c = 108
      · rw [if_pos cb] at h'
        cases h'
        exact ⟨⟨by show 1 ≤ 2; omega, b2, b3, b4, b5, b6⟩, ha⟩
      · rw [if_neg cb] at h'
        by_cases cc : c = 107 ∨ c = 115
        · rw [if_pos cc] at h'
          cases h'
          exact ⟨⟨by show 2 ≤ 2; omega, by show c.toNat < 128; omega, by show 0 ≤ 3; omega, by show 0 < 10 ^ 0; decide, b5, b6⟩, ha⟩
        · rw [if_neg cc] at h'
          cases h'
  · have h' : (if c = 59 then some ((0, nb, nu, di, ac, lk, la, st) : PS) else none) = some s' := h
    by_cases ca : c = 59
    · rw [if_pos ca] at h'
      cases h'
      exact ⟨⟨by show 0 ≤ 2; omega, b2, b3, b4, b5, b6⟩, ha⟩
    · rw [if_neg ca] at h'
      cases h'
  · have h' : (if (if di = 0 then 49 else 48) ≤ c ∧ c ≤ 57 ∧ di < 3 then some ((2, nb, nu * 10 + (c - 48).toNat, di + 1, ac, lk, la, st) : PS) else if di = 0 ∨ c ≠ 59 then none else if nb = 107 then some (0, nb, nu, di, ac, lk, nu, st) else some (0, nb, nu, di, ac, lk, la, min nu 100)) = some s' := h
    have nu_lt : nu < 1000 := by
      have : 10 ^ di ≤ 10 ^ 3 := Nat.pow_le_pow_right (by decide) b3
      omega
    have lr : (if di = 0 then (49 : Int) else 48) = 49 ∨ (if di = 0 then (49 : Int) else 48) = 48 := by
      by_cases hd : di = 0
      · rw [if_pos hd]; exact Or.inl rfl
      · rw [if_neg hd]; exact Or.inr rfl
    by_cases ca : (if di = 0 then 49 else 48) ≤ c ∧ c ≤ 57 ∧ di < 3
    · rw [if_pos ca] at h'
      cases h'
      have hd3 := ca.2.2
      have hc57 := ca.2.1
      refine ⟨⟨by show 2 ≤ 2; omega, b2, by show di + 1 ≤ 3; omega, ?_, b5, b6⟩, ha⟩
      show nu * 10 + (c - 48).toNat < 10 ^ (di + 1)
      rw [Nat.pow_succ]
      omega
    · rw [if_neg ca] at h'
      by_cases cb : di = 0 ∨ c ≠ 59
      · rw [if_pos cb] at h'
        cases h'
      · rw [if_neg cb] at h'
        by_cases cc : nb = 107
        · rw [if_pos cc] at h'
          cases h'
          exact ⟨⟨by show 0 ≤ 2; omega, b2, b3, b4, by show nu ≤ 1000000; omega, b6⟩, ha⟩
        · rw [if_neg cc] at h'
          cases h'
          exact ⟨⟨by show 0 ≤ 2; omega, b2, b3, b4, b5, by show min nu 100 ≤ 100; omega⟩, ha⟩
theorem pGo_bd : ∀ (l : List Int) (s s' : PS) (i : Nat), (∀ c ∈ l, -128 ≤ c ∧ c < 128) → pBd s → pAc s → pGo s l i = .inr s' → pBd s' ∧ pAc s' := by
  intro l
  induction l with
  | nil =>
    intro s s' i hl hb ha h
    have e : s = s' := Sum.inr.inj h
    rw [← e]; exact ⟨hb, ha⟩
  | cons c l ih =>
    intro s s' i hl hb ha h
    have h' : (match pStp s c with | none => .inl i | some s2 => pGo s2 l (i + 1)) = (.inr s' : Sum Nat PS) := h
    cases hp : pStp s c with
    | none => rw [hp] at h'; cases h'
    | some s2 =>
      rw [hp] at h'
      obtain ⟨b0, b1⟩ := hl c List.mem_cons_self
      obtain ⟨g1, g2⟩ := pStp_bd hb ha b0 b1 hp
      exact ih s2 s' (i + 1) (fun d hd => hl d (List.mem_cons_of_mem _ hd)) g1 g2 h'
theorem pEnd_bd {l : List Int} (hl : ∀ c ∈ l, -128 ≤ c ∧ c < 128) : pBd (pEnd l) ∧ pAc (pEnd l) := by
  have h0 : pBd pS0 ∧ pAc pS0 := ⟨⟨by decide, by decide, by decide, by decide, by decide, by decide⟩, fun c hc => by cases hc⟩
  unfold pEnd
  cases hg : pGo pS0 l 0 with
  | inl j => exact h0
  | inr s => exact pGo_bd l pS0 s 0 hl h0.1 h0.2 hg
/-- refusals of a run; the run itself -/
def aRef (S : AS) (p l : Int) : Int := match tPn (sT S) p with
  | none => -1
  | some _ => match tLn (sT S) l with
    | none => -1
    | some _ => if aHw S l = 0 then 0 else -3
noncomputable def aRQ (S : AS) (p l : Int) (z : Int32) (odds : Int) : QS := qRun (pEnd ((tPn (sT S) p).getD [])) (tKL (sT S)) odds z 1000000 (tLo (sT S) l)
theorem runRef_ok {ow : Nat → Nat × Nat} {x : Nat} {w : kW} {S : AS} (h : Kc ow x w S) {p l : Int} (hp : I32 p) (hl : I32 l) : fX11_runRefusal x (iI p) (iI l) w = some (iI (aRef S p l)) := by
  obtain ⟨p1, p2⟩ := programAt_ok h.2.2.1 hp.1 hp.2
  obtain ⟨l1, l2⟩ := lineAt_ok h.2.2.1 hl.1 hl.2
  unfold aRef
  rw [fX11_runRefusal, top_t h]
  cases hP : tPn (sT S) p with
  | none => rw [p1 hP, Option.bind_some, if_pos rfl, iN_1]
  | some u =>
    obtain ⟨pr, e1, g1⟩ := p2 u hP
    rw [e1, Option.bind_some, if_neg (by simp), top_t h]
    cases hL : tLn (sT S) l with
    | none => rw [l1 hL, Option.bind_some, if_pos rfl, iN_1]
    | some F =>
      obtain ⟨a, e2, g2⟩ := l2 F hL
      obtain ⟨y1, z1⟩ := kc_how h hL
      rw [e2, Option.bind_some, if_neg (by simp), top_t h, y1, Option.bind_some]
      show _ = some (iI (if aHw S l = 0 then 0 else -3))
      by_cases c : aHw S l = 0
      · rw [if_pos (by rw [c]; rfl), if_pos c, iL_0]
      · rw [if_neg (by rw [iL_0, iI_eq (by omega) (by omega) (by omega) (by omega)]; omega), if_neg c, iN_3]
theorem aRef_0 {S : AS} {p l : Int} (h : aRef S p l = 0) : (∃ u, tPn (sT S) p = some u) ∧ (∃ F, tLn (sT S) l = some F) ∧ aHw S l = 0 := by
  unfold aRef at h
  cases hP : tPn (sT S) p with
  | none => rw [hP] at h; exact absurd h (by show ¬ (-1 : Int) = 0; decide)
  | some u =>
    cases hL : tLn (sT S) l with
    | none => rw [hP, hL] at h; exact absurd h (by show ¬ (-1 : Int) = 0; decide)
    | some F =>
      rw [hP, hL] at h
      have h' : (if aHw S l = 0 then (0 : Int) else -3) = 0 := h
      by_cases c : aHw S l = 0
      · exact ⟨⟨u, rfl⟩, ⟨F, rfl⟩, c⟩
      · rw [if_neg c] at h'
        exact absurd h' (by decide)
theorem aRef_bd (S : AS) (p l : Int) : -3 ≤ aRef S p l ∧ aRef S p l ≤ 0 := by
  unfold aRef
  split
  · omega
  · split
    · omega
    · split <;> omega
/-- the class's search stands there -/
def Kq (ow : Nat → Nat × Nat) (x : Nat) (w : kW) (S : AS) (K : List (Nat × Fo)) (lk : Bool) (st : Nat) (odds : Int) (q : QS) : Prop := Kc ow x w S ∧ ∃ p d nd, Ss ow x w (x + 61) p d nd K lk st odds q
theorem Kq.q {ow : Nat → Nat × Nat} {x : Nat} {w : kW} {S : AS} {K : List (Nat × Fo)} {lk : Bool} {st : Nat} {odds : Int} {q : QS} (h : Kq ow x w S K lk st odds q) : (kKd w (x + 61) = 5) ∧ (kI w (x + 61) 6 = iI (qN q).length ∧ kI w (x + 61) 10 = iI (qA q) ∧ kI w (x + 61) 12 = iB (qH q).isSome ∧ (∀ d b, qH q = some (d, b) → kI w (x + 61) 13 = iI d ∧ kI w (x + 61) 14 = iI b) ∧ kI w (x + 61) 17 = iI (qS q) ∧ kI w (x + 61) 18 = iI (qU q)) ∧ (kgP w 11 (some x) 9 = some (some (x + 61))) := by
  obtain ⟨hk, p, d, nd, h1, h2, h3, ⟨⟨f6, f7, f8, f9, f10, f11⟩, ⟨f12, f13⟩, f15, f16, f17, f18⟩, -⟩ := h
  exact ⟨h1.1.1, ⟨f6, f10, f12, f13, f17, f18⟩, by rw [kgP_e hk.2.1.1.1, hk.2.1.2.1.2.2.2.2.2.2.2.2.1]⟩
theorem learned {ow : Nat → Nat × Nat} {x : Nat} {w : kW} {S : AS} (h : Kc ow x w S) : ∃ w' p d nd, fX5_learnAll (x + 61) (some (x + 1)) w = some w' ∧ SsS ow x w' (x + 61) p d nd ∧ SsK ow x w' (x + 61) (tKL (sT S)) ∧ kI w' (x + 61) 7 = iI (tKL (sT S)).length ∧ Sq ow (fun z => z = x + 61) w w' ∧ Kc ow x w' S ∧ ∃ odds : Int, 0 ≤ odds ∧ odds ≤ 100 ∧ kI w' (x + 61) 16 = iI odds := by
  obtain ⟨⟨p, d, nd, hs⟩, odds, b1, b2, b3⟩ := h.2.2.2.2.2.2.2.2.2.2.1
  have hts : x + 1 ≠ x + 61 := by omega
  have ho := hs.1.2.1
  have S0 : Sq ow (fun z => z = x + 61) w (kSI w (x + 61) 7 0) := Sq.si (by rw [ho])
  have nS : ∀ a, x + 237 ≤ a → ¬ a = x + 61 := fun a ha => by omega
  have hT0 := h.2.2.1.fr S0.fr hts nS
  obtain ⟨w', e, g1, g2, g3, S1, fl⟩ := learnAll_loop hts (fun q => some q) (tK (sT S)).length kFU 0 (kSI w (x + 61) 7 0) (by have := h.2.2.1.1.kl; have := h.2.2.1.1.1; unfold kFU; omega) (by omega) (hs.own S0 rfl rfl) ⟨by simp, fun k num G hk => by simp at hk⟩ kI_SI_s hT0
  have S2 := S0.tr S1
  have f16 : kI w' (x + 61) 16 = iI odds := by rw [fl 16 (by omega), kI_SI_j (by omega)]; exact b3
  obtain ⟨k3, -⟩ := h.ss (S2.wide (fun z hz => by rw [hz]; exact ⟨Nat.le_refl _, by omega⟩)) ⟨⟨p, d, nd, g1⟩, odds, b1, b2, f16⟩
  refine ⟨w', p, d, nd, ?_, g1, g2, g3, S2, k3, odds, b1, b2, f16⟩
  rw [fX5_learnAll, kpI_e hs.1.1, Option.bind_some]
  exact e
theorem Ss.kq {ow : Nat → Nat × Nat} {x : Nat} {w w' : kW} {S : AS} {K : List (Nat × Fo)} {lk : Bool} {st : Nat} {odds : Int} {q : QS} {p d : Nat} {nd : Nat → Nat} (hs : Ss ow x w' (x + 61) p d nd K lk st odds q) (h : Kc ow x w S) (hq : Sq ow (Vs x) w w') : Kq ow x w' S K lk st odds q ∧ Fr ow ow (Cx x) w w' := by
  obtain ⟨k3, f3⟩ := h.ss hq ⟨⟨p, d, nd, hs.1⟩, odds, hs.2.2.2.2.2.2.1, hs.2.2.2.2.2.2.2, hs.2.2.2.1.2.2.2.1⟩
  exact ⟨⟨k3, p, d, nd, hs⟩, f3⟩
theorem tPn_in {T : TbS} {p : Int} {u : List Int} (h : tPn T p = some u) : u ∈ tP T := by
  unfold tPn at h
  by_cases c : p < 0
  · rw [if_pos c] at h; cases h
  · rw [if_neg c] at h
    exact List.mem_of_getElem? h
theorem lookFor_ok {ow : Nat → Nat × Nat} {x : Nat} {w : kW} {S : AS} (h : Kc ow x w S) {p l : Int} (hp : I32 p) (hl : I32 l) (h0 : aRef S p l = 0) (z : Int32) {odds : Int} (o0 : 0 ≤ odds) (o1 : odds ≤ 100) :
    ∃ w', fX11_lookFor x (iI p) (iI l) z (iI odds) w = some w' ∧ Kq ow x w' S (tKL (sT S)) (psL (pEnd ((tPn (sT S) p).getD []))) (psS (pEnd ((tPn (sT S) p).getD []))) odds (aRQ S p l z odds) ∧ Fr ow ow (Cx x) w w' := by
  obtain ⟨⟨u, hP⟩, ⟨F, hF⟩, hw0⟩ := aRef_0 h0
  obtain ⟨w1, p1, d1, nd1, e1, s1, k1, f1, S1, c1, -⟩ := learned h
  obtain ⟨w2, e2, r2, S2⟩ := setSlips_ok s1 k1 f1 z o0 o1
  have q2 : Sq ow (Vs x) w1 w2 := S2.wide (fun z hz => by rw [hz]; exact ⟨Nat.le_refl _, by omega⟩)
  obtain ⟨c2, -⟩ := c1.ss q2 ⟨⟨p1, d1, nd1, r2.1⟩, odds, o0, o1, r2.2.2.2.2.1⟩
  obtain ⟨pr, e3, g3⟩ := (programAt_ok c2.2.2.1 hp.1 hp.2).2 u hP
  obtain ⟨a, e4, g4⟩ := (lineAt_ok c2.2.2.1 hl.1 hl.2).2 F hF
  have hu := c2.2.2.1.1.2.2.2.2.2.2 u (tPn_in hP)
  obtain ⟨bd, ac⟩ := pEnd_bd hu.2.2
  have npr : ¬ Vs x pr := fun z => by have := z.2; have := g3.2; omega
  obtain ⟨w3, d3, nd3, e5, s3, S3⟩ := look_ok r2 npr g3.1 (by have := bd.2.2.2.2.2; omega) bd.2.2.2.2.1 (fun c hc => by rcases ac c hc with h | h | h <;> omega) g4 (deepest := 1000000) (Nat.le_refl _)
  have q1 : Sq ow (Vs x) w w1 := S1.wide (fun z hz => by rw [hz]; exact ⟨Nat.le_refl _, by omega⟩)
  have eu : (tPn (sT S) p).getD [] = u := by rw [hP]; rfl
  have eF : tLo (sT S) l = F := by unfold tLo; rw [hF]; rfl
  unfold aRQ
  rw [eu, eF]
  obtain ⟨k3, f3⟩ := s3.kq h ((q1.tr q2).tr S3)
  refine ⟨w3, ?_, k3, f3⟩
  have kx : ∀ {w9 : kW}, Kc ow x w9 S → kKd w9 x = 11 := fun k => k.2.1.1.1
  have hs0 := h.2.2.2.2.2.2.2.2.2.2.1.1
  obtain ⟨p0, d0, nd0, hs0⟩ := hs0
  rw [fX11_lookFor, kgP_e (kx h), Option.bind_some, h.2.1.2.1.2.2.2.2.2.2.2.2.1, kgP_e (kx h), Option.bind_some, h.2.1.2.1.1, kRc_e hs0.1.1, Option.bind_some, e1, Option.bind_some, kgP_e (kx c1), Option.bind_some, c1.2.1.2.1.2.2.2.2.2.2.2.2.1, kRc_e s1.1.1, Option.bind_some, e2, Option.bind_some, kgP_e (kx c2), Option.bind_some, c2.2.1.2.1.2.2.2.2.2.2.2.2.1, top_t c2, e3, Option.bind_some, top_t c2, e4, Option.bind_some, kRc_e r2.1.1.1, Option.bind_some]
  have e5' : fX5_look (x + 61) (some pr) (some a) (1000000 : Int32) w2 = some w3 := e5
  rw [e5', Option.bind_some]
def qShn (q : QS) (f : Nat × Nat → Nat) : Int := match qH q with
  | some e => f e
  | none => -4
noncomputable def aRun (S : AS) (p l q : Int) : Int := if 0 ≤ q ∧ q ≤ 4 then (if aRef S p l = 0 then (if q = 0 then bI (qH (aRQ S p l 0 0)).isSome else if q = 1 then qA (aRQ S p l 0 0) else if q = 2 then (qN (aRQ S p l 0 0)).length else if q = 3 then qShn (aRQ S p l 0 0) Prod.fst else qShn (aRQ S p l 0 0) Prod.snd) else aRef S p l) else -1
theorem shn_ok {ow : Nat → Nat × Nat} {x : Nat} {w : kW} {S : AS} {K : List (Nat × Fo)} {lk : Bool} {st : Nat} {odds : Int} {q : QS} (h : Kq ow x w S K lk st odds q) : (if iB (qH q).isSome = 0 then some ((-4 : Int32), w) else (kgP w 11 (some x) 9).bind fun v15 => (kgI w 5 v15 13).bind fun v16 => some (v16, w)) = some (iI (qShn q Prod.fst), w) ∧ (if iB (qH q).isSome = 0 then some ((-4 : Int32), w) else (kgP w 11 (some x) 9).bind fun v15 => (kgI w 5 v15 14).bind fun v16 => some (v16, w)) = some (iI (qShn q Prod.snd), w) := by
  obtain ⟨hk, ⟨f6, f10, f12, f13, f17, f18⟩, hg⟩ := h.q
  unfold qShn
  cases hh : qH q with
  | none => exact ⟨by rw [if_pos (show iB (none : Option (Nat × Nat)).isSome = 0 from rfl), iN_4], by rw [if_pos (show iB (none : Option (Nat × Nat)).isSome = 0 from rfl), iN_4]⟩
  | some e =>
    obtain ⟨d, b⟩ := e
    obtain ⟨g1, g2⟩ := f13 d b hh
    exact ⟨by rw [if_neg (show ¬ iB (some (d, b)).isSome = 0 by show ¬ iB true = 0; decide +kernel), hg, Option.bind_some, kgI_e hk, Option.bind_some, g1], by rw [if_neg (show ¬ iB (some (d, b)).isSome = 0 by show ¬ iB true = 0; decide +kernel), hg, Option.bind_some, kgI_e hk, Option.bind_some, g2]⟩
theorem kc_run {ow : Nat → Nat × Nat} {x : Nat} {w : kW} {S : AS} (h : Kc ow x w S) {p l q : Int} (hp : I32 p) (hl : I32 l) (hq : I32 q) : Kd ow x w (fX11_run x (iI p) (iI l) (iI q) w) (aRun S p l q) S := by
  obtain ⟨q0, q1⟩ := hq
  have hk := h.2.1.1.1
  have bd := aRef_bd S p l
  unfold aRun
  rw [fX11_run]
  by_cases c0 : q < 0
  · rw [if_pos (by rw [iL_0, iI_lt (by omega) (by omega) (by omega) (by omega)]; exact c0), if_neg (by omega)]
    exact Kd.rf h (by rw [iN_1])
  rw [if_neg (by rw [iL_0, iI_lt (by omega) (by omega) (by omega) (by omega)]; exact c0)]
  by_cases c4 : q ≤ 4
  · rw [if_pos (by rw [iL_4, iI_le (by omega) (by omega) (by omega) (by omega)]; exact c4), if_pos (show 0 ≤ q ∧ q ≤ 4 by omega), kRc_e hk, Option.bind_some, runRef_ok h hp hl, Option.bind_some]
    by_cases c : aRef S p l = 0
    · obtain ⟨w', e, k1, f1⟩ := lookFor_ok h hp hl c 0 (odds := 0) (by omega) (by omega)
      obtain ⟨hk5, ⟨f6, f10, f12, f13, f17, f18⟩, hg⟩ := k1.q
      obtain ⟨sh1, sh2⟩ := shn_ok k1
      have e' : fX11_lookFor x (iI p) (iI l) (0 : Int32) (0 : Int32) w = some w' := e
      rw [if_pos (by rw [c]; decide +kernel), if_pos c, Option.bind_some, e', Option.bind_some]
      rcases (show q = 0 ∨ q = 1 ∨ q = 2 ∨ q = 3 ∨ q = 4 by omega) with rfl | rfl | rfl | rfl | rfl
      · rw [if_pos (show iI 0 = (0 : Int32) from rfl), if_pos rfl, hg, Option.bind_some, kgI_e hk5, Option.bind_some, f12, if_iB]
        exact ⟨w', ow, rfl, k1.1, f1⟩
      · rw [if_neg (by decide +kernel), if_pos (show iI 1 = (1 : Int32) from rfl), if_neg (by omega), if_pos rfl, hg, Option.bind_some, kgI_e hk5, Option.bind_some, f10]
        exact ⟨w', ow, rfl, k1.1, f1⟩
      · rw [if_neg (by decide +kernel), if_neg (by decide +kernel), if_pos (show iI 2 = (2 : Int32) from rfl), if_neg (by omega), if_neg (by omega), if_pos rfl, hg, Option.bind_some, kgI_e hk5, Option.bind_some, f6]
        exact ⟨w', ow, rfl, k1.1, f1⟩
      · rw [if_neg (by decide +kernel), if_neg (by decide +kernel), if_neg (by decide +kernel), if_pos (show iI 3 = (3 : Int32) from rfl), if_neg (by omega), if_neg (by omega), if_neg (by omega), if_pos rfl]
        have e9 : ((kgP w' 11 (some x) 9).bind fun v13 => (kgI w' 5 v13 12).bind fun v14 => if v14 = 0 then some ((-4 : Int32), w') else (kgP w' 11 (some x) 9).bind fun v15 => (kgI w' 5 v15 13).bind fun v16 => some (v16, w')) = some (iI (qShn (aRQ S p l 0 0) Prod.fst), w') := by
          rw [← sh1, ← f12, hg, Option.bind_some, kgI_e hk5, Option.bind_some, Option.bind_some]
        rw [e9]
        exact ⟨w', ow, rfl, k1.1, f1⟩
      · rw [if_neg (by decide +kernel), if_neg (by decide +kernel), if_neg (by decide +kernel), if_neg (by decide +kernel), if_neg (by omega), if_neg (by omega), if_neg (by omega), if_neg (by omega)]
        have e9 : ((kgP w' 11 (some x) 9).bind fun v17 => (kgI w' 5 v17 12).bind fun v18 => if v18 = 0 then some ((-4 : Int32), w') else (kgP w' 11 (some x) 9).bind fun v19 => (kgI w' 5 v19 14).bind fun v20 => some (v20, w')) = some (iI (qShn (aRQ S p l 0 0) Prod.snd), w') := by
          rw [← sh2, ← f12, hg, Option.bind_some, kgI_e hk5, Option.bind_some, Option.bind_some]
        rw [e9]
        exact ⟨w', ow, rfl, k1.1, f1⟩
    · rw [if_neg (by rw [iL_0, iI_eq (by omega) (by omega) (by omega) (by omega)]; exact c), if_neg c]
      exact Kd.rf h rfl
  · rw [if_neg (by rw [iL_4, iI_le (by omega) (by omega) (by omega) (by omega)]; exact c4), if_neg (by omega)]
    exact Kd.rf h (by rw [iN_1])
noncomputable def aNeed (S : AS) (p l i j : Int) : Int := if 0 ≤ i ∧ 0 ≤ j then (if aRef S p l = 0 then (match (qN (aRQ S p l 0 0))[i.toNat]? with
  | some e => bt (fTxt e.1) j
  | none => -4) else aRef S p l) else -1
theorem kc_need {ow : Nat → Nat × Nat} {x : Nat} {w : kW} {S : AS} (h : Kc ow x w S) {p l i j : Int} (hp : I32 p) (hl : I32 l) (hi : I32 i) (hj : I32 j) : Kd ow x w (fX11_need x (iI p) (iI l) (iI i) (iI j) w) (aNeed S p l i j) S := by
  obtain ⟨i0, i1⟩ := hi
  obtain ⟨j0, j1⟩ := id hj
  have hk := h.2.1.1.1
  have bd := aRef_bd S p l
  unfold aNeed
  rw [fX11_need]
  by_cases c0 : i < 0
  · rw [if_pos (by rw [iL_0, iI_lt (by omega) (by omega) (by omega) (by omega)]; exact c0), if_neg (by omega)]
    exact Kd.rf h (by rw [iN_1])
  rw [if_neg (by rw [iL_0, iI_lt (by omega) (by omega) (by omega) (by omega)]; exact c0)]
  by_cases c4 : 0 ≤ j
  · rw [if_pos (by rw [iL_0, iI_le (by omega) (by omega) (by omega) (by omega)]; exact c4), if_pos (show 0 ≤ i ∧ 0 ≤ j by omega), kRc_e hk, Option.bind_some, runRef_ok h hp hl, Option.bind_some]
    by_cases c : aRef S p l = 0
    · obtain ⟨w', e, k1, f1⟩ := lookFor_ok h hp hl c 0 (odds := 0) (by omega) (by omega)
      obtain ⟨hk5, -, hg⟩ := k1.q
      have e' : fX11_lookFor x (iI p) (iI l) (0 : Int32) (0 : Int32) w = some w' := e
      obtain ⟨k2, p2, d2, nd2, s2⟩ := id k1
      obtain ⟨n1, n2⟩ := needAt_ok s2 i0 i1
      rw [if_pos (by rw [c]; decide +kernel), if_pos c, Option.bind_some, e', Option.bind_some, hg, Option.bind_some, kRc_e hk5, Option.bind_some]
      cases hn : (qN (aRQ S p l 0 0))[i.toNat]? with
      | none =>
        rw [n2 (Or.inr hn), Option.bind_some, if_pos rfl]
        exact ⟨w', ow, by rw [iN_4], k2, f1⟩
      | some en =>
        obtain ⟨y1, y2⟩ := n1 en.1 en.2 (by omega) hn
        obtain ⟨w3, e3, k3, f3⟩ := kc_byte (X := []) k2 y2.2.1 y2.2.2 (all_1 en.1) y2.1 hj
        have ez : (0 : Int32) = iI (([] : List Nat).length : Int) := by decide +kernel
        rw [y1, Option.bind_some, if_neg (by simp), top_w k2, ez, e3, kb2_s]
        exact ⟨w3, ow, rfl, k3, f1.cc f3⟩
    · rw [if_neg (by rw [iL_0, iI_eq (by omega) (by omega) (by omega) (by omega)]; exact c), if_neg c]
      exact Kd.rf h rfl
  · rw [if_neg (by rw [iL_0, iI_le (by omega) (by omega) (by omega) (by omega)]; exact c4), if_neg (by omega)]
    exact Kd.rf h (by rw [iN_1])
noncomputable def aShow (S : AS) (p l : Int) : Int × AS := if aRef S p l = 0 then (match qH (aRQ S p l 0 0) with
  | none => (-4, S)
  | some e => ((qA (aRQ S p l 0 0) : Int), (tKnow (sT S) l.toNat 2 (4, (e.2 : Int), -4), sI S, sH S))) else (aRef S p l, S)
theorem kc_show {ow : Nat → Nat × Nat} {x : Nat} {w : kW} {S : AS} (h : Kc ow x w S) {p l : Int} (hp : I32 p) (hl : I32 l) : Kd ow x w (fX11_show x (iI p) (iI l) w) (aShow S p l).1 (aShow S p l).2 := by
  have hk := h.2.1.1.1
  have bd := aRef_bd S p l
  unfold aShow
  rw [fX11_show, kRc_e hk, Option.bind_some, runRef_ok h hp hl, Option.bind_some]
  by_cases c : aRef S p l = 0
  · obtain ⟨w', e, k1, f1⟩ := lookFor_ok h hp hl c 0 (odds := 0) (by omega) (by omega)
    obtain ⟨-, ⟨F, hF⟩, hw0⟩ := aRef_0 c
    obtain ⟨hk5, ⟨f6, f10, f12, f13, f17, f18⟩, hg⟩ := k1.q
    have e' : fX11_lookFor x (iI p) (iI l) (0 : Int32) (0 : Int32) w = some w' := e
    rw [if_pos (by rw [c]; decide +kernel), if_pos c, Option.bind_some, e', Option.bind_some, hg, Option.bind_some, kgI_e hk5, Option.bind_some, f12]
    cases hh : qH (aRQ S p l 0 0) with
    | none =>
      rw [if_pos (show iB (none : Option (Nat × Nat)).isSome = 0 from rfl)]
      exact ⟨w', ow, by rw [iN_4], k1.1, f1⟩
    | some eb =>
      obtain ⟨d, b⟩ := eb
      obtain ⟨g1, g2⟩ := f13 d b hh
      obtain ⟨w2, w3, e2, e3, k2, f2, m2, m3⟩ := shown_ok k1.1 hF hw0 4 b (-4)
      show Kd ow x w _ (qA (aRQ S p l 0 0) : Int) (tKnow (sT S) l.toNat 2 (4, (b : Int), -4), sI S, sH S)
      have o61 : ow (x + 61) = (x + 61, 0) := by
        obtain ⟨-, p9, d9, nd9, s9⟩ := k1
        exact s9.1.1.2.1
      have s61 : ∀ {w8 w9 : kW}, Sm ow (fun z => z = x + 1) w8 w9 → kI w9 (x + 61) = kI w8 (x + 61) := fun m => m.2.2.2.2.2 (x + 61) (by rw [o61]; show ¬ x + 61 = x + 1; omega)
      have hk2 : kKd w2 x = 11 := by rw [m2.1]; exact k1.1.2.1.1.1
      have hp2 : kP w2 x = kP w' x := by rw [m2.2.2.2.1]
      have ht2 : kKd w2 (x + 1) = 8 := by rw [m2.1]; exact k1.1.2.2.1.2.1.1
      have h52 : kKd w2 (x + 61) = 5 := by rw [m2.1]; exact hk5
      have hk3 : kKd w3 x = 11 := k2.2.1.1.1
      have h53 : kKd w3 (x + 61) = 5 := by rw [m3.1]; exact h52
      have e3' : fX8_noteSource (x + 1) (iI l) (4 : Int32) (iI b) (-4 : Int32) w2 = some w3 := by rw [iN_4, iL_4]; exact e3
      have hp0 := k1.1.2.1.2.1.1
      have hp9 := k1.1.2.1.2.1.2.2.2.2.2.2.2.2.1
      rw [if_neg (show ¬ iB (some (d, b)).isSome = 0 by show ¬ iB true = 0; decide +kernel), top_t k1.1, e2, Option.bind_some, kgP_e hk2, Option.bind_some, hp2, hp0, kgP_e hk2, Option.bind_some, hp2, hp9, kgI_e h52, Option.bind_some, s61 m2, g2, kRc_e ht2, Option.bind_some, e3', Option.bind_some, kgP_e hk3, Option.bind_some, k2.2.1.2.1.2.2.2.2.2.2.2.2.1, kgI_e h53, Option.bind_some, s61 m3, s61 m2, f10]
      exact ⟨w3, ow, rfl, k2, f1.cc f2⟩
  · rw [if_neg (by rw [iL_0, iI_eq (by omega) (by omega) (by omega) (by omega)]; exact c), if_neg c]
    exact Kd.rf h rfl
