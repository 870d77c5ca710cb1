/-! .. orders -/
theorem Kc.xf {ow : Nat → Nat × Nat} {x : Nat} {w w' : kW} {S : AS} (h : Kc ow x w S) (hs : Sq ow (fun z => z = x) w w') (hp : kP w' x = kP w x) (h2 : kI w' x 2 = kI w x 2) (h3 : kP w' (x + 17) = kP w (x + 17)) : Kc ow x w' S ∧ Fr ow ow (Cx x) w w' := by
  have hs' : Sq ow (Vr x 0 1) w w' := hs.wide (fun z hz => by rw [hz]; exact ⟨by omega, by omega⟩)
  obtain ⟨o0, o1, o2, o3, o4, o5, o6, o7, o8, o9, o10⟩ := h.ok hs'.fr (by omega)
  obtain ⟨⟨hk, ho, hb⟩, hpp, ⟨r3, hsh⟩, r11⟩ := h.2.1
  have lp : ∀ j, Lp w' x j = Lp w x j := fun j => by unfold Lp; rw [hp]
  have la : ∀ {c j k : Nat}, LnA ow w x c j k → LnA ow w' x c j k := fun {c j k} g => by
    unfold LnA at g ⊢
    rw [lp, hp, hs.1, hs.2.1]
    exact g
  exact ⟨⟨h.sz hs', ⟨⟨by rw [hs.1]; exact hk, ho, by rw [h2]; exact hb⟩, by rw [hp]; exact hpp, ⟨la r3, fun d hd => by rw [h3]; exact hsh d hd⟩, la r11⟩, o1 (by omega), o2 (by omega), o3 (by omega), o4 (by omega), o5 (by omega), o6 (by omega), o7 (by omega), o8 (by omega), o9 (by omega), o10 (by omega)⟩, hs'.fr.cx (by omega) (by omega)⟩
theorem Kc.xi {ow : Nat → Nat × Nat} {x j : Nat} {w : kW} {S : AS} (h : Kc ow x w S) (v : Int32) (hj : j ≠ 2) : Kc ow x (kSI w x j v) S ∧ Fr ow ow (Cx x) w (kSI w x j v) ∧ Sq ow (fun z => z = x) w (kSI w x j v) := by
  have s : Sq ow (fun z => z = x) w (kSI w x j v) := Sq.si (by rw [h.2.1.1.2.1])
  obtain ⟨a, b⟩ := h.xf s rfl (kI_SI_j (by omega)) rfl
  exact ⟨a, b, s⟩
theorem Sr.fr {ow : Nat → Nat × Nat} {V : Nat → Prop} {x : Nat} {w w' : kW} {p d : Nat} {nd : Nat → Nat} {K : List (Nat × Fo)} {odds : Int} {z : Int32} (h : Sr ow x w (x + 61) p d nd K odds z) (hs : Fr ow ow V w w') (n : ∀ q, x + 61 ≤ q → q < x + 218 → ¬ V q) (n2 : ∀ q, x + 237 ≤ q → ¬ V q) : Sr ow x w' (x + 61) p d nd K odds z := by
  obtain ⟨h1, h2, h3, h4, h5, h6, h7⟩ := h
  have nx := n (x + 61) (Nat.le_refl _) (by omega)
  obtain ⟨e1, e2, e3, e4, e5, e6⟩ := hs (x + 61) (by rw [h1.1.1]; omega) (by rw [h1.1.2.1]; exact nx)
  exact ⟨h1.fr hs n, h2.fr h1 hs nx n2, by rw [e4]; exact h3, by rw [e4]; exact h4, by rw [e4]; exact h5, h6, h7⟩
/-! which problems -/
def pbOk (S : AS) (v : Int) : Bool := (tLn (sT S) v).isSome && decide (aHw S v = 0)
def prF (S : AS) : List Int → List Int → Bool
  | _, [] => true
  | p, v :: r => (pbOk S v && !decide (v ∈ p)) && prF S (p ++ [v]) r
def aPr (S : AS) (s : Sh) : Int := if bRef s = 0 then (if (1 ≤ (rowL s).length ∧ (rowL s).length ≤ 3) ∧ prF S [] (rowL s) = true then 0 else -13) else bRef s
theorem pr77 {ow : Nat → Nat × Nat} {x : Nat} {w : kW} {sa : Nat} {l : List Int} (h : ShO ow x w sa (some (.inr (0, l)))) (x2 : Int32) {i : Nat} (hi : i ≤ l.length) (v : Int) (hv : I32 v) (k : Int32 → Option Int32) : ∀ (m fu j : Nat), m < fu → j + m = i → fX11_problemsRefusal_L77 x (some sa) x2 (iI i) (iI v) w fu k (iI j) = if v ∈ (l.take i).drop j then some (-13) else k (iI i) := by
  have hl : l.length ≤ 120 := h.2.2.2.2.2.1
  intro m
  induction m with
  | zero =>
    intro fu j hf hj
    obtain ⟨fu, rfl⟩ : ∃ g, fu = g + 1 := ⟨fu - 1, by omega⟩
    rw [fX11_problemsRefusal_L77, if_pos (by rw [iI_le (by omega) (by omega) (by omega) (by omega)]; omega), show j = i by omega, List.drop_eq_nil_of_le (by rw [List.length_take]; omega), if_neg (by simp)]
  | succ m ih =>
    intro fu j hf hj
    obtain ⟨fu, rfl⟩ : ∃ g, fu = g + 1 := ⟨fu - 1, by omega⟩
    have hjl : j < l.length := by omega
    have e1 : (l.take i).drop j = l[j] :: (l.take i).drop (j + 1) := by
      rw [List.drop_eq_getElem_cons (by rw [List.length_take]; omega), List.getElem_take]
    have e2 : elV l (j : Int) = l[j] := by
      unfold elV
      rw [if_pos (by omega), Int.toNat_natCast, List.getD_eq_getElem?_getD, List.getElem?_eq_getElem hjl]
      rfl
    have e3 : I32 l[j] := (h.2.2.2.2.2.2.2 _ (List.getElem_mem hjl)).2.2
    rw [fX11_problemsRefusal_L77, if_neg (by rw [iI_le (by omega) (by omega) (by omega) (by omega)]; omega), kRc_e h.1.1, Option.bind_some, elementAt_ok h (by unfold I32; omega), Option.bind_some, e2, e1]
    by_cases c : l[j] = v
    · rw [if_pos (by rw [c]), if_pos (by rw [← c]; exact List.mem_cons_self)]
    · rw [if_neg (by rw [iI_eq e3.1 e3.2 hv.1 hv.2]; exact c), iL_1, iI_add, show (j : Int) + 1 = ((j + 1 : Nat) : Int) by omega, ih fu (j + 1) (by omega) (by omega)]
      by_cases c2 : v ∈ (l.take i).drop (j + 1)
      · rw [if_pos c2, if_pos (List.mem_cons_of_mem _ c2)]
      · rw [if_neg c2, if_neg (fun z => by rcases List.mem_cons.mp z with z | z; exact c z.symm; exact c2 z)]
theorem pr32 {ow : Nat → Nat × Nat} {x : Nat} {w : kW} {S : AS} (hK : Kc ow x w S) {sa : Nat} {l : List Int} (h : ShO ow x w sa (some (.inr (0, l)))) (x2 : Int32) : ∀ (m fu i : Nat), m < fu → i + m = l.length → fX11_problemsRefusal_L32 x (some sa) x2 w fu (fun _ => some 0) (iI i) = some (iI (if prF S (l.take i) (l.drop i) = true then 0 else -13)) := by
  have hl : l.length ≤ 120 := h.2.2.2.2.2.1
  have e13 : (-13 : Int32) = iI (-13) := by decide +kernel
  have hk2 : kI w sa 2 = iI l.length := h.2.2.2.1
  intro m
  induction m with
  | zero =>
    intro fu i hf hi
    obtain ⟨fu, rfl⟩ : ∃ g, fu = g + 1 := ⟨fu - 1, by omega⟩
    rw [fX11_problemsRefusal_L32, kgI_e h.1.1, Option.bind_some, hk2, if_pos (by rw [iI_le (by omega) (by omega) (by omega) (by omega)]; omega), List.drop_eq_nil_of_le (by omega)]
    rfl
  | succ m ih =>
    intro fu i hf hi
    obtain ⟨fu, rfl⟩ : ∃ g, fu = g + 1 := ⟨fu - 1, by omega⟩
    have hil : i < l.length := by omega
    have e2 : elV l (i : Int) = l[i] := by
      unfold elV
      rw [if_pos (by omega), Int.toNat_natCast, List.getD_eq_getElem?_getD, List.getElem?_eq_getElem hil]
      rfl
    have e3 : I32 l[i] := (h.2.2.2.2.2.2.2 _ (List.getElem_mem hil)).2.2
    have ed : l.drop i = l[i] :: l.drop (i + 1) := List.drop_eq_getElem_cons hil
    have et : l.take i ++ [l[i]] = l.take (i + 1) := by rw [List.take_succ_eq_append_getElem hil]
    generalize hv : l[i] = v at *
    have eq : prF S (l.take i) (v :: l.drop (i + 1)) = ((pbOk S v && !decide (v ∈ l.take i)) && prF S (l.take i ++ [v]) (l.drop (i + 1))) := rfl
    obtain ⟨l1, l2⟩ := lineAt_ok hK.2.2.1 e3.1 e3.2
    rw [fX11_problemsRefusal_L32, kgI_e h.1.1, Option.bind_some, hk2, if_neg (by rw [iI_le (by omega) (by omega) (by omega) (by omega)]; omega), kRc_e h.1.1, Option.bind_some, elementAt_ok h (by unfold I32; omega), Option.bind_some, e2, top_t hK, ed, eq, et]
    cases hL : tLn (sT S) v with
    | none =>
      have ep : pbOk S v = false := by unfold pbOk; rw [hL]; rfl
      rw [l1 hL, Option.bind_some, if_pos rfl, ep, if_neg (by simp), e13]
    | some F =>
      obtain ⟨a, e4, g4⟩ := l2 F hL
      obtain ⟨y1, z1⟩ := kc_how hK hL
      rw [e4, Option.bind_some, if_neg (by simp), top_t hK, y1, Option.bind_some]
      by_cases c : aHw S v = 0
      · have ep : pbOk S v = true := by unfold pbOk; rw [hL, decide_eq_true c]; rfl
        rw [if_pos (by rw [c]; rfl), ep, Bool.true_and]
        have hp := pr77 h x2 (i := i) (by omega) v e3 (fun _ => fX11_problemsRefusal_L32 x (some sa) x2 w fu (fun _ => some 0) (iI i + 1)) i kFU 0 (by unfold kFU; omega) (by omega)
        rw [show iI ((0 : Nat) : Int) = (0 : Int32) from rfl] at hp
        rw [hp, List.drop_zero]
        by_cases c2 : v ∈ l.take i
        · rw [if_pos c2, decide_eq_true c2, if_neg (by simp), e13]
        · rw [if_neg c2, decide_eq_false c2, iL_1, iI_add, show (i : Int) + 1 = ((i + 1 : Nat) : Int) by omega, ih fu (i + 1) (by omega) (by omega)]
          rfl
      · have ep : pbOk S v = false := by unfold pbOk; rw [hL, decide_eq_false c]; rfl
        rw [if_neg (by rw [iL_0, iI_eq (by omega) (by omega) (by omega) (by omega)]; omega), ep, if_neg (by simp), e13]
theorem aPr_ok {ow : Nat → Nat × Nat} {x : Nat} {w : kW} {S : AS} (hK : Kc ow x w S) {sa : Nat} {s : Sh} (h : ShO ow x w sa s) : fX11_problemsRefusal x (some sa) w = some (iI (aPr S s)) := by
  have bd := bRef_bd s
  have e13 : (-13 : Int32) = iI (-13) := by decide +kernel
  unfold aPr
  rw [fX11_problemsRefusal, kRc_e h.1.1, Option.bind_some, bytesRef_ok h, Option.bind_some]
  by_cases c : bRef s = 0
  · obtain ⟨l, rfl⟩ := bRef_0 c
    have hl : l.length ≤ 120 := h.2.2.2.2.2.1
    have hk2 : kI w sa 2 = iI l.length := h.2.2.2.1
    rw [if_pos (by rw [c]; rfl), if_pos c, kgI_e h.1.1, Option.bind_some, Option.bind_some, hk2]
    show _ = some (iI (if (1 ≤ l.length ∧ l.length ≤ 3) ∧ prF S [] l = true then 0 else -13))
    by_cases c1 : l.length < 1
    · rw [if_pos (by rw [iL_1, iI_lt (by omega) (by omega) (by omega) (by omega)]; omega), if_neg (fun z => by omega), e13]
    rw [if_neg (by rw [iL_1, iI_lt (by omega) (by omega) (by omega) (by omega)]; omega)]
    by_cases c3 : l.length ≤ 3
    · have hp := pr32 hK h (iI (bRef (some (.inr (0, l))))) l.length kFU 0 (by unfold kFU; omega) (by omega)
      rw [show iI ((0 : Nat) : Int) = (0 : Int32) from rfl, List.take_zero, List.drop_zero] at hp
      rw [if_pos (by rw [iL_3, iI_le (by omega) (by omega) (by omega) (by omega)]; omega), hp]
      by_cases c4 : prF S [] l = true
      · rw [if_pos c4, if_pos ⟨by omega, c4⟩]
      · rw [if_neg c4, if_neg (fun z => c4 z.2)]
    · rw [if_neg (by rw [iL_3, iI_le (by omega) (by omega) (by omega) (by omega)]; omega), if_neg (fun z => by omega), e13]
  · rw [if_neg (by rw [iL_0, iI_eq (by omega) (by omega) (by omega) (by omega)]; exact c), if_neg c]
/-- what it gives -/
theorem prF_ok {S : AS} : ∀ (l p : List Int), prF S p l = true → p.Nodup → (∀ v ∈ p, pbOk S v = true) → (p ++ l).Nodup ∧ ∀ v ∈ p ++ l, pbOk S v = true := by
  intro l
  induction l with
  | nil =>
    intro p _ h1 h2
    rw [List.append_nil]
    exact ⟨h1, h2⟩
  | cons v r ih =>
    intro p h h1 h2
    have h' : ((pbOk S v && !decide (v ∈ p)) && prF S (p ++ [v]) r) = true := h
    rw [Bool.and_eq_true, Bool.and_eq_true] at h'
    obtain ⟨⟨a, b⟩, c⟩ := h'
    have b' : v ∉ p := fun z => by rw [decide_eq_true z] at b; cases b
    have := ih (p ++ [v]) c (by
      rw [List.nodup_append]
      refine ⟨h1, by simp, fun a ha b hb => ?_⟩
      rw [List.mem_singleton.mp hb]
      intro e
      rw [e] at ha
      exact b' ha) (fun u hu => by
      rcases List.mem_append.mp hu with q | q
      · exact h2 u q
      · rw [List.mem_singleton.mp q]; exact a)
    rw [List.append_assoc] at this
    exact this
theorem nodup_map_in {α β : Type} (f : α → β) : ∀ (l : List α), l.Nodup → (∀ a ∈ l, ∀ b ∈ l, f a = f b → a = b) → (l.map f).Nodup := by
  intro l
  induction l with
  | nil => exact fun _ _ => List.nodup_nil
  | cons a l ih =>
    intro h g
    rw [List.nodup_cons] at h
    rw [List.map_cons, List.nodup_cons]
    refine ⟨fun z => ?_, ih h.2 (fun b hb c hc => g b (List.mem_cons_of_mem _ hb) c (List.mem_cons_of_mem _ hc))⟩
    obtain ⟨b, hb, e⟩ := List.mem_map.mp z
    have := g b (List.mem_cons_of_mem _ hb) a List.mem_cons_self e
    rw [this] at hb
    exact h.1 hb
theorem pb_room {S : AS} (hW : TbW (sT S)) {l : List Int} (h : prF S [] l = true) : (tK (sT S)).length + l.length ≤ 40 ∧ ∀ v ∈ l, ∃ F, tLn (sT S) v = some F := by
  obtain ⟨h1, h2⟩ := prF_ok l [] h List.nodup_nil (fun v hv => by cases hv)
  rw [List.nil_append] at h1 h2
  have h3 : ∀ v ∈ l, (∃ F, tLn (sT S) v = some F) ∧ aHw S v = 0 := fun v hv => by
    have := h2 v hv
    unfold pbOk at this
    rw [Bool.and_eq_true] at this
    exact ⟨Option.isSome_iff_exists.mp this.1, of_decide_eq_true this.2⟩
  refine ⟨?_, fun v hv => (h3 v hv).1⟩
  have n1 : (tK (sT S) ++ l.map Int.toNat).Nodup := by
    rw [List.nodup_append]
    refine ⟨hW.2.2.1, nodup_map_in _ _ h1 (fun a ha b hb e => ?_), fun a ha b hb e => ?_⟩
    · obtain ⟨F, hF⟩ := (h3 a ha).1
      obtain ⟨G, hG⟩ := (h3 b hb).1
      have := (tLn_lt hF).1
      have := (tLn_lt hG).1
      omega
    · obtain ⟨v, hv, ev⟩ := List.mem_map.mp hb
      have q := ((hW.2.2.2.1 a).mp ha).2
      have q2 : tH (sT S) v.toNat = 0 := (h3 v hv).2
      rw [ev, ← e] at q2
      exact q q2
  have := nodup_lt (tL (sT S)).length _ n1 (fun k hk => by
    rcases List.mem_append.mp hk with q | q
    · exact ((hW.2.2.2.1 k).mp q).1
    · obtain ⟨v, hv, ev⟩ := List.mem_map.mp q
      obtain ⟨F, hF⟩ := (h3 v hv).1
      rw [← ev]
      exact (tLn_lt hF).2.1)
  rw [List.length_append, List.length_map] at this
  have := hW.1
  omega
