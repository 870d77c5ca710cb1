/-! THE CONSTRUCTORS, run in a world of their own and carried behind any world -/
def Ve (v : kW) : Prop := ∀ a, kSz v ≤ a → kKd v a = 99
def rlF {α : Type} (x n : Nat) (f g : Nat → α) : Nat → α := fun a => if a < x then g a else if a - x < n then f (a - x) else g a
def Rp (x : Nat) (r : Option Nat) : Option Nat := r.map (fun b => x + b)
def Rl (x : Nat) (wB v : kW) : kW := kMk (rlF x (kSz v) (kKd v) (kKd wB)) (rlF x (kSz v) (kLn v) (kLn wB)) (rlF x (kSz v) (kI v) (kI wB)) (rlF x (kSz v) (fun a j => Rp x (kP v a j)) (kP wB)) (rlF x (kSz v) (kJ v) (kJ wB)) (x + kSz v)
theorem rlF_in {α : Type} {x n a : Nat} {f g : Nat → α} (h : a < n) : rlF x n f g (x + a) = f a := by
  unfold rlF
  rw [if_neg (by omega), Nat.add_sub_cancel_left, if_pos h]
theorem rlF_lo {α : Type} {x n a : Nat} {f g : Nat → α} (h : a < x) : rlF x n f g a = g a := if_pos h
theorem rlF_U {α β : Type} {x n a j : Nat} {f : Nat → Nat → α} {g : Nat → Nat → β} {y : α} (τ : α → β) (h : a < n) : rlF x n (fun b i => τ (kU f a j y b i)) g = kU (rlF x n (fun b i => τ (f b i)) g) (x + a) j (τ y) := by
  funext b i
  show (if b < x then g b else if b - x < n then (fun i => τ (if b - x = a ∧ i = j then y else f (b - x) i)) else g b) i = (if b = x + a ∧ i = j then τ y else (if b < x then g b else if b - x < n then (fun i => τ (f (b - x) i)) else g b) i)
  by_cases c : b < x
  · rw [if_pos c, if_neg (by omega), if_pos c]
  · rw [if_neg c, if_neg c]
    by_cases d : b - x < n
    · rw [if_pos d, if_pos d]
      by_cases e : b - x = a ∧ i = j
      · exact (congrArg τ (if_pos e)).trans (if_pos ⟨by omega, e.2⟩).symm
      · exact (congrArg τ (if_neg e)).trans (if_neg (fun z => e ⟨by omega, z.2⟩)).symm
    · rw [if_neg d, if_neg d, if_neg (by omega)]
theorem rlF_N {α : Type} {x n : Nat} {f g : Nat → α} {k : α} : rlF x (n + 1) (fun a => if a = n then k else f a) g = fun a => if a = x + n then k else rlF x n f g a := by
  funext b
  show (if b < x then g b else if b - x < n + 1 then (if b - x = n then k else f (b - x)) else g b) = (if b = x + n then k else if b < x then g b else if b - x < n then f (b - x) else g b)
  by_cases c : b < x
  · rw [if_pos c, if_neg (by omega), if_pos c]
  · rw [if_neg c, if_neg c]
    by_cases e : b = x + n
    · rw [if_pos e, if_pos (by omega), if_pos (by omega)]
    · rw [if_neg e]
      by_cases d : b - x < n
      · rw [if_pos d, if_pos (by omega), if_neg (by omega)]
      · rw [if_neg d, if_neg (by omega)]
theorem rlF_M {α β : Type} {x n : Nat} {f : Nat → Nat → α} {g : Nat → Nat → β} {k : α} (τ : α → β) : rlF x (n + 1) (fun a j => τ (if a = n then k else f a j)) g = fun a j => if a = x + n then τ k else rlF x n (fun a j => τ (f a j)) g a j := by
  have h := rlF_N (x := x) (n := n) (f := fun a j => τ (f a j)) (g := g) (k := fun _ => τ k)
  have e : (fun a j => τ (if a = n then k else f a j)) = fun a => if a = n then (fun _ => τ k) else (fun j => τ (f a j)) := by
    funext a j
    by_cases c : a = n
    · rw [if_pos c, if_pos c]
    · rw [if_neg c, if_neg c]
  rw [e, h]
  funext a j
  by_cases c : a = x + n
  · rw [if_pos c, if_pos c]
  · rw [if_neg c, if_neg c]
theorem Rl_kd {x a : Nat} {wB v : kW} (h : a < kSz v) : kKd (Rl x wB v) (x + a) = kKd v a := rlF_in h
theorem Rl_ln {x a : Nat} {wB v : kW} (h : a < kSz v) : kLn (Rl x wB v) (x + a) = kLn v a := rlF_in h
theorem Rl_i {x a : Nat} {wB v : kW} (h : a < kSz v) : kI (Rl x wB v) (x + a) = kI v a := rlF_in h
theorem Rl_p {x a j : Nat} {wB v : kW} (h : a < kSz v) : kP (Rl x wB v) (x + a) j = Rp x (kP v a j) := congrFun (rlF_in (f := fun a j => Rp x (kP v a j)) h) j
theorem Rl_SI {x a j : Nat} {wB v : kW} {y : Int32} (h : a < kSz v) : kSI (Rl x wB v) (x + a) j y = Rl x wB (kSI v a j y) := by
  show kMk _ _ (kU (rlF x (kSz v) (kI v) (kI wB)) (x + a) j y) _ _ _ = kMk _ _ (rlF x (kSz v) (kU (kI v) a j y) (kI wB)) _ _ _
  rw [show rlF x (kSz v) (kU (kI v) a j y) (kI wB) = kU (rlF x (kSz v) (kI v) (kI wB)) (x + a) j y from rlF_U (fun z => z) h]
  rfl
theorem Rl_SP {x a j : Nat} {wB v : kW} {y : Option Nat} (h : a < kSz v) : kSP (Rl x wB v) (x + a) j (Rp x y) = Rl x wB (kSP v a j y) := by
  show kMk _ _ _ (kU (rlF x (kSz v) (fun a j => Rp x (kP v a j)) (kP wB)) (x + a) j (Rp x y)) _ _ = kMk _ _ _ (rlF x (kSz v) (fun b i => Rp x (kU (kP v) a j y b i)) (kP wB)) _ _
  rw [show rlF x (kSz v) (fun b i => Rp x (kU (kP v) a j y b i)) (kP wB) = kU (rlF x (kSz v) (fun a j => Rp x (kP v a j)) (kP wB)) (x + a) j (Rp x y) from rlF_U (fun z => Rp x z) h]
  rfl
theorem Rl_Nw {x k n : Nat} {wB v : kW} : kNw (Rl x wB v) k n = Rl x wB (kNw v k n) := by
  show kMk (fun a => if a = x + kSz v then k else rlF x (kSz v) (kKd v) (kKd wB) a) (fun a => if a = x + kSz v then n else rlF x (kSz v) (kLn v) (kLn wB) a) (fun a j => if a = x + kSz v then 0 else rlF x (kSz v) (kI v) (kI wB) a j) (fun a j => if a = x + kSz v then none else rlF x (kSz v) (fun a j => Rp x (kP v a j)) (kP wB) a j) (fun a j => if a = x + kSz v then 0 else rlF x (kSz v) (kJ v) (kJ wB) a j) (x + kSz v + 1) = kMk (rlF x (kSz v + 1) (fun a => if a = kSz v then k else kKd v a) (kKd wB)) (rlF x (kSz v + 1) (fun a => if a = kSz v then n else kLn v a) (kLn wB)) (rlF x (kSz v + 1) (fun a j => if a = kSz v then 0 else kI v a j) (kI wB)) (rlF x (kSz v + 1) (fun a j => Rp x (if a = kSz v then none else kP v a j)) (kP wB)) (rlF x (kSz v + 1) (fun a j => if a = kSz v then 0 else kJ v a j) (kJ wB)) (x + (kSz v + 1))
  rw [rlF_N, rlF_N, rlF_M (f := kI v) (fun z => z), rlF_M (f := kP v) (fun z => Rp x z), rlF_M (f := kJ v) (fun z => z)]
  rfl
theorem Ve.nw {v : kW} {k n : Nat} (h : Ve v) : Ve (kNw v k n) := fun a ha => by
  have ha' : kSz v + 1 ≤ a := ha
  show (if a = kSz v then k else kKd v a) = 99
  rw [if_neg (by omega)]
  exact h a (by omega)
theorem Ve.lt {v : kW} {a k : Nat} (h : Ve v) (hk : k ≠ 99) (e : kKd v a = k) : a < kSz v := by
  rcases Nat.lt_or_ge a (kSz v) with c | c
  · exact c
  · exact absurd (e.symm.trans (h a c)) hk
def Rel (x : Nat) (wB : kW) (o o' : Option kW) : Prop := ∀ v, o = some v → Ve v ∧ o' = some (Rl x wB v)
def Rv {α : Type} (τ : α → α) (o o' : Option α) : Prop := ∀ v, o = some v → o' = some (τ v)
theorem Rel.ok {x : Nat} {wB v : kW} (h : Ve v) : Rel x wB (some v) (some (Rl x wB v)) := fun u e => by cases e; exact ⟨h, rfl⟩
theorem Rel.bd {x : Nat} {wB : kW} {o o' : Option kW} {f f' : kW → Option kW} (h : Rel x wB o o') (k : ∀ v, Ve v → Rel x wB (f v) (f' (Rl x wB v))) : Rel x wB (o.bind f) (o'.bind f') := fun u e => by
  obtain ⟨v, e1, e2⟩ := kbind e
  obtain ⟨g1, g2⟩ := h v e1
  rw [g2]
  exact k v g1 u e2
theorem Rel.bv {α : Type} {x : Nat} {wB : kW} {τ : α → α} {o o' : Option α} {f f' : α → Option kW} (h : Rv τ o o') (k : ∀ v, Rel x wB (f v) (f' (τ v))) : Rel x wB (o.bind f) (o'.bind f') := fun u e => by
  obtain ⟨v, e1, e2⟩ := kbind e
  rw [h v e1]
  exact k v u e2
theorem Rel.ite {x : Nat} {wB : kW} {c : Prop} [Decidable c] {A B A' B' : Option kW} (h1 : c → Rel x wB A A') (h2 : ¬ c → Rel x wB B B') : Rel x wB (if c then A else B) (if c then A' else B') := by
  by_cases e : c
  · rw [if_pos e, if_pos e]; exact h1 e
  · rw [if_neg e, if_neg e]; exact h2 e
theorem rbI {α : Type} {v : kW} {k : Nat} {r : Option Nat} {F : Nat → Option α} {b : α} (h : (r.bind fun a => if kKd v a = k then F a else none) = some b) : ∃ a, r = some a ∧ kKd v a = k ∧ F a = some b := by
  obtain ⟨a, e1, e2⟩ := kbind h
  by_cases c : kKd v a = k
  · rw [if_pos c] at e2; exact ⟨a, e1, c, e2⟩
  · rw [if_neg c] at e2; cases e2
section SIMP
variable {x : Nat} {wB v : kW}
theorem rl_knO {k : Nat} (h : Ve v) : Rel x wB (knO v k) (knO (Rl x wB v) k) := fun u e => by
  cases e
  exact ⟨h.nw, congrArg some Rl_Nw⟩
theorem rl_knA {k : Nat} {n : Int32} (h : Ve v) : Rel x wB (knA v k n) (knA (Rl x wB v) k n) := fun u e => by
  unfold knA at e ⊢
  by_cases c : n < 0
  · rw [if_pos c] at e; cases e
  · rw [if_neg c] at e ⊢; cases e; exact ⟨h.nw, congrArg some Rl_Nw⟩
theorem rl_knC {k mx : Nat} {n : Int32} (h : Ve v) : Rel x wB (knC v k n mx) (knC (Rl x wB v) k n mx) := by
  unfold knC
  refine Rel.ite (fun _ => rl_knA h) (fun _ u e => by cases e)
theorem rl_kpI {k j : Nat} {r : Option Nat} {y : Int32} (h : Ve v) (hk : k ≠ 99) : Rel x wB (kpI v k r j y) (kpI (Rl x wB v) k (Rp x r) j y) := fun u e => by
  obtain ⟨a, rfl, e2, e3⟩ := rbI e
  cases e3
  have hl := h.lt hk e2
  refine ⟨fun b hb => h b hb, ?_⟩
  show (if kKd (Rl x wB v) (x + a) = k then some (kSI (Rl x wB v) (x + a) j y) else none) = _
  rw [if_pos (by rw [Rl_kd hl]; exact e2), Rl_SI hl]
theorem rl_kpP {k j : Nat} {r y : Option Nat} (h : Ve v) (hk : k ≠ 99) : Rel x wB (kpP v k r j y) (kpP (Rl x wB v) k (Rp x r) j (Rp x y)) := fun u e => by
  obtain ⟨a, rfl, e2, e3⟩ := rbI e
  cases e3
  have hl := h.lt hk e2
  refine ⟨fun b hb => h b hb, ?_⟩
  show (if kKd (Rl x wB v) (x + a) = k then some (kSP (Rl x wB v) (x + a) j (Rp x y)) else none) = _
  rw [if_pos (by rw [Rl_kd hl]; exact e2), Rl_SP hl]
theorem rl_ksI {k : Nat} {i y : Int32} {r : Option Nat} (h : Ve v) (hk : k ≠ 99) : Rel x wB (ksI v k r i y) (ksI (Rl x wB v) k (Rp x r) i y) := fun u e => by
  obtain ⟨a, rfl, e2, e3⟩ := rbI e
  obtain ⟨j, e4, e5⟩ := Option.map_eq_some_iff.mp e3
  subst e5
  have hl := h.lt hk e2
  refine ⟨fun b hb => h b hb, ?_⟩
  show (if kKd (Rl x wB v) (x + a) = k then (kIx (kLn (Rl x wB v) (x + a)) i).map (fun j => kSI (Rl x wB v) (x + a) j (if k = 13 then vp_nar .byte y else y)) else none) = _
  rw [if_pos (by rw [Rl_kd hl]; exact e2), Rl_ln hl, e4, Option.map_some, Rl_SI hl]
theorem rl_ksP {k : Nat} {i : Int32} {r y : Option Nat} (h : Ve v) (hk : k ≠ 99) (hc : kCo k ≠ 99) : Rel x wB (ksP v k r i y) (ksP (Rl x wB v) k (Rp x r) i (Rp x y)) := fun u e => by
  obtain ⟨a, rfl, e2⟩ := kbind e
  by_cases c : kKd v a = k ∧ (y.all fun b => kKd v b == kCo k) = true
  · rw [if_pos c] at e2
    obtain ⟨j, e4, e5⟩ := Option.map_eq_some_iff.mp e2
    subst e5
    have hl := h.lt hk c.1
    refine ⟨fun b hb => h b hb, ?_⟩
    have hy : ((Rp x y).all fun b => kKd (Rl x wB v) b == kCo k) = true := by
      cases y with
      | none => rfl
      | some b =>
        have h1 : (kKd v b == kCo k) = true := c.2
        have h2 : kKd v b = kCo k := by simpa using h1
        show (kKd (Rl x wB v) (x + b) == kCo k) = true
        rw [Rl_kd (h.lt hc h2)]
        exact h1
    show (if kKd (Rl x wB v) (x + a) = k ∧ ((Rp x y).all fun b => kKd (Rl x wB v) b == kCo k) = true then (kIx (kLn (Rl x wB v) (x + a)) i).map (fun j => kSP (Rl x wB v) (x + a) j (Rp x y)) else none) = _
    rw [if_pos ⟨by rw [Rl_kd hl]; exact c.1, hy⟩, Rl_ln hl, e4, Option.map_some, Rl_SP hl]
  · rw [if_neg c] at e2; cases e2
theorem rv_kgP {k j : Nat} {r : Option Nat} (h : Ve v) (hk : k ≠ 99) : Rv (Rp x) (kgP v k r j) (kgP (Rl x wB v) k (Rp x r) j) := fun u e => by
  obtain ⟨a, rfl, e2, e3⟩ := rbI e
  cases e3
  have hl := h.lt hk e2
  show (if kKd (Rl x wB v) (x + a) = k then some (kP (Rl x wB v) (x + a) j) else none) = _
  rw [if_pos (by rw [Rl_kd hl]; exact e2), Rl_p hl]
theorem rv_kgI {k j : Nat} {r : Option Nat} (h : Ve v) (hk : k ≠ 99) : Rv (fun z => z) (kgI v k r j) (kgI (Rl x wB v) k (Rp x r) j) := fun u e => by
  obtain ⟨a, rfl, e2, e3⟩ := rbI e
  cases e3
  have hl := h.lt hk e2
  show (if kKd (Rl x wB v) (x + a) = k then some (kI (Rl x wB v) (x + a) j) else none) = _
  rw [if_pos (by rw [Rl_kd hl]; exact e2), Rl_i hl]
theorem rv_kal {k : Nat} {r : Option Nat} (h : Ve v) (hk : k ≠ 99) : Rv (fun z => z) (kal v k r) (kal (Rl x wB v) k (Rp x r)) := fun u e => by
  obtain ⟨a, rfl, e2, e3⟩ := rbI e
  cases e3
  have hl := h.lt hk e2
  show (if kKd (Rl x wB v) (x + a) = k then some (Int32.ofNat (kLn (Rl x wB v) (x + a))) else none) = _
  rw [if_pos (by rw [Rl_kd hl]; exact e2), Rl_ln hl]
theorem rv_kRc {k : Nat} {r : Option Nat} (h : Ve v) (hk : k ≠ 99) : Rv (fun z => x + z) (kRc v k r) (kRc (Rl x wB v) k (Rp x r)) := fun u e => by
  obtain ⟨a, rfl, e2, e3⟩ := rbI e
  rw [← Option.some.inj e3]
  have hl := h.lt hk e2
  show (if kKd (Rl x wB v) (x + a) = k then some (x + a) else none) = _
  rw [if_pos (by rw [Rl_kd hl]; exact e2)]
end SIMP
def vE : kW := kMk (fun _ => 99) (fun _ => 0) (fun _ _ => 0) (fun _ _ => none) (fun _ _ => 0) 0
theorem vE_ve : Ve vE := fun _ _ => rfl
theorem rlF_0 {α : Type} {x : Nat} {f g : Nat → α} : rlF x 0 f g = g := by
  funext a
  unfold rlF
  by_cases c : a < x
  · rw [if_pos c]
  · rw [if_neg c, if_neg (by omega)]
theorem Rl_0 {w : kW} : Rl (kSz w) w vE = w := by
  show kMk (rlF (kSz w) 0 _ (kKd w)) (rlF (kSz w) 0 _ (kLn w)) (rlF (kSz w) 0 _ (kI w)) (rlF (kSz w) 0 _ (kP w)) (rlF (kSz w) 0 _ (kJ w)) (kSz w + 0) = w
  rw [rlF_0, rlF_0, rlF_0, rlF_0, rlF_0]
  rfl

set_option maxHeartbeats 4000000 in
set_option maxRecDepth 100000 in
theorem sX3_addAct {x : Nat} {wB w : kW} (hw : Ve w) {x0 : Nat} {x1 : Int32} : Rel x wB (fX3_addAct x0 x1 w) (fX3_addAct (x + x0) x1 (Rl x wB w)) := by
  rw [fX3_addAct, fX3_addAct]
  refine Rel.bv (rv_kgI hw (by decide)) fun v1 => ?_
  refine Rel.bv (rv_kgP hw (by decide)) fun v2 => ?_
  refine Rel.bv (rv_kal hw (by decide)) fun v3 => ?_
  refine Rel.ite (fun _ => ?_) (fun _ => ?_)
  · exact Rel.ok hw
  refine Rel.bv (rv_kgP hw (by decide)) fun v4 => ?_
  refine Rel.bv (rv_kgI hw (by decide)) fun v5 => ?_
  refine Rel.bd (rl_ksI hw (by decide)) fun w6 hw6 => ?_
  refine Rel.bv (rv_kgI hw6 (by decide)) fun v7 => ?_
  refine Rel.bd (rl_kpI hw6 (by decide)) fun w8 hw8 => ?_
  exact Rel.ok hw8
set_option maxHeartbeats 4000000 in
set_option maxRecDepth 100000 in
theorem sX1_init {x : Nat} {wB w : kW} (hw : Ve w) {x0 : Nat} {x1 : Int32} : Rel x wB (fX1_init x0 x1 w) (fX1_init (x + x0) x1 (Rl x wB w)) := by
  rw [fX1_init, fX1_init]
  refine Rel.bd (rl_kpI hw (by decide)) fun w1 hw1 => ?_
  refine Rel.bd (rl_kpI hw1 (by decide)) fun w2 hw2 => ?_
  refine Rel.bd (rl_kpI hw2 (by decide)) fun w3 hw3 => ?_
  refine Rel.bd (rl_knC hw3) fun w4 hw4 => ?_
  refine Rel.bd (rl_kpP hw4 (by decide)) fun w5 hw5 => ?_
  refine Rel.bd (rl_knC hw5) fun w6 hw6 => ?_
  refine Rel.bd (rl_kpP hw6 (by decide)) fun w7 hw7 => ?_
  refine Rel.bd (rl_knC hw7) fun w8 hw8 => ?_
  refine Rel.bd (rl_kpP hw8 (by decide)) fun w9 hw9 => ?_
  refine Rel.bd (rl_knC hw9) fun w10 hw10 => ?_
  refine Rel.bd (rl_kpP hw10 (by decide)) fun w11 hw11 => ?_
  refine Rel.bd (rl_knC hw11) fun w12 hw12 => ?_
  refine Rel.bd (rl_kpP hw12 (by decide)) fun w13 hw13 => ?_
  exact Rel.ok hw13
set_option maxHeartbeats 4000000 in
set_option maxRecDepth 100000 in
theorem sX6_init {x : Nat} {wB w : kW} (hw : Ve w) {x0 : Nat} : Rel x wB (fX6_init x0 w) (fX6_init (x + x0) (Rl x wB w)) := by
  rw [fX6_init, fX6_init]
  refine Rel.bd (rl_knA hw) fun w1 hw1 => ?_
  refine Rel.bd (rl_kpP hw1 (by decide)) fun w2 hw2 => ?_
  refine Rel.bd (rl_kpI hw2 (by decide)) fun w3 hw3 => ?_
  refine Rel.bd (rl_kpI hw3 (by decide)) fun w4 hw4 => ?_
  refine Rel.bd (rl_kpP hw4 (by decide)) fun w5 hw5 => ?_
  exact Rel.ok hw5
set_option maxHeartbeats 4000000 in
set_option maxRecDepth 100000 in
theorem sX3_init {x : Nat} {wB w : kW} (hw : Ve w) {x0 : Nat} {x1 : Int32} : Rel x wB (fX3_init x0 x1 w) (fX3_init (x + x0) x1 (Rl x wB w)) := by
  rw [fX3_init, fX3_init]
  refine Rel.bd (rl_kpI hw (by decide)) fun w1 hw1 => ?_
  refine Rel.bd (rl_kpI hw1 (by decide)) fun w2 hw2 => ?_
  refine Rel.bd (rl_kpI hw2 (by decide)) fun w3 hw3 => ?_
  refine Rel.bd (rl_kpI hw3 (by decide)) fun w4 hw4 => ?_
  refine Rel.bd (rl_kpI hw4 (by decide)) fun w5 hw5 => ?_
  refine Rel.bd (rl_kpI hw5 (by decide)) fun w6 hw6 => ?_
  refine Rel.bd (rl_kpI hw6 (by decide)) fun w7 hw7 => ?_
  refine Rel.bd (rl_kpI hw7 (by decide)) fun w8 hw8 => ?_
  refine Rel.bd (rl_knC hw8) fun w9 hw9 => ?_
  refine Rel.bd (rl_kpP hw9 (by decide)) fun w10 hw10 => ?_
  exact Rel.ok hw10
set_option maxHeartbeats 4000000 in
set_option maxRecDepth 100000 in
theorem sX8_init {x : Nat} {wB w : kW} (hw : Ve w) {x0 : Nat} : Rel x wB (fX8_init x0 w) (fX8_init (x + x0) (Rl x wB w)) := by
  rw [fX8_init, fX8_init]
  refine Rel.bd (rl_knA hw) fun w1 hw1 => ?_
  refine Rel.bd (rl_kpP hw1 (by decide)) fun w2 hw2 => ?_
  refine Rel.bd (rl_knA hw2) fun w3 hw3 => ?_
  refine Rel.bd (rl_kpP hw3 (by decide)) fun w4 hw4 => ?_
  refine Rel.bd (rl_knA hw4) fun w5 hw5 => ?_
  refine Rel.bd (rl_kpP hw5 (by decide)) fun w6 hw6 => ?_
  refine Rel.bd (rl_knA hw6) fun w7 hw7 => ?_
  refine Rel.bd (rl_kpP hw7 (by decide)) fun w8 hw8 => ?_
  refine Rel.bd (rl_knA hw8) fun w9 hw9 => ?_
  refine Rel.bd (rl_kpP hw9 (by decide)) fun w10 hw10 => ?_
  refine Rel.bd (rl_knA hw10) fun w11 hw11 => ?_
  refine Rel.bd (rl_kpP hw11 (by decide)) fun w12 hw12 => ?_
  refine Rel.bd (rl_knA hw12) fun w13 hw13 => ?_
  refine Rel.bd (rl_kpP hw13 (by decide)) fun w14 hw14 => ?_
  refine Rel.bd (rl_kpI hw14 (by decide)) fun w15 hw15 => ?_
  refine Rel.bd (rl_kpI hw15 (by decide)) fun w16 hw16 => ?_
  refine Rel.bd (rl_kpI hw16 (by decide)) fun w17 hw17 => ?_
  exact Rel.ok hw17
set_option maxHeartbeats 4000000 in
set_option maxRecDepth 100000 in
theorem sX4_init {x : Nat} {wB w : kW} (hw : Ve w) {x0 : Nat} : Rel x wB (fX4_init x0 w) (fX4_init (x + x0) (Rl x wB w)) := by
  rw [fX4_init, fX4_init]
  refine Rel.bd (rl_knA hw) fun w1 hw1 => ?_
  refine Rel.bd (rl_kpP hw1 (by decide)) fun w2 hw2 => ?_
  refine Rel.bd (rl_kpP hw2 (by decide)) fun w3 hw3 => ?_
  exact Rel.ok hw3
set_option maxHeartbeats 4000000 in
set_option maxRecDepth 100000 in
theorem sX2_init {x : Nat} {wB w : kW} (hw : Ve w) {x0 : Nat} : Rel x wB (fX2_init x0 w) (fX2_init (x + x0) (Rl x wB w)) := by
  rw [fX2_init, fX2_init]
  refine Rel.bd (rl_knO hw) fun w1 hw1 => ?_
  refine Rel.bd (sX1_init hw1) fun w2 hw2 => ?_
  refine Rel.bd (rl_kpP hw2 (by decide)) fun w4 hw4 => ?_
  refine Rel.bd (rl_knA hw4) fun w5 hw5 => ?_
  refine Rel.bd (rl_kpP hw5 (by decide)) fun w6 hw6 => ?_
  refine Rel.bd (rl_knA hw6) fun w7 hw7 => ?_
  refine Rel.bd (rl_kpP hw7 (by decide)) fun w8 hw8 => ?_
  refine Rel.bd (rl_kpI hw8 (by decide)) fun w9 hw9 => ?_
  refine Rel.bd (rl_kpI hw9 (by decide)) fun w10 hw10 => ?_
  exact Rel.ok hw10
set_option maxHeartbeats 4000000 in
set_option maxRecDepth 100000 in
theorem sX10_init {x : Nat} {wB w : kW} (hw : Ve w) {x0 : Nat} : Rel x wB (fX10_init x0 w) (fX10_init (x + x0) (Rl x wB w)) := by
  rw [fX10_init, fX10_init]
  refine Rel.bd (rl_knA hw) fun w1 hw1 => ?_
  refine Rel.bd (rl_kpP hw1 (by decide)) fun w2 hw2 => ?_
  refine Rel.bd (rl_knA hw2) fun w3 hw3 => ?_
  refine Rel.bd (rl_kpP hw3 (by decide)) fun w4 hw4 => ?_
  refine Rel.bd (rl_kpI hw4 (by decide)) fun w5 hw5 => ?_
  refine Rel.bd (rl_kpI hw5 (by decide)) fun w6 hw6 => ?_
  exact Rel.ok hw6
set_option maxHeartbeats 4000000 in
set_option maxRecDepth 100000 in
theorem sX9_init {x : Nat} {wB w : kW} (hw : Ve w) {x0 : Nat} : Rel x wB (fX9_init x0 w) (fX9_init (x + x0) (Rl x wB w)) := by
  rw [fX9_init, fX9_init]
  refine Rel.bd (rl_knO hw) fun w1 hw1 => ?_
  refine Rel.bd (sX1_init hw1) fun w2 hw2 => ?_
  refine Rel.bd (rl_kpP hw2 (by decide)) fun w4 hw4 => ?_
  refine Rel.bd (rl_knO hw4) fun w5 hw5 => ?_
  refine Rel.bd (sX1_init hw5) fun w6 hw6 => ?_
  refine Rel.bd (rl_kpP hw6 (by decide)) fun w8 hw8 => ?_
  refine Rel.bd (rl_knO hw8) fun w9 hw9 => ?_
  refine Rel.bd (sX1_init hw9) fun w10 hw10 => ?_
  refine Rel.bd (rl_kpP hw10 (by decide)) fun w12 hw12 => ?_
  refine Rel.bd (rl_knO hw12) fun w13 hw13 => ?_
  refine Rel.bd (sX1_init hw13) fun w14 hw14 => ?_
  refine Rel.bd (rl_kpP hw14 (by decide)) fun w16 hw16 => ?_
  exact Rel.ok hw16
set_option maxHeartbeats 4000000 in
set_option maxRecDepth 100000 in
theorem sX7_init {x : Nat} {wB w : kW} (hw : Ve w) {x0 : Nat} : Rel x wB (fX7_init x0 w) (fX7_init (x + x0) (Rl x wB w)) := by
  rw [fX7_init, fX7_init]
  refine Rel.bd (rl_knO hw) fun w1 hw1 => ?_
  refine Rel.bd (sX4_init hw1) fun w2 hw2 => ?_
  refine Rel.bd (rl_kpP hw2 (by decide)) fun w4 hw4 => ?_
  refine Rel.bd (rl_knA hw4) fun w5 hw5 => ?_
  refine Rel.bd (rl_kpP hw5 (by decide)) fun w6 hw6 => ?_
  exact Rel.ok hw6
set_option maxHeartbeats 4000000 in
set_option maxRecDepth 100000 in
theorem sX5_init {x : Nat} {wB w : kW} (hw : Ve w) {x0 : Nat} : Rel x wB (fX5_init x0 w) (fX5_init (x + x0) (Rl x wB w)) := by
  rw [fX5_init, fX5_init]
  refine Rel.bd (rl_knA hw) fun w1 hw1 => ?_
  refine Rel.bd (rl_kpP hw1 (by decide)) fun w2 hw2 => ?_
  refine Rel.bd (rl_knA hw2) fun w3 hw3 => ?_
  refine Rel.bd (rl_kpP hw3 (by decide)) fun w4 hw4 => ?_
  refine Rel.bd (rl_knA hw4) fun w5 hw5 => ?_
  refine Rel.bd (rl_kpP hw5 (by decide)) fun w6 hw6 => ?_
  refine Rel.bd (rl_knA hw6) fun w7 hw7 => ?_
  refine Rel.bd (rl_kpP hw7 (by decide)) fun w8 hw8 => ?_
  refine Rel.bd (rl_knO hw8) fun w9 hw9 => ?_
  refine Rel.bd (sX4_init hw9) fun w10 hw10 => ?_
  refine Rel.bd (rl_kpP hw10 (by decide)) fun w12 hw12 => ?_
  refine Rel.bd (rl_knO hw12) fun w13 hw13 => ?_
  refine Rel.bd (sX1_init hw13) fun w14 hw14 => ?_
  refine Rel.bd (rl_kpP hw14 (by decide)) fun w16 hw16 => ?_
  refine Rel.bd (rl_kpI hw16 (by decide)) fun w17 hw17 => ?_
  refine Rel.bd (rl_kpI hw17 (by decide)) fun w18 hw18 => ?_
  refine Rel.bd (rl_kpI hw18 (by decide)) fun w19 hw19 => ?_
  refine Rel.bd (rl_kpI hw19 (by decide)) fun w20 hw20 => ?_
  refine Rel.bd (rl_kpI hw20 (by decide)) fun w21 hw21 => ?_
  refine Rel.bd (rl_kpI hw21 (by decide)) fun w22 hw22 => ?_
  refine Rel.bd (rl_kpI hw22 (by decide)) fun w23 hw23 => ?_
  refine Rel.bd (rl_kpI hw23 (by decide)) fun w24 hw24 => ?_
  refine Rel.bd (rl_kpI hw24 (by decide)) fun w25 hw25 => ?_
  refine Rel.bd (rl_kpI hw25 (by decide)) fun w26 hw26 => ?_
  refine Rel.bd (rl_kpI hw26 (by decide)) fun w27 hw27 => ?_
  refine Rel.bd (rl_kpI hw27 (by decide)) fun w28 hw28 => ?_
  refine Rel.bd (rl_kpI hw28 (by decide)) fun w29 hw29 => ?_
  refine Rel.bv (rv_kgP hw29 (by decide)) fun v30 => ?_
  refine Rel.bd (rl_knO hw29) fun w31 hw31 => ?_
  refine Rel.bd (sX1_init hw31) fun w32 hw32 => ?_
  refine Rel.bd (rl_ksP hw32 (by decide) (by decide)) fun w34 hw34 => ?_
  refine Rel.bv (rv_kgP hw34 (by decide)) fun v35 => ?_
  refine Rel.bd (rl_knO hw34) fun w36 hw36 => ?_
  refine Rel.bd (sX1_init hw36) fun w37 hw37 => ?_
  refine Rel.bd (rl_ksP hw37 (by decide) (by decide)) fun w39 hw39 => ?_
  refine Rel.bv (rv_kgP hw39 (by decide)) fun v40 => ?_
  refine Rel.bd (rl_knO hw39) fun w41 hw41 => ?_
  refine Rel.bd (sX1_init hw41) fun w42 hw42 => ?_
  refine Rel.bd (rl_ksP hw42 (by decide) (by decide)) fun w44 hw44 => ?_
  refine Rel.bv (rv_kgP hw44 (by decide)) fun v45 => ?_
  refine Rel.bd (rl_knO hw44) fun w46 hw46 => ?_
  refine Rel.bd (sX1_init hw46) fun w47 hw47 => ?_
  refine Rel.bd (rl_ksP hw47 (by decide) (by decide)) fun w49 hw49 => ?_
  refine Rel.bv (rv_kgP hw49 (by decide)) fun v50 => ?_
  refine Rel.bd (rl_knO hw49) fun w51 hw51 => ?_
  refine Rel.bd (sX1_init hw51) fun w52 hw52 => ?_
  refine Rel.bd (rl_ksP hw52 (by decide) (by decide)) fun w54 hw54 => ?_
  refine Rel.bv (rv_kgP hw54 (by decide)) fun v55 => ?_
  refine Rel.bd (rl_knO hw54) fun w56 hw56 => ?_
  refine Rel.bd (sX1_init hw56) fun w57 hw57 => ?_
  refine Rel.bd (rl_ksP hw57 (by decide) (by decide)) fun w59 hw59 => ?_
  refine Rel.bv (rv_kgP hw59 (by decide)) fun v60 => ?_
  refine Rel.bd (rl_knO hw59) fun w61 hw61 => ?_
  refine Rel.bd (sX1_init hw61) fun w62 hw62 => ?_
  refine Rel.bd (rl_ksP hw62 (by decide) (by decide)) fun w64 hw64 => ?_
  refine Rel.bv (rv_kgP hw64 (by decide)) fun v65 => ?_
  refine Rel.bd (rl_knO hw64) fun w66 hw66 => ?_
  refine Rel.bd (sX1_init hw66) fun w67 hw67 => ?_
  refine Rel.bd (rl_ksP hw67 (by decide) (by decide)) fun w69 hw69 => ?_
  refine Rel.bv (rv_kgP hw69 (by decide)) fun v70 => ?_
  refine Rel.bd (rl_knO hw69) fun w71 hw71 => ?_
  refine Rel.bd (sX1_init hw71) fun w72 hw72 => ?_
  refine Rel.bd (rl_ksP hw72 (by decide) (by decide)) fun w74 hw74 => ?_
  refine Rel.bv (rv_kgP hw74 (by decide)) fun v75 => ?_
  refine Rel.bd (rl_knO hw74) fun w76 hw76 => ?_
  refine Rel.bd (sX1_init hw76) fun w77 hw77 => ?_
  refine Rel.bd (rl_ksP hw77 (by decide) (by decide)) fun w79 hw79 => ?_
  refine Rel.bv (rv_kgP hw79 (by decide)) fun v80 => ?_
  refine Rel.bd (rl_knO hw79) fun w81 hw81 => ?_
  refine Rel.bd (sX1_init hw81) fun w82 hw82 => ?_
  refine Rel.bd (rl_ksP hw82 (by decide) (by decide)) fun w84 hw84 => ?_
  refine Rel.bv (rv_kgP hw84 (by decide)) fun v85 => ?_
  refine Rel.bd (rl_knO hw84) fun w86 hw86 => ?_
  refine Rel.bd (sX1_init hw86) fun w87 hw87 => ?_
  refine Rel.bd (rl_ksP hw87 (by decide) (by decide)) fun w89 hw89 => ?_
  refine Rel.bv (rv_kgP hw89 (by decide)) fun v90 => ?_
  refine Rel.bd (rl_knO hw89) fun w91 hw91 => ?_
  refine Rel.bd (sX1_init hw91) fun w92 hw92 => ?_
  refine Rel.bd (rl_ksP hw92 (by decide) (by decide)) fun w94 hw94 => ?_
  refine Rel.bv (rv_kgP hw94 (by decide)) fun v95 => ?_
  refine Rel.bd (rl_knO hw94) fun w96 hw96 => ?_
  refine Rel.bd (sX1_init hw96) fun w97 hw97 => ?_
  refine Rel.bd (rl_ksP hw97 (by decide) (by decide)) fun w99 hw99 => ?_
  refine Rel.bv (rv_kgP hw99 (by decide)) fun v100 => ?_
  refine Rel.bd (rl_knO hw99) fun w101 hw101 => ?_
  refine Rel.bd (sX1_init hw101) fun w102 hw102 => ?_
  refine Rel.bd (rl_ksP hw102 (by decide) (by decide)) fun w104 hw104 => ?_
  refine Rel.bv (rv_kgP hw104 (by decide)) fun v105 => ?_
  refine Rel.bd (rl_knO hw104) fun w106 hw106 => ?_
  refine Rel.bd (sX1_init hw106) fun w107 hw107 => ?_
  refine Rel.bd (rl_ksP hw107 (by decide) (by decide)) fun w109 hw109 => ?_
  refine Rel.bv (rv_kgP hw109 (by decide)) fun v110 => ?_
  refine Rel.bd (rl_knO hw109) fun w111 hw111 => ?_
  refine Rel.bd (sX1_init hw111) fun w112 hw112 => ?_
  refine Rel.bd (rl_ksP hw112 (by decide) (by decide)) fun w114 hw114 => ?_
  refine Rel.bv (rv_kgP hw114 (by decide)) fun v115 => ?_
  refine Rel.bd (rl_knO hw114) fun w116 hw116 => ?_
  refine Rel.bd (sX1_init hw116) fun w117 hw117 => ?_
  refine Rel.bd (rl_ksP hw117 (by decide) (by decide)) fun w119 hw119 => ?_
  refine Rel.bv (rv_kgP hw119 (by decide)) fun v120 => ?_
  refine Rel.bd (rl_knO hw119) fun w121 hw121 => ?_
  refine Rel.bd (sX1_init hw121) fun w122 hw122 => ?_
  refine Rel.bd (rl_ksP hw122 (by decide) (by decide)) fun w124 hw124 => ?_
  refine Rel.bv (rv_kgP hw124 (by decide)) fun v125 => ?_
  refine Rel.bd (rl_knO hw124) fun w126 hw126 => ?_
  refine Rel.bd (sX1_init hw126) fun w127 hw127 => ?_
  refine Rel.bd (rl_ksP hw127 (by decide) (by decide)) fun w129 hw129 => ?_
  refine Rel.bv (rv_kgP hw129 (by decide)) fun v130 => ?_
  refine Rel.bd (rl_knO hw129) fun w131 hw131 => ?_
  refine Rel.bd (sX1_init hw131) fun w132 hw132 => ?_
  refine Rel.bd (rl_ksP hw132 (by decide) (by decide)) fun w134 hw134 => ?_
  refine Rel.bv (rv_kgP hw134 (by decide)) fun v135 => ?_
  refine Rel.bd (rl_knO hw134) fun w136 hw136 => ?_
  refine Rel.bd (sX1_init hw136) fun w137 hw137 => ?_
  refine Rel.bd (rl_ksP hw137 (by decide) (by decide)) fun w139 hw139 => ?_
  refine Rel.bv (rv_kgP hw139 (by decide)) fun v140 => ?_
  refine Rel.bd (rl_knO hw139) fun w141 hw141 => ?_
  refine Rel.bd (sX1_init hw141) fun w142 hw142 => ?_
  refine Rel.bd (rl_ksP hw142 (by decide) (by decide)) fun w144 hw144 => ?_
  refine Rel.bv (rv_kgP hw144 (by decide)) fun v145 => ?_
  refine Rel.bd (rl_knO hw144) fun w146 hw146 => ?_
  refine Rel.bd (sX1_init hw146) fun w147 hw147 => ?_
  refine Rel.bd (rl_ksP hw147 (by decide) (by decide)) fun w149 hw149 => ?_
  exact Rel.ok hw149
set_option maxHeartbeats 4000000 in
set_option maxRecDepth 100000 in
theorem sX11_init {x : Nat} {wB w : kW} (hw : Ve w) {x0 : Nat} : Rel x wB (fX11_init x0 w) (fX11_init (x + x0) (Rl x wB w)) := by
  rw [fX11_init, fX11_init]
  refine Rel.bd (rl_knO hw) fun w1 hw1 => ?_
  refine Rel.bd (sX8_init hw1) fun w2 hw2 => ?_
  refine Rel.bd (rl_kpP hw2 (by decide)) fun w4 hw4 => ?_
  refine Rel.bd (rl_knO hw4) fun w5 hw5 => ?_
  refine Rel.bd (sX8_init hw5) fun w6 hw6 => ?_
  refine Rel.bd (rl_kpP hw6 (by decide)) fun w8 hw8 => ?_
  refine Rel.bd (rl_kpI hw8 (by decide)) fun w9 hw9 => ?_
  refine Rel.bd (rl_knA hw9) fun w10 hw10 => ?_
  refine Rel.bd (rl_kpP hw10 (by decide)) fun w11 hw11 => ?_
  refine Rel.bd (rl_knO hw11) fun w12 hw12 => ?_
  refine Rel.bd (sX2_init hw12) fun w13 hw13 => ?_
  refine Rel.bd (rl_kpP hw13 (by decide)) fun w15 hw15 => ?_
  refine Rel.bd (rl_knO hw15) fun w16 hw16 => ?_
  refine Rel.bd (sX10_init hw16) fun w17 hw17 => ?_
  refine Rel.bd (rl_kpP hw17 (by decide)) fun w19 hw19 => ?_
  refine Rel.bd (rl_knO hw19) fun w20 hw20 => ?_
  refine Rel.bd (sX4_init hw20) fun w21 hw21 => ?_
  refine Rel.bd (rl_kpP hw21 (by decide)) fun w23 hw23 => ?_
  refine Rel.bd (rl_knO hw23) fun w24 hw24 => ?_
  refine Rel.bd (sX9_init hw24) fun w25 hw25 => ?_
  refine Rel.bd (rl_kpP hw25 (by decide)) fun w27 hw27 => ?_
  refine Rel.bd (rl_knO hw27) fun w28 hw28 => ?_
  refine Rel.bd (sX7_init hw28) fun w29 hw29 => ?_
  refine Rel.bd (rl_kpP hw29 (by decide)) fun w31 hw31 => ?_
  refine Rel.bd (rl_knO hw31) fun w32 hw32 => ?_
  refine Rel.bd (sX5_init hw32) fun w33 hw33 => ?_
  refine Rel.bd (rl_kpP hw33 (by decide)) fun w35 hw35 => ?_
  refine Rel.bd (rl_knO hw35) fun w36 hw36 => ?_
  refine Rel.bd (sX3_init hw36) fun w37 hw37 => ?_
  refine Rel.bd (rl_kpP hw37 (by decide)) fun w39 hw39 => ?_
  refine Rel.bd (rl_knA hw39) fun w40 hw40 => ?_
  refine Rel.bd (rl_kpP hw40 (by decide)) fun w41 hw41 => ?_
  refine Rel.bd (rl_kpI hw41 (by decide)) fun w42 hw42 => ?_
  refine Rel.bd (rl_kpI hw42 (by decide)) fun w43 hw43 => ?_
  refine Rel.bv (rv_kgP hw43 (by decide)) fun v44 => ?_
  refine Rel.bd (rl_knO hw43) fun w45 hw45 => ?_
  refine Rel.bd (sX6_init hw45) fun w46 hw46 => ?_
  refine Rel.bd (rl_ksP hw46 (by decide) (by decide)) fun w48 hw48 => ?_
  refine Rel.bv (rv_kgP hw48 (by decide)) fun v49 => ?_
  refine Rel.bd (rl_knO hw48) fun w50 hw50 => ?_
  refine Rel.bd (sX6_init hw50) fun w51 hw51 => ?_
  refine Rel.bd (rl_ksP hw51 (by decide) (by decide)) fun w53 hw53 => ?_
  refine Rel.bv (rv_kgP hw53 (by decide)) fun v54 => ?_
  refine Rel.bd (rl_knO hw53) fun w55 hw55 => ?_
  refine Rel.bd (sX6_init hw55) fun w56 hw56 => ?_
  refine Rel.bd (rl_ksP hw56 (by decide) (by decide)) fun w58 hw58 => ?_
  refine Rel.bv (rv_kgP hw58 (by decide)) fun v59 => ?_
  refine Rel.bd (rl_knO hw58) fun w60 hw60 => ?_
  refine Rel.bd (sX6_init hw60) fun w61 hw61 => ?_
  refine Rel.bd (rl_ksP hw61 (by decide) (by decide)) fun w63 hw63 => ?_
  refine Rel.bv (rv_kgP hw63 (by decide)) fun v64 => ?_
  refine Rel.bd (rl_knO hw63) fun w65 hw65 => ?_
  refine Rel.bd (sX6_init hw65) fun w66 hw66 => ?_
  refine Rel.bd (rl_ksP hw66 (by decide) (by decide)) fun w68 hw68 => ?_
  refine Rel.bv (rv_kgP hw68 (by decide)) fun v69 => ?_
  refine Rel.bd (rl_knO hw68) fun w70 hw70 => ?_
  refine Rel.bd (sX6_init hw70) fun w71 hw71 => ?_
  refine Rel.bd (rl_ksP hw71 (by decide) (by decide)) fun w73 hw73 => ?_
  refine Rel.bv (rv_kgP hw73 (by decide)) fun v74 => ?_
  refine Rel.bd (rl_knO hw73) fun w75 hw75 => ?_
  refine Rel.bd (sX6_init hw75) fun w76 hw76 => ?_
  refine Rel.bd (rl_ksP hw76 (by decide) (by decide)) fun w78 hw78 => ?_
  refine Rel.bv (rv_kgP hw78 (by decide)) fun v79 => ?_
  refine Rel.bd (rl_knO hw78) fun w80 hw80 => ?_
  refine Rel.bd (sX6_init hw80) fun w81 hw81 => ?_
  refine Rel.bd (rl_ksP hw81 (by decide) (by decide)) fun w83 hw83 => ?_
  refine Rel.bv (rv_kgP hw83 (by decide)) fun v84 => ?_
  refine Rel.bv (rv_kRc hw83 (by decide)) fun b85 => ?_
  refine Rel.bd (sX3_addAct hw83) fun w86 hw86 => ?_
  refine Rel.bv (rv_kgP hw86 (by decide)) fun v88 => ?_
  refine Rel.bv (rv_kRc hw86 (by decide)) fun b89 => ?_
  refine Rel.bd (sX3_addAct hw86) fun w90 hw90 => ?_
  refine Rel.bv (rv_kgP hw90 (by decide)) fun v92 => ?_
  refine Rel.bd (rl_kpI hw90 (by decide)) fun w93 hw93 => ?_
  exact Rel.ok hw93
set_option maxHeartbeats 4000000 in
set_option maxRecDepth 100000 in
theorem sX12_init {x : Nat} {wB w : kW} (hw : Ve w) {x0 : Nat} : Rel x wB (fX12_init x0 w) (fX12_init (x + x0) (Rl x wB w)) := by
  rw [fX12_init, fX12_init]
  refine Rel.bd (rl_knA hw) fun w1 hw1 => ?_
  refine Rel.bd (rl_kpP hw1 (by decide)) fun w2 hw2 => ?_
  refine Rel.bd (rl_knA hw2) fun w3 hw3 => ?_
  refine Rel.bd (rl_kpP hw3 (by decide)) fun w4 hw4 => ?_
  refine Rel.bd (rl_knA hw4) fun w5 hw5 => ?_
  refine Rel.bd (rl_kpP hw5 (by decide)) fun w6 hw6 => ?_
  refine Rel.bd (rl_knA hw6) fun w7 hw7 => ?_
  refine Rel.bd (rl_kpP hw7 (by decide)) fun w8 hw8 => ?_
  refine Rel.bd (rl_knA hw8) fun w9 hw9 => ?_
  refine Rel.bd (rl_kpP hw9 (by decide)) fun w10 hw10 => ?_
  refine Rel.bd (rl_knA hw10) fun w11 hw11 => ?_
  refine Rel.bd (rl_kpP hw11 (by decide)) fun w12 hw12 => ?_
  refine Rel.bd (rl_knA hw12) fun w13 hw13 => ?_
  refine Rel.bd (rl_kpP hw13 (by decide)) fun w14 hw14 => ?_
  refine Rel.bd (rl_knA hw14) fun w15 hw15 => ?_
  refine Rel.bd (rl_kpP hw15 (by decide)) fun w16 hw16 => ?_
  refine Rel.bd (rl_knA hw16) fun w17 hw17 => ?_
  refine Rel.bd (rl_kpP hw17 (by decide)) fun w18 hw18 => ?_
  refine Rel.bd (rl_knA hw18) fun w19 hw19 => ?_
  refine Rel.bd (rl_kpP hw19 (by decide)) fun w20 hw20 => ?_
  refine Rel.bd (rl_knA hw20) fun w21 hw21 => ?_
  refine Rel.bd (rl_kpP hw21 (by decide)) fun w22 hw22 => ?_
  refine Rel.bd (rl_knA hw22) fun w23 hw23 => ?_
  refine Rel.bd (rl_kpP hw23 (by decide)) fun w24 hw24 => ?_
  refine Rel.bd (rl_knA hw24) fun w25 hw25 => ?_
  refine Rel.bd (rl_kpP hw25 (by decide)) fun w26 hw26 => ?_
  refine Rel.bd (rl_knA hw26) fun w27 hw27 => ?_
  refine Rel.bd (rl_kpP hw27 (by decide)) fun w28 hw28 => ?_
  refine Rel.bd (rl_knA hw28) fun w29 hw29 => ?_
  refine Rel.bd (rl_kpP hw29 (by decide)) fun w30 hw30 => ?_
  refine Rel.bd (rl_knA hw30) fun w31 hw31 => ?_
  refine Rel.bd (rl_kpP hw31 (by decide)) fun w32 hw32 => ?_
  refine Rel.bd (rl_knA hw32) fun w33 hw33 => ?_
  refine Rel.bd (rl_kpP hw33 (by decide)) fun w34 hw34 => ?_
  exact Rel.ok hw34
