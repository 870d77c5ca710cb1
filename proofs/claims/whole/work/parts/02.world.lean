/-! THE WORDS: those of the tables that stay, all of them for every method; the nest mates' links by themselves -/
def kT : List Cond := lw_tbl.filter goodWord
theorem kTm (i : Nat) {u : Cond} (h : lw_tbl[i]? = some u) (hg : goodWord u = true) : u ∈ kT := List.mem_filter.mpr ⟨List.mem_of_getElem? h, hg⟩
theorem kT_good {u : Cond} (h : u ∈ kT) : (u.onTables && u.keeps) = true ∨ ∃ ty, u = .arrayClass ty := good_of_word (List.mem_filter.mp h).2
theorem kT_tbl {u : Cond} (h : u ∈ kT) : u ∈ lw_tbl := (List.mem_filter.mp h).1
theorem kGood {u : Cond} (h : u ∈ kT) : GoodIn kT (u :: kT) := fun v hv => by
  rcases List.mem_cons.mp hv with rfl | hv
  · exact ⟨h, kT_good h⟩
  · exact ⟨hv, kT_good hv⟩
def kIsN : Cond → Bool := fun u => match u with
  | .fieldLinkNest _ _ _ _ _ _ => true
  | .methodLinkNest _ _ _ _ => true
  | _ => false
def kNs : List Cond := lw_tbl.filter kIsN
theorem kNm (i : Nat) {u : Cond} (h : lw_tbl[i]? = some u) (hg : kIsN u = true) : u ∈ kNs := List.mem_filter.mpr ⟨List.mem_of_getElem? h, hg⟩
def kNest (U : State) : Prop := ∀ u ∈ kNs, va_Nw u U
theorem kNest.warm {s U : State} (hW : s.WarmedH U.vm) (h : kNest s) : kNest U := by
  intro u hu
  have h1 := h u hu
  have h2 := (List.mem_filter.mp hu).2
  cases u <;> first | (cases h2; done) | exact va_Nw.warmF hW h1 | exact va_Nw.warmM hW h1
theorem kNest.same {s U : State} (hv : s.vm = U.vm) (h : kNest s) : kNest U := by
  intro u hu
  have h1 := h u hu
  have h2 := (List.mem_filter.mp hu).2
  cases u <;> first | (cases h2; done) | exact va_Nw.same rfl hv h1
theorem kNest.use {s : State} {args : Array Value} (h : kNest s) {u : Cond} (hu : u ∈ kNs) : u.before args s = true := by
  have h1 := h u hu
  have h2 := (List.mem_filter.mp hu).2
  cases u <;> first | (cases h2; done) | exact va_Nw.use rfl h1
/-! THE WORLD AS MAPS: of every address its kind (0 .. 12 objects of vwCl, 13 bytes, 14 ints, 15 longs, 16 .. 18 rows of references, 99 none), its length, what it holds -/
abbrev kW : Type := (Nat → Nat) × (Nat → Nat) × (Nat → Nat → Int32) × (Nat → Nat → Option Nat) × (Nat → Nat → Int64) × Nat
def kKd (w : kW) : Nat → Nat := w.1
def kLn (w : kW) : Nat → Nat := w.2.1
def kI (w : kW) : Nat → Nat → Int32 := w.2.2.1
def kP (w : kW) : Nat → Nat → Option Nat := w.2.2.2.1
def kJ (w : kW) : Nat → Nat → Int64 := w.2.2.2.2.1
def kSz (w : kW) : Nat := w.2.2.2.2.2
def kMk (k n : Nat → Nat) (i : Nat → Nat → Int32) (p : Nat → Nat → Option Nat) (j : Nat → Nat → Int64) (z : Nat) : kW := (k, n, i, p, j, z)
def kU {α : Type} (f : Nat → Nat → α) (a j : Nat) (x : α) : Nat → Nat → α := fun b k => if b = a ∧ k = j then x else f b k
def kSI (w : kW) (a j : Nat) (x : Int32) : kW := kMk (kKd w) (kLn w) (kU (kI w) a j x) (kP w) (kJ w) (kSz w)
def kSP (w : kW) (a j : Nat) (x : Option Nat) : kW := kMk (kKd w) (kLn w) (kI w) (kU (kP w) a j x) (kJ w) (kSz w)
def kSJ (w : kW) (a j : Nat) (x : Int64) : kW := kMk (kKd w) (kLn w) (kI w) (kP w) (kU (kJ w) a j x) (kSz w)
def kNw (w : kW) (k n : Nat) : kW := kMk (fun a => if a = kSz w then k else kKd w a) (fun a => if a = kSz w then n else kLn w a) (fun a j => if a = kSz w then 0 else kI w a j) (fun a j => if a = kSz w then none else kP w a j) (fun a j => if a = kSz w then 0 else kJ w a j) (kSz w + 1)
theorem kU_ne {α : Type} {f : Nat → Nat → α} {a j : Nat} {x : α} {b : Nat} (h : b ≠ a) : kU f a j x b = f b := by
  funext k
  simp [kU, h]
def kTy : Nat → Nat → FieldType := fun k => match k with
  | 0 => tyX0
  | 1 => tyX1
  | 2 => tyX2
  | 3 => tyX3
  | 4 => tyX4
  | 5 => tyX5
  | 6 => tyX6
  | 7 => tyX7
  | 8 => tyX8
  | 9 => tyX9
  | 10 => tyX10
  | 11 => tyX11
  | _ => tyX12
def kN : Nat → Nat := fun k => match k with
  | 0 => 3
  | 1 => 8
  | 2 => 5
  | 3 => 9
  | 4 => 2
  | 5 => 19
  | 6 => 4
  | 7 => 2
  | 8 => 10
  | 9 => 4
  | 10 => 4
  | 11 => 14
  | _ => 41
def kRf : FieldType → Bool := fun t => match t with
  | .object _ => true
  | .array _ => true
  | _ => false
def kFld (w : kW) (a k j : Nat) : Value := match kRf (kTy k j) with
  | true => va_rf (kP w a j)
  | false => .int (kI w a j)
def kTyA (k : Nat) : FieldType := match k with
  | 13 => .byte
  | 14 => .int
  | 15 => .long
  | 16 => .object RX1
  | 17 => .object RX3
  | _ => .object RX6
def kAr (w : kW) (a k : Nat) : vp_A := match k with
  | 13 => (kLn w a, .inl (kI w a))
  | 14 => (kLn w a, .inl (kI w a))
  | 15 => (kLn w a, .inr (.inl (kJ w a)))
  | _ => (kLn w a, .inr (.inr (.inr (.inr (kP w a)))))
def kAt (D : va_G) (aC : Nat → ClassId) (w : kW) (a : Nat) (H : Heap) : Prop :=
  (kKd w a < 13 → t_OB a (D.1 (kKd w a)) (kN (kKd w a)) (D.2 (kKd w a)) H (kFld w a (kKd w a))) ∧ (13 ≤ kKd w a → kKd w a < 19 → H[a]? = some (vp_cell (aC (kKd w a)) (kAr w a (kKd w a))))
theorem kAt_congr {D : va_G} {aC : Nat → ClassId} {w w1 : kW} {b : Nat} {H H1 : Heap} (hk : kKd w1 b = kKd w b) (hn : kLn w1 b = kLn w b) (hi : kI w1 b = kI w b) (hp : kP w1 b = kP w b) (hj : kJ w1 b = kJ w b) (hh : H1[b]? = H[b]?) (h : kAt D aC w b H) : kAt D aC w1 b H1 := by
  have e1 : ∀ k, kFld w1 b k = kFld w b k := fun k => by funext j; unfold kFld; rw [hi, hp]
  have e2 : ∀ k, kAr w1 b k = kAr w b k := fun k => by unfold kAr; rw [hn, hi, hp, hj]
  unfold kAt at h ⊢
  rw [hk, e1, e2]
  exact ⟨fun q => (h.1 q).kept hh, fun q1 q2 => hh.trans (h.2 q1 q2)⟩
def kH (D : va_G) (aC : Nat → ClassId) (w : kW) (H : Heap) : Prop := H.size = kSz w ∧ ∀ a, kAt D aC w a H
theorem kAt.lt {D : va_G} {aC : Nat → ClassId} {w : kW} {a : Nat} {H : Heap} (h : kAt D aC w a H) (hk : kKd w a < 19) : a < H.size := by
  by_cases h13 : kKd w a < 13
  · obtain ⟨cell, h2, -⟩ := h.1 h13
    exact (Array.getElem?_eq_some_iff.mp h2).1
  · exact (Array.getElem?_eq_some_iff.mp (h.2 (by omega) hk)).1
/-- the world behind a store at a, by what the cell is then -/
theorem kH_store {D : va_G} {aC : Nat → ClassId} {w w1 : kW} {a : Nat} {H H1 : Heap} (h : kH D aC w H) (hs : kSz w1 = kSz w) (hk : kKd w1 = kKd w) (hn : kLn w1 = kLn w) (hi : ∀ b, b ≠ a → kI w1 b = kI w b) (hp : ∀ b, b ≠ a → kP w1 b = kP w b) (hj : ∀ b, b ≠ a → kJ w1 b = kJ w b) (hz : H1.size = H.size) (oq : ∀ q : Nat, q ≠ a → H1[q]? = H[q]?) (ha : kAt D aC w1 a H1) : kH D aC w1 H1 := by
  refine ⟨by rw [hz, hs]; exact h.1, fun b => ?_⟩
  by_cases e : b = a
  · subst e; exact ha
  · exact kAt_congr (by rw [hk]) (by rw [hn]) (hi b e) (hp b e) (hj b e) (oq b e) (h.2 b)
theorem kH_SI {D : va_G} {aC : Nat → ClassId} {w : kW} {a j : Nat} {x : Int32} {H H1 : Heap} (h : kH D aC w H) (hz : H1.size = H.size) (oq : ∀ q : Nat, q ≠ a → H1[q]? = H[q]?) (ha : kAt D aC (kSI w a j x) a H1) : kH D aC (kSI w a j x) H1 :=
  kH_store h rfl rfl rfl (fun _ e => kU_ne e) (fun _ _ => rfl) (fun _ _ => rfl) hz oq ha
theorem kH_SP {D : va_G} {aC : Nat → ClassId} {w : kW} {a j : Nat} {x : Option Nat} {H H1 : Heap} (h : kH D aC w H) (hz : H1.size = H.size) (oq : ∀ q : Nat, q ≠ a → H1[q]? = H[q]?) (ha : kAt D aC (kSP w a j x) a H1) : kH D aC (kSP w a j x) H1 :=
  kH_store h rfl rfl rfl (fun _ _ => rfl) (fun _ e => kU_ne e) (fun _ _ => rfl) hz oq ha
theorem kH_SJ {D : va_G} {aC : Nat → ClassId} {w : kW} {a j : Nat} {x : Int64} {H H1 : Heap} (h : kH D aC w H) (hz : H1.size = H.size) (oq : ∀ q : Nat, q ≠ a → H1[q]? = H[q]?) (ha : kAt D aC (kSJ w a j x) a H1) : kH D aC (kSJ w a j x) H1 :=
  kH_store h rfl rfl rfl (fun _ _ => rfl) (fun _ _ => rfl) (fun _ e => kU_ne e) hz oq ha
theorem kFld_SI {w : kW} {a k j : Nat} {x : Int32} (h : kRf (kTy k j) = false) (i : Nat) : updV (kFld w a k) j (.int x) i = kFld (kSI w a j x) a k i := by
  unfold updV kFld
  by_cases e : i = j
  · subst e
    rw [if_pos rfl, h]
    show _ = Value.int (kU (kI w) a i x a i)
    simp [kU]
  · rw [if_neg e]
    have e1 : kI (kSI w a j x) a i = kI w a i := by
      show kU (kI w) a j x a i = _
      simp [kU, e]
    rw [e1]
    rfl
theorem kFld_SP {w : kW} {a k j : Nat} {x : Option Nat} (h : kRf (kTy k j) = true) (i : Nat) : updV (kFld w a k) j (va_rf x) i = kFld (kSP w a j x) a k i := by
  unfold updV kFld
  by_cases e : i = j
  · subst e
    rw [if_pos rfl, h]
    show _ = va_rf (kU (kP w) a i x a i)
    simp [kU]
  · rw [if_neg e]
    have e1 : kP (kSP w a j x) a i = kP w a i := by
      show kU (kP w) a j x a i = _
      simp [kU, e]
    rw [e1]
    rfl
def kTys (aC : Nat → ClassId) : List (ClassId × FieldType) := [(aC 13, kTyA 13), (aC 14, kTyA 14), (aC 15, kTyA 15), (aC 16, kTyA 16), (aC 17, kTyA 17), (aC 18, kTyA 18)]
def kK (D : va_G) (aC : Nat → ClassId) (U : State) : Prop := va_K D vwCl (kTys aC) U
theorem kK.moved {D : va_G} {aC : Nat → ClassId} {u U : State} (hvm : u.vm.Alike U.vm) (h : kK D aC u) : kK D aC U := va_K.moved hvm h
theorem kK.arr {D : va_G} {aC : Nat → ClassId} {U : State} (h : kK D aC U) {k : Nat} (h1 : 13 ≤ k) (h2 : k < 19) : ArrOfT U (aC k) (kTyA k) ∧ va_RA U (aC k) (kTyA k) := by
  rcases (show k = 13 ∨ k = 14 ∨ k = 15 ∨ k = 16 ∨ k = 17 ∨ k = 18 by omega) with rfl | rfl | rfl | rfl | rfl | rfl
  · exact h.2 0 _ rfl
  · exact h.2 1 _ rfl
  · exact h.2 2 _ rfl
  · exact h.2 3 _ rfl
  · exact h.2 4 _ rfl
  · exact h.2 5 _ rfl
/-- what a method may change: the world's cells, and new ones -/
def kA (w : kW) : Nat → Prop := fun q => kKd w q < 19 ∨ kSz w ≤ q
def kExt (w w1 : kW) : Prop := kSz w ≤ kSz w1 ∧ ∀ a, a < kSz w → kKd w1 a = kKd w a ∧ kLn w1 a = kLn w a
theorem kExt.rf (w : kW) : kExt w w := ⟨Nat.le_refl _, fun _ _ => ⟨rfl, rfl⟩⟩
theorem kExt.tr {w w1 w2 : kW} (h1 : kExt w w1) (h2 : kExt w1 w2) : kExt w w2 :=
  ⟨Nat.le_trans h1.1 h2.1, fun a ha => ⟨(h2.2 a (Nat.lt_of_lt_of_le ha h1.1)).1.trans (h1.2 a ha).1, (h2.2 a (Nat.lt_of_lt_of_le ha h1.1)).2.trans (h1.2 a ha).2⟩⟩
theorem kExt.A {w w1 : kW} (h : kExt w w1) : ∀ q, kA w1 q → kA w q := by
  intro q hq
  by_cases e : kSz w ≤ q
  · exact Or.inr e
  · rcases hq with hq | hq
    · exact Or.inl (by rw [← (h.2 q (by omega)).1]; exact hq)
    · exact absurd (Nat.le_trans h.1 hq) e
theorem kExt.st {w w1 : kW} (hk : kKd w1 = kKd w) (hn : kLn w1 = kLn w) (hs : kSz w1 = kSz w) : kExt w w1 :=
  ⟨Nat.le_of_eq hs.symm, fun a _ => ⟨by rw [hk], by rw [hn]⟩⟩
/-- where a walk stands: the start's world and heap, the world and heap now -/
def kX (D : va_G) (aC : Nat → ClassId) (w0 : kW) (H0 : Heap) (w : kW) (H : Heap) (locs : List Loc) : Prop :=
  kH D aC w H ∧ va_S (kA w0) H0 H locs ∧ kExt w0 w ∧ H0.size = kSz w0
/-- the letters' ways, a static row that nobody writes -/
def kLet (j : Nat) : Int64 := match j with
  | 0 => 0xAAAAAAAAAAAAAAAA
  | 1 => 0xCCCCCCCCCCCCCCCC
  | 2 => 0xF0F0F0F0F0F0F0F0
  | 3 => 0xFF00FF00FF00FF00
  | 4 => 0xFFFF0000FFFF0000
  | _ => 0xFFFFFFFF00000000
def kAO (U : State) : Prop := va_AO RX1 U ∧ va_AO RX3 U ∧ va_AO RX6 U
def kZ (w : kW) (U : State) : Prop := kNest U ∧ kAO U ∧ ∃ t : Nat, va_Z "KitchenCards" "LETTER_WAYS" "[J" (.ref t) (kA w) U U.heap ∧ va_T .long t 6 (fun j => .long (kLet j)) (kA w) U U.heap
def kFx (p : Program) (c : Code) (cc : ByteArray) (s : State) (args : Array Value) (own : String) (m : MethodId) (D : va_G) (aC : Nat → ClassId) : Prop :=
  p.tables.exec = Jvm.exec ∧ c.code = cc ∧ (∀ u ∈ kT, u.before args s = true) ∧ s.vm.findClass own = some m.cls ∧ kK D aC s
/-! what an instruction answers or makes, where it can go on -/
def kIx (n : Nat) (i : Int32) : Option Nat := if i < 0 then none else if i.toNatClampNeg < n then some i.toNatClampNeg else none
def kBl (x : Int32) : Option Int32 := if x = 0 then some 0 else if x = 1 then some 1 else none
def kgI (w : kW) (k : Nat) (r : Option Nat) (j : Nat) : Option Int32 := r.bind fun a => if kKd w a = k then some (kI w a j) else none
def kgP (w : kW) (k : Nat) (r : Option Nat) (j : Nat) : Option (Option Nat) := r.bind fun a => if kKd w a = k then some (kP w a j) else none
def kpI (w : kW) (k : Nat) (r : Option Nat) (j : Nat) (x : Int32) : Option kW := r.bind fun a => if kKd w a = k then some (kSI w a j x) else none
def kpP (w : kW) (k : Nat) (r : Option Nat) (j : Nat) (x : Option Nat) : Option kW := r.bind fun a => if kKd w a = k then some (kSP w a j x) else none
def kaI (w : kW) (k : Nat) (r : Option Nat) (i : Int32) : Option Int32 := r.bind fun a => if kKd w a = k then (kIx (kLn w a) i).map (kI w a) else none
def kaJ (w : kW) (r : Option Nat) (i : Int32) : Option Int64 := r.bind fun a => if kKd w a = 15 then (kIx (kLn w a) i).map (kJ w a) else none
def kaP (w : kW) (k : Nat) (r : Option Nat) (i : Int32) : Option (Option Nat) := r.bind fun a => if kKd w a = k then (kIx (kLn w a) i).map (kP w a) else none
def ksI (w : kW) (k : Nat) (r : Option Nat) (i x : Int32) : Option kW := r.bind fun a => if kKd w a = k then (kIx (kLn w a) i).map (fun j => kSI w a j (if k = 13 then vp_nar .byte x else x)) else none
def ksJ (w : kW) (r : Option Nat) (i : Int32) (x : Int64) : Option kW := r.bind fun a => if kKd w a = 15 then (kIx (kLn w a) i).map (fun j => kSJ w a j x) else none
def kCo (k : Nat) : Nat := match k with
  | 16 => 1
  | 17 => 3
  | _ => 6
def ksP (w : kW) (k : Nat) (r : Option Nat) (i : Int32) (x : Option Nat) : Option kW := r.bind fun a => if kKd w a = k ∧ (x.all fun b => kKd w b == kCo k) = true then (kIx (kLn w a) i).map (fun j => kSP w a j x) else none
def kal (w : kW) (k : Nat) (r : Option Nat) : Option Int32 := r.bind fun a => if kKd w a = k then some (Int32.ofNat (kLn w a)) else none
def knA (w : kW) (k : Nat) (n : Int32) : Option kW := if n < 0 then none else some (kNw w k n.toNatClampNeg)
