/-! making objects and rows; the letters' ways -/
def kOkT : FieldType → Bool := fun t => match t with
  | .long => false
  | .float => false
  | .double => false
  | _ => true
theorem kdef {w : kW} {k j : Nat} (h : kOkT (kTy k j) = true) : defaultValue (kTy k j) = kFld (kNw w k 0) (kSz w) k j := by
  have e3 : kI (kNw w k 0) (kSz w) j = 0 := if_pos rfl
  have e4 : kP (kNw w k 0) (kSz w) j = none := if_pos rfl
  unfold kFld
  rw [e3, e4]
  revert h
  cases kTy k j <;> intro h <;> first | rfl | (exact absurd h Bool.false_ne_true)
theorem wOi : Cond.instanceMethod objectInit ∈ kT := kTm 123 (by decide +kernel) rfl
theorem wOc : Cond.code objectInit ⟨#[0xb1]⟩ 1 none ∈ kT := kTm 124 (by decide +kernel) rfl
def knO (w : kW) (k : Nat) : Option kW := some (kNw w k 0)
theorem wMi : Cond.initialized "java/lang/Math" ∈ kT := kTm 98 (by decide +kernel) rfl
theorem wMmins : Cond.static Lib.Math.min.name ∈ kT := kTm 559 (by decide +kernel) rfl
theorem wMminc : Cond.code Lib.Math.min.name Lib.Math.min.code 2 (some .int) ∈ kT := kTm 560 (by decide +kernel) rfl
theorem wMmaxs : Cond.static Lib.Math.max.name ∈ kT := kTm 186 (by decide +kernel) rfl
theorem wMmaxc : Cond.code Lib.Math.max.name Lib.Math.max.code 2 (some .int) ∈ kT := kTm 187 (by decide +kernel) rfl
section VKN
variable {p : Program} {l : Launch} {e : Env} {R : Room} {s : State} {m : MethodId} {args : Array Value} {below : List Frame} {meth : Method} {c : Code} {H : Heap} {locs : List Loc} {cells slots : Nat} {Q : State → Prop}
variable {cc : ByteArray} {pc : Nat} {ls : Array Slot} {rest : List Value} {D : va_G} {aC : Nat → ClassId} {H0 : Heap} {own : String} {w w0 : kW}
theorem knewo {k N index : Nat} {C : String} {T : u_T} {w' : kW} (hv : knO w k = some w') (F : kFx p c cc s args own m D aC) (hX : kX D aC w0 H0 w H locs) (hin : ∀ u ∈ u_ws C T N, u ∈ kT) (hty : ∀ i, i < N → parseFieldDescriptor (T i).2.2.1 = some (kTy k i)) (hok : ∀ j, j < N → kOkT (kTy k j) = true) (hc : vwCl[k]? = some (C, T, N)) (hN : kN k = N) (hk13 : k < 13) (hcl : Cond.classLink own index C ∈ kT) (hinst : Cond.instantiable C N ∈ kT) (hini : Cond.initialized C ∈ kT) (hcells : cells + 1 ≤ R.cells) (hslots : slots + N ≤ R.slots) (hdg : decode cc pc = .ok (.new index, 3))
    (kk : ∀ (H1 : Heap), kX D aC w0 H0 w' H1 locs → W p l e R s m args below meth c H1 locs (cells + 1) (slots + N) Q (F0 m (pc + 3) ls (.ref (kSz w) :: rest))) : W p l e R s m args below meth c H locs cells slots Q (F0 m pc ls rest) := by
  obtain ⟨hx, hb, hts, hown, hK⟩ := F
  cases hv
  have hKn := hK.1 k _ hc
  have hsz : H.size = kSz w := hX.1.1
  refine W.newcK hx hb hown (hts _ hcl) (hts _ hinst) (hts _ hini) rfl hdg hcells hslots hKn.2.1 rfl fun H1 kC hkC e1 z1 o1 => ?_
  have hob := (u_born (kTy k) (fun u hu => hts u hu) hin hKn hkC e1 hty).to (V' := kFld (kNw w k 0) (kSz w) k) (fun j hj => kdef (hok j hj))
  rw [hsz] at hob ⊢
  exact kk H1 (hX.new z1 o1 (kAt_obj (N := N) (if_pos rfl) hN hk13 hob))
theorem knewq {k index mx : Nat} {n : Int32} {w' : kW} {C : String} (hv : knA w k n = some w') (hC : kTyA k = .object C) (h16 : 16 ≤ k) (h19 : k < 19) (F : kFx p c cc s args own m D aC) (hX : kX D aC w0 H0 w H locs) (hover : va_AO C s) (hcl : Cond.classLink own index C ∈ kT) (hmx : n.toNatClampNeg ≤ mx) (hbytes : mx ≤ 67108864) (hcells : cells + 1 ≤ R.cells) (hslots : slots + mx ≤ R.slots) (hdg : decode cc pc = .ok (.anewarray index, 3))
    (kk : ∀ (H1 : Heap), kX D aC w0 H0 w' H1 locs → W p l e R s m args below meth c H1 locs (cells + 1) (slots + mx) Q (F0 m (pc + 3) ls (va_rf (some (kSz w)) :: rest))) : W p l e R s m args below meth c H locs cells slots Q (F0 m pc ls (.int n :: rest)) := by
  obtain ⟨h0, rfl⟩ := knA_s hv
  obtain ⟨hx, hb, hts, hown, hK⟩ := F
  have hsz : H.size = kSz w := hX.1.1
  refine W.anew hx hb hown (hts _ hcl) (va_AO.use hover) rfl hdg rfl h0 (by omega) hcells (by omega) fun cA kA comp f1 f2 f3 f4 => ?_
  have hcA : cA = aC k := by
    have h2 := (hK.arr (by omega) h19).2
    rw [hC] at h2
    obtain ⟨kA', comp', k1, k2, k3, k4⟩ := h2
    exact Option.some.inj (f1.symm.trans k4)
  generalize hH1 : H.push ({ cls := cA, slots := Array.replicate n.toNatClampNeg .null, vm := .none } : Cell) = H1
  have z1 : H1.size = H.size + 1 := by rw [← hH1, Array.size_push]
  have e1 : H1[H.size]? = some (arrV cA n.toNatClampNeg (fun _ => .null)) := by rw [← hH1, Array.getElem?_push_size, ← arrV_new]
  have o1 : ∀ q : Nat, q < H.size → H1[q]? = H[q]? := fun q hq => by rw [← hH1, Array.getElem?_push, if_neg (Nat.ne_of_lt hq)]
  refine W.widen (k := cells + 1) (n := slots + mx) (Nat.le_refl _) (by omega) ?_
  rw [hsz] at e1 ⊢
  refine kk H1 (hX.new z1 o1 (kAt_arr (if_pos rfl) (by omega) ?_))
  rw [knew_cell (by omega) h19, ← hcA]
  have e2 : kZr k = fun _ => Value.null := by
    funext j
    rcases (show k = 16 ∨ k = 17 ∨ k = 18 by omega) with rfl | rfl | rfl <;> rfl
  rw [e2]
  exact e1
/-- the letters' ways: the row itself is at t -/
theorem kgetsW {index : Nat} {t : Nat} (hZs : va_Z "KitchenCards" "LETTER_WAYS" "[J" (.ref t) (kA w0) s s.heap) (hN : kNest s) (F : kFx p c cc s args own m D aC) (hX : kX D aC w0 s.heap w H locs) (hlink : Cond.fieldLinkNest own index "KitchenCards" "LETTER_WAYS" "[J" "KitchenCards" ∈ kNs) (hdg : decode cc pc = .ok (.getstatic index, 3))
    (kk : W p l e R s m args below meth c H locs cells slots Q (F0 m (pc + 3) ls (.ref t :: rest))) : W p l e R s m args below meth c H locs cells slots Q (F0 m pc ls rest) :=
  va_getsN F.1 F.2.1 hZs hX.2.1 F.2.2.2.1 (hN.use hlink) (fun _ h => h) hdg kk
theorem klenW {t : Nat} (hTs : va_T .long t 6 (fun j => .long (kLet j)) (kA w0) s s.heap) (F : kFx p c cc s args own m D aC) (hX : kX D aC w0 s.heap w H locs) (hdg : decode cc pc = .ok (.arraylength, 1))
    (kk : W p l e R s m args below meth c H locs cells slots Q (F0 m (pc + 1) ls (.int 6 :: rest))) : W p l e R s m args below meth c H locs cells slots Q (F0 m pc ls (.ref t :: rest)) :=
  va_tlen F.1 F.2.1 hTs hX.2.1 rfl hdg kk
def kWy (i : Int32) : Option Int64 := (kIx 6 i).map kLet
theorem kldW {t : Nat} {i : Int32} {x : Int64} (hv : kWy i = some x) (hTs : va_T .long t 6 (fun j => .long (kLet j)) (kA w0) s s.heap) (F : kFx p c cc s args own m D aC) (hX : kX D aC w0 s.heap w H locs) (hdg : decode cc pc = .ok (.laload, 1))
    (kk : W p l e R s m args below meth c H locs cells slots Q (F0 m (pc + 1) ls (.long x :: rest))) : W p l e R s m args below meth c H locs cells slots Q (F0 m pc ls (.int i :: .ref t :: rest)) := by
  obtain ⟨j, hj, rfl⟩ := Option.map_eq_some_iff.mp hv
  obtain ⟨h1, h2, h3⟩ := kIx_in hj
  subst h2
  exact va_tl F.1 F.2.1 hTs hX.2.1 h1 rfl hdg kk
theorem kmmin {index : Nat} {x y : Int32} (F : kFx p c cc s args own m D aC) (hml : c.maxLocals = ls.size) (hlink : Cond.methodLink own index Lib.Math.min.name ∈ kT) (hframes : 1 ≤ R.frames) (hlocals : (rest.map fun v => v.category).sum + 13 ≤ R.locals) (hc : cells ≤ R.cells) (hs : slots ≤ R.slots) (hdg : decode cc pc = .ok (.invokestatic index, 3))
    (kk : W p l e R s m args below meth c H locs cells slots Q (F0 m (pc + 3) ls (.int (kMmin x y) :: rest))) : W p l e R s m args below meth c H locs cells slots Q (F0 m pc ls (.int y :: .int x :: rest)) :=
  va_mmin F.1 F.2.1 hml F.2.2.2.1 (F.2.2.1 _ hlink) (F.2.2.1 _ wMmins) (F.2.2.1 _ wMi) (F.2.2.1 _ wMminc) hframes hlocals hc hs hdg kk
theorem kmmax {index : Nat} {x y : Int32} (F : kFx p c cc s args own m D aC) (hml : c.maxLocals = ls.size) (hlink : Cond.methodLink own index Lib.Math.max.name ∈ kT) (hframes : 1 ≤ R.frames) (hlocals : (rest.map fun v => v.category).sum + 13 ≤ R.locals) (hc : cells ≤ R.cells) (hs : slots ≤ R.slots) (hdg : decode cc pc = .ok (.invokestatic index, 3))
    (kk : W p l e R s m args below meth c H locs cells slots Q (F0 m (pc + 3) ls (.int (kMmax x y) :: rest))) : W p l e R s m args below meth c H locs cells slots Q (F0 m pc ls (.int y :: .int x :: rest)) :=
  va_mmax F.1 F.2.1 hml F.2.2.2.1 (F.2.2.1 _ hlink) (F.2.2.1 _ wMmaxs) (F.2.2.1 _ wMi) (F.2.2.1 _ wMmaxc) hframes hlocals hc hs hdg kk
theorem kobj {index a : Nat} (F : kFx p c cc s args own m D aC) (hml : c.maxLocals = ls.size) (hlink : Cond.methodLink own index objectInit ∈ kT) (hframes : 1 ≤ R.frames) (hlocals : (rest.map fun v => v.category).sum + 12 ≤ R.locals) (hdg : decode cc pc = .ok (.invokespecial index, 3))
    (kk : W p l e R s m args below meth c H locs cells slots Q (F0 m (pc + 3) ls rest)) : W p l e R s m args below meth c H locs cells slots Q (F0 m pc ls (.ref a :: rest)) :=
  W.objInit (g := F0 m pc ls (.ref a :: rest)) F.1 F.2.1 F.2.2.2.1 (F.2.2.1 _ hlink) (F.2.2.1 _ wOi) (F.2.2.1 _ wOc) rfl hml.symm rfl hdg hframes (by show 2 * 0 + _ + 12 ≤ _; omega) kk
end VKN
def knC (w : kW) (k : Nat) (n : Int32) (mx : Nat) : Option kW := if n.toNatClampNeg ≤ mx then knA w k n else none
theorem knC_s {w w' : kW} {k : Nat} {n : Int32} {mx : Nat} (h : knC w k n mx = some w') : n.toNatClampNeg ≤ mx ∧ knA w k n = some w' := by
  unfold knC at h
  by_cases e : n.toNatClampNeg ≤ mx
  · rw [if_pos e] at h; exact ⟨e, h⟩
  · rw [if_neg e] at h; cases h
