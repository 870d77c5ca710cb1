/-! THE MODEL'S WORLD: one object at h0, its seventeen rows of ints behind it -/
abbrev rW : Type := (Nat → Int32) × (Nat → Nat → Int32)
def rF (w : rW) (j : Nat) : Int32 := w.1 j
def rA (w : rW) (n i : Nat) : Int32 := w.2 n i
def rMk (f : Nat → Int32) (a : Nat → Nat → Int32) : rW := (f, a)
def rSF (w : rW) (j : Nat) (x : Int32) : rW := rMk (fun k => if k = j then x else rF w k) (rA w)
def rSA (w : rW) (n i : Nat) (x : Int32) : rW := rMk (rF w) (kU (rA w) n i x)
def rpF (w : rW) (j : Nat) (x : Int32) : Option rW := some (rSF w j x)
def raI (w : rW) (n len : Nat) (i : Int32) : Option Int32 := (kIx len i).map (rA w n)
def rsI (w : rW) (n len : Nat) (i x : Int32) : Option rW := (kIx len i).map fun j => rSA w n j x
def rLen (n : Nat) : Nat := match n with
  | 0 => 10000
  | 1 => 2400
  | 2 => 1000
  | 3 => 1000
  | 4 => 8
  | 5 => 8
  | 6 => 8
  | 7 => 960
  | 8 => 8
  | 9 => 8
  | 10 => 6
  | 11 => 6
  | 12 => 120
  | 13 => 24
  | 14 => 24
  | 15 => 40
  | _ => 40
def rSl (n : Nat) : Nat := match n with
  | 0 => 0
  | 1 => 1
  | 2 => 2
  | 3 => 3
  | 4 => 4
  | 5 => 5
  | 6 => 6
  | 7 => 7
  | 8 => 8
  | 9 => 9
  | 10 => 15
  | 11 => 16
  | 12 => 20
  | 13 => 25
  | 14 => 26
  | 15 => 27
  | _ => 38
def rI (h0 : Nat) (wB : kW) (w : rW) (b k : Nat) : Int32 := if b = h0 then rF w k else if h0 < b ∧ b < h0 + 18 then rA w (b - h0 - 1) k else kI wB b k
def rWo (h0 : Nat) (wB : kW) (w : rW) : kW := kMk (kKd wB) (kLn wB) (rI h0 wB w) (kP wB) (kJ wB) (kSz wB)
def rOK (h0 : Nat) (wB : kW) : Prop := kKd wB h0 = 12 ∧ ∀ n, n < 17 → kKd wB (h0 + n + 1) = 14 ∧ kLn wB (h0 + n + 1) = rLen n ∧ kP wB h0 (rSl n) = some (h0 + n + 1)
theorem rI_o {h0 : Nat} {wB : kW} {w : rW} {k : Nat} : rI h0 wB w h0 k = rF w k := if_pos rfl
theorem rI_a {h0 : Nat} {wB : kW} {w : rW} {n k : Nat} (hn : n < 17) : rI h0 wB w (h0 + n + 1) k = rA w n k := by
  unfold rI
  rw [if_neg (by omega), if_pos ⟨by omega, by omega⟩, show h0 + n + 1 - h0 - 1 = n by omega]
theorem rWo_SF {h0 : Nat} {wB : kW} {w : rW} {j : Nat} {x : Int32} : kSI (rWo h0 wB w) h0 j x = rWo h0 wB (rSF w j x) := by
  have h : kU (rI h0 wB w) h0 j x = rI h0 wB (rSF w j x) := by
    funext b k
    unfold kU rI
    by_cases hb : b = h0
    · subst hb
      rw [if_pos rfl, if_pos rfl]
      show _ = (if k = j then x else rF w k)
      by_cases hk : k = j
      · rw [if_pos ⟨rfl, hk⟩, if_pos hk]
      · rw [if_neg (fun q => hk q.2), if_neg hk]
    · rw [if_neg (fun q => hb q.1), if_neg hb, if_neg hb]
      rfl
  show kMk _ _ (kU (rI h0 wB w) h0 j x) _ _ _ = kMk _ _ (rI h0 wB (rSF w j x)) _ _ _
  rw [h]
  rfl
theorem rWo_SA {h0 : Nat} {wB : kW} {w : rW} {n i : Nat} {x : Int32} (hn : n < 17) : kSI (rWo h0 wB w) (h0 + n + 1) i x = rWo h0 wB (rSA w n i x) := by
  have h : kU (rI h0 wB w) (h0 + n + 1) i x = rI h0 wB (rSA w n i x) := by
    funext b k
    by_cases hb : b = h0
    · subst hb
      rw [rI_o, kU_ne (by omega), rI_o]
      rfl
    · by_cases hr : h0 < b ∧ b < h0 + 18
      · obtain ⟨q, rfl⟩ : ∃ q, b = h0 + q + 1 := ⟨b - h0 - 1, by omega⟩
        rw [rI_a (by omega)]
        show _ = kU (rA w) n i x q k
        unfold kU
        rw [rI_a (by omega)]
        by_cases hq : q = n ∧ k = i
        · rw [if_pos hq, if_pos ⟨by omega, hq.2⟩]
        · rw [if_neg hq, if_neg (fun z => hq ⟨by omega, z.2⟩)]
      · unfold rI
        rw [kU_ne (by omega), if_neg hb, if_neg hr, if_neg hb, if_neg hr]
  show kMk _ _ (kU (rI h0 wB w) (h0 + n + 1) i x) _ _ _ = kMk _ _ (rI h0 wB (rSA w n i x)) _ _ _
  rw [h]
  rfl
section VKM
variable {p : Program} {l : Launch} {e : Env} {R : Room} {s : State} {m : MethodId} {args : Array Value} {below : List Frame} {meth : Method} {c : Code} {H : Heap} {locs : List Loc} {cells slots : Nat} {Q : State → Prop}
variable {cc : ByteArray} {pc : Nat} {ls : Array Slot} {rest : List Value} {D : va_G} {aC : Nat → ClassId} {H0 : Heap} {own : String} {w0 : kW} {h0 : Nat} {wB : kW} {w : rW}
theorem rgetA {n j index : Nat} (hB : rOK h0 wB) (hn : n < 17) (hs : rSl n = j) (F : kFx p c cc s args own m D aC) (hX : kX D aC w0 H0 (rWo h0 wB w) H locs) (hlink : Cond.fieldLink own index (TX12 j).1 (TX12 j).2.1 (TX12 j).2.2.1 ∈ kT) (hj : j < 41) (hr : kRf (kTy 12 j) = true) (hdg : decode cc pc = .ok (.getfield index, 3))
    (kk : W p l e R s m args below meth c H locs cells slots Q (F0 m (pc + 3) ls (.ref (h0 + n + 1) :: rest))) : W p l e R s m args below meth c H locs cells slots Q (F0 m pc ls (.ref h0 :: rest)) := by
  have hv : kgP (rWo h0 wB w) 12 (some h0) j = some (some (h0 + n + 1)) := by
    subst hs
    unfold kgP
    rw [Option.bind_some, if_pos (show kKd (rWo h0 wB w) h0 = 12 from hB.1)]
    exact congrArg some (hB.2 n hn).2.2
  exact kgetP (r := some h0) (x := some (h0 + n + 1)) hv F hX hinX12 rfl rfl hr (by decide) hj hlink hdg kk
theorem rgetF {j index : Nat} (hB : rOK h0 wB) (F : kFx p c cc s args own m D aC) (hX : kX D aC w0 H0 (rWo h0 wB w) H locs) (hlink : Cond.fieldLink own index (TX12 j).1 (TX12 j).2.1 (TX12 j).2.2.1 ∈ kT) (hj : j < 41) (hr : kRf (kTy 12 j) = false) (hdg : decode cc pc = .ok (.getfield index, 3))
    (kk : W p l e R s m args below meth c H locs cells slots Q (F0 m (pc + 3) ls (.int (rF w j) :: rest))) : W p l e R s m args below meth c H locs cells slots Q (F0 m pc ls (.ref h0 :: rest)) := by
  have hv : kgI (rWo h0 wB w) 12 (some h0) j = some (rF w j) := by
    unfold kgI
    rw [Option.bind_some, if_pos (show kKd (rWo h0 wB w) h0 = 12 from hB.1)]
    exact congrArg some rI_o
  exact kgetI (r := some h0) hv F hX hinX12 rfl rfl hr (by decide) hj hlink hdg kk
theorem rputF {j index : Nat} {x : Int32} {w' : rW} (hw : rpF w j x = some w') (hB : rOK h0 wB) (F : kFx p c cc s args own m D aC) (hX : kX D aC w0 H0 (rWo h0 wB w) H locs) (hlink : Cond.fieldLink own index (TX12 j).1 (TX12 j).2.1 (TX12 j).2.2.1 ∈ kT) (hj : j < 41) (hr : kRf (kTy 12 j) = false) (hn : narrow (kTy 12 j) (.int x) = .int x) (hfit : fits (kTy 12 j) (.int x) = true) (hfin : (TX12 j).2.2.2 = false) (hdg : decode cc pc = .ok (.putfield index, 3))
    (kk : ∀ (H1 : Heap) (locs1 : List Loc), kX D aC w0 H0 (rWo h0 wB w') H1 locs1 → W p l e R s m args below meth c H1 locs1 cells slots Q (F0 m (pc + 3) ls rest)) : W p l e R s m args below meth c H locs cells slots Q (F0 m pc ls (.int x :: .ref h0 :: rest)) := by
  have hv : kpI (rWo h0 wB w) 12 (some h0) j x = some (rWo h0 wB w') := by
    cases hw
    unfold kpI
    rw [Option.bind_some, if_pos (show kKd (rWo h0 wB w) h0 = 12 from hB.1), rWo_SF]
  exact kputI (r := some h0) hv F hX hinX12 tyX12_ok nmX12 rfl rfl hr (by decide) hj hlink hn hfit (Or.inl hfin) hdg kk
theorem rald {n len : Nat} {i x : Int32} (hB : rOK h0 wB) (hn : n < 17 ∧ rLen n = len) (hv : raI w n len i = some x) (F : kFx p c cc s args own m D aC) (hX : kX D aC w0 H0 (rWo h0 wB w) H locs) (hdg : decode cc pc = .ok (.iaload, 1))
    (kk : W p l e R s m args below meth c H locs cells slots Q (F0 m (pc + 1) ls (.int x :: rest))) : W p l e R s m args below meth c H locs cells slots Q (F0 m pc ls (.int i :: .ref (h0 + n + 1) :: rest)) := by
  obtain ⟨j, hj, rfl⟩ := Option.map_eq_some_iff.mp hv
  have hv2 : kaI (rWo h0 wB w) 14 (some (h0 + n + 1)) i = some (rA w n j) := by
    unfold kaI
    have h2 : kLn (rWo h0 wB w) (h0 + n + 1) = len := ((hB.2 n hn.1).2.1).trans hn.2
    rw [Option.bind_some, if_pos (show kKd (rWo h0 wB w) (h0 + n + 1) = 14 from (hB.2 n hn.1).1), h2, hj]
    exact congrArg some (rI_a hn.1)
  exact kald (r := some (h0 + n + 1)) hv2 F hX hdg kk
theorem rast {n len : Nat} {i x : Int32} {w' : rW} (hB : rOK h0 wB) (hn : n < 17 ∧ rLen n = len) (hv : rsI w n len i x = some w') (F : kFx p c cc s args own m D aC) (hX : kX D aC w0 H0 (rWo h0 wB w) H locs) (hdg : decode cc pc = .ok (.iastore, 1))
    (kk : ∀ (H1 : Heap) (locs1 : List Loc), kX D aC w0 H0 (rWo h0 wB w') H1 locs1 → W p l e R s m args below meth c H1 locs1 cells slots Q (F0 m (pc + 1) ls rest)) : W p l e R s m args below meth c H locs cells slots Q (F0 m pc ls (.int x :: .int i :: .ref (h0 + n + 1) :: rest)) := by
  obtain ⟨j, hj, rfl⟩ := Option.map_eq_some_iff.mp hv
  have hv2 : ksI (rWo h0 wB w) 14 (some (h0 + n + 1)) i x = some (rWo h0 wB (rSA w n j x)) := by
    unfold ksI
    have h2 : kLn (rWo h0 wB w) (h0 + n + 1) = len := ((hB.2 n hn.1).2.1).trans hn.2
    rw [Option.bind_some, if_pos (show kKd (rWo h0 wB w) (h0 + n + 1) = 14 from (hB.2 n hn.1).1), h2, hj]
    show some (kSI (rWo h0 wB w) (h0 + n + 1) j x) = _
    rw [rWo_SA hn.1]
  exact kast (r := some (h0 + n + 1)) hv2 F hX hdg kk
end VKM
/-- how deep the model's own calls may go -/
def kDP : Nat := 400
