def kPc (D : va_G) (aC : Nat → ClassId) (as : List Value) (w : kW) : Array Value → State → Prop := va_Pc as (fun U => kH D aC w U.heap ∧ kK D aC U ∧ kZ w U)
def kQc (D : va_G) (aC : Nat → ClassId) (w : kW) (r : Option Value) (w' : kW) : Array Value → State → Outcome → State → Prop := fun _ st oc t => (oc = .returned r ∧ kH D aC w' t.heap ∧ kExt w w') ∧ va_F (kA w) st t
/-- a contract: from the world w, with the arguments as, the method answers r and leaves the world w'; fr frames, lo words of locals; mc cells of ms slots are new -/
def kC (l : Launch) (D : va_G) (aC : Nat → ClassId) (y : MethodName) (cc : ByteArray) (maxL : Nat) (ret : Option FieldType) (fr lo : Nat) (as : List Value) (w : kW) (r : Option Value) (w' : kW) (mc ms : Nat) : Prop :=
  Met l y (Cond.code y cc maxL ret :: kT) { frames := fr, cells := mc, slots := ms, locals := lo } (kPc D aC as w) (kQc D aC w r w') mc ms (kA w)
theorem kZ.at {w0 w : kW} {s U : State} {H : Heap} {locs : List Loc} (h : kZ w0 s) (hS : va_S (kA w0) s.heap H locs) (he : kExt w0 w) (hU : U.heap = H) (hW : s.WarmedH U.vm) : kZ w U := by
  obtain ⟨hN, ⟨hA1, hA3, hA6⟩, t, h1, h2⟩ := h
  refine ⟨hN.warm hW, ⟨hA1.moved hW.alike, hA3.moved hW.alike, hA6.moved hW.alike⟩, t, ?_, ?_⟩
  · rw [hU]
    exact ((h1.kept hS.2.1).moved hW.alike).narrow he.A
  · rw [hU]
    exact ((h2.kept hS.2.1).moved hW.alike).narrow he.A
theorem kPc_blind {D : va_G} {aC : Nat → ClassId} {as : List Value} {w : kW} : FrameBlind (kPc D aC as w) := by
  intro a U g mk h
  obtain ⟨h1, h2, h3, h6, ⟨hA1, hA3, hA6⟩, t, h4, h5⟩ := h
  exact ⟨h1, h2, va_K.moved (u := U) (U := U.calling g mk a) (Vm.Alike.refl U.vm) h3, kNest.same (s := U) (U := U.calling g mk a) rfl h6, ⟨va_AO.moved (u := U) (U := U.calling g mk a) (Vm.Alike.refl U.vm) hA1, va_AO.moved (u := U) (U := U.calling g mk a) (Vm.Alike.refl U.vm) hA3, va_AO.moved (u := U) (U := U.calling g mk a) (Vm.Alike.refl U.vm) hA6⟩, t, va_Z.moved (u := U) (U := U.calling g mk a) (Vm.Alike.refl U.vm) h4, va_T.moved (u := U) (U := U.calling g mk a) (Vm.Alike.refl U.vm) h5⟩
theorem kOf {l : Launch} {D : va_G} {aC : Nat → ClassId} {y : MethodName} {own : String} {fr lo : Nat} {as : List Value} {w w' : kW} {r : Option Value} {mc ms : Nat} {cc : ByteArray} {maxL : Nat} {ret : Option FieldType}
    (hy : plainName y.cls = true) (hown : y.cls = own) (hlen : (lg_sl as).length ≤ maxL)
    (body : ∀ (p : Program) (e : Env) (s : State) (m : MethodId) (below : List Frame) (meth : Method) (c : Code) (ls : Array Slot), kFx p c cc s as.toArray own m D aC → c.maxLocals = maxL → meth.sig.returnType = ret → meth.locks = false → meth.name = y.name → kX D aC w s.heap w s.heap [] → kZ w s → lv_has ls maxL (lv_args 0 as) →
      W p l e { frames := fr, cells := mc, slots := ms, locals := lo } s m as.toArray below meth c s.heap [] 0 0 (MQ below (kQc D aC w r w') as.toArray s mc ms (kA w)) (F0 m 0 ls [])) : kC l D aC y cc maxL ret fr lo as w r w' mc ms := by
  refine Met.ofW (cc := cc) (maxL := maxL) (ret := ret) hy rfl ?_
  intro p e s m args below meth c s₁ B hml hv
  obtain ⟨rfl, hH, hK, hZ⟩ := hv
  have hts := atoms_spec (ws := Cond.code y cc maxL ret :: kT) B.pre
  have ho : s.vm.findClass own = some m.cls := hown ▸ findClass_of_methodNamed B.named
  have hl := lv_entry as (n := maxL) hlen
  rw [lg_entry_eq]
  exact body p e s m below meth c _ ⟨B.exec, B.bytes, fun u hu => hts u (List.mem_cons_of_mem _ hu), ho, hK⟩ hml B.returns B.notSynchronized (name_of_methodNamed B.named B.method).1 ⟨hH, va_S.rf, kExt.rf w, hH.1⟩ hZ hl
section VKC
variable {p : Program} {l : Launch} {e : Env} {R : Room} {s : State} {m : MethodId} {args : Array Value} {below : List Frame} {meth : Method} {c : Code} {H : Heap} {locs : List Loc} {cells slots : Nat} {Q : State → Prop}
variable {cc : ByteArray} {pc : Nat} {ls : Array Slot} {D : va_G} {aC : Nat → ClassId} {own : String} {w w0 : kW}
theorem kgoes {w' : kW} {rv : Option Value} {mc ms : Nat} {st0 st1 rest : List Value} {a : Array Value} (hr : va_Run p l e R s m args below meth c H locs cells slots mc ms (F0 m pc ls st0) rest (kQc D aC w rv w' a) (kA w)) (hX : kX D aC w0 s.heap w H locs) (hs1 : rv.toList ++ rest = st1)
    (kk : ∀ (H1 : Heap) (locs1 : List Loc), kX D aC w0 s.heap w' H1 locs1 → W p l e R s m args below meth c H1 locs1 (cells + mc) (slots + ms) Q (F0 m (pc + 3) ls st1)) : W p l e R s m args below meth c H locs cells slots Q (F0 m pc ls st0) := by
  subst hs1
  intro T hT X
  obtain ⟨v, st₀, t, T', L, h0, X', hL, e1, e2, ⟨⟨hv, hh, he⟩, hz, hk⟩, st⟩ := hr T hT X
  cases hv
  obtain ⟨q1, hS, q3, q4⟩ := hX
  rw [h0] at hz hk
  obtain ⟨t2, a1, b1⟩ := kk T'.heap (locs ++ L) ⟨by rw [e1]; exact hh, ⟨Nat.le_trans hS.1 (by rw [e1]; exact hz), fun q h1 h2 => by rw [e1, hk q (Nat.lt_of_lt_of_le h1 hS.1) (fun z => h2 (q3.A q z))]; exact hS.2.1 q h1 h2, fun q hq => by
      rcases List.mem_append.mp hq with h | h
      · exact hS.2.2 q h
      · exact q3.A _ (hL q h)⟩, q3.tr he, q4⟩ T' rfl X'
  exact ⟨t2, st t2 a1, b1⟩
theorem kpre {w1 : kW} {as : List Value} (hX : kX D aC w0 s.heap w1 H locs) (hK : kK D aC s) (hZ : kZ w0 s) (U : State) (hU : U.heap = H) (hW : s.WarmedH U.vm) : kPc D aC as w1 as.toArray U :=
  ⟨rfl, by rw [hU]; exact hX.1, hK.moved hW.alike, hZ.at hX.2.1 hX.2.2.1 hU hW⟩
/-- a method's words, for its calls -/
def kMV (C : String) (y : MethodName) (cc : ByteArray) (maxL : Nat) (ret : Option FieldType) : Prop := Cond.code y cc maxL ret ∈ kT ∧ Cond.initialized y.cls ∈ kT ∧ Cond.instanceMethod y ∈ kT ∧ Cond.selects C y y ∈ kT
def kMS (y : MethodName) (cc : ByteArray) (maxL : Nat) (ret : Option FieldType) : Prop := Cond.code y cc maxL ret ∈ kT ∧ Cond.initialized y.cls ∈ kT ∧ Cond.static y ∈ kT
def kMI (y : MethodName) (cc : ByteArray) (maxL : Nat) : Prop := Cond.code y cc maxL none ∈ kT ∧ Cond.initialized y.cls ∈ kT ∧ Cond.instanceMethod y ∈ kT
theorem kcallV {y : MethodName} {bytes : ByteArray} {maxL nL mc ms n index fr lo k N : Nat} {ret : Option FieldType} {C : String} {T : u_T} {r : Option Nat} {b : Nat} {rv : Option Value} {w' : kW} (As rest st1 : List Value) {st0 : List Value}
    (hC : kC l D aC y bytes maxL ret fr lo (.ref b :: As) w rv w' mc ms) (hr : r = some b) (hk : kKd w b = k) (F : kFx p c cc s args own m D aC) (hml : c.maxLocals = nL) (hX : kX D aC w0 s.heap w H locs) (hZ : kZ w0 s) (hl : ls.size = nL)
    (hM : kMV C y bytes maxL ret) (hlk : Cond.methodLink own index y ∈ kT) (hc : vwCl[k]? = some (C, T, N)) (hk13 : k < 13) (hd : y.cls ≠ "java/lang/invoke/MethodHandle" ∧ y.cls ≠ "java/lang/invoke/VarHandle" ∧ (parseMethodDescriptor y.desc).map (fun d => d.parameters.length) = some n) (hR : fr + 1 ≤ R.frames ∧ 8 + (maxL + 11) + lo ≤ R.locals)
    (hst : st0 = As.reverse ++ va_rf r :: rest) (hn : As.length = n) (hs1 : rv.toList ++ rest = st1) (hrest : (rest.map fun v => v.category).sum ≤ 8) (hdg : decode cc pc = .ok (.invokevirtual index, 3)) (hf : cells + mc ≤ R.cells ∧ slots + ms ≤ R.slots)
    (kk : ∀ (H1 : Heap) (locs1 : List Loc), kX D aC w0 s.heap w' H1 locs1 → W p l e R s m args below meth c H1 locs1 (cells + mc) (slots + ms) Q (F0 m (pc + 3) ls st1)) : W p l e R s m args below meth c H locs cells slots Q (F0 m pc ls st0) := by
  subst hr
  obtain ⟨hx, hb, hts, hown, hK⟩ := id F
  obtain ⟨cell, g1, g3, g2, hcls⟩ := kcls hK hX hk hk13 hc
  refine kgoes (w' := w') (rv := rv) (rest := rest) (a := (Value.ref b :: As).toArray) (va_runV (n := n) (b := b) (As := As) ⟨hx, hb, hml, hown, hts⟩ hC ⟨callB_of n hts (kGood hM.1) rfl rfl rfl (hts _ hM.2.1) (hts _ hlk) hd hR, hts _ hM.2.2.1, hts _ hM.2.2.2⟩ ⟨kPc_blind, ⟨cell, g1, by rw [g3]; rfl, by rw [g2]; exact hcls.1⟩, fun U hU hW => kpre hX hK hZ U hU hW⟩ rfl hn hl hst (lv_room hrest) hdg hf) hX hs1 kk
theorem kcallVN {y : MethodName} {bytes : ByteArray} {maxL nL mc ms n index fr lo k N : Nat} {ret : Option FieldType} {C : String} {T : u_T} {r : Option Nat} {b : Nat} {rv : Option Value} {w' : kW} (As rest st1 : List Value) {st0 : List Value}
    (hC : kC l D aC y bytes maxL ret fr lo (.ref b :: As) w rv w' mc ms) (hr : r = some b) (hk : kKd w b = k) (F : kFx p c cc s args own m D aC) (hml : c.maxLocals = nL) (hX : kX D aC w0 s.heap w H locs) (hZ : kZ w0 s) (hl : ls.size = nL)
    (hM : kMV C y bytes maxL ret) (hlk : Cond.methodLinkNest own index y "KitchenCards" ∈ kNs) (hc : vwCl[k]? = some (C, T, N)) (hk13 : k < 13) (hd : y.cls ≠ "java/lang/invoke/MethodHandle" ∧ y.cls ≠ "java/lang/invoke/VarHandle" ∧ (parseMethodDescriptor y.desc).map (fun d => d.parameters.length) = some n) (hR : fr + 1 ≤ R.frames ∧ 8 + (maxL + 11) + lo ≤ R.locals)
    (hst : st0 = As.reverse ++ va_rf r :: rest) (hn : As.length = n) (hs1 : rv.toList ++ rest = st1) (hrest : (rest.map fun v => v.category).sum ≤ 8) (hdg : decode cc pc = .ok (.invokevirtual index, 3)) (hf : cells + mc ≤ R.cells ∧ slots + ms ≤ R.slots)
    (kk : ∀ (H1 : Heap) (locs1 : List Loc), kX D aC w0 s.heap w' H1 locs1 → W p l e R s m args below meth c H1 locs1 (cells + mc) (slots + ms) Q (F0 m (pc + 3) ls st1)) : W p l e R s m args below meth c H locs cells slots Q (F0 m pc ls st0) := by
  subst hr
  obtain ⟨hx, hb, hts, hown, hK⟩ := id F
  obtain ⟨cell, g1, g3, g2, hcls⟩ := kcls hK hX hk hk13 hc
  refine kgoes (w' := w') (rv := rv) (rest := rest) (a := (Value.ref b :: As).toArray) (va_runVN (n := n) (b := b) (As := As) ⟨hx, hb, hml, hown, hts⟩ hC ⟨va_cnB n hts (kGood hM.1) rfl rfl rfl (hZ.1 _ hlk) (hts _ hM.2.1) hd hR, hts _ hM.2.2.1, hts _ hM.2.2.2⟩ ⟨kPc_blind, ⟨cell, g1, by rw [g3]; rfl, by rw [g2]; exact hcls.1⟩, fun U hU hW => kpre hX hK hZ U hU hW⟩ rfl hn hl hst (lv_room hrest) hdg hf) hX hs1 kk
theorem kcallS {y : MethodName} {bytes : ByteArray} {maxL nL mc ms n index fr lo : Nat} {ret : Option FieldType} {rv : Option Value} {w' : kW} (As rest st1 : List Value) {st0 : List Value}
    (hC : kC l D aC y bytes maxL ret fr lo As w rv w' mc ms) (F : kFx p c cc s args own m D aC) (hml : c.maxLocals = nL) (hX : kX D aC w0 s.heap w H locs) (hZ : kZ w0 s) (hl : ls.size = nL)
    (hM : kMS y bytes maxL ret) (hlk : Cond.methodLink own index y ∈ kT) (hd : y.cls ≠ "java/lang/invoke/MethodHandle" ∧ y.cls ≠ "java/lang/invoke/VarHandle" ∧ (parseMethodDescriptor y.desc).map (fun d => d.parameters.length) = some n) (hR : fr + 1 ≤ R.frames ∧ 8 + (maxL + 11) + lo ≤ R.locals)
    (hst : st0 = As.reverse ++ rest) (hn : As.length = n) (hs1 : rv.toList ++ rest = st1) (hrest : (rest.map fun v => v.category).sum ≤ 8) (hdg : decode cc pc = .ok (.invokestatic index, 3)) (hf : cells + mc ≤ R.cells ∧ slots + ms ≤ R.slots)
    (kk : ∀ (H1 : Heap) (locs1 : List Loc), kX D aC w0 s.heap w' H1 locs1 → W p l e R s m args below meth c H1 locs1 (cells + mc) (slots + ms) Q (F0 m (pc + 3) ls st1)) : W p l e R s m args below meth c H locs cells slots Q (F0 m pc ls st0) := by
  obtain ⟨hx, hb, hts, hown, hK⟩ := id F
  refine kgoes (w' := w') (rv := rv) (rest := rest) (a := As.toArray) (va_runS (n := n) (As := As) ⟨hx, hb, hml, hown, hts⟩ hC ⟨callB_of n hts (kGood hM.1) rfl rfl rfl (hts _ hM.2.1) (hts _ hlk) hd hR, hts _ hM.2.2⟩ ⟨kPc_blind, fun U hU hW => kpre hX hK hZ U hU hW⟩ rfl hn hl hst (lv_room hrest) hdg hf) hX hs1 kk
theorem kcallSN {y : MethodName} {bytes : ByteArray} {maxL nL mc ms n index fr lo : Nat} {ret : Option FieldType} {rv : Option Value} {w' : kW} (As rest st1 : List Value) {st0 : List Value}
    (hC : kC l D aC y bytes maxL ret fr lo As w rv w' mc ms) (F : kFx p c cc s args own m D aC) (hml : c.maxLocals = nL) (hX : kX D aC w0 s.heap w H locs) (hZ : kZ w0 s) (hl : ls.size = nL)
    (hM : kMS y bytes maxL ret) (hlk : Cond.methodLinkNest own index y "KitchenCards" ∈ kNs) (hd : y.cls ≠ "java/lang/invoke/MethodHandle" ∧ y.cls ≠ "java/lang/invoke/VarHandle" ∧ (parseMethodDescriptor y.desc).map (fun d => d.parameters.length) = some n) (hR : fr + 1 ≤ R.frames ∧ 8 + (maxL + 11) + lo ≤ R.locals)
    (hst : st0 = As.reverse ++ rest) (hn : As.length = n) (hs1 : rv.toList ++ rest = st1) (hrest : (rest.map fun v => v.category).sum ≤ 8) (hdg : decode cc pc = .ok (.invokestatic index, 3)) (hf : cells + mc ≤ R.cells ∧ slots + ms ≤ R.slots)
    (kk : ∀ (H1 : Heap) (locs1 : List Loc), kX D aC w0 s.heap w' H1 locs1 → W p l e R s m args below meth c H1 locs1 (cells + mc) (slots + ms) Q (F0 m (pc + 3) ls st1)) : W p l e R s m args below meth c H locs cells slots Q (F0 m pc ls st0) := by
  obtain ⟨hx, hb, hts, hown, hK⟩ := id F
  refine kgoes (w' := w') (rv := rv) (rest := rest) (a := As.toArray) (va_runSN (n := n) (As := As) ⟨hx, hb, hml, hown, hts⟩ hC ⟨va_cnB n hts (kGood hM.1) rfl rfl rfl (hZ.1 _ hlk) (hts _ hM.2.1) hd hR, hts _ hM.2.2, trivial⟩ ⟨kPc_blind, fun U hU hW => kpre hX hK hZ U hU hW⟩ rfl hn hl hst (lv_room hrest) hdg hf) hX hs1 kk
theorem kcallI {y : MethodName} {bytes : ByteArray} {maxL nL mc ms n index fr lo b : Nat} {rv : Option Value} {w' : kW} (As rest st1 : List Value) {st0 : List Value}
    (hC : kC l D aC y bytes maxL none fr lo (.ref b :: As) w rv w' mc ms) (F : kFx p c cc s args own m D aC) (hml : c.maxLocals = nL) (hX : kX D aC w0 s.heap w H locs) (hZ : kZ w0 s) (hl : ls.size = nL)
    (hM : kMI y bytes maxL) (hlk : Cond.methodLink own index y ∈ kT) (hy1 : y.name = "<init>") (hd : y.cls ≠ "java/lang/invoke/MethodHandle" ∧ y.cls ≠ "java/lang/invoke/VarHandle" ∧ (parseMethodDescriptor y.desc).map (fun d => d.parameters.length) = some n) (hR : fr + 1 ≤ R.frames ∧ 8 + (maxL + 11) + lo ≤ R.locals)
    (hst : st0 = As.reverse ++ .ref b :: rest) (hn : As.length = n) (hs1 : rv.toList ++ rest = st1) (hrest : (rest.map fun v => v.category).sum ≤ 8) (hdg : decode cc pc = .ok (.invokespecial index, 3)) (hf : cells + mc ≤ R.cells ∧ slots + ms ≤ R.slots)
    (kk : ∀ (H1 : Heap) (locs1 : List Loc), kX D aC w0 s.heap w' H1 locs1 → W p l e R s m args below meth c H1 locs1 (cells + mc) (slots + ms) Q (F0 m (pc + 3) ls st1)) : W p l e R s m args below meth c H locs cells slots Q (F0 m pc ls st0) := by
  obtain ⟨hx, hb, hts, hown, hK⟩ := id F
  refine kgoes (w' := w') (rv := rv) (rest := rest) (a := (Value.ref b :: As).toArray) (va_runI (n := n) (b := b) (As := As) ⟨hx, hb, hml, hown, hts⟩ hC ⟨callB_of n hts (kGood hM.1) rfl rfl rfl (hts _ hM.2.1) (hts _ hlk) hd hR, hy1, hts _ hM.2.2⟩ ⟨kPc_blind, fun U hU hW => kpre hX hK hZ U hU hW⟩ rfl hn hl hst (lv_room hrest) hdg hf) hX hs1 kk
theorem kcallIN {y : MethodName} {bytes : ByteArray} {maxL nL mc ms n index fr lo b : Nat} {rv : Option Value} {w' : kW} (As rest st1 : List Value) {st0 : List Value}
    (hC : kC l D aC y bytes maxL none fr lo (.ref b :: As) w rv w' mc ms) (F : kFx p c cc s args own m D aC) (hml : c.maxLocals = nL) (hX : kX D aC w0 s.heap w H locs) (hZ : kZ w0 s) (hl : ls.size = nL)
    (hM : kMI y bytes maxL) (hlk : Cond.methodLinkNest own index y "KitchenCards" ∈ kNs) (hy1 : y.name = "<init>") (hd : y.cls ≠ "java/lang/invoke/MethodHandle" ∧ y.cls ≠ "java/lang/invoke/VarHandle" ∧ (parseMethodDescriptor y.desc).map (fun d => d.parameters.length) = some n) (hR : fr + 1 ≤ R.frames ∧ 8 + (maxL + 11) + lo ≤ R.locals)
    (hst : st0 = As.reverse ++ .ref b :: rest) (hn : As.length = n) (hs1 : rv.toList ++ rest = st1) (hrest : (rest.map fun v => v.category).sum ≤ 8) (hdg : decode cc pc = .ok (.invokespecial index, 3)) (hf : cells + mc ≤ R.cells ∧ slots + ms ≤ R.slots)
    (kk : ∀ (H1 : Heap) (locs1 : List Loc), kX D aC w0 s.heap w' H1 locs1 → W p l e R s m args below meth c H1 locs1 (cells + mc) (slots + ms) Q (F0 m (pc + 3) ls st1)) : W p l e R s m args below meth c H locs cells slots Q (F0 m pc ls st0) := by
  obtain ⟨hx, hb, hts, hown, hK⟩ := id F
  refine kgoes (w' := w') (rv := rv) (rest := rest) (a := (Value.ref b :: As).toArray) (va_runIN (n := n) (b := b) (As := As) ⟨hx, hb, hml, hown, hts⟩ hC ⟨va_cnB n hts (kGood hM.1) rfl rfl rfl (hZ.1 _ hlk) (hts _ hM.2.1) hd hR, hy1, hts _ hM.2.2⟩ ⟨kPc_blind, fun U hU hW => kpre hX hK hZ U hU hW⟩ rfl hn hl hst (lv_room hrest) hdg hf) hX hs1 kk
/-! ends -/
theorem kiret {w' : kW} {v : Int32} (F : kFx p c cc s args own m D aC) (hX : kX D aC w0 s.heap w H locs) (hr : meth.sig.returnType = some .int) (hlocks : meth.locks = false) (hw : w = w') (hdg : decode cc pc = .ok (.ireturn, 1)) : W p l e R s m args below meth c H locs cells slots (MQ below (kQc D aC w0 (some (.int v)) w') args s cells slots (kA w0)) (F0 m pc ls [.int v]) :=
  W.iret F.1 F.2.1 hr (fun t ht _ => ⟨⟨rfl, by rw [ht, ← hw]; exact hX.1, by rw [← hw]; exact hX.2.2.1⟩, hX.2.1.F ht⟩) hX.2.1.2.2 hdg hlocks
theorem kzret {w' : kW} {v : Int32} (F : kFx p c cc s args own m D aC) (hX : kX D aC w0 s.heap w H locs) (hr : meth.sig.returnType = some .boolean) (hlocks : meth.locks = false) (hn : kBl v = some v) (hw : w = w') (hdg : decode cc pc = .ok (.ireturn, 1)) : W p l e R s m args below meth c H locs cells slots (MQ below (kQc D aC w0 (some (.int v)) w') args s cells slots (kA w0)) (F0 m pc ls [.int v]) := by
  have h1 : v = 0 ∨ v = 1 := by
    unfold kBl at hn
    by_cases e0 : v = 0
    · exact Or.inl e0
    · by_cases e1 : v = 1
      · exact Or.inr e1
      · rw [if_neg e0, if_neg e1] at hn; cases hn
  exact W.zret F.1 F.2.1 hr (by rcases h1 with rfl | rfl <;> rfl) (fun t ht _ => ⟨⟨rfl, by rw [ht, ← hw]; exact hX.1, by rw [← hw]; exact hX.2.2.1⟩, hX.2.1.F ht⟩) hX.2.1.2.2 hdg hlocks
theorem klret {w' : kW} {v : Int64} (F : kFx p c cc s args own m D aC) (hX : kX D aC w0 s.heap w H locs) (hr : meth.sig.returnType = some .long) (hlocks : meth.locks = false) (hw : w = w') (hdg : decode cc pc = .ok (.lreturn, 1)) : W p l e R s m args below meth c H locs cells slots (MQ below (kQc D aC w0 (some (.long v)) w') args s cells slots (kA w0)) (F0 m pc ls [.long v]) :=
  W.lret F.1 F.2.1 hr (fun t ht _ => ⟨⟨rfl, by rw [ht, ← hw]; exact hX.1, by rw [← hw]; exact hX.2.2.1⟩, hX.2.1.F ht⟩) hX.2.1.2.2 hdg hlocks
theorem karet {w' : kW} {v : Option Nat} {C : String} (F : kFx p c cc s args own m D aC) (hX : kX D aC w0 s.heap w H locs) (hr : meth.sig.returnType = some (.object C)) (hlocks : meth.locks = false) (hw : w = w') (hdg : decode cc pc = .ok (.areturn, 1)) : W p l e R s m args below meth c H locs cells slots (MQ below (kQc D aC w0 (some (va_rf v)) w') args s cells slots (kA w0)) (F0 m pc ls [va_rf v]) :=
  W.aret F.1 F.2.1 hr (Or.inl ⟨C, rfl⟩) (by cases v with | none => exact Or.inl rfl | some a => exact Or.inr ⟨a, rfl⟩) (fun t ht _ => ⟨⟨rfl, by rw [ht, ← hw]; exact hX.1, by rw [← hw]; exact hX.2.2.1⟩, hX.2.1.F ht⟩) hX.2.1.2.2 hdg hlocks
theorem kvret {w' : kW} (F : kFx p c cc s args own m D aC) (hX : kX D aC w0 s.heap w H locs) (hr : meth.sig.returnType = none) (hlocks : meth.locks = false) (hw : w = w') (hdg : decode cc pc = .ok (.return_, 1)) : W p l e R s m args below meth c H locs cells slots (MQ below (kQc D aC w0 none w') args s cells slots (kA w0)) (F0 m pc ls []) :=
  W.vret F.1 F.2.1 hr (fun t ht _ => ⟨⟨rfl, by rw [ht, ← hw]; exact hX.1, by rw [← hw]; exact hX.2.2.1⟩, hX.2.1.F ht⟩) hX.2.1.2.2 hdg hlocks
theorem kaload_n {k : Fin 4} {i : Nat} {r : Option Nat} {rest : List Value} (hexec : p.tables.exec = Jvm.exec) (hb : c.code = cc) (hdg : decode cc pc = .ok (.aload_n k, 1)) (hi : (k : Nat) = i) (hl : ls[i]? = some (.val (va_rf r)))
    (kk : W p l e R s m args below meth c H locs cells slots Q (F0 m (pc + 1) ls (va_rf r :: rest))) : W p l e R s m args below meth c H locs cells slots Q (F0 m pc ls rest) := by
  cases r with
  | none => exact lv_aload_nN hexec hb hdg hi hl kk
  | some a => exact lv_aload_n hexec hb hdg hi hl kk
theorem kaload {i : Nat} {r : Option Nat} {rest : List Value} (hexec : p.tables.exec = Jvm.exec) (hb : c.code = cc) (hdg : decode cc pc = .ok (.aload i, 2)) (hl : ls[i]? = some (.val (va_rf r)))
    (kk : W p l e R s m args below meth c H locs cells slots Q (F0 m (pc + 2) ls (va_rf r :: rest))) : W p l e R s m args below meth c H locs cells slots Q (F0 m pc ls rest) := by
  cases r with
  | none => exact lv_aloadN hexec hb hdg hl kk
  | some a => exact lv_aload hexec hb hdg hl kk
theorem kastore_n {k : Fin 4} {i nL : Nat} {r : Option Nat} {rest : List Value} {lv lv' : List (Nat × Value)} (hexec : p.tables.exec = Jvm.exec) (hb : c.code = cc) (hdg : decode cc pc = .ok (.astore_n k, 1)) (hi : (k : Nat) = i) (h : lv_has ls nL lv) (hn : i < nL) (hl : (i, va_rf r) :: lv.filter (fun q => !(q.1 == i) && !(q.1 + 1 == i && q.2.category == 2)) = lv')
    (kk : ∀ ls' : Array Slot, lv_has ls' nL lv' → W p l e R s m args below meth c H locs cells slots Q (F0 m (pc + 1) ls' rest)) : W p l e R s m args below meth c H locs cells slots Q (F0 m pc ls (va_rf r :: rest)) := by
  cases r with
  | none => exact lv_astore_nN hexec hb hdg hi h hn hl kk
  | some a => exact lv_astore_n hexec hb hdg hi h hn hl kk
theorem kastore {i nL : Nat} {r : Option Nat} {rest : List Value} {lv lv' : List (Nat × Value)} (hexec : p.tables.exec = Jvm.exec) (hb : c.code = cc) (hdg : decode cc pc = .ok (.astore i, 2)) (h : lv_has ls nL lv) (hn : i < nL) (hl : (i, va_rf r) :: lv.filter (fun q => !(q.1 == i) && !(q.1 + 1 == i && q.2.category == 2)) = lv')
    (kk : ∀ ls' : Array Slot, lv_has ls' nL lv' → W p l e R s m args below meth c H locs cells slots Q (F0 m (pc + 2) ls' rest)) : W p l e R s m args below meth c H locs cells slots Q (F0 m pc ls (va_rf r :: rest)) := by
  cases r with
  | none => exact lv_astoreN hexec hb hdg h hn hl kk
  | some a => exact lv_astore hexec hb hdg h hn hl kk
theorem kifnull {r : Option Nat} {rest : List Value} {off : Int} {tgt : Nat} (hexec : p.tables.exec = Jvm.exec) (hb : c.code = cc) (hdg : decode cc pc = .ok (.ifnull off, 3)) (ht : (pc : Int) + off = (tgt : Int))
    (kt : r = none → W p l e R s m args below meth c H locs cells slots Q (F0 m tgt ls rest)) (kf : ¬ r = none → W p l e R s m args below meth c H locs cells slots Q (F0 m (pc + 3) ls rest)) : W p l e R s m args below meth c H locs cells slots Q (F0 m pc ls (va_rf r :: rest)) := by
  cases r with
  | none => exact lv_ifnullN hexec hb hdg ht (kt rfl)
  | some a => exact lv_ifnull hexec hb hdg (kf (fun q => by cases q))
theorem kifnonnull {r : Option Nat} {rest : List Value} {off : Int} {tgt : Nat} (hexec : p.tables.exec = Jvm.exec) (hb : c.code = cc) (hdg : decode cc pc = .ok (.ifnonnull off, 3)) (ht : (pc : Int) + off = (tgt : Int))
    (kt : r = none → W p l e R s m args below meth c H locs cells slots Q (F0 m (pc + 3) ls rest)) (kf : ¬ r = none → W p l e R s m args below meth c H locs cells slots Q (F0 m tgt ls rest)) : W p l e R s m args below meth c H locs cells slots Q (F0 m pc ls (va_rf r :: rest)) := by
  cases r with
  | none => exact lv_ifnonnullN hexec hb hdg (kt rfl)
  | some a => exact lv_ifnonnull hexec hb hdg ht (kf (fun q => by cases q))
end VKC
theorem kif_pos {α : Type} {c : Prop} [Decidable c] {A B : Option α} {o : α} (hc : c) (h : (if c then A else B) = some o) : A = some o := by rw [if_pos hc] at h; exact h
theorem kif_neg {α : Type} {c : Prop} [Decidable c] {A B : Option α} {o : α} (hc : ¬ c) (h : (if c then A else B) = some o) : B = some o := by rw [if_neg hc] at h; exact h
theorem kbind {α β : Type} {o : Option α} {f : α → Option β} {b : β} (h : o.bind f = some b) : ∃ a, o = some a ∧ f a = some b := Option.bind_eq_some_iff.mp h
def kb2 {α β γ : Type} (o : Option (α × β)) (f : α → β → Option γ) : Option γ := o.bind fun q => f q.1 q.2
theorem kbind2 {α β γ : Type} {o : Option (α × β)} {f : α → β → Option γ} {b : γ} (h : kb2 o f = some b) : ∃ a c, o = some (a, c) ∧ f a c = some b := by
  obtain ⟨⟨a, c⟩, h1, h2⟩ := Option.bind_eq_some_iff.mp h
  exact ⟨a, c, h1, h2⟩
theorem kb2_some {α β γ : Type} {f : α → β → Option γ} {a : α} {c : β} : kb2 (some (a, c)) f = f a c := rfl
/-- a receiver of a class -/
def kRc (w : kW) (k : Nat) (r : Option Nat) : Option Nat := r.bind fun a => if kKd w a = k then some a else none
theorem kRc_s {w : kW} {k b : Nat} {r : Option Nat} (h : kRc w k r = some b) : r = some b ∧ kKd w b = k := by
  unfold kRc at h
  cases r with
  | none => cases h
  | some a =>
    rw [Option.bind_some] at h
    by_cases e : kKd w a = k
    · rw [if_pos e] at h; cases h; exact ⟨rfl, e⟩
    · rw [if_neg e] at h; cases h
/-- the turns that a loop may take at most -/
def kFU : Nat := 100000
theorem kBl_e {x v : Int32} (h : kBl x = some v) : x = v := by
  unfold kBl at h
  by_cases e0 : x = 0
  · rw [if_pos e0] at h; cases h; exact e0
  · rw [if_neg e0] at h
    by_cases e1 : x = 1
    · rw [if_pos e1] at h; cases h; exact e1
    · rw [if_neg e1] at h; cases h
theorem kBl_n {x v : Int32} (h : kBl x = some v) : narrow .boolean (.int x) = .int x := by
  unfold kBl at h
  by_cases e0 : x = 0
  · rw [e0]; rfl
  · by_cases e1 : x = 1
    · rw [e1]; rfl
    · rw [if_neg e0, if_neg e1] at h; cases h
theorem kBl_f {x v : Int32} (h : kBl x = some v) : fits .boolean (.int x) = true := by
  unfold kBl at h
  by_cases e0 : x = 0
  · rw [e0]; rfl
  · by_cases e1 : x = 1
    · rw [e1]; rfl
    · rw [if_neg e0, if_neg e1] at h; cases h
theorem kcat_rf (r : Option Nat) : (va_rf r).category = 1 := by cases r <;> rfl
def kMmin (x y : Int32) : Int32 := if y < x then y else x
def kMmax (x y : Int32) : Int32 := if x < y then y else x
/-- a method's code, read whole once -/
def kDec (cc : ByteArray) (t : List (Nat × Instr × Nat)) : Bool := t.all fun q => decide (decode cc q.1 = .ok (q.2.1, q.2.2))
theorem kd {cc : ByteArray} {t : List (Nat × Instr × Nat)} (h : kDec cc t = true) (k : Nat) {pc : Nat} {i : Instr} {n : Nat} (hk : t[k]? = some (pc, i, n)) : decode cc pc = .ok (i, n) :=
by
  unfold kDec at h
  have h1 := List.all_eq_true.mp h (pc, i, n) (List.mem_of_getElem? hk)
  have h2 : decode cc (pc, i, n).1 = .ok ((pc, i, n).2.1, (pc, i, n).2.2) := of_decide_eq_true h1
  exact h2
theorem kSubT (ws : List Cond) (ps : List Nat) (h : ws = ps.filterMap (fun i => lw_tbl[i]?)) (hg : ws.all goodWord = true) : ∀ u ∈ ws, u ∈ kT := by
  intro u hu
  have h1 := List.all_eq_true.mp hg u hu
  rw [h] at hu
  obtain ⟨i, -, hi⟩ := List.mem_filterMap.mp hu
  exact kTm i hi h1
set_option maxHeartbeats 4000000 in
set_option maxRecDepth 100000 in
theorem hinX0 : ∀ u ∈ u_ws RX0 TX0 3, u ∈ kT := kSubT _ [1053, 1055, 1057] (by decide +kernel) (by decide +kernel)
set_option maxHeartbeats 4000000 in
set_option maxRecDepth 100000 in
theorem hinX1 : ∀ u ∈ u_ws RX1 TX1 8, u ∈ kT := kSubT _ [205, 207, 209, 211, 213, 215, 217, 219] (by decide +kernel) (by decide +kernel)
set_option maxHeartbeats 4000000 in
set_option maxRecDepth 100000 in
theorem hinX2 : ∀ u ∈ u_ws RX2 TX2 5, u ∈ kT := kSubT _ [228, 230, 232, 234, 236] (by decide +kernel) (by decide +kernel)
set_option maxHeartbeats 4000000 in
set_option maxRecDepth 100000 in
theorem hinX3 : ∀ u ∈ u_ws RX3 TX3 9, u ∈ kT := kSubT _ [406, 408, 410, 412, 414, 416, 418, 420, 422] (by decide +kernel) (by decide +kernel)
set_option maxHeartbeats 4000000 in
set_option maxRecDepth 100000 in
theorem hinX4 : ∀ u ∈ u_ws RX4 TX4 2, u ∈ kT := kSubT _ [267, 269] (by decide +kernel) (by decide +kernel)
set_option maxHeartbeats 4000000 in
set_option maxRecDepth 100000 in
theorem hinX5 : ∀ u ∈ u_ws RX5 TX5 19, u ∈ kT := kSubT _ [345, 347, 349, 351, 353, 355, 357, 359, 361, 363, 365, 367, 369, 371, 373, 375, 377, 379, 381] (by decide +kernel) (by decide +kernel)
set_option maxHeartbeats 4000000 in
set_option maxRecDepth 100000 in
theorem hinX6 : ∀ u ∈ u_ws RX6 TX6 4, u ∈ kT := kSubT _ [438, 440, 442, 444] (by decide +kernel) (by decide +kernel)
set_option maxHeartbeats 4000000 in
set_option maxRecDepth 100000 in
theorem hinX7 : ∀ u ∈ u_ws RX7 TX7 2, u ∈ kT := kSubT _ [304, 306] (by decide +kernel) (by decide +kernel)
set_option maxHeartbeats 4000000 in
set_option maxRecDepth 100000 in
theorem hinX8 : ∀ u ∈ u_ws RX8 TX8 10, u ∈ kT := kSubT _ [149, 151, 153, 155, 157, 159, 161, 163, 165, 167] (by decide +kernel) (by decide +kernel)
set_option maxHeartbeats 4000000 in
set_option maxRecDepth 100000 in
theorem hinX9 : ∀ u ∈ u_ws RX9 TX9 4, u ∈ kT := kSubT _ [285, 287, 289, 291] (by decide +kernel) (by decide +kernel)
set_option maxHeartbeats 4000000 in
set_option maxRecDepth 100000 in
theorem hinX10 : ∀ u ∈ u_ws RX10 TX10 4, u ∈ kT := kSubT _ [250, 252, 254, 256] (by decide +kernel) (by decide +kernel)
set_option maxHeartbeats 4000000 in
set_option maxRecDepth 100000 in
theorem hinX11 : ∀ u ∈ u_ws RX11 TX11 14, u ∈ kT := kSubT _ [466, 468, 470, 472, 474, 476, 478, 480, 482, 484, 486, 488, 490, 492] (by decide +kernel) (by decide +kernel)
set_option maxHeartbeats 4000000 in
set_option maxRecDepth 100000 in
theorem hinX12 : ∀ u ∈ u_ws RX12 TX12 41, u ∈ kT := kSubT _ [1275, 1277, 1279, 1281, 1283, 1285, 1287, 1289, 1291, 1293, 1295, 1297, 1299, 1301, 1303, 1305, 1307, 1309, 1311, 1313, 1315, 1317, 1319, 1321, 1323, 1325, 1327, 1329, 1331, 1333, 1335, 1337, 1339, 1341, 1343, 1345, 1347, 1349, 1351, 1353, 1355] (by decide +kernel) (by decide +kernel)
theorem kcat_i (x : Int32) : (Value.int x).category = 1 := rfl
theorem kcat_r (a : Nat) : (Value.ref a).category = 1 := rfl
theorem kcat_l (x : Int64) : (Value.long x).category = 2 := rfl
