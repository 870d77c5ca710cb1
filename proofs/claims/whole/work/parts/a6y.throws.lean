/-! THROWS: what a method that throws leaves; what its throw stands on -/
def kSk (w : kW) (n : Nat) : kW := kMk (kKd w) (kLn w) (kI w) (kP w) (kJ w) n
theorem kH_sk {D : va_G} {aC : Nat → ClassId} {w : kW} {n : Nat} {H H1 : Heap} (h : kH D aC w H) (hz : H1.size = n) (hq : ∀ q : Nat, q < H.size → H1[q]? = H[q]?) : kH D aC (kSk w n) H1 := by
  refine ⟨hz, fun a => ?_⟩
  by_cases c : kKd w a < 19
  · exact kAt_congr rfl rfl rfl rfl rfl (hq a ((h.2 a).lt c)) (h.2 a)
  · exact ⟨fun z => absurd (show kKd w a < 13 from z) (by omega), fun _ z => absurd z c⟩
theorem kExt.sk {w0 w : kW} {n : Nat} (h : kExt w0 w) (hn : kSz w ≤ n) : kExt w0 (kSk w n) := ⟨Nat.le_trans h.1 hn, h.2⟩
def kXc (D : va_G) (aC : Nat → ClassId) (w : kW) (E0 : String) : String → State → State → Prop := fun E st t => E = E0 ∧ (∃ n, kSz w ≤ n ∧ kH D aC (kSk w n) t.heap) ∧ va_F (kA w) st t
def kQn (D : va_G) (aC : Nat → ClassId) (w w2 : kW) (rv : Option Value) : Array Value → State → Outcome → State → Prop := fun _ st oc t => (oc = .returned rv ∧ ∃ n, kSz w2 ≤ n ∧ kH D aC (kSk w2 n) t.heap) ∧ va_F (kA w) st t
def xISE : String := "java/lang/IllegalStateException"
def xIAE : String := "java/lang/IllegalArgumentException"
def kIsX : Cond → Bool := fun u => match u with
  | .castable _ _ => true
  | .declares _ => true
  | _ => false
def kEx (A : Nat → Prop) (U : State) : Prop := (vx_Zq Bundle.tN "UNASSIGNED_STACK" Bundle.steD A U U.heap ∧ vx_Zq Bundle.tN "SUPPRESSED_SENTINEL" Bundle.listD A U U.heap) ∧ ((∃ a, vk_R RX0 43 "the card failed" a U) ∧ (∃ a, vk_R RX11 315 "no such shelf" a U) ∧ ∃ a, vk_R RX11 325 "no row or no such place" a U) ∧ va_Nc xISE xIAE U ∧ ∀ u ∈ lw_tbl, kIsX u = true → va_Nw u U
theorem kEx.at {w0 w : kW} {s U : State} {H : Heap} {locs : List Loc} (h : kEx (kA w0) s) (hS : va_S (kA w0) s.heap H locs) (he : kExt w0 w) (hU : U.heap = H) (hW : s.WarmedH U.vm) : kEx (kA w) U := by
  obtain ⟨⟨h1, h2⟩, ⟨⟨a1, r1⟩, ⟨a2, r2⟩, a3, r3⟩, h3, h4⟩ := h
  refine ⟨⟨?_, ?_⟩, ⟨⟨a1, vk_R.warm hW r1⟩, ⟨a2, vk_R.warm hW r2⟩, a3, vk_R.warm hW r3⟩, h3.moved hW.alike, fun u hu hx => ?_⟩
  · rw [hU]; exact ((h1.kept hS.2.1).moved hW.alike).narrow he.A
  · rw [hU]; exact ((h2.kept hS.2.1).moved hW.alike).narrow he.A
  · have g1 := h4 u hu hx
    cases u <;> first | (cases hx; done) | exact va_Nw.warmC hW g1 | exact va_Nw.warmD hW g1
theorem kEx.same {A : Nat → Prop} {s U : State} (hv : U.vm = s.vm) (hh : U.heap = s.heap) (h : kEx A s) : kEx A U := by
  obtain ⟨⟨h1, h2⟩, ⟨⟨a1, r1⟩, ⟨a2, r2⟩, a3, r3⟩, h3, h4⟩ := h
  have al : s.vm.Alike U.vm := by rw [hv]; exact Vm.Alike.refl s.vm
  refine ⟨⟨by rw [hh]; exact h1.moved al, by rw [hh]; exact h2.moved al⟩, ⟨⟨a1, vk_R.same hv r1⟩, ⟨a2, vk_R.same hv r2⟩, a3, vk_R.same hv r3⟩, h3.moved al, fun u hu hx => ?_⟩
  have g1 := h4 u hu hx
  cases u <;> first | (cases hx; done) | exact va_Nw.same rfl hv.symm g1
def kPx (D : va_G) (aC : Nat → ClassId) (as : List Value) (w : kW) : Array Value → State → Prop := fun a U => kPc D aC as w a U ∧ kEx (kA w) U
theorem kPx_blind {D : va_G} {aC : Nat → ClassId} {as : List Value} {w : kW} : FrameBlind (kPx D aC as w) := by
  intro a U g mk h
  exact ⟨kPc_blind a U g mk h.1, kEx.same (s := U) (U := U.calling g mk a) rfl rfl h.2⟩
/-- a contract of a method without handlers that may throw -/
theorem kOfX {l : Launch} {D : va_G} {aC : Nat → ClassId} {y : MethodName} {own : String} {fr lo : Nat} {as : List Value} {w : kW} {mc ms : Nat} {cc : ByteArray} {maxL : Nat} {ret : Option FieldType} {Qc : Array Value → State → Outcome → State → Prop} {XC : String → State → State → Prop}
    (hy : plainName y.cls = true) (hown : y.cls = own) (hlen : (lg_sl as).length ≤ maxL)
    (body : ∀ (p : Program) (e : Env) (s : State) (m : MethodId) (below : List Frame) (meth : Method) (c : Code) (ls : Array Slot), kFx p c cc s as.toArray own m D aC → c.maxLocals = maxL → (∀ x ∈ c.exceptionTable.toList, False) → meth.sig.returnType = ret → meth.locks = false → kX D aC w s.heap w s.heap [] → kZ w s → kEx (kA w) s → lv_has ls maxL (lv_args 0 as) →
      W p l e { frames := fr, cells := mc, slots := ms, locals := lo } s m as.toArray below meth c s.heap [] 0 0 (vx_MQ below Qc XC as.toArray s mc ms (kA w)) (F0 m 0 ls [])) : vx_Met l y (Cond.code y cc maxL ret :: kT) { frames := fr, cells := mc, slots := ms, locals := lo } (kPx D aC as w) Qc XC mc ms (kA w) := by
  refine vx_ofW (cc := cc) (maxL := maxL) (ret := ret) hy rfl ?_
  intro p e s m args below meth c s₁ B hml ht hv
  obtain ⟨⟨rfl, hH, hK, hZ⟩, hE⟩ := hv
  have hts := atoms_spec (ws := Cond.code y cc maxL ret :: kT) B.pre
  have ho : s.vm.findClass own = some m.cls := hown ▸ findClass_of_methodNamed B.named
  have hl := lv_entry as (n := maxL) hlen
  rw [lg_entry_eq]
  exact body p e s m below meth c _ ⟨B.exec, B.bytes, fun u hu => hts u (List.mem_cons_of_mem _ hu), ho, hK⟩ hml ht B.returns B.notSynchronized ⟨hH, va_S.rf, kExt.rf w, hH.1⟩ hZ hE hl
/-- .. with handlers -/
theorem kOfH {l : Launch} {D : va_G} {aC : Nat → ClassId} {y : MethodName} {own : String} {fr lo : Nat} {as : List Value} {w : kW} {mc ms : Nat} {cc : ByteArray} {maxL : Nat} {ret : Option FieldType} {hh : List (Nat × Nat × Nat × Nat)} {Qc : Array Value → State → Outcome → State → Prop} {XC : String → State → State → Prop}
    (hy : plainName y.cls = true) (hown : y.cls = own) (hlen : (lg_sl as).length ≤ maxL)
    (body : ∀ (p : Program) (e : Env) (s : State) (m : MethodId) (below : List Frame) (meth : Method) (c : Code) (ls : Array Slot), kFx p c cc s as.toArray own m D aC → c.maxLocals = maxL → c.exceptionTable.toList = tableOf hh → meth.sig.returnType = ret → meth.locks = false → kX D aC w s.heap w s.heap [] → kZ w s → kEx (kA w) s → lv_has ls maxL (lv_args 0 as) →
      W p l e { frames := fr, cells := mc, slots := ms, locals := lo } s m as.toArray below meth c s.heap [] 0 0 (vx_MQ below Qc XC as.toArray s mc ms (kA w)) (F0 m 0 ls [])) : vx_Met l y (Cond.codeWith y cc maxL ret hh :: kT) { frames := fr, cells := mc, slots := ms, locals := lo } (kPx D aC as w) Qc XC mc ms (kA w) := by
  refine vx_ofWH (cc := cc) (maxL := maxL) (ret := ret) (hh := hh) hy rfl ?_
  intro p e s m args below meth c s₁ B hml hv
  obtain ⟨⟨rfl, hH, hK, hZ⟩, hE⟩ := hv
  have hts := atoms_spec (ws := Cond.codeWith y cc maxL ret hh :: kT) B.pre
  have ho : s.vm.findClass own = some m.cls := hown ▸ findClass_of_methodNamed B.named
  have hl := lv_entry as (n := maxL) hlen
  rw [lg_entry_eq]
  exact body p e s m below meth c _ ⟨B.exec, B.bytes, fun u hu => hts u (List.mem_cons_of_mem _ hu), ho, hK⟩ hml (vx_table (x := y) B (hts _ List.mem_cons_self)) B.returns B.notSynchronized ⟨hH, va_S.rf, kExt.rf w, hH.1⟩ hZ hE hl
section VKX
variable {p : Program} {l : Launch} {e : Env} {R : Room} {s : State} {m : MethodId} {args : Array Value} {below : List Frame} {meth : Method} {c : Code} {H : Heap} {locs : List Loc} {cells slots : Nat} {Q : State → Prop}
variable {cc : ByteArray} {pc : Nat} {ls : Array Slot} {D : va_G} {aC : Nat → ClassId} {own : String} {w w0 : kW}
theorem kprex {w1 : kW} {as : List Value} (hX : kX D aC w0 s.heap w1 H locs) (hK : kK D aC s) (hZ : kZ w0 s) (hE : kEx (kA w0) s) (U : State) (hU : U.heap = H) (hW : s.WarmedH U.vm) : kPx D aC as w1 as.toArray U :=
  ⟨kpre hX hK hZ U hU hW, hE.at hX.2.1 hX.2.2.1 hU hW⟩
theorem kkeepX {w1 : kW} {st₀ t T' : State} {L : List Loc} (hX : kX D aC w0 s.heap w H locs) (h0 : st₀.heap = H) (e1 : T'.heap = t.heap) (hL : ∀ q ∈ L, kA w q.base) (hh : kH D aC w1 t.heap) (he : kExt w0 w1) (hF : va_F (kA w) st₀ t) : kX D aC w0 s.heap w1 T'.heap (locs ++ L) := by
  obtain ⟨q1, hS, q3, q4⟩ := hX
  obtain ⟨hz, hk⟩ := hF
  rw [h0] at hz hk
  exact ⟨by rw [e1]; exact hh, ⟨Nat.le_trans hS.1 (by rw [e1]; exact hz), fun q h1 h2 => by rw [e1, hk q (Nat.lt_of_lt_of_le h1 hS.1) (fun z => h2 (q3.A q z))]; exact hS.2.1 q h1 h2, fun q hq => by
      rcases List.mem_append.mp hq with h | h
      · exact hS.2.2 q h
      · exact q3.A _ (hL q h)⟩, he, q4⟩
theorem kgoesT {mc ms : Nat} {E0 : String} {st0 rest : List Value} {Qa : State → Outcome → State → Prop} (hQ : ∀ a o t, ¬ Qa a o t) (hr : vx_Run p l e R s m args below meth c H locs cells slots mc ms (F0 m pc ls st0) rest Qa (kXc D aC w E0) (kA w)) (hX : kX D aC w0 s.heap w H locs)
    (kk : ∀ (n : Nat) (q : Addr) (ce : Cell) (H1 : Heap) (locs1 : List Loc), kSz w ≤ n → kX D aC w0 s.heap (kSk w n) H1 locs1 → H1[q]? = some ce → ce.vm = .none → s.vm.findClass E0 = some ce.cls → vx_W p l e R s m args below meth c H1 locs1 (cells + mc) (slots + ms) Q (F0 m pc ls rest) q) : W p l e R s m args below meth c H locs cells slots Q (F0 m pc ls st0) := by
  intro T hT X
  rcases hr T hT X with ⟨v, st₀, t, T', L, h0, X', hL, e1, e2, hq, st⟩ | ⟨q, st₀, t, T', L, E, ce, h0, X', hL, e1, e2, ⟨rfl, ⟨n, hn, hh⟩, hF⟩, hce, hcv, hcl, st⟩
  · exact absurd hq (hQ _ _ _)
  · obtain ⟨t2, a1, b1⟩ := kk n q ce T'.heap (locs ++ L) hn (kkeepX hX h0 e1 hL hh (hX.2.2.1.sk hn) hF) (by rw [e1]; exact hce) hcv hcl T' rfl X'
    exact ⟨t2, st.trans a1, b1⟩
theorem kgoesN {mc ms : Nat} {w2 : kW} {rv : Option Value} {st0 st1 rest : List Value} {a : Array Value} {XC : String → State → State → Prop} (hC : ∀ E x y, ¬ XC E x y) (hr : vx_Run p l e R s m args below meth c H locs cells slots mc ms (F0 m pc ls st0) rest (kQn D aC w w2 rv a) XC (kA w)) (hX : kX D aC w0 s.heap w H locs) (he : kExt w w2) (hs1 : rv.toList ++ rest = st1)
    (kk : ∀ (n : Nat) (H1 : Heap) (locs1 : List Loc), kSz w2 ≤ n → kX D aC w0 s.heap (kSk w2 n) H1 locs1 → W p l e R s m args below meth c H1 locs1 (cells + mc) (slots + ms) Q (F0 m (pc + 3) ls st1)) : W p l e R s m args below meth c H locs cells slots Q (F0 m pc ls st0) := by
  subst hs1
  intro T hT X
  rcases hr T hT X with ⟨v, st₀, t, T', L, h0, X', hL, e1, e2, ⟨⟨hv, n, hn, hh⟩, hF⟩, st⟩ | ⟨q, st₀, t, T', L, E, ce, h0, X', hL, e1, e2, hx, -⟩
  · cases hv
    obtain ⟨t2, a1, b1⟩ := kk n T'.heap (locs ++ L) hn (kkeepX hX h0 e1 hL hh ((hX.2.2.1.tr he).sk hn) hF) T' rfl X'
    exact ⟨t2, st t2 a1, b1⟩
  · exact absurd hx (hC _ _ _)
/-- the end of a method with handlers -/
theorem kN_end {w1 : kW} {rv : Option Value} {n : Nat} (hX : kX D aC w0 s.heap (kSk w1 n) H locs) (hn : kSz w1 ≤ n) (t : State) (ht : t.heap = H) : (Outcome.returned rv = .returned rv ∧ ∃ n, kSz w1 ≤ n ∧ kH D aC (kSk w1 n) t.heap) ∧ va_F (kA w0) s t :=
  ⟨⟨rfl, n, hn, by rw [ht]; exact hX.1⟩, hX.2.1.F ht⟩
end VKX
