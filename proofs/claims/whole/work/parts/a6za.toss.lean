/-! THROWS: calls of what throws, of what has handlers; tossing -/
section VKT
variable {p : Program} {l : Launch} {e : Env} {R : Room} {s : State} {m : MethodId} {args : Array Value} {below : List Frame} {meth : Method} {c : Code} {H : Heap} {locs : List Loc} {cells slots : Nat} {Q : State → Prop}
variable {cc : ByteArray} {pc : Nat} {ls : Array Slot} {D : va_G} {aC : Nat → ClassId} {own : String} {w w0 : kW}
theorem kcallVT {y : MethodName} {bytes : ByteArray} {maxL nL mc ms n index fr lo k N : Nat} {ret : Option FieldType} {C E0 : String} {T : u_T} {b : Nat} (As rest : List Value) {st0 : List Value}
    (hC : vx_Met l y (Cond.code y bytes maxL ret :: kT) { frames := fr, cells := mc, slots := ms, locals := lo } (kPx D aC (.ref b :: As) w) (fun _ _ _ _ => False) (kXc D aC w E0) mc ms (kA w)) (hk : kKd w b = k) (F : kFx p c cc s args own m D aC) (hml : c.maxLocals = nL) (hX : kX D aC w0 s.heap w H locs) (hZ : kZ w0 s) (hE : kEx (kA w0) s) (hl : ls.size = nL)
    (hM : kMV C y bytes maxL ret) (hlk : Cond.methodLink own index y ∈ kT) (hc : vwCl[k]? = some (C, T, N)) (hk13 : k < 13) (hd : y.cls ≠ "java/lang/invoke/MethodHandle" ∧ y.cls ≠ "java/lang/invoke/VarHandle" ∧ (parseMethodDescriptor y.desc).map (fun d => d.parameters.length) = some n) (hR : fr + 1 ≤ R.frames ∧ 8 + (maxL + 11) + lo ≤ R.locals)
    (hst : st0 = As.reverse ++ .ref b :: rest) (hn : As.length = n) (hrest : (rest.map fun v => v.category).sum ≤ 8) (hdg : decode cc pc = .ok (.invokevirtual index, 3)) (hf : cells + mc ≤ R.cells ∧ slots + ms ≤ R.slots)
    (kk : ∀ (n : Nat) (q : Addr) (ce : Cell) (H1 : Heap) (locs1 : List Loc), kSz w ≤ n → kX D aC w0 s.heap (kSk w n) H1 locs1 → H1[q]? = some ce → ce.vm = .none → s.vm.findClass E0 = some ce.cls → vx_W p l e R s m args below meth c H1 locs1 (cells + mc) (slots + ms) Q (F0 m pc ls rest) q) : W p l e R s m args below meth c H locs cells slots Q (F0 m pc ls st0) := by
  obtain ⟨hx, hb, hts, hown, hK⟩ := id F
  obtain ⟨cell, g1, g3, g2, hcls⟩ := kcls hK hX hk hk13 hc
  exact kgoesT (fun _ _ _ z => z) (vx_runV (n := n) (b := b) (As := As) ⟨hx, hb, hml, hown, hts⟩ hC ⟨callB_of n hts (kGood hM.1) rfl rfl rfl (hts _ hM.2.1) (hts _ hlk) hd hR, hts _ hM.2.2.1, hts _ hM.2.2.2⟩ ⟨kPx_blind, ⟨cell, g1, by rw [g3]; rfl, by rw [g2]; exact hcls.1⟩, fun U hU hW => kprex hX hK hZ hE U hU hW⟩ rfl hn hl hst (lv_room hrest) hdg hf) hX kk
theorem kcallVH {y : MethodName} {bytes : ByteArray} {maxL nL mc ms n index fr lo k N : Nat} {ret : Option FieldType} {C : String} {T : u_T} {b : Nat} {hh : List (Nat × Nat × Nat × Nat)} {rv : Option Value} {w2 : kW} (As rest st1 : List Value) {st0 : List Value}
    (hC : vx_Met l y (Cond.codeWith y bytes maxL ret hh :: kT) { frames := fr, cells := mc, slots := ms, locals := lo } (kPx D aC (.ref b :: As) w) (kQn D aC w w2 rv) (fun _ _ _ => False) mc ms (kA w)) (he : kExt w w2) (hk : kKd w b = k) (F : kFx p c cc s args own m D aC) (hml : c.maxLocals = nL) (hX : kX D aC w0 s.heap w H locs) (hZ : kZ w0 s) (hE : kEx (kA w0) s) (hl : ls.size = nL)
    (hM : Cond.codeWith y bytes maxL ret hh ∈ kT ∧ Cond.initialized y.cls ∈ kT ∧ Cond.instanceMethod y ∈ kT ∧ Cond.selects C y y ∈ kT) (hlk : Cond.methodLink own index y ∈ kT) (hc : vwCl[k]? = some (C, T, N)) (hk13 : k < 13) (hd : y.cls ≠ "java/lang/invoke/MethodHandle" ∧ y.cls ≠ "java/lang/invoke/VarHandle" ∧ (parseMethodDescriptor y.desc).map (fun d => d.parameters.length) = some n) (hR : fr + 1 ≤ R.frames ∧ 8 + (maxL + 11) + lo ≤ R.locals)
    (hst : st0 = As.reverse ++ .ref b :: rest) (hn : As.length = n) (hs1 : rv.toList ++ rest = st1) (hrest : (rest.map fun v => v.category).sum ≤ 8) (hdg : decode cc pc = .ok (.invokevirtual index, 3)) (hf : cells + mc ≤ R.cells ∧ slots + ms ≤ R.slots)
    (kk : ∀ (n : Nat) (H1 : Heap) (locs1 : List Loc), kSz w2 ≤ n → kX D aC w0 s.heap (kSk w2 n) H1 locs1 → W p l e R s m args below meth c H1 locs1 (cells + mc) (slots + ms) Q (F0 m (pc + 3) ls st1)) : W p l e R s m args below meth c H locs cells slots Q (F0 m pc ls st0) := by
  obtain ⟨hx, hb, hts, hown, hK⟩ := id F
  obtain ⟨cell, g1, g3, g2, hcls⟩ := kcls hK hX hk hk13 hc
  have hlen : ∀ sig, parseMethodDescriptor y.desc = some sig → n = sig.parameters.length := fun sig h => by
    have h2 := hd.2.2
    rw [h] at h2
    exact (Option.some.inj h2).symm
  exact kgoesN (fun _ _ _ z => z) (vx_runVX (hh := hh) (n := n) (b := b) (As := As) ⟨hx, hb, hml, hown, hts⟩ hC ⟨⟨rfl, rfl, hR.1, hR.2, pay_in hts (kGood hM.1), List.mem_cons_self⟩, hts _ hM.1, hts _ hM.2.1, ⟨hd.1, hd.2.1⟩, hlen, hts _ hlk, hts _ hM.2.2.1, hts _ hM.2.2.2⟩ ⟨kPx_blind, ⟨cell, g1, by rw [g3]; rfl, by rw [g2]; exact hcls.1⟩, fun U hU hW => kprex hX hK hZ hE U hU hW⟩ rfl hn hl hst (lv_room hrest) hdg hf) hX he hs1 kk
theorem kcallSH {y : MethodName} {bytes : ByteArray} {maxL nL mc ms n index fr lo : Nat} {ret : Option FieldType} {hh : List (Nat × Nat × Nat × Nat)} {rv : Option Value} {w2 : kW} (As rest st1 : List Value) {st0 : List Value}
    (hC : vx_Met l y (Cond.codeWith y bytes maxL ret hh :: kT) { frames := fr, cells := mc, slots := ms, locals := lo } (kPx D aC As w) (kQn D aC w w2 rv) (fun _ _ _ => False) mc ms (kA w)) (he : kExt w w2) (F : kFx p c cc s args own m D aC) (hml : c.maxLocals = nL) (hX : kX D aC w0 s.heap w H locs) (hZ : kZ w0 s) (hE : kEx (kA w0) s) (hl : ls.size = nL)
    (hM : Cond.codeWith y bytes maxL ret hh ∈ kT ∧ Cond.initialized y.cls ∈ kT ∧ Cond.static y ∈ kT) (hlk : Cond.methodLink own index y ∈ kT) (hd : y.cls ≠ "java/lang/invoke/MethodHandle" ∧ y.cls ≠ "java/lang/invoke/VarHandle" ∧ (parseMethodDescriptor y.desc).map (fun d => d.parameters.length) = some n) (hR : fr + 1 ≤ R.frames ∧ 8 + (maxL + 11) + lo ≤ R.locals)
    (hst : st0 = As.reverse ++ rest) (hn : As.length = n) (hs1 : rv.toList ++ rest = st1) (hrest : (rest.map fun v => v.category).sum ≤ 8) (hdg : decode cc pc = .ok (.invokestatic index, 3)) (hf : cells + mc ≤ R.cells ∧ slots + ms ≤ R.slots)
    (kk : ∀ (n : Nat) (H1 : Heap) (locs1 : List Loc), kSz w2 ≤ n → kX D aC w0 s.heap (kSk w2 n) H1 locs1 → W p l e R s m args below meth c H1 locs1 (cells + mc) (slots + ms) Q (F0 m (pc + 3) ls st1)) : W p l e R s m args below meth c H locs cells slots Q (F0 m pc ls st0) := by
  obtain ⟨hx, hb, hts, hown, hK⟩ := id F
  have hlen : ∀ sig, parseMethodDescriptor y.desc = some sig → n = sig.parameters.length := fun sig h => by
    have h2 := hd.2.2
    rw [h] at h2
    exact (Option.some.inj h2).symm
  exact kgoesN (fun _ _ _ z => z) (vx_runSX (hh := hh) (n := n) (As := As) ⟨hx, hb, hml, hown, hts⟩ hC ⟨⟨rfl, rfl, hR.1, hR.2, pay_in hts (kGood hM.1), List.mem_cons_self⟩, hts _ hM.1, hts _ hM.2.1, ⟨hd.1, hd.2.1⟩, hlen, hts _ hlk, hts _ hM.2.2⟩ ⟨kPx_blind, fun U hU hW => kprex hX hK hZ hE U hU hW⟩ rfl hn hl hst (lv_room hrest) hdg hf) hX he hs1 kk
theorem kNret {w2 : kW} {v : Int32} {n mc ms : Nat} {XC : String → State → State → Prop} (F : kFx p c cc s args own m D aC) (hX : kX D aC w0 s.heap (kSk w2 n) H locs) (hn : kSz w2 ≤ n) (hr : meth.sig.returnType = some .int) (hlocks : meth.locks = false) (hc : cells ≤ mc ∧ slots ≤ ms) (hdg : decode cc pc = .ok (.ireturn, 1)) : W p l e R s m args below meth c H locs cells slots (vx_MQ below (kQn D aC w0 w2 (some (.int v))) XC args s mc ms (kA w0)) (F0 m pc ls [.int v]) := by
  refine vx_ret ?_
  refine W.widen hc.1 hc.2 ?_
  exact W.iret F.1 F.2.1 hr (fun t ht _ => kN_end hX hn t ht) hX.2.1.2.2 hdg hlocks
end VKT
theorem wmX11_356 : Cond.methodLink RX11 356 yX0_fail ∈ kT := kTm 1126 (by decide +kernel) rfl
theorem wmX11_359 : Cond.methodLink RX11 359 yX0_failureNumber ∈ kT := kTm 1196 (by decide +kernel) rfl
theorem mwX0_fail : kMV RX0 yX0_fail cX0_fail 1 none := ⟨kTm 1129 (by decide +kernel) rfl, kTm 110 (by decide +kernel) rfl, kTm 1127 (by decide +kernel) rfl, kTm 1128 (by decide +kernel) rfl⟩
theorem mwX0_failureNumber : kMV RX0 yX0_failureNumber cX0_failureNumber 1 (some .int) := ⟨kTm 1199 (by decide +kernel) rfl, kTm 110 (by decide +kernel) rfl, kTm 1197 (by decide +kernel) rfl, kTm 1198 (by decide +kernel) rfl⟩
def lX11_toss_0 : List (Nat × Instr × Nat) := [(0, .aload_n 0, 1), (1, .iload_n 1, 1), (2, .invokevirtual 99, 3), (5, .astore_n 2, 1), (6, .aload_n 2, 1), (7, .ifnonnull 5, 3), (10, .iconst (-1), 1), (11, .ireturn, 1), (12, .aload_n 2, 1), (13, .getfield 346, 3), (16, .astore_n 3, 1), (17, .aload_n 3, 1), (18, .ifnonnull 8, 3), (21, .aload_n 2, 1), (22, .invokevirtual 350, 3), (25, .ireturn, 1), (26, .aload_n 3, 1), (27, .invokevirtual 356, 3), (30, .goto 10, 3), (33, .astore 4, 2), (35, .aload_n 3, 1), (36, .invokevirtual 359, 3), (39, .ireturn, 1), (40, .bipush (-15), 2), (42, .ireturn, 1)]
theorem dtX11_toss_0 : kDec cX11_toss lX11_toss_0 = true := by decide +kernel
theorem wcISE : Cond.castable xISE xISE ∈ lw_tbl := List.mem_of_getElem? (i := 1132) (by decide +kernel)
theorem wcIAE : Cond.castable xIAE xIAE ∈ lw_tbl := List.mem_of_getElem? (i := 1211) (by decide +kernel)
set_option maxHeartbeats 4000000 in
set_option maxRecDepth 100000 in
theorem rX11_toss (l : Launch) (hfl : l.flags = flags0) (D : va_G) (aC : Nat → ClassId) {ow : Nat → Nat × Nat} {x : Nat} {w : kW} {S : AS} (h : Kc ow x w S) {d : Int} (hd : I32 d) : vx_Met l yX11_toss (Cond.codeWith yX11_toss cX11_toss 5 (some .int) [(26, 30, 33, 323)] :: kT) { frames := 8, cells := 1, slots := 6, locals := 300 } (kPx D aC [.ref x, .int (iI d)] w) (kQn D aC w w (some (.int (iI (aToss S d))))) (fun _ _ _ => False) 1 6 (kA w) := by
  refine kOfH (own := RX11) (by decide) rfl (Nat.le_of_ble_eq_true rfl) ?_
  intro p e s m below meth c ls F hml ht hr hlocks hX hZ hE hl
  obtain ⟨hx, hb, hts, hown, hK⟩ := id F
  obtain ⟨-, -, -, hW⟩ := id hE
  have hl : lv_has ls 5 [(0, .ref x), (1, .int (iI d))] := hl
  have hkx : kKd w x = 11 := h.2.1.1.1
  obtain ⟨s1, s2⟩ := shelfAt_ok h hd
  refine lv_aload_n hx hb (kd dtX11_toss_0 0 rfl) rfl (lv_at hl 0 rfl) ?_
  refine lv_iload_n hx hb (kd dtX11_toss_0 1 rfl) rfl (lv_at hl 1 rfl) ?_
  cases hs : shAt S d with
  | none =>
    have ea : aToss S d = -1 := by unfold aToss; rw [hs]
    rw [ea]
    refine kcallV (n := 1) (r := some x) [.int (iI d)] [] [.null] (rX11_shelfAt l D aC (s1 hs)) rfl hkx F hml hX hZ hl.1 mwX11_shelfAt wmX11_99 rfl (by decide) (by decide +kernel) ⟨(by decide), (by decide)⟩ rfl rfl rfl (Nat.le_of_ble_eq_true rfl) (kd dtX11_toss_0 2 rfl) ⟨Nat.le_of_ble_eq_true rfl, Nat.le_of_ble_eq_true rfl⟩ (fun H locs hX => ?_)
    refine kastore_n (r := none) (lv' := [(2, .null), (0, .ref x), (1, .int (iI d))]) hx hb (kd dtX11_toss_0 3 rfl) rfl hl (by decide) rfl (fun ls hl => ?_)
    refine kaload_n (r := none) hx hb (kd dtX11_toss_0 4 rfl) rfl (lv_at hl 0 rfl) ?_
    refine kifnonnull (r := none) (tgt := 12) hx hb (kd dtX11_toss_0 5 rfl) (by decide) (fun _ => ?_) (fun z => absurd rfl z)
    refine lv_iconst (v := iI (-1)) hx hb (kd dtX11_toss_0 6 rfl) rfl ?_
    exact kNret (n := kSz w) F hX (Nat.le_refl _) hr hlocks ⟨by decide, by decide⟩ (kd dtX11_toss_0 7 rfl)
  | some q =>
    obtain ⟨e1, o1, d8, -⟩ := s2 q hs
    have hks := o1.1.1
    refine kcallV (n := 1) (r := some x) [.int (iI d)] [] [.ref (x + 221 + 2 * d.toNat)] (rX11_shelfAt l D aC e1) rfl hkx F hml hX hZ hl.1 mwX11_shelfAt wmX11_99 rfl (by decide) (by decide +kernel) ⟨(by decide), (by decide)⟩ rfl rfl rfl (Nat.le_of_ble_eq_true rfl) (kd dtX11_toss_0 2 rfl) ⟨Nat.le_of_ble_eq_true rfl, Nat.le_of_ble_eq_true rfl⟩ (fun H locs hX => ?_)
    refine lv_astore_n (lv' := [(2, .ref (x + 221 + 2 * d.toNat)), (0, .ref x), (1, .int (iI d))]) hx hb (kd dtX11_toss_0 3 rfl) rfl hl (by decide) rfl (fun ls hl => ?_)
    refine lv_aload_n hx hb (kd dtX11_toss_0 4 rfl) rfl (lv_at hl 0 rfl) ?_
    refine lv_ifnonnull (tgt := 12) hx hb (kd dtX11_toss_0 5 rfl) (by decide) ?_
    refine lv_aload_n hx hb (kd dtX11_toss_0 8 rfl) rfl (lv_at hl 0 rfl) ?_
    have noCard : kP w (x + 221 + 2 * d.toNat) 3 = none → aToss S d = cRef q → W p l e { frames := 8, cells := 1, slots := 6, locals := 300 } s m [.ref x, .int (iI d)].toArray below meth c H locs 0 0 (vx_MQ below (kQn D aC w w (some (.int (iI (aToss S d))))) (fun _ _ _ => False) [.ref x, .int (iI d)].toArray s 1 6 (kA w)) (F0 m 13 ls [.ref (x + 221 + 2 * d.toNat)]) := by
      intro hp ea
      rw [ea]
      have g2 : kgP w 6 (some (x + 221 + 2 * d.toNat)) 3 = some none := by rw [kgP_e hks, hp]
      refine kgetPN (r := some (x + 221 + 2 * d.toNat)) g2 F hX hinX6 rfl rfl rfl (by decide) (by decide) hZ wfX11_346 (kd dtX11_toss_0 9 rfl) ?_
      refine kastore_n (r := none) (lv' := [(3, .null), (2, .ref (x + 221 + 2 * d.toNat)), (0, .ref x), (1, .int (iI d))]) hx hb (kd dtX11_toss_0 10 rfl) rfl hl (by decide) rfl (fun ls hl => ?_)
      refine kaload_n (r := none) hx hb (kd dtX11_toss_0 11 rfl) rfl (lv_at hl 0 rfl) ?_
      refine kifnonnull (r := none) (tgt := 26) hx hb (kd dtX11_toss_0 12 rfl) (by decide) (fun _ => ?_) (fun z => absurd rfl z)
      refine lv_aload_n hx hb (kd dtX11_toss_0 13 rfl) rfl (lv_at hl 1 rfl) ?_
      refine kcallV (n := 0) (r := some (x + 221 + 2 * d.toNat)) [] [] [.int (iI (cRef q))] (rX6_cardRefusal l D aC (cardRef_ok o1)) rfl hks F hml hX hZ hl.1 mwX6_cardRefusal wmX11_350 rfl (by decide) (by decide +kernel) ⟨(by decide), (by decide)⟩ rfl rfl rfl (Nat.le_of_ble_eq_true rfl) (kd dtX11_toss_0 14 rfl) ⟨Nat.le_of_ble_eq_true rfl, Nat.le_of_ble_eq_true rfl⟩ (fun H locs hX => ?_)
      exact kNret (n := kSz w) F hX (Nat.le_refl _) hr hlocks ⟨by decide, by decide⟩ (kd dtX11_toss_0 15 rfl)
    cases q with
    | none => exact noCard o1.2.2 (by unfold aToss; rw [hs])
    | some q =>
      cases q with
      | inr q => exact noCard o1.2.2.2.2.1 (by unfold aToss; rw [hs])
      | inl q =>
        obtain ⟨k, n, G⟩ := q
        obtain ⟨-, k6, n40, c0, a, p3, kc, oc, xc, ik, inn, pa, g⟩ := o1.2
        have k6 : k ≤ 6 := k6
        have ik : kI w c0 0 = iI k := ik
        have inn : kI w c0 1 = iI n := inn
        have g : Li ow x w a G := g
        have ea : aToss S d = tossV k n G := by unfold aToss; rw [hs]
        rw [ea]
        have g2 : kgP w 6 (some (x + 221 + 2 * d.toNat)) 3 = some (some c0) := by rw [kgP_e hks, p3]
        have ka := g.1.2.1.1.1
        have f5 : kI w a 5 = iI (fSz G) := g.1.2.1.2.2.1.1
        have sz1 := fSz_pos g.1.1
        have szT := fSz_le60 g.1.1 g.2.2.1
        refine kgetPN (r := some (x + 221 + 2 * d.toNat)) g2 F hX hinX6 rfl rfl rfl (by decide) (by decide) hZ wfX11_346 (kd dtX11_toss_0 9 rfl) ?_
        refine kastore_n (r := some c0) (lv' := [(3, .ref c0), (2, .ref (x + 221 + 2 * d.toNat)), (0, .ref x), (1, .int (iI d))]) hx hb (kd dtX11_toss_0 10 rfl) rfl hl (by decide) rfl (fun ls hl => ?_)
        refine lv_aload_n hx hb (kd dtX11_toss_0 11 rfl) rfl (lv_at hl 0 rfl) ?_
        refine lv_ifnonnull (tgt := 26) hx hb (kd dtX11_toss_0 12 rfl) (by decide) ?_
        refine lv_aload_n hx hb (kd dtX11_toss_0 16 rfl) rfl (lv_at hl 0 rfl) ?_
        by_cases hf : k = 5 ∨ fSz G = 1
        · have et : tossV k n G = -15 := if_pos hf
          rw [et]
          have hn : kI w c0 0 = 5 ∨ kI w a 5 ≤ 1 := by
            rcases hf with z | z
            · exact Or.inl (by rw [ik, z]; rfl)
            · exact Or.inr (by rw [f5, z]; decide +kernel)
          refine kcallV (n := 0) (r := some c0) [] [] [] (rX0_failR l D aC kc pa ka hn) rfl kc F hml hX hZ hl.1 mwX0_fail wmX11_356 rfl (by decide) (by decide +kernel) ⟨(by decide), (by decide)⟩ rfl rfl rfl (Nat.le_of_ble_eq_true rfl) (kd dtX11_toss_0 17 rfl) ⟨Nat.le_of_ble_eq_true rfl, Nat.le_of_ble_eq_true rfl⟩ (fun H locs hX => ?_)
          refine lv_goto (tgt := 40) hx hb (kd dtX11_toss_0 18 rfl) (by decide) ?_
          refine lv_bipush (v := iI (-15)) hx hb (kd dtX11_toss_0 23 rfl) (by decide +kernel) ?_
          exact kNret (n := kSz w) F hX (Nat.le_refl _) hr hlocks ⟨by decide, by decide⟩ (kd dtX11_toss_0 24 rfl)
        · have et : tossV k n G = failN k n G := by
            unfold tossV failN
            rw [if_neg hf]
            split
            · omega
            · rfl
          rw [et]
          refine kcallVT (n := 0) [] [] (rX0_failT l hfl D aC kc pa ka (fun z => ?_) (fun z => ?_)) kc F hml hX hZ hE hl.1 mwX0_fail wmX11_356 rfl (by decide) (by decide +kernel) ⟨(by decide), (by decide)⟩ rfl rfl (Nat.le_of_ble_eq_true rfl) (kd dtX11_toss_0 17 rfl) ⟨Nat.le_of_ble_eq_true rfl, Nat.le_of_ble_eq_true rfl⟩ (fun n' q ce H locs hn hX hce hcv hcl => ?_)
          · rw [ik, iL_5, iI_eq (by omega) (by omega) (by omega) (by omega)] at z
            exact hf (Or.inl (by omega))
          · rw [f5, iL_1, iI_le (by omega) (by omega) (by omega) (by omega)] at z
            exact hf (Or.inr (by omega))
          · refine vx_catch (own := RX11) (name := xISE) (E := xISE) hown [] ⟨26, 30, 33, 323⟩ [] (by rw [ht]; rfl) (fun z hz => by cases hz) (by decide) (by decide) (hts _ wkX11_323) (va_Nw.use rfl (hW _ wcISE rfl)) hce hcv hcl ?_
            refine lv_astore (pc := 33) (lv' := [(4, .ref q), (3, .ref c0), (2, .ref (x + 221 + 2 * d.toNat)), (0, .ref x), (1, .int (iI d))]) hx hb (kd dtX11_toss_0 19 rfl) hl (by decide) rfl (fun ls hl => ?_)
            refine lv_aload_n hx hb (kd dtX11_toss_0 20 rfl) rfl (lv_at hl 1 rfl) ?_
            have fk : fX0_failureNumber c0 (kSk w n') = some (iI (failN k n G)) := fail_ok (ow := ow) (x := x) (w := kSk w n') kc ik inn pa g k6
            refine kcallV (n := 0) (r := some c0) [] [] [.int (iI (failN k n G))] (rX0_failureNumber l D aC fk) rfl kc F hml hX hZ hl.1 mwX0_failureNumber wmX11_359 rfl (by decide) (by decide +kernel) ⟨(by decide), (by decide)⟩ rfl rfl rfl (Nat.le_of_ble_eq_true rfl) (kd dtX11_toss_0 21 rfl) ⟨Nat.le_of_ble_eq_true rfl, Nat.le_of_ble_eq_true rfl⟩ (fun H locs hX => ?_)
            exact kNret (n := n') F hX hn hr hlocks ⟨by decide, by decide⟩ (kd dtX11_toss_0 22 rfl)
