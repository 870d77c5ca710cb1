/-! THROWS: the law's own element; the world behind it -/
theorem wkL_13 : Cond.classLink RL 13 xIAE ∈ kT := kTm 1203 (by decide +kernel) rfl
theorem wkL_15 : Cond.classLink RL 15 xISE ∈ kT := kTm 1204 (by decide +kernel) rfl
theorem wmL_7 : Cond.methodLink RL 7 yX11_element ∈ kT := kTm 1205 (by decide +kernel) rfl
theorem mwX11_elem : kMV RX11 yX11_element cX11_element 4 (some .long) := ⟨kTm 1208 (by decide +kernel) rfl, kTm 94 (by decide +kernel) rfl, kTm 1206 (by decide +kernel) rfl, kTm 1207 (by decide +kernel) rfl⟩
def lLe_0 : List (Nat × Instr × Nat) := [(0, .aload_n 3, 1), (1, .iconst 0, 1), (2, .aload_n 0, 1), (3, .iload_n 1, 1), (4, .iload_n 2, 1), (5, .invokevirtual 7, 3), (8, .lastore, 1), (9, .goto 11, 3), (12, .astore 4, 2), (14, .iconst 1, 1), (15, .ireturn, 1), (16, .astore 4, 2), (18, .iconst 2, 1), (19, .ireturn, 1), (20, .iconst 0, 1), (21, .ireturn, 1)]
theorem dtLe_0 : kDec cL_element lLe_0 = true := by decide +kernel
/-- the world behind the law's element -/
def elW (w : kW) (x : Nat) (S : AS) (d i : Int) : kW := if aElT S d i = 0 then kSJ w (x + 255) 0 (iI (aElV S d i)).toInt64 else w
theorem elW_ext {w : kW} {x : Nat} {S : AS} {d i : Int} : kExt w (elW w x S d i) ∧ kSz (elW w x S d i) = kSz w := by
  unfold elW
  split
  · exact ⟨kExt.st rfl rfl rfl, rfl⟩
  · exact ⟨kExt.rf w, rfl⟩
set_option maxHeartbeats 4000000 in
set_option maxRecDepth 100000 in
theorem rL_element (l : Launch) (hfl : l.flags = flags0) (D : va_G) (aC : Nat → ClassId) {ow : Nat → Nat × Nat} {x : Nat} {w : kW} {S S2 : AS} {r : rW} (j : J ow x w S r S2) {d i : Int} (hd : I32 d) (hi : I32 i) : vx_Met l yL_element (Cond.codeWith yL_element cL_element 5 (some .int) [(0, 9, 12, 13), (0, 9, 16, 15)] :: kT) { frames := 10, cells := 1, slots := 6, locals := 400 } (kPx D aC [.ref x, .int (iI d), .int (iI i), .ref (x + 255)] w) (kQn D aC w (elW w x S d i) (some (.int (iI (aElT S d i))))) (fun _ _ _ => False) 1 6 (kA w) := by
  refine kOfH (own := RL) (by decide) rfl (Nat.le_of_ble_eq_true rfl) ?_
  intro p e s m below meth c ls F hml ht hr hlocks hX hZ hE hl
  obtain ⟨hx, hb, hts, hown, hK⟩ := id F
  obtain ⟨-, -, hNc, hW⟩ := id hE
  have hl : lv_has ls 5 [(0, .ref x), (1, .int (iI d)), (2, .int (iI i)), (3, .ref (x + 255))] := hl
  have h := j.1
  have hkx : kKd w x = 11 := h.2.1.1.1
  have k15 := j.2.2.2.1
  have n1 := j.2.2.2.2
  refine lv_aload_n hx hb (kd dtLe_0 0 rfl) rfl (lv_at hl 3 rfl) ?_
  refine lv_iconst (v := 0) hx hb (kd dtLe_0 1 rfl) (by decide) ?_
  refine lv_aload_n hx hb (kd dtLe_0 2 rfl) rfl (lv_at hl 0 rfl) ?_
  refine lv_iload_n hx hb (kd dtLe_0 3 rfl) rfl (lv_at hl 1 rfl) ?_
  refine lv_iload_n hx hb (kd dtLe_0 4 rfl) rfl (lv_at hl 2 rfl) ?_
  by_cases c0 : aElT S d i = 0
  · have ew : elW w x S d i = kSJ w (x + 255) 0 (iI (aElV S d i)).toInt64 := if_pos c0
    rw [ew, c0]
    refine kcallV (n := 2) (r := some x) [.int (iI d), .int (iI i)] [.int 0, .ref (x + 255)] [.long (iI (aElV S d i)).toInt64, .int 0, .ref (x + 255)] (rX11_elemR l D aC h hd hi c0) rfl hkx F hml hX hZ hl.1 mwX11_elem wmL_7 rfl (by decide) (by decide +kernel) ⟨(by decide), (by decide)⟩ rfl rfl rfl (Nat.le_of_ble_eq_true rfl) (kd dtLe_0 5 rfl) ⟨Nat.le_of_ble_eq_true rfl, Nat.le_of_ble_eq_true rfl⟩ (fun H locs hX => ?_)
    have hv : ksJ w (some (x + 255)) 0 (iI (aElV S d i)).toInt64 = some (kSJ w (x + 255) 0 (iI (aElV S d i)).toInt64) := by
      unfold ksJ
      rw [Option.bind_some, if_pos k15, n1]
      rfl
    refine klst (r := some (x + 255)) hv F hX (kd dtLe_0 6 rfl) (fun H locs hX => ?_)
    refine lv_goto (tgt := 20) hx hb (kd dtLe_0 7 rfl) (by decide) ?_
    refine lv_iconst (v := iI 0) hx hb (kd dtLe_0 14 rfl) (by decide +kernel) ?_
    exact kNret (n := kSz w) F hX (Nat.le_refl _) hr hlocks ⟨by decide, by decide⟩ (kd dtLe_0 15 rfl)
  · have ew : elW w x S d i = w := if_neg c0
    rw [ew]
    cases hs : shAt S d with
    | none =>
      have e1 : aElT S d i = 1 := by unfold aElT; rw [hs]
      rw [e1]
      refine kcallVT (n := 2) [.int (iI d), .int (iI i)] [.int 0, .ref (x + 255)] (rX11_elemT1 l hfl D aC h hd hs) hkx F hml hX hZ hE hl.1 mwX11_elem wmL_7 rfl (by decide) (by decide +kernel) ⟨(by decide), (by decide)⟩ rfl rfl (Nat.le_of_ble_eq_true rfl) (kd dtLe_0 5 rfl) ⟨Nat.le_of_ble_eq_true rfl, Nat.le_of_ble_eq_true rfl⟩ (fun n' q ce H locs hn hX hce hcv hcl => ?_)
      refine vx_catch (own := RL) (name := xIAE) (E := xIAE) hown [] ⟨0, 9, 12, 13⟩ [⟨0, 9, 16, 15⟩] (by rw [ht]; rfl) (fun z hz => by cases hz) (by decide) (by decide) (hts _ wkL_13) (va_Nw.use rfl (hW _ wcIAE rfl)) hce hcv hcl ?_
      refine lv_astore (pc := 12) (lv' := [(4, .ref q), (0, .ref x), (1, .int (iI d)), (2, .int (iI i)), (3, .ref (x + 255))]) hx hb (kd dtLe_0 8 rfl) hl (by decide) rfl (fun ls hl => ?_)
      refine lv_iconst (v := iI 1) hx hb (kd dtLe_0 9 rfl) (by decide +kernel) ?_
      exact kNret (n := n') F hX hn hr hlocks ⟨by decide, by decide⟩ (kd dtLe_0 10 rfl)
    | some q =>
      have e0 : aElT S d i = if rRef q = 0 ∧ 0 ≤ i ∧ i < (rowL q).length then 0 else 2 := by unfold aElT; rw [hs]
      have cq : ¬ (rRef q = 0 ∧ 0 ≤ i ∧ i < (rowL q).length) := fun z => c0 (by rw [e0, if_pos z])
      have e1 : aElT S d i = 2 := by rw [e0, if_neg cq]
      rw [e1]
      refine kcallVT (n := 2) [.int (iI d), .int (iI i)] [.int 0, .ref (x + 255)] (rX11_elemT2 l hfl D aC h hd hi hs cq) hkx F hml hX hZ hE hl.1 mwX11_elem wmL_7 rfl (by decide) (by decide +kernel) ⟨(by decide), (by decide)⟩ rfl rfl (Nat.le_of_ble_eq_true rfl) (kd dtLe_0 5 rfl) ⟨Nat.le_of_ble_eq_true rfl, Nat.le_of_ble_eq_true rfl⟩ (fun n' q' ce H locs hn hX hce hcv hcl => ?_)
      refine vx_catch (own := RL) (name := xISE) (E := xISE) hown [⟨0, 9, 12, 13⟩] ⟨0, 9, 16, 15⟩ [] (by rw [ht]; rfl) (fun z hz => ?_) (by decide) (by decide) (hts _ wkL_15) (va_Nw.use rfl (hW _ wcISE rfl)) hce hcv hcl ?_
      · rw [List.mem_singleton.mp hz]
        exact Or.inr ⟨by decide, xIAE, hts _ wkL_13, hNc⟩
      · refine lv_astore (pc := 16) (lv' := [(4, .ref q'), (0, .ref x), (1, .int (iI d)), (2, .int (iI i)), (3, .ref (x + 255))]) hx hb (kd dtLe_0 11 rfl) hl (by decide) rfl (fun ls hl => ?_)
        refine lv_iconst (v := iI 2) hx hb (kd dtLe_0 12 rfl) (by decide +kernel) ?_
        exact kNret (n := n') F hX hn hr hlocks ⟨by decide, by decide⟩ (kd dtLe_0 13 rfl)
/-! both invariants behind a throw, behind a number laid into the law's row -/
theorem J.sk {ow : Nat → Nat × Nat} {x : Nat} {w : kW} {S S2 : AS} {r : rW} (j : J ow x w S r S2) {n : Nat} (hn : kSz w ≤ n) : J ow x (kSk w n) S r S2 := by
  obtain ⟨k, ⟨b1, b3, b4⟩, o, l1, l2⟩ := j
  have e : kSk (rWo (x + 237) w r) n = kSk w n := congrArg (fun z => kSk z n) b3
  exact ⟨k.fr0 (fun a _ _ => ⟨rfl, rfl, rfl, rfl, rfl, rfl⟩) (fun a ha => k.1.1 a (Nat.le_trans hn ha)) (fun b hb => Nat.lt_of_lt_of_le (k.1.2.1 b hb) hn) hn, ⟨b1, e, b4⟩, o, l1, l2⟩
theorem J.sj {ow : Nat → Nat × Nat} {x : Nat} {w : kW} {S S2 : AS} {r : rW} (j : J ow x w S r S2) {v : Int64} : J ow x (kSJ w (x + 255) 0 v) S r S2 := by
  obtain ⟨k, ⟨b1, b3, b4⟩, o, l1, l2⟩ := j
  have e : kSJ (rWo (x + 237) w r) (x + 255) 0 v = kSJ w (x + 255) 0 v := congrArg (fun z => kSJ z (x + 255) 0 v) b3
  obtain ⟨⟨hW, hO, z0⟩, k0, kt, ki, ks, kr, kw, kp, kd, kh, kq, kg⟩ := k
  have hs : Fr ow ow (fun q => q = x + 2) w (kSJ w (x + 255) 0 v) := fun a ha hn => by
    have ne : a ≠ x + 255 := fun c => hn (by
      have := o 18 (by omega)
      rw [c]
      exact this)
    exact ⟨rfl, rfl, rfl, rfl, rfl, kU_ne ne⟩
  exact ⟨⟨⟨hW, hO, z0⟩, k0.fr hs (by omega), kt.fr hs (by omega) (fun _ _ => by omega), ki.fr hs (by omega) (fun _ _ => by omega), ks.fr hs (fun _ _ => by omega) (fun _ _ => by omega), kr.fr hs (by omega) (by omega), kw.fr hs (by omega), kp.fr hs (by omega), kd.fr hs (by omega) (by omega) (by omega) (by omega) (by omega), kh.fr hs (by omega) (by omega), kq.fr hs (fun _ _ _ => by omega), kg.fr hs (by omega)⟩, ⟨b1, e, b4⟩, o, l1, l2⟩
/-- what a throw stands on, at the law's entry -/
theorem kxStart {s : State} {A : Array Value} (hts : ∀ w ∈ lw_tbl, w.before A s = true) (hgv : (Jvm.Cond.and given_1 narrow_1).before A s = true) : kEx (kA (wZ s)) s := by
  have hs := flat_of_before _ hgv
  have hA : ∀ a : Nat, a < s.heap.size → ¬ kA (wZ s) a := fun a h z => by have := wzA z; omega
  have iT : (Cond.initialized Bundle.tN).before A s = true := hts _ (List.mem_of_getElem? (i := 111) (by decide +kernel))
  have str : ∀ {own tx : String} {k : Nat}, (Cond.stringRef own k tx).before A s = true → (Cond.exactly (.string own k) "java/lang/String").before A s = true → ∃ a, vk_R own k tx a s := by
    intro own tx k h1 h2
    obtain ⟨a, _, _, _, ha, -⟩ := Cond.exactly_spec h2
    exact ⟨a, vk_R.of h1 ha⟩
  refine ⟨⟨vx_Zqof (hts _ (List.mem_of_getElem? (i := 1157) (by decide +kernel))) iT (hs _ (by decide +kernel)) hA, vx_Zqof (hts _ (List.mem_of_getElem? (i := 1159) (by decide +kernel))) iT (hs _ (by decide +kernel)) hA⟩, ⟨str (hts _ (List.mem_of_getElem? (i := 1170) (by decide +kernel))) (hs _ (by decide +kernel)), str (hts _ (List.mem_of_getElem? (i := 1218) (by decide +kernel))) (hs _ (by decide +kernel)), str (hts _ (List.mem_of_getElem? (i := 1226) (by decide +kernel))) (hs _ (by decide +kernel))⟩, va_Nc.of (hs (Cond.not (.castable xISE xIAE)) (by decide +kernel)), fun u hu hx => ?_⟩
  have h1 := hts u hu
  cases u <;> first | (cases hx; done) | exact va_Nw.of rfl h1
