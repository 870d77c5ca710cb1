/-! THE MODEL: what is put, with its places; what is made of a text with that put -/
def Mz (lo hi : Nat) (w : rW) (σ : Nat → Option Fo) : Prop := ∀ k, k < 6 → (σ k = none → rA w 10 k = iI (-4)) ∧ ∀ c, σ k = some c → ∃ p : Nat, rA w 10 k = iI p ∧ rA w 11 k = iI (p + tln c : Nat) ∧ Lt w p c ∧ lo ≤ p ∧ p + tln c ≤ hi
theorem goesZ_ok {lo hi : Nat} : ∀ f, fOk f → ∀ (dp : Nat) (w : rW) (i j : Nat) (g : Fo) (σ : Nat → Option Fo), fLev f < dp → Lt w i f → Lt w j g → lo ≤ j → j + tln g ≤ hi → Mz lo hi w σ → ∃ w', fX12_goes dp (iI i) (iI j) w = some (iB (fMt f g σ).isSome, w') ∧ Rq PtA NoF w w' ∧ ∀ τ, fMt f g σ = some τ → Mz lo hi w' τ := by
  have e1 : ∀ n : Nat, iI (n : Int) + 1 = iI (n + 1 : Nat) := fun n => by rw [iL_1, iI_add]; rfl
  have bo : ∀ {w : rW} {i : Nat} {f : Fo}, Lt w i f → i < 10000 := fun h => by have := h.2.2.1; have := (lev_tl _ h.1).2; omega
  -- two parts
  have two : ∀ (a b : Fo) (s : Nat), s = 118 ∨ s = 62 → (∀ (dp : Nat) (w : rW) (i j : Nat) (g : Fo) (σ : Nat → Option Fo), fLev a < dp → Lt w i a → Lt w j g → lo ≤ j → j + tln g ≤ hi → Mz lo hi w σ → ∃ w', fX12_goes dp (iI i) (iI j) w = some (iB (fMt a g σ).isSome, w') ∧ Rq PtA NoF w w' ∧ ∀ τ, fMt a g σ = some τ → Mz lo hi w' τ) → (∀ (dp : Nat) (w : rW) (i j : Nat) (g : Fo) (σ : Nat → Option Fo), fLev b < dp → Lt w i b → Lt w j g → lo ≤ j → j + tln g ≤ hi → Mz lo hi w σ → ∃ w', fX12_goes dp (iI i) (iI j) w = some (iB (fMt b g σ).isSome, w') ∧ Rq PtA NoF w w' ∧ ∀ τ, fMt b g σ = some τ → Mz lo hi w' τ) →
      ∀ (dp : Nat) (w : rW) (i j : Nat) (c d : Fo) (σ : Nat → Option Fo), 1 + max (fLev a) (fLev b) < dp + 1 → rA w 0 i = iI (40 : Nat) → i < 10000 → Lt w (i + 1) a → rA w 0 (i + 1 + tln a) = iI s → Lt w (i + 1 + tln a + 1) b → i + 1 + tln a < 10000 → rA w 0 j = iI (40 : Nat) → j < 10000 → Lt w (j + 1) c → rA w 0 (j + 1 + tln c) = iI s → Lt w (j + 1 + tln c + 1) d → j + 1 + tln c < 10000 → lo ≤ j → j + tln c + tln d + 2 ≤ hi → Mz lo hi w σ →
      ∃ w', fX12_goes (dp + 1) (iI i) (iI j) w = some (iB ((fMt a c σ).bind (fMt b d)).isSome, w') ∧ Rq PtA NoF w w' ∧ ∀ τ, (fMt a c σ).bind (fMt b d) = some τ → Mz lo hi w' τ := by
    intro a b s hs ha hb dp w i j c d σ hd q1 qi q2 q3 q4 q5 p1 pj p2 p3 p4 p5 hlo hhi hp
    obtain ⟨w1, g1, r1, m1⟩ := ha dp w (i + 1) (j + 1) c σ (by omega) q2 p2 (by omega) (by omega) hp
    have run : fX12_goes (dp + 1) (iI i) (iI j) w = kb2 (some (iB (fMt a c σ).isSome, w1)) fun v13 w11 =>
  if v13 = 0 then
  some ((0 : Int32), w11)
  else
  kb2 (fX12_goes dp (iI (i + 1 + tln a + 1 : Nat)) (iI (j + 1 + tln c + 1 : Nat)) w11) fun v16 w14 =>
  if v16 = 0 then
  some ((0 : Int32), w14)
  else
  some ((1 : Int32), w14) := by
      rw [fX12_goes, raN qi (by omega), Option.bind_some, q1, isLetter_not (by omega), Option.bind_some, if_pos iB_fz, raN pj (by omega), Option.bind_some, p1, if_pos rfl, if_neg (by decide +kernel), e1, e1, q2.end, Option.bind_some, p2.end, Option.bind_some, raN q5 (by omega), Option.bind_some, raN p5 (by omega), Option.bind_some, q3, p3, if_pos rfl, g1, e1, e1]
    rw [run, kb2_s]
    cases hm : fMt a c σ with
    | none =>
      rw [if_pos (show iB (none : Option (Nat → Option Fo)).isSome = 0 from rfl)]
      exact ⟨w1, rfl, r1, fun τ e => by cases e⟩
    | some τ =>
      rw [if_neg (show ¬ iB (some τ).isSome = 0 from iB_tn)]
      obtain ⟨w2, g2, r2, m2⟩ := hb dp w1 _ _ d τ (by omega) (q4.pt r1) (p4.pt r1) (by omega) (by omega) (m1 τ hm)
      rw [g2, kb2_s]
      refine ⟨w2, ?_, r1.tr r2, fun τ' e => m2 τ' e⟩
      show _ = some (iB (fMt b d τ).isSome, w2)
      cases (fMt b d τ).isSome with
      | false => rw [if_pos iB_fz]; rfl
      | true => rw [if_neg iB_tn]; rfl
  -- two signs that differ
  have dif : ∀ (dp : Nat) (w : rW) (i j c d : Nat), rA w 0 i = iI c → rA w 0 j = iI d → i < 10000 → j < 10000 → isL c = false → c < 200 → d < 200 → c ≠ d → fX12_goes (dp + 1) (iI i) (iI j) w = some (0, w) := by
    intro dp w i j c d h1 h2 hi hj hc c2 d2 hcd
    rw [fX12_goes, raN hi (by omega), Option.bind_some, h1, isLetter_ok (by omega), Option.bind_some, hc, if_pos iB_fz, raN hj (by omega), Option.bind_some, h2, if_neg (by rw [iI_eq (by omega) (by omega) (by omega) (by omega)]; omega)]
  have sg : ∀ (dp : Nat) (w : rW) (i j : Nat) (a c : Fo) (s s' : Nat), s < 200 → s' < 200 → s ≠ s' → rA w 0 i = iI (40 : Nat) → i < 10000 → Lt w (i + 1) a → rA w 0 (i + 1 + tln a) = iI s → i + 1 + tln a < 10000 → rA w 0 j = iI (40 : Nat) → j < 10000 → Lt w (j + 1) c → rA w 0 (j + 1 + tln c) = iI s' → j + 1 + tln c < 10000 → fX12_goes (dp + 1) (iI i) (iI j) w = some (0, w) := by
    intro dp w i j a c s s' s2 s3 ne q1 qi q2 q3 q5 p1 pj p2 p3 p5
    rw [fX12_goes, raN qi (by omega), Option.bind_some, q1, isLetter_not (by omega), Option.bind_some, if_pos iB_fz, raN pj (by omega), Option.bind_some, p1, if_pos rfl, if_neg (by decide +kernel), e1, e1, q2.end, Option.bind_some, p2.end, Option.bind_some, raN q5 (by omega), Option.bind_some, raN p5 (by omega), Option.bind_some, q3, p3, if_neg (by rw [iI_eq (by omega) (by omega) (by omega) (by omega)]; omega)]
  have l126 : isL 126 = false := by decide
  have l40 : isL 40 = false := by decide
  apply fInd
  · intro k hk dp w i j g σ hd h hg hlo hhi hp
    obtain ⟨dp, rfl⟩ : ∃ n, dp = n + 1 := ⟨dp - 1, by omega⟩
    obtain ⟨p1, p2⟩ := hp k hk
    have ek : iI ((112 + k : Nat) : Int) - (112 : Int32) = iI k := by rw [iL_112, iI_sub]; congr 1; omega
    rw [fX12_goes, raN (bo h) (by omega), Option.bind_some, h.va.1, isLetter_var hk, Option.bind_some, if_neg iB_tn, hg.end, Option.bind_some, ek, raN hk (by omega), Option.bind_some]
    show ∃ w', _ = some (iB (match σ k with
      | none => some (fun j => if j = k then some g else σ j)
      | some c => if fEq c g then some σ else none).isSome, w') ∧ Rq PtA NoF w w' ∧ ∀ τ, (match σ k with
      | none => some (fun j => if j = k then some g else σ j)
      | some c => if fEq c g then some σ else none) = some τ → Mz lo hi w' τ
    cases hs : σ k with
    | none =>
      have r1 : Rq PtA NoF w (rSA w 10 k (iI j)) := Rq.sa (Or.inl rfl)
      have r2 : Rq PtA NoF (rSA w 10 k (iI j)) (rSA (rSA w 10 k (iI j)) 11 k (iI (j + tln g : Nat))) := Rq.sa (Or.inr rfl)
      rw [p1 hs, if_pos (by decide +kernel), rsN hk (by omega), Option.bind_some, rsN hk (by omega), Option.bind_some]
      refine ⟨_, rfl, r1.tr r2, fun τ e => ?_⟩
      cases e
      intro m hm
      show ((if m = k then some g else σ m) = none → _) ∧ ∀ c, (if m = k then some g else σ m) = some c → _
      by_cases cm : m = k
      · subst cm
        rw [if_pos rfl]
        refine ⟨fun z => (by cases z), fun c z => ?_⟩
        cases z
        refine ⟨j, ?_, rA_SA_s, hg.pt (r1.tr r2), hlo, hhi⟩
        rw [rA_SA_o (by omega), rA_SA_s]
      · rw [if_neg cm]
        obtain ⟨u1, u2⟩ := hp m hm
        refine ⟨fun z => ?_, fun c z => ?_⟩
        · rw [rA_SA_o (by omega), rA_SA_j cm]; exact u1 z
        · obtain ⟨p, v1, v2, v3, v4⟩ := u2 c z
          exact ⟨p, by rw [rA_SA_o (by omega), rA_SA_j cm]; exact v1, by rw [rA_SA_j cm, rA_SA_o (by omega)]; exact v2, v3.pt (r1.tr r2), v4⟩
    | some c =>
      obtain ⟨p, v1, v2, v3, v4⟩ := p2 c hs
      have hb := bo v3
      rw [v1, if_neg (by rw [iL_0, iI_lt (by omega) (by omega) (by omega) (by omega)]; omega), Option.bind_some, raN hk (by omega), Option.bind_some, v2, v3.same hg, Option.bind_some, kBl_B, Option.bind_some]
      refine ⟨w, ?_, Rq.rf w, fun τ e => ?_⟩
      · show _ = some (iB (if fEq c g then some σ else none).isSome, w)
        cases fEq c g <;> rfl
      · have e' : (if fEq c g then some σ else none) = some τ := e
        by_cases cg : fEq c g = true
        · rw [if_pos cg] at e'
          cases e'
          exact hp
        · rw [if_neg cg] at e'
          cases e'
  · intro a _ ih dp w i j g σ hd h hg hlo hhi hp
    obtain ⟨dp, rfl⟩ : ∃ n, dp = n + 1 := ⟨dp - 1, by omega⟩
    have hd' : 1 + fLev a < dp + 1 := hd
    obtain ⟨q1, q2⟩ := h.nx
    rcases fCases hg.1 with ⟨k, hk, rfl⟩ | ⟨c, hc, rfl⟩ | ⟨c, d, hc, hdd, rfl⟩ | ⟨c, d, hc, hdd, rfl⟩
    · exact ⟨w, dif dp w i j 126 (112 + k) q1 hg.va.1 (bo h) (bo hg) l126 (by omega) (by omega) (by omega), Rq.rf w, fun τ e => by cases e⟩
    · rw [tln_neg] at hhi
      obtain ⟨w1, g1, r1, m1⟩ := ih dp w (i + 1) (j + 1) c σ (by omega) q2 hg.nx.2 (by omega) (by omega) hp
      refine ⟨w1, ?_, r1, m1⟩
      rw [fX12_goes, raN (bo h) (by omega), Option.bind_some, q1, isLetter_not (by omega), Option.bind_some, if_pos iB_fz, raN (bo hg) (by omega), Option.bind_some, hg.nx.1, if_pos rfl, if_pos (by decide +kernel), e1, e1, g1, kb2_s, kBl_B, Option.bind_some]
      rfl
    · exact ⟨w, dif dp w i j 126 40 q1 hg.ad.1 (bo h) (bo hg) l126 (by omega) (by omega) (by omega), Rq.rf w, fun τ e => by cases e⟩
    · exact ⟨w, dif dp w i j 126 40 q1 hg.su.1 (bo h) (bo hg) l126 (by omega) (by omega) (by omega), Rq.rf w, fun τ e => by cases e⟩
  · intro a b _ _ ha hb dp w i j g σ hd h hg hlo hhi hp
    obtain ⟨dp, rfl⟩ : ∃ n, dp = n + 1 := ⟨dp - 1, by omega⟩
    have hd' : 1 + max (fLev a) (fLev b) < dp + 1 := hd
    obtain ⟨q1, q2, q3, q4, q5⟩ := h.ad
    rcases fCases hg.1 with ⟨k, hk, rfl⟩ | ⟨c, hc, rfl⟩ | ⟨c, d, hc, hdd, rfl⟩ | ⟨c, d, hc, hdd, rfl⟩
    · exact ⟨w, dif dp w i j 40 (112 + k) q1 hg.va.1 (bo h) (bo hg) l40 (by omega) (by omega) (by omega), Rq.rf w, fun τ e => by cases e⟩
    · exact ⟨w, dif dp w i j 40 126 q1 hg.nx.1 (bo h) (bo hg) l40 (by omega) (by omega) (by omega), Rq.rf w, fun τ e => by cases e⟩
    · obtain ⟨p1, p2, p3, p4, p5⟩ := hg.ad
      rw [tln_add] at hhi
      exact two a b 118 (Or.inl rfl) ha hb dp w i j c d σ hd' q1 (bo h) q2 q3 q4 (by omega) p1 (bo hg) p2 p3 p4 (by omega) hlo (by omega) hp
    · obtain ⟨p1, p2, p3, p4, p5⟩ := hg.su
      exact ⟨w, sg dp w i j a c 118 62 (by omega) (by omega) (by omega) q1 (bo h) q2 q3 (by omega) p1 (bo hg) p2 p3 (by omega), Rq.rf w, fun τ e => by cases e⟩
  · intro a b _ _ ha hb dp w i j g σ hd h hg hlo hhi hp
    obtain ⟨dp, rfl⟩ : ∃ n, dp = n + 1 := ⟨dp - 1, by omega⟩
    have hd' : 1 + max (fLev a) (fLev b) < dp + 1 := hd
    obtain ⟨q1, q2, q3, q4, q5⟩ := h.su
    rcases fCases hg.1 with ⟨k, hk, rfl⟩ | ⟨c, hc, rfl⟩ | ⟨c, d, hc, hdd, rfl⟩ | ⟨c, d, hc, hdd, rfl⟩
    · exact ⟨w, dif dp w i j 40 (112 + k) q1 hg.va.1 (bo h) (bo hg) l40 (by omega) (by omega) (by omega), Rq.rf w, fun τ e => by cases e⟩
    · exact ⟨w, dif dp w i j 40 126 q1 hg.nx.1 (bo h) (bo hg) l40 (by omega) (by omega) (by omega), Rq.rf w, fun τ e => by cases e⟩
    · obtain ⟨p1, p2, p3, p4, p5⟩ := hg.ad
      exact ⟨w, sg dp w i j a c 62 118 (by omega) (by omega) (by omega) q1 (bo h) q2 q3 (by omega) p1 (bo hg) p2 p3 (by omega), Rq.rf w, fun τ e => by cases e⟩
    · obtain ⟨p1, p2, p3, p4, p5⟩ := hg.su
      rw [tln_sub] at hhi
      exact two a b 62 (Or.inr rfl) ha hb dp w i j c d σ hd' q1 (bo h) q2 q3 q4 (by omega) p1 (bo hg) p2 p3 p4 (by omega) hlo (by omega) hp
theorem comesZ_ok {w : rW} {i j lo hi : Nat} {f g : Fo} (h : Lt w i f) (hg : Lt w j g) (hlo : lo ≤ j) (hhi : j + tln g ≤ hi) : ∃ w', fX12_comes (iI i) (iI j) w = some (iB (fMt f g σ0).isSome, w') ∧ Rq PtA NoF w w' ∧ ∀ τ, fMt f g σ0 = some τ → Mz lo hi w' τ := by
  obtain ⟨w1, e1, r1, m1⟩ := forgets_ok w
  obtain ⟨w2, e2, r2, m2⟩ := goesZ_ok (lo := lo) (hi := hi) f h.1 kDP w1 i j g σ0 h.2.2.2 (h.pt r1) (hg.pt r1) hlo hhi (fun k hk => ⟨(m1 k hk).1, fun c z => by cases z⟩)
  refine ⟨w2, ?_, r1.tr r2, m2⟩
  rw [fX12_comes, e1, Option.bind_some, e2, kb2_s, kBl_B, Option.bind_some]
