/-! good states; the reference: times, apply, needed -/
def okRw (n q : Int) (f : Int → Int) : Prop := ∀ j, 0 ≤ j → j < 36 → (0 ≤ f j ∧ f j < q) ∧ (n ≤ j → f j = 0)
def okPr (n k : Int) (f : Int → Int) : Prop := (0 ≤ k ∧ k ≤ 100) ∧ ∀ j, 0 ≤ j → j < k → 0 ≤ f j ∧ f j < n
def okTp (k : Int) (f : Int → Int) : Prop := (0 ≤ k ∧ k ≤ 500) ∧ ∀ j, 0 ≤ j → j < k → 0 ≤ f j ∧ f j < 256
def okSl (n q : Int) (u f : Int → Int) : Prop := ∀ s, 0 ≤ s → s < 4 → (u s = 0 ∨ u s = 1) ∧ (u s ≠ 0 → ∀ j, 0 ≤ j → j < 36 → (0 ≤ f (36 * s + j) ∧ f (36 * s + j) < q) ∧ (n ≤ j → f (36 * s + j) = 0))
theorem Wf.jm {σ : Mu} (h : Wf σ) : ∀ x, 0 ≤ x → x < 36 → σ 2 x = 0 ∨ σ 2 x = 1 := h.2.2.2.2.2.2.1
theorem Wf.st {σ : Mu} (h : Wf σ) : okRw (σ 0 0) (σ 0 1) (σ 3) := h.2.2.2.2.2.2.2.1
theorem Wf.wi {σ : Mu} (h : Wf σ) : okRw (σ 0 0) (σ 0 1) (σ 4) := h.2.2.2.2.2.2.2.2.1
theorem Wf.pr {σ : Mu} (h : Wf σ) : okPr (σ 0 0) (σ 0 5) (σ 5) := ⟨h.2.2.2.1, h.2.2.2.2.2.2.2.2.2.1⟩
theorem Wf.tp {σ : Mu} (h : Wf σ) : okTp (σ 0 6) (σ 6) := ⟨h.2.2.2.2.1, h.2.2.2.2.2.2.2.2.2.2.1⟩
theorem Wf.sl {σ : Mu} (h : Wf σ) : okSl (σ 0 0) (σ 0 1) (σ 7) (σ 8) := h.2.2.2.2.2.2.2.2.2.2.2.1
theorem Wf.rw {σ : Mu} (h : Wf σ) : σ 0 8 ≠ 0 → inQ (σ 0 0) (σ 0 1) (σ 9) := h.2.2.2.2.2.2.2.2.2.2.2.2.1
theorem Wf.nr {σ : Mu} (h : Wf σ) : σ 0 9 ≠ 0 → inQ (σ 0 0) (σ 0 1) (σ 10) := h.2.2.2.2.2.2.2.2.2.2.2.2.2
theorem Wf.am {σ : Mu} (h : Wf σ) : ∀ x, 0 ≤ x → x < σ 0 0 → inQ (σ 0 0) (σ 0 1) (sA σ x) := h.2.2.2.2.2.1
theorem Wf.upd {σ σ' : Mu} (hW : Wf σ) (e0 : ∀ k, 0 ≤ k → k ≤ 4 → σ' 0 k = σ 0 k) (e1 : σ' 1 = σ 1) (e2 : ∀ x, 0 ≤ x → x < 36 → σ' 2 x = 0 ∨ σ' 2 x = 1) (e3 : okRw (σ 0 0) (σ 0 1) (σ' 3)) (e4 : okRw (σ 0 0) (σ 0 1) (σ' 4)) (e5 : okPr (σ 0 0) (σ' 0 5) (σ' 5)) (e6 : okTp (σ' 0 6) (σ' 6)) (e7 : okSl (σ 0 0) (σ 0 1) (σ' 7) (σ' 8)) (e8 : σ' 0 8 ≠ 0 → inQ (σ 0 0) (σ 0 1) (σ' 9)) (e9 : σ' 0 9 ≠ 0 → inQ (σ 0 0) (σ 0 1) (σ' 10)) : Wf σ' := by
  unfold Wf
  rw [e0 0 (by decide) (by decide), e0 1 (by decide) (by decide), e0 2 (by decide) (by decide), e0 3 (by decide) (by decide), e0 4 (by decide) (by decide), sA_c e1]
  exact ⟨hW.1, hW.2.1, hW.2.2.1, e5.1, e6.1, hW.am, e2, e3, e4, e5.2, e6.2, e7, e8, e9⟩
theorem okRw_step {n q : Int} {f g : Int → Int} (hf : okRw n q f) (hq : 0 < q) (h0 : ∀ j, 0 ≤ j → j < 36 → g j = f j ∨ (j < n ∧ ∃ z, g j = z % q)) : okRw n q g := fun j z1 z2 => by
  rcases h0 j z1 z2 with e | ⟨e1, z, e2⟩
  · rw [e]; exact hf j z1 z2
  · rw [e2]
    exact ⟨⟨Int.emod_nonneg _ (by omega), Int.emod_lt_of_pos _ hq⟩, fun w => by omega⟩
theorem prsF_keep {σ : Mu} {x k j : Int} (h0 : k = 0 → j ≠ 5) (h3 : k ≠ 3) (h5 : k ≠ 5) : prsF σ x k j = σ k j := by
  unfold prsF
  split <;> simp (disch := first | assumption | omega) only [row_off, row_in, row_out, up_same, up_ne]
theorem prsF_3 {σ : Mu} {x j : Int} : prsF σ x 3 j = if 0 ≤ j ∧ j < σ 0 0 then (σ 3 j + sA σ x j) % σ 0 1 else σ 3 j := by
  unfold prsF
  split
  · rw [row_off (by decide)]
    unfold row
    simp only [true_and]
  · rw [up_ne (by omega), up_ne (by omega)]
    unfold row
    simp only [true_and]
theorem prsF_fn {σ : Mu} {x k : Int} (h0 : k ≠ 0) (h3 : k ≠ 3) (h5 : k ≠ 5) : prsF σ x k = σ k := by
  funext j
  exact prsF_keep (fun e => absurd e h0) h3 h5
theorem Wf.prs {σ : Mu} (hW : Wf σ) {x : Int} (hx : isL σ x) : Wf (prsF σ x) := by
  have hq := hW.2.1.b
  have hp := hW.pr
  refine Wf.upd hW (fun k z1 z2 => prsF_keep (fun _ => by omega) (by omega) (by omega)) (prsF_fn (by decide) (by decide) (by decide)) (by rw [prsF_fn (by decide) (by decide) (by decide)]; exact hW.jm) (okRw_step hW.st (by omega) (fun j z1 z2 => ?_)) (by rw [prsF_fn (by decide) (by decide) (by decide)]; exact hW.wi) ?_ (by rw [prsF_keep (k := 0) (by decide) (by decide) (by decide), prsF_fn (by decide) (by decide) (by decide)]; exact hW.tp) (by rw [prsF_fn (by decide) (by decide) (by decide), prsF_fn (by decide) (by decide) (by decide)]; exact hW.sl) (by rw [prsF_keep (k := 0) (by decide) (by decide) (by decide), prsF_fn (by decide) (by decide) (by decide)]; exact hW.rw) (by rw [prsF_keep (k := 0) (by decide) (by decide) (by decide), prsF_fn (by decide) (by decide) (by decide)]; exact hW.nr)
  · rw [prsF_3]
    split
    · exact Or.inr ⟨by omega, _, rfl⟩
    · exact Or.inl rfl
  · unfold prsF
    split
    · rename_i e
      refine ⟨by simp (disch := first | assumption | omega) only [row_off, row_in, row_out, up_same, up_ne]; exact hp.1, fun j z1 z2 => ?_⟩
      have z3 : j < 100 := by
        rw [row_off (by decide), row_off (by decide), e] at z2
        exact z2
      rw [row_in ⟨z1, z3⟩]
      split
      · exact hx
      · exact hp.2 (j + 1) (by omega) (by omega)
    · rename_i e
      have := hp.1
      refine ⟨by rw [up_same]; omega, fun j z1 z2 => ?_⟩
      rw [up_same] at z2
      rw [up_ne (by omega)]
      by_cases e2 : j = σ 0 5
      · rw [e2, up_same]; exact hx
      · simp (disch := first | assumption | omega) only [row_off, row_in, row_out, up_same, up_ne]
        exact hp.2 j z1 (by omega)
/-- so many presses -/
def prsN (σ : Mu) (x : Int) : Nat → Mu
  | 0 => σ
  | k + 1 => prsF (prsN σ x k) x
theorem prsN_keep {σ : Mu} {x k j : Int} (h0 : k = 0 → j ≠ 5) (h3 : k ≠ 3) (h5 : k ≠ 5) : ∀ i : Nat, prsN σ x i k j = σ k j
  | 0 => rfl
  | i + 1 => by
    show prsF (prsN σ x i) x k j = _
    rw [prsF_keep h0 h3 h5, prsN_keep h0 h3 h5 i]
theorem Wf.prsN {σ : Mu} (hW : Wf σ) {x : Int} (hx : isL σ x) : ∀ i : Nat, Wf (prsN σ x i)
  | 0 => hW
  | i + 1 => (hW.prsN hx i).prs (by unfold isL; rw [prsN_keep (by decide) (by decide) (by decide)]; exact hx)
def aplF (σ : Mu) (i : Int) : Mu := foldI (fun s y => if σ 2 y = 0 then prsN s y (σ 9 y).toNat else s) σ i
def aplC (σ : Mu) (i : Int) : Int := foldI (fun v y => if σ 2 y = 0 then v + σ 9 y else v) 0 i
theorem aplF_ok {σ : Mu} (hW : Wf σ) : ∀ i, 0 ≤ i → i ≤ σ 0 0 → Wf (aplF σ i) ∧ ∀ k j, (k = 0 → j ≠ 5) → k ≠ 3 → k ≠ 5 → aplF σ i k j = σ k j :=
  foldI_ind (P := fun i s => Wf s ∧ ∀ k j, (k = 0 → j ≠ 5) → k ≠ 3 → k ≠ 5 → s k j = σ k j) ⟨hW, fun _ _ _ _ _ => rfl⟩ (fun i s h0 h1 ⟨h2, h3⟩ => by
    split
    · refine ⟨h2.prsN (by unfold isL; rw [h3 _ _ (by decide) (by decide) (by decide)]; exact ⟨h0, h1⟩) _, fun k j z1 z2 z3 => ?_⟩
      rw [prsN_keep z1 z2 z3, h3 k j z1 z2 z3]
    · exact ⟨h2, h3⟩)
theorem aplC_b {σ : Mu} (hW : Wf σ) (h8 : σ 0 8 ≠ 0) : ∀ i, 0 ≤ i → i ≤ σ 0 0 → 0 ≤ aplC σ i ∧ aplC σ i ≤ 5 * i :=
  foldI_ind (P := fun i x => 0 ≤ x ∧ x ≤ 5 * i) (by omega) (fun i x h0 h1 hx => by
    have := hW.rw h8 i h0 h1
    have := hW.2.1.b
    split <;> omega)
section MApply
variable {l : Launch} {G : Gx} {γ μ σ : Mu}
theorem m_times (hl : l.stackTraces = false) (d : Nat) (hd : 0 < d) {b x : Int} (hS : ModS G b) (hG : ModG γ b) (hR : RepR μ b σ) (hW : Wf σ) : Cn l G yX9_times cX9_times 2 (some .int) d 0 [aR b, aI x] γ μ (PR μ γ b σ (if isL σ x ∧ σ 0 8 ≠ 0 then σ 9 x else 0) (if isL σ x ∧ σ 0 8 ≠ 0 then 0 else 1)) := by
  refine Cn.ofP hl (plainFor_of_name (by decide)) (noLc nlR (noL1 nlI)) rfl (fun P hP o1 o3 X hX hC => B_X9_times_0 hC hS.o ?_)
  obtain ⟨r1, r2, r3, r4, r5, r6, r7, r8, r9, r10, ra1, ra2, ra3, ra4, ra5, ra6, ra7, ra8, ra9, ra10, rk, rh⟩ := id hR
  have hn := hW.1
  have s24 := ms24 hS
  have bad : ¬ (isL σ x ∧ σ 0 8 ≠ 0) → V X G (Qm X G 0 P) 0 30 [aR b, aI x] [aI 0] γ (up (up μ b 0 0) b 0 1) := fun hx => by
    refine B_X9_times_30 hC hS.o ?_
    (repeat' (first | (with_reducible exact ixO (by assumption) (by omega)) | with_reducible apply And.intro | with_reducible intro)) <;> (try first | omega | (with_reducible apply Nat.le_refl) | rfl | exact absurd trivial (by assumption))
    exact hP _ _ _ ⟨by rw [if_neg hx], rfl, by rw [if_neg hx]; exact up_same, (hR.t hW).t hW, frB_up (frB_up frB_rf (by omega)) (by omega)⟩
  refine ⟨0, 0, _, by omega, Nat.le_refl _, hX ▸ m_isLamp hl 0 hS (by first | assumption | (simp (disch := first | assumption | omega) only [row_off, row_in, row_out, up_same, up_ne, cpy_off, rwo_off, rwo_at, rwo_out, mg6, mg7, mg8, mg9, mg10, mg12, mg30, mg31, mg32, mg33, mg35, mg36, mg37, mg38, mg39, mg43, mg44, mg45, mg46, mg47, mg48, mg49, mg50, mg53, mg54, mg55, mg56, mg57, mg58, mg59, mg60, mg65, mg66, mg67, mg68, mg69, mg70, mg71, mg72] ; assumption)), PI.use ?_⟩
  by_cases hx : isL σ x
  · rw [if_pos hx]
    refine B_X9_times_11 hC hS.o ⟨fun w => absurd w (by decide), fun _ => ?_⟩
    simp (disch := first | assumption | omega) only [row_off, row_in, row_out, up_same, up_ne, cpy_off, rwo_off, rwo_at, rwo_out, mg6, mg7, mg8, mg9, mg10, mg12, mg30, mg31, mg32, mg33, mg35, mg36, mg37, mg38, mg39, mg43, mg44, mg45, mg46, mg47, mg48, mg49, mg50, mg53, mg54, mg55, mg56, mg57, mg58, mg59, mg60, mg65, mg66, mg67, mg68, mg69, mg70, mg71, mg72, r9]
    refine ⟨fun h8 => ⟨hS.o, ?_⟩, fun h8 => ⟨hS.o, ?_⟩⟩
    · refine ⟨0, 0, _, by omega, Nat.le_refl _, hX ▸ m_right hl 0 hS (by first | exact up_same | assumption | (simp (disch := first | assumption | omega) only [row_off, row_in, row_out, up_same, up_ne, cpy_off, rwo_off, rwo_at, rwo_out, mg6, mg7, mg8, mg9, mg10, mg12, mg30, mg31, mg32, mg33, mg35, mg36, mg37, mg38, mg39, mg43, mg44, mg45, mg46, mg47, mg48, mg49, mg50, mg53, mg54, mg55, mg56, mg57, mg58, mg59, mg60, mg65, mg66, mg67, mg68, mg69, mg70, mg71, mg72] ; done)), PI.use ?_⟩
      rw [if_pos rfl, if_pos rfl]
      exact bad (fun w => w.2 h8)
    · refine ⟨0, 0, _, by omega, Nat.le_refl _, hX ▸ m_right hl 0 hS (by first | exact up_same | assumption | (simp (disch := first | assumption | omega) only [row_off, row_in, row_out, up_same, up_ne, cpy_off, rwo_off, rwo_at, rwo_out, mg6, mg7, mg8, mg9, mg10, mg12, mg30, mg31, mg32, mg33, mg35, mg36, mg37, mg38, mg39, mg43, mg44, mg45, mg46, mg47, mg48, mg49, mg50, mg53, mg54, mg55, mg56, mg57, mg58, mg59, mg60, mg65, mg66, mg67, mg68, mg69, mg70, mg71, mg72] ; done)), PI.use ?_⟩
      rw [if_neg (by decide), if_neg (by decide)]
      refine B_X9_times_30 hC hS.o ?_
      simp (disch := first | assumption | omega) only [row_off, row_in, row_out, up_same, up_ne, cpy_off, rwo_off, rwo_at, rwo_out, mg6, mg7, mg8, mg9, mg10, mg12, mg30, mg31, mg32, mg33, mg35, mg36, mg37, mg38, mg39, mg43, mg44, mg45, mg46, mg47, mg48, mg49, mg50, mg53, mg54, mg55, mg56, mg57, mg58, mg59, mg60, mg65, mg66, mg67, mg68, mg69, mg70, mg71, mg72, ra9 h8 x hx.1 hx.2]
      (repeat' (first | (with_reducible exact ixO (by assumption) (by omega)) | with_reducible apply And.intro | with_reducible intro)) <;> (try first | omega | (with_reducible apply Nat.le_refl) | rfl | exact absurd trivial (by assumption))
      exact hP _ _ _ ⟨by rw [if_pos ⟨hx, h8⟩], rfl, by rw [if_pos ⟨hx, h8⟩]; exact up_same, hR.t hW, frB_up frB_rf (by omega)⟩
  · rw [if_neg hx]
    refine B_X9_times_11 hC hS.o ⟨fun _ => ⟨hS.o, ?_⟩, fun w => absurd rfl w⟩
    refine ⟨0, 0, _, by omega, Nat.le_refl _, hX ▸ m_right hl 0 hS (by first | exact up_same | assumption | (simp (disch := first | assumption | omega) only [row_off, row_in, row_out, up_same, up_ne, cpy_off, rwo_off, rwo_at, rwo_out, mg6, mg7, mg8, mg9, mg10, mg12, mg30, mg31, mg32, mg33, mg35, mg36, mg37, mg38, mg39, mg43, mg44, mg45, mg46, mg47, mg48, mg49, mg50, mg53, mg54, mg55, mg56, mg57, mg58, mg59, mg60, mg65, mg66, mg67, mg68, mg69, mg70, mg71, mg72] ; done)), PI.use ?_⟩
    rw [if_pos rfl, if_pos rfl]
    exact bad (fun w => hx w.1)
theorem m_apply (hl : l.stackTraces = false) (d : Nat) (hd : 0 < d) {b : Int} (hS : ModS G b) (hG : ModG γ b) (hR : RepR μ b σ) (hW : Wf σ) : Cn l G yX9_apply cX9_apply 4 (some .int) d 0 [aR b] γ μ (PR μ γ b (if σ 0 8 = 0 then σ else aplF σ (σ 0 0)) (if σ 0 8 = 0 then -1 else aplC σ (σ 0 0)) 0) := by
  refine Cn.ofP hl (plainFor_of_name (by decide)) (noL1 nlR) rfl (fun P hP o1 o3 X hX hC => B_X9_apply_0 hC hS.o ?_)
  have hn := hW.1
  have hqb := hW.2.1.b
  have s2 := ms2 hS; have s24 := ms24 hS
  rw [hR.2.2.2.2.2.2.2.2.1]
  refine ⟨fun h8 => ?_, fun h8 => ⟨Nat.le_refl _, hP _ _ _ ⟨by rw [if_pos h8], rfl, up_same, by rw [if_pos h8]; exact hR.t hW, frB_up frB_rf (by omega)⟩⟩⟩
  have loop := rem_ind (n := σ 0 0) (P := fun i => ∀ m, RepR m b (aplF σ i) → m b 0 = 0 → frB μ m b (b + 40) → V X G (Qm X G 0 P) 0 18 [aR b, aI (aplC σ i), aI i, aD] [] γ m) (fun i h0 h1 ih m mR m0 mf => ?_)
  · exact loop 0 (by omega) (by omega) _ (hR.t hW) up_same (frB_up frB_rf (by omega))
  · obtain ⟨g1, g2⟩ := aplF_ok hW i h0 h1
    have gc := aplC_b hW h8 i h0 h1
    have e1 : m b 1 = σ 0 0 := by rw [mR.1, g2 _ _ (by omega) (by omega) (by omega)]
    rcases Int.lt_or_le i (σ 0 0) with hi | hi
    · have hrw := hW.rw h8 i h0 hi
      have nxt : ∀ m, RepR m b (aplF σ (i + 1)) → m b 0 = 0 → frB μ m b (b + 40) → ∀ v, v = aplC σ (i + 1) → V X G (Qm X G 0 P) 0 18 [aR b, aI v, aI (i + 1), aD] [] γ m := fun m a1 a2 a3 v a4 => a4 ▸ ih hi m a1 a2 a3
      have es : aplF σ (i + 1) = if σ 2 i = 0 then prsN (aplF σ i) i (σ 9 i).toNat else aplF σ i := foldI_s h0
      have ec : aplC σ (i + 1) = if σ 2 i = 0 then aplC σ i + σ 9 i else aplC σ i := foldI_s h0
      have inner := rem_ind (n := σ 9 i) (P := fun k => ∀ m, (k = 0 ∨ σ 2 i = 0) → RepR m b (prsN (aplF σ i) i k.toNat) → m b 0 = 0 → frB μ m b (b + 40) → V X G (Qm X G 0 P) 0 28 [aR b, aI (aplC σ i + k), aI i, aI k] [] γ m) (fun k k0 k1 ihk m hkj mR m0 mf => ?_)
      · refine B_X9_apply_18 hC hS.o ⟨fun w => absurd (by rw [e1] at w; exact w) (by omega), fun _ => ?_⟩
        have h9 := inner 0 (by omega) (by omega) m (Or.inl rfl) mR m0 mf
        rw [Int.add_zero] at h9
        exact h9
      · have gw := g1.prsN (x := i) (by unfold isL; rw [g2 _ _ (by omega) (by omega) (by omega)]; exact ⟨h0, hi⟩) k.toNat
        have keep : ∀ y j, (y = 0 → j ≠ 5) → y ≠ 3 → y ≠ 5 → prsN (aplF σ i) i k.toNat y j = σ y j := fun y j z1 z2 z3 => by rw [prsN_keep z1 z2 z3, g2 y j z1 z2 z3]
        have hR9 := mR.2.2.2.2.2.2.2.2.2.2.2.2.2.2.2.2.2.2.1 (by rw [keep _ _ (by omega) (by omega) (by omega)]; exact h8) i h0 (by rw [keep _ _ (by omega) (by omega) (by omega)]; exact hi)
        rw [keep _ _ (by omega) (by omega) (by omega)] at hR9
        have hR2 := mR.2.2.2.2.2.2.2.2.2.2.2.1 i h0 (by omega)
        rw [keep _ _ (by omega) (by omega) (by omega)] at hR2
        refine B_X9_apply_28 hC hS.o ?_
        rw [mg53 hG, mg7 hG, hR9, hR2]
        refine ⟨ixO s24 (by omega), fun h => ⟨by constructor <;> omega, ?_⟩, fun h => ⟨ixO s2 (by omega), fun hj => ⟨by constructor <;> omega, ?_⟩, fun hj => ?_⟩⟩
        · obtain rfl : k = σ 9 i := by omega
          by_cases hj : σ 2 i = 0
          · exact nxt m (by rw [es, if_pos hj]; exact mR) m0 mf _ (by rw [ec, if_pos hj])
          · have e9 : σ 9 i = 0 := by omega
            rw [e9] at mR
            exact nxt m (by rw [es, if_neg hj]; exact mR) m0 mf _ (by rw [ec, if_neg hj, e9, Int.add_zero])
        · have e9 : k = 0 := by omega
          rw [e9] at mR
          exact nxt m (by rw [es, if_neg hj]; exact mR) m0 mf _ (by rw [ec, if_neg hj, e9, Int.add_zero])
        · refine ⟨0, 0, _, hd, Nat.le_refl _, hX ▸ m_pressOne hl 0 hS hG mR gw (by unfold isL; rw [keep _ _ (by omega) (by omega) (by omega)]; exact ⟨h0, hi⟩), ?_⟩
          rintro r γ m2 ⟨rfl, rfl, z3, z4, z5⟩
          refine B_X9_apply_52 hC hS.o ⟨by constructor <;> omega, by constructor <;> omega, ?_⟩
          rw [Int.add_assoc]
          refine ihk (by omega) m2 (Or.inr hj) ?_ (by rw [z3, m0]) (mf.t (fun y j hy => z5 y j (by omega) (by omega) (by omega)))
          rw [show (k + 1).toNat = k.toNat + 1 by omega]
          exact z4
    · obtain rfl : i = σ 0 0 := by omega
      refine B_X9_apply_18 hC hS.o ⟨fun _ => ⟨Nat.le_refl _, hP _ _ _ ⟨by rw [if_neg h8], rfl, m0, by rw [if_neg h8]; exact mR, mf⟩⟩, fun w => absurd (by rw [e1]; exact hi) w⟩
def freF (S : GS) (y : Int) : Int := anyI (fun i => S.tv i y) S.tc
def fresF (S : GS) (i : Int) : Int := foldI (fun v y => v + (if freF S y = 0 then 0 else 1)) 0 i
def ndsF (S : GS) (x0 : Int → Int) (i : Int) : Int := foldI (fun v y => v + (if freF S y = 0 ∧ x0 y ≠ 0 then 1 else 0)) 0 i
theorem fresF_b (S : GS) {n : Int} : ∀ i, 0 ≤ i → i ≤ n → 0 ≤ fresF S i ∧ fresF S i ≤ i := foldI_ind (P := fun i x => 0 ≤ x ∧ x ≤ i) (by omega) (fun i x h0 h1 hx => by split <;> omega)
theorem ndsF_b (S : GS) (x0 : Int → Int) {n : Int} : ∀ i, 0 ≤ i → i ≤ n → 0 ≤ ndsF S x0 i ∧ ndsF S x0 i ≤ i := foldI_ind (P := fun i x => 0 ≤ x ∧ x ≤ i) (by omega) (fun i x h0 h1 hx => by split <;> omega)
theorem m_needed (hl : l.stackTraces = false) (d : Nat) (hd : 2 < d) {b x : Int} (hS : ModS G b) (hG : ModG γ b) (hR : RepR μ b σ) (hW : Wf σ) : Cn l G yX9_needed cX9_needed 7 (some .int) d 0 [aR b, aI x] γ μ (PR μ γ b σ (if isSW x then (if ldF σ = -1 then (if x = 0 then ndsF (SbF σ) (x0F σ) (σ 0 0) else fresF (SbF σ) (σ 0 0)) else -1) else 0) (if isSW x then 0 else 1)) := by
  refine Cn.ofP hl (plainFor_of_name (by decide)) (noLc nlR (noL1 nlI)) rfl (fun P hP o1 o3 X hX hC => B_X9_needed_0 hC hS.o ?_)
  have hn := hW.1
  have hb1 := Sb_le hW
  have s19 := ms19 hS; have s25 := ms25 hS
  have good : isSW x → V X G (Qm X G 0 P) 0 24 [aR b, aI x, aD, aD, aD, aD, aD] [aI 1] γ (up μ b 0 0) := fun hx => by
    simp only [if_pos hx] at hP
    refine B_X9_needed_24 hC hS.o ⟨fun _ => ?_, fun w => absurd w (by decide)⟩
    refine ⟨2, 0, _, hd, Nat.le_refl _, hX ▸ m_knowsR hl 2 (by omega) hS hG (hR.t hW) hW, ?_⟩
    rintro r γ m0 ⟨rfl, rfl, z3, z4, z5, z6⟩
    have z0 : m0 b 0 = 0 := by rw [z3]; exact up_same
    have hfr : frB μ m0 b (b + 40) := (frB_up frB_rf (by omega)).t z6
    refine B_X9_needed_33 hC hS.o ?_
    refine ⟨1, 0, _, by omega, Nat.le_refl _, hX ▸ m_leads hl 1 (by omega) hS hG z4 hW z5, ?_⟩
    rintro r γ m1 ⟨rfl, rfl, w1, w2⟩
    obtain ⟨⟨k1, k2, k3⟩, k4, k5, k6, k7⟩ := z5.s
    have q0 : m1 b 0 = 0 := by rw [w2 _ _ (by omega) (by omega) (by omega), z0]
    have qR : RepR m1 b σ := z4.fr hW (fun x j h => w2 x j (by unfold keepR at h; omega) (by unfold keepR at h; omega) (by unfold keepR at h; omega))
    have qf : frB μ m1 b (b + 40) := hfr.t (fun x j h => w2 x j (by omega) (by omega) (by omega))
    have q1 : m1 b 1 = σ 0 0 := qR.1
    have q41 : m1 b 41 = (SbF σ).tc := by rw [w2 _ _ (by omega) (by omega) (by omega), k2]
    by_cases hld : ldF σ = -1
    case neg =>
      simp only [if_neg hld] at hP ⊢
      refine B_X9_needed_37 hC hS.o ?_
      (repeat' (first | (with_reducible exact ixO (by assumption) (by omega)) | with_reducible apply And.intro | with_reducible intro)) <;> (try first | omega | (with_reducible apply Nat.le_refl) | rfl | exact absurd trivial (by assumption))
      exact hP _ _ _ ⟨rfl, rfl, q0, qR, qf⟩
    simp only [if_pos hld] at hP ⊢
    have w1' := w1 hld
    refine B_X9_needed_37 hC hS.o ⟨fun _ => ?_, fun w => absurd w (by decide)⟩
    have loop := rem_ind (n := σ 0 0) (P := fun i => V X G (Qm X G 0 P) 0 49 [aR b, aI x, aI (ndsF (SbF σ) (x0F σ) i), aI (fresF (SbF σ) i), aI i, aD, aD] [] γ m1) (fun i h0 h1 ih => ?_)
    · exact loop 0 (by omega) (by omega)
    · have c1 := ndsF_b (SbF σ) (x0F σ) i h0 h1
      have c2 := fresF_b (SbF σ) i h0 h1
      rcases Int.lt_or_le i (σ 0 0) with hi | hi
      · have hih := ih hi
        have es : ndsF (SbF σ) (x0F σ) (i + 1) = ndsF (SbF σ) (x0F σ) i + (if freF (SbF σ) i = 0 ∧ x0F σ i ≠ 0 then 1 else 0) := foldI_s h0
        have ec : fresF (SbF σ) (i + 1) = fresF (SbF σ) i + (if freF (SbF σ) i = 0 then 0 else 1) := foldI_s h0
        rw [es, ec] at hih
        have tail : ∀ s0, s0 = (if freF (SbF σ) i = 0 then (0 : Int) else 1) → V X G (Qm X G 0 P) 0 118 [aR b, aI x, aI (ndsF (SbF σ) (x0F σ) i), aD, aI i, aI (freF (SbF σ) i), aD] [aI s0, aI (fresF (SbF σ) i)] γ m1 := fun s0 hs0 => by
          have hs1 : 0 ≤ s0 ∧ s0 ≤ 1 := by rw [hs0]; split <;> omega
          rw [← hs0] at hih
          refine B_X9_needed_118 hC hS.o ?_
          simp (disch := first | assumption | omega) only [row_off, row_in, row_out, up_same, up_ne, cpy_off, rwo_off, rwo_at, rwo_out, mg6, mg7, mg8, mg9, mg10, mg12, mg30, mg31, mg32, mg33, mg35, mg36, mg37, mg38, mg39, mg43, mg44, mg45, mg46, mg47, mg48, mg49, mg50, mg53, mg54, mg55, mg56, mg57, mg58, mg59, mg60, mg65, mg66, mg67, mg68, mg69, mg70, mg71, mg72, w1' i h0 hi]
          (repeat' (first | (with_reducible exact ixO (by assumption) (by omega)) | with_reducible apply And.intro | with_reducible intro)) <;> (try first | omega | (with_reducible apply Nat.le_refl) | rfl | exact absurd trivial (by assumption))
          · rename_i h
            rw [if_neg (fun w => h w.1)] at hih
            exact hih
          · rename_i h h2
            rw [if_neg (fun w => w.2 h2)] at hih
            exact hih
          · rename_i h h2
            rw [if_pos ⟨h, h2⟩] at hih
            exact hih
        have inner := rem_ind (n := ((SbF σ).tc : Int)) (P := fun j => V X G (Qm X G 0 P) 0 64 [aR b, aI x, aI (ndsF (SbF σ) (x0F σ) i), aI (fresF (SbF σ) i), aI i, aI (anyI (fun k => (SbF σ).tv k i) j), aI j] [] γ m1) (fun j j0 j1 ihj => ?_)
        · refine B_X9_needed_49 hC hS.o ⟨fun w => absurd (by rw [q1] at w; exact w) (by omega), fun _ => ?_⟩
          exact inner 0 (by omega) (by omega)
        · refine B_X9_needed_64 hC hS.o ?_
          rcases Int.lt_or_le j (SbF σ).tc with hj | hj
          · have hihj := ihj hj
            have ea : anyI (fun k => (SbF σ).tv k i) (j + 1) = if anyI (fun k => (SbF σ).tv k i) j = 0 then (if (SbF σ).tv j i = 0 then 0 else 1) else 1 := foldI_s j0
            rw [ea] at hihj
            have e19 : m1 (b + 19) (36 * j + i) = (SbF σ).tv j i := by
              rw [w2 _ _ (by omega) (by omega) (by omega)]
              exact (k5 j j0 hj).2 i h0 hi
            simp (disch := first | assumption | omega) only [row_off, row_in, row_out, up_same, up_ne, cpy_off, rwo_off, rwo_at, rwo_out, mg6, mg7, mg8, mg9, mg10, mg12, mg30, mg31, mg32, mg33, mg35, mg36, mg37, mg38, mg39, mg43, mg44, mg45, mg46, mg47, mg48, mg49, mg50, mg53, mg54, mg55, mg56, mg57, mg58, mg59, mg60, mg65, mg66, mg67, mg68, mg69, mg70, mg71, mg72, q41, e19]
            (repeat' (first | (with_reducible exact ixO (by assumption) (by omega)) | with_reducible apply And.intro | with_reducible intro)) <;> (try first | omega | (with_reducible apply Nat.le_refl) | rfl | exact absurd trivial (by assumption))
            · rename_i h
              rw [if_neg h] at hihj
              exact hihj
            · rename_i h h2
              rw [if_pos h, if_pos h2] at hihj
              exact hihj
            · rename_i h h2
              rw [if_pos h, if_neg h2] at hihj
              exact hihj
          · obtain rfl : j = (SbF σ).tc := by omega
            refine ⟨fun _ => ⟨fun h => ?_, fun h => ?_⟩, fun w => absurd (by rw [q41]; exact hj) w⟩
            · exact tail 0 (by rw [if_pos (show freF (SbF σ) i = 0 from h)])
            · exact tail 1 (by rw [if_neg (show ¬ freF (SbF σ) i = 0 from h)])
      · obtain rfl : i = σ 0 0 := by omega
        refine B_X9_needed_49 hC hS.o ?_
        simp (disch := first | assumption | omega) only [row_off, row_in, row_out, up_same, up_ne, cpy_off, rwo_off, rwo_at, rwo_out, mg6, mg7, mg8, mg9, mg10, mg12, mg30, mg31, mg32, mg33, mg35, mg36, mg37, mg38, mg39, mg43, mg44, mg45, mg46, mg47, mg48, mg49, mg50, mg53, mg54, mg55, mg56, mg57, mg58, mg59, mg60, mg65, mg66, mg67, mg68, mg69, mg70, mg71, mg72, q1]
        (repeat' (first | (with_reducible exact ixO (by assumption) (by omega)) | with_reducible apply And.intro | with_reducible intro)) <;> (try first | omega | (with_reducible apply Nat.le_refl) | rfl | exact absurd trivial (by assumption))
        · rename_i h
          exact hP _ _ _ ⟨by rw [if_neg h], rfl, q0, qR, qf⟩
        · rename_i h
          exact hP _ _ _ ⟨by rw [if_pos h], rfl, q0, qR, qf⟩
  have bad : ¬ isSW x → V X G (Qm X G 0 P) 0 24 [aR b, aI x, aD, aD, aD, aD, aD] [aI 0] γ (up (up μ b 0 0) b 0 1) := fun hx => by
    refine B_X9_needed_24 hC hS.o ?_
    (repeat' (first | (with_reducible exact ixO (by assumption) (by omega)) | with_reducible apply And.intro | with_reducible intro)) <;> (try first | omega | (with_reducible apply Nat.le_refl) | rfl | exact absurd trivial (by assumption))
    exact hP _ _ _ ⟨by rw [if_neg hx], rfl, by rw [if_neg hx]; exact up_same, (hR.t hW).t hW, frB_up (frB_up frB_rf (by omega)) (by omega)⟩
  refine ⟨fun h => ?_, fun h => ⟨fun h2 => ?_, fun h2 => ?_⟩⟩
  · refine ⟨0, 0, _, by omega, Nat.le_refl _, hX ▸ m_right hl 0 hS (by first | exact up_same | assumption | (simp (disch := first | assumption | omega) only [row_off, row_in, row_out, up_same, up_ne, cpy_off, rwo_off, rwo_at, rwo_out, mg6, mg7, mg8, mg9, mg10, mg12, mg30, mg31, mg32, mg33, mg35, mg36, mg37, mg38, mg39, mg43, mg44, mg45, mg46, mg47, mg48, mg49, mg50, mg53, mg54, mg55, mg56, mg57, mg58, mg59, mg60, mg65, mg66, mg67, mg68, mg69, mg70, mg71, mg72] ; done)), PI.use ?_⟩
    rw [if_neg (by decide), if_neg (by decide)]
    exact good (Or.inl h)
  · refine ⟨0, 0, _, by omega, Nat.le_refl _, hX ▸ m_right hl 0 hS (by first | exact up_same | assumption | (simp (disch := first | assumption | omega) only [row_off, row_in, row_out, up_same, up_ne, cpy_off, rwo_off, rwo_at, rwo_out, mg6, mg7, mg8, mg9, mg10, mg12, mg30, mg31, mg32, mg33, mg35, mg36, mg37, mg38, mg39, mg43, mg44, mg45, mg46, mg47, mg48, mg49, mg50, mg53, mg54, mg55, mg56, mg57, mg58, mg59, mg60, mg65, mg66, mg67, mg68, mg69, mg70, mg71, mg72] ; done)), PI.use ?_⟩
    rw [if_pos rfl, if_pos rfl]
    exact bad (by unfold isSW; omega)
  · refine ⟨0, 0, _, by omega, Nat.le_refl _, hX ▸ m_right hl 0 hS (by first | exact up_same | assumption | (simp (disch := first | assumption | omega) only [row_off, row_in, row_out, up_same, up_ne, cpy_off, rwo_off, rwo_at, rwo_out, mg6, mg7, mg8, mg9, mg10, mg12, mg30, mg31, mg32, mg33, mg35, mg36, mg37, mg38, mg39, mg43, mg44, mg45, mg46, mg47, mg48, mg49, mg50, mg53, mg54, mg55, mg56, mg57, mg58, mg59, mg60, mg65, mg66, mg67, mg68, mg69, mg70, mg71, mg72] ; done)), PI.use ?_⟩
    rw [if_neg (by decide), if_neg (by decide)]
    exact good (Or.inr h2)
end MApply
