/-! the reference: solve -/
section MSol
variable {l : Launch} {G : Gx} {γ μ σ : Mu}
abbrev PE (μ γ : Mu) (b : Int) (R : Int → Mu → Prop) : Option AV → Mu → Mu → Prop := fun r γ' μ' => ∃ z σ', R z σ' ∧ PR μ γ b σ' z 0 r γ' μ'
set_option maxHeartbeats 4000000 in
theorem m_solve (hl : l.stackTraces = false) (d : Nat) (hd : 2 < d) {b x : Int} (hS : ModS G b) (hG : ModG γ b) (hR : RepR μ b σ) (hW : Wf σ) : Cn l G yX9_solve cX9_solve 6 (some .int) d 0 [aR b, aI x] γ μ (fun r γ' μ' => if 0 ≤ x ∧ x ≤ 2 then PE μ γ b (SolR σ x) r γ' μ' else PR μ γ b σ 0 1 r γ' μ') := by
  refine Cn.ofP hl (plainFor_of_name (by decide)) (noLc nlR (noL1 nlI)) rfl (fun P hP o1 o3 X hX hC => B_X9_solve_0 hC hS.o ?_)
  have hn := hW.1
  have hq := hW.2.1.b
  have hb1 := Sb_le hW
  have htv := (tv_in hW).1
  have s19 := ms19 hS; have s24 := ms24 hS; have s25 := ms25 hS; have s26 := ms26 hS; have s27 := ms27 hS
  have bad : ¬ (0 ≤ x ∧ x ≤ 2) → V X G (Qm X G 0 P) 0 24 [aR b, aI x, aD, aD, aD, aD] [aI 0] γ (up (up μ b 0 0) b 0 1) := fun hx => by
    refine B_X9_solve_24 hC hS.o ?_
    (repeat' (first | (with_reducible exact ixO (by assumption) (by omega)) | with_reducible apply And.intro | with_reducible intro)) <;> (try first | omega | (with_reducible apply Nat.le_refl) | rfl | exact absurd trivial (by assumption))
    exact hP _ _ _ (by rw [if_neg hx]; exact ⟨rfl, rfl, up_same, (hR.t hW).t hW, frB_up (frB_up frB_rf (by omega)) (by omega)⟩)
  refine ⟨fun h => ?_, fun h => ⟨fun h2 => ?_, fun h2 => ?_⟩⟩
  · refine ⟨0, 0, _, by omega, Nat.le_refl _, hX ▸ m_right hl 0 hS (by first | exact up_same | assumption | (simp (disch := first | assumption | omega) only [row_off, row_in, row_out, up_same, up_ne, cpy_off, rwo_off, rwo_at, rwo_out, mg6, mg7, mg8, mg9, mg10, mg12, mg30, mg31, mg32, mg33, mg35, mg36, mg37, mg38, mg39, mg43, mg44, mg45, mg46, mg47, mg48, mg49, mg50, mg53, mg54, mg55, mg56, mg57, mg58, mg59, mg60, mg65, mg66, mg67, mg68, mg69, mg70, mg71, mg72] ; done)), PI.use ?_⟩
    rw [if_pos rfl, if_pos rfl]
    exact bad (by omega)
  · refine ⟨0, 0, _, by omega, Nat.le_refl _, hX ▸ m_right hl 0 hS (by first | exact up_same | assumption | (simp (disch := first | assumption | omega) only [row_off, row_in, row_out, up_same, up_ne, cpy_off, rwo_off, rwo_at, rwo_out, mg6, mg7, mg8, mg9, mg10, mg12, mg30, mg31, mg32, mg33, mg35, mg36, mg37, mg38, mg39, mg43, mg44, mg45, mg46, mg47, mg48, mg49, mg50, mg53, mg54, mg55, mg56, mg57, mg58, mg59, mg60, mg65, mg66, mg67, mg68, mg69, mg70, mg71, mg72] ; done)), PI.use ?_⟩
    rw [if_pos rfl, if_pos rfl]
    exact bad (by omega)
  refine ⟨0, 0, _, by omega, Nat.le_refl _, hX ▸ m_right hl 0 hS (by first | exact up_same | assumption | (simp (disch := first | assumption | omega) only [row_off, row_in, row_out, up_same, up_ne, cpy_off, rwo_off, rwo_at, rwo_out, mg6, mg7, mg8, mg9, mg10, mg12, mg30, mg31, mg32, mg33, mg35, mg36, mg37, mg38, mg39, mg43, mg44, mg45, mg46, mg47, mg48, mg49, mg50, mg53, mg54, mg55, mg56, mg57, mg58, mg59, mg60, mg65, mg66, mg67, mg68, mg69, mg70, mg71, mg72] ; done)), PI.use ?_⟩
  rw [if_neg (by decide), if_neg (by decide)]
  have hx : 0 ≤ x ∧ x ≤ 2 := by omega
  simp only [if_pos hx] at hP
  refine B_X9_solve_24 hC hS.o ⟨fun _ => ?_, fun w => absurd w (by decide)⟩
  refine ⟨2, 0, _, hd, Nat.le_refl _, hX ▸ m_knowsR hl 2 (by omega) hS hG (hR.t hW) hW, ?_⟩
  rintro r γ m0 ⟨rfl, rfl, z3, z4, z5, z6⟩
  have z0 : m0 b 0 = 0 := by rw [z3]; exact up_same
  have hfr : frB μ m0 b (b + 40) := (frB_up frB_rf (by omega)).t z6
  refine B_X9_solve_33 hC hS.o ?_
  refine ⟨1, 0, _, by omega, Nat.le_refl _, hX ▸ m_leads hl 1 (by omega) hS hG z4 hW z5, ?_⟩
  rintro r γ m1 ⟨rfl, rfl, w1, w2⟩
  obtain ⟨⟨k1, k2, k3⟩, k4, k5, k6, k7⟩ := z5.s
  have q0 : m1 b 0 = 0 := by rw [w2 _ _ (by omega) (by omega) (by omega), z0]
  have qR : RepR m1 b σ := z4.fr hW (fun x j h => w2 x j (by unfold keepR at h; omega) (by unfold keepR at h; omega) (by unfold keepR at h; omega))
  have qf : frB μ m1 b (b + 40) := hfr.t (fun x j h => w2 x j (by omega) (by omega) (by omega))
  have q1 : m1 b 1 = σ 0 0 := qR.1
  have q2 : m1 b 2 = σ 0 1 := qR.2.1
  have q41 : m1 b 41 = (SbF σ).tc := by rw [w2 _ _ (by omega) (by omega) (by omega), k2]
  by_cases hld : ldF σ = -1
  case neg =>
    rw [if_neg hld]
    refine B_X9_solve_37 hC hS.o ?_
    (repeat' (first | (with_reducible exact ixO (by assumption) (by omega)) | with_reducible apply And.intro | with_reducible intro)) <;> (try first | omega | (with_reducible apply Nat.le_refl) | rfl | exact absurd trivial (by assumption))
    exact hP _ _ _ ⟨_, _, Or.inl ⟨hld, rfl, rfl⟩, rfl, rfl, q0, qR, qf⟩
  rw [if_pos hld]
  have w1' := w1 hld
  refine B_X9_solve_37 hC hS.o ⟨fun _ => ?_, fun w => absurd w (by decide)⟩
  rw [q41]
  refine ⟨0, 0, _, by omega, Nat.le_refl _, hX ▸ m_power hl 0 (SbF σ).tc hS q2 hq (by decide) (by omega), PI.use ?_⟩
  by_cases hsp : σ 0 1 ^ (SbF σ).tc ≤ 20000
  case neg =>
    rw [if_neg hsp]
    refine B_X9_solve_53 hC hS.o ?_
    (repeat' (first | (with_reducible exact ixO (by assumption) (by omega)) | with_reducible apply And.intro | with_reducible intro)) <;> (try first | omega | (with_reducible apply Nat.le_refl) | rfl | exact absurd trivial (by assumption))
    exact hP _ _ _ ⟨_, _, Or.inr (Or.inl ⟨hld, by omega, rfl, rfl⟩), rfl, rfl, q0, qR, qf⟩
  rw [if_pos hsp]
  refine B_X9_solve_53 hC hS.o ⟨fun _ => ?_, fun w => absurd hsp w⟩
  have hq0 : 0 < σ 0 1 := by omega
  have hCc : ∀ f g : Int → Int, (∀ j, 0 ≤ j → j < σ 0 0 → f j = g j) → costF x f (σ 0 0) = costF x g (σ 0 0) := fun f g h => costF_cong hn.1 h
  have hC0 : ∀ f, inQ (σ 0 0) (σ 0 1) f → costF x f (σ 0 0) = -1 ∨ 0 ≤ costF x f (σ 0 0) := fun f hf => by
    unfold costF
    split
    · exact Or.inr (ctI_b hq hf _ hn.1 (Int.le_refl _)).1
    · exact Or.inl rfl
  have htd : ∀ m : Mu, (∀ y j, y ≠ b + 25 → y ≠ b + 26 → y ≠ b + 27 → m y j = m1 y j) → ∀ i : Int, 0 ≤ i → i < (SbF σ).tc → ∀ j, 0 ≤ j → j < σ 0 0 → m (b + 19) (36 * i + j) = (SbF σ).tv i j := fun m fm i i0 i1 j j0 j1 => by
    rw [fm _ _ (by omega) (by omega) (by omega), w2 _ _ (by omega) (by omega) (by omega)]
    exact (k5 i i0 i1).2 j j0 j1
  -- the end: the best row is kept
  have done : ∀ (m : Mu) (least : Int) (best : Int → Int), (∀ y j, y ≠ b + 25 → y ≠ b + 26 → y ≠ b + 27 → m y j = m1 y j) → (least ≠ -1 → ∀ j, 0 ≤ j → j < σ 0 0 → m (b + 26) j = best j) → BestD (σ 0 0) (fun f => costF x f (σ 0 0)) (DRv (σ 0 1) (SbF σ) (x0F σ) (σ 0 1 ^ (SbF σ).tc)) least best → V X G (Qm X G 0 P) 0 89 [aR b, aI x, aI least, aI 0, aD, aD] [] γ m := by
    intro m least best fm hb hB
    have mR : RepR m b σ := qR.fr hW (fun y j h => fm y j (by unfold keepR at h; omega) (by unfold keepR at h; omega) (by unfold keepR at h; omega))
    have mf : frB μ m b (b + 40) := qf.t (fun y j h => fm y j (by omega) (by omega) (by omega))
    have m0' : m b 0 = 0 := by rw [fm _ _ (by omega) (by omega) (by omega), q0]
    refine B_X9_solve_89 hC hS.o ⟨fun _ => ⟨fun hl1 => ?_, fun hl1 => ⟨Nat.le_refl _, ?_⟩⟩, fun w => absurd rfl w⟩
    · have cp := rem_ind (n := σ 0 0) (P := fun i => V X G (Qm X G 0 P) 0 188 [aR b, aD, aI least, aD, aI i, aD] [] γ (row (up m b 52 1) (b + 24) i best)) (fun i h0 h1 ih => ?_)
      · have h9 := cp 0 (by omega) (by omega)
        rw [row_0] at h9
        exact h9
      · refine B_X9_solve_188 hC hS.o ?_
        rcases Int.lt_or_le i (σ 0 0) with hi | hi
        · have hih := ih hi
          rw [← row_s h0] at hih
          simp (disch := first | assumption | omega) only [row_off, row_in, row_out, up_same, up_ne, cpy_off, rwo_off, rwo_at, rwo_out, mg6, mg7, mg8, mg9, mg10, mg12, mg30, mg31, mg32, mg33, mg35, mg36, mg37, mg38, mg39, mg43, mg44, mg45, mg46, mg47, mg48, mg49, mg50, mg53, mg54, mg55, mg56, mg57, mg58, mg59, mg60, mg65, mg66, mg67, mg68, mg69, mg70, mg71, mg72, mR.1, hb hl1 i h0 hi]
          (repeat' (first | (with_reducible exact ixO (by assumption) (by omega)) | with_reducible apply And.intro | with_reducible intro)) <;> (try first | omega | (with_reducible apply Nat.le_refl) | rfl | exact absurd trivial (by assumption))
          all_goals exact hih
        · obtain rfl : i = σ 0 0 := by omega
          simp (disch := first | assumption | omega) only [row_off, row_in, row_out, up_same, up_ne, cpy_off, rwo_off, rwo_at, rwo_out, mg6, mg7, mg8, mg9, mg10, mg12, mg30, mg31, mg32, mg33, mg35, mg36, mg37, mg38, mg39, mg43, mg44, mg45, mg46, mg47, mg48, mg49, mg50, mg53, mg54, mg55, mg56, mg57, mg58, mg59, mg60, mg65, mg66, mg67, mg68, mg69, mg70, mg71, mg72, mR.1]
          (repeat' (first | (with_reducible exact ixO (by assumption) (by omega)) | with_reducible apply And.intro | with_reducible intro)) <;> (try first | omega | (with_reducible apply Nat.le_refl) | rfl | exact absurd trivial (by assumption))
          refine hP _ _ _ ⟨least, _, Or.inr (Or.inr ⟨hld, hsp, best, hB, rfl⟩), rfl, rfl, by simp (disch := first | assumption | omega) only [row_off, row_in, row_out, up_same, up_ne, cpy_off, rwo_off, rwo_at, rwo_out, mg6, mg7, mg8, mg9, mg10, mg12, mg30, mg31, mg32, mg33, mg35, mg36, mg37, mg38, mg39, mg43, mg44, mg45, mg46, mg47, mg48, mg49, mg50, mg53, mg54, mg55, mg56, mg57, mg58, mg59, mg60, mg65, mg66, mg67, mg68, mg69, mg70, mg71, mg72]; exact m0', ?_, frB_row (frB_up mf (by omega)) (by omega)⟩
          rw [if_neg hl1]
          have hR := mR
          obtain ⟨r1, r2, r3, r4, r5, r6, r7, r8, r9, r10, ra1, ra2, ra3, ra4, ra5, ra6, ra7, ra8, ra9, ra10, rk, rh⟩ := id hR
          refine RepR.mk2 hR hW ⟨by simp (disch := first | assumption | omega) only [row_off, row_in, row_out, up_same, up_ne, cpy_off, rwo_off, rwo_at, rwo_out, mg6, mg7, mg8, mg9, mg10, mg12, mg30, mg31, mg32, mg33, mg35, mg36, mg37, mg38, mg39, mg43, mg44, mg45, mg46, mg47, mg48, mg49, mg50, mg53, mg54, mg55, mg56, mg57, mg58, mg59, mg60, mg65, mg66, mg67, mg68, mg69, mg70, mg71, mg72], by simp (disch := first | assumption | omega) only [row_off, row_in, row_out, up_same, up_ne, cpy_off, rwo_off, rwo_at, rwo_out, mg6, mg7, mg8, mg9, mg10, mg12, mg30, mg31, mg32, mg33, mg35, mg36, mg37, mg38, mg39, mg43, mg44, mg45, mg46, mg47, mg48, mg49, mg50, mg53, mg54, mg55, mg56, mg57, mg58, mg59, mg60, mg65, mg66, mg67, mg68, mg69, mg70, mg71, mg72], by simp (disch := decide) only [up_off, row_offF, rwo_offF], by simp (disch := decide) only [up_off, row_offF, rwo_offF]⟩ (fun x j hkk => by unfold keepK at hkk; simp (disch := first | assumption | omega) only [row_off, row_in, row_out, up_same, up_ne, cpy_off, rwo_off, rwo_at, rwo_out, mg6, mg7, mg8, mg9, mg10, mg12, mg30, mg31, mg32, mg33, mg35, mg36, mg37, mg38, mg39, mg43, mg44, mg45, mg46, mg47, mg48, mg49, mg50, mg53, mg54, mg55, mg56, mg57, mg58, mg59, mg60, mg65, mg66, mg67, mg68, mg69, mg70, mg71, mg72]) ⟨?_, ?_, ?_, ?_, ?_, ?_, ?_, ?_, ?_, ?_, ?_, ?_, ?_, ?_, ?_, ?_⟩ <;> (try (first | (intros; simp (disch := first | assumption | omega) only [row_off, row_in, row_out, up_same, up_ne, cpy_off, rwo_off, rwo_at, rwo_out, mg6, mg7, mg8, mg9, mg10, mg12, mg30, mg31, mg32, mg33, mg35, mg36, mg37, mg38, mg39, mg43, mg44, mg45, mg46, mg47, mg48, mg49, mg50, mg53, mg54, mg55, mg56, mg57, mg58, mg59, mg60, mg65, mg66, mg67, mg68, mg69, mg70, mg71, mg72]; done) | (intros; simp (disch := first | assumption | omega) only [row_off, row_in, row_out, up_same, up_ne, cpy_off, rwo_off, rwo_at, rwo_out, mg6, mg7, mg8, mg9, mg10, mg12, mg30, mg31, mg32, mg33, mg35, mg36, mg37, mg38, mg39, mg43, mg44, mg45, mg46, mg47, mg48, mg49, mg50, mg53, mg54, mg55, mg56, mg57, mg58, mg59, mg60, mg65, mg66, mg67, mg68, mg69, mg70, mg71, mg72]; first | assumption | (apply_assumption <;> first | assumption | omega)) | (intros; first | assumption | (apply_assumption <;> first | assumption | omega))))
          · intro _ j z1 z2
            rw [up_ne (by omega), row_off (by omega)] at z2
            simp (disch := first | assumption | omega) only [row_off, row_in, row_out, up_same, up_ne, cpy_off, rwo_off, rwo_at, rwo_out, mg6, mg7, mg8, mg9, mg10, mg12, mg30, mg31, mg32, mg33, mg35, mg36, mg37, mg38, mg39, mg43, mg44, mg45, mg46, mg47, mg48, mg49, mg50, mg53, mg54, mg55, mg56, mg57, mg58, mg59, mg60, mg65, mg66, mg67, mg68, mg69, mg70, mg71, mg72]
    · exact hP _ _ _ ⟨least, _, Or.inr (Or.inr ⟨hld, hsp, best, hB, rfl⟩), by rw [hl1], rfl, m0', by rw [if_pos hl1]; exact mR, mf⟩
  -- the rows, one behind another
  have main : ∀ (k : Nat) (m : Mu) (dd : Int → Int) (least : Int) (best : Int → Int), σ 0 1 ^ (SbF σ).tc - vlN (σ 0 1) dd (SbF σ).tc = k → (∀ y j, y ≠ b + 25 → y ≠ b + 26 → y ≠ b + 27 → m y j = m1 y j) → dgs (σ 0 1) (SbF σ).tc dd → (∀ i : Int, 0 ≤ i → i < (SbF σ).tc → m (b + 27) i = dd i) → (∀ j, 0 ≤ j → j < σ 0 0 → m (b + 25) j = mixI (σ 0 1) (SbF σ) (x0F σ) dd j) → (least ≠ -1 → ∀ j, 0 ≤ j → j < σ 0 0 → m (b + 26) j = best j) → BestD (σ 0 0) (fun f => costF x f (σ 0 0)) (DRv (σ 0 1) (SbF σ) (x0F σ) (vlN (σ 0 1) dd (SbF σ).tc)) least best → V X G (Qm X G 0 P) 0 89 [aR b, aI x, aI least, aI 1, aD, aD] [] γ m := by
    intro k
    induction k with
    | zero =>
      intro m dd least best hk fm hdd m27 m25 m26 hB
      have := vlN_b hq0 (SbF σ).tc hdd
      omega
    | succ k ih =>
      intro m dd least best hk fm hdd m27 m25 m26 hB
      generalize hy : mixI (σ 0 1) (SbF σ) (x0F σ) dd = y at m25
      have yq : inQ (σ 0 0) (σ 0 1) y := by rw [← hy]; exact mixI_in hq0
      have e1 : m b 1 = σ 0 0 := by rw [fm _ _ (by omega) (by omega) (by omega), q1]
      have e2 : m b 2 = σ 0 1 := by rw [fm _ _ (by omega) (by omega) (by omega), q2]
      have grow : ∀ v z bst, v = vlN (σ 0 1) dd (SbF σ).tc + 1 → BestD (σ 0 0) (fun f => costF x f (σ 0 0)) (fun u => DRv (σ 0 1) (SbF σ) (x0F σ) (vlN (σ 0 1) dd (SbF σ).tc) u ∨ u = y) z bst → BestD (σ 0 0) (fun f => costF x f (σ 0 0)) (DRv (σ 0 1) (SbF σ) (x0F σ) v) z bst := fun v z bst ev h => by
        refine h.eqv hCc (fun u hu => ⟨u, ?_, fun _ _ _ => rfl⟩) (fun u hu => ⟨u, ?_, fun _ _ _ => rfl⟩)
        · rcases hu with ⟨d1, d2, d3, d4⟩ | rfl
          · exact ⟨d1, d2, by omega, d4⟩
          · exact ⟨dd, hdd, by omega, hy.symm⟩
        · obtain ⟨d1, d2, d3, d4⟩ := hu
          by_cases e : vlN (σ 0 1) d1 (SbF σ).tc = vlN (σ 0 1) dd (SbF σ).tc
          · exact Or.inr (by rw [d4, ← hy]; exact mixI_cong (vlN_inj hq0 _ d2 hdd e))
          · exact Or.inl ⟨d1, d2, by omega, d4⟩
      -- behind the choice: the turn
      have turn : ∀ (m2 : Mu) (z : Int) (bst : Int → Int), (∀ y j, y ≠ b + 26 → m2 y j = m y j) → (z ≠ -1 → ∀ j, 0 ≤ j → j < σ 0 0 → m2 (b + 26) j = bst j) → BestD (σ 0 0) (fun f => costF x f (σ 0 0)) (fun u => DRv (σ 0 1) (SbF σ) (x0F σ) (vlN (σ 0 1) dd (SbF σ).tc) u ∨ u = y) z bst → ∃ (d9 k9 : Nat) (P9 : Option AV → Mu → Mu → Prop), d9 < d ∧ 0 + k9 ≤ 0 ∧ Cn X.l G yX9_turns cX9_turns 3 (some .boolean) d9 k9 [aR b] γ m2 P9 ∧ ∀ r9 γ9 μ9, P9 r9 γ9 μ9 → V X G (Qm X G 0 P) (0 + k9) 169 [aR b, aI x, aI z, aD, aD, aD] (r9.toList ++ []) γ9 μ9 := by
        intro m2 z bst f2 hb2 hB2
        refine ⟨0, 0, _, by omega, Nat.le_refl _, hX ▸ m_turns hl 0 (S := SbF σ) (x0 := x0F σ) (dd := dd) hS hG (by rw [f2 _ _ (by omega)]; exact e1) (by rw [f2 _ _ (by omega)]; exact e2) (by rw [f2 _ _ (by omega), fm _ _ (by omega) (by omega) (by omega)]; exact q41) hn hq (by omega) hdd (fun i z1 z2 => by rw [f2 _ _ (by omega)]; exact m27 i z1 z2) (fun j z1 z2 => by rw [f2 _ _ (by omega), hy]; exact m25 j z1 z2) (fun i i0 i1 j j0 j1 => by rw [f2 _ _ (by omega)]; exact htd m fm i i0 i1 j j0 j1) htv, ?_⟩
        rintro r γ m3 ⟨rfl, f3, h3⟩
        rcases h3 with ⟨rfl, d', hd', a27, a25, av⟩ | ⟨rfl, av⟩
        · refine B_X9_solve_169 hC hS.o ?_
          exact ih m3 d' z bst (by omega) (fun y j z1 z2 z3 => by rw [f3 y j z1 z3, f2 y j z2, fm y j z1 z2 z3]) hd' a27 a25 (fun w j z1 z2 => by rw [f3 _ _ (by omega) (by omega)]; exact hb2 w j z1 z2) (grow _ _ _ av hB2)
        · refine B_X9_solve_169 hC hS.o ?_
          exact done m3 z bst (fun y j z1 z2 z3 => by rw [f3 y j z1 z3, f2 y j z2, fm y j z1 z2 z3]) (fun w j z1 z2 => by rw [f3 _ _ (by omega) (by omega)]; exact hb2 w j z1 z2) (grow _ _ _ av.symm hB2)
      have tak : ∀ z, z = costF x y (σ 0 0) → z ≠ -1 → (least = -1 ∨ z < least ∨ (z = least ∧ Lx (σ 0 0) y best)) → V X G (Qm X G 0 P) 0 136 [aR b, aI x, aI z, aD, aD, aI 0] [] γ m := fun z ez hz hzb => by
        have cp := rem_ind (n := σ 0 0) (P := fun i => V X G (Qm X G 0 P) 0 136 [aR b, aI x, aI z, aD, aD, aI i] [] γ (row m (b + 26) i y)) (fun i h0 h1 ih => ?_)
        · have h9 := cp 0 (by omega) (by omega)
          rw [row_0] at h9
          exact h9
        · refine B_X9_solve_136 hC hS.o ?_
          rcases Int.lt_or_le i (σ 0 0) with hi | hi
          · have hih := ih hi
            rw [← row_s h0] at hih
            simp (disch := first | assumption | omega) only [row_off, row_in, row_out, up_same, up_ne, cpy_off, rwo_off, rwo_at, rwo_out, mg6, mg7, mg8, mg9, mg10, mg12, mg30, mg31, mg32, mg33, mg35, mg36, mg37, mg38, mg39, mg43, mg44, mg45, mg46, mg47, mg48, mg49, mg50, mg53, mg54, mg55, mg56, mg57, mg58, mg59, mg60, mg65, mg66, mg67, mg68, mg69, mg70, mg71, mg72, e1, m25 i h0 hi]
            (repeat' (first | (with_reducible exact ixO (by assumption) (by omega)) | with_reducible apply And.intro | with_reducible intro)) <;> (try first | omega | (with_reducible apply Nat.le_refl) | rfl | exact absurd trivial (by assumption))
            all_goals exact hih
          · obtain rfl : i = σ 0 0 := by omega
            refine ⟨fun _ => ?_, fun w => absurd (by rw [row_off (by omega), e1]; exact hi) w⟩
            refine turn _ z y (fun y j z1 => row_off z1) (fun _ j z1 z2 => row_in ⟨z1, z2⟩) ?_
            have := hC0 y yq
            have h9 := hB.take (y := y) (by omega) (by rw [← ez]; exact hzb)
            rw [← ez] at h9
            exact h9
      refine B_X9_solve_89 hC hS.o ⟨fun w => absurd w (by decide), fun _ => ?_⟩
      refine ⟨0, 0, _, by omega, Nat.le_refl _, hX ▸ m_cost hl 0 hS hG e1 hn hq m25 yq, PI.use ?_⟩
      generalize hz : costF x y (σ 0 0) = z
      refine B_X9_solve_98 hC hS.o ⟨fun h => ?_, fun h => ⟨fun h2 => ?_, fun h2 => ⟨fun h3 => ?_, fun h3 => ⟨fun h4 => ?_, fun h4 => ?_⟩⟩⟩⟩
      · exact turn m least best (fun _ _ _ => rfl) m26 (hB.skip (Or.inl (by rw [hz]; exact h)))
      · exact tak z hz.symm h (Or.inl h2)
      · exact tak z hz.symm h (Or.inr (Or.inl h3))
      · exact turn m least best (fun _ _ _ => rfl) m26 (hB.skip (Or.inr ⟨h2, Or.inl (by rw [hz]; omega)⟩))
      · refine ⟨0, 0, _, by omega, Nat.le_refl _, hX ▸ m_isAhead hl 0 hS hG e1 hn m25 (m26 h2), PI.use ?_⟩
        refine B_X9_solve_127 hC hS.o ⟨fun h5 => ?_, fun h5 => ?_⟩
        · exact turn m least best (fun _ _ _ => rfl) m26 (hB.skip (Or.inr ⟨h2, Or.inr ⟨by rw [hz]; omega, fun w => (ahF_iff hn.1).mpr w h5⟩⟩))
        · exact tak z hz.symm h (Or.inr (Or.inr ⟨h4, (ahF_iff hn.1).mp h5⟩))
  have st := rem_ind (n := ((SbF σ).tc : Int)) (P := fun i => V X G (Qm X G 0 P) 0 64 [aR b, aI x, aI i, aD, aD, aD] [] γ (row m1 (b + 27) i (fun _ => 0))) (fun i h0 h1 ih => ?_)
  · have h9 := st 0 (by omega) (by omega)
    rw [row_0] at h9
    exact h9
  · refine B_X9_solve_64 hC hS.o ?_
    rcases Int.lt_or_le i (SbF σ).tc with hi | hi
    · have hih := ih hi
      rw [← row_s h0] at hih
      simp (disch := first | assumption | omega) only [row_off, row_in, row_out, up_same, up_ne, cpy_off, rwo_off, rwo_at, rwo_out, mg6, mg7, mg8, mg9, mg10, mg12, mg30, mg31, mg32, mg33, mg35, mg36, mg37, mg38, mg39, mg43, mg44, mg45, mg46, mg47, mg48, mg49, mg50, mg53, mg54, mg55, mg56, mg57, mg58, mg59, mg60, mg65, mg66, mg67, mg68, mg69, mg70, mg71, mg72, q41]
      (repeat' (first | (with_reducible exact ixO (by assumption) (by omega)) | with_reducible apply And.intro | with_reducible intro)) <;> (try first | omega | (with_reducible apply Nat.le_refl) | rfl | exact absurd trivial (by assumption))
      all_goals exact hih
    · obtain rfl : i = (SbF σ).tc := by omega
      simp (disch := first | assumption | omega) only [row_off, row_in, row_out, up_same, up_ne, cpy_off, rwo_off, rwo_at, rwo_out, mg6, mg7, mg8, mg9, mg10, mg12, mg30, mg31, mg32, mg33, mg35, mg36, mg37, mg38, mg39, mg43, mg44, mg45, mg46, mg47, mg48, mg49, mg50, mg53, mg54, mg55, mg56, mg57, mg58, mg59, mg60, mg65, mg66, mg67, mg68, mg69, mg70, mg71, mg72, q41]
      (repeat' (first | (with_reducible exact ixO (by assumption) (by omega)) | with_reducible apply And.intro | with_reducible intro)) <;> (try first | omega | (with_reducible apply Nat.le_refl) | rfl | exact absurd trivial (by assumption))
      refine main (σ 0 1 ^ (SbF σ).tc).toNat _ (fun _ => 0) (-1) (fun _ => 0) ?_ (fun y j z1 z2 z3 => row_off z3) (fun i _ _ => by show (0 : Int) ≤ 0 ∧ (0 : Int) < _; omega) (fun i z1 z2 => row_in ⟨z1, z2⟩) (fun j z1 z2 => ?_) (fun w => absurd rfl w) (Or.inl ⟨rfl, fun u hu => ?_⟩)
      · rw [vlN_0 _ (fun _ _ _ => rfl)]
        have := pw_pos hq0 (SbF σ).tc
        omega
      · rw [row_off (by omega), w1' j z1 z2]
        unfold mixI
        rw [sumI_zero (by omega) (fun i _ _ => by rw [Int.zero_mul]), Int.add_zero]
        have : inQ (σ 0 0) (σ 0 1) (x0F σ) := fun j _ _ => ⟨Int.emod_nonneg _ (by omega), Int.emod_lt_of_pos _ hq0⟩
        exact (Int.emod_eq_of_lt (this j z1 z2).1 (this j z1 z2).2).symm
      · obtain ⟨d1, d2, d3, d4⟩ := hu
        have := vlN_b hq0 (SbF σ).tc d2
        rw [vlN_0 (d := fun _ => 0) _ (fun _ _ _ => rfl)] at d3
        omega
end MSol
