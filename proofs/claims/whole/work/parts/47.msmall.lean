/-! the reference: amount, colour, set, fill, draw, jam, press, back -/
section MSmall2
variable {l : Launch} {G : Gx} {γ μ σ : Mu}
theorem frB_row {m : Mu} {b x n : Int} {f : Int → Int} (h : frB μ m b (b + 40)) (hx : b ≤ x ∧ x < b + 40) : frB μ (row m x n f) b (b + 40) := fun y j hy => by rw [row_off (by omega)]; exact h y j hy
/-- the places that what is known rests on -/
def keepK (b x j : Int) : Prop := (x = b ∧ (j = 1 ∨ j = 2 ∨ (40 ≤ j ∧ j ≤ 42) ∨ j = 51 ∨ j = 61 ∨ j = 62)) ∨ x = b + 1 ∨ x = b + 2 ∨ (b + 16 ≤ x ∧ x ≤ b + 23) ∨ x = b + 31
theorem RepR.mk2 {m σ' : Mu} {b : Int} (hR : RepR μ b σ) (hW : Wf σ) (e : σ' 0 0 = σ 0 0 ∧ σ' 0 1 = σ 0 1 ∧ σ' 1 = σ 1 ∧ σ' 2 = σ 2) (h : ∀ x j, keepK b x j → m x j = μ x j)
    (c : m b 3 = σ' 0 2 ∧ m b 4 = σ' 0 3 ∧ m b 5 = σ' 0 4 ∧ m b 11 = σ' 0 5 ∧ m b 13 = σ' 0 6 ∧ m b 15 = σ' 0 7 ∧ m b 52 = σ' 0 8 ∧ m b 64 = σ' 0 9 ∧ (∀ j, 0 ≤ j → j < 36 → m (b + 3) j = σ' 3 j) ∧ (∀ j, 0 ≤ j → j < 36 → m (b + 4) j = σ' 4 j) ∧ (∀ j, 0 ≤ j → j < σ' 0 5 → m (b + 5) j = σ' 5 j) ∧ (∀ j, 0 ≤ j → j < σ' 0 6 → m (b + 6) j = σ' 6 j) ∧ (∀ j, 0 ≤ j → j < 4 → m (b + 38) j = σ' 7 j) ∧ (∀ j, 0 ≤ j → j < 144 → m (b + 39) j = σ' 8 j) ∧ (σ' 0 8 ≠ 0 → ∀ j, 0 ≤ j → j < σ' 0 0 → m (b + 24) j = σ' 9 j) ∧ (σ' 0 9 ≠ 0 → ∀ j, 0 ≤ j → j < σ' 0 0 → m (b + 32) j = σ' 10 j)) : RepR m b σ' := by
  obtain ⟨r1, r2, r3, r4, r5, r6, r7, r8, r9, r10, ra1, ra2, ra3, ra4, ra5, ra6, ra7, ra8, ra9, ra10, rk, rh⟩ := id hR
  unfold keepK at h
  obtain ⟨e0, e1, e2, e3⟩ := e
  obtain ⟨c1, c2, c3, c4, c5, c6, c7, c8, c9, c10, c11, c12, c13, c14, c15, c16⟩ := c
  refine ⟨by rw [h _ _ (by omega), e0]; exact r1, by rw [h _ _ (by omega), e1]; exact r2, c1, c2, c3, c4, c5, c6, c7, c8, fun j z1 z2 => by rw [h _ _ (by omega), e2]; exact ra1 j z1 z2, fun j z1 z2 => by rw [h _ _ (by omega), e3]; exact ra2 j z1 z2, c9, c10, c11, c12, c13, c14, c15, c16, fun w => ?_, fun w => ?_⟩
  · rw [h _ _ (by omega)] at w
    rw [e0, e1, e3, sA_c e2]
    exact (rk w).fr hW.1.2 ⟨h _ _ (by omega), h _ _ (by omega), h _ _ (by omega)⟩ (fun x j z1 z2 => h _ _ (by omega))
  · rw [h _ _ (by omega)] at w
    rw [e0, e1, e3, sA_c e2]
    exact (rh w).fr (h _ _ (by omega)) (fun j => h _ _ (by omega))
/-- a lamp or button -/
abbrev isL (σ : Mu) (x : Int) : Prop := 0 ≤ x ∧ x < σ 0 0
abbrev isSW (x : Int) : Prop := x = 0 ∨ x = 1
theorem m_amount (hl : l.stackTraces = false) (d : Nat) (hd : 0 < d) {b x y : Int} (hS : ModS G b) (hG : ModG γ b) (hR : RepR μ b σ) (hW : Wf σ) : Cn l G yX9_amount cX9_amount 3 (some .int) d 0 [aR b, aI x, aI y] γ μ (PR μ γ b σ (if isL σ x ∧ isL σ y then sA σ x y else 0) (if isL σ x ∧ isL σ y then 0 else 1)) := by
  refine Cn.ofP hl (plainFor_of_name (by decide)) (noLc nlR (noLc nlI (noL1 nlI))) rfl (fun P hP o1 o3 X hX hC => B_X9_amount_0 hC hS.o ?_)
  obtain ⟨r1, r2, r3, r4, r5, r6, r7, r8, r9, r10, ra1, ra2, ra3, ra4, ra5, ra6, ra7, ra8, ra9, ra10, rk, rh⟩ := id hR
  have hn := hW.1
  have s1 := ms1 hS
  have tail : ∀ m, RepR m b σ → m b 0 = 1 → frB μ m b (b + 40) → ¬ (isL σ x ∧ isL σ y) → V X G (Qm X G 0 P) 0 31 [aR b, aI x, aI y] [aI 0] γ m := fun m h1 h2 h3 h4 => by
    refine B_X9_amount_31 hC hS.o ?_
    (repeat' (first | (with_reducible exact ixO (by assumption) (by omega)) | with_reducible apply And.intro | with_reducible intro)) <;> (try first | omega | (with_reducible apply Nat.le_refl) | rfl | exact absurd trivial (by assumption))
    exact hP _ _ _ ⟨by rw [if_neg h4], rfl, by rw [if_neg h4]; exact h2, h1, h3⟩
  refine ⟨0, 0, _, by omega, Nat.le_refl _, hX ▸ m_isLamp hl 0 hS (by first | assumption | (simp (disch := first | assumption | omega) only [row_off, row_in, row_out, up_same, up_ne, cpy_off, rwo_off, rwo_at, rwo_out, mg6, mg7, mg8, mg9, mg10, mg12, mg30, mg31, mg32, mg33, mg35, mg36, mg37, mg38, mg39, mg43, mg44, mg45, mg46, mg47, mg48, mg49, mg50, mg53, mg54, mg55, mg56, mg57, mg58, mg59, mg60, mg65, mg66, mg67, mg68, mg69, mg70, mg71, mg72] ; assumption)), PI.use ?_⟩
  by_cases hx : isL σ x
  · rw [if_pos hx]
    refine B_X9_amount_11 hC hS.o ⟨fun w => absurd w (by decide), fun _ => ?_⟩
    refine ⟨0, 0, _, by omega, Nat.le_refl _, hX ▸ m_isLamp hl 0 hS (by first | assumption | (simp (disch := first | assumption | omega) only [row_off, row_in, row_out, up_same, up_ne, cpy_off, rwo_off, rwo_at, rwo_out, mg6, mg7, mg8, mg9, mg10, mg12, mg30, mg31, mg32, mg33, mg35, mg36, mg37, mg38, mg39, mg43, mg44, mg45, mg46, mg47, mg48, mg49, mg50, mg53, mg54, mg55, mg56, mg57, mg58, mg59, mg60, mg65, mg66, mg67, mg68, mg69, mg70, mg71, mg72] ; assumption)), PI.use ?_⟩
    by_cases hy : isL σ y
    · rw [if_pos hy]
      refine B_X9_amount_19 hC hS.o ⟨fun w => absurd w (by decide), fun _ => ⟨hS.o, ?_⟩⟩
      refine ⟨0, 0, _, by omega, Nat.le_refl _, hX ▸ m_right hl 0 hS (by first | exact up_same | assumption | (simp (disch := first | assumption | omega) only [row_off, row_in, row_out, up_same, up_ne, cpy_off, rwo_off, rwo_at, rwo_out, mg6, mg7, mg8, mg9, mg10, mg12, mg30, mg31, mg32, mg33, mg35, mg36, mg37, mg38, mg39, mg43, mg44, mg45, mg46, mg47, mg48, mg49, mg50, mg53, mg54, mg55, mg56, mg57, mg58, mg59, mg60, mg65, mg66, mg67, mg68, mg69, mg70, mg71, mg72] ; done)), PI.use ?_⟩
      rw [if_neg (by decide), if_neg (by decide)]
      refine B_X9_amount_31 hC hS.o ?_
      simp (disch := first | assumption | omega) only [row_off, row_in, row_out, up_same, up_ne, cpy_off, rwo_off, rwo_at, rwo_out, mg6, mg7, mg8, mg9, mg10, mg12, mg30, mg31, mg32, mg33, mg35, mg36, mg37, mg38, mg39, mg43, mg44, mg45, mg46, mg47, mg48, mg49, mg50, mg53, mg54, mg55, mg56, mg57, mg58, mg59, mg60, mg65, mg66, mg67, mg68, mg69, mg70, mg71, mg72, ra1 (36 * x + y) (by omega) (by omega)]
      (repeat' (first | (with_reducible exact ixO (by assumption) (by omega)) | with_reducible apply And.intro | with_reducible intro)) <;> (try first | omega | (with_reducible apply Nat.le_refl) | rfl | exact absurd trivial (by assumption))
      exact hP _ _ _ ⟨by rw [if_pos ⟨hx, hy⟩]; rfl, rfl, by rw [if_pos ⟨hx, hy⟩]; exact up_same, hR.t hW, frB_up frB_rf (by omega)⟩
    · rw [if_neg hy]
      refine B_X9_amount_19 hC hS.o ⟨fun _ => ⟨hS.o, ?_⟩, fun w => absurd rfl w⟩
      refine ⟨0, 0, _, by omega, Nat.le_refl _, hX ▸ m_right hl 0 hS (by first | exact up_same | assumption | (simp (disch := first | assumption | omega) only [row_off, row_in, row_out, up_same, up_ne, cpy_off, rwo_off, rwo_at, rwo_out, mg6, mg7, mg8, mg9, mg10, mg12, mg30, mg31, mg32, mg33, mg35, mg36, mg37, mg38, mg39, mg43, mg44, mg45, mg46, mg47, mg48, mg49, mg50, mg53, mg54, mg55, mg56, mg57, mg58, mg59, mg60, mg65, mg66, mg67, mg68, mg69, mg70, mg71, mg72] ; done)), PI.use ?_⟩
      rw [if_pos rfl, if_pos rfl]
      exact tail _ ((hR.t hW).t hW) up_same (frB_up (frB_up frB_rf (by omega)) (by omega)) (fun w => hy w.2)
  · rw [if_neg hx]
    refine B_X9_amount_11 hC hS.o ⟨fun _ => ⟨hS.o, ?_⟩, fun w => absurd rfl w⟩
    refine ⟨0, 0, _, by omega, Nat.le_refl _, hX ▸ m_right hl 0 hS (by first | exact up_same | assumption | (simp (disch := first | assumption | omega) only [row_off, row_in, row_out, up_same, up_ne, cpy_off, rwo_off, rwo_at, rwo_out, mg6, mg7, mg8, mg9, mg10, mg12, mg30, mg31, mg32, mg33, mg35, mg36, mg37, mg38, mg39, mg43, mg44, mg45, mg46, mg47, mg48, mg49, mg50, mg53, mg54, mg55, mg56, mg57, mg58, mg59, mg60, mg65, mg66, mg67, mg68, mg69, mg70, mg71, mg72] ; done)), PI.use ?_⟩
    rw [if_pos rfl, if_pos rfl]
    exact tail _ ((hR.t hW).t hW) up_same (frB_up (frB_up frB_rf (by omega)) (by omega)) (fun w => hx w.1)
theorem m_colour (hl : l.stackTraces = false) (d : Nat) (hd : 0 < d) {b x y : Int} (hS : ModS G b) (hG : ModG γ b) (hR : RepR μ b σ) (hW : Wf σ) : Cn l G yX9_colour cX9_colour 3 (some .int) d 0 [aR b, aI x, aI y] γ μ (PR μ γ b σ (if isL σ x ∧ isSW y then (if y = 0 then σ 3 x else σ 4 x) else 0) (if isL σ x ∧ isSW y then 0 else 1)) := by
  refine Cn.ofP hl (plainFor_of_name (by decide)) (noLc nlR (noLc nlI (noL1 nlI))) rfl (fun P hP o1 o3 X hX hC => B_X9_colour_0 hC hS.o ?_)
  obtain ⟨r1, r2, r3, r4, r5, r6, r7, r8, r9, r10, ra1, ra2, ra3, ra4, ra5, ra6, ra7, ra8, ra9, ra10, rk, rh⟩ := id hR
  have hn := hW.1
  have s3 := ms3 hS; have s4 := ms4 hS
  have tail : ∀ m, RepR m b σ → m b 0 = 1 → frB μ m b (b + 40) → ¬ (isL σ x ∧ isSW y) → V X G (Qm X G 0 P) 0 32 [aR b, aI x, aI y] [aI 0] γ m := fun m h1 h2 h3 h4 => by
    refine B_X9_colour_32 hC hS.o ?_
    (repeat' (first | (with_reducible exact ixO (by assumption) (by omega)) | with_reducible apply And.intro | with_reducible intro)) <;> (try first | omega | (with_reducible apply Nat.le_refl) | rfl | exact absurd trivial (by assumption))
    exact hP _ _ _ ⟨by rw [if_neg h4], rfl, by rw [if_neg h4]; exact h2, h1, h3⟩
  refine ⟨0, 0, _, by omega, Nat.le_refl _, hX ▸ m_isLamp hl 0 hS (by first | assumption | (simp (disch := first | assumption | omega) only [row_off, row_in, row_out, up_same, up_ne, cpy_off, rwo_off, rwo_at, rwo_out, mg6, mg7, mg8, mg9, mg10, mg12, mg30, mg31, mg32, mg33, mg35, mg36, mg37, mg38, mg39, mg43, mg44, mg45, mg46, mg47, mg48, mg49, mg50, mg53, mg54, mg55, mg56, mg57, mg58, mg59, mg60, mg65, mg66, mg67, mg68, mg69, mg70, mg71, mg72] ; assumption)), PI.use ?_⟩
  by_cases hx : isL σ x
  · rw [if_pos hx]
    have good : isSW y → V X G (Qm X G 0 P) 0 32 [aR b, aI x, aI y] [aI 1] γ (up μ b 0 0) := fun hy => by
      refine B_X9_colour_32 hC hS.o ?_
      simp (disch := first | assumption | omega) only [row_off, row_in, row_out, up_same, up_ne, cpy_off, rwo_off, rwo_at, rwo_out, mg6, mg7, mg8, mg9, mg10, mg12, mg30, mg31, mg32, mg33, mg35, mg36, mg37, mg38, mg39, mg43, mg44, mg45, mg46, mg47, mg48, mg49, mg50, mg53, mg54, mg55, mg56, mg57, mg58, mg59, mg60, mg65, mg66, mg67, mg68, mg69, mg70, mg71, mg72, ra3 x hx.1 (by omega), ra4 x hx.1 (by omega)]
      (repeat' (first | (with_reducible exact ixO (by assumption) (by omega)) | with_reducible apply And.intro | with_reducible intro)) <;> (try first | omega | (with_reducible apply Nat.le_refl) | rfl | exact absurd trivial (by assumption))
      · exact hP _ _ _ ⟨by rw [if_pos ⟨hx, hy⟩, if_neg (by assumption)], rfl, by rw [if_pos ⟨hx, hy⟩]; exact up_same, hR.t hW, frB_up frB_rf (by omega)⟩
      · exact hP _ _ _ ⟨by rw [if_pos ⟨hx, hy⟩, if_pos (by assumption)], rfl, by rw [if_pos ⟨hx, hy⟩]; exact up_same, hR.t hW, frB_up frB_rf (by omega)⟩
    refine B_X9_colour_11 hC hS.o ⟨fun w => absurd w (by decide), fun _ => ⟨fun hy => ⟨hS.o, ?_⟩, fun hy => ⟨fun hy2 => ⟨hS.o, ?_⟩, fun hy2 => ⟨hS.o, ?_⟩⟩⟩⟩
    · refine ⟨0, 0, _, by omega, Nat.le_refl _, hX ▸ m_right hl 0 hS (by first | exact up_same | assumption | (simp (disch := first | assumption | omega) only [row_off, row_in, row_out, up_same, up_ne, cpy_off, rwo_off, rwo_at, rwo_out, mg6, mg7, mg8, mg9, mg10, mg12, mg30, mg31, mg32, mg33, mg35, mg36, mg37, mg38, mg39, mg43, mg44, mg45, mg46, mg47, mg48, mg49, mg50, mg53, mg54, mg55, mg56, mg57, mg58, mg59, mg60, mg65, mg66, mg67, mg68, mg69, mg70, mg71, mg72] ; done)), PI.use ?_⟩
      rw [if_neg (by decide), if_neg (by decide)]
      exact good (Or.inl hy)
    · refine ⟨0, 0, _, by omega, Nat.le_refl _, hX ▸ m_right hl 0 hS (by first | exact up_same | assumption | (simp (disch := first | assumption | omega) only [row_off, row_in, row_out, up_same, up_ne, cpy_off, rwo_off, rwo_at, rwo_out, mg6, mg7, mg8, mg9, mg10, mg12, mg30, mg31, mg32, mg33, mg35, mg36, mg37, mg38, mg39, mg43, mg44, mg45, mg46, mg47, mg48, mg49, mg50, mg53, mg54, mg55, mg56, mg57, mg58, mg59, mg60, mg65, mg66, mg67, mg68, mg69, mg70, mg71, mg72] ; done)), PI.use ?_⟩
      rw [if_pos rfl, if_pos rfl]
      exact tail _ ((hR.t hW).t hW) up_same (frB_up (frB_up frB_rf (by omega)) (by omega)) (fun w => w.2.elim hy hy2)
    · refine ⟨0, 0, _, by omega, Nat.le_refl _, hX ▸ m_right hl 0 hS (by first | exact up_same | assumption | (simp (disch := first | assumption | omega) only [row_off, row_in, row_out, up_same, up_ne, cpy_off, rwo_off, rwo_at, rwo_out, mg6, mg7, mg8, mg9, mg10, mg12, mg30, mg31, mg32, mg33, mg35, mg36, mg37, mg38, mg39, mg43, mg44, mg45, mg46, mg47, mg48, mg49, mg50, mg53, mg54, mg55, mg56, mg57, mg58, mg59, mg60, mg65, mg66, mg67, mg68, mg69, mg70, mg71, mg72] ; done)), PI.use ?_⟩
      rw [if_neg (by decide), if_neg (by decide)]
      exact good (Or.inr hy2)
  · rw [if_neg hx]
    refine B_X9_colour_11 hC hS.o ⟨fun _ => ⟨hS.o, ?_⟩, fun w => absurd rfl w⟩
    refine ⟨0, 0, _, by omega, Nat.le_refl _, hX ▸ m_right hl 0 hS (by first | exact up_same | assumption | (simp (disch := first | assumption | omega) only [row_off, row_in, row_out, up_same, up_ne, cpy_off, rwo_off, rwo_at, rwo_out, mg6, mg7, mg8, mg9, mg10, mg12, mg30, mg31, mg32, mg33, mg35, mg36, mg37, mg38, mg39, mg43, mg44, mg45, mg46, mg47, mg48, mg49, mg50, mg53, mg54, mg55, mg56, mg57, mg58, mg59, mg60, mg65, mg66, mg67, mg68, mg69, mg70, mg71, mg72] ; done)), PI.use ?_⟩
    rw [if_pos rfl, if_pos rfl]
    exact tail _ ((hR.t hW).t hW) up_same (frB_up (frB_up frB_rf (by omega)) (by omega)) (fun w => hx w.1)
/-- set -/
def setF (σ : Mu) (x y c : Int) : Mu := if 0 ≤ c ∧ c < σ 0 1 then (if y = 0 then up (up σ 3 x c) 0 5 0 else up σ 4 x c) else σ
theorem m_set (hl : l.stackTraces = false) (d : Nat) (hd : 0 < d) {b x y c : Int} (hS : ModS G b) (hG : ModG γ b) (hR : RepR μ b σ) (hW : Wf σ) : Cn l G yX9_set cX9_set 4 (some .boolean) d 0 [aR b, aI x, aI y, aI c] γ μ (PR μ γ b (if isL σ x ∧ isSW y then setF σ x y c else σ) (if isL σ x ∧ isSW y then (if 0 ≤ c ∧ c < σ 0 1 then 1 else 0) else 0) (if isL σ x ∧ isSW y then 0 else 1)) := by
  refine Cn.ofP hl (plainFor_of_name (by decide)) (noLc nlR (noLc nlI (noLc nlI (noL1 nlI)))) rfl (fun P hP o1 o3 X hX hC => B_X9_set_0 hC hS.o ?_)
  obtain ⟨r1, r2, r3, r4, r5, r6, r7, r8, r9, r10, ra1, ra2, ra3, ra4, ra5, ra6, ra7, ra8, ra9, ra10, rk, rh⟩ := id hR
  have hn := hW.1
  have hqb := hW.2.1.b
  have s3 := ms3 hS; have s4 := ms4 hS
  have tail : ∀ m, RepR m b σ → m b 0 = 1 → frB μ m b (b + 40) → ¬ (isL σ x ∧ isSW y) → V X G (Qm X G 0 P) 0 32 [aR b, aI x, aI y, aI c] [aI 0] γ m := fun m h1 h2 h3 h4 => by
    refine B_X9_set_32 hC hS.o ?_
    (repeat' (first | (with_reducible exact ixO (by assumption) (by omega)) | with_reducible apply And.intro | with_reducible intro)) <;> (try first | omega | (with_reducible apply Nat.le_refl) | rfl | exact absurd trivial (by assumption))
    exact hP _ _ _ ⟨by rw [if_neg h4], rfl, by rw [if_neg h4]; exact h2, by rw [if_neg h4]; exact h1, h3⟩
  refine ⟨0, 0, _, by omega, Nat.le_refl _, hX ▸ m_isLamp hl 0 hS (by first | assumption | (simp (disch := first | assumption | omega) only [row_off, row_in, row_out, up_same, up_ne, cpy_off, rwo_off, rwo_at, rwo_out, mg6, mg7, mg8, mg9, mg10, mg12, mg30, mg31, mg32, mg33, mg35, mg36, mg37, mg38, mg39, mg43, mg44, mg45, mg46, mg47, mg48, mg49, mg50, mg53, mg54, mg55, mg56, mg57, mg58, mg59, mg60, mg65, mg66, mg67, mg68, mg69, mg70, mg71, mg72] ; assumption)), PI.use ?_⟩
  by_cases hx : isL σ x
  · rw [if_pos hx]
    have good : isSW y → V X G (Qm X G 0 P) 0 32 [aR b, aI x, aI y, aI c] [aI 1] γ (up μ b 0 0) := fun hy => by
      have hc2 : isL σ x ∧ isSW y := ⟨hx, hy⟩
      simp only [if_pos hc2] at hP
      refine B_X9_set_32 hC hS.o ?_
      simp (disch := first | assumption | omega) only [row_off, row_in, row_out, up_same, up_ne, cpy_off, rwo_off, rwo_at, rwo_out, mg6, mg7, mg8, mg9, mg10, mg12, mg30, mg31, mg32, mg33, mg35, mg36, mg37, mg38, mg39, mg43, mg44, mg45, mg46, mg47, mg48, mg49, mg50, mg53, mg54, mg55, mg56, mg57, mg58, mg59, mg60, mg65, mg66, mg67, mg68, mg69, mg70, mg71, mg72, r2]
      (repeat' (first | (with_reducible exact ixO (by assumption) (by omega)) | with_reducible apply And.intro | with_reducible intro)) <;> (try first | omega | (with_reducible apply Nat.le_refl) | rfl | exact absurd trivial (by assumption))
      refine ⟨0, 0, _, hd, Nat.le_refl _, hX ▸ m_within hl 0, PI.use ?_⟩
      unfold setF at hP
      by_cases hc : 0 ≤ c ∧ c < σ 0 1
      · rw [if_pos (show 0 ≤ c ∧ c ≤ σ 0 1 - 1 by omega)]
        simp only [if_pos hc] at hP
        refine B_X9_set_48 hC hS.o ?_
        simp (disch := first | assumption | omega) only [row_off, row_in, row_out, up_same, up_ne, cpy_off, rwo_off, rwo_at, rwo_out, mg6, mg7, mg8, mg9, mg10, mg12, mg30, mg31, mg32, mg33, mg35, mg36, mg37, mg38, mg39, mg43, mg44, mg45, mg46, mg47, mg48, mg49, mg50, mg53, mg54, mg55, mg56, mg57, mg58, mg59, mg60, mg65, mg66, mg67, mg68, mg69, mg70, mg71, mg72]
        (repeat' (first | (with_reducible exact ixO (by assumption) (by omega)) | with_reducible apply And.intro | with_reducible intro)) <;> (try first | omega | (with_reducible apply Nat.le_refl) | rfl | exact absurd trivial (by assumption))
        · rename_i hy0
          rw [if_neg hy0] at hP
          refine hP _ _ _ ⟨rfl, rfl, by simp (disch := first | assumption | omega) only [row_off, row_in, row_out, up_same, up_ne, cpy_off, rwo_off, rwo_at, rwo_out, mg6, mg7, mg8, mg9, mg10, mg12, mg30, mg31, mg32, mg33, mg35, mg36, mg37, mg38, mg39, mg43, mg44, mg45, mg46, mg47, mg48, mg49, mg50, mg53, mg54, mg55, mg56, mg57, mg58, mg59, mg60, mg65, mg66, mg67, mg68, mg69, mg70, mg71, mg72], ?_, frB_up (frB_up frB_rf (by omega)) (by omega)⟩
          refine RepR.mk2 hR hW ⟨by simp (disch := first | assumption | omega) only [row_off, row_in, row_out, up_same, up_ne, cpy_off, rwo_off, rwo_at, rwo_out, mg6, mg7, mg8, mg9, mg10, mg12, mg30, mg31, mg32, mg33, mg35, mg36, mg37, mg38, mg39, mg43, mg44, mg45, mg46, mg47, mg48, mg49, mg50, mg53, mg54, mg55, mg56, mg57, mg58, mg59, mg60, mg65, mg66, mg67, mg68, mg69, mg70, mg71, mg72], by simp (disch := first | assumption | omega) only [row_off, row_in, row_out, up_same, up_ne, cpy_off, rwo_off, rwo_at, rwo_out, mg6, mg7, mg8, mg9, mg10, mg12, mg30, mg31, mg32, mg33, mg35, mg36, mg37, mg38, mg39, mg43, mg44, mg45, mg46, mg47, mg48, mg49, mg50, mg53, mg54, mg55, mg56, mg57, mg58, mg59, mg60, mg65, mg66, mg67, mg68, mg69, mg70, mg71, mg72], by simp (disch := decide) only [up_off, row_offF, rwo_offF], by simp (disch := decide) only [up_off, row_offF, rwo_offF]⟩ (fun x j hkk => by unfold keepK at hkk; simp (disch := first | assumption | omega) only [row_off, row_in, row_out, up_same, up_ne, cpy_off, rwo_off, rwo_at, rwo_out, mg6, mg7, mg8, mg9, mg10, mg12, mg30, mg31, mg32, mg33, mg35, mg36, mg37, mg38, mg39, mg43, mg44, mg45, mg46, mg47, mg48, mg49, mg50, mg53, mg54, mg55, mg56, mg57, mg58, mg59, mg60, mg65, mg66, mg67, mg68, mg69, mg70, mg71, mg72]) ⟨?_, ?_, ?_, ?_, ?_, ?_, ?_, ?_, ?_, ?_, ?_, ?_, ?_, ?_, ?_, ?_⟩ <;> (try (first | (intros; simp (disch := first | assumption | omega) only [row_off, row_in, row_out, up_same, up_ne, cpy_off, rwo_off, rwo_at, rwo_out, mg6, mg7, mg8, mg9, mg10, mg12, mg30, mg31, mg32, mg33, mg35, mg36, mg37, mg38, mg39, mg43, mg44, mg45, mg46, mg47, mg48, mg49, mg50, mg53, mg54, mg55, mg56, mg57, mg58, mg59, mg60, mg65, mg66, mg67, mg68, mg69, mg70, mg71, mg72]; done) | (intros; simp (disch := first | assumption | omega) only [row_off, row_in, row_out, up_same, up_ne, cpy_off, rwo_off, rwo_at, rwo_out, mg6, mg7, mg8, mg9, mg10, mg12, mg30, mg31, mg32, mg33, mg35, mg36, mg37, mg38, mg39, mg43, mg44, mg45, mg46, mg47, mg48, mg49, mg50, mg53, mg54, mg55, mg56, mg57, mg58, mg59, mg60, mg65, mg66, mg67, mg68, mg69, mg70, mg71, mg72]; first | assumption | (apply_assumption <;> first | assumption | omega)) | (intros; first | assumption | (apply_assumption <;> first | assumption | omega))))
          · intro j z1 z2
            by_cases e : j = x
            · subst e; simp (disch := first | assumption | omega) only [row_off, row_in, row_out, up_same, up_ne, cpy_off, rwo_off, rwo_at, rwo_out, mg6, mg7, mg8, mg9, mg10, mg12, mg30, mg31, mg32, mg33, mg35, mg36, mg37, mg38, mg39, mg43, mg44, mg45, mg46, mg47, mg48, mg49, mg50, mg53, mg54, mg55, mg56, mg57, mg58, mg59, mg60, mg65, mg66, mg67, mg68, mg69, mg70, mg71, mg72]
            · simp (disch := first | assumption | omega) only [row_off, row_in, row_out, up_same, up_ne, cpy_off, rwo_off, rwo_at, rwo_out, mg6, mg7, mg8, mg9, mg10, mg12, mg30, mg31, mg32, mg33, mg35, mg36, mg37, mg38, mg39, mg43, mg44, mg45, mg46, mg47, mg48, mg49, mg50, mg53, mg54, mg55, mg56, mg57, mg58, mg59, mg60, mg65, mg66, mg67, mg68, mg69, mg70, mg71, mg72]; exact ra4 j z1 z2
        · rename_i hy0
          rw [if_pos hy0] at hP
          refine hP _ _ _ ⟨rfl, rfl, by simp (disch := first | assumption | omega) only [row_off, row_in, row_out, up_same, up_ne, cpy_off, rwo_off, rwo_at, rwo_out, mg6, mg7, mg8, mg9, mg10, mg12, mg30, mg31, mg32, mg33, mg35, mg36, mg37, mg38, mg39, mg43, mg44, mg45, mg46, mg47, mg48, mg49, mg50, mg53, mg54, mg55, mg56, mg57, mg58, mg59, mg60, mg65, mg66, mg67, mg68, mg69, mg70, mg71, mg72], ?_, frB_up (frB_up (frB_up frB_rf (by omega)) (by omega)) (by omega)⟩
          refine RepR.mk2 hR hW ⟨by simp (disch := first | assumption | omega) only [row_off, row_in, row_out, up_same, up_ne, cpy_off, rwo_off, rwo_at, rwo_out, mg6, mg7, mg8, mg9, mg10, mg12, mg30, mg31, mg32, mg33, mg35, mg36, mg37, mg38, mg39, mg43, mg44, mg45, mg46, mg47, mg48, mg49, mg50, mg53, mg54, mg55, mg56, mg57, mg58, mg59, mg60, mg65, mg66, mg67, mg68, mg69, mg70, mg71, mg72], by simp (disch := first | assumption | omega) only [row_off, row_in, row_out, up_same, up_ne, cpy_off, rwo_off, rwo_at, rwo_out, mg6, mg7, mg8, mg9, mg10, mg12, mg30, mg31, mg32, mg33, mg35, mg36, mg37, mg38, mg39, mg43, mg44, mg45, mg46, mg47, mg48, mg49, mg50, mg53, mg54, mg55, mg56, mg57, mg58, mg59, mg60, mg65, mg66, mg67, mg68, mg69, mg70, mg71, mg72], by simp (disch := decide) only [up_off, row_offF, rwo_offF], by simp (disch := decide) only [up_off, row_offF, rwo_offF]⟩ (fun x j hkk => by unfold keepK at hkk; simp (disch := first | assumption | omega) only [row_off, row_in, row_out, up_same, up_ne, cpy_off, rwo_off, rwo_at, rwo_out, mg6, mg7, mg8, mg9, mg10, mg12, mg30, mg31, mg32, mg33, mg35, mg36, mg37, mg38, mg39, mg43, mg44, mg45, mg46, mg47, mg48, mg49, mg50, mg53, mg54, mg55, mg56, mg57, mg58, mg59, mg60, mg65, mg66, mg67, mg68, mg69, mg70, mg71, mg72]) ⟨?_, ?_, ?_, ?_, ?_, ?_, ?_, ?_, ?_, ?_, ?_, ?_, ?_, ?_, ?_, ?_⟩ <;> (try (first | (intros; simp (disch := first | assumption | omega) only [row_off, row_in, row_out, up_same, up_ne, cpy_off, rwo_off, rwo_at, rwo_out, mg6, mg7, mg8, mg9, mg10, mg12, mg30, mg31, mg32, mg33, mg35, mg36, mg37, mg38, mg39, mg43, mg44, mg45, mg46, mg47, mg48, mg49, mg50, mg53, mg54, mg55, mg56, mg57, mg58, mg59, mg60, mg65, mg66, mg67, mg68, mg69, mg70, mg71, mg72]; done) | (intros; simp (disch := first | assumption | omega) only [row_off, row_in, row_out, up_same, up_ne, cpy_off, rwo_off, rwo_at, rwo_out, mg6, mg7, mg8, mg9, mg10, mg12, mg30, mg31, mg32, mg33, mg35, mg36, mg37, mg38, mg39, mg43, mg44, mg45, mg46, mg47, mg48, mg49, mg50, mg53, mg54, mg55, mg56, mg57, mg58, mg59, mg60, mg65, mg66, mg67, mg68, mg69, mg70, mg71, mg72]; first | assumption | (apply_assumption <;> first | assumption | omega)) | (intros; first | assumption | (apply_assumption <;> first | assumption | omega))))
          · intro j z1 z2
            by_cases e : j = x
            · subst e; simp (disch := first | assumption | omega) only [row_off, row_in, row_out, up_same, up_ne, cpy_off, rwo_off, rwo_at, rwo_out, mg6, mg7, mg8, mg9, mg10, mg12, mg30, mg31, mg32, mg33, mg35, mg36, mg37, mg38, mg39, mg43, mg44, mg45, mg46, mg47, mg48, mg49, mg50, mg53, mg54, mg55, mg56, mg57, mg58, mg59, mg60, mg65, mg66, mg67, mg68, mg69, mg70, mg71, mg72]
            · simp (disch := first | assumption | omega) only [row_off, row_in, row_out, up_same, up_ne, cpy_off, rwo_off, rwo_at, rwo_out, mg6, mg7, mg8, mg9, mg10, mg12, mg30, mg31, mg32, mg33, mg35, mg36, mg37, mg38, mg39, mg43, mg44, mg45, mg46, mg47, mg48, mg49, mg50, mg53, mg54, mg55, mg56, mg57, mg58, mg59, mg60, mg65, mg66, mg67, mg68, mg69, mg70, mg71, mg72]; exact ra3 j z1 z2
          · intro j z1 z2
            rw [up_same] at z2
            omega
      · rw [if_neg (show ¬ (0 ≤ c ∧ c ≤ σ 0 1 - 1) by omega)]
        simp only [if_neg hc] at hP
        refine B_X9_set_48 hC hS.o ?_
        (repeat' (first | (with_reducible exact ixO (by assumption) (by omega)) | with_reducible apply And.intro | with_reducible intro)) <;> (try first | omega | (with_reducible apply Nat.le_refl) | rfl | exact absurd trivial (by assumption))
        exact hP _ _ _ ⟨rfl, rfl, up_same, hR.t hW, frB_up frB_rf (by omega)⟩
    refine B_X9_set_11 hC hS.o ⟨fun w => absurd w (by decide), fun _ => ⟨fun hy => ⟨hS.o, ?_⟩, fun hy => ⟨fun hy2 => ⟨hS.o, ?_⟩, fun hy2 => ⟨hS.o, ?_⟩⟩⟩⟩
    · refine ⟨0, 0, _, by omega, Nat.le_refl _, hX ▸ m_right hl 0 hS (by first | exact up_same | assumption | (simp (disch := first | assumption | omega) only [row_off, row_in, row_out, up_same, up_ne, cpy_off, rwo_off, rwo_at, rwo_out, mg6, mg7, mg8, mg9, mg10, mg12, mg30, mg31, mg32, mg33, mg35, mg36, mg37, mg38, mg39, mg43, mg44, mg45, mg46, mg47, mg48, mg49, mg50, mg53, mg54, mg55, mg56, mg57, mg58, mg59, mg60, mg65, mg66, mg67, mg68, mg69, mg70, mg71, mg72] ; done)), PI.use ?_⟩
      rw [if_neg (by decide), if_neg (by decide)]
      exact good (Or.inl hy)
    · refine ⟨0, 0, _, by omega, Nat.le_refl _, hX ▸ m_right hl 0 hS (by first | exact up_same | assumption | (simp (disch := first | assumption | omega) only [row_off, row_in, row_out, up_same, up_ne, cpy_off, rwo_off, rwo_at, rwo_out, mg6, mg7, mg8, mg9, mg10, mg12, mg30, mg31, mg32, mg33, mg35, mg36, mg37, mg38, mg39, mg43, mg44, mg45, mg46, mg47, mg48, mg49, mg50, mg53, mg54, mg55, mg56, mg57, mg58, mg59, mg60, mg65, mg66, mg67, mg68, mg69, mg70, mg71, mg72] ; done)), PI.use ?_⟩
      rw [if_pos rfl, if_pos rfl]
      exact tail _ ((hR.t hW).t hW) up_same (frB_up (frB_up frB_rf (by omega)) (by omega)) (fun w => w.2.elim hy hy2)
    · refine ⟨0, 0, _, by omega, Nat.le_refl _, hX ▸ m_right hl 0 hS (by first | exact up_same | assumption | (simp (disch := first | assumption | omega) only [row_off, row_in, row_out, up_same, up_ne, cpy_off, rwo_off, rwo_at, rwo_out, mg6, mg7, mg8, mg9, mg10, mg12, mg30, mg31, mg32, mg33, mg35, mg36, mg37, mg38, mg39, mg43, mg44, mg45, mg46, mg47, mg48, mg49, mg50, mg53, mg54, mg55, mg56, mg57, mg58, mg59, mg60, mg65, mg66, mg67, mg68, mg69, mg70, mg71, mg72] ; done)), PI.use ?_⟩
      rw [if_neg (by decide), if_neg (by decide)]
      exact good (Or.inr hy2)
  · rw [if_neg hx]
    refine B_X9_set_11 hC hS.o ⟨fun _ => ⟨hS.o, ?_⟩, fun w => absurd rfl w⟩
    refine ⟨0, 0, _, by omega, Nat.le_refl _, hX ▸ m_right hl 0 hS (by first | exact up_same | assumption | (simp (disch := first | assumption | omega) only [row_off, row_in, row_out, up_same, up_ne, cpy_off, rwo_off, rwo_at, rwo_out, mg6, mg7, mg8, mg9, mg10, mg12, mg30, mg31, mg32, mg33, mg35, mg36, mg37, mg38, mg39, mg43, mg44, mg45, mg46, mg47, mg48, mg49, mg50, mg53, mg54, mg55, mg56, mg57, mg58, mg59, mg60, mg65, mg66, mg67, mg68, mg69, mg70, mg71, mg72] ; done)), PI.use ?_⟩
    rw [if_pos rfl, if_pos rfl]
    exact tail _ ((hR.t hW).t hW) up_same (frB_up (frB_up frB_rf (by omega)) (by omega)) (fun w => hx w.1)
end MSmall2
