/-! the state of a hall as a map of rows, and how the reference holds it -/
/-- what button x does to lamp l -/
def sA (σ : Mu) : Int → Int → Int := fun x l => σ 1 (36 * x + l)
/-- rows of σ: 0 the numbers n, q, w, h, edges, presses kept, bytes on the tape, place of the fault, is a row kept, is a nearest kept; 1 amounts, 2 jammed, 3 state, 4 wish, 5 presses, 6 tape, 7 slots used, 8 slots, 9 the row kept, 10 the nearest kept -/
def Wf (σ : Mu) : Prop :=
  (0 ≤ σ 0 0 ∧ σ 0 0 ≤ 36) ∧ qP (σ 0 1) ∧ ((σ 0 2 = 0 ∧ σ 0 3 = 0 ∧ σ 0 4 = -1) ∨ (1 ≤ σ 0 2 ∧ σ 0 2 ≤ 6 ∧ 1 ≤ σ 0 3 ∧ σ 0 3 ≤ 6 ∧ σ 0 0 = σ 0 2 * σ 0 3 ∧ 0 ≤ σ 0 4 ∧ σ 0 4 ≤ 2)) ∧ (0 ≤ σ 0 5 ∧ σ 0 5 ≤ 100) ∧ (0 ≤ σ 0 6 ∧ σ 0 6 ≤ 500) ∧
  (∀ x, 0 ≤ x → x < σ 0 0 → inQ (σ 0 0) (σ 0 1) (sA σ x)) ∧ (∀ x, 0 ≤ x → x < 36 → σ 2 x = 0 ∨ σ 2 x = 1) ∧ (∀ j, 0 ≤ j → j < 36 → (0 ≤ σ 3 j ∧ σ 3 j < σ 0 1) ∧ (σ 0 0 ≤ j → σ 3 j = 0)) ∧ (∀ j, 0 ≤ j → j < 36 → (0 ≤ σ 4 j ∧ σ 4 j < σ 0 1) ∧ (σ 0 0 ≤ j → σ 4 j = 0)) ∧ (∀ j, 0 ≤ j → j < σ 0 5 → 0 ≤ σ 5 j ∧ σ 5 j < σ 0 0) ∧ (∀ j, 0 ≤ j → j < σ 0 6 → 0 ≤ σ 6 j ∧ σ 6 j < 256) ∧
  (∀ s, 0 ≤ s → s < 4 → (σ 7 s = 0 ∨ σ 7 s = 1) ∧ (σ 7 s ≠ 0 → ∀ j, 0 ≤ j → j < 36 → (0 ≤ σ 8 (36 * s + j) ∧ σ 8 (36 * s + j) < σ 0 1) ∧ (σ 0 0 ≤ j → σ 8 (36 * s + j) = 0))) ∧ (σ 0 8 ≠ 0 → inQ (σ 0 0) (σ 0 1) (σ 9)) ∧ (σ 0 9 ≠ 0 → inQ (σ 0 0) (σ 0 1) (σ 10))
def RepR (μ : Mu) (b : Int) (σ : Mu) : Prop :=
  μ b 1 = σ 0 0 ∧ μ b 2 = σ 0 1 ∧ μ b 3 = σ 0 2 ∧ μ b 4 = σ 0 3 ∧ μ b 5 = σ 0 4 ∧ μ b 11 = σ 0 5 ∧ μ b 13 = σ 0 6 ∧ μ b 15 = σ 0 7 ∧ μ b 52 = σ 0 8 ∧ μ b 64 = σ 0 9 ∧
  (∀ j, 0 ≤ j → j < 1296 → μ (b + 1) j = σ 1 j) ∧ (∀ j, 0 ≤ j → j < 36 → μ (b + 2) j = σ 2 j) ∧ (∀ j, 0 ≤ j → j < 36 → μ (b + 3) j = σ 3 j) ∧ (∀ j, 0 ≤ j → j < 36 → μ (b + 4) j = σ 4 j) ∧ (∀ j, 0 ≤ j → j < σ 0 5 → μ (b + 5) j = σ 5 j) ∧ (∀ j, 0 ≤ j → j < σ 0 6 → μ (b + 6) j = σ 6 j) ∧ (∀ j, 0 ≤ j → j < 4 → μ (b + 38) j = σ 7 j) ∧ (∀ j, 0 ≤ j → j < 144 → μ (b + 39) j = σ 8 j) ∧ (σ 0 8 ≠ 0 → ∀ j, 0 ≤ j → j < σ 0 0 → μ (b + 24) j = σ 9 j) ∧ (σ 0 9 ≠ 0 → ∀ j, 0 ≤ j → j < σ 0 0 → μ (b + 32) j = σ 10 j) ∧
  (μ b 51 ≠ 0 → KnR μ b (σ 0 0) (σ 0 1) (sA σ) (σ 2)) ∧ (μ b 61 ≠ 0 → HdR μ b (σ 0 0) (σ 0 1) (sA σ) (σ 2))
/-- the places in which the reference keeps what lasts -/
def keepR (b x j : Int) : Prop := (x = b ∧ ((1 ≤ j ∧ j ≤ 5) ∨ j = 11 ∨ j = 13 ∨ j = 15 ∨ (40 ≤ j ∧ j ≤ 42) ∨ j = 51 ∨ j = 52 ∨ j = 61 ∨ j = 62 ∨ j = 64)) ∨ (b + 1 ≤ x ∧ x ≤ b + 6) ∨ (b + 16 ≤ x ∧ x ≤ b + 24) ∨ x = b + 31 ∨ x = b + 32 ∨ x = b + 38 ∨ x = b + 39
theorem HdR.fr {μ m : Mu} {b n q : Int} {A : Int → Int → Int} {jm : Int → Int} (h : HdR μ b n q A jm) (h1 : m b 62 = μ b 62) (h2 : ∀ j, m (b + 31) j = μ (b + 31) j) : HdR m b n q A jm := ⟨by rw [h1]; exact h.1, fun k z1 z2 => by rw [h2]; exact h.2 k z1 z2⟩
theorem RepR.fr {μ m σ : Mu} {b : Int} (hR : RepR μ b σ) (hW : Wf σ) (h : ∀ x j, keepR b x j → m x j = μ x j) : RepR m b σ := by
  obtain ⟨r1, r2, r3, r4, r5, r6, r7, r8, r9, r10, ra1, ra2, ra3, ra4, ra5, ra6, ra7, ra8, ra9, ra10, rk, rh⟩ := id hR
  unfold keepR at h
  refine ⟨?_, ?_, ?_, ?_, ?_, ?_, ?_, ?_, ?_, ?_, fun j z1 z2 => ?_, fun j z1 z2 => ?_, fun j z1 z2 => ?_, fun j z1 z2 => ?_, fun j z1 z2 => ?_, fun j z1 z2 => ?_, fun j z1 z2 => ?_, fun j z1 z2 => ?_, fun w j z1 z2 => ?_, fun w j z1 z2 => ?_, fun w => ?_, fun w => ?_⟩
  case refine_21 => rw [h _ _ (by omega)] at w; exact (rk w).fr hW.1.2 ⟨h _ _ (by omega), h _ _ (by omega), h _ _ (by omega)⟩ (fun x j z1 z2 => h _ _ (by omega))
  case refine_22 => rw [h _ _ (by omega)] at w; exact (rh w).fr (h _ _ (by omega)) (fun j => h _ _ (by omega))
  all_goals rw [h _ _ (by omega)]
  all_goals first | assumption | (apply_assumption <;> assumption)
theorem RepR.md {μ σ : Mu} {b : Int} (hR : RepR μ b σ) (hW : Wf σ) : MD μ b (σ 0 0) (σ 0 1) (sA σ) (σ 2) := by
  obtain ⟨r1, r2, r3, r4, r5, r6, r7, r8, r9, r10, ra1, ra2, ra3, ra4, ra5, ra6, ra7, ra8, ra9, ra10, rk, rh⟩ := id hR
  obtain ⟨w1, w2, w3, w4, w5, w6, w7⟩ := hW
  exact ⟨r1, r2, w1, w2, fun x z1 z2 => ⟨fun j z3 z4 => ra1 _ (by omega) (by omega), w6 x z1 z2⟩, fun x z1 z2 => ra2 _ (by omega) (by omega)⟩
theorem row_offF {μ : Mu} {a n b : Int} {f : Int → Int} (h : b ≠ a) : row μ a n f b = μ b := by funext j; exact row_off h
theorem rwo_offF {μ : Mu} {a o n b : Int} {f : Int → Int} (h : b ≠ a) : rwo μ a o n f b = μ b := by funext j; exact rwo_off h
theorem sA_c {σ σ' : Mu} (h : σ' 1 = σ 1) : sA σ' = sA σ := by
  unfold sA
  rw [h]
/-- what a method of the reference leaves behind: its answer, the thrown mark, the state -/
abbrev PR (μ γ : Mu) (b : Int) (σ' : Mu) (z t : Int) : Option AV → Mu → Mu → Prop := fun r γ' μ' => r = some (aI z) ∧ γ' = γ ∧ μ' b 0 = t ∧ RepR μ' b σ' ∧ frB μ μ' b (b + 40)
section MSmall
variable {l : Launch} {G : Gx} {γ μ σ : Mu}
theorem m_right (hl : l.stackTraces = false) (d : Nat) {b x : Int} (hS : ModS G b) (h0 : μ b 0 = 0) : Cn l G yX9_right cX9_right 3 (some .boolean) d 0 [aR b, aI x, aI 1] γ μ (PI (if x = 0 then 0 else 1) γ (if x = 0 then up μ b 0 1 else μ)) := by
  refine Cn.ofP hl (plainFor_of_name (by decide)) (noLc nlR (noLc nlI (noL1 nlI))) rfl (fun P hP o1 o3 X hX hC => B_X9_right_0 hC hS.o ?_)
  simp (disch := first | assumption | omega) only [row_off, row_in, row_out, up_same, up_ne, cpy_off, mg6, mg7, mg8, mg9, mg10, mg12, mg30, mg31, mg32, mg33, mg35, mg36, mg37, mg38, mg39, mg43, mg44, mg45, mg46, mg47, mg48, mg49, mg50, mg53, mg54, mg55, mg56, mg57, mg58, mg59, mg60, mg65, mg66, mg67, mg68, mg69, mg70, mg71, mg72, h0]
  (repeat' (first | (with_reducible exact ixO (by assumption) (by omega)) | with_reducible apply And.intro | with_reducible intro)) <;> (try first | omega | (with_reducible apply Nat.le_refl) | rfl | exact absurd trivial (by assumption))
  · exact hP _ _ _ ⟨by rw [if_neg (by assumption)], rfl, by rw [if_neg (by assumption)]⟩
  · exact hP _ _ _ ⟨by rw [if_pos (by assumption)], rfl, by rw [if_pos (by assumption)]⟩
theorem m_within (hl : l.stackTraces = false) (d : Nat) {x y z : Int} : Cn l G yX9_within cX9_within 3 (some .boolean) d 0 [aI x, aI y, aI z] γ μ (PI (if y ≤ x ∧ x ≤ z then 1 else 0) γ μ) := by
  refine Cn.ofP hl (plainFor_of_name (by decide)) (noLc nlI (noLc nlI (noL1 nlI))) rfl (fun P hP o1 o3 X hX hC => B_X9_within_0 hC ?_)
  (repeat' (first | (with_reducible exact ixO (by assumption) (by omega)) | with_reducible apply And.intro | with_reducible intro)) <;> (try first | omega | (with_reducible apply Nat.le_refl) | rfl | exact absurd trivial (by assumption))
  · exact hP _ _ _ ⟨by rw [if_neg (by omega)], rfl, rfl⟩
  · exact hP _ _ _ ⟨by rw [if_neg (by omega)], rfl, rfl⟩
  · exact hP _ _ _ ⟨by rw [if_pos (by omega)], rfl, rfl⟩
theorem m_isLamp (hl : l.stackTraces = false) (d : Nat) {b x n : Int} (hS : ModS G b) (en : μ b 1 = n) : Cn l G yX9_isLamp cX9_isLamp 2 (some .boolean) d 0 [aR b, aI x] γ μ (PI (if 0 ≤ x ∧ x < n then 1 else 0) γ μ) := by
  refine Cn.ofP hl (plainFor_of_name (by decide)) (noLc nlR (noL1 nlI)) rfl (fun P hP o1 o3 X hX hC => B_X9_isLamp_0 hC hS.o ?_)
  simp (disch := first | assumption | omega) only [row_off, row_in, row_out, up_same, up_ne, cpy_off, mg6, mg7, mg8, mg9, mg10, mg12, mg30, mg31, mg32, mg33, mg35, mg36, mg37, mg38, mg39, mg43, mg44, mg45, mg46, mg47, mg48, mg49, mg50, mg53, mg54, mg55, mg56, mg57, mg58, mg59, mg60, mg65, mg66, mg67, mg68, mg69, mg70, mg71, mg72, en]
  (repeat' (first | (with_reducible exact ixO (by assumption) (by omega)) | with_reducible apply And.intro | with_reducible intro)) <;> (try first | omega | (with_reducible apply Nat.le_refl) | rfl | exact absurd trivial (by assumption))
  · exact hP _ _ _ ⟨by rw [if_neg (by omega)], rfl, rfl⟩
  · exact hP _ _ _ ⟨by rw [if_neg (by omega)], rfl, rfl⟩
  · exact hP _ _ _ ⟨by rw [if_pos (by omega)], rfl, rfl⟩
theorem m_thrown (hl : l.stackTraces = false) (d : Nat) {b : Int} (hS : ModS G b) : Cn l G yX9_thrown cX9_thrown 1 (some .int) d 0 [aR b] γ μ (PI (μ b 0) γ μ) := by
  refine Cn.ofP hl (plainFor_of_name (by decide)) (noL1 nlR) rfl (fun P hP o1 o3 X hX hC => B_X9_thrown_0 hC hS.o ?_)
  (repeat' (first | (with_reducible exact ixO (by assumption) (by omega)) | with_reducible apply And.intro | with_reducible intro)) <;> (try first | omega | (with_reducible apply Nat.le_refl) | rfl | exact absurd trivial (by assumption))
  exact hP _ _ _ ⟨rfl, rfl, rfl⟩
/-- the mark alone -/
theorem RepR.t {b z : Int} (hR : RepR μ b σ) (hW : Wf σ) : RepR (up μ b 0 z) b σ := hR.fr hW (fun x j h => up_ne (by unfold keepR at h; omega))
theorem frB_up {m : Mu} {b x i z : Int} (h : frB μ m b (b + 40)) (hx : b ≤ x ∧ x < b + 40) : frB μ (up m x i z) b (b + 40) := fun y j hy => by rw [up_ne (by omega)]; exact h y j hy
theorem frB_rf {b : Int} : frB μ μ b (b + 40) := fun _ _ _ => rfl
theorem m_fault (hl : l.stackTraces = false) (d : Nat) {b : Int} (hS : ModS G b) (hR : RepR μ b σ) (hW : Wf σ) : Cn l G yX9_fault cX9_fault 1 (some .int) d 0 [aR b] γ μ (PR μ γ b σ (σ 0 7) 0) := by
  refine Cn.ofP hl (plainFor_of_name (by decide)) (noL1 nlR) rfl (fun P hP o1 o3 X hX hC => B_X9_fault_0 hC hS.o ?_)
  have h8 := hR.2.2.2.2.2.2.2.1
  rw [h8]
  (repeat' (first | (with_reducible exact ixO (by assumption) (by omega)) | with_reducible apply And.intro | with_reducible intro)) <;> (try first | omega | (with_reducible apply Nat.le_refl) | rfl | exact absurd trivial (by assumption))
  exact hP _ _ _ ⟨rfl, rfl, up_same, hR.t hW, frB_up frB_rf (by omega)⟩
/-- count: what is told of the hall -/
def cntF (σ : Mu) (what : Int) : Int := if what = 7 then cntL (σ 2) (σ 0 0).toNat else σ 0 what
theorem m_count (hl : l.stackTraces = false) (d : Nat) (hd : 0 < d) {b x : Int} (hS : ModS G b) (hG : ModG γ b) (hR : RepR μ b σ) (hW : Wf σ) : Cn l G yX9_count cX9_count 4 (some .int) d 0 [aR b, aI x] γ μ (PR μ γ b σ (if 0 ≤ x ∧ x ≤ 7 then cntF σ x else 0) (if 0 ≤ x ∧ x ≤ 7 then 0 else 1)) := by
  refine Cn.ofP hl (plainFor_of_name (by decide)) (noLc nlR (noL1 nlI)) rfl (fun P hP o1 o3 X hX hC => B_X9_count_0 hC hS.o ?_)
  obtain ⟨r1, r2, r3, r4, r5, r6, r7, r8, r9, r10, ra1, ra2, ra3, ra4, ra5, ra6, ra7, ra8, ra9, ra10, rk, rh⟩ := id hR
  have hn := hW.1
  have s2 := ms2 hS
  have loop : ∀ (k i : Nat), i + k = (σ 0 0).toNat → 0 ≤ x ∧ x ≤ 7 → V X G (Qm X G 0 P) 0 34 [aR b, aI x, aI (cntL (σ 2) i), aI i] [] γ (up μ b 0 0) := by
    intro k
    induction k with
    | zero =>
      intro i hi hx
      obtain rfl : i = (σ 0 0).toNat := by omega
      refine B_X9_count_34 hC hS.o ?_
      simp (disch := first | assumption | omega) only [row_off, row_in, row_out, up_same, up_ne, cpy_off, rwo_off, rwo_at, rwo_out, mg6, mg7, mg8, mg9, mg10, mg12, mg30, mg31, mg32, mg33, mg35, mg36, mg37, mg38, mg39, mg43, mg44, mg45, mg46, mg47, mg48, mg49, mg50, mg53, mg54, mg55, mg56, mg57, mg58, mg59, mg60, mg65, mg66, mg67, mg68, mg69, mg70, mg71, mg72, r1, r2, r3, r4, r5, r6, r7]
      (repeat' (first | (with_reducible exact ixO (by assumption) (by omega)) | with_reducible apply And.intro | with_reducible intro)) <;> (try first | omega | (with_reducible apply Nat.le_refl) | rfl | exact absurd trivial (by assumption))
      all_goals (refine hP _ _ _ ⟨?_, rfl, ?_, hR.t hW, frB_up frB_rf (by omega)⟩)
      all_goals (try rw [if_pos hx])
      all_goals (first | exact up_same | (unfold cntF; first | (obtain rfl : x = 7 := by omega); rfl | (subst x; rfl)))
    | succ k ih =>
      intro i hi hx
      have hc := cntL_le (σ 2) i
      have hih := ih (i + 1) (by omega) hx
      rw [cntL] at hih
      refine B_X9_count_34 hC hS.o ?_
      simp (disch := first | assumption | omega) only [row_off, row_in, row_out, up_same, up_ne, cpy_off, rwo_off, rwo_at, rwo_out, mg6, mg7, mg8, mg9, mg10, mg12, mg30, mg31, mg32, mg33, mg35, mg36, mg37, mg38, mg39, mg43, mg44, mg45, mg46, mg47, mg48, mg49, mg50, mg53, mg54, mg55, mg56, mg57, mg58, mg59, mg60, mg65, mg66, mg67, mg68, mg69, mg70, mg71, mg72, r1, ra2 i (by omega) (by omega)]
      (repeat' (first | (with_reducible exact ixO (by assumption) (by omega)) | with_reducible apply And.intro | with_reducible intro)) <;> (try first | omega | (with_reducible apply Nat.le_refl) | rfl | exact absurd trivial (by assumption))
      · rename_i h
        rw [if_pos h] at hih
        exact hih
      · rename_i h
        rw [if_neg h] at hih
        exact hih
  (repeat' (first | (with_reducible exact ixO (by assumption) (by omega)) | with_reducible apply And.intro | with_reducible intro)) <;> (try first | omega | (with_reducible apply Nat.le_refl) | rfl | exact absurd trivial (by assumption))
  · refine ⟨0, 0, _, hd, Nat.le_refl _, hX ▸ m_right hl 0 hS up_same, PI.use ?_⟩
    rw [if_pos rfl, if_pos rfl]
    refine B_X9_count_25 hC hS.o ?_
    (repeat' (first | (with_reducible exact ixO (by assumption) (by omega)) | with_reducible apply And.intro | with_reducible intro)) <;> (try first | omega | (with_reducible apply Nat.le_refl) | rfl | exact absurd trivial (by assumption))
    exact hP _ _ _ ⟨by rw [if_neg (by omega)], rfl, by rw [if_neg (by omega)]; exact up_same, (hR.t hW).t hW, frB_up (frB_up frB_rf (by omega)) (by omega)⟩
  · refine ⟨0, 0, _, hd, Nat.le_refl _, hX ▸ m_right hl 0 hS up_same, PI.use ?_⟩
    rw [if_pos rfl, if_pos rfl]
    refine B_X9_count_25 hC hS.o ?_
    (repeat' (first | (with_reducible exact ixO (by assumption) (by omega)) | with_reducible apply And.intro | with_reducible intro)) <;> (try first | omega | (with_reducible apply Nat.le_refl) | rfl | exact absurd trivial (by assumption))
    exact hP _ _ _ ⟨by rw [if_neg (by omega)], rfl, by rw [if_neg (by omega)]; exact up_same, (hR.t hW).t hW, frB_up (frB_up frB_rf (by omega)) (by omega)⟩
  · refine ⟨0, 0, _, hd, Nat.le_refl _, hX ▸ m_right hl 0 hS up_same, PI.use ?_⟩
    rw [if_neg (by decide), if_neg (by decide)]
    refine B_X9_count_25 hC hS.o ?_
    (repeat' (first | (with_reducible exact ixO (by assumption) (by omega)) | with_reducible apply And.intro | with_reducible intro)) <;> (try first | omega | (with_reducible apply Nat.le_refl) | rfl | exact absurd trivial (by assumption))
    exact loop (σ 0 0).toNat 0 (by omega) (by omega)
end MSmall
