/-! the reference: keep, take, lays, feed -/
def kepF (σ : Mu) (s : Int) : Mu := rwo (up σ 7 s 1) 8 (36 * s) 36 (σ 3)
def takF (σ : Mu) (s x : Int) : Mu := if x = 0 then up (row σ 3 (σ 0 0) (fun j => σ 8 (36 * s + j))) 0 5 0 else row σ 4 (σ 0 0) (fun j => σ 8 (36 * s + j))
/-- the byte of a number behind so many bits -/
def byt (v k : Int) : Int := o_and (o_shr v k) 255
def layF (σ : Mu) (v : Int) : Mu := up (up (up (up (up σ 6 (σ 0 6) (byt v 24)) 6 (σ 0 6 + 1) (byt v 16)) 6 (σ 0 6 + 2) (byt v 8)) 6 (σ 0 6 + 3) (byt v 0)) 0 6 (σ 0 6 + 4)
def feeF (σ : Mu) (a b c d e : Int) : Mu := if σ 0 6 + 20 ≤ 500 then layF (layF (layF (layF (layF σ a) b) c) d) e else σ
theorem layF_06 {σ : Mu} {v : Int} : layF σ v 0 6 = σ 0 6 + 4 := up_same
theorem layF_keep {σ : Mu} {v k j : Int} (h0 : k = 0 → j ≠ 6) (h6 : k ≠ 6) : layF σ v k j = σ k j := by
  unfold layF
  simp (disch := first | assumption | omega) only [row_off, row_in, row_out, up_same, up_ne]
theorem layF_fn {σ : Mu} {v k : Int} (h0 : k ≠ 0) (h6 : k ≠ 6) : layF σ v k = σ k := by
  funext j
  exact layF_keep (fun e => absurd e h0) h6
theorem byt_b (v k : Int) : 0 ≤ byt v k ∧ byt v k < 256 := by
  unfold byt o_and
  generalize Int32.ofInt (o_shr v k) = x
  have e : (x &&& Int32.ofInt 255).toInt = ((x.toBitVec.toNat % 256 : Nat) : Int) := by
    rw [← Int32.toInt_toBitVec, Int32.toBitVec_and]
    have h1 : (x.toBitVec &&& (Int32.ofInt 255).toBitVec).toNat = x.toBitVec.toNat % 256 := by
      rw [BitVec.toNat_and]
      exact Nat.and_two_pow_sub_one_eq_mod _ 8
    rw [BitVec.toInt_eq_toNat_of_lt (by rw [h1]; omega), h1]
  rw [e]
  omega
theorem Wf.lay {σ : Mu} (hW : Wf σ) {v : Int} (h : σ 0 6 + 4 ≤ 500) : Wf (layF σ v) := by
  have ht := hW.tp
  refine Wf.upd hW (fun k z1 z2 => layF_keep (fun _ => by omega) (by omega)) (layF_fn (by decide) (by decide)) (by rw [layF_fn (by decide) (by decide)]; exact hW.jm) (by rw [layF_fn (by decide) (by decide)]; exact hW.st) (by rw [layF_fn (by decide) (by decide)]; exact hW.wi) (by rw [layF_keep (k := 0) (by decide) (by decide), layF_fn (by decide) (by decide)]; exact hW.pr) ⟨by rw [layF_06]; have := ht.1; omega, fun j z1 z2 => ?_⟩ (by rw [layF_fn (by decide) (by decide), layF_fn (by decide) (by decide)]; exact hW.sl) (by rw [layF_keep (k := 0) (by decide) (by decide), layF_fn (by decide) (by decide)]; exact hW.rw) (by rw [layF_keep (k := 0) (by decide) (by decide), layF_fn (by decide) (by decide)]; exact hW.nr)
  rw [layF_06] at z2
  unfold layF
  rw [up_ne (by omega)]
  by_cases e3 : j = σ 0 6 + 3
  · rw [e3, up_same]; exact byt_b _ _
  · rw [up_ne (by omega)]
    by_cases e2 : j = σ 0 6 + 2
    · rw [e2, up_same]; exact byt_b _ _
    · rw [up_ne (by omega)]
      by_cases e1 : j = σ 0 6 + 1
      · rw [e1, up_same]; exact byt_b _ _
      · rw [up_ne (by omega)]
        by_cases e0 : j = σ 0 6
        · rw [e0, up_same]; exact byt_b _ _
        · rw [up_ne (by omega)]
          exact ht.2 j z1 (by omega)
section MKeep
variable {l : Launch} {G : Gx} {γ μ σ : Mu}
theorem m_keep (hl : l.stackTraces = false) (d : Nat) (hd : 0 < d) {b x : Int} (hS : ModS G b) (hG : ModG γ b) (hR : RepR μ b σ) (hW : Wf σ) : Cn l G yX9_keep cX9_keep 3 (some .boolean) d 0 [aR b, aI x] γ μ (PR μ γ b (if 0 ≤ x ∧ x ≤ 3 then kepF σ x else σ) (if 0 ≤ x ∧ x ≤ 3 then 1 else 0) 0) := by
  refine Cn.ofP hl (plainFor_of_name (by decide)) (noLc nlR (noL1 nlI)) rfl (fun P hP o1 o3 X hX hC => B_X9_keep_0 hC hS.o ?_)
  have s3 := ms3 hS; have s38 := ms38 hS; have s39 := ms39 hS
  refine ⟨0, 0, _, hd, Nat.le_refl _, hX ▸ m_within hl 0, PI.use ?_⟩
  by_cases hx : 0 ≤ x ∧ x ≤ 3
  case neg =>
    simp only [if_neg hx] at hP ⊢
    refine B_X9_keep_11 hC hS.o ?_
    (repeat' (first | (with_reducible exact ixO (by assumption) (by omega)) | with_reducible apply And.intro | with_reducible intro)) <;> (try first | omega | (with_reducible apply Nat.le_refl) | rfl | exact absurd trivial (by assumption))
    exact hP _ _ _ ⟨rfl, rfl, up_same, hR.t hW, frB_up frB_rf (by omega)⟩
  simp only [if_pos hx] at hP ⊢
  have mR := hR.t (z := 0) hW
  have m0 : up μ b 0 0 b 0 = 0 := up_same
  have mf : frB μ (up μ b 0 0) b (b + 40) := frB_up frB_rf (by omega)
  generalize up μ b 0 0 = m at *
  have hR := mR
  obtain ⟨r1, r2, r3, r4, r5, r6, r7, r8, r9, r10, ra1, ra2, ra3, ra4, ra5, ra6, ra7, ra8, ra9, ra10, rk, rh⟩ := id hR
  refine B_X9_keep_11 hC hS.o ⟨fun _ => ?_, fun w => absurd w (by decide)⟩
  rw [mg71 hG]
  refine ⟨ixO s38 (by omega), ?_⟩
  have loop := rem_ind (n := 36) (P := fun i => V X G (Qm X G 0 P) 0 25 [aR b, aI x, aI i] [] γ (rwo (up m (b + 38) x 1) (b + 39) (36 * x) i (σ 3))) (fun i h0 h1 ih => ?_)
  · have h9 := loop 0 (by omega) (by omega)
    rw [rwo_0] at h9
    exact h9
  · refine B_X9_keep_25 hC hS.o ?_
    rcases Int.lt_or_le i 36 with hi | hi
    · have hih := ih hi
      rw [← rwo_s h0] at hih
      simp (disch := first | assumption | omega) only [row_off, row_in, row_out, up_same, up_ne, cpy_off, rwo_off, rwo_at, rwo_out, mg6, mg7, mg8, mg9, mg10, mg12, mg30, mg31, mg32, mg33, mg35, mg36, mg37, mg38, mg39, mg43, mg44, mg45, mg46, mg47, mg48, mg49, mg50, mg53, mg54, mg55, mg56, mg57, mg58, mg59, mg60, mg65, mg66, mg67, mg68, mg69, mg70, mg71, mg72, ra3 i h0 hi]
      (repeat' (first | (with_reducible exact ixO (by assumption) (by omega)) | with_reducible apply And.intro | with_reducible intro)) <;> (try first | omega | (with_reducible apply Nat.le_refl) | rfl | exact absurd trivial (by assumption))
      all_goals exact hih
    · obtain rfl : i = 36 := by omega
      refine ⟨fun _ => ⟨Nat.le_refl _, hP _ _ _ ⟨rfl, rfl, by simp (disch := first | assumption | omega) only [row_off, row_in, row_out, up_same, up_ne, cpy_off, rwo_off, rwo_at, rwo_out, mg6, mg7, mg8, mg9, mg10, mg12, mg30, mg31, mg32, mg33, mg35, mg36, mg37, mg38, mg39, mg43, mg44, mg45, mg46, mg47, mg48, mg49, mg50, mg53, mg54, mg55, mg56, mg57, mg58, mg59, mg60, mg65, mg66, mg67, mg68, mg69, mg70, mg71, mg72]; exact m0, ?_, fun y j h => by simp (disch := first | assumption | omega) only [row_off, row_in, row_out, up_same, up_ne, cpy_off, rwo_off, rwo_at, rwo_out, mg6, mg7, mg8, mg9, mg10, mg12, mg30, mg31, mg32, mg33, mg35, mg36, mg37, mg38, mg39, mg43, mg44, mg45, mg46, mg47, mg48, mg49, mg50, mg53, mg54, mg55, mg56, mg57, mg58, mg59, mg60, mg65, mg66, mg67, mg68, mg69, mg70, mg71, mg72]; exact mf y j h⟩⟩, fun w => absurd hi w⟩
      unfold kepF
      refine RepR.mk2 hR hW ⟨by simp (disch := first | assumption | omega) only [row_off, row_in, row_out, up_same, up_ne, cpy_off, rwo_off, rwo_at, rwo_out, mg6, mg7, mg8, mg9, mg10, mg12, mg30, mg31, mg32, mg33, mg35, mg36, mg37, mg38, mg39, mg43, mg44, mg45, mg46, mg47, mg48, mg49, mg50, mg53, mg54, mg55, mg56, mg57, mg58, mg59, mg60, mg65, mg66, mg67, mg68, mg69, mg70, mg71, mg72], by simp (disch := first | assumption | omega) only [row_off, row_in, row_out, up_same, up_ne, cpy_off, rwo_off, rwo_at, rwo_out, mg6, mg7, mg8, mg9, mg10, mg12, mg30, mg31, mg32, mg33, mg35, mg36, mg37, mg38, mg39, mg43, mg44, mg45, mg46, mg47, mg48, mg49, mg50, mg53, mg54, mg55, mg56, mg57, mg58, mg59, mg60, mg65, mg66, mg67, mg68, mg69, mg70, mg71, mg72], by simp (disch := decide) only [up_off, row_offF, rwo_offF], by simp (disch := decide) only [up_off, row_offF, rwo_offF]⟩ (fun y j h => by unfold keepK at h; simp (disch := first | assumption | omega) only [row_off, row_in, row_out, up_same, up_ne, cpy_off, rwo_off, rwo_at, rwo_out, mg6, mg7, mg8, mg9, mg10, mg12, mg30, mg31, mg32, mg33, mg35, mg36, mg37, mg38, mg39, mg43, mg44, mg45, mg46, mg47, mg48, mg49, mg50, mg53, mg54, mg55, mg56, mg57, mg58, mg59, mg60, mg65, mg66, mg67, mg68, mg69, mg70, mg71, mg72]) ⟨?_, ?_, ?_, ?_, ?_, ?_, ?_, ?_, fun j z1 z2 => ?_, fun j z1 z2 => ?_, fun j z1 z2 => ?_, fun j z1 z2 => ?_, fun j z1 z2 => ?_, fun j z1 z2 => ?_, fun w j z1 z2 => ?_, fun w j z1 z2 => ?_⟩
      case refine_13 =>
        rw [rwo_off (by omega), rwo_off (by omega)]
        by_cases e : j = x
        · rw [e, up_same, up_same]
        · rw [up_ne (by omega), up_ne (by omega)]; exact ra7 j z1 z2
      case refine_14 =>
        by_cases e : 36 * x ≤ j ∧ j < 36 * x + 36
        · obtain ⟨k, rfl⟩ : ∃ k, j = 36 * x + k := ⟨j - 36 * x, by omega⟩
          rw [rwo_at (by omega), rwo_at (by omega)]
        · rw [rwo_out (by omega), rwo_out (by omega), up_ne (by omega), up_ne (by omega)]; exact ra8 j z1 z2
      case refine_11 => rw [rwo_off (by omega), up_ne (by omega)] at z2; simp (disch := first | assumption | omega) only [row_off, row_in, row_out, up_same, up_ne, cpy_off, rwo_off, rwo_at, rwo_out, mg6, mg7, mg8, mg9, mg10, mg12, mg30, mg31, mg32, mg33, mg35, mg36, mg37, mg38, mg39, mg43, mg44, mg45, mg46, mg47, mg48, mg49, mg50, mg53, mg54, mg55, mg56, mg57, mg58, mg59, mg60, mg65, mg66, mg67, mg68, mg69, mg70, mg71, mg72]; exact ra5 j z1 z2
      case refine_12 => rw [rwo_off (by omega), up_ne (by omega)] at z2; simp (disch := first | assumption | omega) only [row_off, row_in, row_out, up_same, up_ne, cpy_off, rwo_off, rwo_at, rwo_out, mg6, mg7, mg8, mg9, mg10, mg12, mg30, mg31, mg32, mg33, mg35, mg36, mg37, mg38, mg39, mg43, mg44, mg45, mg46, mg47, mg48, mg49, mg50, mg53, mg54, mg55, mg56, mg57, mg58, mg59, mg60, mg65, mg66, mg67, mg68, mg69, mg70, mg71, mg72]; exact ra6 j z1 z2
      case refine_15 => rw [rwo_off (by omega), up_ne (by omega)] at w z2; simp (disch := first | assumption | omega) only [row_off, row_in, row_out, up_same, up_ne, cpy_off, rwo_off, rwo_at, rwo_out, mg6, mg7, mg8, mg9, mg10, mg12, mg30, mg31, mg32, mg33, mg35, mg36, mg37, mg38, mg39, mg43, mg44, mg45, mg46, mg47, mg48, mg49, mg50, mg53, mg54, mg55, mg56, mg57, mg58, mg59, mg60, mg65, mg66, mg67, mg68, mg69, mg70, mg71, mg72]; exact ra9 w j z1 z2
      case refine_16 => rw [rwo_off (by omega), up_ne (by omega)] at w z2; simp (disch := first | assumption | omega) only [row_off, row_in, row_out, up_same, up_ne, cpy_off, rwo_off, rwo_at, rwo_out, mg6, mg7, mg8, mg9, mg10, mg12, mg30, mg31, mg32, mg33, mg35, mg36, mg37, mg38, mg39, mg43, mg44, mg45, mg46, mg47, mg48, mg49, mg50, mg53, mg54, mg55, mg56, mg57, mg58, mg59, mg60, mg65, mg66, mg67, mg68, mg69, mg70, mg71, mg72]; exact ra10 w j z1 z2
      all_goals simp (disch := first | assumption | omega) only [row_off, row_in, row_out, up_same, up_ne, cpy_off, rwo_off, rwo_at, rwo_out, mg6, mg7, mg8, mg9, mg10, mg12, mg30, mg31, mg32, mg33, mg35, mg36, mg37, mg38, mg39, mg43, mg44, mg45, mg46, mg47, mg48, mg49, mg50, mg53, mg54, mg55, mg56, mg57, mg58, mg59, mg60, mg65, mg66, mg67, mg68, mg69, mg70, mg71, mg72]
      all_goals first | assumption | (apply_assumption <;> assumption)
theorem m_take (hl : l.stackTraces = false) (d : Nat) (hd : 0 < d) {b s x : Int} (hS : ModS G b) (hG : ModG γ b) (hR : RepR μ b σ) (hW : Wf σ) : Cn l G yX9_take cX9_take 4 (some .boolean) d 0 [aR b, aI s, aI x] γ μ (PR μ γ b (if isSW x ∧ (0 ≤ s ∧ s ≤ 3) ∧ σ 7 s ≠ 0 then takF σ s x else σ) (if isSW x ∧ (0 ≤ s ∧ s ≤ 3) ∧ σ 7 s ≠ 0 then 1 else 0) (if isSW x then 0 else 1)) := by
  refine Cn.ofP hl (plainFor_of_name (by decide)) (noLc nlR (noLc nlI (noL1 nlI))) rfl (fun P hP o1 o3 X hX hC => B_X9_take_0 hC hS.o ?_)
  have hn := hW.1
  have s3 := ms3 hS; have s4 := ms4 hS; have s38 := ms38 hS; have s39 := ms39 hS
  have bad : ¬ isSW x → V X G (Qm X G 0 P) 0 24 [aR b, aI s, aI x, aD] [aI 0] γ (up (up μ b 0 0) b 0 1) := fun hx => by
    have hc : ¬ (isSW x ∧ (0 ≤ s ∧ s ≤ 3) ∧ σ 7 s ≠ 0) := fun w => hx w.1
    simp only [if_neg hx, if_neg hc] at hP
    refine B_X9_take_24 hC hS.o ?_
    (repeat' (first | (with_reducible exact ixO (by assumption) (by omega)) | with_reducible apply And.intro | with_reducible intro)) <;> (try first | omega | (with_reducible apply Nat.le_refl) | rfl | exact absurd trivial (by assumption))
    exact hP _ _ _ ⟨rfl, rfl, up_same, (hR.t hW).t hW, frB_up (frB_up frB_rf (by omega)) (by omega)⟩
  have good : isSW x → V X G (Qm X G 0 P) 0 24 [aR b, aI s, aI x, aD] [aI 1] γ (up μ b 0 0) := fun hx => by
    simp only [if_pos hx] at hP
    have mR := hR.t (z := 0) hW
    have m0 : up μ b 0 0 b 0 = 0 := up_same
    have mf : frB μ (up μ b 0 0) b (b + 40) := frB_up frB_rf (by omega)
    generalize up μ b 0 0 = m at *
    have hR := mR
    obtain ⟨r1, r2, r3, r4, r5, r6, r7, r8, r9, r10, ra1, ra2, ra3, ra4, ra5, ra6, ra7, ra8, ra9, ra10, rk, rh⟩ := id hR
    refine B_X9_take_24 hC hS.o ⟨fun _ => ?_, fun w => absurd w (by decide)⟩
    refine ⟨0, 0, _, hd, Nat.le_refl _, hX ▸ m_within hl 0, PI.use ?_⟩
    have no : ¬ (isSW x ∧ (0 ≤ s ∧ s ≤ 3) ∧ σ 7 s ≠ 0) → P (some (aI 0)) γ m := fun hc => by
      simp only [if_neg hc] at hP
      exact hP _ _ _ ⟨rfl, rfl, m0, mR, mf⟩
    by_cases hs : 0 ≤ s ∧ s ≤ 3
    case neg =>
      rw [if_neg hs]
      refine B_X9_take_35 hC hS.o ⟨fun _ => ⟨Nat.le_refl _, no (fun w => hs w.2.1)⟩, fun w => absurd rfl w⟩
    rw [if_pos hs]
    refine B_X9_take_35 hC hS.o ⟨fun w => absurd w (by decide), fun _ => ?_⟩
    rw [mg71 hG, ra7 s hs.1 (by omega)]
    refine ⟨ixO s38 (by omega), fun h7 => ?_, fun h7 => ⟨Nat.le_refl _, no (fun w => w.2.2 h7)⟩⟩
    have hc : isSW x ∧ (0 ≤ s ∧ s ≤ 3) ∧ σ 7 s ≠ 0 := ⟨hx, hs, h7⟩
    simp only [if_pos hc] at hP
    refine ⟨fun h0 => ?_, fun h0 => ?_⟩
    · have loop := rem_ind (n := σ 0 0) (P := fun i => V X G (Qm X G 0 P) 0 60 [aR b, aI s, aI x, aI i] [] γ (row m (b + 4) i (fun j => σ 8 (36 * s + j)))) (fun i i0 i1 ih => ?_)
      · have h9 := loop 0 (by omega) (by omega)
        rw [row_0] at h9
        exact h9
      · refine B_X9_take_60 hC hS.o ?_
        rcases Int.lt_or_le i (σ 0 0) with hi | hi
        · have hih := ih hi
          rw [← row_s i0] at hih
          simp (disch := first | assumption | omega) only [row_off, row_in, row_out, up_same, up_ne, cpy_off, rwo_off, rwo_at, rwo_out, mg6, mg7, mg8, mg9, mg10, mg12, mg30, mg31, mg32, mg33, mg35, mg36, mg37, mg38, mg39, mg43, mg44, mg45, mg46, mg47, mg48, mg49, mg50, mg53, mg54, mg55, mg56, mg57, mg58, mg59, mg60, mg65, mg66, mg67, mg68, mg69, mg70, mg71, mg72, r1, ra8 (36 * s + i) (by omega) (by omega)]
          (repeat' (first | (with_reducible exact ixO (by assumption) (by omega)) | with_reducible apply And.intro | with_reducible intro)) <;> (try first | omega | (with_reducible apply Nat.le_refl) | rfl | exact absurd trivial (by assumption))
          all_goals exact hih
        · obtain rfl : i = σ 0 0 := by omega
          refine ⟨fun _ => ⟨Nat.le_refl _, hP _ _ _ ⟨rfl, rfl, by simp (disch := first | assumption | omega) only [row_off, row_in, row_out, up_same, up_ne, cpy_off, rwo_off, rwo_at, rwo_out, mg6, mg7, mg8, mg9, mg10, mg12, mg30, mg31, mg32, mg33, mg35, mg36, mg37, mg38, mg39, mg43, mg44, mg45, mg46, mg47, mg48, mg49, mg50, mg53, mg54, mg55, mg56, mg57, mg58, mg59, mg60, mg65, mg66, mg67, mg68, mg69, mg70, mg71, mg72]; exact m0, ?_, frB_row mf (by omega)⟩⟩, fun w => absurd (by simp (disch := first | assumption | omega) only [row_off, row_in, row_out, up_same, up_ne, cpy_off, rwo_off, rwo_at, rwo_out, mg6, mg7, mg8, mg9, mg10, mg12, mg30, mg31, mg32, mg33, mg35, mg36, mg37, mg38, mg39, mg43, mg44, mg45, mg46, mg47, mg48, mg49, mg50, mg53, mg54, mg55, mg56, mg57, mg58, mg59, mg60, mg65, mg66, mg67, mg68, mg69, mg70, mg71, mg72, r1]; exact hi) w⟩
          unfold takF
          rw [if_neg h0]
          refine RepR.mk2 hR hW ⟨by simp (disch := first | assumption | omega) only [row_off, row_in, row_out, up_same, up_ne, cpy_off, rwo_off, rwo_at, rwo_out, mg6, mg7, mg8, mg9, mg10, mg12, mg30, mg31, mg32, mg33, mg35, mg36, mg37, mg38, mg39, mg43, mg44, mg45, mg46, mg47, mg48, mg49, mg50, mg53, mg54, mg55, mg56, mg57, mg58, mg59, mg60, mg65, mg66, mg67, mg68, mg69, mg70, mg71, mg72], by simp (disch := first | assumption | omega) only [row_off, row_in, row_out, up_same, up_ne, cpy_off, rwo_off, rwo_at, rwo_out, mg6, mg7, mg8, mg9, mg10, mg12, mg30, mg31, mg32, mg33, mg35, mg36, mg37, mg38, mg39, mg43, mg44, mg45, mg46, mg47, mg48, mg49, mg50, mg53, mg54, mg55, mg56, mg57, mg58, mg59, mg60, mg65, mg66, mg67, mg68, mg69, mg70, mg71, mg72], by simp (disch := decide) only [up_off, row_offF, rwo_offF], by simp (disch := decide) only [up_off, row_offF, rwo_offF]⟩ (fun y j h => by unfold keepK at h; simp (disch := first | assumption | omega) only [row_off, row_in, row_out, up_same, up_ne, cpy_off, rwo_off, rwo_at, rwo_out, mg6, mg7, mg8, mg9, mg10, mg12, mg30, mg31, mg32, mg33, mg35, mg36, mg37, mg38, mg39, mg43, mg44, mg45, mg46, mg47, mg48, mg49, mg50, mg53, mg54, mg55, mg56, mg57, mg58, mg59, mg60, mg65, mg66, mg67, mg68, mg69, mg70, mg71, mg72]) ⟨?_, ?_, ?_, ?_, ?_, ?_, ?_, ?_, fun j z1 z2 => ?_, fun j z1 z2 => ?_, fun j z1 z2 => ?_, fun j z1 z2 => ?_, fun j z1 z2 => ?_, fun j z1 z2 => ?_, fun w j z1 z2 => ?_, fun w j z1 z2 => ?_⟩
          case refine_10 =>
            by_cases e : j < σ 0 0
            · rw [row_in ⟨z1, e⟩, row_in ⟨z1, e⟩]
            · rw [row_out (by omega), row_out (by omega)]; exact ra4 j z1 z2
          case refine_11 => rw [row_off (by omega)] at z2; simp (disch := first | assumption | omega) only [row_off, row_in, row_out, up_same, up_ne, cpy_off, rwo_off, rwo_at, rwo_out, mg6, mg7, mg8, mg9, mg10, mg12, mg30, mg31, mg32, mg33, mg35, mg36, mg37, mg38, mg39, mg43, mg44, mg45, mg46, mg47, mg48, mg49, mg50, mg53, mg54, mg55, mg56, mg57, mg58, mg59, mg60, mg65, mg66, mg67, mg68, mg69, mg70, mg71, mg72]; exact ra5 j z1 z2
          case refine_12 => rw [row_off (by omega)] at z2; simp (disch := first | assumption | omega) only [row_off, row_in, row_out, up_same, up_ne, cpy_off, rwo_off, rwo_at, rwo_out, mg6, mg7, mg8, mg9, mg10, mg12, mg30, mg31, mg32, mg33, mg35, mg36, mg37, mg38, mg39, mg43, mg44, mg45, mg46, mg47, mg48, mg49, mg50, mg53, mg54, mg55, mg56, mg57, mg58, mg59, mg60, mg65, mg66, mg67, mg68, mg69, mg70, mg71, mg72]; exact ra6 j z1 z2
          case refine_15 => rw [row_off (by omega)] at w z2; simp (disch := first | assumption | omega) only [row_off, row_in, row_out, up_same, up_ne, cpy_off, rwo_off, rwo_at, rwo_out, mg6, mg7, mg8, mg9, mg10, mg12, mg30, mg31, mg32, mg33, mg35, mg36, mg37, mg38, mg39, mg43, mg44, mg45, mg46, mg47, mg48, mg49, mg50, mg53, mg54, mg55, mg56, mg57, mg58, mg59, mg60, mg65, mg66, mg67, mg68, mg69, mg70, mg71, mg72]; exact ra9 w j z1 z2
          case refine_16 => rw [row_off (by omega)] at w z2; simp (disch := first | assumption | omega) only [row_off, row_in, row_out, up_same, up_ne, cpy_off, rwo_off, rwo_at, rwo_out, mg6, mg7, mg8, mg9, mg10, mg12, mg30, mg31, mg32, mg33, mg35, mg36, mg37, mg38, mg39, mg43, mg44, mg45, mg46, mg47, mg48, mg49, mg50, mg53, mg54, mg55, mg56, mg57, mg58, mg59, mg60, mg65, mg66, mg67, mg68, mg69, mg70, mg71, mg72]; exact ra10 w j z1 z2
          all_goals simp (disch := first | assumption | omega) only [row_off, row_in, row_out, up_same, up_ne, cpy_off, rwo_off, rwo_at, rwo_out, mg6, mg7, mg8, mg9, mg10, mg12, mg30, mg31, mg32, mg33, mg35, mg36, mg37, mg38, mg39, mg43, mg44, mg45, mg46, mg47, mg48, mg49, mg50, mg53, mg54, mg55, mg56, mg57, mg58, mg59, mg60, mg65, mg66, mg67, mg68, mg69, mg70, mg71, mg72]
          all_goals first | assumption | (apply_assumption <;> assumption)
    · have loop := rem_ind (n := σ 0 0) (P := fun i => V X G (Qm X G 0 P) 0 60 [aR b, aI s, aI x, aI i] [] γ (row (up m b 11 0) (b + 3) i (fun j => σ 8 (36 * s + j)))) (fun i i0 i1 ih => ?_)
      · have h9 := loop 0 (by omega) (by omega)
        rw [row_0] at h9
        exact h9
      · refine B_X9_take_60 hC hS.o ?_
        rcases Int.lt_or_le i (σ 0 0) with hi | hi
        · have hih := ih hi
          rw [← row_s i0] at hih
          simp (disch := first | assumption | omega) only [row_off, row_in, row_out, up_same, up_ne, cpy_off, rwo_off, rwo_at, rwo_out, mg6, mg7, mg8, mg9, mg10, mg12, mg30, mg31, mg32, mg33, mg35, mg36, mg37, mg38, mg39, mg43, mg44, mg45, mg46, mg47, mg48, mg49, mg50, mg53, mg54, mg55, mg56, mg57, mg58, mg59, mg60, mg65, mg66, mg67, mg68, mg69, mg70, mg71, mg72, r1, ra8 (36 * s + i) (by omega) (by omega)]
          (repeat' (first | (with_reducible exact ixO (by assumption) (by omega)) | with_reducible apply And.intro | with_reducible intro)) <;> (try first | omega | (with_reducible apply Nat.le_refl) | rfl | exact absurd trivial (by assumption))
          all_goals exact hih
        · obtain rfl : i = σ 0 0 := by omega
          refine ⟨fun _ => ⟨Nat.le_refl _, hP _ _ _ ⟨rfl, rfl, by simp (disch := first | assumption | omega) only [row_off, row_in, row_out, up_same, up_ne, cpy_off, rwo_off, rwo_at, rwo_out, mg6, mg7, mg8, mg9, mg10, mg12, mg30, mg31, mg32, mg33, mg35, mg36, mg37, mg38, mg39, mg43, mg44, mg45, mg46, mg47, mg48, mg49, mg50, mg53, mg54, mg55, mg56, mg57, mg58, mg59, mg60, mg65, mg66, mg67, mg68, mg69, mg70, mg71, mg72]; exact m0, ?_, frB_row (frB_up mf (by omega)) (by omega)⟩⟩, fun w => absurd (by simp (disch := first | assumption | omega) only [row_off, row_in, row_out, up_same, up_ne, cpy_off, rwo_off, rwo_at, rwo_out, mg6, mg7, mg8, mg9, mg10, mg12, mg30, mg31, mg32, mg33, mg35, mg36, mg37, mg38, mg39, mg43, mg44, mg45, mg46, mg47, mg48, mg49, mg50, mg53, mg54, mg55, mg56, mg57, mg58, mg59, mg60, mg65, mg66, mg67, mg68, mg69, mg70, mg71, mg72, r1]; exact hi) w⟩
          unfold takF
          rw [if_pos h0]
          refine RepR.mk2 hR hW ⟨by simp (disch := first | assumption | omega) only [row_off, row_in, row_out, up_same, up_ne, cpy_off, rwo_off, rwo_at, rwo_out, mg6, mg7, mg8, mg9, mg10, mg12, mg30, mg31, mg32, mg33, mg35, mg36, mg37, mg38, mg39, mg43, mg44, mg45, mg46, mg47, mg48, mg49, mg50, mg53, mg54, mg55, mg56, mg57, mg58, mg59, mg60, mg65, mg66, mg67, mg68, mg69, mg70, mg71, mg72], by simp (disch := first | assumption | omega) only [row_off, row_in, row_out, up_same, up_ne, cpy_off, rwo_off, rwo_at, rwo_out, mg6, mg7, mg8, mg9, mg10, mg12, mg30, mg31, mg32, mg33, mg35, mg36, mg37, mg38, mg39, mg43, mg44, mg45, mg46, mg47, mg48, mg49, mg50, mg53, mg54, mg55, mg56, mg57, mg58, mg59, mg60, mg65, mg66, mg67, mg68, mg69, mg70, mg71, mg72], by simp (disch := decide) only [up_off, row_offF, rwo_offF], by simp (disch := decide) only [up_off, row_offF, rwo_offF]⟩ (fun y j h => by unfold keepK at h; simp (disch := first | assumption | omega) only [row_off, row_in, row_out, up_same, up_ne, cpy_off, rwo_off, rwo_at, rwo_out, mg6, mg7, mg8, mg9, mg10, mg12, mg30, mg31, mg32, mg33, mg35, mg36, mg37, mg38, mg39, mg43, mg44, mg45, mg46, mg47, mg48, mg49, mg50, mg53, mg54, mg55, mg56, mg57, mg58, mg59, mg60, mg65, mg66, mg67, mg68, mg69, mg70, mg71, mg72]) ⟨?_, ?_, ?_, ?_, ?_, ?_, ?_, ?_, fun j z1 z2 => ?_, fun j z1 z2 => ?_, fun j z1 z2 => ?_, fun j z1 z2 => ?_, fun j z1 z2 => ?_, fun j z1 z2 => ?_, fun w j z1 z2 => ?_, fun w j z1 z2 => ?_⟩
          case refine_4 => simp (disch := first | assumption | omega) only [row_off, row_in, row_out, up_same, up_ne, cpy_off, rwo_off, rwo_at, rwo_out, mg6, mg7, mg8, mg9, mg10, mg12, mg30, mg31, mg32, mg33, mg35, mg36, mg37, mg38, mg39, mg43, mg44, mg45, mg46, mg47, mg48, mg49, mg50, mg53, mg54, mg55, mg56, mg57, mg58, mg59, mg60, mg65, mg66, mg67, mg68, mg69, mg70, mg71, mg72]
          case refine_9 =>
            by_cases e : j < σ 0 0
            · rw [row_in ⟨z1, e⟩, up_ne (by omega), row_in ⟨z1, e⟩]
            · rw [row_out (by omega), up_ne (by omega), up_ne (by omega), row_out (by omega)]; exact ra3 j z1 z2
          case refine_11 => rw [up_same] at z2; omega
          case refine_12 => rw [up_ne (by omega), row_off (by omega)] at z2; simp (disch := first | assumption | omega) only [row_off, row_in, row_out, up_same, up_ne, cpy_off, rwo_off, rwo_at, rwo_out, mg6, mg7, mg8, mg9, mg10, mg12, mg30, mg31, mg32, mg33, mg35, mg36, mg37, mg38, mg39, mg43, mg44, mg45, mg46, mg47, mg48, mg49, mg50, mg53, mg54, mg55, mg56, mg57, mg58, mg59, mg60, mg65, mg66, mg67, mg68, mg69, mg70, mg71, mg72]; exact ra6 j z1 z2
          case refine_15 => rw [up_ne (by omega), row_off (by omega)] at w z2; simp (disch := first | assumption | omega) only [row_off, row_in, row_out, up_same, up_ne, cpy_off, rwo_off, rwo_at, rwo_out, mg6, mg7, mg8, mg9, mg10, mg12, mg30, mg31, mg32, mg33, mg35, mg36, mg37, mg38, mg39, mg43, mg44, mg45, mg46, mg47, mg48, mg49, mg50, mg53, mg54, mg55, mg56, mg57, mg58, mg59, mg60, mg65, mg66, mg67, mg68, mg69, mg70, mg71, mg72]; exact ra9 w j z1 z2
          case refine_16 => rw [up_ne (by omega), row_off (by omega)] at w z2; simp (disch := first | assumption | omega) only [row_off, row_in, row_out, up_same, up_ne, cpy_off, rwo_off, rwo_at, rwo_out, mg6, mg7, mg8, mg9, mg10, mg12, mg30, mg31, mg32, mg33, mg35, mg36, mg37, mg38, mg39, mg43, mg44, mg45, mg46, mg47, mg48, mg49, mg50, mg53, mg54, mg55, mg56, mg57, mg58, mg59, mg60, mg65, mg66, mg67, mg68, mg69, mg70, mg71, mg72]; exact ra10 w j z1 z2
          all_goals simp (disch := first | assumption | omega) only [row_off, row_in, row_out, up_same, up_ne, cpy_off, rwo_off, rwo_at, rwo_out, mg6, mg7, mg8, mg9, mg10, mg12, mg30, mg31, mg32, mg33, mg35, mg36, mg37, mg38, mg39, mg43, mg44, mg45, mg46, mg47, mg48, mg49, mg50, mg53, mg54, mg55, mg56, mg57, mg58, mg59, mg60, mg65, mg66, mg67, mg68, mg69, mg70, mg71, mg72]
          all_goals first | assumption | (apply_assumption <;> assumption)
  refine ⟨fun h => ?_, fun h => ⟨fun h2 => ?_, fun h2 => ?_⟩⟩
  · refine ⟨0, 0, _, by omega, Nat.le_refl _, hX ▸ m_right hl 0 hS (by first | exact up_same | assumption | (simp (disch := first | assumption | omega) only [row_off, row_in, row_out, up_same, up_ne, cpy_off, rwo_off, rwo_at, rwo_out, mg6, mg7, mg8, mg9, mg10, mg12, mg30, mg31, mg32, mg33, mg35, mg36, mg37, mg38, mg39, mg43, mg44, mg45, mg46, mg47, mg48, mg49, mg50, mg53, mg54, mg55, mg56, mg57, mg58, mg59, mg60, mg65, mg66, mg67, mg68, mg69, mg70, mg71, mg72] ; done)), PI.use ?_⟩
    rw [if_neg (by decide), if_neg (by decide)]
    exact good (Or.inl h)
  · refine ⟨0, 0, _, by omega, Nat.le_refl _, hX ▸ m_right hl 0 hS (by first | exact up_same | assumption | (simp (disch := first | assumption | omega) only [row_off, row_in, row_out, up_same, up_ne, cpy_off, rwo_off, rwo_at, rwo_out, mg6, mg7, mg8, mg9, mg10, mg12, mg30, mg31, mg32, mg33, mg35, mg36, mg37, mg38, mg39, mg43, mg44, mg45, mg46, mg47, mg48, mg49, mg50, mg53, mg54, mg55, mg56, mg57, mg58, mg59, mg60, mg65, mg66, mg67, mg68, mg69, mg70, mg71, mg72] ; done)), PI.use ?_⟩
    rw [if_pos rfl, if_pos rfl]
    exact bad (by unfold isSW; omega)
  · refine ⟨0, 0, _, by omega, Nat.le_refl _, hX ▸ m_right hl 0 hS (by first | exact up_same | assumption | (simp (disch := first | assumption | omega) only [row_off, row_in, row_out, up_same, up_ne, cpy_off, rwo_off, rwo_at, rwo_out, mg6, mg7, mg8, mg9, mg10, mg12, mg30, mg31, mg32, mg33, mg35, mg36, mg37, mg38, mg39, mg43, mg44, mg45, mg46, mg47, mg48, mg49, mg50, mg53, mg54, mg55, mg56, mg57, mg58, mg59, mg60, mg65, mg66, mg67, mg68, mg69, mg70, mg71, mg72] ; done)), PI.use ?_⟩
    rw [if_neg (by decide), if_neg (by decide)]
    exact good (Or.inr h2)
theorem m_lays (hl : l.stackTraces = false) (d : Nat) {b v : Int} (hS : ModS G b) (hG : ModG γ b) (hR : RepR μ b σ) (hW : Wf σ) (h5 : σ 0 6 + 4 ≤ 500) : Cn l G yX9_lays cX9_lays 3 none d 0 [aR b, aI v] γ μ (fun r γ' μ' => r = none ∧ γ' = γ ∧ μ' b 0 = μ b 0 ∧ RepR μ' b (layF σ v) ∧ frB μ μ' b (b + 40)) := by
  refine Cn.ofP hl (plainFor_of_name (by decide)) (noLc nlR (noL1 nlI)) rfl (fun P hP o1 o3 X hX hC => B_X9_lays_0 hC hS.o ?_)
  have s6 := ms6 hS
  obtain ⟨r1, r2, r3, r4, r5, r6, r7, r8, r9, r10, ra1, ra2, ra3, ra4, ra5, ra6, ra7, ra8, ra9, ra10, rk, rh⟩ := id hR
  have ht := hW.tp.1
  refine B_X9_lays_3 hC hS.o ?_
  simp (disch := first | assumption | omega) only [row_off, row_in, row_out, up_same, up_ne, cpy_off, rwo_off, rwo_at, rwo_out, mg6, mg7, mg8, mg9, mg10, mg12, mg30, mg31, mg32, mg33, mg35, mg36, mg37, mg38, mg39, mg43, mg44, mg45, mg46, mg47, mg48, mg49, mg50, mg53, mg54, mg55, mg56, mg57, mg58, mg59, mg60, mg65, mg66, mg67, mg68, mg69, mg70, mg71, mg72, r7]
  refine ⟨fun w => absurd w (by omega), fun _ => ⟨ixO s6 (by omega), by constructor <;> omega, by constructor <;> omega, ?_⟩⟩
  refine B_X9_lays_3 hC hS.o ?_
  simp (disch := first | assumption | omega) only [row_off, row_in, row_out, up_same, up_ne, cpy_off, rwo_off, rwo_at, rwo_out, mg6, mg7, mg8, mg9, mg10, mg12, mg30, mg31, mg32, mg33, mg35, mg36, mg37, mg38, mg39, mg43, mg44, mg45, mg46, mg47, mg48, mg49, mg50, mg53, mg54, mg55, mg56, mg57, mg58, mg59, mg60, mg65, mg66, mg67, mg68, mg69, mg70, mg71, mg72]
  refine ⟨fun w => absurd w (by omega), fun _ => ⟨ixO s6 (by omega), by constructor <;> omega, by constructor <;> omega, ?_⟩⟩
  refine B_X9_lays_3 hC hS.o ?_
  simp (disch := first | assumption | omega) only [row_off, row_in, row_out, up_same, up_ne, cpy_off, rwo_off, rwo_at, rwo_out, mg6, mg7, mg8, mg9, mg10, mg12, mg30, mg31, mg32, mg33, mg35, mg36, mg37, mg38, mg39, mg43, mg44, mg45, mg46, mg47, mg48, mg49, mg50, mg53, mg54, mg55, mg56, mg57, mg58, mg59, mg60, mg65, mg66, mg67, mg68, mg69, mg70, mg71, mg72]
  refine ⟨fun w => absurd w (by omega), fun _ => ⟨ixO s6 (by omega), by constructor <;> omega, by constructor <;> omega, ?_⟩⟩
  refine B_X9_lays_3 hC hS.o ?_
  simp (disch := first | assumption | omega) only [row_off, row_in, row_out, up_same, up_ne, cpy_off, rwo_off, rwo_at, rwo_out, mg6, mg7, mg8, mg9, mg10, mg12, mg30, mg31, mg32, mg33, mg35, mg36, mg37, mg38, mg39, mg43, mg44, mg45, mg46, mg47, mg48, mg49, mg50, mg53, mg54, mg55, mg56, mg57, mg58, mg59, mg60, mg65, mg66, mg67, mg68, mg69, mg70, mg71, mg72]
  refine ⟨fun w => absurd w (by omega), fun _ => ⟨ixO s6 (by omega), by constructor <;> omega, by constructor <;> omega, ?_⟩⟩
  refine B_X9_lays_3 hC hS.o ⟨fun _ => ⟨Nat.le_refl _, hP _ _ _ ⟨rfl, rfl, by simp (disch := first | assumption | omega) only [row_off, row_in, row_out, up_same, up_ne, cpy_off, rwo_off, rwo_at, rwo_out, mg6, mg7, mg8, mg9, mg10, mg12, mg30, mg31, mg32, mg33, mg35, mg36, mg37, mg38, mg39, mg43, mg44, mg45, mg46, mg47, mg48, mg49, mg50, mg53, mg54, mg55, mg56, mg57, mg58, mg59, mg60, mg65, mg66, mg67, mg68, mg69, mg70, mg71, mg72], ?_, fun y j h => by simp (disch := first | assumption | omega) only [row_off, row_in, row_out, up_same, up_ne, cpy_off, rwo_off, rwo_at, rwo_out, mg6, mg7, mg8, mg9, mg10, mg12, mg30, mg31, mg32, mg33, mg35, mg36, mg37, mg38, mg39, mg43, mg44, mg45, mg46, mg47, mg48, mg49, mg50, mg53, mg54, mg55, mg56, mg57, mg58, mg59, mg60, mg65, mg66, mg67, mg68, mg69, mg70, mg71, mg72]⟩⟩, fun w => absurd (by omega) w⟩
  simp only [Int.reduceNeg, Int.reduceAdd]
  refine RepR.mk2 hR hW ⟨layF_keep (by decide) (by decide), layF_keep (by decide) (by decide), layF_fn (by decide) (by decide), layF_fn (by decide) (by decide)⟩ (fun y j h => by unfold keepK at h; simp (disch := first | assumption | omega) only [row_off, row_in, row_out, up_same, up_ne, cpy_off, rwo_off, rwo_at, rwo_out, mg6, mg7, mg8, mg9, mg10, mg12, mg30, mg31, mg32, mg33, mg35, mg36, mg37, mg38, mg39, mg43, mg44, mg45, mg46, mg47, mg48, mg49, mg50, mg53, mg54, mg55, mg56, mg57, mg58, mg59, mg60, mg65, mg66, mg67, mg68, mg69, mg70, mg71, mg72]) ⟨?_, ?_, ?_, ?_, ?_, ?_, ?_, ?_, fun j z1 z2 => ?_, fun j z1 z2 => ?_, fun j z1 z2 => ?_, fun j z1 z2 => ?_, fun j z1 z2 => ?_, fun j z1 z2 => ?_, fun w j z1 z2 => ?_, fun w j z1 z2 => ?_⟩
  case refine_5 => rw [layF_06]; simp (disch := first | assumption | omega) only [row_off, row_in, row_out, up_same, up_ne, cpy_off, rwo_off, rwo_at, rwo_out, mg6, mg7, mg8, mg9, mg10, mg12, mg30, mg31, mg32, mg33, mg35, mg36, mg37, mg38, mg39, mg43, mg44, mg45, mg46, mg47, mg48, mg49, mg50, mg53, mg54, mg55, mg56, mg57, mg58, mg59, mg60, mg65, mg66, mg67, mg68, mg69, mg70, mg71, mg72]; omega
  case refine_12 =>
    rw [layF_06] at z2
    unfold layF byt
    by_cases e3 : j = σ 0 6 + 3
    · subst e3; rw [show σ 0 6 + 1 + 1 + 1 = σ 0 6 + 3 by omega]; simp (disch := first | assumption | omega) only [row_off, row_in, row_out, up_same, up_ne, cpy_off, rwo_off, rwo_at, rwo_out, mg6, mg7, mg8, mg9, mg10, mg12, mg30, mg31, mg32, mg33, mg35, mg36, mg37, mg38, mg39, mg43, mg44, mg45, mg46, mg47, mg48, mg49, mg50, mg53, mg54, mg55, mg56, mg57, mg58, mg59, mg60, mg65, mg66, mg67, mg68, mg69, mg70, mg71, mg72]
    · by_cases e2 : j = σ 0 6 + 2
      · subst e2; rw [show σ 0 6 + 1 + 1 = σ 0 6 + 2 by omega]; simp (disch := first | assumption | omega) only [row_off, row_in, row_out, up_same, up_ne, cpy_off, rwo_off, rwo_at, rwo_out, mg6, mg7, mg8, mg9, mg10, mg12, mg30, mg31, mg32, mg33, mg35, mg36, mg37, mg38, mg39, mg43, mg44, mg45, mg46, mg47, mg48, mg49, mg50, mg53, mg54, mg55, mg56, mg57, mg58, mg59, mg60, mg65, mg66, mg67, mg68, mg69, mg70, mg71, mg72]
      · by_cases e1 : j = σ 0 6 + 1
        · subst e1; simp (disch := first | assumption | omega) only [row_off, row_in, row_out, up_same, up_ne, cpy_off, rwo_off, rwo_at, rwo_out, mg6, mg7, mg8, mg9, mg10, mg12, mg30, mg31, mg32, mg33, mg35, mg36, mg37, mg38, mg39, mg43, mg44, mg45, mg46, mg47, mg48, mg49, mg50, mg53, mg54, mg55, mg56, mg57, mg58, mg59, mg60, mg65, mg66, mg67, mg68, mg69, mg70, mg71, mg72]
        · by_cases e0 : j = σ 0 6
          · subst e0; simp (disch := first | assumption | omega) only [row_off, row_in, row_out, up_same, up_ne, cpy_off, rwo_off, rwo_at, rwo_out, mg6, mg7, mg8, mg9, mg10, mg12, mg30, mg31, mg32, mg33, mg35, mg36, mg37, mg38, mg39, mg43, mg44, mg45, mg46, mg47, mg48, mg49, mg50, mg53, mg54, mg55, mg56, mg57, mg58, mg59, mg60, mg65, mg66, mg67, mg68, mg69, mg70, mg71, mg72]
          · simp (disch := first | assumption | omega) only [row_off, row_in, row_out, up_same, up_ne, cpy_off, rwo_off, rwo_at, rwo_out, mg6, mg7, mg8, mg9, mg10, mg12, mg30, mg31, mg32, mg33, mg35, mg36, mg37, mg38, mg39, mg43, mg44, mg45, mg46, mg47, mg48, mg49, mg50, mg53, mg54, mg55, mg56, mg57, mg58, mg59, mg60, mg65, mg66, mg67, mg68, mg69, mg70, mg71, mg72]; exact ra6 j z1 (by omega)
  case refine_11 => rw [layF_keep (by omega) (by omega)] at z2; rw [layF_keep (by omega) (by omega)]; simp (disch := first | assumption | omega) only [row_off, row_in, row_out, up_same, up_ne, cpy_off, rwo_off, rwo_at, rwo_out, mg6, mg7, mg8, mg9, mg10, mg12, mg30, mg31, mg32, mg33, mg35, mg36, mg37, mg38, mg39, mg43, mg44, mg45, mg46, mg47, mg48, mg49, mg50, mg53, mg54, mg55, mg56, mg57, mg58, mg59, mg60, mg65, mg66, mg67, mg68, mg69, mg70, mg71, mg72]; exact ra5 j z1 z2
  case refine_15 => rw [layF_keep (by omega) (by omega)] at w z2; rw [layF_keep (by omega) (by omega)]; simp (disch := first | assumption | omega) only [row_off, row_in, row_out, up_same, up_ne, cpy_off, rwo_off, rwo_at, rwo_out, mg6, mg7, mg8, mg9, mg10, mg12, mg30, mg31, mg32, mg33, mg35, mg36, mg37, mg38, mg39, mg43, mg44, mg45, mg46, mg47, mg48, mg49, mg50, mg53, mg54, mg55, mg56, mg57, mg58, mg59, mg60, mg65, mg66, mg67, mg68, mg69, mg70, mg71, mg72]; exact ra9 w j z1 z2
  case refine_16 => rw [layF_keep (by omega) (by omega)] at w z2; rw [layF_keep (by omega) (by omega)]; simp (disch := first | assumption | omega) only [row_off, row_in, row_out, up_same, up_ne, cpy_off, rwo_off, rwo_at, rwo_out, mg6, mg7, mg8, mg9, mg10, mg12, mg30, mg31, mg32, mg33, mg35, mg36, mg37, mg38, mg39, mg43, mg44, mg45, mg46, mg47, mg48, mg49, mg50, mg53, mg54, mg55, mg56, mg57, mg58, mg59, mg60, mg65, mg66, mg67, mg68, mg69, mg70, mg71, mg72]; exact ra10 w j z1 z2
  all_goals rw [layF_keep (by omega) (by omega)]
  all_goals simp (disch := first | assumption | omega) only [row_off, row_in, row_out, up_same, up_ne, cpy_off, rwo_off, rwo_at, rwo_out, mg6, mg7, mg8, mg9, mg10, mg12, mg30, mg31, mg32, mg33, mg35, mg36, mg37, mg38, mg39, mg43, mg44, mg45, mg46, mg47, mg48, mg49, mg50, mg53, mg54, mg55, mg56, mg57, mg58, mg59, mg60, mg65, mg66, mg67, mg68, mg69, mg70, mg71, mg72]
  all_goals first | assumption | (apply_assumption <;> assumption)
theorem m_feed (hl : l.stackTraces = false) (d : Nat) (hd : 0 < d) {b a1 a2 a3 a4 a5 : Int} (hS : ModS G b) (hG : ModG γ b) (hR : RepR μ b σ) (hW : Wf σ) : Cn l G yX9_feed cX9_feed 6 (some .int) d 0 [aR b, aI a1, aI a2, aI a3, aI a4, aI a5] γ μ (PR μ γ b (feeF σ a1 a2 a3 a4 a5) (if σ 0 6 + 20 ≤ 500 then σ 0 6 + 20 else -1) 0) := by
  refine Cn.ofP hl (plainFor_of_name (by decide)) (noLc nlR (noLc nlI (noLc nlI (noLc nlI (noLc nlI (noL1 nlI)))))) rfl (fun P hP o1 o3 X hX hC => B_X9_feed_0 hC hS.o ?_)
  have ht := hW.tp.1
  rw [hR.2.2.2.2.2.2.1]
  unfold feeF at hP
  refine ⟨by constructor <;> omega, fun h => ?_, fun h => ⟨Nat.le_refl _, hP _ _ _ ⟨by rw [if_neg h], rfl, up_same, by rw [if_neg h]; exact hR.t hW, frB_up frB_rf (by omega)⟩⟩⟩
  simp only [if_pos h] at hP
  refine ⟨0, 0, _, hd, Nat.le_refl _, hX ▸ m_lays hl 0 hS hG (hR.t hW) hW (by omega), ?_⟩
  rintro r γ m1 ⟨rfl, rfl, t1, R1, f1⟩
  have W1 := hW.lay (v := a1) (by omega)
  refine B_X9_feed_25 hC hS.o ⟨0, 0, _, hd, Nat.le_refl _, hX ▸ m_lays hl 0 hS hG R1 W1 (by rw [layF_06]; omega), ?_⟩
  rintro r γ m2 ⟨rfl, rfl, t2, R2, f2⟩
  have W2 := W1.lay (v := a2) (by rw [layF_06]; omega)
  refine B_X9_feed_30 hC hS.o ⟨0, 0, _, hd, Nat.le_refl _, hX ▸ m_lays hl 0 hS hG R2 W2 (by rw [layF_06, layF_06]; omega), ?_⟩
  rintro r γ m3 ⟨rfl, rfl, t3, R3, f3⟩
  have W3 := W2.lay (v := a3) (by rw [layF_06, layF_06]; omega)
  refine B_X9_feed_35 hC hS.o ⟨0, 0, _, hd, Nat.le_refl _, hX ▸ m_lays hl 0 hS hG R3 W3 (by rw [layF_06, layF_06, layF_06]; omega), ?_⟩
  rintro r γ m4 ⟨rfl, rfl, t4, R4, f4⟩
  have W4 := W3.lay (v := a4) (by rw [layF_06, layF_06, layF_06]; omega)
  refine B_X9_feed_41 hC hS.o ⟨0, 0, _, hd, Nat.le_refl _, hX ▸ m_lays hl 0 hS hG R4 W4 (by rw [layF_06, layF_06, layF_06, layF_06]; omega), ?_⟩
  rintro r γ m5 ⟨rfl, rfl, t5, R5, f5⟩
  refine B_X9_feed_47 hC hS.o ⟨Nat.le_refl _, hP _ _ _ ⟨?_, rfl, by rw [t5, t4, t3, t2, t1]; exact up_same, R5, ((((frB_up frB_rf (by omega)).t f1).t f2).t f3).t f4 |>.t f5⟩⟩
  rw [R5.2.2.2.2.2.2.1, layF_06, layF_06, layF_06, layF_06, layF_06]
  congr 2
  omega
end MKeep
