/-! the reference: pulses, pulse, round, keep, take -/
def pulS (σ : Mu) (f : Int → Int) (i : Int) : Int → Int := foldI (fun g y => if σ 2 y = 0 then (if f y = 0 then g else stpV σ g y (f y)) else g) f i
def pulF (σ : Mu) (f : Int → Int) : Int → Int := pulS σ f (σ 0 0)
def pulN (σ : Mu) : Nat → Int → Int
  | 0 => σ 3
  | k + 1 => pulF σ (pulN σ k)
theorem pulS_in {σ : Mu} (hW : Wf σ) {f : Int → Int} {n : Int} (hf : inQ n (σ 0 1) f) {m : Int} : ∀ i, 0 ≤ i → i ≤ m → inQ n (σ 0 1) (pulS σ f i) :=
  foldI_ind (P := fun i g => inQ n (σ 0 1) g) hf (fun i g h0 h1 hg => by
    split
    · split
      · exact hg
      · exact stpV_in hW
    · exact hg)
theorem pulN_in {σ : Mu} (hW : Wf σ) : ∀ k : Nat, inQ (σ 0 0) (σ 0 1) (pulN σ k)
  | 0 => fun j z1 z2 => (hW.st j z1 (by have := hW.1; omega)).1
  | k + 1 => pulS_in hW (pulN_in hW k) _ hW.1.1 (Int.le_refl _)
def eqK (σ : Mu) (k : Int) : Int → Int := fun j => allI (eqP (pulN σ j.toNat) (pulN σ k.toNat)) (σ 0 0)
def rdP (σ : Mu) : Int → Int := fun k => if fs (eqK σ k) k 0 = -1 then 0 else 1
def rndF (σ : Mu) (x : Int) : Int := if fs (rdP σ) 301 0 = -1 then -1 else if x = 0 then fs (eqK σ (fs (rdP σ) 301 0)) (fs (rdP σ) 301 0) 0 else fs (rdP σ) 301 0 - fs (eqK σ (fs (rdP σ) 301 0)) (fs (rdP σ) 301 0) 0
theorem allI_mono {p : Int → Int} {i n : Int} (h0 : 0 ≤ i) (h1 : i ≤ n) (h : allI p i = 0) : allI p n = 0 := by
  by_cases e : allI p n = 0
  · exact e
  · exact absurd h ((allI_iff h0).mpr (fun j z1 z2 => (allI_iff (by omega)).mp e j z1 (by omega)))
section MPulse
variable {l : Launch} {G : Gx} {γ μ σ : Mu}
theorem m_pulses (hl : l.stackTraces = false) (d : Nat) {b a : Int} {f : Int → Int} (hS : ModS G b) (hG : ModG γ b) (hD : MD μ b (σ 0 0) (σ 0 1) (sA σ) (σ 2)) (hW : Wf σ) (ha : shO G a 11 36) (hab : a ≠ b ∧ a ≠ b + 1 ∧ a ≠ b + 2 ∧ a ≠ b + 25) (hf : ∀ j, 0 ≤ j → j < σ 0 0 → μ a j = f j) (hfq : inQ (σ 0 0) (σ 0 1) f) : Cn l G yX9_pulses cX9_pulses 4 none d 0 [aR b, aR a] γ μ (fun r γ' μ' => r = none ∧ γ' = γ ∧ (∀ j, 0 ≤ j → j < σ 0 0 → μ' a j = pulF σ f j) ∧ (∀ j, σ 0 0 ≤ j → μ' a j = μ a j) ∧ ∀ y j, y ≠ a → y ≠ b + 25 → μ' y j = μ y j) := by
  refine Cn.ofP hl (plainFor_of_name (by decide)) (noLc nlR (noL1 nlR)) rfl (fun P hP o1 o3 X hX hC => B_X9_pulses_0 hC hS.o ?_)
  have hn := hW.1
  have hq := hW.2.1.b
  have s1 := ms1 hS; have s2 := ms2 hS; have s25 := ms25 hS
  have L2 := rem_ind (n := σ 0 0) (P := fun i => ∀ m : Mu, (∀ y j, y ≠ a → y ≠ b + 25 → m y j = μ y j) → (∀ j, σ 0 0 ≤ j → m a j = μ a j) → (∀ j, 0 ≤ j → j < σ 0 0 → m (b + 25) j = f j) → (∀ j, 0 ≤ j → j < σ 0 0 → m a j = pulS σ f i j) → V X G (Qm X G 0 P) 0 27 [aR b, aR a, aI i, aD] [] γ m) (fun i h0 h1 ih m fm mo m25 ma => ?_)
  · have L1 := rem_ind (n := σ 0 0) (P := fun i => V X G (Qm X G 0 P) 0 2 [aR b, aR a, aI i, aD] [] γ (row μ (b + 25) i f)) (fun i h0 h1 ih => ?_)
    · have h9 := L1 0 (by omega) (by omega)
      rw [row_0] at h9
      exact h9
    · refine B_X9_pulses_2 hC hS.o ?_
      rcases Int.lt_or_le i (σ 0 0) with hi | hi
      · have hih := ih hi
        rw [← row_s h0] at hih
        simp (disch := first | assumption | omega) only [row_off, row_in, row_out, up_same, up_ne, cpy_off, rwo_off, rwo_at, rwo_out, mg6, mg7, mg8, mg9, mg10, mg12, mg30, mg31, mg32, mg33, mg35, mg36, mg37, mg38, mg39, mg43, mg44, mg45, mg46, mg47, mg48, mg49, mg50, mg53, mg54, mg55, mg56, mg57, mg58, mg59, mg60, mg65, mg66, mg67, mg68, mg69, mg70, mg71, mg72, hD.1, hf i h0 hi]
        (repeat' (first | (with_reducible exact ixO (by assumption) (by omega)) | with_reducible apply And.intro | with_reducible intro)) <;> (try first | omega | (with_reducible apply Nat.le_refl) | rfl | exact absurd trivial (by assumption))
        all_goals exact hih
      · obtain rfl : i = σ 0 0 := by omega
        have h9 := L2 0 (by omega) (by omega) (row μ (b + 25) (σ 0 0) f) (fun y j z1 z2 => row_off z2) (fun j z1 => row_off (by omega)) (fun j z1 z2 => row_in ⟨z1, z2⟩) (fun j z1 z2 => by rw [row_off (by omega)]; exact hf j z1 z2)
        simp (disch := first | assumption | omega) only [row_off, row_in, row_out, up_same, up_ne, cpy_off, rwo_off, rwo_at, rwo_out, mg6, mg7, mg8, mg9, mg10, mg12, mg30, mg31, mg32, mg33, mg35, mg36, mg37, mg38, mg39, mg43, mg44, mg45, mg46, mg47, mg48, mg49, mg50, mg53, mg54, mg55, mg56, mg57, mg58, mg59, mg60, mg65, mg66, mg67, mg68, mg69, mg70, mg71, mg72, hD.1]
        (repeat' (first | (with_reducible exact ixO (by assumption) (by omega)) | with_reducible apply And.intro | with_reducible intro)) <;> (try first | omega | (with_reducible apply Nat.le_refl) | rfl | exact absurd trivial (by assumption))
        all_goals exact h9
  · have e1 : m b 1 = σ 0 0 := by rw [fm _ _ (by omega) (by omega)]; exact hD.1
    have e2 : m b 2 = σ 0 1 := by rw [fm _ _ (by omega) (by omega)]; exact hD.2.1
    refine B_X9_pulses_27 hC hS.o ?_
    rcases Int.lt_or_le i (σ 0 0) with hi | hi
    · have es : pulS σ f (i + 1) = if σ 2 i = 0 then (if f i = 0 then pulS σ f i else stpV σ (pulS σ f i) i (f i)) else pulS σ f i := foldI_s h0
      have hfi := hfq i h0 hi
      have hpi := pulS_in hW hfq i h0 h1
      have ej : m (b + 2) i = σ 2 i := by rw [fm _ _ (by omega) (by omega)]; exact hD.2.2.2.2.2 i h0 hi
      simp (disch := first | assumption | omega) only [row_off, row_in, row_out, up_same, up_ne, cpy_off, rwo_off, rwo_at, rwo_out, mg6, mg7, mg8, mg9, mg10, mg12, mg30, mg31, mg32, mg33, mg35, mg36, mg37, mg38, mg39, mg43, mg44, mg45, mg46, mg47, mg48, mg49, mg50, mg53, mg54, mg55, mg56, mg57, mg58, mg59, mg60, mg65, mg66, mg67, mg68, mg69, mg70, mg71, mg72, e1, ej, m25 i h0 hi]
      (repeat' (first | (with_reducible exact ixO (by assumption) (by omega)) | with_reducible apply And.intro | with_reducible intro)) <;> (try first | omega | (with_reducible apply Nat.le_refl) | rfl | exact absurd trivial (by assumption))
      · rename_i h
        exact ih hi m fm mo m25 (by rw [es, if_neg h]; exact ma)
      · rename_i h h2
        rw [if_pos h, if_neg h2] at es
        have inner := rem_ind (n := σ 0 0) (P := fun j => V X G (Qm X G 0 P) 0 58 [aR b, aR a, aI i, aI j] [] γ (row m a j (stpV σ (pulS σ f i) i (f i)))) (fun j j0 j1 ihj => ?_)
        · have h9 := inner 0 (by omega) (by omega)
          rw [row_0] at h9
          exact h9
        · refine B_X9_pulses_58 hC hS.o ?_
          rcases Int.lt_or_le j (σ 0 0) with hj | hj
          · have hih := ihj hj
            rw [← row_s j0] at hih
            have a1 := hW.am i h0 hi j j0 hj
            have a2 := hpi j j0 hj
            have a3 := mulR (a := f i) (b := sA σ i j) (m := 5) (by omega) (by omega)
            have e3 : m (b + 1) (36 * i + j) = sA σ i j := by rw [fm _ _ (by omega) (by omega)]; exact (hD.2.2.2.2.1 i h0 hi).1 j j0 hj
            have e4 : (pulS σ f i j + f i * sA σ i j).tmod (σ 0 1) = stpV σ (pulS σ f i) i (f i) j := Int.tmod_eq_emod_of_nonneg (by omega)
            simp (disch := first | assumption | omega) only [row_off, row_in, row_out, up_same, up_ne, cpy_off, rwo_off, rwo_at, rwo_out, mg6, mg7, mg8, mg9, mg10, mg12, mg30, mg31, mg32, mg33, mg35, mg36, mg37, mg38, mg39, mg43, mg44, mg45, mg46, mg47, mg48, mg49, mg50, mg53, mg54, mg55, mg56, mg57, mg58, mg59, mg60, mg65, mg66, mg67, mg68, mg69, mg70, mg71, mg72, e1, e2, e3, m25 i h0 hi, ma j j0 hj, e4]
            (repeat' (first | (with_reducible exact ixO (by assumption) (by omega)) | with_reducible apply And.intro | with_reducible intro)) <;> (try first | omega | (with_reducible apply Nat.le_refl) | rfl | exact absurd trivial (by assumption))
            all_goals exact hih
          · obtain rfl : j = σ 0 0 := by omega
            have h9 := ih hi (row m a (σ 0 0) (stpV σ (pulS σ f i) i (f i))) (fun y j z1 z2 => by rw [row_off z1, fm y j z1 z2]) (fun j z1 => by rw [row_out (by omega)]; exact mo j z1) (fun j z1 z2 => by rw [row_off (by omega)]; exact m25 j z1 z2) (fun j z1 z2 => by rw [row_in ⟨z1, z2⟩, es])
            simp (disch := first | assumption | omega) only [row_off, row_in, row_out, up_same, up_ne, cpy_off, rwo_off, rwo_at, rwo_out, mg6, mg7, mg8, mg9, mg10, mg12, mg30, mg31, mg32, mg33, mg35, mg36, mg37, mg38, mg39, mg43, mg44, mg45, mg46, mg47, mg48, mg49, mg50, mg53, mg54, mg55, mg56, mg57, mg58, mg59, mg60, mg65, mg66, mg67, mg68, mg69, mg70, mg71, mg72, e1]
            (repeat' (first | (with_reducible exact ixO (by assumption) (by omega)) | with_reducible apply And.intro | with_reducible intro)) <;> (try first | omega | (with_reducible apply Nat.le_refl) | rfl | exact absurd trivial (by assumption))
            all_goals exact h9
      · rename_i h h2
        exact ih hi m fm mo m25 (by rw [es, if_pos h, if_pos h2]; exact ma)
    · obtain rfl : i = σ 0 0 := by omega
      refine ⟨fun _ => ⟨Nat.le_refl _, hP _ _ _ ⟨rfl, rfl, ma, mo, fm⟩⟩, fun w => absurd (by rw [e1]; exact hi) w⟩
theorem m_pulse (hl : l.stackTraces = false) (d : Nat) (hd : 0 < d) {b x : Int} (hS : ModS G b) (hG : ModG γ b) (hR : RepR μ b σ) (hW : Wf σ) : Cn l G yX9_pulse cX9_pulse 3 (some .boolean) d 0 [aR b, aI x] γ μ (PR μ γ b (if 0 ≤ x ∧ x ≤ 100 then up (row σ 3 (σ 0 0) (pulN σ x.toNat)) 0 5 0 else σ) (if 0 ≤ x ∧ x ≤ 100 then 1 else 0) 0) := by
  refine Cn.ofP hl (plainFor_of_name (by decide)) (noLc nlR (noL1 nlI)) rfl (fun P hP o1 o3 X hX hC => B_X9_pulse_0 hC hS.o ?_)
  have hn := hW.1
  have hq := hW.2.1.b
  have s3 := ms3 hS
  refine ⟨0, 0, _, hd, Nat.le_refl _, hX ▸ m_within hl 0, PI.use ?_⟩
  by_cases hx : 0 ≤ x ∧ x ≤ 100
  case neg =>
    simp only [if_neg hx] at hP ⊢
    refine B_X9_pulse_12 hC hS.o ?_
    (repeat' (first | (with_reducible exact ixO (by assumption) (by omega)) | with_reducible apply And.intro | with_reducible intro)) <;> (try first | omega | (with_reducible apply Nat.le_refl) | rfl | exact absurd trivial (by assumption))
    exact hP _ _ _ ⟨rfl, rfl, up_same, hR.t hW, frB_up frB_rf (by omega)⟩
  simp only [if_pos hx] at hP ⊢
  have mR := hR.t (z := 0) hW
  have m0 : up μ b 0 0 b 0 = 0 := up_same
  have mf : frB μ (up μ b 0 0) b (b + 40) := frB_up frB_rf (by omega)
  generalize up μ b 0 0 = m at *
  refine B_X9_pulse_12 hC hS.o ⟨fun _ => ?_, fun w => absurd w (by decide)⟩
  have hD := mR.md hW
  have loop := rem_ind (n := x) (P := fun k => ∀ m2 : Mu, (∀ y j, y ≠ b + 3 → y ≠ b + 25 → m2 y j = m y j) → (∀ j, σ 0 0 ≤ j → m2 (b + 3) j = m (b + 3) j) → (∀ j, 0 ≤ j → j < σ 0 0 → m2 (b + 3) j = pulN σ k.toNat j) → V X G (Qm X G 0 P) 0 19 [aR b, aI x, aI k] [] γ m2) (fun k k0 k1 ih m2 f2 o2 p2 => ?_)
  · exact loop 0 (by omega) (by omega) m (fun _ _ _ _ => rfl) (fun _ _ => rfl) (fun j z1 z2 => mR.2.2.2.2.2.2.2.2.2.2.2.2.1 j z1 (by omega))
  · refine B_X9_pulse_19 hC hS.o ⟨fun h => ⟨Nat.le_refl _, ?_⟩, fun h => ?_⟩
    · obtain rfl : k = x := by omega
      refine hP _ _ _ ⟨rfl, rfl, by rw [up_ne (by omega), f2 _ _ (by omega) (by omega)]; exact m0, ?_, frB_up (mf.t (fun y j h => f2 y j (by omega) (by omega))) (by omega)⟩
      have hR := mR
      obtain ⟨r1, r2, r3, r4, r5, r6, r7, r8, r9, r10, ra1, ra2, ra3, ra4, ra5, ra6, ra7, ra8, ra9, ra10, rk, rh⟩ := id hR
      refine RepR.mk2 hR hW ⟨by simp (disch := first | assumption | omega) only [row_off, row_in, row_out, up_same, up_ne, cpy_off, rwo_off, rwo_at, rwo_out, mg6, mg7, mg8, mg9, mg10, mg12, mg30, mg31, mg32, mg33, mg35, mg36, mg37, mg38, mg39, mg43, mg44, mg45, mg46, mg47, mg48, mg49, mg50, mg53, mg54, mg55, mg56, mg57, mg58, mg59, mg60, mg65, mg66, mg67, mg68, mg69, mg70, mg71, mg72], by simp (disch := first | assumption | omega) only [row_off, row_in, row_out, up_same, up_ne, cpy_off, rwo_off, rwo_at, rwo_out, mg6, mg7, mg8, mg9, mg10, mg12, mg30, mg31, mg32, mg33, mg35, mg36, mg37, mg38, mg39, mg43, mg44, mg45, mg46, mg47, mg48, mg49, mg50, mg53, mg54, mg55, mg56, mg57, mg58, mg59, mg60, mg65, mg66, mg67, mg68, mg69, mg70, mg71, mg72], by simp (disch := decide) only [up_off, row_offF, rwo_offF], by simp (disch := decide) only [up_off, row_offF, rwo_offF]⟩ (fun y j h => by unfold keepK at h; rw [up_ne (by omega), f2 y j (by omega) (by omega)]) ⟨?_, ?_, ?_, ?_, ?_, ?_, ?_, ?_, fun j z1 z2 => ?_, fun j z1 z2 => ?_, fun j z1 z2 => ?_, fun j z1 z2 => ?_, fun j z1 z2 => ?_, fun j z1 z2 => ?_, fun w j z1 z2 => ?_, fun w j z1 z2 => ?_⟩
      case refine_4 => rw [up_same, up_same]
      case refine_9 =>
        rw [up_ne (by omega), up_ne (by omega)]
        by_cases e : j < σ 0 0
        · rw [row_in ⟨z1, e⟩]; exact p2 j z1 e
        · rw [row_out (by omega), o2 j (by omega)]; exact ra3 j z1 z2
      case refine_11 => rw [up_same] at z2; omega
      case refine_12 =>
        rw [up_ne (by omega), row_off (by omega)] at z2
        rw [up_ne (by omega), f2 _ _ (by omega) (by omega), up_ne (by omega), row_off (by omega)]
        exact ra6 j z1 z2
      case refine_15 =>
        rw [up_ne (by omega), row_off (by omega)] at w z2
        rw [up_ne (by omega), f2 _ _ (by omega) (by omega), up_ne (by omega), row_off (by omega)]
        exact ra9 w j z1 z2
      case refine_16 =>
        rw [up_ne (by omega), row_off (by omega)] at w z2
        rw [up_ne (by omega), f2 _ _ (by omega) (by omega), up_ne (by omega), row_off (by omega)]
        exact ra10 w j z1 z2
      all_goals rw [up_ne (by omega), f2 _ _ (by omega) (by omega), up_ne (by omega), row_off (by omega)]
      all_goals first | assumption | (apply_assumption <;> assumption)
    · rw [mg8 hG]
      refine ⟨0, 0, _, hd, Nat.le_refl _, hX ▸ m_pulses hl 0 (σ := σ) (f := pulN σ k.toNat) hS hG (hD.fr (f2 _ _ (by omega) (by omega)) (f2 _ _ (by omega) (by omega)) (fun j => f2 _ _ (by omega) (by omega)) (fun j => f2 _ _ (by omega) (by omega))) hW s3 (by omega) p2 (pulN_in hW _), ?_⟩
      rintro r γ m3 ⟨rfl, rfl, a3, o3', f3⟩
      refine B_X9_pulse_32 hC hS.o ⟨by constructor <;> omega, ih (by omega) m3 (fun y j z1 z2 => by rw [f3 y j z1 z2, f2 y j z1 z2]) (fun j z1 => by rw [o3' j z1, o2 j z1]) ?_⟩
      rw [show (k + 1).toNat = k.toNat + 1 by omega]
      exact a3
set_option maxHeartbeats 1000000 in
theorem m_round (hl : l.stackTraces = false) (d : Nat) (hd : 0 < d) {b x : Int} (hS : ModS G b) (hG : ModG γ b) (hR : RepR μ b σ) (hW : Wf σ) : Cn l G yX9_round cX9_round 6 (some .int) d 0 [aR b, aI x] γ μ (PR μ γ b σ (if isSW x then rndF σ x else 0) (if isSW x then 0 else 1)) := by
  refine Cn.ofP hl (plainFor_of_name (by decide)) (noLc nlR (noL1 nlI)) rfl (fun P hP o1 o3 X hX hC => B_X9_round_0 hC hS.o ?_)
  have hn := hW.1
  have hq := hW.2.1.b
  have s3 := ms3 hS; have s33 := ms33 hS; have s37 := ms37 hS
  have bad : ¬ isSW x → V X G (Qm X G 0 P) 0 24 [aR b, aI x, aD, aD, aD, aD] [aI 0] γ (up (up μ b 0 0) b 0 1) := fun hx => by
    refine B_X9_round_24 hC hS.o ?_
    (repeat' (first | (with_reducible exact ixO (by assumption) (by omega)) | with_reducible apply And.intro | with_reducible intro)) <;> (try first | omega | (with_reducible apply Nat.le_refl) | rfl | exact absurd trivial (by assumption))
    exact hP _ _ _ ⟨by rw [if_neg hx], rfl, by rw [if_neg hx]; exact up_same, (hR.t hW).t hW, frB_up (frB_up frB_rf (by omega)) (by omega)⟩
  have good : isSW x → V X G (Qm X G 0 P) 0 24 [aR b, aI x, aD, aD, aD, aD] [aI 1] γ (up μ b 0 0) := fun hx => by
    simp only [if_pos hx] at hP
    have mR := hR.t (z := 0) hW
    have m0 : up μ b 0 0 b 0 = 0 := up_same
    have mf : frB μ (up μ b 0 0) b (b + 40) := frB_up frB_rf (by omega)
    generalize up μ b 0 0 = m at *
    have fin : ∀ z m2, z = rndF σ x → (∀ y j, y ≠ b + 25 → y ≠ b + 33 → y ≠ b + 37 → m2 y j = m y j) → P (some (aI z)) γ m2 := fun z m2 hz f2 => hP _ _ _ ⟨by rw [hz], rfl, by rw [f2 _ _ (by omega) (by omega) (by omega)]; exact m0, mR.fr hW (fun y j h => f2 y j (by unfold keepR at h; omega) (by unfold keepR at h; omega) (by unfold keepR at h; omega)), mf.t (fun y j h => f2 y j (by omega) (by omega) (by omega))⟩
    unfold rndF at fin
    have hD := mR.md hW
    refine B_X9_round_24 hC hS.o ⟨fun _ => ?_, fun w => absurd w (by decide)⟩
    have main := rem_ind (n := 301) (P := fun k => fs (rdP σ) 301 k = fs (rdP σ) 301 0 → ∀ m2 : Mu, (∀ y j, y ≠ b + 25 → y ≠ b + 33 → y ≠ b + 37 → m2 y j = m y j) → (∀ j, 0 ≤ j → j < σ 0 0 → m2 (b + 33) j = pulN σ k.toNat j) → (∀ i, 0 ≤ i → i < k → ∀ j, 0 ≤ j → j < σ 0 0 → m2 (b + 37) (36 * i + j) = pulN σ i.toNat j) → V X G (Qm X G 0 P) 0 59 [aR b, aI x, aI k, aD, aD, aD] [] γ m2) (fun k k0 k1 ih hk m2 f2 m33 m37 => ?_)
    · have cp := rem_ind (n := σ 0 0) (P := fun i => V X G (Qm X G 0 P) 0 31 [aR b, aI x, aI i, aD, aD, aD] [] γ (row m (b + 33) i (σ 3))) (fun i h0 h1 ih => ?_)
      · have h9 := cp 0 (by omega) (by omega)
        rw [row_0] at h9
        exact h9
      · refine B_X9_round_31 hC hS.o ?_
        rcases Int.lt_or_le i (σ 0 0) with hi | hi
        · have hih := ih hi
          rw [← row_s h0] at hih
          simp (disch := first | assumption | omega) only [row_off, row_in, row_out, up_same, up_ne, cpy_off, rwo_off, rwo_at, rwo_out, mg6, mg7, mg8, mg9, mg10, mg12, mg30, mg31, mg32, mg33, mg35, mg36, mg37, mg38, mg39, mg43, mg44, mg45, mg46, mg47, mg48, mg49, mg50, mg53, mg54, mg55, mg56, mg57, mg58, mg59, mg60, mg65, mg66, mg67, mg68, mg69, mg70, mg71, mg72, mR.1, mR.2.2.2.2.2.2.2.2.2.2.2.2.1 i h0 (by omega)]
          (repeat' (first | (with_reducible exact ixO (by assumption) (by omega)) | with_reducible apply And.intro | with_reducible intro)) <;> (try first | omega | (with_reducible apply Nat.le_refl) | rfl | exact absurd trivial (by assumption))
          all_goals exact hih
        · obtain rfl : i = σ 0 0 := by omega
          have h9 := main 0 (by omega) (by omega) rfl (row m (b + 33) (σ 0 0) (σ 3)) (fun y j z1 z2 z3 => row_off z2) (fun j z1 z2 => row_in ⟨z1, z2⟩) (fun i z1 z2 => by omega)
          simp (disch := first | assumption | omega) only [row_off, row_in, row_out, up_same, up_ne, cpy_off, rwo_off, rwo_at, rwo_out, mg6, mg7, mg8, mg9, mg10, mg12, mg30, mg31, mg32, mg33, mg35, mg36, mg37, mg38, mg39, mg43, mg44, mg45, mg46, mg47, mg48, mg49, mg50, mg53, mg54, mg55, mg56, mg57, mg58, mg59, mg60, mg65, mg66, mg67, mg68, mg69, mg70, mg71, mg72, mR.1]
          (repeat' (first | (with_reducible exact ixO (by assumption) (by omega)) | with_reducible apply And.intro | with_reducible intro)) <;> (try first | omega | (with_reducible apply Nat.le_refl) | rfl | exact absurd trivial (by assumption))
          all_goals exact h9
    · have e1 : m2 b 1 = σ 0 0 := by rw [f2 _ _ (by omega) (by omega) (by omega)]; exact mR.1
      refine B_X9_round_59 hC hS.o ⟨fun h => ⟨Nat.le_refl _, fin _ m2 (by rw [← hk, fs_ge (by omega), if_pos rfl]) f2⟩, fun h => ?_⟩
      have sto : rdP σ k = 0 → V X G (Qm X G 0 P) 0 153 [aR b, aI x, aI k, aI 0, aD, aD] [] γ m2 := fun hr => by
        have cp := rem_ind (n := σ 0 0) (P := fun i => V X G (Qm X G 0 P) 0 153 [aR b, aI x, aI k, aI i, aD, aD] [] γ (rwo m2 (b + 37) (36 * k) i (pulN σ k.toNat))) (fun i h0 h1 ihc => ?_)
        · have h9 := cp 0 (by omega) (by omega)
          rw [rwo_0] at h9
          exact h9
        · refine B_X9_round_153 hC hS.o ?_
          rcases Int.lt_or_le i (σ 0 0) with hi | hi
          · have hih := ihc hi
            rw [← rwo_s h0] at hih
            simp (disch := first | assumption | omega) only [row_off, row_in, row_out, up_same, up_ne, cpy_off, rwo_off, rwo_at, rwo_out, mg6, mg7, mg8, mg9, mg10, mg12, mg30, mg31, mg32, mg33, mg35, mg36, mg37, mg38, mg39, mg43, mg44, mg45, mg46, mg47, mg48, mg49, mg50, mg53, mg54, mg55, mg56, mg57, mg58, mg59, mg60, mg65, mg66, mg67, mg68, mg69, mg70, mg71, mg72, e1, m33 i h0 hi]
            (repeat' (first | (with_reducible exact ixO (by assumption) (by omega)) | with_reducible apply And.intro | with_reducible intro)) <;> (try first | omega | (with_reducible apply Nat.le_refl) | rfl | exact absurd trivial (by assumption))
            all_goals exact hih
          · obtain rfl : i = σ 0 0 := by omega
            generalize hm3 : rwo m2 (b + 37) (36 * k) (σ 0 0) (pulN σ k.toNat) = m3
            have f3 : ∀ y j, y ≠ b + 37 → m3 y j = m2 y j := fun y j h => by rw [← hm3, rwo_off h]
            have f3m : ∀ y j, y ≠ b + 25 → y ≠ b + 33 → y ≠ b + 37 → m3 y j = m y j := fun y j z1 z2 z3 => by rw [f3 y j z3, f2 y j z1 z2 z3]
            rw [f3 b 1 (by omega), e1, mg66 hG]
            refine ⟨fun _ => ?_, fun w => absurd hi w⟩
            refine ⟨0, 0, _, hd, Nat.le_refl _, hX ▸ m_pulses hl 0 (σ := σ) (f := pulN σ k.toNat) hS hG (hD.fr (f3m _ _ (by omega) (by omega) (by omega)) (f3m _ _ (by omega) (by omega) (by omega)) (fun j => f3m _ _ (by omega) (by omega) (by omega)) (fun j => f3m _ _ (by omega) (by omega) (by omega))) hW s33 (by omega) (fun j z1 z2 => by rw [f3 _ _ (by omega)]; exact m33 j z1 z2) (pulN_in hW _), ?_⟩
            rintro r γ m4 ⟨rfl, rfl, a4, o4, f4⟩
            refine B_X9_round_192 hC hS.o ⟨by constructor <;> omega, ih (by omega) (by rw [← hk, fs_1 (f := rdP σ) (by omega) hr]) m4 (fun y j z1 z2 z3 => by rw [f4 y j z2 z1, f3m y j z1 z2 z3]) ?_ (fun i z1 z2 j z3 z4 => ?_)⟩
            · rw [show (k + 1).toNat = k.toNat + 1 by omega]
              exact a4
            · rw [f4 _ _ (by omega) (by omega), ← hm3]
              by_cases e : i = k
              · rw [e, rwo_at ⟨z3, z4⟩]
              · rw [rwo_out (by omega)]
                exact m37 i z1 (by omega) j z3 z4
      have seek := rem_ind (n := k) (P := fun i => fs (eqK σ k) k i = fs (eqK σ k) k 0 → V X G (Qm X G 0 P) 0 68 [aR b, aI x, aI k, aI i, aD, aD] [] γ m2) (fun i i0 i1 ihi hi => ?_)
      · exact seek 0 (by omega) (by omega) rfl
      · refine B_X9_round_68 hC hS.o ⟨fun h2 => sto ?_, fun h2 => ?_⟩
        · unfold rdP
          rw [← hi, fs_ge (by omega), if_pos rfl]
        · have out : V X G (Qm X G 0 P) 0 128 [aR b, aI x, aI k, aI i, aI (eqK σ k i), aD] [] γ m2 := by
            refine B_X9_round_128 hC hS.o ⟨fun h3 => ⟨by constructor <;> omega, ihi (by omega) (by rw [← hi, fs_1 (f := eqK σ k) (by omega) h3])⟩, fun h3 => ?_⟩
            have e9 : fs (eqK σ k) k 0 = i := by rw [← hi, fs_2 (f := eqK σ k) (by omega) h3]
            have e8 : fs (rdP σ) 301 0 = k := by rw [← hk, fs_2 (f := rdP σ) (by omega) (by unfold rdP; rw [e9, if_neg (by omega)]; decide)]
            rw [e8, e9, if_neg (by omega)] at fin
            exact ⟨fun h4 => ⟨by constructor <;> omega, Nat.le_refl _, fin _ m2 (by rw [if_neg h4]) f2⟩, fun h4 => ⟨Nat.le_refl _, fin _ m2 (by rw [if_pos h4]) f2⟩⟩
          have cmp := rem_ind (n := σ 0 0) (P := fun j => V X G (Qm X G 0 P) 0 79 [aR b, aI x, aI k, aI i, aI (allI (eqP (pulN σ i.toNat) (pulN σ k.toNat)) j), aI j] [] γ m2) (fun j j0 j1 ihj => ?_)
          · exact cmp 0 (by omega) (by omega)
          · refine B_X9_round_79 hC hS.o ?_
            rcases Int.lt_or_le j (σ 0 0) with hj | hj
            · have hih := ihj hj
              have ea : allI (eqP (pulN σ i.toNat) (pulN σ k.toNat)) (j + 1) = if allI (eqP (pulN σ i.toNat) (pulN σ k.toNat)) j = 0 then 0 else if eqP (pulN σ i.toNat) (pulN σ k.toNat) j = 0 then 0 else 1 := foldI_s j0
              rw [ea] at hih
              simp (disch := first | assumption | omega) only [row_off, row_in, row_out, up_same, up_ne, cpy_off, rwo_off, rwo_at, rwo_out, mg6, mg7, mg8, mg9, mg10, mg12, mg30, mg31, mg32, mg33, mg35, mg36, mg37, mg38, mg39, mg43, mg44, mg45, mg46, mg47, mg48, mg49, mg50, mg53, mg54, mg55, mg56, mg57, mg58, mg59, mg60, mg65, mg66, mg67, mg68, mg69, mg70, mg71, mg72, e1, m33 j j0 hj, m37 i i0 (by omega) j j0 hj]
              (repeat' (first | (with_reducible exact ixO (by assumption) (by omega)) | with_reducible apply And.intro | with_reducible intro)) <;> (try first | omega | (with_reducible apply Nat.le_refl) | rfl | exact absurd trivial (by assumption))
              · rename_i h5
                have e5 : eqK σ k i = 0 := allI_mono j0 j1 h5
                rw [h5]
                rw [e5] at out
                exact out
              · rename_i h5 h6
                rw [if_neg h5, eqP_0 h6, if_pos rfl] at hih
                exact hih
              · rename_i h5 h6
                rw [if_neg h5, eqP_1 h6, if_neg (by decide)] at hih
                exact hih
            · obtain rfl : j = σ 0 0 := by omega
              exact ⟨fun _ => out, fun w => absurd (by rw [e1]; exact hj) w⟩
  refine ⟨fun h => ?_, fun h => ⟨fun h2 => ?_, fun h2 => ?_⟩⟩
  · refine ⟨0, 0, _, by omega, Nat.le_refl _, hX ▸ m_right hl 0 hS (by first | exact up_same | assumption | (simp (disch := first | assumption | omega) only [row_off, row_in, row_out, up_same, up_ne, cpy_off, rwo_off, rwo_at, rwo_out, mg6, mg7, mg8, mg9, mg10, mg12, mg30, mg31, mg32, mg33, mg35, mg36, mg37, mg38, mg39, mg43, mg44, mg45, mg46, mg47, mg48, mg49, mg50, mg53, mg54, mg55, mg56, mg57, mg58, mg59, mg60, mg65, mg66, mg67, mg68, mg69, mg70, mg71, mg72] ; done)), PI.use ?_⟩
    rw [if_neg (by decide), if_neg (by decide)]
    exact good (Or.inl h)
  · refine ⟨0, 0, _, by omega, Nat.le_refl _, hX ▸ m_right hl 0 hS (by first | exact up_same | assumption | (simp (disch := first | assumption | omega) only [row_off, row_in, row_out, up_same, up_ne, cpy_off, rwo_off, rwo_at, rwo_out, mg6, mg7, mg8, mg9, mg10, mg12, mg30, mg31, mg32, mg33, mg35, mg36, mg37, mg38, mg39, mg43, mg44, mg45, mg46, mg47, mg48, mg49, mg50, mg53, mg54, mg55, mg56, mg57, mg58, mg59, mg60, mg65, mg66, mg67, mg68, mg69, mg70, mg71, mg72] ; done)), PI.use ?_⟩
    rw [if_pos rfl, if_pos rfl]
    exact bad (by unfold isSW; omega)
  · refine ⟨0, 0, _, by omega, Nat.le_refl _, hX ▸ m_right hl 0 hS (by first | exact up_same | assumption | (simp (disch := first | assumption | omega) only [row_off, row_in, row_out, up_same, up_ne, cpy_off, rwo_off, rwo_at, rwo_out, mg6, mg7, mg8, mg9, mg10, mg12, mg30, mg31, mg32, mg33, mg35, mg36, mg37, mg38, mg39, mg43, mg44, mg45, mg46, mg47, mg48, mg49, mg50, mg53, mg54, mg55, mg56, mg57, mg58, mg59, mg60, mg65, mg66, mg67, mg68, mg69, mg70, mg71, mg72] ; done)), PI.use ?_⟩
    rw [if_neg (by decide), if_neg (by decide)]
    exact good (Or.inr h2)
end MPulse
