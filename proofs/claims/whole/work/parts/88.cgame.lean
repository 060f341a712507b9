/-! the class: game -/
theorem bit_low {s : Int} : ∀ i : Nat, (∀ c : Nat, c < i → bitI s c = 0) → ∃ t, s = 2 ^ i * t
  | 0, _ => ⟨s, by rw [Int.pow_zero, Int.one_mul]⟩
  | i + 1, h => by
    obtain ⟨t, ht⟩ := bit_low i (fun c hc => h c (by omega))
    have hp := pw_pos (q := 2) (by decide) i
    have h1 := h i (by omega)
    unfold bitI at h1
    rw [Int.toNat_natCast, ht, Int.mul_ediv_cancel_left _ (by omega)] at h1
    exact ⟨t / 2, by rw [Int.pow_succ, Int.mul_assoc, show 2 * (t / 2) = t by omega]; exact ht⟩
theorem bitI_N {s : Int} {c : Nat} : bitI s (c : Int) = (s / 2 ^ c) % 2 := by
  unfold bitI
  rw [Int.toNat_natCast]
theorem pow_split {i c : Nat} (h : c ≤ i) : (2 : Int) ^ i = 2 ^ c * 2 ^ (i - c) := by rw [← Int.pow_add]; congr 1; omega
theorem m1_div {P m : Int} (hP : 0 < P) : (P * m - 1) / P = m - 1 := by
  rw [Int.sub_eq_add_neg, Int.mul_add_ediv_left m (-1) (by omega), Int.neg_one_ediv, Int.sign_eq_one_of_pos hP]
  rfl
/-- a set as a number less 1 -/
theorem bit_less {s : Int} {i : Nat} (hl : ∀ c : Nat, c < i → bitI s c = 0) (hi : bitI s i = 1) (c : Nat) : bitI (s - 1) c = if c < i then 1 else if c = i then 0 else bitI s c := by
  obtain ⟨t, ht⟩ := bit_low i hl
  have hp := pw_pos (q := 2) (by decide) i
  have hpc := pw_pos (q := 2) (by decide) c
  rw [bitI_N, ht, Int.mul_ediv_cancel_left _ (by omega)] at hi
  split
  · rename_i h
    obtain ⟨e, he⟩ : ∃ e : Nat, i - c = e + 1 := ⟨i - c - 1, by omega⟩
    rw [bitI_N, ht, pow_split (Nat.le_of_lt h), Int.mul_assoc, m1_div hpc, he, Int.pow_succ, Int.mul_right_comm]
    generalize (2 : Int) ^ e * t = m
    omega
  · split
    · rename_i h1 h2
      subst h2
      rw [bitI_N, ht, m1_div hp]
      omega
    · rename_i h1 h2
      have hc : c = i + 1 + (c - i - 1) := by omega
      have e : (2 : Int) ^ c = 2 ^ i * 2 * 2 ^ (c - i - 1) := by
        conv => lhs; rw [hc]
        rw [Int.pow_add, Int.pow_succ]
      have e1 : (s - 1) / (2 ^ i * 2) = t / 2 := by
        rw [← Int.ediv_ediv_of_nonneg (by omega), ht, m1_div hp]
        omega
      have e2 : s / (2 ^ i * 2) = t / 2 := by
        rw [← Int.ediv_ediv_of_nonneg (by omega), ht, Int.mul_ediv_cancel_left _ (by omega)]
      rw [bitI_N, bitI_N, e, ← Int.ediv_ediv_of_nonneg (x := s - 1) (y := 2 ^ i * 2) (by omega), ← Int.ediv_ediv_of_nonneg (x := s) (y := 2 ^ i * 2) (by omega), e1, e2]
theorem bit_full {n c : Nat} (h : c < n) : bitI (2 ^ n - 1) c = 1 := by
  have hpc := pw_pos (q := 2) (by decide) c
  obtain ⟨e, he⟩ : ∃ e : Nat, n - c = e + 1 := ⟨n - c - 1, by omega⟩
  rw [bitI_N, pow_split (Nat.le_of_lt h), m1_div hpc, he, Int.pow_succ]
  generalize (2 : Int) ^ e = m
  omega
theorem bit_0 {c : Int} : bitI 0 c = 0 := by
  unfold bitI
  rw [Int.zero_ediv]
  rfl
theorem setS_sum {σ : Mu} {s x : Int} : ∀ n, 0 ≤ n → setS σ s x n = σ 3 x + sumI (fun c => if bitI s c = 1 then sA σ c x else 0) n := int_ind (P := fun n => setS σ s x n = σ 3 x + sumI (fun c => if bitI s c = 1 then sA σ c x else 0) n) (by show σ 3 x = σ 3 x + 0; omega) (fun i h0 ih => by
  rw [sumI_s h0]
  have : setS σ s x (i + 1) = if bitI s i = 1 then setS σ s x i + sA σ i x else setS σ s x i := foldI_s h0
  rw [this, ih]
  split <;> omega)
/-- the colours behind a set of presses, and buttons below i once more -/
def gst (σ : Mu) (s i : Int) : Int → Int := fun j => (σ 3 j + sumI (fun c => (if bitI s c = 1 then sA σ c j else 0) + (if c < i then sA σ c j else 0)) (σ 0 0)) % σ 0 1
theorem gst_in {σ : Mu} {s i n : Int} (hW : Wf σ) : inQ n (σ 0 1) (gst σ s i) := fun j _ _ => by
  have hq := hW.2.1.b
  exact ⟨Int.emod_nonneg _ (by omega), Int.emod_lt_of_pos _ (by omega)⟩
theorem gst_set {σ : Mu} {s j : Int} (hW : Wf σ) : gst σ s 0 j = setS σ s j (σ 0 0) % σ 0 1 := by
  have hn := hW.1
  unfold gst
  rw [setS_sum _ hn.1]
  congr 2
  exact sumI_cong hn.1 (fun c z1 z2 => by rw [if_neg (show ¬ c < 0 by omega)]; omega)
theorem gst_00 {σ : Mu} {j : Int} (hW : Wf σ) (h0 : 0 ≤ j) (h1 : j < σ 0 0) : gst σ 0 0 j = σ 3 j := by
  have hn := hW.1
  rw [gst_set hW, setS_sum _ hn.1, sumI_zero hn.1 (fun c z1 z2 => by rw [bit_0, if_neg (by decide)]), Int.add_zero]
  have := (hW.st j h0 (by omega)).1
  exact Int.emod_eq_of_lt this.1 this.2
theorem gst_step {σ : Mu} {s i : Int} (hi : 0 ≤ i ∧ i < σ 0 0) : stpV σ (gst σ s i) i 1 = gst σ s (i + 1) := by
  funext j
  unfold stpV gst
  rw [Int.emod_add_emod, Int.one_mul, sumI_one (f := fun c => (if bitI s c = 1 then sA σ c j else 0) + (if c < i + 1 then sA σ c j else 0)) (g := fun c => (if bitI s c = 1 then sA σ c j else 0) + (if c < i then sA σ c j else 0)) hi (fun c z1 z2 z3 => by
    by_cases e : c < i
    · simp only [if_pos e, if_pos (show c < i + 1 by omega)]
    · simp only [if_neg e, if_neg (show ¬ c < i + 1 by omega)])]
  simp only [if_pos (show i < i + 1 by omega), if_neg (show ¬ i < i by omega)]
  congr 1
  omega
theorem gst_full {σ : Mu} (hW : Wf σ) : gst σ 0 (σ 0 0) = gst σ (2 ^ (σ 0 0).toNat - 1) 0 := by
  have hn := hW.1
  funext j
  unfold gst
  congr 2
  refine sumI_cong hn.1 (fun c z1 z2 => ?_)
  have h1 := bit_full (n := (σ 0 0).toNat) (c := c.toNat) (by omega)
  rw [Int.toNat_of_nonneg z1] at h1
  rw [bit_0, if_neg (by decide), if_pos z2, h1, if_pos rfl, if_neg (by omega)]
  omega
theorem gst_less {σ : Mu} {s i : Int} (hW : Wf σ) (hi : 0 ≤ i ∧ i < σ 0 0) (hl : ∀ c, 0 ≤ c → c < i → bitI s c = 0) (h1 : bitI s i = 1) : stpV σ (gst σ s i) i (σ 0 1 - 1) = gst σ (s - 1) 0 := by
  have hq := hW.2.1.b
  have hb : ∀ c, 0 ≤ c → bitI (s - 1) c = if c < i then 1 else if c = i then 0 else bitI s c := fun c z1 => by
    have := bit_less (s := s) (i := i.toNat) (fun c hc => hl c (by omega) (by omega)) (by rw [Int.toNat_of_nonneg hi.1]; exact h1) c.toNat
    rw [Int.toNat_of_nonneg z1] at this
    rw [this]
    by_cases e : c < i
    · rw [if_pos e, if_pos (by omega)]
    · by_cases e2 : c = i
      · rw [if_neg e, if_pos e2, if_neg (by omega), if_pos (by omega)]
      · rw [if_neg e, if_neg e2, if_neg (by omega), if_neg (by omega)]
  funext j
  unfold stpV gst
  rw [Int.emod_add_emod, sumI_one (f := fun c => (if bitI (s - 1) c = 1 then sA σ c j else 0) + (if c < 0 then sA σ c j else 0)) (g := fun c => (if bitI s c = 1 then sA σ c j else 0) + (if c < i then sA σ c j else 0)) hi (fun c z1 z2 z3 => by
    have hbc := hb c z1
    rw [hbc, if_neg (show ¬ c < 0 by omega)]
    by_cases e : c < i
    · rw [if_pos e, if_pos rfl, hl c z1 e, if_neg (by decide), if_pos e]
      omega
    · rw [if_neg e, if_neg z3, if_neg e])]
  have hbi := hb i hi.1
  rw [if_neg (by omega), if_pos rfl] at hbi
  simp only [hbi, h1, if_pos, if_neg (show ¬ i < i by omega), if_neg (show ¬ i < 0 by omega), if_neg (show ¬ (0 : Int) = 1 by decide)]
  generalize sumI (fun c => (if bitI s c = 1 then sA σ c j else 0) + (if c < i then sA σ c j else 0)) (σ 0 0) = Z
  rw [show σ 3 j + Z + (σ 0 1 - 1) * sA σ i j = (σ 3 j + (Z + (0 + 0 - (sA σ i j + 0)))) + sA σ i j * σ 0 1 by rw [Int.sub_mul, Int.mul_comm (sA σ i j)]; omega, Int.add_mul_emod_self_right]
theorem anyI_fs {p : Int → Int} {n : Int} (hn : 0 ≤ n) : anyI p n = if fs p n 0 = -1 then 0 else 1 := by
  rcases fs_rng (f := p) hn with ⟨h1, h2⟩ | ⟨h1, h2, h3, -⟩
  · rw [if_pos h1]
    exact (anyI_iff hn).mpr h2
  · rw [if_neg (by omega)]
    rcases anyI_01 p n with h | h
    · exact absurd ((anyI_iff hn).mp h _ h1 h2) h3
    · exact h
section CGame
variable {l : Launch} {G : Gx} {γ μ σ : Mu}
theorem WalkAt.o {u : Int} (h : WalkAt G γ u) : shO G u 6 16 := h.1
theorem c_winningMove (hl : l.stackTraces = false) (d : Nat) {x w p s : Int} {win : Int → Int} (hH : HallAt G γ x w p) (hD : WirS μ w σ) (hW : Wf σ) (h12 : σ 0 0 ≤ 12) (hs : 0 ≤ s ∧ s < 2 ^ (σ 0 0).toNat) (hsc : ∀ j, 0 ≤ j → j < σ 0 0 → μ (x + 516) j = gst σ s 0 j) (hw : ∀ t, s < t → t < 2 ^ (σ 0 0).toNat → μ (x + 506) t = win t) : Cn l G yX8_winningMove cX8_winningMove 6 (some .int) d 0 [aR x, aI s, aR (x + 506)] γ μ (PI (fs (gmP σ win s) (σ 0 0) 0) γ μ) := by
  refine Cn.ofP hl (plainFor_of_name (by decide)) (noLc nlR (noLc nlI (noL1 nlR))) rfl (fun P hP o1 o3 X hX hC => B_X8_winningMove_0 hC hH.o ?_)
  have hn := hW.1
  have hE := pw_mono (q := 2) (by decide) (show (σ 0 0).toNat ≤ 12 by omega)
  rw [show (2 : Int) ^ 12 = 4096 by decide] at hE
  have s506 : shO G (x + 506) 11 20000 := by have := hH.wk.2.2.1; rw [show x + 505 + 1 = x + 506 by omega] at this; exact this
  have loop := rem_ind (n := σ 0 0) (P := fun i => fs (gmP σ win s) (σ 0 0) i = fs (gmP σ win s) (σ 0 0) 0 → V X G (Qm X G 0 P) 0 2 [aR x, aI s, aR (x + 506), aI i, aD, aD] [] γ μ) (fun i i0 i1 ih hi => ?_)
  · exact loop 0 (by omega) (by omega) rfl
  · refine B_X8_winningMove_2 hC hH.o ?_
    rw [hH.g1, hH.g16, hD.1, hH.wr.2.2.2.1]
    refine ⟨hH.wr.o, fun h => ⟨Nat.le_refl _, hP _ _ _ ⟨by rw [← hi, fs_ge h], rfl, rfl⟩⟩, fun h => ?_⟩
    have hlt : i < σ 0 0 := by omega
    obtain ⟨b1, b2, b3⟩ := bits_ok (s := s) (b := i) (by omega) (by omega)
    have hp2 := p2_b (b := i) (n := σ 0 0) ⟨i0, hlt⟩ h12
    have cont : gmP σ win s i = 0 → iR (i + 1) ∧ V X G (Qm X G 0 P) 0 2 [aR x, aI s, aR (x + 506), aI (i + 1), aD, aD] [] γ μ := fun z => ⟨by constructor <;> omega, ih hlt (by rw [← hi]; exact (fs_1 (f := gmP σ win s) hlt z).symm)⟩
    have no : mpF σ s i = 0 → V X G (Qm X G 0 P) 0 51 [aR x, aI s, aR (x + 506), aI i, aI (o_shl 1 i), aD] [aI 0] γ μ := fun z => B_X8_winningMove_51 hC hH.o ⟨fun _ => cont (by unfold gmP; rw [if_pos z]), fun z => absurd rfl z⟩
    have hb01 := bitI_01 s i
    rw [b3, hD.2.2.2.2.2 i i0 hlt, hsc i i0 hlt, gst_set hW]
    have z0 : bitI s i * 2 ^ i.toNat = 0 ↔ bitI s i = 0 := by
      rcases hb01 with e | e
      · rw [e, Int.zero_mul]
      · rw [e, Int.one_mul]
        omega
    refine ⟨fun h1 => no ?_, fun h1 => ⟨ixO hH.wr.2.2.2.2.1 (by omega), fun h2 => no ?_, fun h2 => ⟨ixO hH.s516 (by omega), fun h3 => no ?_, fun h3 => ?_⟩⟩⟩
    · have : bitI s i = 1 := by have := fun z => h1 (z0.mpr z); omega
      unfold mpF
      rw [if_pos this]
      split <;> rfl
    · unfold mpF
      rw [if_pos h2]
    · unfold mpF
      rw [if_pos h3]
      split
      · rfl
      · split <;> rfl
    · have hb0 := z0.mp h1
      have hm : mpF σ s i ≠ 0 := by
        unfold mpF
        rw [if_neg (fun z => z h2), if_neg (by omega), if_neg h3]
        decide
      have hadd := bit_add hs ⟨i0, hlt⟩ hb0
      refine B_X8_winningMove_51 hC hH.o ⟨fun z => absurd z (by decide), fun _ => ?_⟩
      rw [b2, if_neg (by omega), hw _ (by omega) hadd]
      refine ⟨ixO s506 (by omega), fun h4 => cont ?_, fun h4 => ⟨Nat.le_refl _, hP _ _ _ ⟨?_, rfl, rfl⟩⟩⟩
      · unfold gmP
        rw [if_neg hm, if_neg h4]
      · rw [← hi, fs_2 (f := gmP σ win s) hlt (by unfold gmP; rw [if_neg hm, if_pos h4]; decide)]
theorem c_stepToLesser (hl : l.stackTraces = false) (d : Nat) (hd : 1 < d) {x w p s : Int} (hH : HallAt G γ x w p) (hD : WirS μ w σ) (hW : Wf σ) (h12 : σ 0 0 ≤ 12) (hs : 0 ≤ s ∧ s < 2 ^ (σ 0 0).toNat) (hsc : ∀ j, 0 ≤ j → j < σ 0 0 → μ (x + 516) j = gst σ s 0 j) : Cn l G yX8_stepToLesserSet cX8_stepToLesserSet 3 none d 0 [aR x, aI s] γ μ (fun r γ' μ' => r = none ∧ γ' = γ ∧ (0 < s → ∀ j, 0 ≤ j → j < σ 0 0 → μ' (x + 516) j = gst σ (s - 1) 0 j) ∧ ∀ y j, y ≠ x + 516 → μ' y j = μ y j) := by
  refine Cn.ofP hl (plainFor_of_name (by decide)) (noLc nlR (noL1 nlI)) rfl (fun P hP o1 o3 X hX hC => B_X8_stepToLesserSet_0 hC hH.o ?_)
  have hn := hW.1
  have hq := hW.2.1.b
  have hwb := hH.wb
  have hE := pw_mono (q := 2) (by decide) (show (σ 0 0).toNat ≤ 12 by omega)
  rw [show (2 : Int) ^ 12 = 4096 by decide] at hE
  have loop := rem_ind (n := σ 0 0) (P := fun i => ∀ m : Mu, (∀ c, 0 ≤ c → c < i → bitI s c = 0) → (∀ y j, y ≠ x + 516 → m y j = μ y j) → (∀ j, 0 ≤ j → j < σ 0 0 → m (x + 516) j = gst σ s i j) → V X G (Qm X G 0 P) 0 2 [aR x, aI s, aI i] [] γ m) (fun i i0 i1 ih m hz fm ms => ?_)
  · exact loop 0 (by omega) (by omega) μ (fun c z1 z2 => by omega) (fun _ _ _ => rfl) hsc
  · have mD : WirS m w σ := hD.fr2 (fun y j z1 z2 => fm y j (by omega))
    refine B_X8_stepToLesserSet_2 hC hH.o ?_
    rw [hH.g1, hH.g16, mD.1, mD.2.1]
    refine ⟨hH.wr.o, fun h => ⟨Nat.le_refl _, hP _ _ _ ⟨rfl, rfl, fun h0 => ?_, fm⟩⟩, fun h => ?_⟩
    · obtain rfl : i = σ 0 0 := by omega
      obtain ⟨t, ht⟩ := bit_low (s := s) (σ 0 0).toNat (fun c hc => hz c (by omega) (by omega))
      have hp := pw_pos (q := 2) (by decide) (σ 0 0).toNat
      have : t ≤ 0 ∨ 1 ≤ t := by omega
      rcases this with w | w
      · have : 2 ^ (σ 0 0).toNat * t ≤ 2 ^ (σ 0 0).toNat * 0 := Int.mul_le_mul_of_nonneg_left w (by omega)
        omega
      · have : 2 ^ (σ 0 0).toNat * 1 ≤ 2 ^ (σ 0 0).toNat * t := Int.mul_le_mul_of_nonneg_left w (by omega)
        omega
    · have hlt : i < σ 0 0 := by omega
      obtain ⟨b1, b2, b3⟩ := bits_ok (s := s) (b := i) (by omega) (by omega)
      have hp2 := p2_b (b := i) (n := σ 0 0) ⟨i0, hlt⟩ h12
      have hb01 := bitI_01 s i
      rw [b3]
      refine ⟨fun h1 => ⟨1, 0, _, hd, Nat.le_refl _, hX ▸ c_step hl 1 (by omega) hH.wr mD hH.s516 (by omega) ⟨i0, hlt⟩ (by omega) ms (gst_in hW), PV.use ?_⟩, fun h1 => ⟨by constructor <;> omega, 1, 0, _, hd, Nat.le_refl _, hX ▸ c_step hl 1 (by omega) hH.wr mD hH.s516 (by omega) ⟨i0, hlt⟩ (by omega) ms (gst_in hW), PV.use ?_⟩⟩
      · have hb0 : bitI s i = 0 := by
          rcases hb01 with e | e
          · exact e
          · rw [e, Int.one_mul] at h1; omega
        refine B_X8_stepToLesserSet_56 hC hH.o ⟨by constructor <;> omega, ih hlt _ (fun c z1 z2 => ?_) (fun y j z => by rw [row_off z]; exact fm y j z) (fun j z1 z2 => by rw [row_in ⟨z1, z2⟩, gst_step ⟨i0, hlt⟩])⟩
        by_cases e : c = i
        · rw [e]; exact hb0
        · exact hz c z1 (by omega)
      · have hb1 : bitI s i = 1 := by
          rcases hb01 with e | e
          · exact absurd (by rw [e, Int.zero_mul]) h1
          · exact e
        exact B_X8_stepToLesserSet_42 hC ⟨Nat.le_refl _, hP _ _ _ ⟨rfl, rfl, fun _ j z1 z2 => by rw [row_in ⟨z1, z2⟩, gst_less hW ⟨i0, hlt⟩ hz hb1], fun y j z => by rw [row_off z]; exact fm y j z⟩⟩
theorem c_game (hl : l.stackTraces = false) (d : Nat) (hd : 2 < d) {x w p : Int} (hH : HallAt G γ x w p) (hR : RepC μ x w σ) (hW : Wf σ) : Cn l G yX8_game cX8_game 6 (some .int) d 0 [aR x] γ μ (PC μ γ x w σ (gamF σ)) := by
  refine Cn.ofP hl (plainFor_of_name (by decide)) (noL1 nlR) rfl (fun P hP o1 o3 X hX hC => B_X8_game_0 hC hH.o ?_)
  have hn := hW.1
  have hq := hW.2.1.b
  have hwb := hH.wb
  have g506 : γ (x + 505) 0 = x + 506 := by have := hH.wk.2.1; rw [show x + 505 + 1 = x + 506 by omega] at this; exact this
  have s506 : shO G (x + 506) 11 20000 := by have := hH.wk.2.2.1; rw [show x + 505 + 1 = x + 506 by omega] at this; exact this
  rw [hH.g1, hH.g14, hH.g4, hH.g16, hR.2.1.1.1, g506]
  unfold gamF at hP
  refine ⟨hH.wr.o, fun h12 => ?_, fun h12 => ⟨Nat.le_refl _, hP _ _ _ ⟨by rw [if_pos (by omega)], rfl, hR, frC_rf⟩⟩⟩
  simp only [if_neg (show ¬ 12 < σ 0 0 by omega)] at hP
  rw [shl_ok ⟨hn.1, h12⟩]
  have hE1 := pw_pos (q := 2) (by decide) (σ 0 0).toNat
  have hE2 := pw_mono (q := 2) (by decide) (show (σ 0 0).toNat ≤ 12 by omega)
  rw [show (2 : Int) ^ 12 = 4096 by decide] at hE2
  refine ⟨hH.wk.o, by constructor <;> omega, cpyI hH.s473 hH.s516, by omega, ?_⟩
  have ewT : ∀ k : Nat, winT σ (k + 1) = fup (winT σ k) (2 ^ (σ 0 0).toNat - 1 - k) (anyI (gmP σ (winT σ k) (2 ^ (σ 0 0).toNat - 1 - k)) (σ 0 0)) := fun k => rfl
  have eN : ((2 : Nat) ^ (σ 0 0).toNat : Nat) = ((2 : Int) ^ (σ 0 0).toNat).toNat := by
    have : (((2 : Nat) ^ (σ 0 0).toNat : Nat) : Int) = (2 : Int) ^ (σ 0 0).toNat := by rw [Int.natCast_pow]; rfl
    omega
  rw [eN] at hP
  have FR : ∀ m : Mu, (∀ y j, y ≠ x + 506 → y ≠ x + 516 → m y j = up μ x 18 0 y j) → RepC m x w σ ∧ frB μ m x (x + 518) := fun m fm => ⟨hR.lt2 hwb (fun y j z1 z2 z3 => by rw [fm y j (by omega) (by omega), up_ne (by omega)]) ⟨fun z => absurd (by rw [fm _ _ (by omega) (by omega), up_same]) z, fun z => by
      rw [fm _ _ (by omega) (by omega), up_ne (by omega)] at z
      rw [fm _ _ (by omega) (by omega), fm _ _ (by omega) (by omega), up_ne (by omega), up_ne (by omega)]
      exact hR.2.2.2.2.2.2.2.2 z⟩, fun y j z => by rw [fm y j (by omega) (by omega), up_ne (by omega)]⟩
  have outer : ∀ (c k : Nat) (m : Mu) (mv : Int), k + c = ((2 : Int) ^ (σ 0 0).toNat).toNat → (∀ y j, y ≠ x + 506 → y ≠ x + 516 → m y j = up μ x 18 0 y j) → (∀ t : Int, 2 ^ (σ 0 0).toNat - 1 - (k : Int) < t → t < 2 ^ (σ 0 0).toNat → m (x + 506) t = winT σ k t) → (c ≠ 0 → ∀ j, 0 ≤ j → j < σ 0 0 → m (x + 516) j = gst σ (2 ^ (σ 0 0).toNat - 1 - k) 0 j) → (∀ k' : Nat, k = k' + 1 → mv = fs (gmP σ (winT σ k') (2 ^ (σ 0 0).toNat - 1 - k')) (σ 0 0) 0) → V X G (Qm X G 0 P) 0 86 [aR x, aD, aR (x + 506), aD, aI mv, aI (2 ^ (σ 0 0).toNat - 1 - k)] [] γ m := by
    intro c
    induction c with
    | zero =>
      intro k m mv hk fm hw hsc hmv
      obtain ⟨R2, f2⟩ := FR m fm
      refine B_X8_game_86 hC hH.o ⟨fun _ => ⟨Nat.le_refl _, hP _ _ _ ⟨?_, rfl, R2, f2⟩⟩, fun z => absurd (by omega) z⟩
      obtain ⟨k', rfl⟩ : ∃ k', k = k' + 1 := ⟨k - 1, by omega⟩
      rw [hmv k' rfl, show ((2 : Int) ^ (σ 0 0).toNat).toNat - 1 = k' by omega, show (2 : Int) ^ (σ 0 0).toNat - 1 - (k' : Int) = 0 by omega]
    | succ c ih =>
      intro k m mv hk fm hw hsc hmv
      obtain ⟨R2, f2⟩ := FR m fm
      generalize hsv : (2 : Int) ^ (σ 0 0).toNat - 1 - (k : Int) = s at *
      have hs : 0 ≤ s ∧ s < 2 ^ (σ 0 0).toNat := by omega
      refine B_X8_game_86 hC hH.o ⟨fun z => absurd z (by omega), fun _ => ⟨0, 0, _, by omega, Nat.le_refl _, hX ▸ c_winningMove hl 0 hH R2.2.1.1 hW h12 hs (hsc (by omega)) hw, PI.use ?_⟩⟩
      have nxt : ∀ z, z = anyI (gmP σ (winT σ k) s) (σ 0 0) → ∃ d9 k9 P9, d9 < d ∧ 0 + 0 + k9 ≤ 0 ∧ Cn X.l G yX8_stepToLesserSet cX8_stepToLesserSet 3 none d9 k9 [aR x, aI s] γ (up m (x + 506) s z) P9 ∧ ∀ r9 γ9 μ9, P9 r9 γ9 μ9 → V X G (Qm X G 0 P) (0 + 0 + k9) 121 [aR x, aD, aR (x + 506), aD, aI (fs (gmP σ (winT σ k) s) (σ 0 0) 0), aI s] (r9.toList ++ []) γ9 μ9 := fun z hz => by
        refine ⟨2, 0, _, hd, Nat.le_refl _, hX ▸ c_stepToLesser hl 2 (by omega) hH (R2.2.1.1.fr2 (fun y j z1 z2 => up_ne (by omega))) hW h12 hs (fun j z1 z2 => by rw [up_ne (by omega)]; exact hsc (by omega) j z1 z2), ?_⟩
        rintro r γ m2 ⟨rfl, rfl, b1, b2⟩
        refine B_X8_game_121 hC hH.o ⟨by constructor <;> omega, ?_⟩
        have := ih (k + 1) m2 (fs (gmP σ (winT σ k) s) (σ 0 0) 0) (by omega) (fun y j z1 z2 => by rw [b2 y j z2, up_ne (by omega)]; exact fm y j z1 z2) (fun t z1 z2 => ?_) (fun z j z1 z2 => ?_) (fun k' e => ?_)
        · rw [show (2 : Int) ^ (σ 0 0).toNat - 1 - ((k + 1 : Nat) : Int) = s + -1 by omega] at this
          exact this
        · rw [b2 _ _ (by omega), ewT, hsv]
          by_cases e : t = s
          · rw [e, up_same, fup_s, hz]
          · rw [up_ne (by omega), fup_n e]
            exact hw t (by omega) z2
        · rw [b1 (by omega) j z1 z2]
          congr 1
          omega
        · obtain rfl : k' = k := by omega
          rw [hsv]
      refine B_X8_game_98 hC hH.o ⟨fun h => ⟨ixO s506 (by omega), nxt 1 ?_⟩, fun h => ⟨ixO s506 (by omega), nxt 0 ?_⟩⟩
      · rw [anyI_fs hn.1, if_neg h]
      · rw [anyI_fs hn.1, if_pos h]
  have first := rem_ind (n := σ 0 0) (P := fun i => ∀ m : Mu, (∀ y j, y ≠ x + 506 → y ≠ x + 516 → m y j = up μ x 18 0 y j) → (∀ j, 0 ≤ j → j < σ 0 0 → m (x + 516) j = gst σ 0 i j) → V X G (Qm X G 0 P) 0 54 [aR x, aI (σ 0 0), aR (x + 506), aI (2 ^ (σ 0 0).toNat - 1), aI i, aD] [] γ m) (fun i i0 i1 ih m fm ms => ?_)
  · refine first 0 (by omega) (by omega) _ (fun y j z1 z2 => cpy_off z2) (fun j z1 z2 => ?_)
    rw [cpy_in ⟨z1, by omega⟩, up_ne (by omega), (hR.2.2.1 j z1 (by omega)).1, gst_00 hW z1 z2]
  · obtain ⟨R2, f2⟩ := FR m fm
    refine B_X8_game_54 hC hH.o ?_
    rw [hH.g1, hH.g16]
    refine ⟨fun h => ?_, fun h => ⟨hH.wr.o, 2, 0, _, hd, Nat.le_refl _, hX ▸ c_step hl 2 (by omega) hH.wr R2.2.1.1 hH.s516 (by omega) ⟨i0, by omega⟩ (by omega) ms (gst_in hW), PV.use ?_⟩⟩
    · obtain rfl : i = σ 0 0 := by omega
      have := outer ((2 : Int) ^ (σ 0 0).toNat).toNat 0 m (-1) (by omega) fm (fun t z1 z2 => by omega) (fun _ j z1 z2 => by rw [ms j z1 z2, gst_full hW]; congr 1; omega) (fun k' e => by omega)
      rw [show (2 : Int) ^ (σ 0 0).toNat - 1 - ((0 : Nat) : Int) = 2 ^ (σ 0 0).toNat - 1 by omega] at this
      exact this
    · refine B_X8_game_74 hC hH.o ⟨by constructor <;> omega, ih (by omega) _ (fun y j z1 z2 => by rw [row_off z2]; exact fm y j z1 z2) (fun j z1 z2 => by rw [row_in ⟨z1, z2⟩, gst_step ⟨i0, by omega⟩])⟩
end CGame
