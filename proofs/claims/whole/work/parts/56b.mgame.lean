/-! the reference: mayPress, game -/
def setS (σ : Mu) (s x i : Int) : Int := foldI (fun v c => if bitI s c = 1 then v + sA σ c x else v) (σ 3 x) i
def mpF (σ : Mu) (s x : Int) : Int := if σ 2 x ≠ 0 then 0 else if bitI s x = 1 then 0 else if setS σ s x (σ 0 0) % σ 0 1 = 0 then 0 else 1
/-- a press of b leaves a lost game to the other -/
def gmP (σ : Mu) (w : Int → Int) (s : Int) : Int → Int := fun b => if mpF σ s b = 0 then 0 else if w (s + 2 ^ b.toNat) = 0 then 1 else 0
/-- who wins: the k greatest sets gone through -/
def winT (σ : Mu) : Nat → Int → Int
  | 0 => fun _ => 0
  | k + 1 => fup (winT σ k) (2 ^ (σ 0 0).toNat - 1 - k) (anyI (gmP σ (winT σ k) (2 ^ (σ 0 0).toNat - 1 - k)) (σ 0 0))
def gamF (σ : Mu) : Int := if 12 < σ 0 0 then -2 else fs (gmP σ (winT σ ((2 : Nat) ^ (σ 0 0).toNat - 1)) 0) (σ 0 0) 0
theorem setS_b {σ : Mu} (hW : Wf σ) {s x : Int} (hx : isL σ x) : ∀ i, 0 ≤ i → i ≤ σ 0 0 → 0 ≤ setS σ s x i ∧ setS σ s x i ≤ 4 + 4 * i := by
  have hn := hW.1
  have hq := hW.2.1.b
  have h3 := (hW.st x hx.1 (by have := hx.2; omega)).1
  refine foldI_ind (P := fun i v => 0 ≤ v ∧ v ≤ 4 + 4 * i) (by omega) (fun i v h0 h1 hv => ?_)
  have := hW.am i h0 h1 x hx.1 hx.2
  split <;> omega
section MGame
variable {l : Launch} {G : Gx} {γ μ σ : Mu}
theorem m_mayPress (hl : l.stackTraces = false) (d : Nat) {b s x : Int} (hS : ModS G b) (hG : ModG γ b) (hR : RepR μ b σ) (hW : Wf σ) (hx : isL σ x) (h12 : σ 0 0 ≤ 12) (hs : 0 ≤ s ∧ s < 4096) : Cn l G yX9_mayPress cX9_mayPress 5 (some .boolean) d 0 [aR b, aI s, aI x] γ μ (PI (mpF σ s x) γ μ) := by
  refine Cn.ofP hl (plainFor_of_name (by decide)) (noLc nlR (noLc nlI (noL1 nlI))) rfl (fun P hP o1 o3 X hX hC => B_X9_mayPress_0 hC hS.o ?_)
  obtain ⟨r1, r2, r3, r4, r5, r6, r7, r8, r9, r10, ra1, ra2, ra3, ra4, -⟩ := id hR
  have hn := hW.1
  have hq := hW.2.1.b
  have s1 := ms1 hS; have s2 := ms2 hS; have s3 := ms3 hS
  have fin : ∀ z, z = mpF σ s x → P (some (aI z)) γ μ := fun z hz => hP _ _ _ ⟨by rw [hz], rfl, rfl⟩
  unfold mpF at fin
  have loop := rem_ind (n := σ 0 0) (P := fun i => σ 2 x = 0 → ¬ bitI s x = 1 → V X G (Qm X G 0 P) 0 30 [aR b, aI s, aI x, aI (setS σ s x i), aI i] [] γ μ) (fun i h0 h1 ih hj hb => ?_)
  · rw [(bits_ok hs (show 0 ≤ x ∧ x < 12 by omega)).1]
    simp (disch := first | assumption | omega) only [row_off, row_in, row_out, up_same, up_ne, cpy_off, rwo_off, rwo_at, rwo_out, mg6, mg7, mg8, mg9, mg10, mg12, mg30, mg31, mg32, mg33, mg35, mg36, mg37, mg38, mg39, mg43, mg44, mg45, mg46, mg47, mg48, mg49, mg50, mg53, mg54, mg55, mg56, mg57, mg58, mg59, mg60, mg65, mg66, mg67, mg68, mg69, mg70, mg71, mg72, ra2 x hx.1 (by omega), ra3 x hx.1 (by omega)]
    (repeat' (first | (with_reducible exact ixO (by assumption) (by omega)) | with_reducible apply And.intro | with_reducible intro)) <;> (try first | omega | (with_reducible apply Nat.le_refl) | rfl | exact absurd trivial (by assumption))
    · rename_i h
      exact fin _ (by rw [if_pos h])
    · rename_i h h2
      exact loop 0 (by omega) (by omega) h h2
    · rename_i h h2
      exact fin _ (by rw [if_neg (fun w => w h), if_pos h2])
  · have hsb := setS_b hW (s := s) hx i h0 h1
    refine B_X9_mayPress_30 hC hS.o ?_
    rcases Int.lt_or_le i (σ 0 0) with hi | hi
    · have hih := ih hi hj hb
      have es : setS σ s x (i + 1) = if bitI s i = 1 then setS σ s x i + sA σ i x else setS σ s x i := foldI_s h0
      have e1 : μ (b + 1) (36 * i + x) = sA σ i x := ra1 _ (by omega) (by omega)
      have ha := hW.am i h0 hi x hx.1 hx.2
      rw [es] at hih
      rw [(bits_ok hs (show 0 ≤ i ∧ i < 12 by omega)).1]
      simp (disch := first | assumption | omega) only [row_off, row_in, row_out, up_same, up_ne, cpy_off, rwo_off, rwo_at, rwo_out, mg6, mg7, mg8, mg9, mg10, mg12, mg30, mg31, mg32, mg33, mg35, mg36, mg37, mg38, mg39, mg43, mg44, mg45, mg46, mg47, mg48, mg49, mg50, mg53, mg54, mg55, mg56, mg57, mg58, mg59, mg60, mg65, mg66, mg67, mg68, mg69, mg70, mg71, mg72, r1, e1]
      (repeat' (first | (with_reducible exact ixO (by assumption) (by omega)) | with_reducible apply And.intro | with_reducible intro)) <;> (try first | omega | (with_reducible apply Nat.le_refl) | rfl | exact absurd trivial (by assumption))
      · rename_i h
        rw [if_neg h] at hih
        rw [Int.add_zero]
        exact hih
      · rename_i h
        rw [if_pos h] at hih
        exact hih
    · obtain rfl : i = σ 0 0 := by omega
      have e : (setS σ s x (σ 0 0)).tmod (σ 0 1) = setS σ s x (σ 0 0) % σ 0 1 := Int.tmod_eq_emod_of_nonneg hsb.1
      simp (disch := first | assumption | omega) only [row_off, row_in, row_out, up_same, up_ne, cpy_off, rwo_off, rwo_at, rwo_out, mg6, mg7, mg8, mg9, mg10, mg12, mg30, mg31, mg32, mg33, mg35, mg36, mg37, mg38, mg39, mg43, mg44, mg45, mg46, mg47, mg48, mg49, mg50, mg53, mg54, mg55, mg56, mg57, mg58, mg59, mg60, mg65, mg66, mg67, mg68, mg69, mg70, mg71, mg72, r1, r2, e]
      (repeat' (first | (with_reducible exact ixO (by assumption) (by omega)) | with_reducible apply And.intro | with_reducible intro)) <;> (try first | omega | (with_reducible apply Nat.le_refl) | rfl | exact absurd trivial (by assumption))
      · rename_i h
        exact fin _ (by rw [if_neg (fun w => w hj), if_neg hb, if_pos h])
      · rename_i h
        exact fin _ (by rw [if_neg (fun w => w hj), if_neg hb, if_neg h])
theorem m_game (hl : l.stackTraces = false) (d : Nat) (hd : 0 < d) {b : Int} (hS : ModS G b) (hG : ModG γ b) (hR : RepR μ b σ) (hW : Wf σ) : Cn l G yX9_game cX9_game 3 (some .int) d 0 [aR b] γ μ (PR μ γ b σ (gamF σ) 0) := by
  refine Cn.ofP hl (plainFor_of_name (by decide)) (noL1 nlR) rfl (fun P hP o1 o3 X hX hC => B_X9_game_0 hC hS.o ?_)
  have hn := hW.1
  have hq := hW.2.1.b
  have s36 := ms36 hS
  rw [hR.1]
  unfold gamF at hP
  refine ⟨fun h12 => ?_, fun h12 => ⟨Nat.le_refl _, hP _ _ _ ⟨by rw [if_pos (by omega)], rfl, up_same, hR.t hW, frB_up frB_rf (by omega)⟩⟩⟩
  simp only [if_neg (show ¬ 12 < σ 0 0 by omega)] at hP
  have mR := hR.t (z := 0) hW
  have m0 : up μ b 0 0 b 0 = 0 := up_same
  have mf : frB μ (up μ b 0 0) b (b + 40) := frB_up frB_rf (by omega)
  generalize up μ b 0 0 = m at *
  rw [shl_ok ⟨hn.1, h12⟩]
  have hE1 := pw_pos (q := 2) (by decide) (σ 0 0).toNat
  have hE2 := pw_mono (q := 2) (by decide) (show (σ 0 0).toNat ≤ 12 by omega)
  rw [show (2 : Int) ^ 12 = 4096 by decide] at hE2
  have hpb : ∀ x, isL σ x → 1 ≤ (2 : Int) ^ x.toNat ∧ (2 : Int) ^ x.toNat < 2 ^ (σ 0 0).toNat := fun x hx => ⟨(p2_b hx h12).1, (p2_b hx h12).2.1⟩
  have hba : ∀ s x, isL σ x → 0 ≤ s ∧ s < 2 ^ (σ 0 0).toNat → bitI s x = 0 → s + 2 ^ x.toNat < 2 ^ (σ 0 0).toNat := fun s x hx hs h0 => bit_add hs hx h0
  have ewT : ∀ k : Nat, winT σ (k + 1) = fup (winT σ k) (2 ^ (σ 0 0).toNat - 1 - k) (anyI (gmP σ (winT σ k) (2 ^ (σ 0 0).toNat - 1 - k)) (σ 0 0)) := fun k => rfl
  have eE : (((2 : Int) ^ (σ 0 0).toNat).toNat : Int) = 2 ^ (σ 0 0).toNat := by omega
  have eN : ((2 : Nat) ^ (σ 0 0).toNat : Nat) = ((2 : Int) ^ (σ 0 0).toNat).toNat := by
    have : (((2 : Nat) ^ (σ 0 0).toNat : Nat) : Int) = (2 : Int) ^ (σ 0 0).toNat := by rw [Int.natCast_pow]; rfl
    omega
  rw [eN] at hP
  generalize (2 : Int) ^ (σ 0 0).toNat = E at *
  have fr : ∀ m2 : Mu, (∀ y j, y ≠ b + 36 → m2 y j = m y j) → RepR m2 b σ ∧ m2 b 0 = 0 ∧ frB μ m2 b (b + 40) := fun m2 fm => ⟨mR.fr hW (fun y j h => fm y j (by unfold keepR at h; omega)), by rw [fm _ _ (by omega)]; exact m0, mf.t (fun y j h => fm y j (by omega))⟩
  have last : ∀ m2 : Mu, (∀ y j, y ≠ b + 36 → m2 y j = m y j) → (∀ t, 0 < t → t < E → m2 (b + 36) t = winT σ (E.toNat - 1) t) → V X G (Qm X G 0 P) 0 90 [aR b, aI 0, aD] [] γ m2 := fun m2 f2 hw => by
    obtain ⟨m2R, m20, m2f⟩ := fr m2 f2
    have loop := rem_ind (n := σ 0 0) (P := fun i => fs (gmP σ (winT σ (E.toNat - 1)) 0) (σ 0 0) i = fs (gmP σ (winT σ (E.toNat - 1)) 0) (σ 0 0) 0 → V X G (Qm X G 0 P) 0 90 [aR b, aI i, aD] [] γ m2) (fun i h0 h1 ih hi => ?_)
    · exact loop 0 (by omega) (by omega) rfl
    · refine B_X9_game_90 hC hS.o ?_
      rw [m2R.1]
      rcases Int.lt_or_le i (σ 0 0) with hin | hin
      · refine ⟨fun w => absurd w (by omega), fun _ => ?_⟩
        refine ⟨0, 0, _, hd, Nat.le_refl _, hX ▸ m_mayPress hl 0 hS hG m2R hW ⟨h0, hin⟩ h12 (by omega), PI.use ?_⟩
        have hp := hpb i ⟨h0, hin⟩
        refine B_X9_game_104 hC hS.o ?_
        rw [shl_ok ⟨h0, by omega⟩, mg69 hG, hw _ (by omega) hp.2]
        have eg : gmP σ (winT σ (E.toNat - 1)) 0 i = if mpF σ 0 i = 0 then 0 else if winT σ (E.toNat - 1) (2 ^ i.toNat) = 0 then 1 else 0 := by unfold gmP; rw [Int.zero_add]
        refine ⟨fun h => ⟨by constructor <;> omega, ih hin ?_⟩, fun h => ⟨ixO s36 (by omega), fun h2 => ⟨by constructor <;> omega, ih hin ?_⟩, fun h2 => ⟨Nat.le_refl _, hP _ _ _ ⟨?_, rfl, m20, m2R, m2f⟩⟩⟩⟩
        · rw [← hi, fs_1 hin (by rw [eg, if_pos h])]
        · rw [← hi, fs_1 hin (by rw [eg, if_neg h, if_neg h2])]
        · rw [← hi, fs_2 hin (by rw [eg, if_neg h, if_pos h2]; decide)]
      · exact ⟨fun _ => ⟨Nat.le_refl _, hP _ _ _ ⟨by rw [← hi, fs_ge (by omega)], rfl, m20, m2R, m2f⟩⟩, fun w => absurd hin w⟩
  have outer : ∀ (c k : Nat) (m2 : Mu), k + c = E.toNat → (∀ y j, y ≠ b + 36 → m2 y j = m y j) → (∀ t, E - 1 - k < t → t < E → m2 (b + 36) t = winT σ k t) → V X G (Qm X G 0 P) 0 26 [aR b, aI (E - 1 - k), aD] [] γ m2 := by
    intro c
    induction c with
    | zero =>
      intro k m2 hk f2 hw
      refine B_X9_game_26 hC hS.o ⟨fun _ => last m2 f2 (fun t z1 z2 => ?_), fun w => absurd (by omega) w⟩
      rw [hw t (by omega) z2]
      obtain ⟨k', rfl⟩ : ∃ k', k = k' + 1 := ⟨k - 1, by omega⟩
      rw [ewT, fup_n (by omega), show E.toNat - 1 = k' by omega]
    | succ c ih =>
      intro k m2 hk f2 hw
      generalize hsv : E - 1 - (k : Int) = s at *
      have hs : 0 ≤ s ∧ s < E := by omega
      refine B_X9_game_26 hC hS.o ⟨fun w => absurd w (by omega), fun _ => ?_⟩
      rw [mg69 hG]
      refine ⟨ixO s36 (by omega), ?_⟩
      have inner := rem_ind (n := σ 0 0) (P := fun i => ∀ m3 : Mu, (∀ y j, y ≠ b + 36 → m3 y j = m y j) → (∀ t, s < t → t < E → m3 (b + 36) t = winT σ k t) → m3 (b + 36) s = anyI (gmP σ (winT σ k) s) i → V X G (Qm X G 0 P) 0 39 [aR b, aI s, aI i] [] γ m3) (fun i h0 h1 ihi m3 f3 w3 e3 => ?_)
      · exact inner 0 (by omega) (by omega) _ (fun y j h => by rw [up_ne (by omega), f2 y j h]) (fun t z1 z2 => by rw [up_ne (by omega)]; exact hw t z1 z2) (by rw [up_same]; rfl)
      · obtain ⟨m3R, m30, m3f⟩ := fr m3 f3
        refine B_X9_game_39 hC hS.o ?_
        rw [m3R.1]
        rcases Int.lt_or_le i (σ 0 0) with hin | hin
        · refine ⟨fun w => absurd w (by omega), fun _ => ?_⟩
          refine ⟨0, 0, _, hd, Nat.le_refl _, hX ▸ m_mayPress hl 0 hS hG m3R hW ⟨h0, hin⟩ h12 (by omega), PI.use ?_⟩
          have ea : anyI (gmP σ (winT σ k) s) (i + 1) = if anyI (gmP σ (winT σ k) s) i = 0 then (if gmP σ (winT σ k) s i = 0 then 0 else 1) else 1 := foldI_s h0
          have h01 := anyI_01 (gmP σ (winT σ k) s) i
          have same : gmP σ (winT σ k) s i = 0 → anyI (gmP σ (winT σ k) s) (i + 1) = anyI (gmP σ (winT σ k) s) i := fun h => by
            rw [ea]
            rcases h01 with w | w
            · rw [if_pos w, if_pos h, w]
            · rw [if_neg (by omega), w]
          refine B_X9_game_53 hC hS.o ⟨fun h => ⟨by constructor <;> omega, ihi hin m3 f3 w3 (by rw [same (by unfold gmP; rw [if_pos h])]; exact e3)⟩, fun h => ?_⟩
          have hb0 : bitI s i = 0 := by
            rcases bitI_01 s i with w | w
            · exact w
            · exact absurd (by unfold mpF; simp [w]) h
          have hba' := hba s i ⟨h0, hin⟩ hs hb0
          have hp := hpb i ⟨h0, hin⟩
          rw [mg69 hG, (bits_ok (s := s) (by omega) (show 0 ≤ i ∧ i < 12 by omega)).2.1, if_neg (by omega), w3 _ (by omega) hba']
          refine ⟨ixO s36 (by omega), fun h2 => ⟨by constructor <;> omega, ihi hin m3 f3 w3 (by rw [same (by unfold gmP; rw [if_neg h, if_neg h2])]; exact e3)⟩, fun h2 => ⟨ixO s36 (by omega), by constructor <;> omega, ?_⟩⟩
          refine ihi hin _ (fun y j h => by rw [up_ne (by omega), f3 y j h]) (fun t z1 z2 => by rw [up_ne (by omega)]; exact w3 t z1 z2) ?_
          rw [up_same, ea]
          split
          · rw [if_neg (show ¬ gmP σ (winT σ k) s i = 0 by unfold gmP; rw [if_neg h, if_pos h2]; decide)]
          · rfl
        · obtain rfl : i = σ 0 0 := by omega
          refine ⟨fun _ => ⟨by constructor <;> omega, ?_⟩, fun w => absurd hin w⟩
          have h9 := ih (k + 1) m3 (by omega) f3 (fun t z1 z2 => ?_)
          · rw [show E - 1 - ((k + 1 : Nat) : Int) = s + -1 by omega] at h9
            exact h9
          · rw [ewT, hsv]
            by_cases e : t = s
            · rw [e, fup_s]; exact e3
            · rw [fup_n e]; exact w3 t (by omega) z2
  have h9 := outer E.toNat 0 m (by omega) (fun _ _ _ => rfl) (fun t z1 z2 => by omega)
  rw [show E - 1 - ((0 : Nat) : Int) = E - 1 by omega] at h9
  exact ⟨by constructor <;> omega, h9⟩
end MGame
