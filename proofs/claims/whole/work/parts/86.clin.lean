/-! the class: rank, bound, quiet, sum, why, times, near -/
/-- only the algebra's cells -/
def frA (μ m : Mu) (x : Int) : Prop := ∀ y j, (y < x + 158 ∨ x + 473 ≤ y) → m y j = μ y j
theorem frA.c {μ m : Mu} {x : Int} (h : frA μ m x) : frB μ m x (x + 518) := fun y j z => h y j (by omega)
theorem RepC.al2 {μ m σ : Mu} {x w : Int} (h : RepC μ x w σ) (hw : x + 4 ≤ w ∧ w ≤ x + 81) (hf : frA μ m x) (ha : AlC m (x + 158) σ) : RepC m x w σ := by
  obtain ⟨h1, h2, h3, h4, h5, h6, -, h8⟩ := h
  exact ⟨h1.fr (fun y j z1 z2 => hf y j (by omega)), h2.fr (fun y j z1 z2 => hf y j (by omega)), h3.fr (fun y j z1 z2 => hf y j (by omega)), h4.fr (fun y j z1 z2 => hf y j (by omega)), h5.fr (fun y j z1 z2 => hf y j (by omega)), h6.fr (hf _ _ (by omega)) (hf _ _ (by omega)) (fun y j z1 z2 => hf y j (by omega)), ha, h8.fr (hf _ _ (by omega)) (hf _ _ (by omega)) (fun j => hf _ _ (by omega)) (fun j => hf _ _ (by omega))⟩
/-- cells that keep nothing from call to call -/
theorem RepC.scr {μ m σ : Mu} {x w : Int} (h : RepC μ x w σ) (hw : x + 4 ≤ w ∧ w ≤ x + 81) (hf : ∀ y j, x ≤ y → (y < x + 485 ∨ y = x + 505 ∨ y = x + 511) → y ≠ x + 472 → m y j = μ y j) : RepC m x w σ := by
  obtain ⟨h1, h2, h3, h4, h5, h6, h7, h8⟩ := h
  exact ⟨h1.fr (fun y j z1 z2 => hf y j (by omega) (by omega) (by omega)), h2.fr (fun y j z1 z2 => hf y j (by omega) (by omega) (by omega)), h3.fr (fun y j z1 z2 => hf y j (by omega) (by omega) (by omega)), h4.fr (fun y j z1 z2 => hf y j (by omega) (by omega) (by omega)), h5.fr (fun y j z1 z2 => hf y j (by omega) (by omega) (by omega)), h6.fr (hf _ _ (by omega) (by omega) (by omega)) (hf _ _ (by omega) (by omega) (by omega)) (fun y j z1 z2 => hf y j (by omega) (by omega) (by omega)), h7.fr (fun y j z1 z2 => hf y j (by omega) (by omega) (by omega)), h8.fr (hf _ _ (by omega) (by omega) (by omega)) (hf _ _ (by omega) (by omega) (by omega)) (fun j => hf _ _ (by omega) (by omega) (by omega)) (fun j => hf _ _ (by omega) (by omega) (by omega))⟩
/-- a span as it is asked for -/
abbrev PSp (μ γ : Mu) (x w a : Int) (σ : Mu) (S : GS) : Option AV → Mu → Mu → Prop := fun r γ' μ' => r = some (aR a) ∧ γ' = γ ∧ RepC μ' x w σ ∧ SpS μ' a (σ 0 0) (σ 0 1) S ∧ frA μ μ' x
section CLin
variable {l : Launch} {G : Gx} {γ μ σ : Mu}
theorem c_spB (hl : l.stackTraces = false) (d : Nat) (hd : 3 < d) {x w p : Int} (hH : HallAt G γ x w p) (hR : RepC μ x w σ) : Cn l G yX0_buttonSpan cX0_buttonSpan 3 (some (.object "LampHall$Span")) d 0 [aR (x + 158), aR w] γ μ (PSp μ γ x w (x + 159) σ (SbF σ)) := by
  have hwb := hH.wb
  obtain ⟨a1, a2, a3, a4⟩ := hR.2.2.2.2.2.2.1
  refine Cn.mono (c_buttonSpan hl d hd hH.al hH.wr (by omega) hR.2.1.1 a1) ?_
  rintro r γ' m ⟨h1, h2, h3, h4, h5, h6⟩
  rw [show x + 158 + 1 = x + 159 by omega] at h1 h3
  have f : frA μ m x := fun y j z => h6 y j (by omega) (by omega)
  refine ⟨h1, h2, hR.al2 hwb f ⟨fun _ => by rw [show x + 158 + 1 = x + 159 by omega]; exact h3, fun w => ?_, fun w => ?_, fun w => ?_⟩, h3, f⟩
  · rw [h5 5 (by decide)] at w; exact (a2 w).fr (fun y j z1 z2 => h6 y j (by omega) (by omega))
  · rw [h5 6 (by decide)] at w; exact (a3 w).fr (fun y j z1 z2 => h6 y j (by omega) (by omega))
  · rw [h5 7 (by decide)] at w; rw [h5 9 (by decide)]; exact ⟨(a4 w).1, fun k z1 z2 => by rw [h6 _ _ (by omega) (by omega)]; exact (a4 w).2 k z1 z2⟩
theorem c_spL (hl : l.stackTraces = false) (d : Nat) (hd : 3 < d) {x w p : Int} (hH : HallAt G γ x w p) (hR : RepC μ x w σ) : Cn l G yX0_lampSpan cX0_lampSpan 4 (some (.object "LampHall$Span")) d 0 [aR (x + 158), aR w] γ μ (PSp μ γ x w (x + 237) σ (SlF σ)) := by
  have hwb := hH.wb
  obtain ⟨a1, a2, a3, a4⟩ := hR.2.2.2.2.2.2.1
  refine Cn.mono (c_lampSpan hl d hd hH.al hH.wr (by omega) hR.2.1.1 a2) ?_
  rintro r γ' m ⟨h1, h2, h3, h4, h5, h6⟩
  rw [show x + 158 + 79 = x + 237 by omega] at h1 h3
  have f : frA μ m x := fun y j z => h6 y j (by omega) (by omega) (by omega)
  refine ⟨h1, h2, hR.al2 hwb f ⟨fun w => ?_, fun _ => by rw [show x + 158 + 79 = x + 237 by omega]; exact h3, fun w => ?_, fun w => ?_⟩, h3, f⟩
  · rw [h5 4 (by decide)] at w; exact (a1 w).fr (fun y j z1 z2 => h6 y j (by omega) (by omega) (by omega))
  · rw [h5 6 (by decide)] at w; exact (a3 w).fr (fun y j z1 z2 => h6 y j (by omega) (by omega) (by omega))
  · rw [h5 7 (by decide)] at w; rw [h5 9 (by decide)]; exact ⟨(a4 w).1, fun k z1 z2 => by rw [h6 _ _ (by omega) (by omega) (by omega)]; exact (a4 w).2 k z1 z2⟩
theorem c_spD (hl : l.stackTraces = false) (d : Nat) (hd : 3 < d) {x w p : Int} (hH : HallAt G γ x w p) (hR : RepC μ x w σ) : Cn l G yX0_lateSpan cX0_lateSpan 3 (some (.object "LampHall$Span")) d 0 [aR (x + 158), aR w] γ μ (PSp μ γ x w (x + 315) σ (SdF σ)) := by
  have hwb := hH.wb
  obtain ⟨a1, a2, a3, a4⟩ := hR.2.2.2.2.2.2.1
  refine Cn.mono (c_lateSpan hl d hd hH.al hH.wr (by omega) hR.2.1.1 a3) ?_
  rintro r γ' m ⟨h1, h2, h3, h4, h5, h6⟩
  rw [show x + 158 + 157 = x + 315 by omega] at h1 h3
  have f : frA μ m x := fun y j z => h6 y j (by omega) (by omega)
  refine ⟨h1, h2, hR.al2 hwb f ⟨fun w => ?_, fun w => ?_, fun _ => by rw [show x + 158 + 157 = x + 315 by omega]; exact h3, fun w => ?_⟩, h3, f⟩
  · rw [h5 4 (by decide)] at w; exact (a1 w).fr (fun y j z1 z2 => h6 y j (by omega) (by omega))
  · rw [h5 5 (by decide)] at w; exact (a2 w).fr (fun y j z1 z2 => h6 y j (by omega) (by omega))
  · rw [h5 7 (by decide)] at w; rw [h5 9 (by decide)]; exact ⟨(a4 w).1, fun k z1 z2 => by rw [h6 _ _ (by omega) (by omega)]; exact (a4 w).2 k z1 z2⟩
theorem HallAt.sB {x w p : Int} (h : HallAt G γ x w p) : SpanAt G γ (x + 159) := by have := h.al.2.2.1; rw [show x + 158 + 1 = x + 159 by omega] at this; exact this
theorem HallAt.sL {x w p : Int} (h : HallAt G γ x w p) : SpanAt G γ (x + 237) := by have := h.al.2.2.2.2.1; rw [show x + 158 + 79 = x + 237 by omega] at this; exact this
theorem HallAt.sD {x w p : Int} (h : HallAt G γ x w p) : SpanAt G γ (x + 315) := by have := h.al.2.2.2.2.2.2.1; rw [show x + 158 + 157 = x + 315 by omega] at this; exact this
theorem HallAt.sT {x w p : Int} (h : HallAt G γ x w p) : SpanAt G γ (x + 393) := by have := h.al.2.2.2.2.2.2.2.2.1; rw [show x + 158 + 235 = x + 393 by omega] at this; exact this
theorem SpanAt.g4 {a : Int} (h : SpanAt G γ a) : γ a 4 = a + 77 := h.2.2.2.2.2.2.2.2.2.1
theorem SpanAt.s77 {a : Int} (h : SpanAt G γ a) : shO G (a + 77) 11 36 := h.2.2.2.2.2.2.2.2.2.2.1
theorem SpanAt.g2 {a : Int} (h : SpanAt G γ a) : γ a 2 = a + 39 := h.2.2.2.2.2.1
theorem SpanAt.s39 {a : Int} (h : SpanAt G γ a) : shO G (a + 39) 14 36 := h.2.2.2.2.2.2.1
theorem SpanAt.g3 {a : Int} (h : SpanAt G γ a) : γ a 3 = a + 76 := h.2.2.2.2.2.2.2.1
theorem SpanAt.s76 {a : Int} (h : SpanAt G γ a) : shO G (a + 76) 11 36 := h.2.2.2.2.2.2.2.2.1
theorem SpanAt.mx {a i : Int} (h : SpanAt G γ a) (hi : 0 ≤ i ∧ i < 36) : γ (a + 39) i = a + 40 + i ∧ shO G (a + 40 + i) 11 36 := (h.2.2.2.2.2.2.2.2.2.2.2 i hi.1 hi.2).2
theorem tc36b {σ : Mu} (hW : Wf σ) : (SbF σ).c ≤ 36 ∧ (SbF σ).tc ≤ 36 ∧ (SlF σ).c ≤ 36 ∧ (SlF σ).tc ≤ 36 ∧ (SdF σ).c ≤ 36 ∧ (SdF σ).tc ≤ 36 := by
  have h1 : (SbF σ).c + (SbF σ).tc ≤ (σ 0 0).toNat := (gRun_ids (σ 0 1) (σ 0 0) (σ 2) (sA σ) (σ 0 0).toNat).2.2
  have h2 : (SlF σ).c + (SlF σ).tc ≤ (σ 0 0).toNat := (gRun_ids (σ 0 1) (σ 0 0) (fun _ => 0) (colV (sA σ) (σ 2)) (σ 0 0).toNat).2.2
  have h3 : (SdF σ).c + (SdF σ).tc ≤ (σ 0 0).toNat := (gRunD_ids (σ 0 1) (σ 0 0) (σ 2) (sA σ) (σ 0 0).toNat).2.2
  have := hW.1
  refine ⟨?_, ?_, ?_, ?_, ?_, ?_⟩ <;> omega
theorem c_rank (hl : l.stackTraces = false) (d : Nat) (hd : 4 < d) {x w p : Int} (hH : HallAt G γ x w p) (hR : RepC μ x w σ) (hW : Wf σ) : Cn l G yX8_rank cX8_rank 1 (some .int) d 0 [aR x] γ μ (fun r γ' μ' => r = some (aI (SbF σ).c) ∧ γ' = γ ∧ RepC μ' x w σ ∧ frA μ μ' x) := by
  refine Cn.ofP hl (plainFor_of_name (by decide)) (noL1 nlR) rfl (fun P hP o1 o3 X hX hC => B_X8_rank_0 hC hH.o ?_)
  rw [hH.g3, hH.g1]
  refine ⟨hH.al.1, 4, 0, _, hd, Nat.le_refl _, hX ▸ c_spB hl 4 (by omega) hH hR, ?_⟩
  rintro r γ m ⟨rfl, rfl, h3, h4, h5⟩
  exact B_X8_rank_11 hC ⟨hH.sB.o, Nat.le_refl _, hP _ _ _ ⟨by rw [h4.1.1], rfl, h3, h5⟩⟩
theorem c_bound (hl : l.stackTraces = false) (d : Nat) (hd : 6 < d) {x w p y i : Int} (hH : HallAt G γ x w p) (hR : RepC μ x w σ) (hW : Wf σ) : Cnx l G yX8_bound cX8_bound 4 (some .int) d 1 [aR x, aI y, aI i] γ μ (PCo μ γ x w σ (if bndOk σ y i then bndF σ y i else 0) (if bndOk σ y i then 0 else 1)) (PCx NSEx μ γ x w σ (if bndOk σ y i then 0 else 1)) := by
  refine Cnx.ofP hl (by decide) (noLc nlR (noLc nlI (noL1 nlI))) rfl (fun P Y hP hY X hX hC hx => B_X8_bound_0 hC hx hH.o ?_)
  obtain ⟨-, t1, -, t2, -⟩ := tc36b hW
  have fin : ∀ (m : Mu) (a : Int) (S : GS), SpanAt G γ a → S.tc ≤ 36 → RepC m x w σ → SpS m a (σ 0 0) (σ 0 1) S → frA μ m x → (bndOk σ y i ↔ (-1 ≤ i ∧ i < S.tc)) → (bndOk σ y i → bndF σ y i = if i = -1 then (S.tc : Int) else S.td i) → V X G (Qx X G 1 P Y) 0 48 [aD, aD, aI i, aD] [aR a] γ m := fun m a S sa hS h1 h2 h3 h4 h5 => by
    refine B_X8_bound_48 hC hx ⟨fun e => ⟨6, 1, _, _, hd, Nat.le_refl _, Nat.le_refl _, hX ▸ c_requireTied hl 6 (Nat.le_refl _) sa.o h2.2.1, ?_, ?_⟩, fun e => ⟨sa.o, Nat.zero_le _, ?_⟩⟩
    · rintro r γ m ⟨k1, rfl, rfl, rfl⟩
      have ok : bndOk σ y i := h4.mpr (by omega)
      rw [if_pos ok, if_pos ok] at hP
      refine B_X8_bound_64 hC hx ?_
      rw [sa.g4, (h2.2.2 i k1.1 k1.2).1]
      exact ⟨sa.o, ixO sa.s77 (by omega), Nat.le_refl _, hP _ _ _ ⟨rfl, by rw [h5 ok, if_neg e], rfl, h1, h3.c⟩⟩
    · rintro E γ m ⟨k1, rfl, rfl, rfl⟩
      exact hY _ _ _ ⟨rfl, by rw [if_neg (fun z => k1 (by have := h4.mp z; omega))]; decide, rfl, h1, h3.c⟩
    · have ok : bndOk σ y i := h4.mpr (by omega)
      rw [if_pos ok, if_pos ok] at hP
      exact hP _ _ _ ⟨rfl, by rw [h5 ok, if_pos e, h2.2.1], rfl, h1, h3.c⟩
  have go : isSW y → V X G (Qx X G 1 P Y) 0 19 [aR x, aI y, aI i, aD] [] γ μ := fun hy => by
    refine B_X8_bound_19 hC hx hH.o ?_
    rw [hH.g3, hH.g1]
    refine ⟨fun e => ⟨hH.al.1, 4, 0, _, by omega, by omega, hX ▸ c_spL hl 4 (by omega) hH hR, ?_⟩, fun e => ⟨hH.al.1, 4, 0, _, by omega, by omega, hX ▸ c_spB hl 4 (by omega) hH hR, ?_⟩⟩
    · rintro r γ m ⟨rfl, rfl, h3, h4, h5⟩
      refine fin m (x + 237) (SlF σ) hH.sL t2 h3 h4 h5 (by unfold bndOk; omega) (fun _ => ?_)
      unfold bndF
      rw [if_neg e, if_neg e]
    · rintro r γ m ⟨rfl, rfl, h3, h4, h5⟩
      refine B_X8_bound_34 hC hx (fin m (x + 159) (SbF σ) hH.sB t1 h3 h4 h5 (by unfold bndOk; omega) (fun _ => ?_))
      unfold bndF
      rw [if_pos e, if_pos e]
  exact ⟨fun e => go (Or.inl e), fun e => ⟨fun e2 => go (Or.inr e2), fun e2 => ⟨Nat.le_refl _, Nat.le_refl _, by omega, hY _ _ _ ⟨rfl, by rw [if_neg (by unfold bndOk; omega)]; decide, rfl, hR, frC_rf⟩⟩⟩⟩
theorem c_quiet (hl : l.stackTraces = false) (d : Nat) (hd : 6 < d) {x w p i y : Int} (hH : HallAt G γ x w p) (hR : RepC μ x w σ) (hW : Wf σ) : Cnx l G yX8_quiet cX8_quiet 4 (some .int) d 2 [aR x, aI i, aI y] γ μ (PCo μ γ x w σ (if (0 ≤ i ∧ i < (SbF σ).tc) ∧ isL σ y then (SbF σ).tv i y else 0) (if (0 ≤ i ∧ i < (SbF σ).tc) ∧ isL σ y then 0 else 1)) (PCx NSEx μ γ x w σ (if (0 ≤ i ∧ i < (SbF σ).tc) ∧ isL σ y then 0 else 1)) := by
  refine Cnx.ofP hl (by decide) (noLc nlR (noLc nlI (noL1 nlI))) rfl (fun P Y hP hY X hX hC hx => B_X8_quiet_0 hC hx hH.o ?_)
  obtain ⟨-, t1, -, t2, -⟩ := tc36b hW
  have hn := hW.1
  refine ⟨6, 1, _, _, hd, by omega, Nat.le_refl _, hX ▸ c_requireLamp hl 6 (Nat.le_refl _) hH hR, ?_, ?_⟩
  rotate_left
  · rintro E γ m ⟨h, rfl, rfl, rfl⟩
    exact hY _ _ _ ⟨rfl, by rw [if_neg (fun z => h z.2)]; decide, rfl, hR, frC_rf⟩
  rintro r γ m ⟨h1, rfl, rfl, rfl⟩
  refine B_X8_quiet_5 hC hx hH.o ?_
  rw [hH.g3, hH.g1]
  refine ⟨hH.al.1, 4, 0, _, by omega, by omega, hX ▸ c_spB hl 4 (by omega) hH hR, ?_⟩
  rintro r γ m ⟨rfl, rfl, h3, h4, h5⟩
  refine B_X8_quiet_16 hC hx ⟨6, 1, _, _, hd, by omega, Nat.le_refl _, hX ▸ c_requireTied hl 6 (Nat.le_refl _) hH.sB.o h4.2.1, ?_, ?_⟩
  rotate_left
  · rintro E γ m ⟨h, rfl, rfl, rfl⟩
    exact hY _ _ _ ⟨rfl, by rw [if_neg (fun z => h z.1)]; decide, rfl, h3, h5.c⟩
  rintro r γ m ⟨k1, rfl, rfl, rfl⟩
  have ok : (0 ≤ i ∧ i < ((SbF σ).tc : Int)) ∧ isL σ y := ⟨k1, h1⟩
  rw [if_pos ok, if_pos ok] at hP
  obtain ⟨e1, e2, e3, e4, e5⟩ := h4.2.2 i k1.1 k1.2
  have mx := hH.sB.mx e2
  refine B_X8_quiet_22 hC hx ?_
  rw [hH.sB.g4, e1, hH.sB.g2, mx.1, e4 y h1.1 h1.2]
  exact ⟨hH.sB.o, ixO hH.sB.s77 (by omega), ixO hH.sB.s39 (by omega), ixO mx.2 (by omega), by omega, hP _ _ _ ⟨rfl, rfl, rfl, h3, h5.c⟩⟩
theorem c_sum (hl : l.stackTraces = false) (d : Nat) (hd : 6 < d) {x w p i y : Int} (hH : HallAt G γ x w p) (hR : RepC μ x w σ) (hW : Wf σ) : Cnx l G yX8_sum cX8_sum 4 (some .int) d 2 [aR x, aI i, aI y] γ μ (PCo μ γ x w σ (if (0 ≤ i ∧ i < (SlF σ).tc) ∧ isL σ y then (SlF σ).tv i y else 0) (if (0 ≤ i ∧ i < (SlF σ).tc) ∧ isL σ y then 0 else 1)) (PCx NSEx μ γ x w σ (if (0 ≤ i ∧ i < (SlF σ).tc) ∧ isL σ y then 0 else 1)) := by
  refine Cnx.ofP hl (by decide) (noLc nlR (noLc nlI (noL1 nlI))) rfl (fun P Y hP hY X hX hC hx => B_X8_sum_0 hC hx hH.o ?_)
  obtain ⟨-, t1, -, t2, -⟩ := tc36b hW
  have hn := hW.1
  refine ⟨6, 1, _, _, hd, by omega, Nat.le_refl _, hX ▸ c_requireLamp hl 6 (Nat.le_refl _) hH hR, ?_, ?_⟩
  rotate_left
  · rintro E γ m ⟨h, rfl, rfl, rfl⟩
    exact hY _ _ _ ⟨rfl, by rw [if_neg (fun z => h z.2)]; decide, rfl, hR, frC_rf⟩
  rintro r γ m ⟨h1, rfl, rfl, rfl⟩
  refine B_X8_sum_5 hC hx hH.o ?_
  rw [hH.g3, hH.g1]
  refine ⟨hH.al.1, 4, 0, _, by omega, by omega, hX ▸ c_spL hl 4 (by omega) hH hR, ?_⟩
  rintro r γ m ⟨rfl, rfl, h3, h4, h5⟩
  refine B_X8_sum_16 hC hx ⟨6, 1, _, _, hd, by omega, Nat.le_refl _, hX ▸ c_requireTied hl 6 (Nat.le_refl _) hH.sL.o h4.2.1, ?_, ?_⟩
  rotate_left
  · rintro E γ m ⟨h, rfl, rfl, rfl⟩
    exact hY _ _ _ ⟨rfl, by rw [if_neg (fun z => h z.1)]; decide, rfl, h3, h5.c⟩
  rintro r γ m ⟨k1, rfl, rfl, rfl⟩
  have ok : (0 ≤ i ∧ i < ((SlF σ).tc : Int)) ∧ isL σ y := ⟨k1, h1⟩
  rw [if_pos ok, if_pos ok] at hP
  obtain ⟨e1, e2, e3, e4, e5⟩ := h4.2.2 i k1.1 k1.2
  have mx := hH.sL.mx e2
  refine B_X8_sum_22 hC hx ?_
  rw [hH.sL.g4, e1, hH.sL.g2, mx.1, e4 y h1.1 h1.2]
  exact ⟨hH.sL.o, ixO hH.sL.s77 (by omega), ixO hH.sL.s39 (by omega), ixO mx.2 (by omega), by omega, hP _ _ _ ⟨rfl, rfl, rfl, h3, h5.c⟩⟩
theorem c_subtract (hl : l.stackTraces = false) (d : Nat) (hd : 1 < d) {x w p a : Int} {f : Int → Int} (hH : HallAt G γ x w p) (hD : WirS μ w σ) (hW : Wf σ) (hw4 : ∀ j, 0 ≤ j → j < 36 → μ (x + 474) j = σ 4 j) (ha : shO G a 11 36) (haw : a < x + 4 ∨ x + 474 < a) (hf : ∀ j, 0 ≤ j → j < σ 0 0 → μ a j = f j) (hfq : inQ (σ 0 0) (σ 0 1) f) : Cn l G yX8_subtractFromWish cX8_subtractFromWish 3 none d 0 [aR x, aR a] γ μ (PV γ (row μ a (σ 0 0) (fun j => (σ 4 j - f j + σ 0 1) % σ 0 1))) := by
  refine Cn.ofP hl (plainFor_of_name (by decide)) (noLc nlR (noL1 nlR)) rfl (fun P hP o1 o3 X hX hC => B_X8_subtractFromWish_0 hC hH.o ?_)
  have hn := hW.1
  have hq := hW.2.1.b
  have hwb := hH.wb
  have loop := rem_ind (n := σ 0 0) (P := fun i => V X G (Qm X G 0 P) 0 2 [aR x, aR a, aI i] [] γ (row μ a i (fun j => (σ 4 j - f j + σ 0 1) % σ 0 1))) (fun i i0 i1 ih => ?_)
  · have := loop 0 (by omega) hn.1
    rw [row_0] at this
    exact this
  · refine B_X8_subtractFromWish_2 hC hH.o ?_
    rw [hH.g1, hH.g5, row_off (show w ≠ a by omega), row_off (show w ≠ a by omega), hD.1, hD.2.1]
    refine ⟨hH.wr.o, fun h => ?_, fun h => ?_⟩
    · obtain rfl : i = σ 0 0 := by omega
      exact ⟨Nat.le_refl _, hP _ _ _ ⟨rfl, rfl, rfl⟩⟩
    · have b1 := (hW.wi i i0 (by omega)).1
      have b2 := hfq i i0 (by omega)
      rw [row_off (show x + 474 ≠ a by omega), hw4 i i0 (by omega), row_out (by omega), hf i i0 (by omega)]
      refine ⟨ixO hH.s474 (by omega), ixO ha (by omega), by constructor <;> omega, 1, 0, _, hd, Nat.le_refl _, hX ▸ c_mod hl 1 (by omega), PI.use ?_⟩
      have hih := ih (by omega)
      rw [← row_s (f := fun j => (σ 4 j - f j + σ 0 1) % σ 0 1) i0] at hih
      rw [if_pos hq.1, show (σ 4 i - f i) % σ 0 1 = (σ 4 i - f i + σ 0 1) % σ 0 1 by rw [Int.add_emod_right]]
      exact B_X8_subtractFromWish_35 hC hH.o ⟨ixO ha (by omega), by constructor <;> omega, hih⟩
theorem c_takeDifference (hl : l.stackTraces = false) (d : Nat) (hd : 2 < d) {x w p : Int} (hH : HallAt G γ x w p) (hR : RepC μ x w σ) (hW : Wf σ) : Cn l G yX8_takeDifference cX8_takeDifference 1 none d 0 [aR x] γ μ (fun r γ' μ' => r = none ∧ γ' = γ ∧ (∀ j, 0 ≤ j → j < σ 0 0 → μ' (x + 516) j = dffF σ j) ∧ ∀ y j, y ≠ x + 516 → μ' y j = μ y j) := by
  refine Cn.ofP hl (plainFor_of_name (by decide)) (noL1 nlR) rfl (fun P hP o1 o3 X hX hC => B_X8_takeDifference_0 hC hH.o ?_)
  have hn := hW.1
  have hwb := hH.wb
  rw [hH.g4, hH.g16]
  refine ⟨cpyI hH.s473 hH.s516, by omega, 2, 0, _, hd, Nat.le_refl _, hX ▸ c_subtract hl 2 (by omega) (f := σ 3) hH (hR.2.1.1.fr2 (fun y j z1 z2 => cpy_out (by omega))) hW (fun j z1 z2 => by rw [cpy_out (by omega)]; exact (hR.2.2.1 j z1 z2).2) hH.s516 (by omega) (fun j z1 z2 => by rw [cpy_in ⟨z1, by omega⟩]; exact (hR.2.2.1 j z1 (by omega)).1) (fun j z1 z2 => (hW.st j z1 (by omega)).1), PV.use ?_⟩
  exact B_X8_takeDifference_23 hC ⟨Nat.le_refl _, hP _ _ _ ⟨rfl, rfl, fun j z1 z2 => row_in ⟨z1, z2⟩, fun y j z => by rw [row_off z, cpy_out (by omega)]⟩⟩
theorem c_dot (hl : l.stackTraces = false) (d : Nat) (hd : 1 < d) {x w p a b : Int} {f g : Int → Int} (hH : HallAt G γ x w p) (hD : WirS μ w σ) (hW : Wf σ) (ha : shO G a 11 36) (hb : shO G b 11 36) (hf : ∀ j, 0 ≤ j → j < σ 0 0 → μ a j = f j) (hg : ∀ j, 0 ≤ j → j < σ 0 0 → μ b j = g j) (hfq : inQ (σ 0 0) (σ 0 1) f) (hgq : inQ (σ 0 0) (σ 0 1) g) : Cn l G yX8_dot cX8_dot 5 (some .int) d 0 [aR x, aR a, aR b] γ μ (PI (dotI f g (σ 0 0) % σ 0 1) γ μ) := by
  refine Cn.ofP hl (plainFor_of_name (by decide)) (noLc nlR (noLc nlR (noL1 nlR))) rfl (fun P hP o1 o3 X hX hC => B_X8_dot_0 hC hH.o ?_)
  have hn := hW.1
  have hq := hW.2.1.b
  have loop := rem_ind (n := σ 0 0) (P := fun i => V X G (Qm X G 0 P) 0 5 [aR x, aR a, aR b, aI (dotI f g i), aI i] [] γ μ) (fun i i0 i1 ih => ?_)
  · exact loop 0 (by omega) hn.1
  · have db := dotI_b (f := f) (g := g) (q := σ 0 1) (n := σ 0 0) (by omega) hfq hgq i i0 i1
    refine B_X8_dot_5 hC hH.o ?_
    rw [hH.g1, hD.1, hD.2.1]
    refine ⟨hH.wr.o, fun h => ⟨1, 0, _, hd, Nat.le_refl _, hX ▸ c_mod hl 1 (by omega), PI.use ?_⟩, fun h => ?_⟩
    · obtain rfl : i = σ 0 0 := by omega
      rw [if_pos hq.1]
      exact B_X8_dot_46 hC ⟨Nat.le_refl _, hP _ _ _ ⟨rfl, rfl, rfl⟩⟩
    · have b1 := hfq i i0 (by omega)
      have b2 := hgq i i0 (by omega)
      have hp := mulR (a := f i) (b := g i) (m := 5) (by omega) (by omega)
      rw [hf i i0 (by omega), hg i i0 (by omega)]
      have hih := ih (by omega)
      rw [show dotI f g (i + 1) = dotI f g i + f i * g i from foldI_s i0] at hih
      exact ⟨ixO ha (by omega), ixO hb (by omega), by constructor <;> omega, by constructor <;> omega, by constructor <;> omega, hih⟩
theorem c_why (hl : l.stackTraces = false) (d : Nat) (hd : 4 < d) {x w p : Int} (hH : HallAt G γ x w p) (hR : RepC μ x w σ) (hW : Wf σ) : Cn l G yX8_why cX8_why 3 (some .int) d 0 [aR x] γ μ (PC μ γ x w σ (fs (whyP σ (SlF σ)) (SlF σ).tc 0)) := by
  refine Cn.ofP hl (plainFor_of_name (by decide)) (noL1 nlR) rfl (fun P hP o1 o3 X hX hC => B_X8_why_0 hC hH.o ?_)
  obtain ⟨-, t1, -, t2, -⟩ := tc36b hW
  have hn := hW.1
  have hwb := hH.wb
  rw [hH.g3, hH.g1]
  refine ⟨hH.al.1, 4, 0, _, hd, Nat.le_refl _, hX ▸ c_spL hl 4 (by omega) hH hR, ?_⟩
  rintro r γ m ⟨rfl, rfl, h3, h4, h5⟩
  refine B_X8_why_11 hC hH.o ⟨3, 0, _, by omega, Nat.le_refl _, hX ▸ c_takeDifference hl 3 (by omega) hH h3 hW, ?_⟩
  rintro r γ m2 ⟨rfl, rfl, g1, g2⟩
  refine B_X8_why_16 hC hH.o ?_
  have R2 : RepC m2 x w σ := h3.scr hwb (fun y j z1 z2 z3 => g2 y j (by omega))
  have S2 : SpS m2 (x + 237) (σ 0 0) (σ 0 1) (SlF σ) := h4.fr (fun y j z1 z2 => g2 y j (by omega))
  have fr : frB μ m2 x (x + 518) := fun y j z => by rw [g2 y j (by omega)]; exact h5 y j (by omega)
  have loop := rem_ind (n := ((SlF σ).tc : Int)) (P := fun i => fs (whyP σ (SlF σ)) (SlF σ).tc i = fs (whyP σ (SlF σ)) (SlF σ).tc 0 → V X G (Qm X G 0 P) 0 18 [aR x, aR (x + 237), aI i] [] γ m2) (fun i i0 i1 ih hi => ?_)
  · exact loop 0 (by omega) (by omega) rfl
  · refine B_X8_why_18 hC hH.o ?_
    rw [S2.2.1, hH.sL.g4, hH.sL.g2, hH.g16]
    refine ⟨hH.sL.o, fun h => ⟨Nat.le_refl _, hP _ _ _ ⟨by rw [← hi, fs_ge h], rfl, R2, fr⟩⟩, fun h => ?_⟩
    obtain ⟨e1, e2, e3, e4, e5⟩ := S2.2.2 i i0 (by omega)
    have mx := hH.sL.mx e2
    rw [e1, mx.1]
    refine ⟨ixO hH.sL.s77 (by omega), ixO hH.sL.s39 (by omega), 2, 0, _, by omega, Nat.le_refl _, hX ▸ c_dot hl 2 (by omega) hH R2.2.1.1 hW mx.2 hH.s516 e4 g1 e5 (fun j z1 z2 => hW.dff j z1 (by omega)), PI.use ?_⟩
    have ew : dotI ((SlF σ).tv i) (dffF σ) (σ 0 0) % σ 0 1 = whyP σ (SlF σ) i := rfl
    rw [ew]
    refine B_X8_why_45 hC hH.o ⟨fun e => ⟨by constructor <;> omega, ih (by omega) (by rw [← hi]; exact (fs_1 (f := whyP σ (SlF σ)) (by omega) e).symm)⟩, fun e => ⟨Nat.le_refl _, hP _ _ _ ⟨by rw [← hi, fs_2 (f := whyP σ (SlF σ)) (by omega) e], rfl, R2, fr⟩⟩⟩
theorem c_times (hl : l.stackTraces = false) (d : Nat) (hd : 6 < d) {x w p y : Int} (hH : HallAt G γ x w p) (hR : RepC μ x w σ) (hW : Wf σ) : Cnx l G yX8_times cX8_times 2 (some .int) d 2 [aR x, aI y] γ μ (PCo μ γ x w σ (if isL σ y ∧ σ 0 8 ≠ 0 then σ 9 y else 0) (if isL σ y ∧ σ 0 8 ≠ 0 then 0 else 1)) (PCx NSEx μ γ x w σ (if isL σ y ∧ σ 0 8 ≠ 0 then 0 else 1)) := by
  refine Cnx.ofP hl (by decide) (noLc nlR (noL1 nlI)) rfl (fun P Y hP hY X hX hC hx => B_X8_times_0 hC hx hH.o ?_)
  have hn := hW.1
  refine ⟨6, 1, _, _, hd, by omega, Nat.le_refl _, hX ▸ c_requireLamp hl 6 (Nat.le_refl _) hH hR, ?_, ?_⟩
  rotate_left
  · rintro E γ m ⟨h, rfl, rfl, rfl⟩
    exact hY _ _ _ ⟨rfl, by rw [if_neg (fun z => h z.1)]; decide, rfl, hR, frC_rf⟩
  rintro r γ m ⟨h1, rfl, rfl, rfl⟩
  obtain ⟨k1, k2, -, -⟩ := hR.2.2.2.2.2.1
  refine B_X8_times_5 hC hx hH.o ?_
  rw [hH.g9]
  refine ⟨fun e => ?_, fun e => ⟨Nat.le_refl _, Nat.le_refl _, by omega, hY _ _ _ ⟨rfl, by rw [if_neg (fun z => z.2 (k1.mp e))]; decide, rfl, hR, frC_rf⟩⟩⟩
  have e8 : σ 0 8 ≠ 0 := fun z => e (k1.mpr z)
  rw [if_pos ⟨h1, e8⟩, if_pos ⟨h1, e8⟩] at hP
  exact ⟨ixO hH.s483 (by omega), by omega, hP _ _ _ ⟨rfl, by rw [k2 e8 y h1.1 h1.2], rfl, hR, frC_rf⟩⟩
theorem c_near (hl : l.stackTraces = false) (d : Nat) (hd : 6 < d) {x w p y : Int} (hH : HallAt G γ x w p) (hR : RepC μ x w σ) (hW : Wf σ) : Cnx l G yX8_near cX8_near 2 (some .int) d 2 [aR x, aI y] γ μ (PCo μ γ x w σ (if isL σ y ∧ σ 0 9 ≠ 0 then σ 10 y else 0) (if isL σ y ∧ σ 0 9 ≠ 0 then 0 else 1)) (PCx NSEx μ γ x w σ (if isL σ y ∧ σ 0 9 ≠ 0 then 0 else 1)) := by
  refine Cnx.ofP hl (by decide) (noLc nlR (noL1 nlI)) rfl (fun P Y hP hY X hX hC hx => B_X8_near_0 hC hx hH.o ?_)
  have hn := hW.1
  refine ⟨6, 1, _, _, hd, by omega, Nat.le_refl _, hX ▸ c_requireLamp hl 6 (Nat.le_refl _) hH hR, ?_, ?_⟩
  rotate_left
  · rintro E γ m ⟨h, rfl, rfl, rfl⟩
    exact hY _ _ _ ⟨rfl, by rw [if_neg (fun z => h z.1)]; decide, rfl, hR, frC_rf⟩
  rintro r γ m ⟨h1, rfl, rfl, rfl⟩
  obtain ⟨-, -, k1, k2⟩ := hR.2.2.2.2.2.1
  refine B_X8_near_5 hC hx hH.o ?_
  rw [hH.g11]
  refine ⟨fun e => ?_, fun e => ⟨Nat.le_refl _, Nat.le_refl _, by omega, hY _ _ _ ⟨rfl, by rw [if_neg (fun z => z.2 (k1.mp e))]; decide, rfl, hR, frC_rf⟩⟩⟩
  have e8 : σ 0 9 ≠ 0 := fun z => e (k1.mpr z)
  rw [if_pos ⟨h1, e8⟩, if_pos ⟨h1, e8⟩] at hP
  exact ⟨ixO hH.s484 (by omega), by omega, hP _ _ _ ⟨rfl, by rw [k2 e8 y h1.1 h1.2], rfl, hR, frC_rf⟩⟩
end CLin
