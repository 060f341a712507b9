/-! the class: fill, draw, jam, twin, keep, take, pulse -/
section CFill
variable {l : Launch} {G : Gx} {γ μ σ : Mu}
theorem RwC.row3 {x : Int} {f g : Int → Int} (h : RwC μ x σ) (hn : 0 ≤ σ 0 0 ∧ σ 0 0 ≤ 36) (hfg : ∀ j, 0 ≤ j → j < σ 0 0 → f j = g j) : RwC (row μ (x + 473) (σ 0 0) f) x (row σ 3 (σ 0 0) g) := fun j z1 z2 => by
  have := h j z1 z2
  rw [row_off (a := x + 473) (b := x + 474) (by omega), row_off (a := 3) (b := 4) (by decide)]
  by_cases e : j < σ 0 0
  · rw [row_in ⟨z1, e⟩, row_in ⟨z1, e⟩]; exact ⟨hfg j z1 e, this.2⟩
  · rw [row_out (by omega), row_out (by omega)]; exact this
theorem RwC.row4 {x : Int} {f g : Int → Int} (h : RwC μ x σ) (hn : 0 ≤ σ 0 0 ∧ σ 0 0 ≤ 36) (hfg : ∀ j, 0 ≤ j → j < σ 0 0 → f j = g j) : RwC (row μ (x + 474) (σ 0 0) f) x (row σ 4 (σ 0 0) g) := fun j z1 z2 => by
  have := h j z1 z2
  rw [row_off (a := x + 474) (b := x + 473) (by omega), row_off (a := 4) (b := 3) (by decide)]
  by_cases e : j < σ 0 0
  · rw [row_in ⟨z1, e⟩, row_in ⟨z1, e⟩]; exact ⟨this.1, hfg j z1 e⟩
  · rw [row_out (by omega), row_out (by omega)]; exact this
theorem RwC.up5 {x : Int} {k z : Int} (h : RwC μ x σ) : RwC μ x (up σ 0 k z) := fun j z1 z2 => by rw [up_ne (by omega), up_ne (by omega)]; exact h j z1 z2
theorem c_fillC (hl : l.stackTraces = false) (d : Nat) (hd : 6 < d) {x w p y c : Int} (hH : HallAt G γ x w p) (hR : RepC μ x w σ) (hW : Wf σ) : Cnx l G yX8_fill cX8_fill 5 (some .boolean) d 1 [aR x, aI y, aI c] γ μ (PCo μ γ x w (if isSW y then fillF σ y c else σ) (if isSW y then (if 0 ≤ c ∧ c < σ 0 1 then 1 else 0) else 0) (if isSW y then 0 else 1)) (PCx NSEx μ γ x w (if isSW y then fillF σ y c else σ) (if isSW y then 0 else 1)) := by
  refine Cnx.ofP hl (by decide) (noLc nlR (noLc nlI (noL1 nlI))) rfl (fun P Y hP hY X hX hC hx => B_X8_fill_0 hC hx hH.o ?_)
  have hn := hW.1
  have hwb := hH.wb
  refine ⟨6, 1, _, _, hd, Nat.le_refl _, Nat.le_refl _, hX ▸ c_requireSW hl 6 (Nat.le_refl _), ?_, ?_⟩
  rotate_left
  · rintro E γ m ⟨h, rfl, rfl, rfl⟩
    exact hY _ _ _ ⟨rfl, by rw [if_neg h]; decide, rfl, by rw [if_neg h]; exact hR, frC_rf⟩
  rintro r γ m ⟨h2, rfl, rfl, rfl⟩
  rw [if_pos h2, if_pos h2, if_pos h2] at hP
  refine B_X8_fill_4 hC hx hH.o ?_
  rw [hH.g1, hR.2.1.1.2.1]
  have no : ¬ (0 ≤ c ∧ c < σ 0 1) → P (some (aI 0)) γ m := fun h => hP _ _ _ ⟨rfl, by rw [if_neg h], rfl, by unfold fillF; rw [if_neg h]; exact hR, frC_rf⟩
  refine ⟨fun h => ⟨Nat.le_refl _, no (by omega)⟩, fun h => ⟨hH.wr.o, fun h3 => ⟨0, 0, _, by omega, by omega, hX ▸ c_row hl 0 hH, ?_⟩, fun h3 => ⟨Nat.le_refl _, no (by omega)⟩⟩⟩
  rintro r γ m ⟨rfl, rfl, rfl⟩
  have hcc : 0 ≤ c ∧ c < σ 0 1 := by omega
  refine B_X8_fill_26 hC hx hH.o ?_
  have ea : ∃ a, a = (if y = 0 then x + 473 else x + 474) ∧ shO G a 11 36 ∧ a = x + 473 + y := by
    rcases h2 with e | e
    · exact ⟨x + 473, by rw [if_pos e], hH.s473, by omega⟩
    · exact ⟨x + 474, by rw [if_neg (by omega)], hH.s474, by omega⟩
  obtain ⟨a, ea, sa, ea2⟩ := ea
  rw [← ea]
  have loop := rem_ind (n := σ 0 0) (P := fun i => V X G (Qx X G 1 P Y) (0 + 1 + 0) 30 [aR x, aI y, aI c, aR a, aI i] [] γ (row m a i (fun _ => c))) (fun i i0 i1 ih => ?_)
  · have := loop 0 (by omega) hn.1
    rw [row_0] at this
    exact this
  · refine B_X8_fill_30 hC hx hH.o ?_
    rw [hH.g1, row_off (by omega), hR.2.1.1.1]
    refine ⟨hH.wr.o, fun h => ?_, fun h => ⟨ixO sa (by omega), by constructor <;> omega, by rw [row_s (f := fun _ => c) i0]; exact ih (by omega)⟩⟩
    obtain rfl : i = σ 0 0 := by omega
    refine ⟨1, 0, _, by omega, by omega, hX ▸ c_told hl 1 (by omega) hH, PV.use (B_X8_fill_58 hC hx ⟨Nat.le_refl _, hP _ _ _ ⟨rfl, by rw [if_pos hcc], rfl, ?_, frC.tld (frC.row frC_rf (by omega))⟩⟩)⟩
    unfold fillF
    rw [if_pos hcc]
    by_cases e : y = 0
    · rw [if_pos e] at ea ⊢
      subst ea
      refine hR.tld hwb h2 (fun a j z1 z2 z3 => row_off (by omega)) ?_ (fun k hk => by rw [row_off (by decide), up_ne (by omega)]) (by rw [if_pos e, row_off (by decide), up_same]) (fun k z1 z2 z3 => by rw [row_offF (by omega), up_off (by omega)])
      exact (hR.2.2.1.up5 (k := 5) (z := 0)).row3 (by rw [up_ne (by omega)]; exact hn) (fun _ _ _ => rfl)
    · rw [if_neg e] at ea ⊢
      subst ea
      exact hR.tld hwb h2 (fun a j z1 z2 z3 => row_off (by omega)) (hR.2.2.1.row4 hn (fun _ _ _ => rfl)) (fun k hk => row_off (by decide)) (by rw [if_neg e, row_off (by decide)]) (fun k z1 z2 z3 => row_offF (by omega))
theorem c_draw (hl : l.stackTraces = false) (d : Nat) (hd : 1 < d) {x w p s : Int} (hH : HallAt G γ x w p) (hR : RepC μ x w σ) (hW : Wf σ) (hs : iR s) : Cn l G yX8_draw cX8_draw 4 none d 0 [aR x, aI s] γ μ (fun r γ' μ' => r = none ∧ γ' = γ ∧ RepC μ' x w (drawF σ s) ∧ frB μ μ' x (x + 518)) := by
  refine Cn.ofP hl (plainFor_of_name (by decide)) (noLc nlR (noL1 nlI)) rfl (fun P hP o1 o3 X hX hC => B_X8_draw_0 hC hH.o ?_)
  have hn := hW.1
  have hwb := hH.wb
  have hq := hW.2.1.b
  have sR : ∀ k : Nat, iR (sdN s k) := fun k => by
    cases k with
    | zero => exact hs
    | succ k => exact o_wrap_R _
  have loop : ∀ (k i : Nat), i + k = (σ 0 0).toNat → V X G (Qm X G 0 P) 0 4 [aR x, aD, aI (sdN s i), aI i] [] γ (row μ (x + 473) i (fun j => o_and (o_shr (sdN s (j.toNat + 1)) 16) 32767 % σ 0 1)) := by
    intro k
    induction k with
    | zero =>
      intro i hk
      refine B_X8_draw_4 hC hH.o ?_
      rw [hH.g1, row_off (by omega), hR.2.1.1.1]
      have ei : (i : Int) = σ 0 0 := by omega
      refine ⟨hH.wr.o, fun _ => ⟨1, 0, _, by omega, Nat.le_refl _, hX ▸ c_told hl 1 (by omega) hH, PV.use (B_X8_draw_59 hC ⟨Nat.le_refl _, hP _ _ _ ⟨rfl, rfl, ?_, frC.tld (frC.row frC_rf (by omega))⟩⟩)⟩, fun z => absurd (by omega) z⟩
      rw [ei]
      refine hR.tld hwb (Or.inl rfl) (fun a j z1 z2 z3 => row_off (by omega)) ?_ (fun k hk => ?_) ?_ (fun k z1 z2 z3 => ?_)
      · exact (hR.2.2.1.up5 (k := 5) (z := 0)).row3 (by rw [up_ne (by omega)]; exact hn) (fun _ _ _ => rfl)
      · unfold drawF; rw [row_off (by decide), up_ne (by omega)]
      · unfold drawF; rw [row_off (by decide), up_same, if_pos rfl]
      · unfold drawF; rw [row_offF (by omega), up_off (by omega)]
    | succ k ih =>
      intro i hk
      refine B_X8_draw_4 hC hH.o ?_
      rw [hH.g1, row_off (by omega), hR.2.1.1.1, row_off (by omega), hR.2.1.1.2.1, hH.g4]
      refine ⟨hH.wr.o, fun z => absurd z (by omega), fun _ => ⟨1, 0, _, by omega, Nat.le_refl _, hX ▸ c_mod hl 1 (by omega), PI.use ?_⟩⟩
      rw [if_pos hq.1, show o_wrap (o_wrap (sdN s i * 1103515245) + 12345) = sdN s (i + 1) from rfl, drw_eq (sR (i + 1))]
      have hih := ih (i + 1) (by omega)
      rw [show ((i + 1 : Nat) : Int) = (i : Int) + 1 by omega, ← row_s (f := fun j => o_and (o_shr (sdN s (j.toNat + 1)) 16) 32767 % σ 0 1) (by omega)] at hih
      exact B_X8_draw_47 hC hH.o ⟨ixO hH.s473 (by omega), by constructor <;> omega, hih⟩
  have := loop (σ 0 0).toNat 0 (by omega)
  rw [show ((0 : Nat) : Int) = 0 from rfl, row_0] at this
  exact this
theorem c_jam (hl : l.stackTraces = false) (d : Nat) (hd : 6 < d) {x w p i z : Int} (hz : z = 0 ∨ z = 1) (hH : HallAt G γ x w p) (hR : RepC μ x w σ) (hW : Wf σ) : Cnx l G yX8_jam cX8_jam 4 (some .boolean) d 1 [aR x, aI i, aI z] γ μ (PCo μ γ x w (if isL σ i then up σ 2 i z else σ) (if isL σ i then σ 2 i else 0) (if isL σ i then 0 else 1)) (PCx NSEx μ γ x w (if isL σ i then up σ 2 i z else σ) (if isL σ i then 0 else 1)) := by
  refine Cnx.ofP hl (by decide) (noLc nlR (noLc nlI (noL1 nlI))) rfl (fun P Y hP hY X hX hC hx => B_X8_jam_0 hC hx hH.o ?_)
  have hn := hW.1
  have hwb := hH.wb
  refine ⟨6, 1, _, _, hd, Nat.le_refl _, Nat.le_refl _, hX ▸ c_requireLamp hl 6 (Nat.le_refl _) hH hR, ?_, ?_⟩
  rotate_left
  · rintro E γ m ⟨h, rfl, rfl, rfl⟩
    exact hY _ _ _ ⟨rfl, by rw [if_neg h]; decide, rfl, by rw [if_neg h]; exact hR, frC_rf⟩
  rintro r γ m ⟨h1, rfl, rfl, rfl⟩
  rw [if_pos h1, if_pos h1, if_pos h1] at hP
  obtain ⟨hr1, ⟨⟨D1, D2, D3, D4, D5, D6⟩, D7, D8, D9⟩, hr3, hr4, hr5, hr6, hr7, hr8⟩ := id hR
  have hj := hW.jm i h1.1 (by omega)
  refine B_X8_jam_5 hC hx hH.o ?_
  rw [hH.g1, hH.wr.g6, D6 i h1.1 h1.2, hH.g3]
  refine ⟨hH.wr.o, ixO hH.wr.s38 (by omega), fun e => ?_, fun e => ⟨by omega, hH.al.1, 0, 0, _, by omega, by omega, hX ▸ c_forget hl 0 hH.al.1, PV.use ?_⟩⟩
  · refine B_X8_jam_41 hC hx ⟨Nat.le_refl _, by omega, hP _ _ _ ⟨rfl, rfl, rfl, ?_, frC_rf⟩⟩
    have : up σ 2 i z = σ := by
      funext a j
      by_cases e2 : a = 2 ∧ j = i
      · obtain ⟨rfl, rfl⟩ := e2; rw [up_same, e]
      · rw [up_ne e2]
    rw [this]
    exact hR
  · refine B_X8_jam_37 hC hx hH.o ⟨0, 0, _, by omega, by omega, hX ▸ c_forgetWays hl 0 hH, PV.use (B_X8_jam_41 hC hx ⟨Nat.le_refl _, by omega, hP _ _ _ ⟨rfl, rfl, rfl, ?_, ?_⟩⟩)⟩
    rotate_left
    · exact frC.up (frC.up (frC.up (frC.up (frC.up (frC.up (frC.up frC_rf (by omega)) (by omega)) (by omega)) (by omega)) (by omega)) (by omega)) (by omega)
    generalize hm : up (up (up (up (up (up (up m (w + 38) i z) (x + 158) 4 0) (x + 158) 5 0) (x + 158) 6 0) (x + 158) 7 0) x 18 0) x 19 0 = m'
    have f : ∀ a j, (a = w + 38 → j ≠ i) → a ≠ x + 158 → (a = x → j < 18) → m' a j = m a j := fun a j z1 z2 z3 => by rw [← hm]; rw [up_ne (by omega), up_ne (by omega), up_ne (by omega), up_ne (by omega), up_ne (by omega), up_ne (by omega), up_ne (by omega)]
    have k : ∀ a j, a ≠ 2 → up σ 2 i z a j = σ a j := fun a j z1 => up_ne (by omega)
    have kf : ∀ a, a ≠ 2 → up σ 2 i z a = σ a := fun a z1 => up_off z1
    refine ⟨(hr1.fr (fun a j z1 z2 => f a j (by omega) (by omega) (by omega))).c (k _ _ (by decide)) (k _ _ (by decide)) (kf _ (by decide)), ?_, fun j z1 z2 => ?_, (hr4.fr (fun a j z1 z2 => f a j (by omega) (by omega) (by omega))).c (k _ _ (by decide)) (kf _ (by decide)), (hr5.fr (fun a j z1 z2 => f a j (by omega) (by omega) (by omega))).c (kf _ (by decide)) (kf _ (by decide)), (hr6.fr (f _ _ (by omega) (by omega) (by omega)) (f _ _ (by omega) (by omega) (by omega)) (fun a j z1 z2 => f a j (by omega) (by omega) (by omega))).c (k _ _ (by decide)) (k _ _ (by decide)) (k _ _ (by decide)) (kf _ (by decide)) (kf _ (by decide)), ?_, LtC.n (by rw [← hm, up_ne (by omega), up_same]) (by rw [← hm, up_same])⟩
    · have q0 : ∀ j, m' w j = m w j := fun j => f w j (by omega) (by omega) (by omega)
      refine ⟨⟨by rw [q0, k _ _ (by decide)]; exact D1, by rw [q0, k _ _ (by decide)]; exact D2, by rw [k _ _ (by decide)]; exact D3, by rw [k _ _ (by decide)]; exact D4, fun b b1 b2 => ?_, fun b b1 b2 => ?_⟩, by rw [q0, k _ _ (by decide)]; exact D7, by rw [q0, k _ _ (by decide)]; exact D8, by rw [q0, k _ _ (by decide)]; exact D9⟩
      · rw [k _ _ (by decide)] at b2 ⊢
        rw [k _ _ (by decide), sA_c (kf 1 (by decide))]
        exact ⟨fun j z1 z2 => by rw [f _ _ (by omega) (by omega) (by omega)]; exact (D5 b b1 b2).1 j z1 z2, (D5 b b1 b2).2⟩
      · rw [k _ _ (by decide)] at b2
        by_cases e3 : b = i
        · rw [e3, up_same, ← hm, up_ne (by omega), up_ne (by omega), up_ne (by omega), up_ne (by omega), up_ne (by omega), up_ne (by omega), up_same]
        · rw [up_ne (by omega), f _ _ (by omega) (by omega) (by omega)]; exact D6 b b1 b2
    · rw [k _ _ (by decide), k _ _ (by decide), f _ _ (by omega) (by omega) (by omega), f _ _ (by omega) (by omega) (by omega)]; exact hr3 j z1 z2
    · have g4 : ∀ j, 4 ≤ j → j ≤ 7 → m' (x + 158) j = 0 := fun j z1 z2 => by
        rw [← hm, up_ne (by omega), up_ne (by omega)]
        rcases (show j = 4 ∨ j = 5 ∨ j = 6 ∨ j = 7 by omega) with rfl | rfl | rfl | rfl
        · rw [up_ne (by omega), up_ne (by omega), up_ne (by omega), up_same]
        · rw [up_ne (by omega), up_ne (by omega), up_same]
        · rw [up_ne (by omega), up_same]
        · rw [up_same]
      exact ⟨fun q => absurd (g4 4 (by decide) (by decide)) q, fun q => absurd (g4 5 (by decide) (by decide)) q, fun q => absurd (g4 6 (by decide) (by decide)) q, fun q => absurd (g4 7 (by decide) (by decide)) q⟩
theorem c_twin (hl : l.stackTraces = false) (d : Nat) (hd : 6 < d) {x w p i : Int} (hH : HallAt G γ x w p) (hR : RepC μ x w σ) (hW : Wf σ) : Cnx l G yX8_twin cX8_twin 3 (some .int) d 1 [aR x, aI i] γ μ (PCo μ γ x w σ (if isL σ i then twF σ i else 0) (if isL σ i then 0 else 1)) (PCx NSEx μ γ x w σ (if isL σ i then 0 else 1)) := by
  refine Cnx.ofP hl (by decide) (noLc nlR (noL1 nlI)) rfl (fun P Y hP hY X hX hC hx => B_X8_twin_0 hC hx hH.o ?_)
  have hn := hW.1
  refine ⟨6, 1, _, _, hd, Nat.le_refl _, Nat.le_refl _, hX ▸ c_requireLamp hl 6 (Nat.le_refl _) hH hR, ?_, ?_⟩
  rotate_left
  · rintro E γ m ⟨h, rfl, rfl, rfl⟩
    exact hY _ _ _ ⟨rfl, by rw [if_neg h]; decide, rfl, hR, frC_rf⟩
  rintro r γ m ⟨h1, rfl, rfl, rfl⟩
  rw [if_pos h1, if_pos h1] at hP
  refine B_X8_twin_5 hC hx hH.o ?_
  have loop := rem_ind (n := i) (P := fun k => fs (alkF σ i) i k = fs (alkF σ i) i 0 → V X G (Qx X G 1 P Y) (0 + 1) 7 [aR x, aI i, aI k] [] γ m) (fun k k0 k1 ih hk => ?_)
  · exact loop 0 (by omega) h1.1 rfl
  · refine B_X8_twin_7 hC hx hH.o ?_
    rw [hH.g1]
    refine ⟨fun h => ⟨Nat.le_refl _, hP _ _ _ ⟨rfl, ?_, rfl, hR, frC_rf⟩⟩, fun h => ⟨hH.wr.o, 0, 0, _, by omega, by omega, hX ▸ c_doAlike hl 0 hH.wr hR.2.1.1 (by omega) h1, PI.use ?_⟩⟩
    · unfold twF
      rw [← hk, fs_ge h, if_pos rfl]
    · have ea : allI (eqP (sA σ k) (sA σ i)) (σ 0 0) = alkF σ i k := rfl
      rw [ea]
      refine B_X8_twin_21 hC hx hH.o ⟨fun e => ⟨by constructor <;> omega, ih (by omega) (by rw [← hk]; exact (fs_1 (f := alkF σ i) (by omega) e).symm)⟩, fun e => ⟨Nat.le_refl _, hP _ _ _ ⟨rfl, ?_, rfl, hR, frC_rf⟩⟩⟩
      unfold twF
      rw [← hk, fs_2 (f := alkF σ i) (by omega) e, if_neg (by omega)]
theorem c_keep (hl : l.stackTraces = false) (d : Nat) (hd : 1 ≤ d) {x w p s : Int} (hH : HallAt G γ x w p) (hR : RepC μ x w σ) (hW : Wf σ) : Cn l G yX8_keep cX8_keep 2 (some .boolean) d 0 [aR x, aI s] γ μ (PC μ γ x w (if 0 ≤ s ∧ s ≤ 3 then kepF σ s else σ) (if 0 ≤ s ∧ s ≤ 3 then 1 else 0)) := by
  refine Cn.ofP hl (plainFor_of_name (by decide)) (noLc nlR (noL1 nlI)) rfl (fun P hP o1 o3 X hX hC => B_X8_keep_0 hC hH.o ?_)
  have hwb := hH.wb
  have no : ¬ (0 ≤ s ∧ s ≤ 3) → P (some (aI 0)) γ μ := fun h => hP _ _ _ ⟨by rw [if_neg h], rfl, by rw [if_neg h]; exact hR, frC_rf⟩
  refine ⟨fun h => ⟨Nat.le_refl _, no (by omega)⟩, fun h => ⟨fun h2 => ?_, fun h2 => ⟨Nat.le_refl _, no (by omega)⟩⟩⟩
  have hs : 0 ≤ s ∧ s ≤ 3 := by omega
  rw [if_pos hs, if_pos hs] at hP
  obtain ⟨s1, s2⟩ := hH.sl s (by omega) (by omega)
  rw [hH.g7, hH.g4, hH.g8, s1]
  refine ⟨ixO hH.s477 (by omega), cpyI hH.s473 s2, hd, ixO hH.s482 (by omega), Nat.le_refl _, hP _ _ _ ⟨rfl, rfl, ?_, frC.up (fun a j z => cpy_out (by omega)) (by omega)⟩⟩
  obtain ⟨h1, h2', h3, h4, h5, h6, h7, h8⟩ := hR
  have f : ∀ a j, a ≠ x + 478 + s → a ≠ x + 482 → up (cpy μ (x + 473) 0 (x + 478 + s) 0 36) (x + 482) s 1 a j = μ a j := fun a j z1 z2 => by rw [up_ne (by omega), cpy_out (by omega)]
  have k : ∀ a j, a ≠ 7 → a ≠ 8 → kepF σ s a j = σ a j := fun a j z1 z2 => by unfold kepF; rw [rwo_off z2, up_ne (by omega)]
  have kf : ∀ a, a ≠ 7 → a ≠ 8 → kepF σ s a = σ a := fun a z1 z2 => by funext j; exact k a j z1 z2
  refine ⟨(h1.fr (fun a j z1 z2 => f a j (by omega) (by omega))).c (k _ _ (by decide) (by decide)) (k _ _ (by decide) (by decide)) (kf _ (by decide) (by decide)), (h2'.fr (fun a j z1 z2 => f a j (by omega) (by omega))).c (fun a _ _ => k _ _ (by decide) (by decide)) (kf _ (by decide) (by decide)) (kf _ (by decide) (by decide)), fun j z1 z2 => by rw [f _ _ (by omega) (by omega), f _ _ (by omega) (by omega), k _ _ (by decide) (by decide), k _ _ (by decide) (by decide)]; exact h3 j z1 z2, (h4.fr (fun a j z1 z2 => f a j (by omega) (by omega))).c (k _ _ (by decide) (by decide)) (kf _ (by decide) (by decide)), fun t t1 t2 => ?_, (h6.fr (f _ _ (by omega) (by omega)) (f _ _ (by omega) (by omega)) (fun a j z1 z2 => f a j (by omega) (by omega))).c (k _ _ (by decide) (by decide)) (k _ _ (by decide) (by decide)) (k _ _ (by decide) (by decide)) (kf _ (by decide) (by decide)) (kf _ (by decide) (by decide)), (h7.fr (fun a j z1 z2 => f a j (by omega) (by omega))).c (k _ _ (by decide) (by decide)) (k _ _ (by decide) (by decide)) (kf _ (by decide) (by decide)) (kf _ (by decide) (by decide)), (h8.fr (f _ _ (by omega) (by omega)) (f _ _ (by omega) (by omega)) (fun j => f _ _ (by omega) (by omega)) (fun j => f _ _ (by omega) (by omega))).c (k _ _ (by decide) (by decide)) (k _ _ (by decide) (by decide)) (kf _ (by decide) (by decide)) (kf _ (by decide) (by decide)) (kf _ (by decide) (by decide)) (kf _ (by decide) (by decide))⟩
  have h5t := h5 t t1 t2
  have e7 : ∀ j, kepF σ s 7 j = up σ 7 s 1 7 j := fun j => by unfold kepF; rw [rwo_off (by decide)]
  by_cases e : t = s
  · subst e
    refine ⟨by rw [up_same, e7, up_same], fun _ j z1 z2 => ?_⟩
    rw [up_ne (by omega), cpy_in ⟨z1, z2⟩, (h3 j z1 z2).1]
    unfold kepF rwo
    rw [if_pos ⟨rfl, by omega, by omega⟩, show 36 * t + j - 36 * t = j by omega]
  · refine ⟨by rw [up_ne (by omega), cpy_out (by omega), e7, up_ne (by omega)]; exact h5t.1, fun q j z1 z2 => ?_⟩
    rw [e7, up_ne (by omega)] at q
    rw [up_ne (by omega), cpy_out (by omega), h5t.2 q j z1 z2]
    unfold kepF rwo
    rw [if_neg (by omega), up_ne (by omega)]
theorem c_take (hl : l.stackTraces = false) (d : Nat) (hd : 6 < d) {x w p s y : Int} (hH : HallAt G γ x w p) (hR : RepC μ x w σ) (hW : Wf σ) : Cnx l G yX8_take cX8_take 3 (some .boolean) d 1 [aR x, aI s, aI y] γ μ (PCo μ γ x w (if isSW y ∧ (0 ≤ s ∧ s ≤ 3) ∧ σ 7 s ≠ 0 then takF σ s y else σ) (if isSW y ∧ (0 ≤ s ∧ s ≤ 3) ∧ σ 7 s ≠ 0 then 1 else 0) (if isSW y then 0 else 1)) (PCx NSEx μ γ x w (if isSW y ∧ (0 ≤ s ∧ s ≤ 3) ∧ σ 7 s ≠ 0 then takF σ s y else σ) (if isSW y then 0 else 1)) := by
  refine Cnx.ofP hl (by decide) (noLc nlR (noLc nlI (noL1 nlI))) rfl (fun P Y hP hY X hX hC hx => B_X8_take_0 hC hx hH.o ?_)
  have hn := hW.1
  have hwb := hH.wb
  refine ⟨6, 1, _, _, hd, Nat.le_refl _, Nat.le_refl _, hX ▸ c_requireSW hl 6 (Nat.le_refl _), ?_, ?_⟩
  rotate_left
  · rintro E γ m ⟨h, rfl, rfl, rfl⟩
    exact hY _ _ _ ⟨rfl, by rw [if_neg h]; decide, rfl, by rw [if_neg (fun z => h z.1)]; exact hR, frC_rf⟩
  rintro r γ m ⟨h2, rfl, rfl, rfl⟩
  rw [if_pos h2] at hP
  refine B_X8_take_4 hC hx hH.o ?_
  have no : ¬ ((0 ≤ s ∧ s ≤ 3) ∧ σ 7 s ≠ 0) → P (some (aI 0)) γ m := fun h => hP _ _ _ ⟨rfl, by rw [if_neg (fun z => h z.2)], rfl, by rw [if_neg (fun z => h z.2)]; exact hR, frC_rf⟩
  rw [hH.g8, hH.g7]
  refine ⟨fun h => ⟨Nat.le_refl _, no (by omega)⟩, fun h => ⟨fun h3 => ⟨Nat.le_refl _, no (by omega)⟩, fun h3 => ⟨ixO hH.s482 (by omega), ?_⟩⟩⟩
  have h5 := hR.2.2.2.2.1 s (by omega) (by omega)
  obtain ⟨s1, s2⟩ := hH.sl s (by omega) (by omega)
  rw [h5.1, s1]
  refine ⟨fun h4 => ⟨ixO hH.s477 (by omega), 0, 0, _, by omega, by omega, hX ▸ c_row hl 0 hH, ?_⟩, fun h4 => ⟨Nat.le_refl _, no (fun z => z.2 h4)⟩⟩
  rintro r γ m ⟨rfl, rfl, rfl⟩
  have hc : isSW y ∧ (0 ≤ s ∧ s ≤ 3) ∧ σ 7 s ≠ 0 := ⟨h2, by omega, h4⟩
  rw [if_pos hc, if_pos hc] at hP
  have ea : ∃ a, a = (if y = 0 then x + 473 else x + 474) ∧ shO G a 11 36 ∧ a = x + 473 + y := by
    rcases h2 with e | e
    · exact ⟨x + 473, by rw [if_pos e], hH.s473, by omega⟩
    · exact ⟨x + 474, by rw [if_neg (by omega)], hH.s474, by omega⟩
  obtain ⟨a, ea, sa, ea2⟩ := ea
  rw [← ea]
  refine B_X8_take_36 hC hx hH.o ⟨cpyI s2 sa, by omega, 1, 0, _, by omega, by omega, hX ▸ c_told hl 1 (by omega) hH, PV.use (B_X8_take_47 hC hx ⟨Nat.le_refl _, hP _ _ _ ⟨rfl, rfl, rfl, ?_, frC.tld (fun b j z => cpy_out (by omega))⟩⟩)⟩
  have hsl := (hW.sl s (by omega) (by omega)).2 h4
  unfold takF
  by_cases e : y = 0
  · rw [if_pos e] at ea ⊢
    subst ea
    refine hR.tld hwb h2 (fun b j z1 z2 z3 => cpy_out (by omega)) (fun j z1 z2 => ?_) (fun k hk => by rw [up_ne (by omega), row_off (by decide)]) (by rw [if_pos e, up_same]) (fun k z1 z2 z3 => by rw [up_off (by omega), row_offF (by omega)])
    rw [cpy_in ⟨z1, z2⟩, cpy_out (by omega), up_ne (by omega), up_ne (by omega), row_off (a := 3) (b := 4) (by decide), h5.2 h4 j z1 z2]
    refine ⟨?_, (hR.2.2.1 j z1 z2).2⟩
    by_cases ej : j < σ 0 0
    · rw [row_in ⟨z1, ej⟩]
    · rw [row_out (by omega), (hsl j z1 z2).2 (by omega), (hW.st j z1 z2).2 (by omega)]
  · rw [if_neg e] at ea ⊢
    subst ea
    refine hR.tld hwb h2 (fun b j z1 z2 z3 => cpy_out (by omega)) (fun j z1 z2 => ?_) (fun k hk => row_off (by decide)) (by rw [if_neg e, row_off (by decide)]) (fun k z1 z2 z3 => row_offF (by omega))
    rw [cpy_in ⟨z1, z2⟩, cpy_out (by omega), row_off (a := 4) (b := 3) (by decide), h5.2 h4 j z1 z2]
    refine ⟨(hR.2.2.1 j z1 z2).1, ?_⟩
    by_cases ej : j < σ 0 0
    · rw [row_in ⟨z1, ej⟩]
    · rw [row_out (by omega), (hsl j z1 z2).2 (by omega), (hW.wi j z1 z2).2 (by omega)]
theorem c_pulse (hl : l.stackTraces = false) (d : Nat) (hd : 2 < d) {x w p i : Int} (hH : HallAt G γ x w p) (hR : RepC μ x w σ) (hW : Wf σ) : Cn l G yX8_pulse cX8_pulse 3 (some .boolean) d 0 [aR x, aI i] γ μ (PC μ γ x w (if 0 ≤ i ∧ i ≤ 100 then up (row σ 3 (σ 0 0) (pulN σ i.toNat)) 0 5 0 else σ) (if 0 ≤ i ∧ i ≤ 100 then 1 else 0)) := by
  refine Cn.ofP hl (plainFor_of_name (by decide)) (noLc nlR (noL1 nlI)) rfl (fun P hP o1 o3 X hX hC => B_X8_pulse_0 hC hH.o ?_)
  have hn := hW.1
  have hwb := hH.wb
  have no : ¬ (0 ≤ i ∧ i ≤ 100) → P (some (aI 0)) γ μ := fun h => hP _ _ _ ⟨by rw [if_neg h], rfl, by rw [if_neg h]; exact hR, frC_rf⟩
  refine ⟨fun h => ⟨Nat.le_refl _, no (by omega)⟩, fun h => ⟨fun h2 => ?_, fun h2 => ⟨Nat.le_refl _, no (by omega)⟩⟩⟩
  have hi : 0 ≤ i ∧ i ≤ 100 := by omega
  rw [if_pos hi, if_pos hi] at hP
  have loop : ∀ (j k : Nat) (m : Mu), (k : Int) + j = i → (∀ a j, a ≠ x + 473 → a ≠ x + 516 → m a j = μ a j) → (∀ j, 0 ≤ j → j < σ 0 0 → m (x + 473) j = pulN σ k j) → (∀ j, σ 0 0 ≤ j → m (x + 473) j = μ (x + 473) j) → V X G (Qm X G 0 P) 0 14 [aR x, aI i, aI (k : Int)] [] γ m := by
    intro j
    induction j with
    | zero =>
      intro k m hk f1 f2 f3
      refine B_X8_pulse_14 hC hH.o ⟨fun _ => ⟨1, 0, _, by omega, Nat.le_refl _, hX ▸ c_told hl 1 (by omega) hH, PV.use (B_X8_pulse_45 hC ⟨Nat.le_refl _, hP _ _ _ ⟨rfl, rfl, ?_, frC.tld (fun a j z => f1 a j (by omega) (by omega))⟩⟩)⟩, fun z => absurd (by omega) z⟩
      refine hR.tld hwb (Or.inl rfl) (fun a j z1 z2 z3 => f1 a j (by omega) (by omega)) (fun j z1 z2 => ?_) (fun k hk => by rw [up_ne (by omega), row_off (by decide)]) (by rw [if_pos rfl, up_same]) (fun k z1 z2 z3 => by rw [up_off (by omega), row_offF (by omega)])
      rw [up_ne (by omega), up_ne (by omega), row_off (a := 3) (b := 4) (by decide), f1 (x + 474) j (by omega) (by omega)]
      refine ⟨?_, (hR.2.2.1 j z1 z2).2⟩
      by_cases ej : j < σ 0 0
      · rw [row_in ⟨z1, ej⟩, f2 j z1 ej, show i.toNat = k by omega]
      · rw [row_out (by omega), f3 j (by omega)]; exact (hR.2.2.1 j z1 z2).1
    | succ j ih =>
      intro k m hk f1 f2 f3
      refine B_X8_pulse_14 hC hH.o ⟨fun z => absurd z (by omega), fun _ => ?_⟩
      rw [hH.g1, hH.g4, hH.g16]
      refine ⟨hH.wr.o, 2, 0, _, by omega, Nat.le_refl _, hX ▸ c_beat hl 2 (by omega) hH.wr (hR.2.1.1.fr2 (fun a j z1 z2 => f1 a j (by omega) (by omega))) hW hH.s473 hH.s516 (by omega) (by omega) (by omega) f2 (pulN_in hW k), ?_⟩
      rintro r γ m2 ⟨rfl, rfl, g1, g2, g3⟩
      refine B_X8_pulse_34 hC hH.o ⟨by constructor <;> omega, ?_⟩
      rw [show (k : Int) + 1 = ((k + 1 : Nat) : Int) by omega]
      exact ih (k + 1) m2 (by omega) (fun a j z1 z2 => by rw [g3 a j z1 z2]; exact f1 a j z1 z2) g1 (fun j z => by rw [g2 j z]; exact f3 j z)
  exact loop i.toNat 0 μ (by omega) (fun _ _ _ _ => rfl) (fun j z1 z2 => (hR.2.2.1 j z1 (by omega)).1) (fun _ _ => rfl)
end CFill
