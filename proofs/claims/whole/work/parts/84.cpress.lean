/-! the class: presses, back, apply, chase -/
theorem PrC.add {μ σ : Mu} {a y : Int} (h : PrC μ a σ) (h5 : 0 ≤ σ 0 5 ∧ σ 0 5 ≤ 100) : PrC (prAdd μ a y) a (prsF σ y) := by
  obtain ⟨h1, h2, h3⟩ := h
  unfold prAdd prsF
  by_cases e : σ 0 5 = 100
  · rw [if_pos e]
    show PrC (if 100 ≤ μ a 2 then _ else _) a _
    rw [if_pos (by omega)]
    refine ⟨by rw [up_same]; omega, ?_, fun i z1 z2 => ?_⟩
    · rw [up_ne (by omega), up_ne (by omega), row_off (by decide), row_off (by decide)]; exact h2
    · rw [row_off (by decide), row_off (by decide)] at z2 ⊢
      rw [up_same, up_ne (by omega), row_in ⟨z1, by omega⟩, e]
      by_cases e2 : i = 99
      · rw [if_pos e2, show ((μ a 1 + 1) % 100 + 100 - 100 + i) % 100 = μ a 1 by omega, up_same]
      · rw [if_neg e2, up_ne (by omega), ← h3 (i + 1) (by omega) (by omega), e]
        congr 1
        omega
  · rw [if_neg e]
    show PrC (if 100 ≤ μ a 2 then _ else _) a _
    rw [if_neg (by omega)]
    refine ⟨by rw [up_ne (by omega), up_same]; omega, ?_, fun i z1 z2 => ?_⟩
    · rw [up_same, up_same, h2]
    · rw [up_same] at z2
      rw [up_ne (a := a) (b := a) (by omega), up_same, up_same, up_ne (a := a) (by omega), up_ne (a := a) (by omega), up_ne (a := 0) (by omega)]
      by_cases e2 : i = σ 0 5
      · rw [e2, up_same, show ((μ a 1 + 1) % 100 + 100 - (σ 0 5 + 1) + σ 0 5) % 100 = μ a 1 by omega, up_same]
      · rw [up_ne (by omega), up_ne (a := 5) (by omega), row_off (by decide), ← h3 i z1 (by omega)]
        congr 1
        omega
theorem prAdd_ne {μ : Mu} {a y b j : Int} (h1 : b ≠ a) (h2 : b ≠ a + 1) : prAdd μ a y b j = μ b j := by
  unfold prAdd
  show (if 100 ≤ μ a 2 then _ else _ : Mu) b j = _
  split
  · rw [up_ne (by omega), up_ne (by omega)]
  · rw [up_ne (by omega), up_ne (by omega), up_ne (by omega)]
theorem prsN_3 {σ : Mu} {y : Int} (hW : Wf σ) (hy : isL σ y) : ∀ k : Nat, ∀ j, 0 ≤ j → j < 36 → prsN σ y k 3 j = if j < σ 0 0 then (σ 3 j + k * sA σ y j) % σ 0 1 else σ 3 j
  | 0 => fun j z1 z2 => by
    have h := (hW.st j z1 z2).1
    show σ 3 j = _
    rw [show ((0 : Nat) : Int) = 0 from rfl, Int.zero_mul, Int.add_zero, Int.emod_eq_of_lt h.1 h.2, ite_self]
  | k + 1 => fun j z1 z2 => by
    have ih := prsN_3 hW hy k j z1 z2
    show prsF (prsN σ y k) y 3 j = _
    have e0 : ∀ i, i ≠ 5 → prsN σ y k 0 i = σ 0 i := fun i hi => prsN_keep (fun _ => hi) (by decide) (by decide) k
    have e1 : sA (prsN σ y k) = sA σ := sA_c (by funext i; exact prsN_keep (by omega) (by decide) (by decide) k)
    rw [prsF_3, e0 0 (by decide), e0 1 (by decide), e1, ih]
    by_cases e : j < σ 0 0
    · rw [if_pos ⟨z1, e⟩, if_pos e, if_pos e, Int.add_emod, Int.emod_emod_of_dvd _ (Int.dvd_refl _), ← Int.add_emod]
      congr 1
      rw [show ((k + 1 : Nat) : Int) = (k : Int) + 1 by omega, Int.add_mul, Int.one_mul]
      omega
    · rw [if_neg (by omega), if_neg e, if_neg e]
def chsG (σ : Mu) (g f : Int → Int) (x y : Int) : Int := if σ 2 x ≠ 0 ∨ sA σ x y = 0 then 0 else ((g y - f y + σ 0 1) % σ 0 1 * invQ (sA σ x y) (σ 0 1)) % σ 0 1
theorem chsG_b {σ : Mu} {g f : Int → Int} {x y : Int} (hW : Wf σ) : 0 ≤ chsG σ g f x y ∧ chsG σ g f x y < σ 0 1 := by
  have hq := hW.2.1.b
  unfold chsG
  split
  · omega
  · exact ⟨Int.emod_nonneg _ (by omega), Int.emod_lt_of_pos _ (by omega)⟩
theorem inv0 {q : Int} (hq : qP q) : invQ 0 q = 0 := by rcases hq with rfl | rfl | rfl <;> decide
theorem inv_b {q v : Int} (hq : qP q) (hv : 0 ≤ v ∧ v < q) : 0 ≤ invQ v q ∧ invQ v q < q := by
  rcases hq with rfl | rfl | rfl
  · rcases (show v = 0 ∨ v = 1 by omega) with rfl | rfl <;> decide
  · rcases (show v = 0 ∨ v = 1 ∨ v = 2 by omega) with rfl | rfl | rfl <;> decide
  · rcases (show v = 0 ∨ v = 1 ∨ v = 2 ∨ v = 3 ∨ v = 4 by omega) with rfl | rfl | rfl | rfl | rfl <;> decide
section CPress
variable {l : Launch} {G : Gx} {γ μ σ : Mu}
theorem c_pressAndLog (hl : l.stackTraces = false) (d : Nat) (hd : 1 < d) {x w p y t : Int} (hH : HallAt G γ x w p) (hR : RepC μ x w σ) (hW : Wf σ) (hy : isL σ y) (ht : 0 ≤ t ∧ t < σ 0 1) : Cn l G yX8_pressAndLog cX8_pressAndLog 4 none d 0 [aR x, aI y, aI t] γ μ (fun r γ' μ' => r = none ∧ γ' = γ ∧ RepC μ' x w (prsN σ y t.toNat) ∧ frB μ μ' x (x + 518)) := by
  refine Cn.ofP hl (plainFor_of_name (by decide)) (noLc nlR (noLc nlI (noL1 nlI))) rfl (fun P hP o1 o3 X hX hC => B_X8_pressAndLog_0 hC hH.o ?_)
  have hn := hW.1
  have hwb := hH.wb
  have hq := hW.2.1.b
  have hst : inQ (σ 0 0) (σ 0 1) (σ 3) := fun j z1 z2 => (hW.st j z1 (by omega)).1
  rw [hH.g1, hH.g4]
  refine ⟨hH.wr.o, 1, 0, _, hd, Nat.le_refl _, hX ▸ c_step hl 1 (by omega) hH.wr hR.2.1.1 hH.s473 (by omega) hy ht (fun j z1 z2 => (hR.2.2.1 j z1 (by omega)).1) hst, PV.use ?_⟩
  refine B_X8_pressAndLog_13 hC hH.o ?_
  have hp0 : PrC (row μ (x + 473) (σ 0 0) (stpV σ (σ 3) y t)) (x + 475) σ := hR.2.2.2.1.fr (fun a j z1 z2 => row_off (by omega))
  have loop : ∀ (j k : Nat) (m : Mu), (k : Int) + j = t → (∀ a i, a ≠ x + 475 → a ≠ x + 476 → m a i = row μ (x + 473) (σ 0 0) (stpV σ (σ 3) y t) a i) → PrC m (x + 475) (prsN σ y k) → V X G (Qm X G 0 P) 0 15 [aR x, aI y, aI t, aI (k : Int)] [] γ m := by
    intro j
    induction j with
    | zero =>
      intro k m hk f1 hp
      refine B_X8_pressAndLog_15 hC hH.o ⟨fun _ => ⟨0, 0, _, by omega, Nat.le_refl _, hX ▸ c_forgetWays hl 0 hH, PV.use (B_X8_pressAndLog_38 hC ⟨Nat.le_refl _, hP _ _ _ ⟨rfl, rfl, ?_, frC.up (frC.up (fun a i z => by rw [f1 a i (by omega) (by omega), row_off (by omega)]) (by omega)) (by omega)⟩⟩)⟩, fun z => absurd (by omega) z⟩
      rw [show t.toNat = k by omega]
      have g : ∀ a i, (a = x → i < 18) → a ≠ x + 475 → a ≠ x + 476 → up (up m x 18 0) x 19 0 a i = row μ (x + 473) (σ 0 0) (stpV σ (σ 3) y t) a i := fun a i z1 z2 z3 => by rw [up_ne (by omega), up_ne (by omega)]; exact f1 a i z2 z3
      refine hR.rw2 hwb (fun a i z1 z2 z3 z4 => by rw [g a i z4 (by omega) (by omega), row_off (by omega)]) (fun i z1 z2 => ?_) (hp.fr (fun a i z1 z2 => by rw [up_ne (by omega), up_ne (by omega)])) (by rw [up_ne (by omega), up_same]) up_same (fun i hi => prsN_keep (fun _ => hi) (by decide) (by decide) k) (fun a z1 z2 z3 z4 => by funext i; exact prsN_keep (fun e => absurd e z1) z2 z4 k)
      rw [g (x + 473) i (by omega) (by omega) (by omega), g (x + 474) i (by omega) (by omega) (by omega), row_off (show x + 474 ≠ x + 473 by omega), prsN_keep (k := 4) (by omega) (by decide) (by decide), prsN_3 hW hy k i z1 z2]
      refine ⟨?_, (hR.2.2.1 i z1 z2).2⟩
      by_cases e : i < σ 0 0
      · rw [row_in ⟨z1, e⟩, if_pos e]
        unfold stpV
        rw [show (k : Int) = t by omega]
      · rw [row_out (by omega), if_neg e]; exact (hR.2.2.1 i z1 z2).1
    | succ j ih =>
      intro k m hk f1 hp
      have h5 := (hW.prsN hy k).pr.1
      refine B_X8_pressAndLog_15 hC hH.o ⟨fun z => absurd z (by omega), fun _ => ?_⟩
      rw [hH.g6]
      refine ⟨hH.pr.1, 0, 0, _, by omega, Nat.le_refl _, hX ▸ c_prAdd hl 0 hH.pr hp.1 (by rw [hp.2.1]; exact h5), PV.use ?_⟩
      refine B_X8_pressAndLog_28 hC hH.o ⟨by constructor <;> omega, ?_⟩
      rw [show (k : Int) + 1 = ((k + 1 : Nat) : Int) by omega]
      exact ih (k + 1) _ (by omega) (fun a i z1 z2 => by rw [prAdd_ne z1 (by omega)]; exact f1 a i z1 z2) (hp.add h5)
  exact loop t.toNat 0 _ (by omega) (fun _ _ _ _ => rfl) hp0
theorem c_press (hl : l.stackTraces = false) (d : Nat) (hd : 6 < d) {x w p y : Int} (hH : HallAt G γ x w p) (hR : RepC μ x w σ) (hW : Wf σ) : Cnx l G yX8_press cX8_press 2 (some .boolean) d 1 [aR x, aI y] γ μ (PCo μ γ x w (if isL σ y ∧ σ 2 y = 0 then prsF σ y else σ) (if isL σ y ∧ σ 2 y = 0 then 1 else 0) (if isL σ y then 0 else 1)) (PCx NSEx μ γ x w (if isL σ y ∧ σ 2 y = 0 then prsF σ y else σ) (if isL σ y then 0 else 1)) := by
  refine Cnx.ofP hl (by decide) (noLc nlR (noL1 nlI)) rfl (fun P Y hP hY X hX hC hx => B_X8_press_0 hC hx hH.o ?_)
  have hn := hW.1
  have hq := hW.2.1.b
  refine ⟨6, 1, _, _, hd, Nat.le_refl _, Nat.le_refl _, hX ▸ c_requireLamp hl 6 (Nat.le_refl _) hH hR, ?_, ?_⟩
  rotate_left
  · rintro E γ m ⟨h, rfl, rfl, rfl⟩
    exact hY _ _ _ ⟨rfl, by rw [if_neg h]; decide, rfl, by rw [if_neg (fun z => h z.1)]; exact hR, frC_rf⟩
  rintro r γ m ⟨h1, rfl, rfl, rfl⟩
  rw [if_pos h1] at hP
  refine B_X8_press_5 hC hx hH.o ?_
  rw [hH.g1, hH.wr.g6, hR.2.1.1.2.2.2.2.2 y h1.1 h1.2]
  refine ⟨hH.wr.o, ixO hH.wr.s38 (by omega), fun e => ⟨2, 0, _, by omega, by omega, hX ▸ c_pressAndLog hl 2 (by omega) hH hR hW h1 (by omega), ?_⟩, fun e => ⟨Nat.le_refl _, hP _ _ _ ⟨rfl, by rw [if_neg (fun z => e z.2)], rfl, by rw [if_neg (fun z => e z.2)]; exact hR, frC_rf⟩⟩⟩
  rintro r γ m2 ⟨rfl, rfl, h3, h4⟩
  refine B_X8_press_25 hC hx ⟨Nat.le_refl _, hP _ _ _ ⟨rfl, by rw [if_pos ⟨h1, e⟩], rfl, ?_, h4⟩⟩
  rw [if_pos ⟨h1, e⟩]
  exact h3
theorem c_back (hl : l.stackTraces = false) (d : Nat) (hd : 1 < d) {x w p : Int} (hH : HallAt G γ x w p) (hR : RepC μ x w σ) (hW : Wf σ) : Cn l G yX8_back cX8_back 2 (some .int) d 0 [aR x] γ μ (PC μ γ x w (backF σ) (if σ 0 5 = 0 then -1 else σ 5 (σ 0 5 - 1))) := by
  refine Cn.ofP hl (plainFor_of_name (by decide)) (noL1 nlR) rfl (fun P hP o1 o3 X hX hC => B_X8_back_0 hC hH.o ?_)
  have hn := hW.1
  have hwb := hH.wb
  have hq := hW.2.1.b
  obtain ⟨p1, p2, p3⟩ := id hR.2.2.2.1
  have h5 := hW.pr
  have h51 := h5.1
  have hst : inQ (σ 0 0) (σ 0 1) (σ 3) := fun j z1 z2 => (hW.st j z1 (by omega)).1
  rw [hH.g6]
  refine ⟨hH.pr.1, 0, 0, _, by omega, Nat.le_refl _, hX ▸ c_prRem hl 0 hH.pr p1 (by rw [p2]; exact h5.1), ?_⟩
  rintro r γ m ⟨rfl, rfl, rfl⟩
  rw [p2]
  unfold prRem
  rw [p2]
  unfold backF at hP
  by_cases e : σ 0 5 = 0
  · rw [if_pos e, if_pos e] at hP ⊢
    exact B_X8_back_7 hC hH.o ⟨fun _ => ⟨Nat.le_refl _, hP _ _ _ ⟨rfl, rfl, hR, frC_rf⟩⟩, fun z => absurd (by decide) z⟩
  · rw [if_neg e, if_neg e] at hP ⊢
    have hb := h5.2 (σ 0 5 - 1) (by omega) (by omega)
    have eb : μ (x + 475 + 1) ((μ (x + 475) 1 + 99) % 100) = σ 5 (σ 0 5 - 1) := by
      rw [← p3 (σ 0 5 - 1) (by omega) (by omega)]
      congr 1
      omega
    rw [eb]
    generalize σ 5 (σ 0 5 - 1) = y at *
    generalize hm : up (up μ (x + 475) 2 (σ 0 5 - 1)) (x + 475) 1 ((μ (x + 475) 1 + 99) % 100) = m
    have f : ∀ a i, a ≠ x + 475 → m a i = μ a i := fun a i z => by rw [← hm, up_ne (by omega), up_ne (by omega)]
    refine B_X8_back_7 hC hH.o ⟨fun z => by omega, fun _ => ?_⟩
    rw [hH.g1, hH.g4, f w 0 (by omega), f w 1 (by omega), hR.2.1.1.1, hR.2.1.1.2.1]
    refine ⟨hH.wr.o, fun _ => ⟨by constructor <;> omega, 1, 0, _, hd, Nat.le_refl _, hX ▸ c_step hl 1 (by omega) hH.wr (hR.2.1.1.fr2 (fun a i z1 z2 => f a i (by omega))) hH.s473 (by omega) hb (by omega) (fun j z1 z2 => by rw [f _ _ (by omega)]; exact (hR.2.2.1 j z1 (by omega)).1) hst, PV.use ?_⟩, fun z => absurd hb.2 z⟩
    refine B_X8_back_46 hC hH.o ⟨0, 0, _, by omega, Nat.le_refl _, hX ▸ c_forgetWays hl 0 hH, PV.use (B_X8_back_50 hC ⟨Nat.le_refl _, hP _ _ _ ⟨rfl, rfl, ?_, ?_⟩⟩)⟩
    · have g : ∀ a i, (a = x → i < 18) → up (up (row m (x + 473) (σ 0 0) (stpV σ (σ 3) y (σ 0 1 - 1))) x 18 0) x 19 0 a i = row m (x + 473) (σ 0 0) (stpV σ (σ 3) y (σ 0 1 - 1)) a i := fun a i z1 => by rw [up_ne (by omega), up_ne (by omega)]
      refine hR.rw2 hwb (fun a i z1 z2 z3 z4 => by rw [g a i z4, row_off (by omega), f a i (by omega)]) (fun i z1 z2 => ?_) ⟨?_, ?_, fun i z1 z2 => ?_⟩ (by rw [up_ne (by omega), up_same]) up_same (fun i hi => by rw [row_off (by decide), up_ne (by omega)]) (fun a z1 z2 z3 z4 => by rw [row_offF z2, up_off z1])
      · rw [g _ _ (by omega), g _ _ (by omega), row_off (show x + 474 ≠ x + 473 by omega), f _ _ (by omega), row_off (a := 3) (b := 4) (by decide), up_ne (by omega)]
        refine ⟨?_, (hR.2.2.1 i z1 z2).2⟩
        by_cases e3 : i < σ 0 0
        · rw [row_in ⟨z1, e3⟩, row_in ⟨z1, e3⟩]
          unfold stpV
          rw [show σ 3 i + (σ 0 1 - 1) * sA σ y i = (σ 3 i + σ 0 1 - sA σ y i) + σ 0 1 * (sA σ y i - 1) by rw [Int.sub_mul, Int.mul_sub, Int.one_mul, Int.mul_one]; omega, Int.add_mul_emod_self_left]
        · rw [row_out (by omega), row_out (by omega), up_ne (by omega), f _ _ (by omega)]; exact (hR.2.2.1 i z1 z2).1
      · rw [g _ _ (by omega), row_off (by omega), ← hm, up_same]; omega
      · rw [g _ _ (by omega), row_off (by omega), ← hm, up_ne (by omega), up_same, row_off (by decide), up_same]
      · rw [row_off (by decide), up_same] at z2 ⊢
        rw [g _ _ (by omega), g _ _ (by omega), row_off (by omega), row_off (by omega), row_off (by decide), up_ne (by omega), f _ _ (by omega), ← p3 i z1 (by omega), ← hm, up_same]
        congr 1
        omega
    · exact frC.up (frC.up (frC.row (fun a i z => f a i (by omega)) (by omega)) (by omega)) (by omega)
theorem c_apply (hl : l.stackTraces = false) (d : Nat) (hd : 2 < d) {x w p : Int} (hH : HallAt G γ x w p) (hR : RepC μ x w σ) (hW : Wf σ) : Cn l G yX8_apply cX8_apply 3 (some .int) d 0 [aR x] γ μ (PC μ γ x w (if σ 0 8 = 0 then σ else aplF σ (σ 0 0)) (if σ 0 8 = 0 then -1 else aplC σ (σ 0 0))) := by
  refine Cn.ofP hl (plainFor_of_name (by decide)) (noL1 nlR) rfl (fun P hP o1 o3 X hX hC => B_X8_apply_0 hC hH.o ?_)
  have hn := hW.1
  have hq := hW.2.1.b
  have hk := hR.2.2.2.2.2.1.1
  by_cases e : σ 0 8 = 0
  · rw [if_pos e, if_pos e] at hP
    exact ⟨fun z => absurd (hk.mpr e) z, fun _ => ⟨Nat.le_refl _, hP _ _ _ ⟨rfl, rfl, hR, frC_rf⟩⟩⟩
  rw [if_neg e, if_neg e] at hP
  refine ⟨fun _ => ?_, fun z => absurd (hk.mp z) e⟩
  have loop := rem_ind (n := σ 0 0) (P := fun i => ∀ m : Mu, RepC m x w (aplF σ i) → frB μ m x (x + 518) → V X G (Qm X G 0 P) 0 13 [aR x, aI (aplC σ i), aI i] [] γ m) (fun i i0 i1 ih m hm fm => ?_)
  · exact loop 0 (by omega) hn.1 μ hR frC_rf
  · obtain ⟨w1, w2⟩ := aplF_ok hW i i0 i1
    have ac := aplC_b hW e i i0 i1
    obtain ⟨D1, D2, D3, D4, D5, D6⟩ := hm.2.1.1
    have es : ∀ k, 0 ≤ k → aplF σ (k + 1) = if σ 2 k = 0 then prsN (aplF σ k) k (σ 9 k).toNat else aplF σ k := fun k h0 => foldI_s h0
    have ec : ∀ k, 0 ≤ k → aplC σ (k + 1) = if σ 2 k = 0 then aplC σ k + σ 9 k else aplC σ k := fun k h0 => foldI_s h0
    have w0 : ∀ k, k ≠ 5 → aplF σ i 0 k = σ 0 k := fun k h => w2 0 k (fun _ => h) (by decide) (by decide)
    have w22 : aplF σ i 2 i = σ 2 i := w2 2 i (by omega) (by decide) (by decide)
    have kp := hm.2.2.2.2.2.1.2.1 (by rw [w0 8 (by decide)]; exact e)
    rw [w0 0 (by decide)] at kp
    refine B_X8_apply_13 hC hH.o ?_
    rw [hH.g1, D1, w0 0 (by decide), hH.wr.g6, hH.g9]
    rcases Int.lt_or_le i (σ 0 0) with hi | hi
    · have hr9 := hW.rw e i i0 hi
      rw [D6 i i0 (by rw [w0 0 (by decide)]; exact hi), w22, kp i i0 hi, w2 9 i (by omega) (by decide) (by decide)]
      refine ⟨hH.wr.o, fun z => absurd z (by omega), fun _ => ⟨ixO hH.wr.s38 (by omega), fun e2 => ⟨by constructor <;> omega, ?_⟩, fun e2 => ⟨ixO hH.s483 (by omega), 2, 0, _, hd, Nat.le_refl _, hX ▸ c_pressAndLog hl 2 (by omega) hH hm w1 (by unfold isL; rw [w0 0 (by decide)]; exact ⟨i0, hi⟩) (by rw [w0 1 (by decide)]; exact hr9), ?_⟩⟩⟩
      · have := ih hi m (by rw [es i i0, if_neg e2]; exact hm) fm
        rw [ec i i0, if_neg e2] at this
        exact this
      · rintro r γ m2 ⟨rfl, rfl, h3, h4⟩
        refine B_X8_apply_47 hC hH.o ?_
        have q1 := h3.2.2.2.2.2.1.2.1 (by rw [prsN_keep (by omega) (by decide) (by decide), w0 8 (by decide)]; exact e) i i0 (by rw [prsN_keep (by omega) (by decide) (by decide), w0 0 (by decide)]; exact hi)
        rw [prsN_keep (by omega) (by decide) (by decide), w2 9 i (by omega) (by decide) (by decide)] at q1
        rw [hH.g9, q1]
        have := ih hi m2 (by rw [es i i0, if_pos e2]; exact h3) (fm.t h4)
        rw [ec i i0, if_pos e2] at this
        exact ⟨ixO hH.s483 (by omega), by constructor <;> omega, by constructor <;> omega, this⟩
    · obtain rfl : i = σ 0 0 := by omega
      exact ⟨hH.wr.o, fun _ => ⟨Nat.le_refl _, hP _ _ _ ⟨rfl, rfl, hm, fm⟩⟩, fun z => absurd (Int.le_refl _) z⟩
theorem c_chasing (hl : l.stackTraces = false) (d : Nat) (hd : 1 < d) {x w p a b y : Int} {f g : Int → Int} (hH : HallAt G γ x w p) (hD : WrC μ w σ) (hW : Wf σ) (ha : shO G a 11 36) (hb : shO G b 11 36) (hy : σ 0 2 ≤ y ∧ y < σ 0 0) (hw : 1 ≤ σ 0 2) (hf : ∀ j, 0 ≤ j → j < σ 0 0 → μ a j = f j) (hg : ∀ j, 0 ≤ j → j < σ 0 0 → μ b j = g j) (hfq : inQ (σ 0 0) (σ 0 1) f) (hgq : inQ (σ 0 0) (σ 0 1) g) : Cn l G yX8_chasing cX8_chasing 6 (some .int) d 0 [aR x, aR a, aR b, aI y] γ μ (PI (chsG σ g f y (y - σ 0 2)) γ μ) := by
  refine Cn.ofP hl (plainFor_of_name (by decide)) (noLc nlR (noLc nlR (noLc nlR (noL1 nlI)))) rfl (fun P hP o1 o3 X hX hC => B_X8_chasing_0 hC hH.o ?_)
  have hn := hW.1
  have hq := hW.2.1.b
  obtain ⟨⟨D1, D2, D3, D4, D5, D6⟩, D7, D8, D9⟩ := hD
  have hu : 0 ≤ y - σ 0 2 ∧ y - σ 0 2 < σ 0 0 := by omega
  have hA := (D5 y (by omega) hy.2).2 (y - σ 0 2) hu.1 hu.2
  have hF := hfq _ hu.1 hu.2
  have hG := hgq _ hu.1 hu.2
  rw [hH.g1, D7, hH.wr.g6, D6 y (by omega) hy.2, hf _ hu.1 hu.2, hg _ hu.1 hu.2, D2]
  unfold chsG at hP
  generalize hud : y - σ 0 2 = u at *
  refine ⟨hH.wr.o, by constructor <;> omega, fun z => by omega, fun _ => ⟨ixO hH.wr.s38 (by omega), fun e => ⟨ixO hb (by omega), ixO ha (by omega), by constructor <;> omega, 1, 0, _, hd, Nat.le_refl _, hX ▸ c_mod hl 1 (by omega), PI.use ?_⟩, fun e => ⟨Nat.le_refl _, hP _ _ _ ⟨by rw [if_pos (Or.inl e)], rfl, rfl⟩⟩⟩⟩
  rw [if_pos hq.1]
  refine B_X8_chasing_49 hC hH.o ?_
  rw [hH.g1, hH.wr.g5, hH.wr.gA (by omega), D2, (D5 y (by omega) hy.2).1 u hu.1 hu.2]
  refine ⟨hH.wr.o, ixO hH.wr.s1 (by omega), ixO (hH.wr.sA (by omega)) (by omega), 0, 0, _, by omega, Nat.le_refl _, hX ▸ c_inverse hl 0 hq hA, PI.use ?_⟩
  have hi := inv_b hW.2.1 hA
  have el : (g u - f u) % σ 0 1 = (g u - f u + σ 0 1) % σ 0 1 := by rw [Int.add_emod_right]
  have hm1 := Int.emod_nonneg (g u - f u + σ 0 1) (show σ 0 1 ≠ 0 by omega)
  have hm2 := Int.emod_lt_of_pos (g u - f u + σ 0 1) (show 0 < σ 0 1 by omega)
  rw [el]
  have hp := mulR (a := (g u - f u + σ 0 1) % σ 0 1) (b := invQ (sA σ y u) (σ 0 1)) (m := 5) (by omega) (by omega)
  refine B_X8_chasing_75 hC hH.o ?_
  rw [hH.g1, D2]
  refine ⟨by constructor <;> omega, hH.wr.o, 1, 0, _, hd, Nat.le_refl _, hX ▸ c_mod hl 1 (by omega), PI.use (B_X8_chasing_86 hC ⟨Nat.le_refl _, hP _ _ _ ⟨?_, rfl, rfl⟩⟩)⟩
  rw [if_pos hq.1]
  by_cases e2 : sA σ y u = 0
  · rw [if_pos (Or.inr e2), e2, inv0 hW.2.1, Int.mul_zero, Int.zero_emod]
  · rw [if_neg (fun z => z.elim (fun k => k e) e2)]
theorem c_chase (hl : l.stackTraces = false) (d : Nat) (hd : 2 < d) {x w p : Int} (hH : HallAt G γ x w p) (hR : RepC μ x w σ) (hW : Wf σ) : Cn l G yX8_chase cX8_chase 4 (some .int) d 0 [aR x] γ μ (PC μ γ x w (if σ 0 2 = 0 then σ else (chaF σ (σ 0 0 - σ 0 2)).1) (if σ 0 2 = 0 then -1 else (chaF σ (σ 0 0 - σ 0 2)).2)) := by
  refine Cn.ofP hl (plainFor_of_name (by decide)) (noL1 nlR) rfl (fun P hP o1 o3 X hX hC => B_X8_chase_0 hC hH.o ?_)
  have hn := hW.1
  have hq := hW.2.1.b
  rw [hH.g1]
  refine ⟨hH.wr.o, 0, 0, _, by omega, Nat.le_refl _, hX ▸ c_isNet hl 0 hH.wr, PI.use ?_⟩
  rw [hR.2.1.2.2.2]
  refine B_X8_chase_7 hC hH.o ?_
  rw [hH.g1, hR.2.1.2.1]
  rcases hW.w with ⟨e1, -, e3⟩ | ⟨e1, e2, e3, e4⟩
  · rw [if_pos e1, if_pos e1] at hP
    rw [if_pos e3]
    exact ⟨fun z => absurd z (by decide), fun _ => ⟨Nat.le_refl _, hP _ _ _ ⟨rfl, rfl, hR, frC_rf⟩⟩⟩
  rw [if_neg (by omega), if_neg (by omega)] at hP
  rw [if_neg (show ¬ σ 0 4 = -1 by omega)]
  refine ⟨fun _ => ⟨hH.wr.o, ?_⟩, fun z => absurd rfl z⟩
  have st : ∀ t, 0 ≤ t → chaF σ (t + 1) = (prsN (chaF σ t).1 (σ 0 2 + t) (chsV (chaF σ t).1 ((chaF σ t).1 3) (σ 0 2 + t) t).toNat, (chaF σ t).2 + chsV (chaF σ t).1 ((chaF σ t).1 3) (σ 0 2 + t) t) := fun t h => foldI_s h
  have loop := rem_ind (n := σ 0 0 - σ 0 2) (P := fun t => ∀ m : Mu, RepC m x w (chaF σ t).1 → Wf (chaF σ t).1 → (∀ k j, (k = 0 → j ≠ 5) → k ≠ 3 → k ≠ 5 → (chaF σ t).1 k j = σ k j) → (0 ≤ (chaF σ t).2 ∧ (chaF σ t).2 ≤ 5 * t) → frB μ m x (x + 518) → V X G (Qm X G 0 P) 0 22 [aR x, aI (chaF σ t).2, aI (σ 0 2 + t), aD] [] γ m) (fun t t0 t1 ih m hm w1 w2 hc fm => ?_)
  · have := loop 0 (by omega) (by omega) μ hR hW (fun _ _ _ _ _ => rfl) (by constructor <;> exact Int.le_refl _) frC_rf
    rw [Int.add_zero] at this
    exact this
  · have w0 : ∀ k, k ≠ 5 → (chaF σ t).1 0 k = σ 0 k := fun k h => w2 0 k (fun _ => h) (by decide) (by decide)
    have sc := chsV_b (f := (chaF σ t).1 3) (x := σ 0 2 + t) (y := t) w1
    refine B_X8_chase_22 hC hH.o ?_
    rw [hH.g1, hm.2.1.1.1, w0 0 (by decide), hH.g4, hH.g5]
    refine ⟨hH.wr.o, fun h => ?_, fun h => ?_⟩
    · obtain rfl : t = σ 0 0 - σ 0 2 := by omega
      exact ⟨Nat.le_refl _, hP _ _ _ ⟨rfl, rfl, hm, fm⟩⟩
    · have st3 : inQ ((chaF σ t).1 0 0) ((chaF σ t).1 0 1) ((chaF σ t).1 3) := fun j z1 z2 => (w1.st j z1 (by rw [w0 0 (by decide)] at z2; omega)).1
      have st4 : inQ ((chaF σ t).1 0 0) ((chaF σ t).1 0 1) ((chaF σ t).1 4) := fun j z1 z2 => (w1.wi j z1 (by rw [w0 0 (by decide)] at z2; omega)).1
      refine ⟨2, 0, _, hd, Nat.le_refl _, hX ▸ c_chasing hl 2 (by omega) hH hm.2.1 w1 hH.s473 hH.s474 (by rw [w0 2 (by decide), w0 0 (by decide)]; omega) (by rw [w0 2 (by decide)]; exact e1) (fun j z1 z2 => (hm.2.2.1 j z1 (by rw [w0 0 (by decide)] at z2; omega)).1) (fun j z1 z2 => (hm.2.2.1 j z1 (by rw [w0 0 (by decide)] at z2; omega)).2) st3 st4, PI.use ?_⟩
      rw [w0 2 (by decide), show σ 0 2 + t - σ 0 2 = t by omega, show chsG (chaF σ t).1 ((chaF σ t).1 4) ((chaF σ t).1 3) (σ 0 2 + t) t = chsV (chaF σ t).1 ((chaF σ t).1 3) (σ 0 2 + t) t from rfl]
      have hyl : isL (chaF σ t).1 (σ 0 2 + t) := by unfold isL; rw [w0 0 (by decide)]; omega
      refine B_X8_chase_46 hC hH.o ⟨2, 0, _, hd, Nat.le_refl _, hX ▸ c_pressAndLog hl 2 (by omega) hH hm w1 hyl sc, ?_⟩
      rintro r γ m2 ⟨rfl, rfl, h3, h4⟩
      rw [w0 1 (by decide)] at sc
      have e1' := st t t0
      have i1 : (chaF σ (t + 1)).1 = prsN (chaF σ t).1 (σ 0 2 + t) (chsV (chaF σ t).1 ((chaF σ t).1 3) (σ 0 2 + t) t).toNat := by rw [e1']
      have i2 : (chaF σ (t + 1)).2 = (chaF σ t).2 + chsV (chaF σ t).1 ((chaF σ t).1 3) (σ 0 2 + t) t := by rw [e1']
      have := ih (by omega) m2 (by rw [i1]; exact h3) (by rw [i1]; exact w1.prsN hyl _) (fun k j z1 z2 z3 => by rw [i1, prsN_keep z1 z2 z3]; exact w2 k j z1 z2 z3) (by rw [i2]; omega) (fm.t h4)
      rw [i2, show σ 0 2 + (t + 1) = σ 0 2 + t + 1 by omega] at this
      exact B_X8_chase_53 hC hH.o ⟨by constructor <;> omega, by constructor <;> omega, this⟩
end CPress
