/-! how many presses: the walk over own buttons; the class: hard -/
theorem gRun_cover (q n : Int) (jm : Int → Int) (vec : Int → Int → Int) : ∀ (k b : Nat), b < k → jm b = 0 → (∃ i : Int, 0 ≤ i ∧ i < (gRun q n jm vec k).c ∧ (gRun q n jm vec k).od i = b) ∨ (∃ i : Int, 0 ≤ i ∧ i < (gRun q n jm vec k).tc ∧ (gRun q n jm vec k).td i = b)
  | 0, b, h, _ => by omega
  | k + 1, b, h, hj => by
    by_cases e : b = k
    · subst e
      unfold gRun
      rw [if_pos hj]
      unfold gStep
      split
      · refine Or.inr ⟨(gRun q n jm vec b).tc, by omega, ?_, ?_⟩
        · show ((gRun q n jm vec b).tc : Int) < ((gRun q n jm vec b).tc + 1 : Nat)
          omega
        · show fup _ _ _ _ = _
          rw [fup_s]
      · refine Or.inl ⟨(gRun q n jm vec b).c, by omega, ?_, ?_⟩
        · show ((gRun q n jm vec b).c : Int) < ((gRun q n jm vec b).c + 1 : Nat)
          omega
        · show fup _ _ _ _ = _
          rw [fup_s]
    · have ih := gRun_cover q n jm vec k b (by omega) hj
      unfold gRun
      split
      · unfold gStep
        split
        · rcases ih with ⟨i, i0, i1, i2⟩ | ⟨i, i0, i1, i2⟩
          · exact Or.inl ⟨i, i0, i1, i2⟩
          · refine Or.inr ⟨i, i0, ?_, ?_⟩
            · show i < ((gRun q n jm vec k).tc + 1 : Nat)
              omega
            · show fup _ _ _ _ = _
              rw [fup_n (by omega)]; exact i2
        · rcases ih with ⟨i, i0, i1, i2⟩ | ⟨i, i0, i1, i2⟩
          · refine Or.inl ⟨i, i0, ?_, ?_⟩
            · show i < ((gRun q n jm vec k).c + 1 : Nat)
              omega
            · show fup _ _ _ _ = _
              rw [fup_n (by omega)]; exact i2
          · exact Or.inr ⟨i, i0, i1, i2⟩
      · exact ih
theorem fndL_at {f : Int → Int} {x : Int} : ∀ (n : Nat) (i : Int), 0 ≤ i → (fndL f x n i = -1 ∧ ∀ j : Int, i ≤ j → j < i + n → f j ≠ x) ∨ (i ≤ fndL f x n i ∧ fndL f x n i < i + n ∧ f (fndL f x n i) = x)
  | 0, i, _ => Or.inl ⟨rfl, fun j z1 z2 => by omega⟩
  | n + 1, i, h => by
    unfold fndL
    by_cases e : f i = x
    · rw [if_pos e]
      exact Or.inr ⟨Int.le_refl _, by omega, e⟩
    · rw [if_neg e]
      rcases fndL_at (f := f) (x := x) n (i + 1) (by omega) with ⟨a, b⟩ | ⟨a, b, c⟩
      · refine Or.inl ⟨a, fun j z1 z2 => ?_⟩
        by_cases w : j = i
        · rw [w]; exact e
        · exact b j (by omega) (by omega)
      · exact Or.inr ⟨by omega, by omega, c⟩
theorem partP_ok {n q : Int} {A : Int → Int → Int} {jm : Int → Int} {b : Int} (h0 : 0 ≤ b) (h1 : b < n) (hj : jm b = 0) : ptOk (Sbt n q A jm) q b (partP (Sbt n q A jm) q b) := by
  rcases fndL_at (f := (Sbt n q A jm).td) (x := b) (Sbt n q A jm).tc 0 (Int.le_refl _) with ⟨a, a2⟩ | ⟨a, a2, a3⟩
  · refine Or.inr ⟨?_, fun r _ _ => ?_⟩
    · have := gRun_cover q n jm A n.toNat b.toNat (by omega) (by rw [Int.toNat_of_nonneg h0]; exact hj)
      rw [Int.toNat_of_nonneg h0] at this
      rcases this with w | ⟨i, i0, i1, i2⟩
      · exact w
      · exact absurd i2 (a2 i i0 (by rw [Int.zero_add]; exact i1))
    · unfold partP
      rw [if_pos a]
  · refine Or.inl ⟨_, a, by rw [Int.zero_add] at a2; exact a2, a3, fun r _ _ => ?_⟩
    unfold partP
    rw [if_neg (by omega)]
theorem partP_in {S : GS} {q b : Int} (hq : 2 ≤ q) (r : Int) : 0 ≤ partP S q b r ∧ partP S q b r < q := by
  unfold partP
  split
  · split <;> omega
  · exact ⟨Int.emod_nonneg _ (by omega), Int.emod_lt_of_pos _ (by omega)⟩
theorem plusR_vl {q : Int} {pt : Int → Int} (hq : 0 < q) : ∀ (k : Nat) (r left at_ v : Int), plusR q pt k r left at_ v = v + at_ * vlN q (fun i => (dgF q left i + pt (r + i)) % q) k
  | 0, r, left, at_, v => by
    rw [plusR]
    show v = v + at_ * 0
    rw [Int.mul_zero, Int.add_zero]
  | k + 1, r, left, at_, v => by
    rw [plusR, plusR_vl hq k, vlN_front]
    have e0 : dgF q left 0 = left % q := rfl
    have e1 : vlN q (fun i => (dgF q (left / q) i + pt (r + 1 + i)) % q) k = vlN q (fun i => (dgF q left (1 + i) + pt (r + (1 + i))) % q) k := vlN_cong k (fun i z1 z2 => by
      have := dgF_hi (q := q) (v := left) hq (a := 1) (i := i.toNat)
      rw [show q ^ 1 = q by rw [Int.pow_succ, Int.pow_zero, Int.one_mul], show ((1 + i.toNat : Nat) : Int) = 1 + i by omega, Int.toNat_of_nonneg z1] at this
      rw [this, show r + 1 + i = r + (1 + i) by omega])
    rw [e1, e0, Int.add_zero, Int.mul_add, Int.mul_assoc]
    omega
theorem plusP_vl {q : Int} {pt : Int → Int} (hq : 0 < q) {c : Nat} {v : Int} : plusP q c pt v = vlN q (fun i => (dgF q v i + pt i) % q) c := by
  unfold plusP
  rw [plusR_vl hq, Int.one_mul, Int.zero_add]
  exact vlN_cong c (fun i _ _ => by rw [Int.zero_add])
/-- every state is made by as many presses as its digits are together -/
theorem hd_path {n q : Int} {A : Int → Int → Int} {jm : Int → Int} (hq : 2 ≤ q) (hn : 0 ≤ n) : ∀ (m : Nat) (e : Int → Int), dgs q (Sbt n q A jm).c e → sumI e (Sbt n q A jm).c = m → PF (nxH n q A jm) n.toNat m 0 (vlN q e (Sbt n q A jm).c)
  | 0, e, he, hs => by
    show 0 = _
    have key : ∀ c : Nat, dgs q c e → sumI e c = 0 → ∀ i : Int, 0 ≤ i → i < c → e i = 0 := by
      intro c
      induction c with
      | zero => intro _ _ i z1 z2; omega
      | succ c ih =>
        intro hd h i z1 z2
        rw [show ((c + 1 : Nat) : Int) = (c : Int) + 1 by omega, sumI_s (by omega)] at h
        have h1 := sumI_nonneg (f := e) (n := c) (by omega) (fun j z1 z2 => (hd j z1 (by omega)).1)
        have h2 := hd c (by omega) (by omega)
        by_cases w : i = c
        · rw [w]; omega
        · exact ih (fun j z1 z2 => hd j z1 (by omega)) (by omega) i z1 (by omega)
    exact (vlN_0 _ (key _ he hs)).symm
  | m + 1, e, he, hs => by
    have q0 : 0 < q := by omega
    obtain ⟨r, r0, r1, r2⟩ : ∃ r : Int, 0 ≤ r ∧ r < (Sbt n q A jm).c ∧ 1 ≤ e r := by
      rcases fs_rng (f := e) (n := ((Sbt n q A jm).c : Int)) (by omega) with ⟨w1, w2⟩ | ⟨w1, w2, w3, -⟩
      · rw [sumI_zero (by omega) w2] at hs; omega
      · exact ⟨_, w1, w2, by have := he _ w1 w2; omega⟩
    have her := he r r0 r1
    have he' : dgs q (Sbt n q A jm).c (fup e r (e r - 1)) := dgs_fup he (by omega)
    have hs' : sumI (fup e r (e r - 1)) (Sbt n q A jm).c = m := by
      rw [sumI_one (f := fup e r (e r - 1)) (g := e) ⟨r0, r1⟩ (fun j z1 z2 z3 => fup_n z3), fup_s, hs]
      omega
    have ih := hd_path hq hn m _ he' hs'
    obtain ⟨-, so1', so2, so3, -⟩ := gRun_sort q n jm A n.toNat
    have so1 : ∀ i j : Int, 0 ≤ i → i < j → j < (Sbt n q A jm).c → (Sbt n q A jm).od i < (Sbt n q A jm).od j := so1'
    have ids : 0 ≤ (Sbt n q A jm).od r ∧ (Sbt n q A jm).od r < (n.toNat : Int) := (gRun_ids q n jm A n.toNat).1 r r0 r1
    have hvb := vlN_b q0 _ he
    refine ⟨_, ih, ((Sbt n q A jm).od r).toNat, by omega, ?_, by omega⟩
    rw [Int.toNat_of_nonneg ids.1]
    unfold nxH
    rw [if_pos (so3 r r0 r1), plusP_vl q0]
    refine vlN_cong _ (fun i z1 z2 => ?_)
    have hp : partP (Sbt n q A jm) q ((Sbt n q A jm).od r) i = if i = r then 1 else 0 := by
      unfold partP
      rw [if_pos (fndL_none _ 0 (fun j z3 z4 => fun w => so2 r j r0 r1 z3 (by rw [Int.zero_add] at z4; exact z4) w.symm))]
      by_cases w : i = r
      · rw [if_pos (by rw [w]), if_pos w]
      · rw [if_neg w, if_neg]
        intro w2
        rcases Int.lt_trichotomy i r with w3 | w3 | w3
        · have := so1 i r z1 w3 r1; omega
        · exact w w3
        · have := so1 r i r0 w3 z2; omega
    rw [dg_vl q0 he' z1 z2, hp]
    have hei := he i z1 z2
    by_cases w : i = r
    · rw [w, fup_s, if_pos rfl, show e r - 1 + 1 = e r by omega]
      exact Int.emod_eq_of_lt her.1 her.2
    · rw [fup_n w, if_neg w, Int.add_zero]
      exact Int.emod_eq_of_lt hei.1 hei.2
theorem hd_room {q : Int} {c : Nat} (hq : qP q) (h : q ^ c ≤ 10000) : c ≤ 13 ∧ 36 * (q ^ hlf c + q ^ (c - hlf c)) ≤ 7200 ∧ (q - 1) * c < 64 := by
  have hc : c ≤ 13 := by
    rcases Nat.lt_or_ge 13 c with w | w
    · have h1 : (2 : Int) ^ 14 ≤ q ^ c := by
        have a1 := pw_mono (q := q) (by rcases hq with rfl | rfl | rfl <;> decide) (show 14 ≤ c by omega)
        have a2 : (2 : Int) ^ 14 ≤ q ^ 14 := by rcases hq with rfl | rfl | rfl <;> decide
        omega
      have : (2 : Int) ^ 14 = 16384 := by decide
      omega
    · exact w
  refine ⟨hc, ?_⟩
  rcases (show c = 0 ∨ c = 1 ∨ c = 2 ∨ c = 3 ∨ c = 4 ∨ c = 5 ∨ c = 6 ∨ c = 7 ∨ c = 8 ∨ c = 9 ∨ c = 10 ∨ c = 11 ∨ c = 12 ∨ c = 13 by omega) with rfl | rfl | rfl | rfl | rfl | rfl | rfl | rfl | rfl | rfl | rfl | rfl | rfl | rfl <;> rcases hq with rfl | rfl | rfl <;> first | decide | exact absurd h (by decide)
theorem hard_math {σ : Mu} (hW : Wf σ) (h10 : σ 0 1 ^ (SbF σ).c ≤ 10000) {k : Nat} (h1 : k < (xRun (nxH (σ 0 0) (σ 0 1) (sA σ) (σ 2)) (σ 0 0).toNat 0 k).w.last) (h2 : (xRun (nxH (σ 0 0) (σ 0 1) (sA σ) (σ 2)) (σ 0 0).toNat 0 (k + 1)).w.last = k + 1) : (xRun (nxH (σ 0 0) (σ 0 1) (sA σ) (σ 2)) (σ 0 0).toNat 0 (k + 1)).w.way ((xRun (nxH (σ 0 0) (σ 0 1) (sA σ) (σ 2)) (σ 0 0).toNat 0 (k + 1)).w.que k) = hrdF σ (-1) ∧ (∀ j, 0 ≤ j → lvC (xRun (nxH (σ 0 0) (σ 0 1) (sA σ) (σ 2)) (σ 0 0).toNat 0 (k + 1)).w j (k + 1) = hrdF σ j) ∧ hdMax (σ 0 0) (σ 0 1) (sA σ) (σ 2) < 64 := by
  have hn := hW.1
  have hq := hW.2.1.b
  have q0 : 0 < σ 0 1 := by omega
  have hp := pw_pos (q := σ 0 1) q0 (SbF σ).c
  have ok : nxOk (σ 0 1 ^ (SbF σ).c).toNat (σ 0 0).toNat (nxH (σ 0 0) (σ 0 1) (sA σ) (σ 2)) := nxH_ok q0
  have hs : (0 : Int) ≤ 0 ∧ (0 : Int) < ((σ 0 1 ^ (SbF σ).c).toNat : Nat) := by omega
  have eF : hdW (σ 0 0) (σ 0 1) (sA σ) (σ 2) = (xRun (nxH (σ 0 0) (σ 0 1) (sA σ) (σ 2)) (σ 0 0).toNat 0 (k + 1)).w := xRun_N hs ok h1 h2
  have XF := xRun_fin hs ok h1 h2
  obtain ⟨f1, f2, f3, f4⟩ := XF.fin (by rw [h2])
  obtain ⟨B, -, -, -, S5, -⟩ := XF
  have eM : hdMax (σ 0 0) (σ 0 1) (sA σ) (σ 2) = (xRun (nxH (σ 0 0) (σ 0 1) (sA σ) (σ 2)) (σ 0 0).toNat 0 (k + 1)).w.way ((xRun (nxH (σ 0 0) (σ 0 1) (sA σ) (σ 2)) (σ 0 0).toNat 0 (k + 1)).w.que k) := by
    unfold hdMax
    rw [eF, h2, show ((k + 1 : Nat) : Int) - 1 = k by omega]
  have eC : ∀ j, hdCnt (σ 0 0) (σ 0 1) (sA σ) (σ 2) j = lvC (xRun (nxH (σ 0 0) (σ 0 1) (sA σ) (σ 2)) (σ 0 0).toNat 0 (k + 1)).w j (k + 1) := fun j => by
    unfold hdCnt
    rw [eF, h2]
  generalize xRun (nxH (σ 0 0) (σ 0 1) (sA σ) (σ 2)) (σ 0 0).toNat 0 (k + 1) = Z at *
  refine ⟨?_, fun j z1 => ?_, ?_⟩
  · unfold hrdF
    rw [if_neg (by omega), if_pos rfl, eM]
  · unfold hrdF
    rw [if_neg (by omega), if_neg (by omega), eM, eC]
    by_cases w : j < 0 ∨ Z.w.way (Z.w.que k) < j
    · rw [if_pos w]
      refine lvC_0 _ (fun i z2 z3 => ?_)
      have := S5 i k z2 (by omega) (by omega)
      omega
    · rw [if_neg w]
  · obtain ⟨b1, b2, b3⟩ := B.2.1 k (by omega) (by omega)
    have hd : dgs (σ 0 1) (SbF σ).c (dgF (σ 0 1) (Z.w.que k)) := fun i _ _ => dgF_in q0 i
    have hsn := sumI_nonneg (f := dgF (σ 0 1) (Z.w.que k)) (n := ((SbF σ).c : Int)) (by omega) (fun i _ _ => (dgF_in q0 i).1)
    have hsl := sumI_le (f := dgF (σ 0 1) (Z.w.que k)) (n := ((SbF σ).c : Int)) (c := σ 0 1 - 1) (by omega) (fun i _ _ => by have := dgF_in (q := σ 0 1) (v := Z.w.que k) q0 i; omega)
    have hp2 := hd_path (n := σ 0 0) (q := σ 0 1) (A := sA σ) (jm := σ 2) hq.1 hn.1 (sumI (dgF (σ 0 1) (Z.w.que k)) (SbF σ).c).toNat _ hd (show sumI (dgF (σ 0 1) (Z.w.que k)) ((SbF σ).c : Int) = ((sumI (dgF (σ 0 1) (Z.w.que k)) (SbF σ).c).toNat : Int) by omega)
    rw [vl_dg q0 _ _ b1.1 (show Z.w.que k < σ 0 1 ^ (SbF σ).c by omega)] at hp2
    have := f1 _ _ hp2
    have := (hd_room hW.2.1 h10).2.2
    rw [eM]
    omega
theorem cpyI2 {G : Gx} {s t : Int} {N : Nat} (hs : shO G s 11 N) (ht : shO G t 11 N) (hN : (N : Int) < 2147483648) : cpA G 11 s 0 t 0 N := ⟨hs.1, hs.2.1, by rw [hs.2.2], ht.1, ht.2.1, by rw [ht.2.2], by omega, by omega, by omega, by rw [hs.2.2]; omega, by rw [ht.2.2]; omega⟩
theorem cpy2_in {μ : Mu} {s t j n : Int} (h : 0 ≤ j ∧ j < n) : cpy μ s 0 t 0 n t j = μ s j := by
  unfold cpy
  rw [if_pos ⟨rfl, h.1, by omega⟩, Int.sub_zero, Int.zero_add]
section CHard
variable {l : Launch} {G : Gx} {γ μ σ : Mu}
theorem c_findNeeds (hl : l.stackTraces = false) (d : Nat) (hd : 4 < d) {x w p : Int} (hH : HallAt G γ x w p) (hR : RepC μ x w σ) (hW : Wf σ) (h10 : σ 0 1 ^ (SbF σ).c ≤ 10000) : Cn l G yX0_findNeeds cX0_findNeeds 5 none d 0 [aR (x + 158), aR w, aR (x + 505)] γ μ (fun r γ' μ' => r = none ∧ γ' = γ ∧ AlC μ' (x + 158) σ ∧ μ' (x + 158) 7 ≠ 0 ∧ hdMax (σ 0 0) (σ 0 1) (sA σ) (σ 2) < 64 ∧ ∀ y j, (y < x + 158 ∨ (x + 473 ≤ y ∧ y < x + 505) ∨ x + 510 < y) → μ' y j = μ y j) := by
  refine Cn.ofP hl (plainFor_of_name (by decide)) (noLc nlR (noLc nlR (noL1 nlR))) rfl (fun P hP o1 o3 X hX hC => B_X0_findNeeds_0 hC hH.al.1 ?_)
  have hn := hW.1
  have hq := hW.2.1.b
  have q0 : 0 < σ 0 1 := by omega
  have hwb := hH.wb
  obtain ⟨tc1, -⟩ := tc36b hW
  obtain ⟨c13, room, -⟩ := hd_room hW.2.1 h10
  have hp := pw_pos (q := σ 0 1) q0 (SbF σ).c
  have eN : σ 0 1 ^ (SbF σ).c = ((σ 0 1 ^ (SbF σ).c).toNat : Nat) := by omega
  have ok : nxOk (σ 0 1 ^ (SbF σ).c).toNat (σ 0 0).toNat (nxH (σ 0 0) (σ 0 1) (sA σ) (σ 2)) := nxH_ok q0
  have ids : ∀ j : Int, 0 ≤ j → j < (SbF σ).c → 0 ≤ (SbF σ).od j ∧ (SbF σ).od j < ((σ 0 0).toNat : Int) := (gRun_ids (σ 0 1) (σ 0 0) (σ 2) (sA σ) (σ 0 0).toNat).1
  have g8 : γ (x + 158) 8 = x + 471 := by have := hH.al.2.2.2.2.2.2.2.2.2.1; rw [show x + 158 + 313 = x + 471 by omega] at this; exact this
  have s471 : shO G (x + 471) 11 64 := by have := hH.al.2.2.2.2.2.2.2.2.2.2.1; rw [show x + 158 + 313 = x + 471 by omega] at this; exact this
  have g10 : γ (x + 158) 10 = x + 472 := by have := hH.al.2.2.2.2.2.2.2.2.2.2.2.1; rw [show x + 158 + 314 = x + 472 by omega] at this; exact this
  have s472 : shO G (x + 472) 11 36 := by have := hH.al.2.2.2.2.2.2.2.2.2.2.2.2; rw [show x + 158 + 314 = x + 472 by omega] at this; exact this
  have g11 : γ (x + 505) 11 = x + 510 := by have := hH.wk.2.2.2.2.2.2.2.2.2.1; rw [show x + 505 + 5 = x + 510 by omega] at this; exact this
  have s510 : shO G (x + 510) 11 64 := by have := hH.wk.2.2.2.2.2.2.2.2.2.2; rw [show x + 505 + 5 = x + 510 by omega] at this; exact this
  refine ⟨4, 0, _, hd, Nat.le_refl _, hX ▸ c_spB hl 4 (by omega) hH hR, ?_⟩
  rintro r γ ms ⟨rfl, rfl, sR, sS, sf⟩
  have sD := sR.2.1.1
  refine B_X0_findNeeds_5 hC hH.al.1 ?_
  rw [sS.1.1, sD.2.1]
  refine ⟨hH.sB.o, hH.wr.o, hH.wk.o, 1, 0, _, by omega, Nat.le_refl _, hX ▸ c_wkBegin hl 1 (by omega) hH.wk hq (by omega) (by omega), PV.use ?_⟩
  refine B_X0_findNeeds_18 hC hH.al.1 ?_
  generalize hm1 : up (up (up (up (up (up ms (x + 505) 4 0) (x + 505) 5 (SbF σ).c) (x + 505) 6 (σ 0 1)) (x + 505) 7 (hlf (SbF σ).c)) (x + 505) 8 (σ 0 1 ^ hlf (SbF σ).c)) (x + 505) 9 (σ 0 1 ^ ((SbF σ).c - hlf (SbF σ).c)) = m1
  have f1 : ∀ y j, (y < x + 505 ∨ x + 510 < y) → y ≠ x + 472 → m1 y j = ms y j := fun y j z _ => by rw [← hm1, up_ne (by omega), up_ne (by omega), up_ne (by omega), up_ne (by omega), up_ne (by omega), up_ne (by omega)]
  have C1 : CelS m1 (x + 505) (σ 0 1) (SbF σ).c 0 (fun _ => 0) (fun _ => partP (SbF σ) (σ 0 1) 0) (fun _ => -1) := by
    refine ⟨⟨?_, ?_, ?_, ?_, ?_, ?_⟩, fun k z1 z2 => by omega⟩
    · rw [← hm1, up_ne (by omega), up_ne (by omega), up_ne (by omega), up_ne (by omega), up_ne (by omega), up_same]; rfl
    · rw [← hm1, up_ne (by omega), up_ne (by omega), up_ne (by omega), up_ne (by omega), up_same]
    · rw [← hm1, up_ne (by omega), up_ne (by omega), up_ne (by omega), up_same]
    · rw [← hm1, up_ne (by omega), up_ne (by omega), up_same]
    · rw [← hm1, up_ne (by omega), up_same]
    · rw [← hm1, up_same]
  have roomK : ∀ K : Int, 0 ≤ K → K ≤ 36 → K * (σ 0 1 ^ hlf (SbF σ).c + σ 0 1 ^ ((SbF σ).c - hlf (SbF σ).c)) ≤ 7200 := fun K k0 k1 => by
    have p1 := pw_pos q0 (hlf (SbF σ).c)
    have p2 := pw_pos q0 ((SbF σ).c - hlf (SbF σ).c)
    have := Int.mul_le_mul_of_nonneg_right k1 (show 0 ≤ σ 0 1 ^ hlf (SbF σ).c + σ 0 1 ^ ((SbF σ).c - hlf (SbF σ).c) by omega)
    omega
  have loop := rem_ind (n := σ 0 0) (P := fun i => ∀ (K : Nat) (nm : Int → Int) (m : Mu), (K : Int) ≤ i → (∀ k : Int, 0 ≤ k → k < K → 0 ≤ nm k ∧ nm k < i ∧ σ 2 (nm k) = 0) → (∀ v lev fv Z, xRw (nxH (σ 0 0) (σ 0 1) (sA σ) (σ 2)) v lev fv i.toNat Z = xRwM (nxH (σ 0 0) (σ 0 1) (sA σ) (σ 2)) nm v lev fv K Z) → CelS m (x + 505) (σ 0 1) (SbF σ).c K nm (fun k => partP (SbF σ) (σ 0 1) (nm k)) (fun _ => -1) → (∀ y j, (y < x + 505 ∨ x + 510 < y) → y ≠ x + 472 → m y j = ms y j) → V X G (Qm X G 0 P) 0 21 [aR (x + 158), aR w, aR (x + 505), aR (x + 159), aI i] [] γ m) (fun i i0 i1 ih K nm m hK hnm hrw mC fm => ?_)
  · exact loop 0 (by omega) hn.1 0 (fun _ => 0) m1 (by omega) (fun k z1 z2 => by omega) (fun _ _ _ _ => rfl) C1 f1
  · have mD : WirS m w σ := sD.fr2 (fun y j z1 z2 => fm y j (by omega) (by omega))
    refine B_X0_findNeeds_21 hC hH.al.1 ?_
    rw [mD.1, hH.wr.2.2.2.1, g10]
    refine ⟨hH.wr.o, fun h => ?_, fun h => ?_⟩
    · obtain rfl : i = σ 0 0 := by omega
      have SS : WkS m (x + 505) K nm (σ 0 1 ^ (SbF σ).c).toNat (nxH (σ 0 0) (σ 0 1) (sA σ) (σ 2)) := mC.wk hq eN (by omega) (roomK K (by omega) (by omega)) (fun k z1 z2 => by have := hnm k z1 z2; omega) (fun k z1 z2 v z3 z4 => by
        obtain ⟨a1, a2, a3⟩ := hnm k z1 z2
        unfold nxH mvd
        rw [if_pos a3, if_neg (fun z => absurd z.1 (by decide)), plusP_vl q0]
        exact vlN_cong _ (fun j _ _ => by rw [Int.zero_add]))
      refine ⟨hH.wk.o, 2, 0, _, by omega, Nat.le_refl _, hX ▸ c_go hl 2 (by omega) (n := (σ 0 0).toNat) (tg := -1) hH.wk SS (by omega) (by omega) (by omega) ok (fun k z1 z2 => by have := hnm k z1 z2; omega) hrw, ?_⟩
      rintro r γ m2 ⟨rfl, rfl, ⟨k, k1, k2, k3, k4, k5, k7, k8⟩, k6⟩
      have hm := hard_math hW h10 k1 k2
      refine B_X0_findNeeds_73 hC hH.al.1 ?_
      rw [g11, g8]
      have F2 : ∀ y j, (y < x + 505 ∨ x + 510 < y) → y ≠ x + 472 → m2 y j = ms y j := fun y j z1 z2 => by rw [k6 y j (by omega) (by omega) (by omega) (by omega)]; exact fm y j z1 z2
      generalize hm9 : up (up (cpy m2 (x + 510) 0 (x + 471) 0 64) (x + 158) 9 (m2 (x + 505) 12)) (x + 158) 7 1 = m9
      have F9 : ∀ y j, (y < x + 505 ∨ x + 510 < y) → y ≠ x + 472 → y ≠ x + 471 → (y = x + 158 → j ≠ 7 ∧ j ≠ 9) → m9 y j = ms y j := fun y j z1 z2 z3 z4 => by rw [← hm9, up_ne (by omega), up_ne (by omega), cpy_off (by omega)]; exact F2 y j z1 z2
      have A9 : AlC m9 (x + 158) σ := by
        obtain ⟨a1, a2, a3, -⟩ := sR.2.2.2.2.2.2.1
        refine ⟨fun z => ?_, fun z => ?_, fun z => ?_, fun _ => ⟨?_, fun j z1 z2 => ?_⟩⟩
        · rw [F9 _ _ (by omega) (by omega) (by omega) (by omega)] at z
          exact (a1 z).fr (fun y j z1 z2 => F9 y j (by omega) (by omega) (by omega) (by omega))
        · rw [F9 _ _ (by omega) (by omega) (by omega) (by omega)] at z
          exact (a2 z).fr (fun y j z1 z2 => F9 y j (by omega) (by omega) (by omega) (by omega))
        · rw [F9 _ _ (by omega) (by omega) (by omega) (by omega)] at z
          exact (a3 z).fr (fun y j z1 z2 => F9 y j (by omega) (by omega) (by omega) (by omega))
        · rw [← hm9, up_ne (by omega), up_same, k7]
          exact hm.1
        · rw [← hm9, up_ne (by omega), up_ne (by omega), show x + 158 + 313 = x + 471 by omega, cpy2_in ⟨z1, z2⟩]
          have := k8 j z1 z2
          rw [show x + 505 + 5 = x + 510 by omega] at this
          rw [this]
          exact hm.2.1 j z1
      exact ⟨hH.wk.o, cpyI2 s510 s471 (by decide), by omega, Nat.le_refl _, hP _ _ _ ⟨rfl, rfl, A9, by rw [← hm9, up_same]; decide, hm.2.2, fun y j z => by rw [F9 y j (by omega) (by omega) (by omega) (by omega)]; exact sf y j (by omega)⟩⟩
    · have hlt : i < σ 0 0 := by omega
      have ei : (i + 1).toNat = i.toNat + 1 := by omega
      rw [mD.2.2.2.2.2 i i0 hlt]
      refine ⟨ixO hH.wr.2.2.2.2.1 (by omega), fun e => ?_, fun e => ⟨hH.sB.o, ?_⟩⟩
      · refine B_X0_findNeeds_61 hC hH.al.1 ⟨by constructor <;> omega, ih hlt K nm m (by omega) (fun k z1 z2 => by have := hnm k z1 z2; exact ⟨this.1, by omega, this.2.2⟩) (fun v lev fv Z => ?_) mC fm⟩
        rw [ei]
        show xMv (nxH (σ 0 0) (σ 0 1) (sA σ) (σ 2) v i.toNat) _ _ _ _ = _
        have : nxH (σ 0 0) (σ 0 1) (sA σ) (σ 2) v (i.toNat : Nat) = -1 := by
          rw [Int.toNat_of_nonneg i0]
          unfold nxH
          rw [if_neg e]
        unfold xMv
        rw [if_pos this]
        exact hrw v lev fv Z
      · refine ⟨2, 0, _, by omega, Nat.le_refl _, hX ▸ c_ownNumbers hl 2 (by omega) (pt := partP (SbF σ) (σ 0 1) i) hH.sB s472 (by omega) hn hq (sS.fr (fun y j z1 z2 => fm y j (by omega) (by omega))) (by omega) ⟨i0, hlt⟩ (fun j z1 z2 => by have := ids j z1 z2; omega) (partP_ok i0 hlt e), PV.use ?_⟩
        refine B_X0_findNeeds_50 hC hH.al.1 ?_
        rw [g10]
        have mC2 : CelS (row m (x + 472) (SbF σ).c (partP (SbF σ) (σ 0 1) i)) (x + 505) (σ 0 1) (SbF σ).c K nm (fun k => partP (SbF σ) (σ 0 1) (nm k)) (fun _ => -1) := mC.fr (fun y j z => row_off (by omega))
        have hst : ∀ j : Int, 0 ≤ j → j < (SbF σ).c → row m (x + 472) (SbF σ).c (partP (SbF σ) (σ 0 1) i) (x + 472) j = partP (SbF σ) (σ 0 1) i j ∧ 0 ≤ partP (SbF σ) (σ 0 1) i j ∧ partP (SbF σ) (σ 0 1) i j < σ 0 1 := fun j z1 z2 => ⟨row_in ⟨z1, z2⟩, (partP_in hq.1 j).1, (partP_in hq.1 j).2⟩
        refine ⟨hH.wk.o, 3, 0, _, by omega, Nat.le_refl _, hX ▸ c_addMove hl 3 (by omega) (nam := i) (lp0 := -1) (st0 := partP (SbF σ) (σ 0 1) i) hH.wk s472 (by omega) hq (by omega) (by omega) mC2 (by omega) (roomK ((K : Int) + 1) (by omega) (by omega)) hst, ?_⟩
        rintro r γ m2 ⟨rfl, rfl, b1, b2⟩
        have est : fup (fun k => partP (SbF σ) (σ 0 1) (nm k)) K (partP (SbF σ) (σ 0 1) i) = fun k => partP (SbF σ) (σ 0 1) (fup nm K i k) := by
          funext k
          by_cases e2 : k = K
          · rw [e2, fup_s, fup_s]
          · rw [fup_n e2, fup_n e2]
        have elp : fup (fun _ => (-1 : Int)) (K : Int) (-1) = fun _ => -1 := by
          funext k
          by_cases e2 : k = K
          · rw [e2, fup_s]
          · rw [fup_n e2]
        rw [est, elp] at b1
        refine B_X0_findNeeds_61 hC hH.al.1 ⟨by constructor <;> omega, ih hlt (K + 1) (fup nm K i) m2 (by omega) (fun k z1 z2 => ?_) (fun v lev fv Z => ?_) b1 (fun y j z1 z2 => by rw [b2 y j (by omega) (by omega) (by omega), row_off (by omega)]; exact fm y j z1 z2)⟩
        · by_cases e2 : k = K
          · rw [e2, fup_s]
            exact ⟨i0, by omega, e⟩
          · rw [fup_n e2]
            have := hnm k z1 (by omega)
            exact ⟨this.1, by omega, this.2.2⟩
        · rw [ei]
          show xMv (nxH (σ 0 0) (σ 0 1) (sA σ) (σ 2) v (i.toNat : Nat)) (i.toNat : Nat) lev fv (xRw (nxH (σ 0 0) (σ 0 1) (sA σ) (σ 2)) v lev fv i.toNat Z) = xMv (nxH (σ 0 0) (σ 0 1) (sA σ) (σ 2) v (fup nm K i K)) (fup nm K i K) lev fv (xRwM (nxH (σ 0 0) (σ 0 1) (sA σ) (σ 2)) (fup nm K i) v lev fv K Z)
          rw [fup_s, Int.toNat_of_nonneg i0, hrw, xRwM_cong (nm' := fup nm K i) K (fun k z1 z2 => (fup_n (by omega)).symm)]
theorem c_hard (hl : l.stackTraces = false) (d : Nat) (hd : 5 < d) {x w p y : Int} (hH : HallAt G γ x w p) (hR : RepC μ x w σ) (hW : Wf σ) : Cn l G yX8_hard cX8_hard 2 (some .int) d 0 [aR x, aI y] γ μ (PC μ γ x w σ (hrdF σ y)) := by
  refine Cn.ofP hl (plainFor_of_name (by decide)) (noLc nlR (noL1 nlI)) rfl (fun P hP o1 o3 X hX hC => B_X8_hard_0 hC hH.o ?_)
  have hn := hW.1
  have hq := hW.2.1.b
  have hwb := hH.wb
  obtain ⟨tc1, -⟩ := tc36b hW
  rw [hH.g1, hR.2.1.1.2.1]
  refine ⟨hH.wr.o, 5, 0, _, hd, Nat.le_refl _, hX ▸ c_rank hl 5 (by omega) hH hR hW, ?_⟩
  rintro r γ m ⟨rfl, rfl, mR, mf⟩
  refine B_X8_hard_11 hC hH.o ⟨0, 0, _, by omega, Nat.le_refl _, hX ▸ c_exceeds hl 0 (most := 10000) hq (by omega) tc1, PI.use ?_⟩
  have s471 : shO G (x + 471) 11 64 := by have := hH.al.2.2.2.2.2.2.2.2.2.2.1; rw [show x + 158 + 313 = x + 471 by omega] at this; exact this
  have g8 : γ (x + 158) 8 = x + 471 := by have := hH.al.2.2.2.2.2.2.2.2.2.1; rw [show x + 158 + 313 = x + 471 by omega] at this; exact this
  refine B_X8_hard_17 hC hH.o ?_
  rw [hH.g3, hH.g1, hH.g14]
  refine ⟨fun h => ⟨hH.al.1, ?_⟩, fun h => ⟨Nat.le_refl _, hP _ _ _ ⟨?_, rfl, mR, mf.c⟩⟩⟩
  · have h10 : σ 0 1 ^ (SbF σ).c ≤ 10000 := by
      rcases Int.lt_or_le 10000 (σ 0 1 ^ (SbF σ).c) with z | z
      · rw [if_pos z] at h; exact absurd h (by decide)
      · exact z
    have fin : ∀ m : Mu, RepC m x w σ → frB μ m x (x + 518) → m (x + 158) 7 ≠ 0 → V X G (Qm X G 0 P) (0 + 0 + 0) 53 [aR x, aI y] [] γ m := fun m mR mf m7 => by
      obtain ⟨a1, a2⟩ := mR.2.2.2.2.2.2.1.2.2.2 m7
      have hmx : hdMax (σ 0 0) (σ 0 1) (sA σ) (σ 2) < 64 := by
        have ok : nxOk (σ 0 1 ^ (SbF σ).c).toNat (σ 0 0).toNat (nxH (σ 0 0) (σ 0 1) (sA σ) (σ 2)) := nxH_ok (by omega)
        have hp := pw_pos (q := σ 0 1) (by omega) (SbF σ).c
        obtain ⟨k, k1, k2, -⟩ := xRun_stop (s := 0) (by omega) ok
        exact (hard_math hW h10 k1 k2).2.2
      refine B_X8_hard_53 hC hH.o ?_
      rw [hH.g3, g8, a1, shLen s471]
      refine ⟨fun e => ⟨fun e2 => ⟨Nat.le_refl _, hP _ _ _ ⟨?_, rfl, mR, mf⟩⟩, fun e2 => ⟨hH.al.1, lnO s471 (by decide), fun e3 => ⟨Nat.le_refl _, hP _ _ _ ⟨?_, rfl, mR, mf⟩⟩, fun e3 => ⟨ixO s471 (by omega), Nat.le_refl _, hP _ _ _ ⟨?_, rfl, mR, mf⟩⟩⟩⟩, fun e => ⟨hH.al.1, Nat.le_refl _, hP _ _ _ ⟨by rw [e], rfl, mR, mf⟩⟩⟩
      · unfold hrdF
        rw [if_neg (by omega), if_neg e, if_pos (Or.inl e2)]
      · unfold hrdF
        rw [if_neg (by omega), if_neg e, if_pos (Or.inr (by omega))]
      · have := a2 y (by omega) (by omega)
        rw [show x + 158 + 313 = x + 471 by omega] at this
        rw [this]
    refine ⟨fun h4 => fin m mR mf.c h4, fun h4 => ⟨5, 0, _, hd, Nat.le_refl _, hX ▸ c_findNeeds hl 5 (by omega) hH mR hW h10, ?_⟩⟩
    rintro r γ m2 ⟨rfl, rfl, b1, b2, b3, b4⟩
    have f2 : ∀ y j, (y < x + 158 ∨ (x + 473 ≤ y ∧ y < x + 505) ∨ x + 510 < y) → up m2 x 18 0 y j = up m x 18 0 y j := fun y j z => by
      by_cases e : y = x ∧ j = 18
      · rw [e.1, e.2, up_same, up_same]
      · rw [up_ne (by omega), up_ne (by omega)]; exact b4 y j z
    have b1' : AlC (up m2 x 18 0) (x + 158) σ := b1.fr (fun y j z1 z2 => up_ne (by omega))
    obtain ⟨h1, h2, h3, h4', h5, h6, -, h8⟩ := mR
    have fr2 : ∀ y j, (y < x + 158 ∨ (x + 473 ≤ y ∧ y < x + 505) ∨ x + 510 < y) → (y = x → j ≠ 18) → up m2 x 18 0 y j = m y j := fun y j z1 z2 => by rw [up_ne (by omega)]; exact b4 y j z1
    refine B_X8_hard_48 hC hH.o (fin _ ⟨h1.fr (fun y j z1 z2 => fr2 y j (by omega) (by omega)), h2.fr (fun y j z1 z2 => fr2 y j (by omega) (by omega)), h3.fr (fun y j z1 z2 => fr2 y j (by omega) (by omega)), h4'.fr (fun y j z1 z2 => fr2 y j (by omega) (by omega)), h5.fr (fun y j z1 z2 => fr2 y j (by omega) (by omega)), h6.fr (fr2 _ _ (by omega) (by omega)) (fr2 _ _ (by omega) (by omega)) (fun y j z1 z2 => fr2 y j (by omega) (by omega)), b1', ⟨fun z => absurd up_same z, fun z => ?_⟩⟩ (fun y j z => ?_) (by rw [up_ne (by omega)]; exact b2))
    · rw [fr2 _ _ (by omega) (by omega)] at z
      rw [fr2 _ _ (by omega) (by omega), fr2 _ _ (by omega) (by omega)]
      exact h8.2 z
    · rw [up_ne (by omega), b4 y j (by omega)]
      exact mf y j (by omega)
  · have : 10000 < σ 0 1 ^ (SbF σ).c := by
      rcases Int.lt_or_le 10000 (σ 0 1 ^ (SbF σ).c) with z | z
      · exact z
      · rw [if_neg (by omega)] at h; exact absurd rfl h
    unfold hrdF
    rw [if_pos this]
end CHard
