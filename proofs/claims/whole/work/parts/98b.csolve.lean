/-! the class: needed, solve -/
abbrev AdF (σ : Mu) (b : Int) : Prop := (0 ≤ b ∧ b < σ 0 0) ∧ σ 2 b = 0
theorem Wf.GB {σ : Mu} (hW : Wf σ) : GInv (σ 0 0) (σ 0 1) (sA σ) (fun a b => a < b) (SbF σ) (AdF σ) := by
  have hn := hW.1
  refine (gRun_GInv (jm := σ 2) hW.2.1 hW.am (σ 0 0).toNat (by omega)).iff (fun b => ?_)
  rw [show ((σ 0 0).toNat : Int) = σ 0 0 by omega]
theorem Wf.GD {σ : Mu} (hW : Wf σ) : GInv (σ 0 0) (σ 0 1) (sA σ) (fun a b => b < a) (SdF σ) (AdF σ) := by
  have hn := hW.1
  refine (gRunD_GInv (jm := σ 2) hW.2.1 hW.am (σ 0 0).toNat (by omega)).iff (fun b => ?_)
  rw [show σ 0 0 - ((σ 0 0).toNat : Int) = 0 by omega]
theorem Sol.cong {n q : Int} {vec : Int → Int → Int} {Ad : Int → Prop} {f y y' : Int → Int} (hn : 0 ≤ n) (h : Sol n q vec Ad f y) (he : ∀ k, 0 ≤ k → k < n → y' k = y k) : Sol n q vec Ad f y' := by
  refine ⟨fun k k0 k1 k2 => by rw [he k k0 k1]; exact h.1 k k0 k1 k2, fun k k0 k1 => by rw [he k k0 k1]; exact h.2.1 k k0 k1, fun j j0 j1 => ?_⟩
  refine Eq.trans ?_ (h.2.2 j j0 j1)
  exact LC_cg hn (fun k k0 k1 => by rw [he k k0 k1])
theorem Wf.dq {σ : Mu} (hW : Wf σ) : inQ (σ 0 0) (σ 0 1) (dffF σ) := fun j z1 z2 => hW.dff j z1 (by have := hW.1; omega)
theorem ld_iff {σ : Mu} (hW : Wf σ) : ff (gvR (σ 0 1) (SdF σ) (dffF σ)) (σ 0 0) = -1 ↔ ldF σ = -1 := by
  have hn := hW.1
  have hq := hW.2.1.b
  have l1 := hW.GB.lead hq.1 hn.1 hW.dq
  have l2 := hW.GD.lead hq.1 hn.1 hW.dq
  constructor
  · intro h
    obtain ⟨s, -⟩ := l2.1 h
    exact l1.2 ⟨_, fun k k0 k1 k2 => congrArg (· % σ 0 1) (s.1 k k0 k1 k2), s.2.2⟩
  · intro h
    obtain ⟨s, -⟩ := l1.1 h
    exact l2.2 ⟨_, fun k k0 k1 k2 => congrArg (· % σ 0 1) (s.1 k k0 k1 k2), s.2.2⟩
theorem x0_sol {σ : Mu} (hW : Wf σ) (h : ldF σ = -1) : Sol (σ 0 0) (σ 0 1) (sA σ) (AdF σ) (dffF σ) (x0F σ) := ((hW.GB.lead hW.2.1.b.1 hW.1.1 hW.dq).1 h).1
abbrev nmF (σ : Mu) : Int → Int := exN (σ 0 1) (SdF σ) (dffF σ) (SdF σ).c
theorem nm_sol {σ : Mu} (hW : Wf σ) (h : ldF σ = -1) : Sol (σ 0 0) (σ 0 1) (sA σ) (AdF σ) (dffF σ) (nmF σ) ∧ ∀ k, 0 ≤ k → k < σ 0 0 → ¬ OwnD (SdF σ) k → nmF σ k = 0 := by
  obtain ⟨s1, s2⟩ := (hW.GD.lead hW.2.1.b.1 hW.1.1 hW.dq).1 ((ld_iff hW).mpr h)
  have e : ∀ k, 0 ≤ k → k < σ 0 0 → nmF σ k = (σ 0 1 - (gv (σ 0 1) (SdF σ).op (SdF σ).ov (SdF σ).om (SdF σ).c (dffF σ) (fun _ => 0)).2 k) % σ 0 1 := fun k k0 k1 => exN_eq2 hW.2.1.b.1 hW.dq k0 k1
  exact ⟨s1.cong hW.1.1 e, fun k k0 k1 k2 => by rw [e k k0 k1]; exact s2 k k0 k1 k2⟩
theorem free_le {n q : Int} {vec : Int → Int → Int} {R1 R2 : Int → Int → Prop} {S1 S2 : GS} {Ad : Int → Prop} (h1 : GInv n q vec R1 S1 Ad) (h2 : GInv n q vec R2 S2 Ad) (hn : 0 ≤ n) {y : Int} (y0 : 0 ≤ y) (y1 : y < n) (h : ∀ i : Int, 0 ≤ i → i < S1.tc → S1.tv i y = 0) : ∀ i : Int, 0 ≤ i → i < S2.tc → S2.tv i y = 0 := fun i i0 i1 => by
  obtain ⟨w1, w2, w3, -⟩ := h2.2.2.2.2.1 i i0 i1
  have := h1.ker hn (z := S2.tv i) (fun k k0 k1 k2 => by rw [h2.tv0 i0 i1 k0 k1 k2]) w3 y y0 y1
  refine cg_z (this.trans (cg_sum0 (by omega) (fun r z1 z2 => ?_))) (w2 y y0 y1)
  rw [h r z1 z2, Int.mul_zero]
theorem free_iff {σ : Mu} (hW : Wf σ) {y : Int} (y0 : 0 ≤ y) (y1 : y < σ 0 0) : fs (fun i => (SdF σ).tv i y) (SdF σ).tc 0 = -1 ↔ freF (SbF σ) y = 0 := by
  have hn := hW.1
  have e1 : freF (SbF σ) y = 0 ↔ ∀ j : Int, 0 ≤ j → j < (SbF σ).tc → (SbF σ).tv j y = 0 := anyI_iff (by omega)
  have e2 : fs (fun i => (SdF σ).tv i y) (SdF σ).tc 0 = -1 ↔ ∀ j : Int, 0 ≤ j → j < (SdF σ).tc → (SdF σ).tv j y = 0 := by
    rcases fs_rng (f := fun i => (SdF σ).tv i y) (n := ((SdF σ).tc : Int)) (by omega) with ⟨w1, w2⟩ | ⟨w1, w2, w3, -⟩
    · exact ⟨fun _ => w2, fun _ => w1⟩
    · exact ⟨fun w => by omega, fun w => absurd (w _ w1 w2) w3⟩
  rw [e1, e2]
  exact ⟨free_le hW.GD hW.GB hn.1 y0 y1, free_le hW.GB hW.GD hn.1 y0 y1⟩
theorem free_same {σ : Mu} (hW : Wf σ) (h : ldF σ = -1) {y : Int} (y0 : 0 ≤ y) (y1 : y < σ 0 0) (hf : freF (SbF σ) y = 0) : nmF σ y = x0F σ y := by
  have hn := hW.1
  have hz : ∀ j : Int, 0 ≤ j → j < (SbF σ).tc → (SbF σ).tv j y = 0 := (anyI_iff (by omega)).mp hf
  obtain ⟨d, d1, d2⟩ := hW.GB.mix_sol hW.2.1.b.1 hn.1 (x0_sol hW h) (nm_sol hW h).1
  rw [d2 y y0 y1]
  have hb := (x0_sol hW h).2.1 y y0 y1
  unfold mixI
  rw [sumI_zero (by omega) (fun i z1 z2 => by rw [hz i z1 z2, Int.mul_zero]), Int.add_zero, Int.emod_eq_of_lt hb.1 hb.2]
theorem gStep_ct {q n id : Int} {S : GS} {f : Int → Int} : (gStep q n S id f).c + (gStep q n S id f).tc = S.c + S.tc + 1 := by
  unfold gStep
  split
  · show S.c + (S.tc + 1) = _
    omega
  · show S.c + 1 + S.tc = _
    omega
theorem gRun_ct (q n : Int) (jm : Int → Int) (vec : Int → Int → Int) : ∀ k : Nat, (((gRun q n jm vec k).c + (gRun q n jm vec k).tc : Nat) : Int) = sumI (fun b => if jm b = 0 then 1 else 0) k
  | 0 => rfl
  | k + 1 => by
    have ih := gRun_ct q n jm vec k
    have e : gRun q n jm vec (k + 1) = if jm k = 0 then gStep q n (gRun q n jm vec k) k (vec k) else gRun q n jm vec k := rfl
    rw [show ((k + 1 : Nat) : Int) = (k : Int) + 1 by omega, sumI_s (by omega), ← ih, e]
    by_cases hj : jm k = 0
    · rw [if_pos hj, if_pos hj, gStep_ct]; omega
    · rw [if_neg hj, if_neg hj]; omega
theorem gRunD_ct (q n : Int) (jm : Int → Int) (vec : Int → Int → Int) : ∀ k : Nat, (k : Int) ≤ n → (((gRunD q n jm vec k).c + (gRunD q n jm vec k).tc : Nat) : Int) = sumI (fun b => if jm b = 0 then 1 else 0) n - sumI (fun b => if jm b = 0 then 1 else 0) (n - k)
  | 0, h => by rw [show n - ((0 : Nat) : Int) = n by omega, Int.sub_self]; rfl
  | k + 1, h => by
    have ih := gRunD_ct q n jm vec k (by omega)
    have e : sumI (fun b => if jm b = 0 then 1 else 0) (n - k) = sumI (fun b => if jm b = 0 then 1 else 0) (n - ((k + 1 : Nat) : Int)) + (if jm (n - 1 - k) = 0 then 1 else 0) := by
      rw [show n - (k : Int) = n - ((k + 1 : Nat) : Int) + 1 by omega, sumI_s (by omega), show n - ((k + 1 : Nat) : Int) = n - 1 - k by omega]
    unfold gRunD
    split
    · rename_i hj
      rw [if_pos hj] at e
      rw [gStep_ct]; omega
    · rename_i hj
      rw [if_neg hj] at e
      omega
theorem tc_eq {σ : Mu} (hW : Wf σ) : (SdF σ).tc = (SbF σ).tc ∧ (SdF σ).c = (SbF σ).c := by
  have hn := hW.1
  have h1 : (((SbF σ).c + (SbF σ).tc : Nat) : Int) = sumI (fun b => if σ 2 b = 0 then 1 else 0) ((σ 0 0).toNat : Int) := gRun_ct (σ 0 1) (σ 0 0) (σ 2) (sA σ) (σ 0 0).toNat
  have h2 : (((SdF σ).c + (SdF σ).tc : Nat) : Int) = sumI (fun b => if σ 2 b = 0 then 1 else 0) (σ 0 0) - sumI (fun b => if σ 2 b = 0 then 1 else 0) (σ 0 0 - ((σ 0 0).toNat : Int)) := gRunD_ct (σ 0 1) (σ 0 0) (σ 2) (sA σ) (σ 0 0).toNat (by omega)
  rw [show σ 0 0 - ((σ 0 0).toNat : Int) = 0 by omega, sumI_0, Int.sub_zero] at h2
  rw [show ((σ 0 0).toNat : Int) = σ 0 0 by omega] at h1
  have r1 := GInv.rank_le hW.GB hW.GD hW.2.1 hn.1
  have r2 := GInv.rank_le hW.GD hW.GB hW.2.1 hn.1
  omega
theorem gRunD_dec (q n : Int) (jm : Int → Int) (vec : Int → Int → Int) : ∀ (k : Nat) (i j : Int), 0 ≤ i → i < j → j < (gRunD q n jm vec k).tc → (gRunD q n jm vec k).td j < (gRunD q n jm vec k).td i
  | 0, i, j, z1, z2, z3 => by
    have z3' : j < ((0 : Nat) : Int) := z3
    omega
  | k + 1, i, j, z1, z2, z3 => by
    have ih := gRunD_dec q n jm vec k
    have ids := (gRunD_ids q n jm vec k).2.1
    unfold gRunD at z3 ⊢
    split at z3
    · rename_i hj
      rw [if_pos hj]
      unfold gStep at z3 ⊢
      split at z3
      · rename_i hw
        rw [if_pos hw]
        have z3' : j < (((gRunD q n jm vec k).tc + 1 : Nat) : Int) := z3
        show fup (gRunD q n jm vec k).td (gRunD q n jm vec k).tc (n - 1 - k) j < fup (gRunD q n jm vec k).td (gRunD q n jm vec k).tc (n - 1 - k) i
        rw [fup_n (show i ≠ (gRunD q n jm vec k).tc by omega)]
        by_cases e : j = (gRunD q n jm vec k).tc
        · rw [e, fup_s]
          have := ids i z1 (by omega)
          omega
        · rw [fup_n e]
          exact ih i j z1 z2 (by omega)
      · rename_i hw
        rw [if_neg hw]
        exact ih i j z1 z2 z3
    · rename_i hj
      rw [if_neg hj]
      exact ih i j z1 z2 z3
theorem sumI_rev {f : Int → Int} : ∀ n : Nat, sumI (fun i => f ((n : Int) - 1 - i)) n = sumI f n := by
  have key : ∀ (n m : Nat), m ≤ n → sumI (fun i => f ((n : Int) - 1 - i)) m = sumI f n - sumI f ((n : Int) - m) := by
    intro n m
    induction m with
    | zero => intro _; rw [show (n : Int) - ((0 : Nat) : Int) = n by omega, Int.sub_self]; rfl
    | succ m ih =>
      intro h
      rw [show ((m + 1 : Nat) : Int) = (m : Int) + 1 by omega, sumI_s (by omega), ih (by omega)]
      have : sumI f ((n : Int) - m) = sumI f ((n : Int) - (m + 1)) + f ((n : Int) - (m + 1)) := by
        rw [← sumI_s (by omega)]
        congr 1
        omega
      rw [show (n : Int) - 1 - m = n - (m + 1) by omega]
      omega
  intro n
  rw [key n n (Nat.le_refl _), Int.sub_self, sumI_0, Int.sub_zero]
theorem sumI_ge {f : Int → Int} {n k : Int} (hk : 0 ≤ k ∧ k < n) (h : ∀ j, 0 ≤ j → j < n → 0 ≤ f j) : f k ≤ sumI f n := by
  have h1 := sumI_mono2 (f := f) (p := k + 1) (n := n) (by omega) (by omega) (fun j z1 z2 => h j (by omega) z2)
  rw [sumI_s hk.1] at h1
  have h2 := sumI_nonneg (f := f) (n := k) hk.1 (fun j z1 z2 => h j z1 (by omega))
  omega
theorem cost_same {kind q n : Int} {f : Int → Int} (hq : 2 ≤ q ∧ q ≤ 5) (hn : 0 ≤ n ∧ n ≤ 36) (hf : inQ n q f) : (if ctS (fun _ v => csP kind v) f n < 1000 then ctS (fun _ v => csP kind v) f n else -1) = costF kind f n := by
  have nn : ∀ j, 0 ≤ j → j < n → 0 ≤ csP kind (f j) := fun j z1 z2 => by
    have := hf j z1 z2
    unfold csP
    split
    · decide
    · split <;> omega
  unfold costF
  rcases fs_rng (f := badK kind f) hn.1 with ⟨w1, w2⟩ | ⟨w1, w2, w3, -⟩
  · have e : ctS (fun _ v => csP kind v) f n = ctI kind f n := by
      show sumI (fun j => csP kind (f j)) n = sumI (fun j => prc kind (f j)) n
      refine sumI_cong hn.1 (fun j z1 z2 => ?_)
      have hb := hf j z1 z2
      have h0 := w2 j z1 z2
      unfold badK at h0
      have h1 : ¬ (kind = 2 ∧ 1 < f j) := fun w => by rw [if_pos w] at h0; exact absurd h0 (by decide)
      unfold csP prc
      rw [if_neg h1]
      split
      · split <;> omega
      · rfl
    have := ctI_b (kind := kind) hq hf n hn.1 (Int.le_refl _)
    rw [if_pos w1, e, if_pos (by omega)]
  · rw [if_neg (show ¬ fs (badK kind f) n 0 = -1 by omega)]
    have hbad : kind = 2 ∧ 1 < f (fs (badK kind f) n 0) := by
      unfold badK at w3
      by_cases w : kind = 2 ∧ 1 < f (fs (badK kind f) n 0)
      · exact w
      · exact absurd (if_neg w) w3
    have := sumI_ge (f := fun j => csP kind (f j)) ⟨w1, w2⟩ nn
    have e : csP kind (f (fs (badK kind f) n 0)) = 1000 := by
      unfold csP
      rw [if_pos hbad]
    have h2 : csP kind (f (fs (badK kind f) n 0)) ≤ ctS (fun _ v => csP kind v) f n := this
    rw [if_neg (by omega)]
theorem BestD.congC {n least : Int} {C C' : (Int → Int) → Int} {D : (Int → Int) → Prop} {best : Int → Int} (hC : ∀ f g : Int → Int, (∀ j, 0 ≤ j → j < n → f j = g j) → C f = C g) (hC' : ∀ f g : Int → Int, (∀ j, 0 ≤ j → j < n → f j = g j) → C' f = C' g) (h : BestD n C D least best) (he : ∀ x, D x → C x = C' x) : BestD n C' D least best := by
  rcases h with ⟨a1, a2⟩ | ⟨a1, ⟨x, a2, a3⟩, a4, a5⟩
  · exact Or.inl ⟨a1, fun x hx => by rw [← he x hx]; exact a2 x hx⟩
  · refine Or.inr ⟨a1, ⟨x, a2, a3⟩, ?_, fun y hy => by rw [← he y hy]; exact a5 y hy⟩
    rw [hC' best x a3, ← he x a2, ← hC best x a3]
    exact a4
/-- what comes back with a state that isn't told beforehand -/
abbrev PCe (μ γ : Mu) (x w : Int) (R : Int → Mu → Prop) : Option AV → Mu → Mu → Prop := fun r γ' μ' => ∃ z σ', R z σ' ∧ r = some (aI z) ∧ γ' = γ ∧ RepC μ' x w σ' ∧ frB μ μ' x (x + 518)
section CSolve
variable {l : Launch} {G : Gx} {γ μ σ : Mu}
theorem c_needed (hl : l.stackTraces = false) (d : Nat) (hd : 6 ≤ d) {x w p y : Int} (hH : HallAt G γ x w p) (hR : RepC μ x w σ) (hW : Wf σ) : Cnx l G yX8_needed cX8_needed 6 (some .int) d 1 [aR x, aI y] γ μ (PCo μ γ x w σ (if isSW y then (if ldF σ = -1 then (if y = 0 then ndsF (SbF σ) (x0F σ) (σ 0 0) else fresF (SbF σ) (σ 0 0)) else -1) else 0) (if isSW y then 0 else 1)) (PCx NSEx μ γ x w σ (if isSW y then 0 else 1)) := by
  refine Cnx.ofP hl (by decide) (noLc nlR (noL1 nlI)) rfl (fun P Y hP hY X hX hC hx => B_X8_needed_0 hC hx hH.o ?_)
  have hwb := hH.wb
  have hn := hW.1
  have hq := hW.2.1.b
  obtain ⟨-, -, -, -, c1, c2⟩ := tc36b hW
  rw [hH.g3, hH.g1]
  have go : isSW y → ∃ d9 k9 P9, d9 < d ∧ 0 + k9 ≤ 1 ∧ Cn X.l G yX0_lateSpan cX0_lateSpan 3 (some (.object "LampHall$Span")) d9 k9 [aR (x + 158), aR w] γ μ P9 ∧ ∀ r9 γ9 μ9, P9 r9 γ9 μ9 → V X G (Qx X G 1 P Y) (0 + k9) 30 [aR x, aI y, aD, aD, aD, aD] (r9.toList ++ []) γ9 μ9 := fun hy => by
    rw [if_pos hy, if_pos hy] at hP
    refine ⟨4, 0, _, by omega, by omega, hX ▸ c_spD hl 4 (by omega) hH hR, ?_⟩
    rintro r γ m ⟨rfl, rfl, h3, h4, h5⟩
    refine B_X8_needed_30 hC hx hH.o ⟨3, 0, _, by omega, by omega, hX ▸ c_takeDifference hl 3 (by omega) hH h3 hW, ?_⟩
    rintro r γ m2 ⟨rfl, rfl, g1, g2⟩
    refine B_X8_needed_35 hC hx hH.o ?_
    rw [hH.g16, hH.g17]
    have S2 : SpS m2 (x + 315) (σ 0 0) (σ 0 1) (SdF σ) := h4.fr (fun y j z1 z2 => g2 y j (by omega))
    refine ⟨hH.sD.o, 1, 0, _, by omega, by omega, hX ▸ c_express hl 1 (by omega) (f := dffF σ) hH.sD hH.s516 hH.s517 (by omega) (by omega) (by omega) hn hq S2 (by omega) g1 hW.dq, ?_⟩
    rintro r γ m3 ⟨rfl, rfl, e1, e2⟩
    have F3 : ∀ y j, y ≠ x + 516 → y ≠ x + 517 → m3 y j = m y j := fun y j z1 z2 => by rw [e2 y j z1 z2]; exact g2 y j z1
    have R3 : RepC m3 x w σ := h3.scr hwb (fun y j z1 z2 z3 => F3 y j (by omega) (by omega))
    have f3 : frB μ m3 x (x + 518) := fun y j z => by rw [F3 y j (by omega) (by omega)]; exact h5 y j (by omega)
    have S3 : SpS m3 (x + 315) (σ 0 0) (σ 0 1) (SdF σ) := h4.fr (fun y j z1 z2 => F3 y j (by omega) (by omega))
    have hli := ld_iff hW
    refine B_X8_needed_47 hC hx hH.o ⟨fun h => ?_, fun h => ⟨Nat.zero_le _, hP _ _ _ ⟨rfl, ?_, rfl, R3, f3⟩⟩⟩
    · have hld : ldF σ = -1 := by
        by_cases w : ff (gvR (σ 0 1) (SdF σ) (dffF σ)) (σ 0 0) = -1
        · exact hli.mp w
        · rw [if_neg w] at h; exact absurd rfl h
      rw [if_pos hld] at hP
      have loop := rem_ind (n := σ 0 0) (P := fun i => V X G (Qx X G 1 P Y) (0 + 0 + 0 + 0) 57 [aR x, aI y, aR (x + 315), aI (if y = 0 then ndsF (SbF σ) (x0F σ) i else fresF (SbF σ) i), aI i, aD] [] γ m3) (fun i i0 i1 ih => ?_)
      · have := loop 0 (by omega) hn.1
        rw [show (if y = 0 then ndsF (SbF σ) (x0F σ) 0 else fresF (SbF σ) 0) = 0 by split <;> rfl] at this
        exact this
      · refine B_X8_needed_57 hC hx hH.o ?_
        rw [hH.g1, R3.2.1.1.1]
        refine ⟨hH.wr.o, fun h2 => ⟨Nat.zero_le _, hP _ _ _ ⟨rfl, ?_, rfl, R3, f3⟩⟩, fun h2 => ⟨hH.sD.o, 0, 0, _, by omega, by omega, hX ▸ c_isInSomeTie hl 0 hH.sD hn S3 (by omega) ⟨i0, by omega⟩, PI.use ?_⟩⟩
        · obtain rfl : i = σ 0 0 := by omega
          rfl
        · have hlt : i < σ 0 0 := by omega
          have hfi := free_iff hW i0 hlt
          have nb := ndsF_b (SbF σ) (x0F σ) (n := σ 0 0) i i0 i1
          have fb := fresF_b (SbF σ) (n := σ 0 0) i i0 i1
          have en : ndsF (SbF σ) (x0F σ) (i + 1) = ndsF (SbF σ) (x0F σ) i + (if freF (SbF σ) i = 0 ∧ x0F σ i ≠ 0 then 1 else 0) := foldI_s i0
          have ef : fresF (SbF σ) (i + 1) = fresF (SbF σ) i + (if freF (SbF σ) i = 0 then 0 else 1) := foldI_s i0
          have hih := ih hlt
          rw [en, ef] at hih
          have s0 : (if fs (fun i_1 => (SdF σ).tv i_1 i) (SdF σ).tc 0 = -1 then (0 : Int) else 1) = if freF (SbF σ) i = 0 then 0 else 1 := by
            by_cases w : freF (SbF σ) i = 0
            · rw [if_pos w, if_pos (hfi.mpr w)]
            · rw [if_neg w, if_neg (fun z => w (hfi.mp z))]
          rw [s0]
          refine B_X8_needed_75 hC hx hH.o ?_
          rw [hH.g17]
          refine ⟨fun k1 => ?_, fun k1 => ?_⟩
          · have y0 : y = 0 := by omega
            rw [if_pos y0] at hih ⊢
            refine ⟨fun k2 => ⟨by constructor <;> omega, ?_⟩, fun k2 => ⟨ixO hH.s517 (by omega), ?_⟩⟩
            · have w : freF (SbF σ) i ≠ 0 := fun w => k2 (by rw [if_pos w])
              rw [if_neg (fun z => w z.1), Int.add_zero] at hih
              exact hih
            · have w : freF (SbF σ) i = 0 := by
                by_cases w : freF (SbF σ) i = 0
                · exact w
                · rw [if_neg w] at k2; exact absurd k2 (by decide)
              rw [e1 i i0 hlt, show exN (σ 0 1) (SdF σ) (dffF σ) (SdF σ).c i = x0F σ i from free_same hW hld i0 hlt w]
              refine ⟨fun k3 => ⟨by constructor <;> omega, ?_⟩, fun k3 => ⟨by constructor <;> omega, by constructor <;> omega, ?_⟩⟩
              · rw [if_neg (fun z => z.2 k3), Int.add_zero] at hih
                exact hih
              · rw [if_pos ⟨w, k3⟩] at hih
                exact hih
          · have y1 : ¬ y = 0 := by omega
            rw [if_neg y1] at hih ⊢
            refine ⟨fun k2 => ⟨by constructor <;> omega, ?_⟩, fun k2 => ⟨by constructor <;> omega, by constructor <;> omega, ?_⟩⟩
            · have w : freF (SbF σ) i = 0 := by
                by_cases w : freF (SbF σ) i = 0
                · exact w
                · rw [if_neg w] at k2; exact absurd k2 (by decide)
              rw [if_pos w, Int.add_zero] at hih
              exact hih
            · have w : freF (SbF σ) i ≠ 0 := fun w => k2 (by rw [if_pos w])
              rw [if_neg w] at hih
              exact hih
    · have hld : ldF σ ≠ -1 := fun w => by
        rw [if_pos (hli.mpr w)] at h; exact absurd h (by decide)
      rw [if_neg hld]
  exact ⟨fun e => ⟨hH.al.1, go (Or.inl e)⟩, fun e => ⟨fun e2 => ⟨hH.al.1, go (Or.inr e2)⟩, fun e2 => ⟨Nat.le_refl _, Nat.le_refl _, hd, hY _ _ _ ⟨rfl, by rw [if_neg (by omega)]; decide, rfl, hR, frC_rf⟩⟩⟩⟩
theorem mix_rev {q : Int} {S : GS} {r e : Int → Int} {F : Nat} (hF : F = S.tc) : mixI q (gsR F (fun i => S.tv ((F : Int) - 1 - i))) r e = mixI q S r (fun i => e ((F : Int) - 1 - i)) := by
  funext k
  unfold mixI
  congr 2
  show sumI (fun i => e i * S.tv ((F : Int) - 1 - i) k) F = sumI (fun i => e ((F : Int) - 1 - i) * S.tv i k) S.tc
  rw [← hF, ← sumI_rev (f := fun i => e ((F : Int) - 1 - i) * S.tv i k) F]
  exact sumI_cong (by omega) (fun i _ _ => by rw [show (F : Int) - 1 - ((F : Int) - 1 - i) = i by omega])
theorem solve_W (hW : Wf σ) (h : ldF σ = -1) (h20 : σ 0 1 ^ (SdF σ).tc ≤ 20000) (kind : Int) : SrW (σ 0 0) (σ 0 1) (SdF σ).tc (fun i => (SdF σ).td (((SdF σ).tc : Int) - 1 - i)) (fun i => (SdF σ).tv (((SdF σ).tc : Int) - 1 - i)) (fun _ v => csP kind v) (nmF σ) := by
  have hn := hW.1
  have hq := hW.2.1.b
  have hG := hW.GD
  obtain ⟨n1, n2⟩ := nm_sol hW h
  refine ⟨hn, hq, (lit_room hW.2.1 h20).1, fun i z1 z2 => ?_, fun i k z1 z2 z3 => ⟨?_, ?_⟩, fun j v _ _ z1 z2 => ?_, n1.2.1⟩
  · obtain ⟨w1, w2, w3, w4, w5⟩ := hG.2.2.2.2.1 (((SdF σ).tc : Int) - 1 - i) (by omega) (by omega)
    refine ⟨w1.2.1, w2, fun j z3 z4 => ?_, w4, n2 _ w1.2.1.1 w1.2.1.2 w1.2.2⟩
    have b := w1.2.1
    have z4' : j < (SdF σ).td (((SdF σ).tc : Int) - 1 - i) := z4
    exact w5 j z3 (by omega) (by omega) (fun z => by have := z.2; omega)
  · exact gRunD_dec (σ 0 1) (σ 0 0) (σ 2) (sA σ) (σ 0 0).toNat _ _ (by omega) (by omega) (show (((SdF σ).tc : Int) - 1 - i) < (SdF σ).tc by omega)
  · show (SdF σ).tv (((SdF σ).tc : Int) - 1 - i) ((SdF σ).td (((SdF σ).tc : Int) - 1 - k)) = 0
    rw [hG.tvtd (by omega) (by omega) (by omega) (by omega), if_neg (by omega)]
  · show 0 ≤ csP kind v ∧ csP kind v ≤ 1000
    unfold csP
    split
    · omega
    · split <;> omega
theorem solve_best (hW : Wf σ) (h : ldF σ = -1) {kind z : Int} {best : Int → Int} (hb : BestD (σ 0 0) (fun f => if ctS (fun _ v => csP kind v) f (σ 0 0) < 1000 then ctS (fun _ v => csP kind v) f (σ 0 0) else -1) (fun x => ∃ e, dgs (σ 0 1) (SdF σ).tc e ∧ x = mixI (σ 0 1) (gsR (SdF σ).tc (fun i => (SdF σ).tv (((SdF σ).tc : Int) - 1 - i))) (nmF σ) e) z best) : BestD (σ 0 0) (fun f => costF kind f (σ 0 0)) (DRv (σ 0 1) (SbF σ) (x0F σ) (σ 0 1 ^ (SbF σ).tc)) z best := by
  have hn := hW.1
  have hq := hW.2.1.b
  have n1 := (nm_sol hW h).1
  have x1 := x0_sol hW h
  have C2 : ∀ f g : Int → Int, (∀ j, 0 ≤ j → j < σ 0 0 → f j = g j) → costF kind f (σ 0 0) = costF kind g (σ 0 0) := fun f g hfg => costF_cong hn.1 hfg
  have hb2 := hb.congC (C' := fun f => costF kind f (σ 0 0)) (fun f g hfg => by simp only [ctS_cong hn.1 hfg]) C2 (fun x ⟨e, e1, e2⟩ => by
    have : inQ (σ 0 0) (σ 0 1) x := by rw [e2]; exact mixI_in (by omega)
    exact cost_same hq hn this)
  refine hb2.eqv C2 (fun x ⟨e, e1, e2⟩ => ?_) (fun y ⟨d, d1, d2, d3⟩ => ?_)
  · rw [mix_rev rfl] at e2
    have s1 : Sol (σ 0 0) (σ 0 1) (sA σ) (AdF σ) (dffF σ) x := by rw [e2]; exact hW.GD.sol_mix hq.1 hn.1 n1
    obtain ⟨d, d1, d2⟩ := hW.GB.mix_sol hq.1 hn.1 x1 s1
    exact ⟨_, ⟨d, d1, (vlN_b (by omega) _ d1).2, rfl⟩, d2⟩
  · have s1 : Sol (σ 0 0) (σ 0 1) (sA σ) (AdF σ) (dffF σ) y := by rw [d3]; exact hW.GB.sol_mix hq.1 hn.1 x1
    obtain ⟨e, e1, e2⟩ := hW.GD.mix_sol hq.1 hn.1 n1 s1
    refine ⟨_, ⟨fun i => e (((SdF σ).tc : Int) - 1 - i), fun i z1 z2 => e1 _ (by omega) (by omega), rfl⟩, fun k k0 k1 => ?_⟩
    rw [mix_rev rfl, e2 k k0 k1]
    exact congrFun (mixI_cong (fun i z1 z2 => by show e _ = e i; congr 1; omega)) k
theorem c_solve (hl : l.stackTraces = false) (d : Nat) (hd : 17 ≤ d) {x w p y : Int} (hH : HallAt G γ x w p) (hR : RepC μ x w σ) (hW : Wf σ) : Cnx l G yX8_solve cX8_solve 4 (some .int) d 1 [aR x, aI y] γ μ (fun r γ' μ' => (0 ≤ y ∧ y ≤ 2) ∧ PCe μ γ x w (SolR σ y) r γ' μ') (fun e γ' μ' => ¬ (0 ≤ y ∧ y ≤ 2) ∧ e = NSEx ∧ γ' = γ ∧ RepC μ' x w σ ∧ frB μ μ' x (x + 518)) := by
  refine Cnx.ofP hl (by decide) (noLc nlR (noL1 nlI)) rfl (fun P Y hP hY X hX hC hx => B_X8_solve_0 hC hx hH.o ?_)
  have hwb := hH.wb
  have hn := hW.1
  have hq := hW.2.1.b
  obtain ⟨-, -, -, -, c1, c2⟩ := tc36b hW
  have bad : ¬ (0 ≤ y ∧ y ≤ 2) → Y NSEx γ μ := fun h => hY _ _ _ ⟨h, rfl, rfl, hR, frC_rf⟩
  rw [hH.g3, hH.g1]
  refine ⟨fun h => ⟨Nat.le_refl _, Nat.le_refl _, by omega, bad (by omega)⟩, fun h => ⟨fun h2 => ⟨hH.al.1, ?_⟩, fun h2 => ⟨Nat.le_refl _, Nat.le_refl _, by omega, bad (by omega)⟩⟩⟩
  have hy : 0 ≤ y ∧ y ≤ 2 := by omega
  refine ⟨4, 0, _, by omega, by omega, hX ▸ c_spD hl 4 (by omega) hH hR, ?_⟩
  rintro r γ m ⟨rfl, rfl, h3, h4, h5⟩
  refine B_X8_solve_30 hC hx hH.o ⟨3, 0, _, by omega, by omega, hX ▸ c_takeDifference hl 3 (by omega) hH h3 hW, ?_⟩
  rintro r γ m2 ⟨rfl, rfl, g1, g2⟩
  refine B_X8_solve_35 hC hx hH.o ?_
  rw [hH.g16, hH.g17]
  have S2 : SpS m2 (x + 315) (σ 0 0) (σ 0 1) (SdF σ) := h4.fr (fun y j z1 z2 => g2 y j (by omega))
  refine ⟨hH.sD.o, 1, 0, _, by omega, by omega, hX ▸ c_express hl 1 (by omega) (f := dffF σ) hH.sD hH.s516 hH.s517 (by omega) (by omega) (by omega) hn hq S2 (by omega) g1 hW.dq, ?_⟩
  rintro r γ m3 ⟨rfl, rfl, e1, e2⟩
  have F3 : ∀ y j, y ≠ x + 516 → y ≠ x + 517 → m3 y j = m y j := fun y j z1 z2 => by rw [e2 y j z1 z2]; exact g2 y j z1
  have R3 : RepC m3 x w σ := h3.scr hwb (fun y j z1 z2 z3 => F3 y j (by omega) (by omega))
  have f3 : frB μ m3 x (x + 518) := fun y j z => by rw [F3 y j (by omega) (by omega)]; exact h5 y j (by omega)
  have S3 : SpS m3 (x + 315) (σ 0 0) (σ 0 1) (SdF σ) := h4.fr (fun y j z1 z2 => F3 y j (by omega) (by omega))
  have hli := ld_iff hW
  obtain ⟨tce, -⟩ := tc_eq hW
  refine B_X8_solve_47 hC hx hH.o ?_
  rw [hH.g1, R3.2.1.1.2.1, S3.2.1]
  refine ⟨fun h6 => ?_, fun h6 => ⟨Nat.zero_le _, hP _ _ _ ⟨hy, -1, σ, Or.inl ⟨fun z => ?_, rfl, rfl⟩, rfl, rfl, R3, f3⟩⟩⟩
  rotate_left
  · rw [if_pos (hli.mpr z)] at h6; exact absurd h6 (by decide)
  have hld : ldF σ = -1 := by
    by_cases w : ff (gvR (σ 0 1) (SdF σ) (dffF σ)) (σ 0 0) = -1
    · exact hli.mp w
    · rw [if_neg w] at h6; exact absurd rfl h6
  refine ⟨hH.wr.o, hH.sD.o, 0, 0, _, by omega, by omega, hX ▸ c_exceeds hl 0 (most := 20000) hq (by omega) c2, PI.use ?_⟩
  refine B_X8_solve_69 hC hx hH.o ?_
  rw [hH.g1, hH.g13, hH.g17, R3.2.1.1.1, R3.2.1.1.2.1]
  refine ⟨fun h7 => ?_, fun h7 => ⟨Nat.zero_le _, hP _ _ _ ⟨hy, -2, σ, Or.inr (Or.inl ⟨hld, ?_, rfl, rfl⟩), rfl, rfl, R3, f3⟩⟩⟩
  rotate_left
  · rcases Int.lt_or_le 20000 (σ 0 1 ^ (SdF σ).tc) with z | z
    · rw [← tce]; exact z
    · rw [if_neg (by omega)] at h7; exact absurd rfl h7
  have h20 : σ 0 1 ^ (SdF σ).tc ≤ 20000 := by
    rcases Int.lt_or_le 20000 (σ 0 1 ^ (SdF σ).tc) with z | z
    · rw [if_pos z] at h7; exact absurd h7 (by decide)
    · exact z
  have hSW := solve_W hW hld h20 y
  have F14 := hSW.2.2.1
  refine ⟨hH.wr.o, hH.se.o, 1, 0, _, by omega, by omega, hX ▸ c_seBegin hl 1 (by omega) hH.se hH.s517, PV.use ?_⟩
  generalize hm4 : cpy (up (up (up m3 (x + 485) 6 (σ 0 0)) (x + 485) 7 (σ 0 1)) (x + 485) 5 0) (x + 517) 0 (x + 485 + 18) 0 36 = m4
  have F4 : ∀ y j, (y < x + 485 ∨ x + 504 < y) → m4 y j = m3 y j := fun y j z => by rw [← hm4, cpy_off (by omega), up_ne (by omega), up_ne (by omega), up_ne (by omega)]
  have a6 : m4 (x + 485) 6 = σ 0 0 := by rw [← hm4, cpy_off (by omega), up_ne (by omega), up_ne (by omega), up_same]
  have a7 : m4 (x + 485) 7 = σ 0 1 := by rw [← hm4, cpy_off (by omega), up_ne (by omega), up_same]
  have a5 : m4 (x + 485) 5 = 0 := by rw [← hm4, cpy_off (by omega), up_same]
  have ar : ∀ j, 0 ≤ j → j < σ 0 0 → m4 (x + 485 + 18) j = nmF σ j := fun j z1 z2 => by rw [← hm4, cpy_in ⟨z1, by omega⟩, up_ne (by omega), up_ne (by omega), up_ne (by omega)]; exact e1 j z1 z2
  refine B_X8_solve_100 hC hx hH.o ?_
  rw [hH.g13]
  refine ⟨hH.se.o, 1, 0, _, by omega, by omega, hX ▸ c_countPresses hl 1 (by omega) hH.se a6 a7 hn hq, ?_⟩
  rintro r γ m5 ⟨rfl, rfl, b1, b2⟩
  refine B_X8_solve_108 hC hx hH.o ?_
  have F5 : ∀ y j, (y < x + 485 ∨ x + 504 < y) → m5 y j = m3 y j := fun y j z => by rw [b2 y j (by omega)]; exact F4 y j z
  have S5 : SpS m5 (x + 315) (σ 0 0) (σ 0 1) (SdF σ) := S3.fr (fun y j z1 z2 => F5 y j (by omega))
  rw [S5.2.1]
  refine ⟨hH.sD.o, by constructor <;> omega, ?_⟩
  have loop : ∀ (r e : Nat) (m : Mu), e + r = (SdF σ).tc → (∀ y j, (y < x + 485 ∨ x + 504 < y) → m y j = m3 y j) → m (x + 485) 5 = e → m (x + 485) 6 = σ 0 0 → m (x + 485) 7 = σ 0 1 → (∀ j v, 0 ≤ j → j < σ 0 0 → 0 ≤ v → v < σ 0 1 → m (x + 485 + 17) (j * 5 + v) = csP y v) → (∀ j, 0 ≤ j → j < σ 0 0 → m (x + 485 + 18) j = nmF σ j) → (∀ i : Int, 0 ≤ i → i < e → m (x + 485 + 1) i = (SdF σ).td (((SdF σ).tc : Int) - 1 - i) ∧ ∀ j, 0 ≤ j → j < σ 0 0 → m (x + 485 + 3 + i) j = (SdF σ).tv (((SdF σ).tc : Int) - 1 - i) j) → V X G (Qx X G 1 P Y) (0 + 0 + 0 + 0 + 0 + 0 + 0) 115 [aR x, aD, aR (x + 315), aI (((SdF σ).tc : Int) - 1 - e)] [] γ m := by
    intro r
    induction r with
    | zero =>
      intro e m her fm k5 k6 k7 kc kr kf
      refine B_X8_solve_115 hC hx hH.o ⟨fun _ => ?_, fun z => absurd (by omega) z⟩
      rw [hH.g13]
      have hM : SrS m (x + 485) (σ 0 0) (σ 0 1) (SdF σ).tc (fun i => (SdF σ).td (((SdF σ).tc : Int) - 1 - i)) (fun i => (SdF σ).tv (((SdF σ).tc : Int) - 1 - i)) (fun _ v => csP y v) := ⟨by rw [k5]; omega, k6, k7, fun i z1 z2 => kf i z1 (by omega), kc⟩
      refine ⟨hH.se.o, 16, 0, _, by omega, by omega, hX ▸ c_run hl 16 (by omega) hH.se hSW hM kr, ?_⟩
      rintro r γ m9 ⟨z, rfl, rfl, q1, q2⟩
      have hbest := solve_best hW hld q1
      have g504 : γ (x + 485) 4 = x + 504 := by have := hH.se.2.2.2.2.2.2.2.2.2.1; rw [show x + 485 + 19 = x + 504 by omega] at this; exact this
      have s504 : shO G (x + 504) 11 36 := by have := hH.se.2.2.2.2.2.2.2.2.2.2.1; rw [show x + 485 + 19 = x + 504 by omega] at this; exact this
      have F9 : ∀ y j, (y < x + 485 ∨ x + 504 < y) → m9 y j = m3 y j := fun y j z => by rw [q2 y j (by omega) (by omega) (by omega)]; exact fm y j z
      have R9 : RepC m9 x w σ := R3.scr hwb (fun y j z1 z2 z3 => F9 y j (by omega))
      have f9 : frB μ m9 x (x + 518) := fun y j z => by rw [F9 y j (by omega)]; exact f3 y j z
      refine B_X8_solve_156 hC hx hH.o ?_
      rw [hH.g13, hH.g9, g504]
      refine ⟨fun hz => ⟨Nat.zero_le _, hP _ _ _ ⟨hy, z, σ, Or.inr (Or.inr ⟨hld, by rw [← tce]; exact h20, _, hbest, by rw [if_pos hz]⟩), rfl, rfl, R9, f9⟩⟩, fun hz => ⟨hH.se.o, cpyI s504 hH.s483, by omega, Nat.zero_le _, hP _ _ _ ⟨hy, z, up (row σ 9 36 (m9 (x + 504))) 0 8 1, Or.inr (Or.inr ⟨hld, by rw [← tce]; exact h20, _, ?_, by rw [if_neg hz]⟩), rfl, rfl, ?_, fun y j z => ?_⟩⟩⟩
      · have := hbest
        rw [show x + 485 + 19 = x + 504 by omega] at this
        exact this
      · generalize hmA : up (cpy m9 (x + 504) 0 (x + 483) 0 36) x 10 1 = mA
        have FA : ∀ y j, y ≠ x + 483 → (y = x → j ≠ 10) → mA y j = m9 y j := fun y j z1 z2 => by rw [← hmA, up_ne (by omega), cpy_off z1]
        have E0 : ∀ k, k ≠ 8 → up (row σ 9 36 (m9 (x + 504))) 0 8 1 0 k = σ 0 k := fun k z => by rw [up_ne (by omega), row_off (by decide)]
        have Ek : ∀ k, k ≠ 0 → k ≠ 9 → up (row σ 9 36 (m9 (x + 504))) 0 8 1 k = σ k := fun k z1 z2 => by
          rw [up_off z1]
          funext j
          exact row_off z2
        obtain ⟨r1, r2, r3, r4, r5, r6, r7, r8⟩ := R9
        refine ⟨(r1.fr (fun y j z1 z2 => FA y j (by omega) (by omega))).c (E0 6 (by decide)) (E0 7 (by decide)) (Ek 6 (by decide) (by decide)), (r2.fr (fun y j z1 z2 => FA y j (by omega) (by omega))).c (fun k z1 z2 => E0 k (by omega)) (Ek 1 (by decide) (by decide)) (Ek 2 (by decide) (by decide)), ?_, (r4.fr (fun y j z1 z2 => FA y j (by omega) (by omega))).c (E0 5 (by decide)) (Ek 5 (by decide) (by decide)), (r5.fr (fun y j z1 z2 => FA y j (by omega) (by omega))).c (Ek 7 (by decide) (by decide)) (Ek 8 (by decide) (by decide)), ?_, (r7.fr (fun y j z1 z2 => FA y j (by omega) (by omega))).c (E0 0 (by decide)) (E0 1 (by decide)) (Ek 1 (by decide) (by decide)) (Ek 2 (by decide) (by decide)), (r8.fr (FA _ _ (by omega) (by omega)) (FA _ _ (by omega) (by omega)) (fun j => FA _ _ (by omega) (by omega)) (fun j => FA _ _ (by omega) (by omega))).c (E0 0 (by decide)) (E0 1 (by decide)) (Ek 1 (by decide) (by decide)) (Ek 2 (by decide) (by decide)) (Ek 3 (by decide) (by decide)) (Ek 4 (by decide) (by decide))⟩
        · intro j z1 z2
          rw [Ek 3 (by decide) (by decide), Ek 4 (by decide) (by decide), FA _ _ (by omega) (by omega), FA _ _ (by omega) (by omega)]
          exact r3 j z1 z2
        · obtain ⟨t1, t2, t3, t4⟩ := r6
          refine ⟨?_, fun _ j z1 z2 => ?_, ?_, fun z j z1 z2 => ?_⟩
          · rw [← hmA, up_same, up_same]
          · rw [E0 0 (by decide)] at z2
            rw [← hmA, up_ne (by omega), cpy_in ⟨z1, by omega⟩, up_ne (by omega), row_in ⟨z1, by omega⟩]
          · rw [FA _ _ (by omega) (by omega), E0 9 (by decide)]
            exact t3
          · rw [E0 9 (by decide)] at z
            rw [E0 0 (by decide)] at z2
            rw [FA _ _ (by omega) (by omega), Ek 10 (by decide) (by decide)]
            exact t4 z j z1 z2
      · rw [up_ne (by omega), cpy_off (by omega)]
        exact f9 y j z
    | succ r ih =>
      intro e m her fm k5 k6 k7 kc kr kf
      have S6 : SpS m (x + 315) (σ 0 0) (σ 0 1) (SdF σ) := S3.fr (fun y j z1 z2 => fm y j (by omega))
      obtain ⟨t1, t2, t3, t4, t5⟩ := S6.2.2 (((SdF σ).tc : Int) - 1 - e) (by omega) (by omega)
      have mx := hH.sD.mx t2
      refine B_X8_solve_115 hC hx hH.o ⟨fun z => absurd z (by omega), fun _ => ?_⟩
      rw [hH.sD.g4, hH.sD.g2, t1, mx.1, hH.g13]
      refine ⟨hH.sD.o, ixO hH.sD.s77 (by omega), ixO hH.sD.s39 (by omega), hH.se.o, 1, 0, _, by omega, by omega, hX ▸ c_addFree hl 1 (by omega) hH.se mx.2 k5 (by omega), PV.use ?_⟩
      have := ih (e + 1) (up (cpy (up m (x + 485 + 1) e ((SdF σ).td (((SdF σ).tc : Int) - 1 - e))) (x + 315 + 40 + (SdF σ).td (((SdF σ).tc : Int) - 1 - e)) 0 (x + 485 + 3 + e) 0 36) (x + 485) 5 (e + 1)) (by omega) (fun y j z => by rw [up_ne (by omega), cpy_off (by omega), up_ne (by omega)]; exact fm y j z) (by rw [up_same]; omega) (by rw [up_ne (by omega), cpy_off (by omega), up_ne (by omega)]; exact k6) (by rw [up_ne (by omega), cpy_off (by omega), up_ne (by omega)]; exact k7) (fun j v z1 z2 z3 z4 => by rw [up_ne (by omega), cpy_off (by omega), up_ne (by omega)]; exact kc j v z1 z2 z3 z4) (fun j z1 z2 => by rw [up_ne (by omega), cpy_off (by omega), up_ne (by omega)]; exact kr j z1 z2) (fun i z1 z2 => ?_)
      · rw [show ((SdF σ).tc : Int) - 1 - ((e + 1 : Nat) : Int) = ((SdF σ).tc : Int) - 1 - e + -1 by omega] at this
        exact B_X8_solve_143 hC hx hH.o ⟨by constructor <;> omega, this⟩
      · by_cases w : i = e
        · subst w
          refine ⟨by rw [up_ne (by omega), cpy_off (by omega), up_same], fun j z3 z4 => ?_⟩
          rw [up_ne (by omega), cpy_in ⟨z3, by omega⟩, up_ne (by omega)]
          exact t4 j z3 z4
        · obtain ⟨v1, v2⟩ := kf i z1 (by omega)
          refine ⟨by rw [up_ne (by omega), cpy_off (by omega), up_ne (by omega)]; exact v1, fun j z3 z4 => ?_⟩
          rw [up_ne (by omega), cpy_off (by omega), up_ne (by omega)]
          exact v2 j z3 z4
  have := loop (SdF σ).tc 0 m5 (by omega) F5 (by rw [b2 _ _ (by omega)]; exact a5) (by rw [b2 _ _ (by omega)]; exact a6) (by rw [b2 _ _ (by omega)]; exact a7) b1 (fun j z1 z2 => by rw [b2 _ _ (by omega)]; exact ar j z1 z2) (fun i z1 z2 => by omega)
  rw [show ((SdF σ).tc : Int) - 1 - ((0 : Nat) : Int) = ((SdF σ).tc : Int) - 1 by omega] at this
  exact this
end CSolve
