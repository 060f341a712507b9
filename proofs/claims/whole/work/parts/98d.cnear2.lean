/-! the class: nearest -/
theorem sumI_1 {f : Int → Int} : sumI f 1 = f 0 := by
  show sumI f (0 + 1) = f 0
  rw [sumI_s (by omega), sumI_0, Int.zero_add]
theorem near_W {σ : Mu} (hW : Wf σ) (h10 : σ 0 1 ^ (SlF σ).c ≤ 10000) : SrW (σ 0 0) (σ 0 1) (SlF σ).c (SlF σ).od (fun i => lstF (SlF σ) (σ 0 1) ((SlF σ).od i)) (csU (σ 4)) (bsN (SlF σ) (σ 0 1) (σ 3) (σ 0 0) (SlF σ).tc) := by
  have hn := hW.1
  have hq := hW.2.1.b
  have hL := hW.GL
  have hinc : ∀ i j : Int, 0 ≤ i → i < j → j < (SlF σ).c → (SlF σ).od i < (SlF σ).od j := (gRun_sort (σ 0 1) (σ 0 0) (fun _ => 0) (colV (sA σ) (σ 2)) (σ 0 0).toNat).2.1
  refine ⟨hn, hq, (lit_room hW.2.1 (by omega)).1, fun i z1 z2 => ?_, fun i k z1 z2 z3 => ⟨hinc i k z1 z2 z3, ?_⟩, fun j v _ _ _ _ => ?_, fun j _ _ => ?_⟩
  · have hb := (hL.1 i z1 z2).1.2
    have ho : OwnD (SlF σ) ((SlF σ).od i) := ⟨i, z1, z2, rfl⟩
    refine ⟨hb, fun j _ _ => ?_, fun j j0 j1 => ?_, ?_, ?_⟩
    · show 0 ≤ lstN _ _ _ _ j ∧ lstN _ _ _ _ j < σ 0 1
      unfold lstN
      split
      · omega
      · split
        · omega
        · exact ⟨Int.emod_nonneg _ (by omega), Int.emod_lt_of_pos _ (by omega)⟩
    · show lstN _ _ _ _ j = 0
      unfold lstN
      rw [if_neg (by omega)]
      rcases hL.2.2.2.2.2.2 j ⟨j0, by omega⟩ with c2 | ⟨r, r0, r1, r2⟩
      · rw [fnd_own hL (Nat.le_refl _) c2, if_pos rfl]
      · rw [← r2, fnd_td hL (Nat.le_refl _) r0 r1, if_pos r1, if_neg (by omega)]
        have hz := (hL.2.2.2.2.1 r r0 r1).2.2.2.2 ((SlF σ).od i) hb.1 hb.2 (by omega) (fun z => by have := z.2; omega)
        rw [hz]
        rfl
    · show lstN _ _ _ _ _ = 1
      unfold lstN
      rw [if_pos rfl]
    · show bsN _ _ _ _ _ _ = 0
      unfold bsN
      rw [fnd_own hL (Nat.le_refl _) ho, if_pos rfl]
  · show lstN _ _ _ _ _ = 0
    have := hinc i k z1 z2 z3
    unfold lstN
    rw [if_neg (by omega), fnd_own hL (Nat.le_refl _) ⟨k, by omega, z3, rfl⟩, if_pos rfl]
  · unfold csU
    split <;> omega
  · unfold bsN
    split
    · omega
    · exact ⟨Int.emod_nonneg _ (by omega), Int.emod_lt_of_pos _ (by omega)⟩
theorem unl_cost {n : Int} {f g : Int → Int} (hn : 0 ≤ n ∧ n ≤ 36) : (if ctS (csU g) f n < 1000 then ctS (csU g) f n else -1) = unlC f g n := by
  have e : ctS (csU g) f n = unlC f g n := rfl
  have := unlC_b f g (n := n) n hn.1 (Int.le_refl _)
  rw [e, if_pos (by omega)]
theorem near_best {σ : Mu} (hW : Wf σ) {z : Int} {best : Int → Int} (hb : BestD (σ 0 0) (fun f => if ctS (csU (σ 4)) f (σ 0 0) < 1000 then ctS (csU (σ 4)) f (σ 0 0) else -1) (fun x => ∃ e, dgs (σ 0 1) (SlF σ).c e ∧ x = mixI (σ 0 1) (gsR (SlF σ).c (fun i => lstF (SlF σ) (σ 0 1) ((SlF σ).od i))) (bsN (SlF σ) (σ 0 1) (σ 3) (σ 0 0) (SlF σ).tc) e) z best) : BestD (σ 0 0) (fun f => unlC f (σ 4) (σ 0 0)) (DRv (σ 0 1) (SoF σ) (σ 3) (σ 0 1 ^ (SbF σ).c)) z best := by
  have hn := hW.1
  have hq := hW.2.1.b
  have hL := hW.GL
  have hG := hW.GB
  have hstq : inQ (σ 0 0) (σ 0 1) (σ 3) := fun j z1 z2 => (hW.st j z1 (by omega)).1
  have hincL : ∀ i j : Int, 0 ≤ i → i < j → j < (SlF σ).c → (SlF σ).od i < (SlF σ).od j := (gRun_sort (σ 0 1) (σ 0 0) (fun _ => 0) (colV (sA σ) (σ 2)) (σ 0 0).toNat).2.1
  have hincB : ∀ i j : Int, 0 ≤ i → i < j → j < (SbF σ).c → (SbF σ).od i < (SbF σ).od j := (gRun_sort (σ 0 1) (σ 0 0) (σ 2) (sA σ) (σ 0 0).toNat).2.1
  have C2 : ∀ f g : Int → Int, (∀ j, 0 ≤ j → j < σ 0 0 → f j = g j) → unlC f (σ 4) (σ 0 0) = unlC g (σ 4) (σ 0 0) := fun f g hfg => unlC_cong hn.1 hfg
  have hb2 := hb.congC (C' := fun f => unlC f (σ 4) (σ 0 0)) (fun f g hfg => by simp only [ctS_cong hn.1 hfg]) C2 (fun x _ => unl_cost hn)
  refine hb2.eqv C2 (fun x ⟨e, e1, e2⟩ => ?_) (fun y ⟨d, d1, d2, d3⟩ => ?_)
  · have xq : inQ (σ 0 0) (σ 0 1) x := by rw [e2]; exact mixI_in (by omega)
    have px : ∀ i : Int, 0 ≤ i → i < (SlF σ).tc → cg (σ 0 1) (phi (σ 0 0) (SlF σ) i x) (phi (σ 0 0) (SlF σ) i (σ 3)) := fun i i0 i1 => by
      rw [e2]
      refine (phi_cg (v := fun k => bsN (SlF σ) (σ 0 1) (σ 3) (σ 0 0) (SlF σ).tc k + sumI (fun r => e r * lstF (SlF σ) (σ 0 1) ((SlF σ).od r) k) (SlF σ).c) hn.1 (fun k _ _ => cg_mod)).trans ?_
      rw [phi_lin hn.1 (by omega)]
      have := cg_add (phi_base hL hn.1 (f := σ 3) i0 i1) (cg_sum0 (q := σ 0 1) (n := ((SlF σ).c : Int)) (f := fun r => e r * phi (σ 0 0) (SlF σ) i (lstF (SlF σ) (σ 0 1) ((SlF σ).od r))) (by omega) (fun r r0 r1 => by
        have := cg_mul (q := σ 0 1) (a := e r) (b := e r) rfl (phi_step hL hn.1 i0 i1 ⟨r, r0, r1, rfl⟩)
        rw [Int.mul_zero] at this
        exact this))
      rw [Int.add_zero] at this
      exact this
    have vq : inQ (σ 0 0) (σ 0 1) (fun k => (x k - σ 3 k) % σ 0 1) := fun k _ _ => ⟨Int.emod_nonneg _ (by omega), Int.emod_lt_of_pos _ (by omega)⟩
    have pv : ∀ i : Int, 0 ≤ i → i < (SlF σ).tc → cg (σ 0 1) (phi (σ 0 0) (SlF σ) i (fun k => (x k - σ 3 k) % σ 0 1)) 0 := fun i i0 i1 => by
      refine (phi_cg (v := fun k => x k + sumI (fun r => (-1) * σ 3 k) 1) hn.1 (fun k _ _ => ?_)).trans ?_
      · refine Eq.trans cg_mod ?_
        show (x k - σ 3 k) % σ 0 1 = (x k + sumI (fun r => (-1) * σ 3 k) 1) % σ 0 1
        rw [sumI_1]
        congr 1
        omega
      · have e5 := phi_lin (S := SlF σ) (i := i) hn.1 (show (0 : Int) ≤ 1 by decide) (u := x) (a := fun _ => -1) (st := fun _ => σ 3)
        rw [e5, sumI_1]
        have := cg_add (px i i0 i1) (rfl : cg (σ 0 1) ((-1) * phi (σ 0 0) (SlF σ) i (σ 3)) ((-1) * phi (σ 0 0) (SlF σ) i (σ 3)))
        rw [show phi (σ 0 0) (SlF σ) i (σ 3) + (-1) * phi (σ 0 0) (SlF σ) i (σ 3) = 0 by omega] at this
        exact this
    have hld := row_made hW vq pv
    obtain ⟨yy, s1, s2⟩ : ∃ yy : Int → Int, Sol (σ 0 0) (σ 0 1) (sA σ) (AdF σ) (fun k => (x k - σ 3 k) % σ 0 1) yy ∧ ∀ k, 0 ≤ k → k < σ 0 0 → ¬ OwnD (SbF σ) k → yy k = 0 := ⟨_, (hG.lead hq.1 hn.1 vq).1 hld⟩
    have dd : dgs (σ 0 1) (SbF σ).c (fun r => yy ((SbF σ).od r)) := fun r r0 r1 => by
      have hb := (hG.1 r r0 r1).1.2
      exact s1.2.1 _ hb.1 hb.2
    refine ⟨mixI (σ 0 1) (SoF σ) (σ 3) (fun r => yy ((SbF σ).od r)), ⟨_, dd, (vlN_b (by omega) _ dd).2, rfl⟩, fun k k0 k1 => ?_⟩
    refine cg_eq ?_ (xq k k0 k1) (mixI_in (n := σ 0 0) (by omega) k k0 k1)
    refine Eq.trans ?_ cg_mod.symm
    have e6 : LC (σ 0 0) (sA σ) yy k = sumI (fun r => yy ((SbF σ).od r) * sA σ ((SbF σ).od r) k) (SbF σ).c := sum_own (SbF σ).c (fun b => yy b * sA σ b k) hn.1 (fun r r0 r1 => (hG.1 r r0 r1).1.2) hincB (fun b b0 b1 hb => by
      show yy b * sA σ b k = 0
      rw [s2 b b0 b1 (fun ⟨r, r0, r1, r2⟩ => hb r r0 r1 r2), Int.zero_mul])
    have e7 := s1.2.2 k k0 k1
    rw [e6] at e7
    have e8 : cg (σ 0 1) (x k - σ 3 k) (sumI (fun r => yy ((SbF σ).od r) * sA σ ((SbF σ).od r) k) (SbF σ).c) := (cg_mod.symm.trans e7.symm)
    have := cg_add (q := σ 0 1) (a := σ 3 k) (b := σ 3 k) rfl e8
    rw [show σ 3 k + (x k - σ 3 k) = x k by omega] at this
    exact this
  · have yq : inQ (σ 0 0) (σ 0 1) y := by rw [d3]; exact mixI_in (by omega)
    have bo : ∀ r : Int, 0 ≤ r → r < (SlF σ).c → bsN (SlF σ) (σ 0 1) (σ 3) (σ 0 0) (SlF σ).tc ((SlF σ).od r) = 0 := fun r r0 r1 => by
      unfold bsN
      rw [fnd_own hL (Nat.le_refl _) ⟨r, r0, r1, rfl⟩, if_pos rfl]
    have py : ∀ i : Int, 0 ≤ i → i < (SlF σ).tc → cg (σ 0 1) (phi (σ 0 0) (SlF σ) i y) (phi (σ 0 0) (SlF σ) i (σ 3)) := fun i i0 i1 => by
      rw [d3]
      refine (phi_cg (v := fun k => σ 3 k + sumI (fun r => d r * sA σ ((SbF σ).od r) k) (SbF σ).c) hn.1 (fun k _ _ => cg_mod)).trans ?_
      rw [phi_lin (st := fun r => sA σ ((SbF σ).od r)) hn.1 (by omega)]
      have := cg_add (rfl : cg (σ 0 1) (phi (σ 0 0) (SlF σ) i (σ 3)) (phi (σ 0 0) (SlF σ) i (σ 3))) (cg_sum0 (q := σ 0 1) (n := ((SbF σ).c : Int)) (f := fun r => d r * phi (σ 0 0) (SlF σ) i (sA σ ((SbF σ).od r))) (by omega) (fun r r0 r1 => by
        have := cg_mul (q := σ 0 1) (a := d r) (b := d r) rfl (phi_row hW i0 i1 (hG.1 r r0 r1).1.1)
        rw [Int.mul_zero] at this
        exact this))
      rw [Int.add_zero] at this
      exact this
    have pu : ∀ i : Int, 0 ≤ i → i < (SlF σ).tc → cg (σ 0 1) (phi (σ 0 0) (SlF σ) i (fun k => y k + sumI (fun r => (-1) * bsN (SlF σ) (σ 0 1) (σ 3) (σ 0 0) (SlF σ).tc k) 1)) 0 := fun i i0 i1 => by
      have e5 := phi_lin (S := SlF σ) (i := i) hn.1 (show (0 : Int) ≤ 1 by decide) (u := y) (a := fun _ => -1) (st := fun _ => bsN (SlF σ) (σ 0 1) (σ 3) (σ 0 0) (SlF σ).tc)
      rw [e5, sumI_1]
      have := cg_add (py i i0 i1) (cg_mul (q := σ 0 1) (a := -1) (b := -1) rfl (phi_base hL hn.1 (f := σ 3) i0 i1))
      rw [show phi (σ 0 0) (SlF σ) i (σ 3) + (-1) * phi (σ 0 0) (SlF σ) i (σ 3) = 0 by omega] at this
      exact this
    have sp := lamp_span hL hn.1 hincL pu
    have s1e : ∀ c : Int, sumI (fun r => (-1) * c) 1 = -c := fun c => by rw [sumI_1]; omega
    have ee : dgs (σ 0 1) (SlF σ).c (fun r => y ((SlF σ).od r)) := fun r r0 r1 => by
      have hb := (hL.1 r r0 r1).1.2
      exact yq _ hb.1 hb.2
    refine ⟨_, ⟨_, ee, rfl⟩, fun k k0 k1 => ?_⟩
    refine cg_eq ?_ (mixI_in (n := σ 0 0) (by omega) k k0 k1) (yq k k0 k1)
    refine Eq.trans cg_mod ?_
    have e9 := sp k k0 k1
    rw [s1e, sumI_cong (g := fun r => y ((SlF σ).od r) * lstF (SlF σ) (σ 0 1) ((SlF σ).od r) k) (by omega) (fun r r0 r1 => by rw [s1e, bo r r0 r1, Int.neg_zero, Int.add_zero])] at e9
    have := cg_add (q := σ 0 1) (a := bsN (SlF σ) (σ 0 1) (σ 3) (σ 0 0) (SlF σ).tc k) (b := bsN (SlF σ) (σ 0 1) (σ 3) (σ 0 0) (SlF σ).tc k) rfl e9.symm
    rw [show bsN (SlF σ) (σ 0 1) (σ 3) (σ 0 0) (SlF σ).tc k + (y k + -(bsN (SlF σ) (σ 0 1) (σ 3) (σ 0 0) (SlF σ).tc k)) = y k by omega] at this
    exact this
section CNear
variable {l : Launch} {G : Gx} {γ μ σ : Mu}
theorem c_takeLampStep (hl : l.stackTraces = false) (d : Nat) (hd : 1 < d) {x w p k : Int} (hH : HallAt G γ x w p) (hD : WirS μ w σ) (hW : Wf σ) (hS : SpS μ (x + 237) (σ 0 0) (σ 0 1) (SlF σ)) (hk : OwnD (SlF σ) k) : Cn l G yX8_takeLampStep cX8_takeLampStep 5 none d 0 [aR x, aR (x + 237), aI k] γ μ (fun r γ' μ' => r = none ∧ γ' = γ ∧ (∀ j, 0 ≤ j → j < σ 0 0 → μ' (x + 516) j = lstF (SlF σ) (σ 0 1) k j) ∧ ∀ y j, y ≠ x + 516 → μ' y j = μ y j) := by
  refine Cn.ofP hl (plainFor_of_name (by decide)) (noLc nlR (noLc nlR (noL1 nlI))) rfl (fun P hP o1 o3 X hX hC => B_X8_takeLampStep_0 hC hH.o ?_)
  have hn := hW.1
  have hq := hW.2.1.b
  have hwb := hH.wb
  have hL := hW.GL
  have kb := hL.ownAd hk
  obtain ⟨-, -, -, t2, -⟩ := tc36b hW
  rw [hH.g16]
  refine ⟨0, 0, _, by omega, Nat.le_refl _, hX ▸ c_fill hl 0 (lnO hH.s516 (by decide)), PV.use ?_⟩
  rw [shLen hH.s516]
  refine B_X8_takeLampStep_8 hC hH.o ?_
  rw [hH.g16]
  refine ⟨ixO hH.s516 (by omega), ?_⟩
  have loop : ∀ (r c : Nat) (m : Mu), c + r = (SlF σ).tc → (∀ y j, y ≠ x + 516 → m y j = μ y j) → (∀ j, 0 ≤ j → j < σ 0 0 → m (x + 516) j = lstN (SlF σ) (σ 0 1) k c j) → V X G (Qm X G 0 P) 0 17 [aR x, aR (x + 237), aI k, aI (c : Int), aD] [] γ m := by
    intro r
    induction r with
    | zero =>
      intro c m hc fm mv
      obtain rfl : c = (SlF σ).tc := by omega
      refine B_X8_takeLampStep_17 hC hH.o ?_
      rw [fm _ _ (by omega), hS.2.1]
      exact ⟨hH.sL.o, fun _ => ⟨Nat.le_refl _, hP _ _ _ ⟨rfl, rfl, mv, fm⟩⟩, fun z => absurd (Int.le_refl _) z⟩
    | succ r ih =>
      intro c m hc fm mv
      have S2 : SpS m (x + 237) (σ 0 0) (σ 0 1) (SlF σ) := hS.fr (fun y j z1 z2 => fm y j (by omega))
      have D2 : WirS m w σ := hD.fr2 (fun y j z1 z2 => fm y j (by omega))
      obtain ⟨e1, e2, e3, e4, e5⟩ := S2.2.2 c (by omega) (by omega)
      obtain ⟨w1, w2, -⟩ := hL.2.2.2.2.1 c (by omega) (by omega)
      have mx := hH.sL.mx e2
      have hb := e5 k kb.1 kb.2
      refine B_X8_takeLampStep_17 hC hH.o ?_
      rw [S2.2.1, hH.sL.g4, hH.sL.g2, e1, mx.1, e4 k kb.1 kb.2, hH.g1, hH.g16, D2.2.1]
      refine ⟨hH.sL.o, fun z => absurd z (by omega), fun _ => ⟨ixO hH.sL.s77 (by omega), ixO hH.sL.s39 (by omega), ixO mx.2 (by omega), by constructor <;> omega, hH.wr.o, 1, 0, _, hd, Nat.le_refl _, hX ▸ c_mod hl 1 (by omega), PI.use ?_⟩⟩
      rw [if_pos hq.1]
      have := ih (c + 1) (up m (x + 516) ((SlF σ).td c) (-(SlF σ).tv c k % σ 0 1)) (by omega) (fun y j z => by rw [up_ne (by omega)]; exact fm y j z) (fun j j0 j1 => ?_)
      · rw [show ((c + 1 : Nat) : Int) = (c : Int) + 1 by omega] at this
        exact B_X8_takeLampStep_59 hC hH.o ⟨ixO hH.s516 (by omega), by constructor <;> omega, this⟩
      · have hs := fndL_succ (SlF σ).td j c 0 (Int.le_refl _)
        by_cases c1 : j = (SlF σ).td c
        · subst c1
          have f1 := fnd_td hL (c := c + 1) (i := (c : Int)) (by omega) (by omega) (by omega)
          rw [if_pos (by omega)] at f1
          rw [up_same]
          unfold lstN
          rw [if_neg (fun w => w1.2.2 (by rw [w]; exact hk)), f1, if_neg (by omega)]
        · rw [up_ne (by omega), mv j j0 j1]
          have hfn : fndL (SlF σ).td j (c + 1) 0 = fndL (SlF σ).td j c 0 := by
            rw [hs, Int.zero_add]
            by_cases c2 : fndL (SlF σ).td j c 0 = -1
            · rw [if_pos c2, if_neg (fun w => c1 w.symm), c2]
            · rw [if_neg c2]
          unfold lstN
          rw [hfn]
  refine loop (SlF σ).tc 0 _ (by omega) (fun y j z => by rw [up_ne (by omega), row_off z]) (fun j j0 j1 => ?_)
  unfold lstN
  by_cases c1 : j = k
  · rw [c1, up_same, if_pos rfl]
  · rw [up_ne (by omega), row_in ⟨j0, by omega⟩, if_neg c1]
    rfl
theorem c_nearest (hl : l.stackTraces = false) (d : Nat) (hd : 17 ≤ d) {x w p : Int} (hH : HallAt G γ x w p) (hR : RepC μ x w σ) (hW : Wf σ) : Cn l G yX8_nearest cX8_nearest 3 (some .int) d 0 [aR x] γ μ (PCe μ γ x w (NearR σ)) := by
  refine Cn.ofP hl (plainFor_of_name (by decide)) (noL1 nlR) rfl (fun P hP o1 o3 X hX hC => B_X8_nearest_0 hC hH.o ?_)
  have hn := hW.1
  have hq := hW.2.1.b
  have hwb := hH.wb
  have hL := hW.GL
  have hrk := rank_bl hW
  obtain ⟨-, -, t1, t2, -⟩ := tc36b hW
  rw [hH.g3, hH.g1]
  refine ⟨hH.al.1, 4, 0, _, by omega, Nat.le_refl _, hX ▸ c_spL hl 4 (by omega) hH hR, ?_⟩
  rintro r γ m3 ⟨rfl, rfl, R3, S3, h5⟩
  have f3 : frB μ m3 x (x + 518) := h5.c
  refine B_X8_nearest_11 hC hH.o ?_
  rw [hH.g1, R3.2.1.1.2.1, S3.1.1]
  refine ⟨hH.wr.o, hH.sL.o, 0, 0, _, by omega, Nat.le_refl _, hX ▸ c_exceeds hl 0 (most := 10000) hq (by omega) t1, PI.use ?_⟩
  refine B_X8_nearest_29 hC hH.o ?_
  rw [hH.g17]
  refine ⟨fun h => ?_, fun h => ⟨Nat.le_refl _, hP _ _ _ ⟨-2, σ, Or.inl ⟨?_, rfl, rfl⟩, rfl, rfl, R3, f3⟩⟩⟩
  rotate_left
  · rcases Int.lt_or_le 10000 (σ 0 1 ^ (SlF σ).c) with z | z
    · rw [hrk]; exact z
    · rw [if_neg (by omega)] at h; exact absurd rfl h
  have h10 : σ 0 1 ^ (SlF σ).c ≤ 10000 := by
    rcases Int.lt_or_le 10000 (σ 0 1 ^ (SlF σ).c) with z | z
    · rw [if_pos z] at h; exact absurd h (by decide)
    · exact z
  have hSW := near_W hW h10
  have F14 := hSW.2.2.1
  refine ⟨0, 0, _, by omega, Nat.le_refl _, hX ▸ c_fill hl 0 (lnO hH.s517 (by decide)), PV.use ?_⟩
  rw [shLen hH.s517]
  refine B_X8_nearest_43 hC hH.o ?_
  have loop2 : ∀ (r e : Nat) (m : Mu), e + r = (SlF σ).c → (∀ y j, (y < x + 485 ∨ x + 504 < y) → y ≠ x + 516 → y ≠ x + 517 → m y j = m3 y j) → m (x + 485) 5 = e → m (x + 485) 6 = σ 0 0 → m (x + 485) 7 = σ 0 1 → (∀ j v, 0 ≤ j → j < σ 0 0 → 0 ≤ v → v < σ 0 1 → m (x + 485 + 17) (j * 5 + v) = csU (σ 4) j v) → (∀ j, 0 ≤ j → j < σ 0 0 → m (x + 485 + 18) j = bsN (SlF σ) (σ 0 1) (σ 3) (σ 0 0) (SlF σ).tc j) → (∀ i : Int, 0 ≤ i → i < e → m (x + 485 + 1) i = (SlF σ).od i ∧ ∀ j, 0 ≤ j → j < σ 0 0 → m (x + 485 + 3 + i) j = lstF (SlF σ) (σ 0 1) ((SlF σ).od i) j) → V X G (Qm X G 0 P) 0 127 [aR x, aR (x + 237), aI (e : Int)] [] γ m := by
    intro r
    induction r with
    | zero =>
      intro e m her fm k5 k6 k7 kc kr kf
      obtain rfl : e = (SlF σ).c := by omega
      have S6 : SpS m (x + 237) (σ 0 0) (σ 0 1) (SlF σ) := S3.fr (fun y j z1 z2 => fm y j (by omega) (by omega) (by omega))
      refine B_X8_nearest_127 hC hH.o ?_
      rw [S6.1.1, hH.g13]
      refine ⟨hH.sL.o, fun _ => ?_, fun z => absurd (Int.le_refl _) z⟩
      have hM : SrS m (x + 485) (σ 0 0) (σ 0 1) (SlF σ).c (SlF σ).od (fun i => lstF (SlF σ) (σ 0 1) ((SlF σ).od i)) (csU (σ 4)) := ⟨k5, k6, k7, kf, kc⟩
      refine ⟨hH.se.o, 16, 0, _, by omega, Nat.le_refl _, hX ▸ c_run hl 16 (by omega) hH.se hSW hM kr, ?_⟩
      rintro r γ m9 ⟨z, rfl, rfl, q1, q2⟩
      have hbest := near_best hW q1
      have g504 : γ (x + 485) 4 = x + 504 := by have := hH.se.2.2.2.2.2.2.2.2.2.1; rw [show x + 485 + 19 = x + 504 by omega] at this; exact this
      have s504 : shO G (x + 504) 11 36 := by have := hH.se.2.2.2.2.2.2.2.2.2.2.1; rw [show x + 485 + 19 = x + 504 by omega] at this; exact this
      have F9 : ∀ y j, (y < x + 485 ∨ x + 504 < y) → y ≠ x + 516 → y ≠ x + 517 → m9 y j = m3 y j := fun y j z z1 z2 => by rw [q2 y j (by omega) (by omega) (by omega)]; exact fm y j z z1 z2
      have R9 : RepC m9 x w σ := R3.scr hwb (fun y j z1 z2 z3 => F9 y j (by omega) (by omega) (by omega))
      have f9 : frB μ m9 x (x + 518) := fun y j z => by rw [F9 y j (by omega) (by omega) (by omega)]; exact f3 y j z
      refine B_X8_nearest_176 hC hH.o ?_
      rw [hH.g13, hH.g11, g504]
      refine ⟨hH.se.o, cpyI s504 hH.s484, by omega, Nat.le_refl _, hP _ _ _ ⟨z, up (row σ 10 36 (m9 (x + 504))) 0 9 1, Or.inr ⟨by rw [hrk]; exact h10, _, ?_, rfl⟩, rfl, rfl, ?_, fun y j z => ?_⟩⟩
      · have := hbest
        rw [show x + 485 + 19 = x + 504 by omega] at this
        exact this
      · generalize hmA : up (cpy m9 (x + 504) 0 (x + 484) 0 36) x 12 1 = mA
        have FA : ∀ y j, y ≠ x + 484 → (y = x → j ≠ 12) → mA y j = m9 y j := fun y j z1 z2 => by rw [← hmA, up_ne (by omega), cpy_off z1]
        have E0 : ∀ k, k ≠ 9 → up (row σ 10 36 (m9 (x + 504))) 0 9 1 0 k = σ 0 k := fun k z => by rw [up_ne (by omega), row_off (by decide)]
        have Ek : ∀ k, k ≠ 0 → k ≠ 10 → up (row σ 10 36 (m9 (x + 504))) 0 9 1 k = σ k := fun k z1 z2 => by
          rw [up_off z1]
          funext j
          exact row_off z2
        obtain ⟨r1, r2, r3, r4, r5, r6, r7, r8⟩ := R9
        refine ⟨(r1.fr (fun y j z1 z2 => FA y j (by omega) (by omega))).c (E0 6 (by decide)) (E0 7 (by decide)) (Ek 6 (by decide) (by decide)), (r2.fr (fun y j z1 z2 => FA y j (by omega) (by omega))).c (fun k z1 z2 => E0 k (by omega)) (Ek 1 (by decide) (by decide)) (Ek 2 (by decide) (by decide)), ?_, (r4.fr (fun y j z1 z2 => FA y j (by omega) (by omega))).c (E0 5 (by decide)) (Ek 5 (by decide) (by decide)), (r5.fr (fun y j z1 z2 => FA y j (by omega) (by omega))).c (Ek 7 (by decide) (by decide)) (Ek 8 (by decide) (by decide)), ?_, (r7.fr (fun y j z1 z2 => FA y j (by omega) (by omega))).c (E0 0 (by decide)) (E0 1 (by decide)) (Ek 1 (by decide) (by decide)) (Ek 2 (by decide) (by decide)), (r8.fr (FA _ _ (by omega) (by omega)) (FA _ _ (by omega) (by omega)) (fun j => FA _ _ (by omega) (by omega)) (fun j => FA _ _ (by omega) (by omega))).c (E0 0 (by decide)) (E0 1 (by decide)) (Ek 1 (by decide) (by decide)) (Ek 2 (by decide) (by decide)) (Ek 3 (by decide) (by decide)) (Ek 4 (by decide) (by decide))⟩
        · intro j z1 z2
          rw [Ek 3 (by decide) (by decide), Ek 4 (by decide) (by decide), FA _ _ (by omega) (by omega), FA _ _ (by omega) (by omega)]
          exact r3 j z1 z2
        · obtain ⟨u1, u2, u3, u4⟩ := r6
          refine ⟨?_, fun z j z1 z2 => ?_, ?_, fun _ j z1 z2 => ?_⟩
          · rw [FA _ _ (by omega) (by omega), E0 8 (by decide)]
            exact u1
          · rw [E0 8 (by decide)] at z
            rw [E0 0 (by decide)] at z2
            rw [FA _ _ (by omega) (by omega), Ek 9 (by decide) (by decide)]
            exact u2 z j z1 z2
          · rw [← hmA, up_same, up_same]
          · rw [E0 0 (by decide)] at z2
            rw [← hmA, up_ne (by omega), cpy_in ⟨z1, by omega⟩, up_ne (by omega), row_in ⟨z1, by omega⟩]
      · rw [up_ne (by omega), cpy_off (by omega)]
        exact f9 y j z
    | succ r ih =>
      intro e m her fm k5 k6 k7 kc kr kf
      have S6 : SpS m (x + 237) (σ 0 0) (σ 0 1) (SlF σ) := S3.fr (fun y j z1 z2 => fm y j (by omega) (by omega) (by omega))
      have D6 : WirS m w σ := R3.2.1.1.fr2 (fun y j z1 z2 => fm y j (by omega) (by omega) (by omega))
      obtain ⟨v1, v2, -⟩ := S6.1.2.2.2 e (by omega) (by omega)
      have ho : OwnD (SlF σ) ((SlF σ).od e) := ⟨e, by omega, by omega, rfl⟩
      refine B_X8_nearest_127 hC hH.o ?_
      rw [S6.1.1, hH.sL.g3, v1]
      refine ⟨hH.sL.o, fun z => absurd z (by omega), fun _ => ⟨ixO hH.sL.s76 (by omega), 2, 0, _, by omega, Nat.le_refl _, hX ▸ c_takeLampStep hl 2 (by omega) hH D6 hW S6 ho, ?_⟩⟩
      rintro r γ m7 ⟨rfl, rfl, b1, b2⟩
      have f7 : ∀ y j, (y < x + 485 ∨ x + 504 < y) → y ≠ x + 516 → y ≠ x + 517 → m7 y j = m3 y j := fun y j z z1 z2 => by rw [b2 y j z1]; exact fm y j z z1 z2
      refine B_X8_nearest_146 hC hH.o ?_
      rw [hH.sL.g3, b2 _ _ (by omega), v1, hH.g13, hH.g16]
      refine ⟨hH.sL.o, ixO hH.sL.s76 (by omega), hH.se.o, 1, 0, _, by omega, Nat.le_refl _, hX ▸ c_addFree hl 1 (by omega) (F := (e : Int)) hH.se hH.s516 (by rw [b2 _ _ (by omega)]; exact k5) (by omega), PV.use ?_⟩
      have := ih (e + 1) (up (cpy (up m7 (x + 485 + 1) e ((SlF σ).od e)) (x + 516) 0 (x + 485 + 3 + e) 0 36) (x + 485) 5 (e + 1)) (by omega) (fun y j z z1 z2 => by rw [up_ne (by omega), cpy_off (by omega), up_ne (by omega)]; exact f7 y j z z1 z2) (by rw [up_same]; omega) (by rw [up_ne (by omega), cpy_off (by omega), up_ne (by omega), b2 _ _ (by omega)]; exact k6) (by rw [up_ne (by omega), cpy_off (by omega), up_ne (by omega), b2 _ _ (by omega)]; exact k7) (fun j v z1 z2 z3 z4 => by rw [up_ne (by omega), cpy_off (by omega), up_ne (by omega), b2 _ _ (by omega)]; exact kc j v z1 z2 z3 z4) (fun j z1 z2 => by rw [up_ne (by omega), cpy_off (by omega), up_ne (by omega), b2 _ _ (by omega)]; exact kr j z1 z2) (fun i z1 z2 => ?_)
      · rw [show ((e + 1 : Nat) : Int) = (e : Int) + 1 by omega] at this
        exact B_X8_nearest_163 hC hH.o ⟨by constructor <;> omega, this⟩
      · by_cases w : i = e
        · subst w
          refine ⟨by rw [up_ne (by omega), cpy_off (by omega), up_same], fun j z3 z4 => ?_⟩
          rw [up_ne (by omega), cpy_in ⟨z3, by omega⟩, up_ne (by omega)]
          exact b1 j z3 z4
        · obtain ⟨u1, u2⟩ := kf i z1 (by omega)
          refine ⟨by rw [up_ne (by omega), cpy_off (by omega), up_ne (by omega), b2 _ _ (by omega)]; exact u1, fun j z3 z4 => ?_⟩
          rw [up_ne (by omega), cpy_off (by omega), up_ne (by omega), b2 _ _ (by omega)]
          exact u2 j z3 z4
  have loop1 : ∀ (r c : Nat) (m : Mu), c + r = (SlF σ).tc → (∀ y j, y ≠ x + 517 → m y j = m3 y j) → (∀ j, 0 ≤ j → j < σ 0 0 → m (x + 517) j = bsN (SlF σ) (σ 0 1) (σ 3) (σ 0 0) c j) → V X G (Qm X G 0 P) 0 45 [aR x, aR (x + 237), aI (c : Int)] [] γ m := by
    intro r
    induction r with
    | zero =>
      intro c m hc fm mv
      obtain rfl : c = (SlF σ).tc := by omega
      have D2 : WirS m w σ := R3.2.1.1.fr2 (fun y j z1 z2 => fm y j (by omega))
      refine B_X8_nearest_45 hC hH.o ?_
      rw [fm _ _ (by omega), S3.2.1, hH.g1, hH.g13, hH.g17, D2.1, D2.2.1]
      refine ⟨hH.sL.o, fun _ => ⟨hH.wr.o, hH.se.o, 1, 0, _, by omega, Nat.le_refl _, hX ▸ c_seBegin hl 1 (by omega) hH.se hH.s517, PV.use ?_⟩, fun z => absurd (Int.le_refl _) z⟩
      generalize hm4 : cpy (up (up (up m (x + 485) 6 (σ 0 0)) (x + 485) 7 (σ 0 1)) (x + 485) 5 0) (x + 517) 0 (x + 485 + 18) 0 36 = m4
      have F4 : ∀ y j, (y < x + 485 ∨ x + 504 < y) → y ≠ x + 517 → m4 y j = m3 y j := fun y j z z1 => by rw [← hm4, cpy_off (by omega), up_ne (by omega), up_ne (by omega), up_ne (by omega)]; exact fm y j z1
      have a6 : m4 (x + 485) 6 = σ 0 0 := by rw [← hm4, cpy_off (by omega), up_ne (by omega), up_ne (by omega), up_same]
      have a7 : m4 (x + 485) 7 = σ 0 1 := by rw [← hm4, cpy_off (by omega), up_ne (by omega), up_same]
      have a5 : m4 (x + 485) 5 = 0 := by rw [← hm4, cpy_off (by omega), up_same]
      have ar : ∀ j, 0 ≤ j → j < σ 0 0 → m4 (x + 485 + 18) j = bsN (SlF σ) (σ 0 1) (σ 3) (σ 0 0) (SlF σ).tc j := fun j z1 z2 => by rw [← hm4, cpy_in ⟨z1, by omega⟩, up_ne (by omega), up_ne (by omega), up_ne (by omega)]; exact mv j z1 z2
      refine B_X8_nearest_114 hC hH.o ?_
      rw [hH.g13, hH.g5]
      refine ⟨hH.se.o, 1, 0, _, by omega, Nat.le_refl _, hX ▸ c_countUnlike hl 1 (g := σ 4) hH.se hH.s474 (by omega) a6 a7 hn hq (fun j z1 z2 => by rw [F4 _ _ (by omega) (by omega)]; exact (R3.2.2.1 j z1 (by omega)).2), ?_⟩
      rintro r γ m5 ⟨rfl, rfl, b1, b2⟩
      refine B_X8_nearest_125 hC hH.o ?_
      exact loop2 (SlF σ).c 0 m5 (by omega) (fun y j z z1 z2 => by rw [b2 y j (by omega)]; exact F4 y j z z2) (by rw [b2 _ _ (by omega)]; exact a5) (by rw [b2 _ _ (by omega)]; exact a6) (by rw [b2 _ _ (by omega)]; exact a7) b1 (fun j z1 z2 => by rw [b2 _ _ (by omega)]; exact ar j z1 z2) (fun i z1 z2 => by omega)
    | succ r ih =>
      intro c m hc fm mv
      have S2 : SpS m (x + 237) (σ 0 0) (σ 0 1) (SlF σ) := S3.fr (fun y j z1 z2 => fm y j (by omega))
      have D2 : WirS m w σ := R3.2.1.1.fr2 (fun y j z1 z2 => fm y j (by omega))
      obtain ⟨e1, e2, e3, e4, e5⟩ := S2.2.2 c (by omega) (by omega)
      obtain ⟨w1, w2, -⟩ := hL.2.2.2.2.1 c (by omega) (by omega)
      have mx := hH.sL.mx e2
      refine B_X8_nearest_45 hC hH.o ?_
      rw [S2.2.1, hH.sL.g4, hH.sL.g2, e1, mx.1, hH.g4, hH.g17]
      refine ⟨hH.sL.o, fun z => absurd z (by omega), fun _ => ⟨ixO hH.sL.s77 (by omega), ixO hH.sL.s39 (by omega), 2, 0, _, by omega, Nat.le_refl _, hX ▸ c_dot hl 2 (by omega) (g := σ 3) hH D2 hW mx.2 hH.s473 e4 (fun j z1 z2 => by rw [fm _ _ (by omega)]; exact (R3.2.2.1 j z1 (by omega)).1) e5 (fun j z1 z2 => (hW.st j z1 (by omega)).1), PI.use ?_⟩⟩
      have := ih (c + 1) (up m (x + 517) ((SlF σ).td c) (dotI ((SlF σ).tv c) (σ 3) (σ 0 0) % σ 0 1)) (by omega) (fun y j z => by rw [up_ne (by omega)]; exact fm y j z) (fun j j0 j1 => ?_)
      · rw [show ((c + 1 : Nat) : Int) = (c : Int) + 1 by omega] at this
        exact B_X8_nearest_82 hC hH.o ⟨ixO hH.s517 (by omega), by constructor <;> omega, this⟩
      · have hs := fndL_succ (SlF σ).td j c 0 (Int.le_refl _)
        by_cases c1 : j = (SlF σ).td c
        · subst c1
          have f1 := fnd_td hL (c := c + 1) (i := (c : Int)) (by omega) (by omega) (by omega)
          rw [if_pos (by omega)] at f1
          rw [up_same]
          unfold bsN
          rw [f1, if_neg (by omega)]
        · rw [up_ne (by omega), mv j j0 j1]
          have hfn : fndL (SlF σ).td j (c + 1) 0 = fndL (SlF σ).td j c 0 := by
            rw [hs, Int.zero_add]
            by_cases c2 : fndL (SlF σ).td j c 0 = -1
            · rw [if_pos c2, if_neg (fun w => c1 w.symm), c2]
            · rw [if_neg c2]
          unfold bsN
          rw [hfn]
  exact loop1 (SlF σ).tc 0 _ (by omega) (fun y j z => row_off z) (fun j j0 j1 => by rw [row_in ⟨j0, by omega⟩]; rfl)
end CNear
