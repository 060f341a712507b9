/-! what both found is the same -/
theorem RepC.agree {μ σ σ' : Mu} {x w : Int} (h : RepC μ x w σ) (e0 : ∀ j, σ' 0 j = σ 0 j) (ek : ∀ k, k ≠ 0 → k ≠ 9 → k ≠ 10 → σ' k = σ k) (e9 : σ 0 8 ≠ 0 → ∀ j, 0 ≤ j → j < σ 0 0 → σ' 9 j = σ 9 j) (e10 : σ 0 9 ≠ 0 → ∀ j, 0 ≤ j → j < σ 0 0 → σ' 10 j = σ 10 j) : RepC μ x w σ' := by
  obtain ⟨h1, h2, h3, h4, h5, h6, h7, h8⟩ := h
  have k1 := ek 1 (by decide) (by decide) (by decide)
  have k2 := ek 2 (by decide) (by decide) (by decide)
  have k3 := ek 3 (by decide) (by decide) (by decide)
  have k4 := ek 4 (by decide) (by decide) (by decide)
  refine ⟨h1.c (e0 6) (e0 7) (ek 6 (by decide) (by decide) (by decide)), h2.c (fun k _ _ => e0 k) k1 k2, ?_, h4.c (e0 5) (ek 5 (by decide) (by decide) (by decide)), h5.c (ek 7 (by decide) (by decide) (by decide)) (ek 8 (by decide) (by decide) (by decide)), ?_, h7.c (e0 0) (e0 1) k1 k2, h8.c (e0 0) (e0 1) k1 k2 k3 k4⟩
  · unfold RwC at h3 ⊢
    rw [k3, k4]
    exact h3
  · obtain ⟨q1, q2, q3, q4⟩ := h6
    refine ⟨by rw [e0]; exact q1, fun w j z1 z2 => ?_, by rw [e0]; exact q3, fun w j z1 z2 => ?_⟩
    · rw [e0] at w z2
      rw [e9 w j z1 z2]
      exact q2 w j z1 z2
    · rw [e0] at w z2
      rw [e10 w j z1 z2]
      exact q4 w j z1 z2
theorem near_same {μ σ σ1 σ2 : Mu} {x w z1 z2 : Int} (hW : Wf σ) (h1 : NearR σ z1 σ1) (h2 : NearR σ z2 σ2) (hR : RepC μ x w σ1) : z1 = z2 ∧ RepC μ x w σ2 := by
  have hn := hW.1
  rcases h1 with ⟨a1, a2, a3⟩ | ⟨a1, b1, a2, a3⟩
  · rcases h2 with ⟨c1, c2, c3⟩ | ⟨c1, -⟩
    · exact ⟨by omega, by rw [c3, ← a3]; exact hR⟩
    · omega
  · rcases h2 with ⟨c1, -⟩ | ⟨c1, b2, c2, c3⟩
    · omega
    · obtain ⟨e1, e2⟩ := BestD.uniq hn.1 (fun f g hh => unlC_cong hn.1 hh) a2 c2
      refine ⟨e1, ?_⟩
      rw [a3] at hR
      rw [c3]
      refine hR.agree (fun j => ?_) (fun k k0 k9 k10 => ?_) (fun w j q1 q2 => ?_) (fun w j q1 q2 => ?_)
      · by_cases e : j = 9
        · subst e; rw [up_same, up_same]
        · rw [up_ne (by omega), up_ne (by omega), row_off (by decide), row_off (by decide)]
      · rw [up_off k0, up_off k0, row_offF k10, row_offF k10]
      · rw [up_ne (by omega), up_ne (by omega), row_off (by decide), row_off (by decide)]
      · rw [up_ne (by omega), row_off (by decide)] at q2
        rw [up_ne (by omega), up_ne (by omega), row_in ⟨q1, by omega⟩, row_in ⟨q1, by omega⟩]
        exact (e2 (near_ne hW a2) j q1 q2).symm
theorem sol_same {μ σ σ1 σ2 : Mu} {x w y z1 z2 : Int} (hW : Wf σ) (h1 : SolR σ y z1 σ1) (h2 : SolR σ y z2 σ2) (hR : RepC μ x w σ1) : z1 = z2 ∧ RepC μ x w σ2 := by
  have hn := hW.1
  rcases h1 with ⟨a1, a2, a3⟩ | ⟨a0, a1, a2, a3⟩ | ⟨a0, a1, b1, a2, a3⟩
  · rcases h2 with ⟨c1, c2, c3⟩ | ⟨c0, -⟩ | ⟨c0, -⟩
    · exact ⟨by omega, by rw [c3, ← a3]; exact hR⟩
    · exact absurd c0 a1
    · exact absurd c0 a1
  · rcases h2 with ⟨c1, -⟩ | ⟨c0, c1, c2, c3⟩ | ⟨c0, c1, -⟩
    · exact absurd a0 c1
    · exact ⟨by omega, by rw [c3, ← a3]; exact hR⟩
    · omega
  · rcases h2 with ⟨c1, -⟩ | ⟨c0, c1, -⟩ | ⟨c0, c1, b2, c2, c3⟩
    · exact absurd a0 c1
    · omega
    · obtain ⟨e1, e2⟩ := BestD.uniq hn.1 (fun f g hh => costF_cong hn.1 hh) a2 c2
      refine ⟨e1, ?_⟩
      subst e1
      rw [a3] at hR
      rw [c3]
      by_cases ez : z1 = -1
      · rw [if_pos ez] at hR ⊢
        exact hR
      · rw [if_neg ez] at hR ⊢
        refine hR.agree (fun j => ?_) (fun k k0 k9 k10 => ?_) (fun w j q1 q2 => ?_) (fun w j q1 q2 => ?_)
        · by_cases e : j = 8
          · subst e; rw [up_same, up_same]
          · rw [up_ne (by omega), up_ne (by omega), row_off (by decide), row_off (by decide)]
        · rw [up_off k0, up_off k0, row_offF k9, row_offF k9]
        · rw [up_ne (by omega), row_off (by decide)] at q2
          rw [up_ne (by omega), up_ne (by omega), row_in ⟨q1, by omega⟩, row_in ⟨q1, by omega⟩]
          exact (e2 ez j q1 q2).symm
        · rw [up_ne (by omega), up_ne (by omega), row_off (by decide), row_off (by decide)]
