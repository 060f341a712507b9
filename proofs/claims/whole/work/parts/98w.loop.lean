/-! the law's loop -/
theorem and63 (v : Int) : 0 ≤ o_and v 63 := by
  unfold o_and
  have h : ((Int32.ofInt v &&& Int32.ofInt 63).toBitVec).toNat ≤ 63 := by
    rw [Int32.toBitVec_and, BitVec.toNat_and]
    exact Nat.and_le_right
  rw [← Int32.toInt_toBitVec, BitVec.toInt_eq_toNat_of_lt (by omega)]
  omega
section LawLoop
variable {X : Mx} {G : Gx} {Q : State → Prop} {kk L : Nat} {xs : Nat → Int32}
set_option maxRecDepth 100000 in
set_option maxHeartbeats 4000000 in
theorem law_turn (hC : Cx X G cL_law 7 RL (some .boolean) 1000 kk) (hl : X.l.stackTraces = false) (hX : Scr X G L xs) {k : Nat} {i : Int} {γ μ σ : Mu} (hkk : k + 2 ≤ kk) (h0 : 0 ≤ i) (hL : Lq G γ μ σ)
    (R : V X G Q k 1717 [aS 52, aR 0, aR 518, aR 558, aI i, aD, aD] [] γ μ) (K : i + 6 ≤ L → ∀ γ' μ' σ', Lq G γ' μ' σ' → V X G Q (k + 2) 1711 [aS 52, aR 0, aR 518, aR 558, aI i, aD, aD] [] γ' μ') (hb : i ≤ 4000) : V X G Q k 23 [aS 52, aR 0, aR 518, aR 558, aI i, aD, aD] [] γ μ := by
  have h3 := hX.2.2.2
  refine V_iload hC dL_law_23 rfl (V_aload_n_S hC (by decide) dL_law_25 rfl rfl (V_scl hC hX dL_law_26 (V_bipush hC dL_law_27 (by decide) (V_isub hC dL_law_29 (by unfold iR; omega) ?_))))
  refine V_icmp_gt (tgt := 1717) hC dL_law_30 (by decide) (fun _ => R) (fun h => ?_)
  have h6 : i + 6 ≤ L := by omega
  have K := K h6
  refine V_aload_n_S hC (by decide) dL_law_33 rfl rfl (V_iload hC dL_law_34 rfl (V_sld hC hX (by omega) dL_law_36 (V_bipush hC dL_law_37 (by decide) (V_iand hC dL_law_39 ?_))))
  by_cases e0 : o_and (scI xs i) 63 = 0
  · exact V_tcase (tgt := 188) hC 0 dL_law_40 e0 (by decide) rfl (by decide) (case_0 hC hl hX (by omega) ⟨h0, by omega⟩ hL K)
  by_cases e1 : o_and (scI xs i) 63 = 1
  · exact V_tcase (tgt := 261) hC 1 dL_law_40 e1 (by decide) rfl (by decide) (case_1 hC hl hX (by omega) ⟨h0, by omega⟩ hL K)
  by_cases e2 : o_and (scI xs i) 63 = 2
  · exact V_tcase (tgt := 317) hC 2 dL_law_40 e2 (by decide) rfl (by decide) (case_2 hC hl hX (by omega) ⟨h0, by omega⟩ hL K)
  by_cases e3 : o_and (scI xs i) 63 = 3
  · exact V_tcase (tgt := 330) hC 3 dL_law_40 e3 (by decide) rfl (by decide) (case_3 hC hl hX (by omega) ⟨h0, by omega⟩ hL K)
  by_cases e4 : o_and (scI xs i) 63 = 4
  · exact V_tcase (tgt := 386) hC 4 dL_law_40 e4 (by decide) rfl (by decide) (case_4 hC hl hX (by omega) ⟨h0, by omega⟩ hL K)
  by_cases e5 : o_and (scI xs i) 63 = 5
  · exact V_tcase (tgt := 454) hC 5 dL_law_40 e5 (by decide) rfl (by decide) (case_5 hC hl hX (by omega) ⟨h0, by omega⟩ hL K)
  by_cases e6 : o_and (scI xs i) 63 = 6
  · exact V_tcase (tgt := 522) hC 6 dL_law_40 e6 (by decide) rfl (by decide) (case_6 hC hl hX (by omega) ⟨h0, by omega⟩ hL K)
  by_cases e7 : o_and (scI xs i) 63 = 7
  · exact V_tcase (tgt := 609) hC 7 dL_law_40 e7 (by decide) rfl (by decide) (case_7 hC hl hX (by omega) ⟨h0, by omega⟩ hL K)
  by_cases e8 : o_and (scI xs i) 63 = 8
  · exact V_tcase (tgt := 684) hC 8 dL_law_40 e8 (by decide) rfl (by decide) (case_8 hC hl hX (by omega) ⟨h0, by omega⟩ hL K)
  by_cases e9 : o_and (scI xs i) 63 = 9
  · exact V_tcase (tgt := 707) hC 9 dL_law_40 e9 (by decide) rfl (by decide) (case_9 hC hl hX (by omega) ⟨h0, by omega⟩ hL K)
  by_cases e10 : o_and (scI xs i) 63 = 10
  · exact V_tcase (tgt := 798) hC 10 dL_law_40 e10 (by decide) rfl (by decide) (case_10 hC hl hX (by omega) ⟨h0, by omega⟩ hL K)
  by_cases e11 : o_and (scI xs i) 63 = 11
  · exact V_tcase (tgt := 861) hC 11 dL_law_40 e11 (by decide) rfl (by decide) (case_11 hC hl hX (by omega) ⟨h0, by omega⟩ hL K)
  by_cases e12 : o_and (scI xs i) 63 = 12
  · exact V_tcase (tgt := 874) hC 12 dL_law_40 e12 (by decide) rfl (by decide) (case_12 hC hl hX (by omega) ⟨h0, by omega⟩ hL K)
  by_cases e13 : o_and (scI xs i) 63 = 13
  · exact V_tcase (tgt := 887) hC 13 dL_law_40 e13 (by decide) rfl (by decide) (case_13 hC hl hX (by omega) ⟨h0, by omega⟩ hL K)
  by_cases e14 : o_and (scI xs i) 63 = 14
  · exact V_tcase (tgt := 955) hC 14 dL_law_40 e14 (by decide) rfl (by decide) (case_14 hC hl hX (by omega) ⟨h0, by omega⟩ hL K)
  by_cases e15 : o_and (scI xs i) 63 = 15
  · exact V_tcase (tgt := 1023) hC 15 dL_law_40 e15 (by decide) rfl (by decide) (case_15 hC hl hX (by omega) ⟨h0, by omega⟩ hL K)
  by_cases e16 : o_and (scI xs i) 63 = 16
  · exact V_tcase (tgt := 1091) hC 16 dL_law_40 e16 (by decide) rfl (by decide) (case_16 hC hl hX (by omega) ⟨h0, by omega⟩ hL K)
  by_cases e17 : o_and (scI xs i) 63 = 17
  · exact V_tcase (tgt := 1104) hC 17 dL_law_40 e17 (by decide) rfl (by decide) (case_17 hC hl hX (by omega) ⟨h0, by omega⟩ hL K)
  by_cases e18 : o_and (scI xs i) 63 = 18
  · exact V_tcase (tgt := 1160) hC 18 dL_law_40 e18 (by decide) rfl (by decide) (case_18 hC hl hX (by omega) ⟨h0, by omega⟩ hL K)
  by_cases e19 : o_and (scI xs i) 63 = 19
  · exact V_tcase (tgt := 1216) hC 19 dL_law_40 e19 (by decide) rfl (by decide) (case_19 hC hl hX (by omega) ⟨h0, by omega⟩ hL K)
  by_cases e20 : o_and (scI xs i) 63 = 20
  · exact V_tcase (tgt := 1229) hC 20 dL_law_40 e20 (by decide) rfl (by decide) (case_20 hC hl hX (by omega) ⟨h0, by omega⟩ hL K)
  by_cases e21 : o_and (scI xs i) 63 = 21
  · exact V_tcase (tgt := 1285) hC 21 dL_law_40 e21 (by decide) rfl (by decide) (case_21 hC hl hX (by omega) ⟨h0, by omega⟩ hL K)
  by_cases e22 : o_and (scI xs i) 63 = 22
  · exact V_tcase (tgt := 1310) hC 22 dL_law_40 e22 (by decide) rfl (by decide) (case_22 hC hl hX (by omega) ⟨h0, by omega⟩ hL K)
  by_cases e23 : o_and (scI xs i) 63 = 23
  · exact V_tcase (tgt := 1323) hC 23 dL_law_40 e23 (by decide) rfl (by decide) (case_23 hC hl hX (by omega) ⟨h0, by omega⟩ hL K)
  by_cases e24 : o_and (scI xs i) 63 = 24
  · exact V_tcase (tgt := 1379) hC 24 dL_law_40 e24 (by decide) rfl (by decide) (case_24 hC hl hX (by omega) ⟨h0, by omega⟩ hL K)
  by_cases e25 : o_and (scI xs i) 63 = 25
  · exact V_tcase (tgt := 1392) hC 25 dL_law_40 e25 (by decide) rfl (by decide) (case_25 hC hl hX (by omega) ⟨h0, by omega⟩ hL K)
  by_cases e26 : o_and (scI xs i) 63 = 26
  · exact V_tcase (tgt := 1405) hC 26 dL_law_40 e26 (by decide) rfl (by decide) (case_26 hC hl hX (by omega) ⟨h0, by omega⟩ hL K)
  by_cases e27 : o_and (scI xs i) 63 = 27
  · exact V_tcase (tgt := 1461) hC 27 dL_law_40 e27 (by decide) rfl (by decide) (case_27 hC hl hX (by omega) ⟨h0, by omega⟩ hL K)
  by_cases e28 : o_and (scI xs i) 63 = 28
  · exact V_tcase (tgt := 1474) hC 28 dL_law_40 e28 (by decide) rfl (by decide) (case_28 hC hl hX (by omega) ⟨h0, by omega⟩ hL K)
  by_cases e29 : o_and (scI xs i) 63 = 29
  · exact V_tcase (tgt := 1499) hC 29 dL_law_40 e29 (by decide) rfl (by decide) (case_29 hC hl hX (by omega) ⟨h0, by omega⟩ hL K)
  by_cases e30 : o_and (scI xs i) 63 = 30
  · exact V_tcase (tgt := 1555) hC 30 dL_law_40 e30 (by decide) rfl (by decide) (case_30 hC hl hX (by omega) ⟨h0, by omega⟩ hL K)
  by_cases e31 : o_and (scI xs i) 63 = 31
  · exact V_tcase (tgt := 1611) hC 31 dL_law_40 e31 (by decide) rfl (by decide) (case_31 hC hl hX (by omega) ⟨h0, by omega⟩ hL K)
  by_cases e32 : o_and (scI xs i) 63 = 32
  · exact V_tcase (tgt := 1636) hC 32 dL_law_40 e32 (by decide) rfl (by decide) (case_32 hC hl hX (by omega) ⟨h0, by omega⟩ hL K)
  have hp := and63 (scI xs i)
  refine V_tdef (tgt := 1711) hC dL_law_40 (by omega) (by decide) ?_
  exact V_widen (by omega) (K _ _ _ hL)
theorem law_loop (hC : Cx X G cL_law 7 RL (some .boolean) 1000 kk) (hl : X.l.stackTraces = false) (hX : Scr X G L xs) (R : ∀ (k : Nat) (i : Int) (γ μ : Mu), k ≤ kk → V X G Q k 1717 [aS 52, aR 0, aR 518, aR 558, aI i, aD, aD] [] γ μ) : ∀ (n : Nat) (k : Nat) (i : Int) (γ μ σ : Mu), 0 ≤ i → i ≤ L → (L : Int) - i ≤ 6 * n → k + 2 * n + 2 ≤ kk → Lq G γ μ σ → V X G Q k 23 [aS 52, aR 0, aR 518, aR 558, aI i, aD, aD] [] γ μ
  | 0, k, i, γ, μ, σ, h0, h1, h2, h3, hL => by
    have h4 := hX.2.2.2
    exact law_turn hC hl hX (by omega) h0 hL (R k i γ μ (by omega)) (fun h => by omega) (by omega)
  | n + 1, k, i, γ, μ, σ, h0, h1, h2, h3, hL => by
    have h4 := hX.2.2.2
    refine law_turn hC hl hX (by omega) h0 hL (R k i γ μ (by omega)) (fun h6 γ' μ' σ' hL' => ?_) (by omega)
    refine V_iinc hC dL_law_1711 rfl rfl (by unfold iR; omega) (lv2 := [aS 52, aR 0, aR 518, aR 558, aI (i + 6), aD, aD]) rfl ?_
    exact V_goto (tgt := 23) hC dL_law_1714 (by decide) (law_loop hC hl hX R n (k + 2) (i + 6) γ' μ' σ' (by omega) (by omega) (by omega) (by omega) hL')
end LawLoop
