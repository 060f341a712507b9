set_option maxRecDepth 100000 in
set_option maxHeartbeats 4000000 in
theorem B_X3_readShape_5 {X : Mx} {G : Gx} {k kR d kk : Nat} {Po : Option AV → Mu → Mu → Prop} {γ μ : Mu} {x0 x1 x2 s0 : Int} (hC : Cx X G cX3_readShape 3 RX3 (some .boolean) d kk) (hT : shO G x0 3 10)
    (h : ((¬ s0 = 0 → shO G x2 7 9 ∧ ∃ (d9 k9 : Nat) (P9 : Option AV → Mu → Mu → Prop), d9 < d ∧ k + k9 ≤ kk ∧ Cn X.l G yX7_addShape cX7_addShape 3 none d9 k9 [aR x2, aI x1, aI (μ x0 9)] γ μ P9 ∧ ∀ r9 γ9 μ9, P9 r9 γ9 μ9 → V X G (Qm X G kR Po) (k + k9) 19 [aD, aD, aD] (r9.toList ++ []) γ9 μ9) ∧ (s0 = 0 → k ≤ kR ∧ Po (some (aI 0)) γ μ))) :
    V X G (Qm X G kR Po) k 5 [aR x0, aI x1, aR x2] [aI s0] γ μ :=
  (V_if_ne (tgt := 10) hC dX3_readShape_5 (by decide) (fun w1 => (V_aload_n hC dX3_readShape_10 rfl rfl (V_iload_n hC dX3_readShape_11 rfl rfl (V_aload_n hC dX3_readShape_12 rfl rfl (V_getI hC 9 (ci := 3) (N := 10) rfl itX3 m_142 (by decide) rfl (by decide) dX3_readShape_13 hT ((h.1 w1).2.elim fun d9 h9 => h9.elim fun k9 h9 => h9.elim fun P9 h9 => V_callV hC (as := [aI x1, aI (μ x0 9)]) (st := []) (n := 2) (ci := 7) (N := 9) rfl g_RX3_179 ⟨rfl, by decide, by decide, by decide +kernel⟩ dX3_readShape_16 (by decide) (by decide) (h.1 w1).1 rfl (Nat.le_of_ble_eq_true rfl) rfl h9.1 h9.2.1 h9.2.2.1 (fun r9 γ9 μ9 z9 => (V_dead (i := 0) rfl (V_dead (i := 1) rfl (V_dead (i := 2) rfl (h9.2.2.2 r9 γ9 μ9 z9))))))))))) (fun w1 => (V_iconst hC dX3_readShape_8 (by decide) (V_zreturn hC dX3_readShape_9 (h.2 w1).1 (by decide) (h.2 w1).2))))
set_option maxRecDepth 100000 in
set_option maxHeartbeats 4000000 in
theorem B_X3_readShape_19 {X : Mx} {G : Gx} {k kR d kk : Nat} {Po : Option AV → Mu → Mu → Prop} {γ μ : Mu} (hC : Cx X G cX3_readShape 3 RX3 (some .boolean) d kk) 
    (h : k ≤ kR ∧ Po (some (aI 1)) γ μ) :
    V X G (Qm X G kR Po) k 19 [aD, aD, aD] [] γ μ :=
  (V_iconst hC dX3_readShape_19 (by decide) (V_zreturn hC dX3_readShape_20 h.1 (by decide) h.2))
