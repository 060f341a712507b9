set_option maxRecDepth 100000 in
set_option maxHeartbeats 4000000 in
theorem B_X8_stepToLesserSet_42 {X : Mx} {G : Gx} {k kR d kk : Nat} {Po : Option AV → Mu → Mu → Prop} {γ μ : Mu} (hC : Cx X G cX8_stepToLesserSet 3 RX8 none d kk) 
    (h : k ≤ kR ∧ Po (none) γ μ) :
    V X G (Qm X G kR Po) k 42 [aD, aD, aD] [] γ μ :=
  (V_return hC dX8_stepToLesserSet_42 h.1 h.2)
set_option maxRecDepth 100000 in
set_option maxHeartbeats 4000000 in
theorem B_X8_stepToLesserSet_56 {X : Mx} {G : Gx} {k kR d kk : Nat} {Po : Option AV → Mu → Mu → Prop} {γ μ : Mu} {x0 x1 x2 : Int} (hC : Cx X G cX8_stepToLesserSet 3 RX8 none d kk) (hT : shO G x0 8 20)
    (h : iR (x2 + 1) ∧ V X G (Qm X G kR Po) k 2 [aR x0, aI x1, aI (x2 + 1)] [] γ μ) :
    V X G (Qm X G kR Po) k 56 [aR x0, aI x1, aI x2] [] γ μ :=
  (V_iinc hC dX8_stepToLesserSet_56 rfl rfl h.1 rfl (V_goto (tgt := 2) hC dX8_stepToLesserSet_59 (by decide) h.2))
set_option maxRecDepth 100000 in
set_option maxHeartbeats 4000000 in
theorem B_X8_pulse_0 {X : Mx} {G : Gx} {k kR d kk : Nat} {Po : Option AV → Mu → Mu → Prop} {γ μ : Mu} {x0 x1 : Int} (hC : Cx X G cX8_pulse 3 RX8 (some .boolean) d kk) (hT : shO G x0 8 20)
    (h : ((x1 < 0 → k ≤ kR ∧ Po (some (aI 0)) γ μ) ∧ (¬ (x1 < 0) → ((x1 ≤ 100 → V X G (Qm X G kR Po) k 14 [aR x0, aI x1, aI 0] [] γ μ) ∧ (¬ (x1 ≤ 100) → k ≤ kR ∧ Po (some (aI 0)) γ μ))))) :
    V X G (Qm X G kR Po) k 0 [aR x0, aI x1, aD] [] γ μ :=
  (V_iload_n hC dX8_pulse_0 rfl rfl (V_if_lt (tgt := 10) hC dX8_pulse_1 (by decide) (fun w1 => (V_iconst hC dX8_pulse_10 (by decide) (V_zreturn hC dX8_pulse_11 (h.1 w1).1 (by decide) (h.1 w1).2))) (fun w1 => (V_iload_n hC dX8_pulse_4 rfl rfl (V_bipush hC dX8_pulse_5 (by decide) (V_icmp_le (tgt := 12) hC dX8_pulse_7 (by decide) (fun w2 => (V_iconst hC dX8_pulse_12 (by decide) (V_istore_n hC dX8_pulse_13 rfl (Nat.le_of_ble_eq_true rfl) rfl rfl ((h.2 w1).1 w2)))) (fun w2 => (V_iconst hC dX8_pulse_10 (by decide) (V_zreturn hC dX8_pulse_11 ((h.2 w1).2 w2).1 (by decide) ((h.2 w1).2 w2).2)))))))))
set_option maxRecDepth 100000 in
set_option maxHeartbeats 4000000 in
theorem B_X8_pulse_14 {X : Mx} {G : Gx} {k kR d kk : Nat} {Po : Option AV → Mu → Mu → Prop} {γ μ : Mu} {x0 x1 x2 : Int} (hC : Cx X G cX8_pulse 3 RX8 (some .boolean) d kk) (hT : shO G x0 8 20)
    (h : ((x1 ≤ x2 → ∃ (d9 k9 : Nat) (P9 : Option AV → Mu → Mu → Prop), d9 < d ∧ k + k9 ≤ kk ∧ Cn X.l G yX8_told cX8_told 2 none d9 k9 [aR x0, aI 0] γ μ P9 ∧ ∀ r9 γ9 μ9, P9 r9 γ9 μ9 → V X G (Qm X G kR Po) (k + k9) 45 [aD, aD, aD] (r9.toList ++ []) γ9 μ9) ∧ (¬ (x1 ≤ x2) → shO G (γ x0 1) 7 9 ∧ ∃ (d9 k9 : Nat) (P9 : Option AV → Mu → Mu → Prop), d9 < d ∧ k + k9 ≤ kk ∧ Cn X.l G yX7_beat cX7_beat 4 none d9 k9 [aR (γ x0 1), aR (γ x0 4), aR (γ x0 16)] γ μ P9 ∧ ∀ r9 γ9 μ9, P9 r9 γ9 μ9 → V X G (Qm X G kR Po) (k + k9) 34 [aR x0, aI x1, aI x2] (r9.toList ++ []) γ9 μ9))) :
    V X G (Qm X G kR Po) k 14 [aR x0, aI x1, aI x2] [] γ μ :=
  (V_iload_n hC dX8_pulse_14 rfl rfl (V_iload_n hC dX8_pulse_15 rfl rfl (V_icmp_ge (tgt := 40) hC dX8_pulse_16 (by decide) (fun w1 => (V_aload_n hC dX8_pulse_40 rfl rfl (V_iconst hC dX8_pulse_41 (by decide) ((h.1 w1).elim fun d9 h9 => h9.elim fun k9 h9 => h9.elim fun P9 h9 => V_callV hC (as := [aI 0]) (st := []) (n := 1) (ci := 8) (N := 20) rfl g_RX8_158 ⟨rfl, by decide, by decide, by decide +kernel⟩ dX8_pulse_42 (by decide) (by decide) hT rfl (Nat.le_of_ble_eq_true rfl) rfl h9.1 h9.2.1 h9.2.2.1 (fun r9 γ9 μ9 z9 => (V_dead (i := 0) rfl (V_dead (i := 1) rfl (V_dead (i := 2) rfl (h9.2.2.2 r9 γ9 μ9 z9))))))))) (fun w1 => (V_aload_n hC dX8_pulse_19 rfl rfl (V_getR hC 1 (ci := 8) (N := 20) rfl itX8 m_449 (by decide) rfl (by decide) dX8_pulse_20 hT (V_aload_n hC dX8_pulse_23 rfl rfl (V_getR hC 4 (ci := 8) (N := 20) rfl itX8 m_452 (by decide) rfl (by decide) dX8_pulse_24 hT (V_aload_n hC dX8_pulse_27 rfl rfl (V_getR hC 16 (ci := 8) (N := 20) rfl itX8 m_464 (by decide) rfl (by decide) dX8_pulse_28 hT ((h.2 w1).2.elim fun d9 h9 => h9.elim fun k9 h9 => h9.elim fun P9 h9 => V_callV hC (as := [aR (γ x0 4), aR (γ x0 16)]) (st := []) (n := 2) (ci := 7) (N := 9) rfl g_RX8_352 ⟨rfl, by decide, by decide, by decide +kernel⟩ dX8_pulse_31 (by decide) (by decide) (h.2 w1).1 rfl (Nat.le_of_ble_eq_true rfl) rfl h9.1 h9.2.1 h9.2.2.1 (fun r9 γ9 μ9 z9 => (h9.2.2.2 r9 γ9 μ9 z9)))))))))))))
set_option maxRecDepth 100000 in
set_option maxHeartbeats 4000000 in
theorem B_X8_pulse_34 {X : Mx} {G : Gx} {k kR d kk : Nat} {Po : Option AV → Mu → Mu → Prop} {γ μ : Mu} {x0 x1 x2 : Int} (hC : Cx X G cX8_pulse 3 RX8 (some .boolean) d kk) (hT : shO G x0 8 20)
    (h : iR (x2 + 1) ∧ V X G (Qm X G kR Po) k 14 [aR x0, aI x1, aI (x2 + 1)] [] γ μ) :
    V X G (Qm X G kR Po) k 34 [aR x0, aI x1, aI x2] [] γ μ :=
  (V_iinc hC dX8_pulse_34 rfl rfl h.1 rfl (V_goto (tgt := 14) hC dX8_pulse_37 (by decide) h.2))
set_option maxRecDepth 100000 in
set_option maxHeartbeats 4000000 in
theorem B_X8_pulse_45 {X : Mx} {G : Gx} {k kR d kk : Nat} {Po : Option AV → Mu → Mu → Prop} {γ μ : Mu} (hC : Cx X G cX8_pulse 3 RX8 (some .boolean) d kk) 
    (h : k ≤ kR ∧ Po (some (aI 1)) γ μ) :
    V X G (Qm X G kR Po) k 45 [aD, aD, aD] [] γ μ :=
  (V_iconst hC dX8_pulse_45 (by decide) (V_zreturn hC dX8_pulse_46 h.1 (by decide) h.2))
set_option maxRecDepth 100000 in
set_option maxHeartbeats 4000000 in
theorem B_X8_keep_0 {X : Mx} {G : Gx} {k kR d kk : Nat} {Po : Option AV → Mu → Mu → Prop} {γ μ : Mu} {x0 x1 : Int} (hC : Cx X G cX8_keep 2 RX8 (some .boolean) d kk) (hT : shO G x0 8 20)
    (h : ((x1 < 0 → k ≤ kR ∧ Po (some (aI 0)) γ μ) ∧ (¬ (x1 < 0) → ((x1 < 4 → ixA G 14 (γ x0 7) x1 ∧ cpA G 11 (γ x0 4) 0 (γ (γ x0 7) x1) 0 36 ∧ 1 ≤ d ∧ ixA G 13 (γ x0 8) x1 ∧ k ≤ kR ∧ Po (some (aI 1)) γ (up (cpy μ (γ x0 4) 0 (γ (γ x0 7) x1) 0 36) (γ x0 8) x1 1)) ∧ (¬ (x1 < 4) → k ≤ kR ∧ Po (some (aI 0)) γ μ))))) :
    V X G (Qm X G kR Po) k 0 [aR x0, aI x1] [] γ μ :=
  (V_iload_n hC dX8_keep_0 rfl rfl (V_if_lt (tgt := 9) hC dX8_keep_1 (by decide) (fun w1 => (V_iconst hC dX8_keep_9 (by decide) (V_zreturn hC dX8_keep_10 (h.1 w1).1 (by decide) (h.1 w1).2))) (fun w1 => (V_iload_n hC dX8_keep_4 rfl rfl (V_iconst hC dX8_keep_5 (by decide) (V_icmp_lt (tgt := 11) hC dX8_keep_6 (by decide) (fun w2 => (V_aload_n hC dX8_keep_11 rfl rfl (V_getR hC 4 (ci := 8) (N := 20) rfl itX8 m_452 (by decide) rfl (by decide) dX8_keep_12 hT (V_iconst hC dX8_keep_15 (by decide) (V_aload_n hC dX8_keep_16 rfl rfl (V_getR hC 7 (ci := 8) (N := 20) rfl itX8 m_455 (by decide) rfl (by decide) dX8_keep_17 hT (V_iload_n hC dX8_keep_20 rfl rfl (U_aald hC dX8_keep_21 ((h.2 w1).1 w2).1 (V_iconst hC dX8_keep_22 (by decide) (V_bipush hC dX8_keep_23 (by decide) (V_copy11 hC m_612 (by simp) dX8_keep_25 ((h.2 w1).1 w2).2.1 ((h.2 w1).1 w2).2.2.1 (V_aload_n hC dX8_keep_28 rfl rfl (V_getR hC 8 (ci := 8) (N := 20) rfl itX8 m_456 (by decide) rfl (by decide) dX8_keep_29 hT (V_iload_n hC dX8_keep_32 rfl rfl (V_iconst hC dX8_keep_33 (by decide) (U_zast hC dX8_keep_34 ((h.2 w1).1 w2).2.2.2.1 ⟨by decide, by decide⟩ (V_iconst hC dX8_keep_35 (by decide) (V_zreturn hC dX8_keep_36 ((h.2 w1).1 w2).2.2.2.2.1 (by decide) ((h.2 w1).1 w2).2.2.2.2.2)))))))))))))))))) (fun w2 => (V_iconst hC dX8_keep_9 (by decide) (V_zreturn hC dX8_keep_10 ((h.2 w1).2 w2).1 (by decide) ((h.2 w1).2 w2).2)))))))))
set_option maxRecDepth 100000 in
set_option maxHeartbeats 4000000 in
theorem B_X8_moveIn_0 {X : Mx} {G : Gx} {k kR d kk : Nat} {Po : Option AV → Mu → Mu → Prop} {γ μ : Mu} {x0 : Int} (hC : Cx X G cX8_moveIn 3 RX8 none d kk) (hT : shO G x0 8 20)
    (h : shO G ((up (up γ x0 1 (γ x0 2)) x0 2 (γ x0 1)) x0 3) 0 11 ∧ ∃ (d9 k9 : Nat) (P9 : Option AV → Mu → Mu → Prop), d9 < d ∧ k + k9 ≤ kk ∧ Cn X.l G yX0_forget cX0_forget 1 none d9 k9 [aR ((up (up γ x0 1 (γ x0 2)) x0 2 (γ x0 1)) x0 3)] (up (up γ x0 1 (γ x0 2)) x0 2 (γ x0 1)) μ P9 ∧ ∀ r9 γ9 μ9, P9 r9 γ9 μ9 → V X G (Qm X G kR Po) (k + k9) 25 [aR x0, aD, aD] (r9.toList ++ []) γ9 μ9) :
    V X G (Qm X G kR Po) k 0 [aR x0, aD, aD] [] γ μ :=
  (V_aload_n hC dX8_moveIn_0 rfl rfl (V_getR hC 1 (ci := 8) (N := 20) rfl itX8 m_449 (by decide) rfl (by decide) dX8_moveIn_1 hT (V_astore_n hC dX8_moveIn_4 rfl (Nat.le_of_ble_eq_true rfl) rfl rfl (V_aload_n hC dX8_moveIn_5 rfl rfl (V_aload_n hC dX8_moveIn_6 rfl rfl (V_getR hC 2 (ci := 8) (N := 20) rfl itX8 m_450 (by decide) rfl (by decide) dX8_moveIn_7 hT (V_putR hC 1 tyX8 tyX8_ok nmX8 (ci := 8) (N := 20) rfl itX8 m_449 (by decide) rfl rfl rfl (by decide) dX8_moveIn_10 hT (V_aload_n hC dX8_moveIn_13 rfl rfl (V_aload_n hC dX8_moveIn_14 rfl rfl (V_putR hC 2 tyX8 tyX8_ok nmX8 (ci := 8) (N := 20) rfl itX8 m_450 (by decide) rfl rfl rfl (by decide) dX8_moveIn_15 hT (V_aload_n hC dX8_moveIn_18 rfl rfl (V_getR hC 3 (ci := 8) (N := 20) rfl itX8 m_451 (by decide) rfl (by decide) dX8_moveIn_19 hT (h.2.elim fun d9 h9 => h9.elim fun k9 h9 => h9.elim fun P9 h9 => V_callV hC (as := []) (st := []) (n := 0) (ci := 0) (N := 11) rfl g_RX8_169 ⟨rfl, by decide, by decide, by decide +kernel⟩ dX8_moveIn_22 (by decide) (by decide) h.1 rfl (Nat.le_of_ble_eq_true rfl) rfl h9.1 h9.2.1 h9.2.2.1 (fun r9 γ9 μ9 z9 => (V_dead (i := 1) rfl (h9.2.2.2 r9 γ9 μ9 z9))))))))))))))))
set_option maxRecDepth 100000 in
set_option maxHeartbeats 4000000 in
theorem B_X8_moveIn_25 {X : Mx} {G : Gx} {k kR d kk : Nat} {Po : Option AV → Mu → Mu → Prop} {γ μ : Mu} {x0 : Int} (hC : Cx X G cX8_moveIn 3 RX8 none d kk) (hT : shO G x0 8 20)
    (h : ∃ (d9 k9 : Nat) (P9 : Option AV → Mu → Mu → Prop), d9 < d ∧ k + k9 ≤ kk ∧ Cn X.l G yJ7_fill_53178 cJ7_fill_53178 4 none d9 k9 [aR (γ x0 4), aI 0] γ μ P9 ∧ ∀ r9 γ9 μ9, P9 r9 γ9 μ9 → V X G (Qm X G kR Po) (k + k9) 33 [aR x0, aD, aD] (r9.toList ++ []) γ9 μ9) :
    V X G (Qm X G kR Po) k 25 [aR x0, aD, aD] [] γ μ :=
  (V_aload_n hC dX8_moveIn_25 rfl rfl (V_getR hC 4 (ci := 8) (N := 20) rfl itX8 m_452 (by decide) rfl (by decide) dX8_moveIn_26 hT (V_iconst hC dX8_moveIn_29 (by decide) (h.elim fun d9 h9 => h9.elim fun k9 h9 => h9.elim fun P9 h9 => V_callS hC (as := [aR (γ x0 4), aI 0]) (st := []) (n := 2) g_RX8_282 ⟨by decide, by decide, by decide +kernel⟩ dX8_moveIn_30 (by decide) rfl (Nat.le_of_ble_eq_true rfl) rfl h9.1 h9.2.1 h9.2.2.1 (fun r9 γ9 μ9 z9 => (h9.2.2.2 r9 γ9 μ9 z9))))))
set_option maxRecDepth 100000 in
set_option maxHeartbeats 4000000 in
theorem B_X8_moveIn_33 {X : Mx} {G : Gx} {k kR d kk : Nat} {Po : Option AV → Mu → Mu → Prop} {γ μ : Mu} {x0 : Int} (hC : Cx X G cX8_moveIn 3 RX8 none d kk) (hT : shO G x0 8 20)
    (h : ∃ (d9 k9 : Nat) (P9 : Option AV → Mu → Mu → Prop), d9 < d ∧ k + k9 ≤ kk ∧ Cn X.l G yJ7_fill_53178 cJ7_fill_53178 4 none d9 k9 [aR (γ x0 5), aI 0] γ μ P9 ∧ ∀ r9 γ9 μ9, P9 r9 γ9 μ9 → V X G (Qm X G kR Po) (k + k9) 41 [aR x0, aD, aD] (r9.toList ++ []) γ9 μ9) :
    V X G (Qm X G kR Po) k 33 [aR x0, aD, aD] [] γ μ :=
  (V_aload_n hC dX8_moveIn_33 rfl rfl (V_getR hC 5 (ci := 8) (N := 20) rfl itX8 m_453 (by decide) rfl (by decide) dX8_moveIn_34 hT (V_iconst hC dX8_moveIn_37 (by decide) (h.elim fun d9 h9 => h9.elim fun k9 h9 => h9.elim fun P9 h9 => V_callS hC (as := [aR (γ x0 5), aI 0]) (st := []) (n := 2) g_RX8_282 ⟨by decide, by decide, by decide +kernel⟩ dX8_moveIn_38 (by decide) rfl (Nat.le_of_ble_eq_true rfl) rfl h9.1 h9.2.1 h9.2.2.1 (fun r9 γ9 μ9 z9 => (h9.2.2.2 r9 γ9 μ9 z9))))))
set_option maxRecDepth 100000 in
set_option maxHeartbeats 4000000 in
theorem B_X8_moveIn_41 {X : Mx} {G : Gx} {k kR d kk : Nat} {Po : Option AV → Mu → Mu → Prop} {γ μ : Mu} {x0 : Int} (hC : Cx X G cX8_moveIn 3 RX8 none d kk) (hT : shO G x0 8 20)
    (h : shO G (γ x0 6) 2 3 ∧ ∃ (d9 k9 : Nat) (P9 : Option AV → Mu → Mu → Prop), d9 < d ∧ k + k9 ≤ kk ∧ Cn X.l G yX2_clear cX2_clear 1 none d9 k9 [aR (γ x0 6)] γ μ P9 ∧ ∀ r9 γ9 μ9, P9 r9 γ9 μ9 → V X G (Qm X G kR Po) (k + k9) 48 [aR x0, aD, aD] (r9.toList ++ []) γ9 μ9) :
    V X G (Qm X G kR Po) k 41 [aR x0, aD, aD] [] γ μ :=
  (V_aload_n hC dX8_moveIn_41 rfl rfl (V_getR hC 6 (ci := 8) (N := 20) rfl itX8 m_454 (by decide) rfl (by decide) dX8_moveIn_42 hT (h.2.elim fun d9 h9 => h9.elim fun k9 h9 => h9.elim fun P9 h9 => V_callV hC (as := []) (st := []) (n := 0) (ci := 2) (N := 3) rfl g_RX8_378 ⟨rfl, by decide, by decide, by decide +kernel⟩ dX8_moveIn_45 (by decide) (by decide) h.1 rfl (Nat.le_of_ble_eq_true rfl) rfl h9.1 h9.2.1 h9.2.2.1 (fun r9 γ9 μ9 z9 => (h9.2.2.2 r9 γ9 μ9 z9)))))
set_option maxRecDepth 100000 in
set_option maxHeartbeats 4000000 in
theorem B_X8_moveIn_48 {X : Mx} {G : Gx} {k kR d kk : Nat} {Po : Option AV → Mu → Mu → Prop} {γ μ : Mu} {x0 : Int} (hC : Cx X G cX8_moveIn 3 RX8 none d kk) (hT : shO G x0 8 20)
    (h : V X G (Qm X G kR Po) k 50 [aR x0, aD, aI 0] [] γ μ) :
    V X G (Qm X G kR Po) k 48 [aR x0, aD, aD] [] γ μ :=
  (V_iconst hC dX8_moveIn_48 (by decide) (V_istore_n hC dX8_moveIn_49 rfl (Nat.le_of_ble_eq_true rfl) rfl rfl h))
set_option maxRecDepth 100000 in
set_option maxHeartbeats 4000000 in
theorem B_X8_moveIn_50 {X : Mx} {G : Gx} {k kR d kk : Nat} {Po : Option AV → Mu → Mu → Prop} {γ μ : Mu} {x0 x2 : Int} (hC : Cx X G cX8_moveIn 3 RX8 none d kk) (hT : shO G x0 8 20)
    (h : ((4 ≤ x2 → ∃ (d9 k9 : Nat) (P9 : Option AV → Mu → Mu → Prop), d9 < d ∧ k + k9 ≤ kk ∧ Cn X.l G yX8_forgetWays cX8_forgetWays 1 none d9 k9 [aR x0] γ (up (up μ x0 10 0) x0 12 0) P9 ∧ ∀ r9 γ9 μ9, P9 r9 γ9 μ9 → V X G (Qm X G kR Po) (k + k9) 82 [aD, aD, aD] (r9.toList ++ []) γ9 μ9) ∧ (¬ (4 ≤ x2) → ixA G 13 (γ x0 8) x2 ∧ iR (x2 + 1) ∧ V X G (Qm X G kR Po) k 50 [aR x0, aD, aI (x2 + 1)] [] γ (up μ (γ x0 8) x2 0)))) :
    V X G (Qm X G kR Po) k 50 [aR x0, aD, aI x2] [] γ μ :=
  (V_iload_n hC dX8_moveIn_50 rfl rfl (V_iconst hC dX8_moveIn_51 (by decide) (V_icmp_ge (tgt := 68) hC dX8_moveIn_52 (by decide) (fun w1 => (V_aload_n hC dX8_moveIn_68 rfl rfl (V_iconst hC dX8_moveIn_69 (by decide) (V_putI hC 10 tyX8 tyX8_ok nmX8 (ci := 8) (N := 20) rfl itX8 m_458 (by decide) rfl rfl rfl (by decide) dX8_moveIn_70 hT ⟨by decide, by decide⟩ (V_aload_n hC dX8_moveIn_73 rfl rfl (V_iconst hC dX8_moveIn_74 (by decide) (V_putI hC 12 tyX8 tyX8_ok nmX8 (ci := 8) (N := 20) rfl itX8 m_460 (by decide) rfl rfl rfl (by decide) dX8_moveIn_75 hT ⟨by decide, by decide⟩ (V_aload_n hC dX8_moveIn_78 rfl rfl ((h.1 w1).elim fun d9 h9 => h9.elim fun k9 h9 => h9.elim fun P9 h9 => V_callV hC (as := []) (st := []) (n := 0) (ci := 8) (N := 20) rfl g_RX8_172 ⟨rfl, by decide, by decide, by decide +kernel⟩ dX8_moveIn_79 (by decide) (by decide) hT rfl (Nat.le_of_ble_eq_true rfl) rfl h9.1 h9.2.1 h9.2.2.1 (fun r9 γ9 μ9 z9 => (V_dead (i := 0) rfl (V_dead (i := 2) rfl (h9.2.2.2 r9 γ9 μ9 z9))))))))))))) (fun w1 => (V_aload_n hC dX8_moveIn_55 rfl rfl (V_getR hC 8 (ci := 8) (N := 20) rfl itX8 m_456 (by decide) rfl (by decide) dX8_moveIn_56 hT (V_iload_n hC dX8_moveIn_59 rfl rfl (V_iconst hC dX8_moveIn_60 (by decide) (U_zast hC dX8_moveIn_61 (h.2 w1).1 ⟨by decide, by decide⟩ (V_iinc hC dX8_moveIn_62 rfl rfl (h.2 w1).2.1 rfl (V_goto (tgt := 50) hC dX8_moveIn_65 (by decide) (h.2 w1).2.2)))))))))))
set_option maxRecDepth 100000 in
set_option maxHeartbeats 4000000 in
theorem B_X8_moveIn_82 {X : Mx} {G : Gx} {k kR d kk : Nat} {Po : Option AV → Mu → Mu → Prop} {γ μ : Mu} (hC : Cx X G cX8_moveIn 3 RX8 none d kk) 
    (h : k ≤ kR ∧ Po (none) γ μ) :
    V X G (Qm X G kR Po) k 82 [aD, aD, aD] [] γ μ :=
  (V_return hC dX8_moveIn_82 h.1 h.2)
set_option maxRecDepth 100000 in
set_option maxHeartbeats 4000000 in
theorem B_X8_row_0 {X : Mx} {G : Gx} {k kR d kk : Nat} {Po : Option AV → Mu → Mu → Prop} {γ μ : Mu} {x0 x1 : Int} (hC : Cx X G cX8_row 2 RX8 (some (.array .int)) d kk) (hT : shO G x0 8 20)
    (h : ((¬ x1 = 0 → k ≤ kR ∧ Po (some (aR (γ x0 5))) γ μ) ∧ (x1 = 0 → k ≤ kR ∧ Po (some (aR (γ x0 4))) γ μ))) :
    V X G (Qm X G kR Po) k 0 [aR x0, aI x1] [] γ μ :=
  (V_iload_n hC dX8_row_0 rfl rfl (V_if_ne (tgt := 11) hC dX8_row_1 (by decide) (fun w1 => (V_aload_n hC dX8_row_11 rfl rfl (V_getR hC 5 (ci := 8) (N := 20) rfl itX8 m_453 (by decide) rfl (by decide) dX8_row_12 hT (V_areturn hC rfl (Or.inr ⟨_, rfl⟩) dX8_row_15 (h.1 w1).1 (h.1 w1).2)))) (fun w1 => (V_aload_n hC dX8_row_4 rfl rfl (V_getR hC 4 (ci := 8) (N := 20) rfl itX8 m_452 (by decide) rfl (by decide) dX8_row_5 hT (V_goto (tgt := 15) hC dX8_row_8 (by decide) (V_areturn hC rfl (Or.inr ⟨_, rfl⟩) dX8_row_15 (h.2 w1).1 (h.2 w1).2)))))))
set_option maxRecDepth 100000 in
set_option maxHeartbeats 4000000 in
theorem B_X8_walkLit_0 {X : Mx} {G : Gx} {k kR d kk : Nat} {Po : Option AV → Mu → Mu → Prop} {γ μ : Mu} {x0 : Int} (hC : Cx X G cX8_walkLit 2 RX8 none d kk) (hT : shO G x0 8 20)
    (h : shO G (γ x0 1) 7 9 ∧ shO G (γ x0 14) 6 16 ∧ ∃ (d9 k9 : Nat) (P9 : Option AV → Mu → Mu → Prop), d9 < d ∧ k + k9 ≤ kk ∧ Cn X.l G yX6_begin cX6_begin 3 none d9 k9 [aR (γ x0 14), aI (μ (γ x0 1) 0), aI (μ (γ x0 1) 1)] γ μ P9 ∧ ∀ r9 γ9 μ9, P9 r9 γ9 μ9 → V X G (Qm X G kR Po) (k + k9) 21 [aR x0, aD] (r9.toList ++ []) γ9 μ9) :
    V X G (Qm X G kR Po) k 0 [aR x0, aD] [] γ μ :=
  (V_aload_n hC dX8_walkLit_0 rfl rfl (V_getR hC 14 (ci := 8) (N := 20) rfl itX8 m_462 (by decide) rfl (by decide) dX8_walkLit_1 hT (V_aload_n hC dX8_walkLit_4 rfl rfl (V_getR hC 1 (ci := 8) (N := 20) rfl itX8 m_449 (by decide) rfl (by decide) dX8_walkLit_5 hT (V_getI hC 0 (ci := 7) (N := 9) rfl itX7 m_176 (by decide) rfl (by decide) dX8_walkLit_8 h.1 (V_aload_n hC dX8_walkLit_11 rfl rfl (V_getR hC 1 (ci := 8) (N := 20) rfl itX8 m_449 (by decide) rfl (by decide) dX8_walkLit_12 hT (V_getI hC 1 (ci := 7) (N := 9) rfl itX7 m_180 (by decide) rfl (by decide) dX8_walkLit_15 h.1 (h.2.2.elim fun d9 h9 => h9.elim fun k9 h9 => h9.elim fun P9 h9 => V_callV hC (as := [aI (μ (γ x0 1) 0), aI (μ (γ x0 1) 1)]) (st := []) (n := 2) (ci := 6) (N := 16) rfl g_RX8_387 ⟨rfl, by decide, by decide, by decide +kernel⟩ dX8_walkLit_18 (by decide) (by decide) h.2.1 rfl (Nat.le_of_ble_eq_true rfl) rfl h9.1 h9.2.1 h9.2.2.1 (fun r9 γ9 μ9 z9 => (h9.2.2.2 r9 γ9 μ9 z9)))))))))))
set_option maxRecDepth 100000 in
set_option maxHeartbeats 4000000 in
theorem B_X8_walkLit_21 {X : Mx} {G : Gx} {k kR d kk : Nat} {Po : Option AV → Mu → Mu → Prop} {γ μ : Mu} {x0 : Int} (hC : Cx X G cX8_walkLit 2 RX8 none d kk) (hT : shO G x0 8 20)
    (h : V X G (Qm X G kR Po) k 23 [aR x0, aI 0] [] γ μ) :
    V X G (Qm X G kR Po) k 21 [aR x0, aD] [] γ μ :=
  (V_iconst hC dX8_walkLit_21 (by decide) (V_istore_n hC dX8_walkLit_22 rfl (Nat.le_of_ble_eq_true rfl) rfl rfl h))
set_option maxRecDepth 100000 in
set_option maxHeartbeats 4000000 in
theorem B_X8_walkLit_23 {X : Mx} {G : Gx} {k kR d kk : Nat} {Po : Option AV → Mu → Mu → Prop} {γ μ : Mu} {x0 x1 : Int} (hC : Cx X G cX8_walkLit 2 RX8 none d kk) (hT : shO G x0 8 20)
    (h : shO G (γ x0 1) 7 9 ∧ (((μ (γ x0 1) 0) ≤ x1 → shO G (γ x0 14) 6 16 ∧ ∃ (d9 k9 : Nat) (P9 : Option AV → Mu → Mu → Prop), d9 < d ∧ k + k9 ≤ kk ∧ Cn X.l G yX6_codeOf cX6_codeOf 4 (some .int) d9 k9 [aR (γ x0 14), aR (γ x0 4)] γ μ P9 ∧ ∀ r9 γ9 μ9, P9 r9 γ9 μ9 → V X G (Qm X G kR Po) (k + k9) 85 [aR x0, aD] (r9.toList ++ [aR (γ x0 14)]) γ9 μ9) ∧ (¬ ((μ (γ x0 1) 0) ≤ x1) → ixA G 13 (γ (γ x0 1) 6) x1 ∧ ((¬ (μ (γ (γ x0 1) 6) x1) = 0 → V X G (Qm X G kR Po) k 64 [aR x0, aI x1] [] γ μ) ∧ ((μ (γ (γ x0 1) 6) x1) = 0 → ixA G 14 (γ (γ x0 1) 5) x1 ∧ shO G (γ x0 14) 6 16 ∧ ∃ (d9 k9 : Nat) (P9 : Option AV → Mu → Mu → Prop), d9 < d ∧ k + k9 ≤ kk ∧ Cn X.l G yX6_addMove cX6_addMove 7 none d9 k9 [aR (γ x0 14), aI x1, aR (γ (γ (γ x0 1) 5) x1), aI x1] γ μ P9 ∧ ∀ r9 γ9 μ9, P9 r9 γ9 μ9 → V X G (Qm X G kR Po) (k + k9) 64 [aR x0, aI x1] (r9.toList ++ []) γ9 μ9))))) :
    V X G (Qm X G kR Po) k 23 [aR x0, aI x1] [] γ μ :=
  (V_iload_n hC dX8_walkLit_23 rfl rfl (V_aload_n hC dX8_walkLit_24 rfl rfl (V_getR hC 1 (ci := 8) (N := 20) rfl itX8 m_449 (by decide) rfl (by decide) dX8_walkLit_25 hT (V_getI hC 0 (ci := 7) (N := 9) rfl itX7 m_176 (by decide) rfl (by decide) dX8_walkLit_28 h.1 (V_icmp_ge (tgt := 70) hC dX8_walkLit_31 (by decide) (fun w1 => (V_aload_n hC dX8_walkLit_70 rfl rfl (V_getR hC 14 (ci := 8) (N := 20) rfl itX8 m_462 (by decide) rfl (by decide) dX8_walkLit_71 hT (V_aload_n hC dX8_walkLit_74 rfl rfl (V_getR hC 14 (ci := 8) (N := 20) rfl itX8 m_462 (by decide) rfl (by decide) dX8_walkLit_75 hT (V_aload_n hC dX8_walkLit_78 rfl rfl (V_getR hC 4 (ci := 8) (N := 20) rfl itX8 m_452 (by decide) rfl (by decide) dX8_walkLit_79 hT ((h.2.1 w1).2.elim fun d9 h9 => h9.elim fun k9 h9 => h9.elim fun P9 h9 => V_callV hC (as := [aR (γ x0 4)]) (st := [aR (γ x0 14)]) (n := 1) (ci := 6) (N := 16) rfl g_RX8_392 ⟨rfl, by decide, by decide, by decide +kernel⟩ dX8_walkLit_82 (by decide) (by decide) (h.2.1 w1).1 rfl (Nat.le_of_ble_eq_true rfl) rfl h9.1 h9.2.1 h9.2.2.1 (fun r9 γ9 μ9 z9 => (V_dead (i := 1) rfl (h9.2.2.2 r9 γ9 μ9 z9))))))))))) (fun w1 => (V_aload_n hC dX8_walkLit_34 rfl rfl (V_getR hC 1 (ci := 8) (N := 20) rfl itX8 m_449 (by decide) rfl (by decide) dX8_walkLit_35 hT (V_getR hC 6 (ci := 7) (N := 9) rfl itX7 m_196 (by decide) rfl (by decide) dX8_walkLit_38 h.1 (V_iload_n hC dX8_walkLit_41 rfl rfl (U_zald hC dX8_walkLit_42 (h.2.2 w1).1 (V_if_ne (tgt := 64) hC dX8_walkLit_43 (by decide) (fun w2 => ((h.2.2 w1).2.1 w2)) (fun w2 => (V_aload_n hC dX8_walkLit_46 rfl rfl (V_getR hC 14 (ci := 8) (N := 20) rfl itX8 m_462 (by decide) rfl (by decide) dX8_walkLit_47 hT (V_iload_n hC dX8_walkLit_50 rfl rfl (V_aload_n hC dX8_walkLit_51 rfl rfl (V_getR hC 1 (ci := 8) (N := 20) rfl itX8 m_449 (by decide) rfl (by decide) dX8_walkLit_52 hT (V_getR hC 5 (ci := 7) (N := 9) rfl itX7 m_193 (by decide) rfl (by decide) dX8_walkLit_55 h.1 (V_iload_n hC dX8_walkLit_58 rfl rfl (U_aald hC dX8_walkLit_59 ((h.2.2 w1).2.2 w2).1 (V_iload_n hC dX8_walkLit_60 rfl rfl (((h.2.2 w1).2.2 w2).2.2.elim fun d9 h9 => h9.elim fun k9 h9 => h9.elim fun P9 h9 => V_callV hC (as := [aI x1, aR (γ (γ (γ x0 1) 5) x1), aI x1]) (st := []) (n := 3) (ci := 6) (N := 16) rfl g_RX8_388 ⟨rfl, by decide, by decide, by decide +kernel⟩ dX8_walkLit_61 (by decide) (by decide) ((h.2.2 w1).2.2 w2).2.1 rfl (Nat.le_of_ble_eq_true rfl) rfl h9.1 h9.2.1 h9.2.2.1 (fun r9 γ9 μ9 z9 => (h9.2.2.2 r9 γ9 μ9 z9)))))))))))))))))))))))))
set_option maxRecDepth 100000 in
set_option maxHeartbeats 4000000 in
theorem B_X8_walkLit_64 {X : Mx} {G : Gx} {k kR d kk : Nat} {Po : Option AV → Mu → Mu → Prop} {γ μ : Mu} {x0 x1 : Int} (hC : Cx X G cX8_walkLit 2 RX8 none d kk) (hT : shO G x0 8 20)
    (h : iR (x1 + 1) ∧ V X G (Qm X G kR Po) k 23 [aR x0, aI (x1 + 1)] [] γ μ) :
    V X G (Qm X G kR Po) k 64 [aR x0, aI x1] [] γ μ :=
  (V_iinc hC dX8_walkLit_64 rfl rfl h.1 rfl (V_goto (tgt := 23) hC dX8_walkLit_67 (by decide) h.2))
set_option maxRecDepth 100000 in
set_option maxHeartbeats 4000000 in
theorem B_X8_walkLit_85 {X : Mx} {G : Gx} {k kR d kk : Nat} {Po : Option AV → Mu → Mu → Prop} {γ μ : Mu} {x0 s0 s1 : Int} (hC : Cx X G cX8_walkLit 2 RX8 none d kk) (hT : shO G x0 8 20)
    (h : shO G (γ x0 14) 6 16 ∧ ∃ (d9 k9 : Nat) (P9 : Option AV → Mu → Mu → Prop), d9 < d ∧ k + k9 ≤ kk ∧ Cn X.l G yX6_codeOf cX6_codeOf 4 (some .int) d9 k9 [aR (γ x0 14), aR (γ x0 5)] γ μ P9 ∧ ∀ r9 γ9 μ9, P9 r9 γ9 μ9 → V X G (Qm X G kR Po) (k + k9) 96 [aD, aD] (r9.toList ++ [aI s0, aR s1]) γ9 μ9) :
    V X G (Qm X G kR Po) k 85 [aR x0, aD] [aI s0, aR s1] γ μ :=
  (V_aload_n hC dX8_walkLit_85 rfl rfl (V_getR hC 14 (ci := 8) (N := 20) rfl itX8 m_462 (by decide) rfl (by decide) dX8_walkLit_86 hT (V_aload_n hC dX8_walkLit_89 rfl rfl (V_getR hC 5 (ci := 8) (N := 20) rfl itX8 m_453 (by decide) rfl (by decide) dX8_walkLit_90 hT (h.2.elim fun d9 h9 => h9.elim fun k9 h9 => h9.elim fun P9 h9 => V_callV hC (as := [aR (γ x0 5)]) (st := [aI s0, aR s1]) (n := 1) (ci := 6) (N := 16) rfl g_RX8_392 ⟨rfl, by decide, by decide, by decide +kernel⟩ dX8_walkLit_93 (by decide) (by decide) h.1 rfl (Nat.le_of_ble_eq_true rfl) rfl h9.1 h9.2.1 h9.2.2.1 (fun r9 γ9 μ9 z9 => (V_dead (i := 0) rfl (h9.2.2.2 r9 γ9 μ9 z9))))))))
set_option maxRecDepth 100000 in
set_option maxHeartbeats 4000000 in
theorem B_X8_walkLit_96 {X : Mx} {G : Gx} {k kR d kk : Nat} {Po : Option AV → Mu → Mu → Prop} {γ μ : Mu} {s0 s1 s2 : Int} (hC : Cx X G cX8_walkLit 2 RX8 none d kk) 
    (h : shO G s2 6 16 ∧ ∃ (d9 k9 : Nat) (P9 : Option AV → Mu → Mu → Prop), d9 < d ∧ k + k9 ≤ kk ∧ Cn X.l G yX6_go cX6_go 6 none d9 k9 [aR s2, aI s1, aI s0] γ μ P9 ∧ ∀ r9 γ9 μ9, P9 r9 γ9 μ9 → V X G (Qm X G kR Po) (k + k9) 99 [aD, aD] (r9.toList ++ []) γ9 μ9) :
    V X G (Qm X G kR Po) k 96 [aD, aD] [aI s0, aI s1, aR s2] γ μ :=
  (h.2.elim fun d9 h9 => h9.elim fun k9 h9 => h9.elim fun P9 h9 => V_callV hC (as := [aI s1, aI s0]) (st := []) (n := 2) (ci := 6) (N := 16) rfl g_RX8_396 ⟨rfl, by decide, by decide, by decide +kernel⟩ dX8_walkLit_96 (by decide) (by decide) h.1 rfl (Nat.le_of_ble_eq_true rfl) rfl h9.1 h9.2.1 h9.2.2.1 (fun r9 γ9 μ9 z9 => (h9.2.2.2 r9 γ9 μ9 z9)))
set_option maxRecDepth 100000 in
set_option maxHeartbeats 4000000 in
theorem B_X8_walkLit_99 {X : Mx} {G : Gx} {k kR d kk : Nat} {Po : Option AV → Mu → Mu → Prop} {γ μ : Mu} (hC : Cx X G cX8_walkLit 2 RX8 none d kk) 
    (h : k ≤ kR ∧ Po (none) γ μ) :
    V X G (Qm X G kR Po) k 99 [aD, aD] [] γ μ :=
  (V_return hC dX8_walkLit_99 h.1 h.2)
