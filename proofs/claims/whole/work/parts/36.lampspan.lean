/-! lampSpan -/
/-- what lamp k gets of each button, 0 where it is jammed -/
def colV (A : Int → Int → Int) (jm : Int → Int) : Int → Int → Int := fun k b => if jm b = 0 then A b k else 0
section LampSpan
variable {l : Launch} {G : Gx} {γ μ : Mu}
abbrev PL (μ γ : Mu) (g n q : Int) (S : GS) : Option AV → Mu → Mu → Prop := fun r γ' μ' => r = some (aR (g + 79)) ∧ γ' = γ ∧ SpS μ' (g + 79) n q S ∧ μ' g 5 ≠ 0 ∧ (∀ j, j ≠ 5 → μ' g j = μ g j) ∧ ∀ b j, b ≠ g → b ≠ g + 314 → (b < g + 79 ∨ g + 157 ≤ b) → μ' b j = μ b j
set_option maxHeartbeats 4000000 in
theorem c_lampSpan (hl : l.stackTraces = false) (d : Nat) (hd : 3 < d) {g w n q : Int} {A : Int → Int → Int} {jm : Int → Int} (hg : AlgAt G γ g) (hw : WirAt G γ w) (hwg : w + 77 ≤ g ∨ g + 315 ≤ w) (hD : WirD μ w n q A jm) (hfr : μ g 5 ≠ 0 → SpS μ (g + 79) n q (gRun q n (fun _ => 0) (colV A jm) n.toNat)) :
    Cn l G yX0_lampSpan cX0_lampSpan 4 (some (.object "LampHall$Span")) d 0 [aR g, aR w] γ μ (PL μ γ g n q (gRun q n (fun _ => 0) (colV A jm) n.toNat)) := by
  refine Cn.of2 hl (plainFor_of_name (by decide)) (noLc nlR (noL1 nlR)) rfl (fun o1 o3 X hX hC => B_X0_lampSpan_0 hC hg.1 ?_)
  obtain ⟨s0, -, -, g0, sp0, -, -, -, -, -, -, g10, s314⟩ := id hg
  obtain ⟨t0, t5, t1, t6, t38, -, -, -, -, trow⟩ := id hw
  obtain ⟨D0, D1, Dn, Dq, DA, Dj⟩ := id hD
  rw [g0]
  refine ⟨fun h => ⟨Nat.le_refl _, rfl, rfl, hfr h, h, fun _ _ => rfl, fun _ _ _ _ _ => rfl⟩, fun h => ⟨t0, sp0.1, 0, 0, _, by omega, Nat.le_refl _, hX ▸ c_spBegin hl 0 sp0, PV.use ?_⟩⟩
  rw [D0, D1]
  generalize hm0 : up (up (up (up μ (g + 79) 7 n) (g + 79) 8 q) (g + 79) 5 0) (g + 79) 6 0 = m0
  have fr0 : ∀ b j, b ≠ g + 314 → (b < g + 79 ∨ g + 157 ≤ b) → m0 b j = μ b j := fun b j _ hb => by rw [← hm0, up_offA (by omega), up_offA (by omega), up_offA (by omega), up_offA (by omega)]
  have S0 : SpS m0 (g + 79) n q gs0 := SpS_0 (by rw [← hm0, up_ne (by omega), up_same]) (by rw [← hm0, up_same]) (by rw [← hm0, up_ne (by omega), up_ne (by omega), up_ne (by omega), up_same]) (by rw [← hm0, up_ne (by omega), up_ne (by omega), up_same])
  refine B_X0_lampSpan_22 hC hg.1 ?_
  rw [g10]
  refine ⟨0, 0, _, by omega, Nat.le_refl _, hX ▸ c_fill hl 0 (lnO s314 (by decide)), PV.use ?_⟩
  refine B_X0_lampSpan_30 hC hg.1 ?_
  have loop : ∀ (k : Nat) (i : Nat) (m : Mu), n - i = k → (∀ b j, b ≠ g + 314 → (b < g + 79 ∨ g + 157 ≤ b) → m b j = μ b j) → SpS m (g + 79) n q (gRun q n (fun _ => 0) (colV A jm) i) → V X G (Qm X G 0 (PL μ γ g n q (gRun q n (fun _ => 0) (colV A jm) n.toNat))) 0 32 [aR g, aR w, aI i, aD] [] γ m := by
    intro k
    induction k with
    | zero =>
      intro i m hk hf hS
      have e : n.toNat = i := by omega
      have k0 : m w 0 = n := by rw [hf _ _ (by omega) (by omega)]; exact D0
      refine B_X0_lampSpan_32 hC hg.1 ⟨t0, ?_⟩
      rw [k0, g0]
      refine ⟨fun _ => ⟨Nat.le_refl _, rfl, rfl, ?_, ?_, fun j hj => ?_, fun b j h1 h2 h3 => ?_⟩, fun z => absurd (by omega) z⟩
      · rw [e]
        exact hS.fr (fun b j _ _ => up_offA (by omega))
      · rw [up_same]; decide
      · rw [up_ne (fun z => hj z.2)]; exact hf _ _ (by omega) (by omega)
      · rw [up_offA h1]; exact hf _ _ h2 h3
    | succ k ih =>
      intro i m hk hf hS
      have k0 : m w 0 = n := by rw [hf _ _ (by omega) (by omega)]; exact D0
      refine B_X0_lampSpan_32 hC hg.1 ⟨t0, ?_⟩
      rw [k0]
      refine ⟨fun z => absurd z (by omega), fun z => ?_⟩
      have inner : ∀ (k2 : Nat) (i2 : Nat), n - i2 = k2 → V X G (Qm X G 0 (PL μ γ g n q (gRun q n (fun _ => 0) (colV A jm) n.toNat))) 0 42 [aR g, aR w, aI i, aI i2] [] γ (row m (g + 314) i2 (colV A jm i)) := by
        intro k2
        induction k2 with
        | zero =>
          intro i2 hk2
          have e : (i2 : Int) = n := by omega
          rw [e]
          have j0 : row m (g + 314) n (colV A jm i) w 0 = n := by rw [row_off (by omega)]; exact k0
          obtain ⟨i1, i3, i4⟩ := gRun_ids q n (fun _ => 0) (colV A jm) i
          refine B_X0_lampSpan_42 hC hg.1 ⟨t0, ?_⟩
          rw [j0, g0, g10]
          refine ⟨fun _ => ⟨sp0.1, 3, 0, _, by omega, Nat.le_refl _, hX ▸ c_admitS hl 3 (by omega) sp0 s314 (by omega) (by omega) Dn Dq (hS.fr (fun b j _ _ => row_off (by omega))) ⟨fun i' q1 q2 => by have := i1 i' q1 q2; omega, fun i' q1 q2 => by have := i3 i' q1 q2; omega⟩ (by omega) (f := colV A jm i) (fun j q1 q2 => row_in ⟨q1, q2⟩) (fun b q1 q2 => ?_), ?_⟩, fun z => absurd (Int.le_refl _) z⟩
          · rintro r γ' μ' ⟨h1, h2, h3, h4⟩
            rw [h1, h2]
            refine B_X0_lampSpan_95 hC hg.1 ⟨⟨by omega, by omega⟩, ih (i + 1) μ' (by omega) (fun b j hb1 hb2 => (h4 b j (by omega)).trans ((row_off hb1).trans (hf b j hb1 hb2))) ?_⟩
            rw [gRun, if_pos rfl]
            exact h3
          · unfold colV
            split
            · exact (DA b q1 q2).2 i (by omega) (by omega)
            · omega
        | succ k2 ih2 =>
          intro i2 hk2
          generalize hm : row m (g + 314) i2 (colV A jm i) = m1
          have j0 : m1 w 0 = n := by rw [← hm, row_off (by omega)]; exact k0
          have jj : m1 (w + 38) i2 = jm i2 := by rw [← hm, row_off (by omega), hf _ _ (by omega) (by omega)]; exact Dj _ (by omega) (by omega)
          obtain ⟨⟨b1, b2⟩, -⟩ := trow i2 (by omega) (by omega)
          have jA : m1 (w + 2 + i2) i = A i2 i := by rw [← hm, row_off (by omega), hf _ _ (by omega) (by omega)]; exact (DA i2 (by omega) (by omega)).1 i (by omega) (by omega)
          refine B_X0_lampSpan_42 hC hg.1 ⟨t0, ?_⟩
          rw [j0, t6, t5, jj, b1, jA, g10]
          refine ⟨fun z => absurd z (by omega), fun z => ⟨ixO t38 (by omega), fun zj => ⟨ixO t1 (by omega), ixO b2 (by omega), ixO s314 (by omega), ⟨by omega, by omega⟩, ?_⟩, fun zj => ⟨ixO s314 (by omega), ⟨by omega, by omega⟩, ?_⟩⟩⟩
          · have e : up m1 (g + 314) i2 (A i2 i) = row m (g + 314) (i2 + 1) (colV A jm i) := by
              rw [← hm, ← row_s (f := colV A jm i) (by omega)]
              unfold colV
              rw [if_pos zj]
            rw [e]
            exact ih2 (i2 + 1) (by omega)
          · have e : up m1 (g + 314) i2 0 = row m (g + 314) (i2 + 1) (colV A jm i) := by
              rw [← hm, ← row_s (f := colV A jm i) (by omega)]
              unfold colV
              rw [if_neg zj]
            rw [e]
            exact ih2 (i2 + 1) (by omega)
      have h9 := inner n.toNat 0 (by omega)
      rw [show ((0 : Nat) : Int) = 0 from rfl, row_0] at h9
      exact h9
  exact loop n.toNat 0 _ (by omega) (fun b j h1 h2 => by rw [row_off h1]; exact fr0 b j h1 h2) (S0.fr (fun b j _ _ => row_off (by omega)))
end LampSpan
