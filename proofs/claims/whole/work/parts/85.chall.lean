/-! the class: feed, moveIn, hall -/
theorem hlR_6 {τ : Int → Int} {N : Int} (h : (hlR τ N).1.fk = 0) : (hl6 τ N).fk = 0 := by
  by_cases e6 : (hl6 τ N).fk = 0
  · exact e6
  · have eR : hlR τ N = clN τ N (hlB τ N).2.1 (hlq τ N) (hlB τ N).2.2.1 (hl6 τ N) 0 := by
      have := clN_stop (τ := τ) (N := N) (n := (hlB τ N).2.1) (q := hlq τ N) (w := (hlB τ N).2.2.1) (s := hl6 τ N) (k := 0) (fun z => e6 z.1) 41
      rw [Nat.zero_add] at this
      exact this
    rw [eR] at h
    exact h
/-- the tape is another -/
theorem RepC.rd2 {μ m σ σ' : Mu} {x w p : Int} (h : RepC μ x w σ) (hw : (w = x + 4 ∧ p = x + 81) ∨ (w = x + 81 ∧ p = x + 4)) (hf : ∀ y j, x ≤ y → y < x + 518 → (y < x + 1 ∨ x + 3 < y) → (y < p ∨ p + 77 ≤ y) → m y j = μ y j) (h1 : RdC m x σ') (e0 : ∀ k, k ≠ 6 → k ≠ 7 → σ' 0 k = σ 0 k) (ek : ∀ k, k ≠ 0 → k ≠ 6 → σ' k = σ k) : RepC m x w σ' := by
  obtain ⟨-, h2, h3, h4, h5, h6, h7, h8⟩ := h
  refine ⟨h1, (h2.fr (fun y j z1 z2 => hf y j (by omega) (by omega) (by omega) (by omega))).c (fun k z1 z2 => e0 k (by omega) (by omega)) (ek 1 (by decide) (by decide)) (ek 2 (by decide) (by decide)), fun j z1 z2 => ?_,
    (h4.fr (fun y j z1 z2 => hf y j (by omega) (by omega) (by omega) (by omega))).c (e0 5 (by decide) (by decide)) (ek 5 (by decide) (by decide)), (h5.fr (fun y j z1 z2 => hf y j (by omega) (by omega) (by omega) (by omega))).c (ek 7 (by decide) (by decide)) (ek 8 (by decide) (by decide)),
    (h6.fr (hf _ _ (by omega) (by omega) (by omega) (by omega)) (hf _ _ (by omega) (by omega) (by omega) (by omega)) (fun y j z1 z2 => hf y j (by omega) (by omega) (by omega) (by omega))).c (e0 0 (by decide) (by decide)) (e0 8 (by decide) (by decide)) (e0 9 (by decide) (by decide)) (ek 9 (by decide) (by decide)) (ek 10 (by decide) (by decide)),
    (h7.fr (fun y j z1 z2 => hf y j (by omega) (by omega) (by omega) (by omega))).c (e0 0 (by decide) (by decide)) (e0 1 (by decide) (by decide)) (ek 1 (by decide) (by decide)) (ek 2 (by decide) (by decide)),
    (h8.fr (hf _ _ (by omega) (by omega) (by omega) (by omega)) (hf _ _ (by omega) (by omega) (by omega) (by omega)) (fun j => hf _ _ (by omega) (by omega) (by omega) (by omega)) (fun j => hf _ _ (by omega) (by omega) (by omega) (by omega))).c (e0 0 (by decide) (by decide)) (e0 1 (by decide) (by decide)) (ek 1 (by decide) (by decide)) (ek 2 (by decide) (by decide)) (ek 3 (by decide) (by decide)) (ek 4 (by decide) (by decide))⟩
  rw [hf _ _ (by omega) (by omega) (by omega) (by omega), hf _ _ (by omega) (by omega) (by omega) (by omega), ek 3 (by decide) (by decide), ek 4 (by decide) (by decide)]
  exact h3 j z1 z2
theorem putM_ne {μ : Mu} {r v y j : Int} (h1 : y ≠ r) (h2 : y ≠ r + 1) : putM μ r v y j = μ y j := by
  unfold putM
  rw [up_ne (by omega), up_ne (by omega), up_ne (by omega), up_ne (by omega), up_ne (by omega), up_ne (by omega), up_ne (by omega), up_ne (by omega)]
theorem RdC.put {μ σ : Mu} {x v : Int} (h : RdC μ x σ) : RdC (putM μ (x + 1) v) x (layF σ v) := by
  obtain ⟨h1, h2, h3⟩ := h
  have e2 : putM μ (x + 1) v (x + 1) 2 = σ 0 6 + 4 := by unfold putM; rw [up_same, h1]; omega
  refine ⟨by rw [e2, layF_06], ?_, fun j z1 z2 => ?_⟩
  · rw [layF_keep (by omega) (by decide), ← h2]
    unfold putM
    rw [up_ne (by omega), up_ne (by omega), up_ne (by omega), up_ne (by omega), up_ne (by omega), up_ne (by omega), up_ne (by omega), up_ne (by omega)]
  · rw [layF_06] at z2
    unfold putM layF
    rw [h1, show x + 2 = x + 1 + 1 by omega, up_ne (b := x + 1 + 1) (by omega), up_ne (b := 6) (a := 0) (by omega)]
    by_cases e3 : j = σ 0 6 + 3
    · rw [e3, show σ 0 6 + 3 = σ 0 6 + 1 + 1 + 1 by omega, up_same, up_same]
    · rw [up_ne (b := x + 1 + 1) (by omega), up_ne (b := 6) (by omega), up_ne (b := x + 1 + 1) (by omega)]
      by_cases e4 : j = σ 0 6 + 2
      · rw [e4, show σ 0 6 + 2 = σ 0 6 + 1 + 1 by omega, up_same, up_same]
      · rw [up_ne (b := x + 1 + 1) (by omega), up_ne (b := 6) (by omega), up_ne (b := x + 1 + 1) (by omega)]
        by_cases e5 : j = σ 0 6 + 1
        · rw [e5, up_same, up_same]
        · rw [up_ne (b := x + 1 + 1) (by omega), up_ne (b := 6) (by omega), up_ne (b := x + 1 + 1) (by omega)]
          by_cases e6 : j = σ 0 6
          · rw [e6, up_same, up_same]
          · rw [up_ne (b := x + 1 + 1) (by omega), up_ne (b := 6) (by omega), show x + 1 + 1 = x + 2 by omega]
            exact h3 j z1 (by omega)
section HallSwap
variable {G : Gx} {γ γ' : Mu} {x w p : Int}
theorem ReadAt.sw {r : Int} (h : ReadAt G γ r) (f : ∀ y, y ≠ x → γ' y = γ y) (hr : r ≠ x) : ReadAt G γ' r := by unfold ReadAt at *; rw [f r hr]; exact h
theorem WirAt.sw {a : Int} (h : WirAt G γ a) (f : ∀ y, y ≠ x → γ' y = γ y) (ha : x < a) : WirAt G γ' a := by unfold WirAt at *; rw [f a (by omega), f (a + 1) (by omega), f (a + 40) (by omega)]; exact h
theorem SpanAt.sw {a : Int} (h : SpanAt G γ a) (f : ∀ y, y ≠ x → γ' y = γ y) (ha : x < a) : SpanAt G γ' a := by unfold SpanAt at *; rw [f a (by omega), f (a + 1) (by omega), f (a + 39) (by omega)]; exact h
theorem AlgAt.sw {g : Int} (h : AlgAt G γ g) (f : ∀ y, y ≠ x → γ' y = γ y) (hg : x < g) : AlgAt G γ' g := by
  obtain ⟨h1, h2, h3, h4, h5, h6, h7, h8, h9, h10, h11, h12, h13⟩ := h
  refine ⟨h1, ?_, h3.sw f (by omega), ?_, h5.sw f (by omega), ?_, h7.sw f (by omega), ?_, h9.sw f (by omega), ?_, h11, ?_, h13⟩ <;> rw [f g (by omega)] <;> assumption
theorem SrchAt.sw {s : Int} (h : SrchAt G γ s) (f : ∀ y, y ≠ x → γ' y = γ y) (hs : x < s) : SrchAt G γ' s := by unfold SrchAt at *; rw [f s (by omega), f (s + 2) (by omega)]; exact h
theorem WalkAt.sw {u : Int} (h : WalkAt G γ u) (f : ∀ y, y ≠ x → γ' y = γ y) (hs : x < u) : WalkAt G γ' u := by unfold WalkAt at *; rw [f u (by omega)]; exact h
theorem CycAt.sw {c : Int} (h : CycAt G γ c) (f : ∀ y, y ≠ x → γ' y = γ y) (hs : x < c) : CycAt G γ' c := by unfold CycAt at *; rw [f c (by omega)]; exact h
theorem PressAt.sw {a : Int} (h : PressAt G γ a) (f : ∀ y, y ≠ x → γ' y = γ y) (ha : x < a) : PressAt G γ' a := by unfold PressAt at *; rw [f a (by omega)]; exact h
theorem HallAt.sw (h : HallAt G γ x w p) : HallAt G (up (up γ x 1 p) x 2 w) x p w := by
  have f : ∀ y, y ≠ x → up (up γ x 1 p) x 2 w y = γ y := fun y hy => by rw [up_off hy, up_off hy]
  have k : ∀ j, j ≠ 1 → j ≠ 2 → up (up γ x 1 p) x 2 w x j = γ x j := fun j h1 h2 => by rw [up_ne (by omega), up_ne (by omega)]
  have hwp := h.wp
  refine ⟨h.o, by rw [k _ (by decide) (by decide)]; exact h.g0, h.rd.sw f (by omega), by rw [up_ne (by omega), up_same], up_same, by omega, ?_, ?_, by rw [k _ (by decide) (by decide)]; exact h.g3, h.al.sw f (by omega), by rw [k _ (by decide) (by decide)]; exact h.g4, h.s473, by rw [k _ (by decide) (by decide)]; exact h.g5, h.s474, by rw [k _ (by decide) (by decide)]; exact h.g6, h.pr.sw f (by omega), by rw [k _ (by decide) (by decide)]; exact h.g7, h.s477, by rw [f _ (by omega)]; exact h.sl, by rw [k _ (by decide) (by decide)]; exact h.g8, h.s482, by rw [k _ (by decide) (by decide)]; exact h.g9, h.s483, by rw [k _ (by decide) (by decide)]; exact h.g11, h.s484, by rw [k _ (by decide) (by decide)]; exact h.g13, h.se.sw f (by omega), by rw [k _ (by decide) (by decide)]; exact h.g14, h.wk.sw f (by omega), by rw [k _ (by decide) (by decide)]; exact h.g15, h.cy.sw f (by omega), by rw [k _ (by decide) (by decide)]; exact h.g16, h.s516, by rw [k _ (by decide) (by decide)]; exact h.g17, h.s517⟩
  · exact (show WirAt G γ (x + 4) from h.2.2.2.2.2.2.1).sw f (by omega)
  · exact (show WirAt G γ (x + 81) from h.2.2.2.2.2.2.2.1).sw f (by omega)
end HallSwap
section CHall
variable {l : Launch} {G : Gx} {γ μ σ : Mu}
theorem c_feed (hl : l.stackTraces = false) (d : Nat) (hd : 1 < d) {x w p a1 a2 a3 a4 a5 : Int} (hH : HallAt G γ x w p) (hR : RepC μ x w σ) (hW : Wf σ) (b1 : iR a1) (b2 : iR a2) (b3 : iR a3) (b4 : iR a4) (b5 : iR a5) : Cn l G yX8_feed cX8_feed 6 (some .int) d 0 [aR x, aI a1, aI a2, aI a3, aI a4, aI a5] γ μ (PC μ γ x w (feeF σ a1 a2 a3 a4 a5) (if σ 0 6 + 20 ≤ 500 then σ 0 6 + 20 else -1)) := by
  refine Cn.ofP hl (plainFor_of_name (by decide)) (noLc nlR (noLc nlI (noLc nlI (noLc nlI (noLc nlI (noL1 nlI)))))) rfl (fun P hP o1 o3 X hX hC => B_X8_feed_0 hC hH.o ?_)
  have htp := hW.tp.1
  rw [hH.g0]
  refine ⟨hH.rd.o, 0, 0, _, by omega, Nat.le_refl _, hX ▸ c_hasRoom hl 0 hH.rd.o (by rw [hR.1.1]; constructor <;> omega), PI.use ?_⟩
  rw [hR.1.1]
  unfold feeF at hP
  by_cases e : σ 0 6 + 20 ≤ 500
  rotate_left
  · rw [if_neg e, if_neg e] at hP
    rw [if_neg e]
    exact B_X8_feed_9 hC hH.o ⟨fun z => absurd rfl z, fun _ => ⟨Nat.le_refl _, hP _ _ _ ⟨rfl, rfl, hR, frC_rf⟩⟩⟩
  rw [if_pos e, if_pos e] at hP
  rw [if_pos e]
  have go : ∀ (m s : Mu) (v : Int), RepC m x w s → RepC (putM m (x + 1) v) x w (layF s v) := fun m s v h => h.rd2 hH.wp (fun y j z1 z2 z3 z4 => putM_ne (by omega) (by omega)) h.1.put (fun k z1 z2 => layF_keep (fun _ => z1) (by decide)) (fun k z1 z2 => layF_fn z1 z2)
  have fr : ∀ (m : Mu) (v : Int), frB μ m x (x + 518) → frB μ (putM m (x + 1) v) x (x + 518) := fun m v h y j z => by rw [putM_ne (by omega) (by omega)]; exact h y j z
  have pt : ∀ (m s : Mu) (v : Int), iR v → RepC m x w s → (0 ≤ s 0 6 ∧ s 0 6 + 4 ≤ 500) → Cn l G yX3_put cX3_put 3 none 1 0 [aR (x + 1), aI v] γ m (PV γ (putM m (x + 1) v)) := fun m s v hv h hs => c_put hl 1 (by omega) hH.rd hv (by rw [h.1.1]; exact hs)
  have R1 := go μ σ a1 hR
  have R2 := go _ _ a2 R1
  have R3 := go _ _ a3 R2
  have R4 := go _ _ a4 R3
  have R5 := go _ _ a5 R4
  refine B_X8_feed_9 hC hH.o ⟨fun _ => ?_, fun z => absurd z (by decide)⟩
  rw [hH.g0]
  refine ⟨hH.rd.o, 1, 0, _, hd, Nat.le_refl _, hX ▸ pt _ _ _ b1 hR (by omega), PV.use (B_X8_feed_22 hC hH.o ?_)⟩
  rw [hH.g0]
  refine ⟨hH.rd.o, 1, 0, _, hd, Nat.le_refl _, hX ▸ pt _ _ _ b2 R1 (by rw [layF_06]; omega), PV.use (B_X8_feed_30 hC hH.o ?_)⟩
  rw [hH.g0]
  refine ⟨hH.rd.o, 1, 0, _, hd, Nat.le_refl _, hX ▸ pt _ _ _ b3 R2 (by rw [layF_06, layF_06]; omega), PV.use (B_X8_feed_38 hC hH.o ?_)⟩
  rw [hH.g0]
  refine ⟨hH.rd.o, 1, 0, _, hd, Nat.le_refl _, hX ▸ pt _ _ _ b4 R3 (by rw [layF_06, layF_06, layF_06]; omega), PV.use (B_X8_feed_47 hC hH.o ?_)⟩
  rw [hH.g0]
  refine ⟨hH.rd.o, 1, 0, _, hd, Nat.le_refl _, hX ▸ pt _ _ _ b5 R4 (by rw [layF_06, layF_06, layF_06, layF_06]; omega), PV.use (B_X8_feed_56 hC hH.o ?_)⟩
  rw [hH.g0, R5.1.1, layF_06, layF_06, layF_06, layF_06, layF_06]
  exact ⟨hH.rd.o, Nat.le_refl _, hP _ _ _ ⟨by congr 2; omega, rfl, R5, fr _ _ (fr _ _ (fr _ _ (fr _ _ (fr _ _ frC_rf))))⟩⟩
/-- what moveIn leaves of the memory -/
def MvM (μ m : Mu) (x : Int) : Prop := (∀ y j, (y = x → j ≠ 10 ∧ j ≠ 12 ∧ (j < 18 ∨ 19 < j)) → y ≠ x + 158 → y ≠ x + 473 → y ≠ x + 474 → y ≠ x + 475 → y ≠ x + 482 → m y j = μ y j) ∧ (∀ j, 0 ≤ j → j < 36 → m (x + 473) j = 0 ∧ m (x + 474) j = 0) ∧ m (x + 475) 1 = μ (x + 475) 1 ∧ m (x + 475) 2 = 0 ∧ (∀ s, 0 ≤ s → s < 4 → m (x + 482) s = 0) ∧ (m x 10 = 0 ∧ m x 12 = 0 ∧ m x 18 = 0 ∧ m x 19 = 0) ∧ ∀ j, 4 ≤ j → j ≤ 7 → m (x + 158) j = 0
theorem c_moveIn (hl : l.stackTraces = false) (d : Nat) (hd : 0 < d) {x w p : Int} (hH : HallAt G γ x w p) : Cn l G yX8_moveIn cX8_moveIn 3 none d 0 [aR x] γ μ (fun r γ' μ' => r = none ∧ γ' = up (up γ x 1 p) x 2 w ∧ MvM μ μ' x) := by
  refine Cn.ofP hl (plainFor_of_name (by decide)) (noL1 nlR) rfl (fun P hP o1 o3 X hX hC => B_X8_moveIn_0 hC hH.o ?_)
  have hN := hH.sw
  rw [hH.g1, hH.g2]
  generalize up (up γ x 1 p) x 2 w = γ' at *
  rw [hN.g3]
  refine ⟨hN.al.1, 0, 0, _, hd, Nat.le_refl _, hX ▸ c_forget hl 0 hN.al.1, PV.use (B_X8_moveIn_25 hC hN.o ?_)⟩
  generalize hm1 : up (up (up (up μ (x + 158) 4 0) (x + 158) 5 0) (x + 158) 6 0) (x + 158) 7 0 = m1
  have f1 : ∀ y j, y ≠ x + 158 → m1 y j = μ y j := fun y j h => by rw [← hm1, up_ne (by omega), up_ne (by omega), up_ne (by omega), up_ne (by omega)]
  have g1 : ∀ j, 4 ≤ j → j ≤ 7 → m1 (x + 158) j = 0 := fun j z1 z2 => by
    rw [← hm1]
    rcases (show j = 4 ∨ j = 5 ∨ j = 6 ∨ j = 7 by omega) with rfl | rfl | rfl | rfl
    · rw [up_ne (by omega), up_ne (by omega), up_ne (by omega), up_same]
    · rw [up_ne (by omega), up_ne (by omega), up_same]
    · rw [up_ne (by omega), up_same]
    · rw [up_same]
  rw [hN.g4]
  refine ⟨0, 0, _, hd, Nat.le_refl _, hX ▸ c_fill hl 0 (lnO hN.s473 (by decide)), PV.use (B_X8_moveIn_33 hC hN.o ?_)⟩
  rw [shLen hN.s473, hN.g5]
  refine ⟨0, 0, _, hd, Nat.le_refl _, hX ▸ c_fill hl 0 (lnO hN.s474 (by decide)), PV.use (B_X8_moveIn_41 hC hN.o ?_)⟩
  rw [shLen hN.s474, hN.g6]
  refine ⟨hN.pr.1, 0, 0, _, hd, Nat.le_refl _, hX ▸ c_prClear hl 0 hN.pr, PV.use (B_X8_moveIn_48 hC hN.o ?_)⟩
  generalize hm2 : up (row (row m1 (x + 473) (36 : Nat) fun _ => 0) (x + 474) (36 : Nat) fun _ => 0) (x + 475) 2 0 = m2
  have f2 : ∀ y j, y ≠ x + 473 → y ≠ x + 474 → y ≠ x + 475 → m2 y j = m1 y j := fun y j z1 z2 z3 => by rw [← hm2, up_ne (by omega), row_off z2, row_off z1]
  have g2 : ∀ j, 0 ≤ j → j < 36 → m2 (x + 473) j = 0 ∧ m2 (x + 474) j = 0 := fun j z1 z2 => by
    rw [← hm2]
    exact ⟨by rw [up_ne (by omega), row_off (by omega), row_in ⟨z1, by omega⟩], by rw [up_ne (by omega), row_in ⟨z1, by omega⟩]⟩
  have g3 : m2 (x + 475) 1 = m1 (x + 475) 1 ∧ m2 (x + 475) 2 = 0 := by
    rw [← hm2]
    exact ⟨by rw [up_ne (by omega), row_off (by omega), row_off (by omega)], up_same⟩
  have fin : ∀ m : Mu, (∀ y j, y ≠ x + 482 → m y j = m2 y j) → (∀ s, 0 ≤ s → s < 4 → m (x + 482) s = 0) → MvM μ (up (up (up (up m x 10 0) x 12 0) x 18 0) x 19 0) x := fun m h1 h2 => by
    have q : ∀ y j, (y = x → j ≠ 10 ∧ j ≠ 12 ∧ (j < 18 ∨ 19 < j)) → up (up (up (up m x 10 0) x 12 0) x 18 0) x 19 0 y j = m y j := fun y j z => by rw [up_ne (by omega), up_ne (by omega), up_ne (by omega), up_ne (by omega)]
    refine ⟨fun y j z1 z2 z3 z4 z5 z6 => ?_, fun j z1 z2 => ?_, ?_, ?_, fun s z1 z2 => ?_, ⟨?_, ?_, ?_, up_same⟩, fun j z1 z2 => ?_⟩
    · rw [q y j z1, h1 y j z6, f2 y j z3 z4 z5, f1 y j z2]
    · rw [q _ _ (by omega), q _ _ (by omega), h1 _ _ (by omega), h1 _ _ (by omega)]; exact g2 j z1 z2
    · rw [q _ _ (by omega), h1 _ _ (by omega), g3.1, f1 _ _ (by omega)]
    · rw [q _ _ (by omega), h1 _ _ (by omega)]; exact g3.2
    · rw [q _ _ (by omega)]; exact h2 s z1 z2
    · rw [up_ne (by omega), up_ne (by omega), up_ne (by omega), up_same]
    · rw [up_ne (by omega), up_ne (by omega), up_same]
    · rw [up_ne (by omega), up_same]
    · rw [q _ _ (by omega), h1 _ _ (by omega), f2 _ _ (by omega) (by omega) (by omega)]; exact g1 j z1 z2
  have loop := rem_ind (n := 4) (P := fun i => ∀ m : Mu, (∀ y j, y ≠ x + 482 → m y j = m2 y j) → (∀ s, 0 ≤ s → s < i → m (x + 482) s = 0) → V X G (Qm X G 0 P) 0 50 [aR x, aD, aI i] [] γ' m) (fun i i0 i1 ih m h1 h2 => ?_)
  · exact loop 0 (by omega) (by omega) m2 (fun _ _ _ => rfl) (fun s z1 z2 => by omega)
  · refine B_X8_moveIn_50 hC hN.o ?_
    rw [hN.g8]
    refine ⟨fun h => ⟨0, 0, _, hd, Nat.le_refl _, hX ▸ c_forgetWays hl 0 hN, PV.use (B_X8_moveIn_82 hC ⟨Nat.le_refl _, hP _ _ _ ⟨rfl, rfl, fin m h1 (fun s z1 z2 => h2 s z1 (by omega))⟩⟩)⟩, fun h => ⟨ixO hN.s482 (by omega), by constructor <;> omega, ih (by omega) _ (fun y j z => by rw [up_ne (by omega)]; exact h1 y j z) (fun s z1 z2 => ?_)⟩⟩
    by_cases e : s = i
    · rw [e, up_same]
    · rw [up_ne (by omega)]; exact h2 s z1 (by omega)
abbrev IAEx : String := "java/lang/IllegalArgumentException"
theorem c_hall (hl : l.stackTraces = false) (d : Nat) (hd : 8 < d) {x w p n : Int} (hH : HallAt G γ x w p) (hR : RepC μ x w σ) (hW : Wf σ) : Cnx l G yX8_hall cX8_hall 3 (some .int) d 1 [aR x, aI n] γ μ (fun r γ' μ' => (0 ≤ n ∧ n ≤ σ 0 6) ∧ r = some (aI (hlR (σ 6) n).1.fk) ∧ (∀ y j, (y = x → j ≠ 1 ∧ j ≠ 2) → γ' y j = γ y j) ∧ (∃ w' p', HallAt G γ' x w' p' ∧ RepC μ' x w' (halF σ n)) ∧ frB μ μ' x (x + 518)) (fun e γ' μ' => ¬ (0 ≤ n ∧ n ≤ σ 0 6) ∧ e = IAEx ∧ γ' = γ ∧ μ' = μ) := by
  refine Cnx.ofP hl (by decide) (noLc nlR (noL1 nlI)) rfl (fun P Y hP hY X hX hC hx => B_X8_hall_0 hC hx hH.o ?_)
  have hwb := hH.wb
  have hpb := hH.pb
  have bad : ¬ (0 ≤ n ∧ n ≤ σ 0 6) → Y IAEx γ μ := fun h => hY _ _ _ ⟨h, rfl, rfl, rfl⟩
  rw [hH.g0, hH.g2, hR.1.1]
  refine ⟨fun h => ⟨Nat.le_refl _, Nat.le_refl _, by omega, bad (by omega)⟩, fun h => ⟨hH.rd.o, fun h2 => ?_, fun h2 => ⟨Nat.le_refl _, Nat.le_refl _, by omega, bad (by omega)⟩⟩⟩
  have hn : 0 ≤ n ∧ n ≤ σ 0 6 := by omega
  have htp := hW.tp
  have hT : txt (σ 6) n := ⟨by have := htp.1; omega, fun j z1 z2 => htp.2 j z1 (by omega)⟩
  refine ⟨8, 0, _, hd, by omega, hX ▸ c_read hl 8 (by omega) hH.rd hH.sp (by omega) hT (by rw [hR.1.1]; exact hn.2) (fun j z1 z2 => by rw [show x + 1 + 1 = x + 2 by omega]; exact hR.1.2.2 j z1 (by omega)), ?_⟩
  rintro r γ m ⟨rfl, rfl, r3, r2, rg, rf⟩
  have rf2 : ∀ y j, (y < p ∨ p + 77 ≤ y) → (y < x + 1 ∨ x + 3 < y) → m y j = μ y j := fun y j z1 z2 => rf y j z1 (by omega) (by omega)
  refine B_X8_hall_37 hC hx hH.o ⟨fun e => B_X8_hall_46 hC hx ⟨by omega, hP _ _ _ ⟨hn, rfl, fun _ _ _ => rfl, ⟨w, p, hH, ?_⟩, fun y j z => rf y j (by omega) (by omega) (by omega)⟩⟩, fun e => ⟨1, 0, _, by omega, by omega, hX ▸ c_moveIn hl 1 (by omega) hH, ?_⟩⟩
  · unfold halF
    rw [if_neg e]
    refine hR.rd2 hH.wp (fun y j z1 z2 z3 z4 => rf2 y j z4 z3) ⟨?_, ?_, fun j z1 z2 => ?_⟩ (fun k z1 z2 => by rw [up_ne (by omega), up_ne (by omega)]) (fun k z1 z2 => by rw [up_off z1, up_off z1])
    · rw [up_ne (by omega), up_same]; exact r2
    · rw [up_same]; exact r3
    · rw [up_ne (by omega), up_same] at z2; omega
  · rintro r γ2 m2 ⟨rfl, rfl, hM⟩
    obtain ⟨q1, q2, q3, q4, q5, ⟨q6, q7, q8, q9⟩, q10⟩ := hM
    have e' : (hlR (σ 6) n).1.fk = 0 := e
    obtain ⟨gH, gA, gJ⟩ := rg e'
    have hO := hl6_ok (hlR_6 e')
    have ok := clN_ok (τ := σ 6) (N := n) (n := (hlB (σ 6) n).2.1) (q := hlq (σ 6) n) (w := (hlB (σ 6) n).2.2.1) (s := hl6 (σ 6) n) (pIn_6 hn.1) hO.1 41
    have ok1 : AcO (hlB (σ 6) n).2.1 (41 : Nat) (hlR (σ 6) n).2 := ok.1
    have ok3 : noW (hlB (σ 6) n).2.2.1 (hlR (σ 6) n).2 := ok.2.2
    have efp : (hlR (σ 6) n).1.fp = -1 := fpI_R e'
    have hh : halF σ n = halT (hlB (σ 6) n).2.1 (hlq (σ 6) n) (hlB (σ 6) n).2.2.1 (hlB (σ 6) n).2.2.2.1 (hlB (σ 6) n).2.2.2.2 (hlR (σ 6) n).2 σ := by unfold halF; rw [if_pos e']
    refine B_X8_hall_46 hC hx ⟨by omega, hP _ _ _ ⟨hn, rfl, fun y j z => by rw [up_ne (by omega), up_ne (by omega)], ⟨p, w, hH.sw, ?_⟩, fun y j z => by rw [q1 y j (by omega) (by omega) (by omega) (by omega) (by omega) (by omega)]; exact rf y j (by omega) (by omega) (by omega)⟩⟩
    rw [hh]
    have hon := hO.n
    have hq := hO.1.b
    have T0 := halT_0 (n := (hlB (σ 6) n).2.1) (q := hlq (σ 6) n) (w := (hlB (σ 6) n).2.2.1) (h := (hlB (σ 6) n).2.2.2.1) (ed := (hlB (σ 6) n).2.2.2.2) (a := (hlR (σ 6) n).2) (σ := σ)
    have T1 := fun j => halT_1 (n := (hlB (σ 6) n).2.1) (q := hlq (σ 6) n) (w := (hlB (σ 6) n).2.2.1) (h := (hlB (σ 6) n).2.2.2.1) (ed := (hlB (σ 6) n).2.2.2.2) (a := (hlR (σ 6) n).2) (σ := σ) (j := j)
    have Ts := fun y z (hz : 0 ≤ z ∧ z < 36) => halT_sA (n := (hlB (σ 6) n).2.1) (q := hlq (σ 6) n) (w := (hlB (σ 6) n).2.2.1) (h := (hlB (σ 6) n).2.2.2.1) (ed := (hlB (σ 6) n).2.2.2.2) (a := (hlR (σ 6) n).2) (σ := σ) (x := y) (y := z) hz
    have fA := fun y z => finC_A (q := hlq (σ 6) n) (h := (hlB (σ 6) n).2.2.2.1) (ed := (hlB (σ 6) n).2.2.2.2) ok1 ok3 y z
    generalize halT (hlB (σ 6) n).2.1 (hlq (σ 6) n) (hlB (σ 6) n).2.2.1 (hlB (σ 6) n).2.2.2.1 (hlB (σ 6) n).2.2.2.2 (hlR (σ 6) n).2 σ = τ at *
    generalize (hlB (σ 6) n).2.1 = n' at *
    generalize hlq (σ 6) n = q' at *
    generalize (hlB (σ 6) n).2.2.1 = cw at *
    generalize (hlB (σ 6) n).2.2.2.1 = h' at *
    generalize (hlB (σ 6) n).2.2.2.2 = ed at *
    obtain ⟨⟨T00, T01, T02, T03, T04⟩, T05, T06, T07, T08, T09⟩ := T0
    have qp : ∀ y j, p ≤ y → y < p + 77 → m2 y j = m y j := fun y j z1 z2 => q1 y j (by omega) (by omega) (by omega) (by omega) (by omega) (by omega)
    obtain ⟨G0, G1, G2, G3, G4⟩ := gH
    refine ⟨⟨?_, ?_, fun j z1 z2 => by omega⟩, ⟨⟨?_, ?_, by omega, by omega, fun b z1 z2 => ⟨fun j z3 z4 => ?_, fun j z3 z4 => ?_⟩, fun b z1 z2 => ?_⟩, ?_, ?_, ?_⟩, fun j z1 z2 => ?_, ⟨?_, ?_, fun j z1 z2 => by omega⟩, fun s z1 z2 => ⟨?_, fun z => absurd (T1 s).2.2.2.2.1 z⟩, ⟨⟨fun _ => T08, fun _ => q6⟩, fun z => absurd T08 z, ⟨fun _ => T09, fun _ => q7⟩, fun z => absurd T09 z⟩, ⟨fun z => absurd (q10 4 (by decide) (by decide)) z, fun z => absurd (q10 5 (by decide) (by decide)) z, fun z => absurd (q10 6 (by decide) (by decide)) z, fun z => absurd (q10 7 (by decide) (by decide)) z⟩, LtC.n q8 q9⟩
    · rw [T06, q1 _ _ (by omega) (by omega) (by omega) (by omega) (by omega) (by omega)]; exact r2
    · rw [T07, q1 _ _ (by omega) (by omega) (by omega) (by omega) (by omega) (by omega), r3]; exact efp
    · rw [T00, qp _ _ (by omega) (by omega)]; exact G0
    · rw [T01, qp _ _ (by omega) (by omega)]; exact G1
    · rw [T00] at z2 z4
      rw [qp _ _ (by omega) (by omega), Ts b j (by omega), gA b j z1 (by omega) z3 (by omega)]
      exact fA b j
    · rw [T00] at z4
      rw [T01, Ts b j (by omega)]
      exact ⟨Int.emod_nonneg _ (by omega), Int.emod_lt_of_pos _ (by omega)⟩
    · rw [T00] at z2
      rw [qp _ _ (by omega) (by omega), (T1 b).2.1]
      exact gJ b z1 (by omega)
    · rw [T02, qp _ _ (by omega) (by omega)]; exact G2
    · rw [T03, qp _ _ (by omega) (by omega)]; exact G3
    · rw [T04, qp _ _ (by omega) (by omega)]; exact G4
    · rw [(T1 j).2.2.1, (T1 j).2.2.2.1]; exact q2 j z1 z2
    · rw [q3, rf _ _ (by omega) (by omega) (by omega)]; exact hR.2.2.2.1.1
    · rw [T05]; exact q4
    · rw [(T1 s).2.2.2.2.1]; exact q5 s z1 z2
end CHall
