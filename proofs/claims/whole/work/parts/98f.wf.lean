/-! what a call makes of a good state is a good state -/
theorem Wf.gen {σ σ' : Mu} (hW : Wf σ) (e0 : ∀ k, 0 ≤ k → k ≤ 4 → σ' 0 k = σ 0 k) (e1 : ∀ j, σ' 1 j = σ 1 j) (e2 : ∀ x, 0 ≤ x → x < 36 → σ' 2 x = σ 2 x ∨ σ' 2 x = 0 ∨ σ' 2 x = 1)
    (e3 : ∀ j, 0 ≤ j → j < 36 → σ' 3 j = σ 3 j ∨ (j < σ 0 0 ∧ 0 ≤ σ' 3 j ∧ σ' 3 j < σ 0 1)) (e4 : ∀ j, 0 ≤ j → j < 36 → σ' 4 j = σ 4 j ∨ (j < σ 0 0 ∧ 0 ≤ σ' 4 j ∧ σ' 4 j < σ 0 1))
    (e5 : σ' 0 5 = 0 ∨ (0 ≤ σ' 0 5 ∧ σ' 0 5 ≤ σ 0 5 ∧ ∀ j, 0 ≤ j → j < σ' 0 5 → σ' 5 j = σ 5 j))
    (e6 : okTp (σ' 0 6) (σ' 6)) (e7 : okSl (σ 0 0) (σ 0 1) (σ' 7) (σ' 8)) (e8 : σ' 0 8 ≠ 0 → inQ (σ 0 0) (σ 0 1) (σ' 9)) (e9 : σ' 0 9 ≠ 0 → inQ (σ 0 0) (σ 0 1) (σ' 10)) : Wf σ' := by
  have hp := hW.pr
  refine Wf.upd hW e0 (funext e1) (fun x z1 z2 => ?_) (fun j z1 z2 => ?_) (fun j z1 z2 => ?_) ?_ e6 e7 e8 e9
  · rcases e2 x z1 z2 with e | e | e
    · rw [e]; exact hW.jm x z1 z2
    · exact Or.inl e
    · exact Or.inr e
  · rcases e3 j z1 z2 with e | e
    · rw [e]; exact hW.st j z1 z2
    · exact ⟨e.2, fun w => by omega⟩
  · rcases e4 j z1 z2 with e | e
    · rw [e]; exact hW.wi j z1 z2
    · exact ⟨e.2, fun w => by omega⟩
  · rcases e5 with e | ⟨h1, h2, h3⟩
    · exact ⟨by omega, fun j z1 z2 => by omega⟩
    · exact ⟨by have := hp.1; omega, fun j z1 z2 => by rw [h3 j z1 z2]; exact hp.2 j z1 (by omega)⟩
/-- only the rows of lights and the presses kept -/
theorem Wf.row34 {σ σ' : Mu} (hW : Wf σ) (h : ∀ k j, k ≠ 3 → k ≠ 4 → (k = 0 → j ≠ 5) → σ' k j = σ k j)
    (e3 : ∀ j, 0 ≤ j → j < 36 → σ' 3 j = σ 3 j ∨ (j < σ 0 0 ∧ 0 ≤ σ' 3 j ∧ σ' 3 j < σ 0 1)) (e4 : ∀ j, 0 ≤ j → j < 36 → σ' 4 j = σ 4 j ∨ (j < σ 0 0 ∧ 0 ≤ σ' 4 j ∧ σ' 4 j < σ 0 1))
    (e5 : 0 ≤ σ' 0 5 ∧ σ' 0 5 ≤ σ 0 5) : Wf σ' := by
  have f : ∀ k, k ≠ 0 → k ≠ 3 → k ≠ 4 → σ' k = σ k := fun k z0 z3 z4 => funext (fun j => h k j z3 z4 (fun e => absurd e z0))
  refine hW.gen (fun k z1 z2 => h 0 k (by omega) (by omega) (fun _ => by omega)) (fun j => h 1 j (by omega) (by omega) (by omega)) (fun x _ _ => Or.inl (h 2 x (by omega) (by omega) (by omega))) e3 e4 (Or.inr ⟨e5.1, e5.2, fun j _ _ => h 5 j (by omega) (by omega) (by omega)⟩) ?_ ?_ ?_ ?_
  · rw [h 0 6 (by omega) (by omega) (by omega), f 6 (by omega) (by omega) (by omega)]; exact hW.tp
  · rw [f 7 (by decide) (by decide) (by decide), f 8 (by decide) (by decide) (by decide)]; exact hW.sl
  · rw [h 0 8 (by decide) (by decide) (by decide), f 9 (by decide) (by decide) (by decide)]; exact hW.rw
  · rw [h 0 9 (by decide) (by decide) (by decide), f 10 (by decide) (by decide) (by decide)]; exact hW.nr
theorem Wf.set {σ : Mu} {x y c : Int} (hW : Wf σ) (hx : isL σ x) : Wf (setF σ x y c) := by
  have hp := hW.pr.1
  unfold setF
  split
  · split
    · refine hW.row34 (fun k j z3 z4 z0 => by rw [up_ne (by omega), up_ne (by omega)]) (fun j z1 z2 => ?_) (fun j z1 z2 => Or.inl (by rw [up_ne (by omega), up_ne (by omega)])) (by rw [up_same]; omega)
      rw [up_ne (by omega)]
      by_cases e : j = x
      · subst e; rw [up_same]; exact Or.inr ⟨hx.2, by assumption⟩
      · exact Or.inl (up_ne (by omega))
    · refine hW.row34 (fun k j z3 z4 z0 => by rw [up_ne (by omega)]) (fun j z1 z2 => Or.inl (by rw [up_ne (by omega)])) (fun j z1 z2 => ?_) (by rw [up_ne (by omega)]; omega)
      by_cases e : j = x
      · subst e; rw [up_same]; exact Or.inr ⟨hx.2, by assumption⟩
      · exact Or.inl (up_ne (by omega))
  · exact hW
theorem row_or {μ : Mu} {a n j q : Int} {f : Int → Int} (h0 : 0 ≤ j) (h : j < n → 0 ≤ f j ∧ f j < q) : row μ a n f a j = μ a j ∨ (j < n ∧ 0 ≤ row μ a n f a j ∧ row μ a n f a j < q) := by
  by_cases e : j < n
  · rw [row_in ⟨h0, e⟩]; exact Or.inr ⟨e, h e⟩
  · exact Or.inl (row_out (by omega))
theorem Wf.row3 {σ : Mu} {f : Int → Int} {z : Int} (hW : Wf σ) (hf : inQ (σ 0 0) (σ 0 1) f) (hz : 0 ≤ z ∧ z ≤ σ 0 5) : Wf (row (up σ 0 5 z) 3 (σ 0 0) f) := by
  refine hW.row34 (fun k j z3 z4 z0 => by rw [row_off z3, up_ne (by omega)]) (fun j z1 z2 => ?_) (fun j z1 z2 => Or.inl (by rw [row_off (by decide), up_ne (by omega)])) (by rw [row_off (by decide), up_same]; exact hz)
  have h := row_or (μ := up σ 0 5 z) (a := 3) (n := σ 0 0) (f := f) z1 (hf j z1)
  rw [up_ne (μ := σ) (a := 0) (b := 3) (by omega)] at h
  exact h
theorem Wf.row4 {σ : Mu} {f : Int → Int} (hW : Wf σ) (hf : inQ (σ 0 0) (σ 0 1) f) : Wf (row σ 4 (σ 0 0) f) := by
  have hp := hW.pr.1
  exact hW.row34 (fun k j z3 z4 z0 => by rw [row_off z4]) (fun j z1 z2 => Or.inl (by rw [row_off (by decide)])) (fun j z1 z2 => row_or z1 (hf j z1)) (by rw [row_off (by decide)]; omega)
theorem Wf.fill {σ : Mu} {y c : Int} (hW : Wf σ) : Wf (fillF σ y c) := by
  unfold fillF
  split
  · split
    · exact hW.row3 (fun _ _ _ => by assumption) (by have := hW.pr.1; omega)
    · exact hW.row4 (fun _ _ _ => by assumption)
  · exact hW
theorem Wf.draw {σ : Mu} {s : Int} (hW : Wf σ) : Wf (drawF σ s) := by
  have hq := hW.2.1.b
  exact hW.row3 (fun _ _ _ => ⟨Int.emod_nonneg _ (by omega), Int.emod_lt_of_pos _ (by omega)⟩) (by have := hW.pr.1; omega)
theorem Wf.back {σ : Mu} (hW : Wf σ) : Wf (backF σ) := by
  have hq := hW.2.1.b
  have hp := hW.pr.1
  unfold backF
  split
  · exact hW
  · exact hW.row3 (fun _ _ _ => ⟨Int.emod_nonneg _ (by omega), Int.emod_lt_of_pos _ (by omega)⟩) (by omega)
theorem Wf.pulse {σ : Mu} {k : Nat} (hW : Wf σ) : Wf (up (row σ 3 (σ 0 0) (pulN σ k)) 0 5 0) := by
  rw [row_up (by decide)]
  exact hW.row3 (pulN_in hW k) (by have := hW.pr.1; omega)
theorem Wf.jam {σ : Mu} {x z : Int} (hW : Wf σ) (hz : z = 0 ∨ z = 1) : Wf (up σ 2 x z) := by
  have hp := hW.pr.1
  have f : ∀ k, k ≠ 2 → up σ 2 x z k = σ k := fun k h => up_off h
  have g : ∀ k j, k ≠ 2 → up σ 2 x z k j = σ k j := fun k j h => by rw [f k h]
  refine hW.gen (fun k z1 z2 => g 0 k (by decide)) (fun j => g 1 j (by decide)) (fun i _ _ => ?_) (fun j z1 z2 => Or.inl (g 3 j (by decide))) (fun j z1 z2 => Or.inl (g 4 j (by decide))) (Or.inr ?_) ?_ ?_ ?_ ?_
  · by_cases e : i = x
    · subst e; rw [up_same]; exact Or.inr hz
    · exact Or.inl (up_ne (by omega))
  · rw [g 0 5 (by decide)]
    exact ⟨hp.1, Int.le_refl _, fun j _ _ => g 5 j (by decide)⟩
  · rw [g 0 6 (by decide), f 6 (by decide)]; exact hW.tp
  · rw [f 7 (by decide), f 8 (by decide)]; exact hW.sl
  · rw [g 0 8 (by decide), f 9 (by decide)]; exact hW.rw
  · rw [g 0 9 (by decide), f 10 (by decide)]; exact hW.nr
theorem Wf.keep {σ : Mu} {s : Int} (hW : Wf σ) (hs : 0 ≤ s ∧ s ≤ 3) : Wf (kepF σ s) := by
  have hp := hW.pr.1
  have f : ∀ k, k ≠ 7 → k ≠ 8 → kepF σ s k = σ k := fun k h1 h2 => by unfold kepF; rw [rwo_offF h2, up_off h1]
  have g : ∀ k j, k ≠ 7 → k ≠ 8 → kepF σ s k j = σ k j := fun k j h1 h2 => by rw [f k h1 h2]
  refine hW.gen (fun k z1 z2 => g 0 k (by decide) (by decide)) (fun j => g 1 j (by decide) (by decide)) (fun i _ _ => Or.inl (g 2 i (by decide) (by decide))) (fun j z1 z2 => Or.inl (g 3 j (by decide) (by decide))) (fun j z1 z2 => Or.inl (g 4 j (by decide) (by decide))) (Or.inr ?_) ?_ (fun t t0 t1 => ?_) ?_ ?_
  · rw [g 0 5 (by decide) (by decide)]
    exact ⟨hp.1, Int.le_refl _, fun j _ _ => g 5 j (by decide) (by decide)⟩
  · rw [g 0 6 (by decide) (by decide), f 6 (by decide) (by decide)]; exact hW.tp
  · unfold kepF
    by_cases e : t = s
    · subst e
      rw [rwo_off (by decide), up_same]
      refine ⟨Or.inr rfl, fun _ j z1 z2 => ?_⟩
      rw [rwo_at ⟨z1, z2⟩]
      exact hW.st j z1 z2
    · rw [rwo_off (by decide), up_ne (by omega)]
      refine ⟨(hW.sl t t0 t1).1, fun w j z1 z2 => ?_⟩
      rw [rwo_out (by omega), up_ne (by omega)]
      exact (hW.sl t t0 t1).2 w j z1 z2
  · rw [g 0 8 (by decide) (by decide), f 9 (by decide) (by decide)]; exact hW.rw
  · rw [g 0 9 (by decide) (by decide), f 10 (by decide) (by decide)]; exact hW.nr
theorem Wf.take {σ : Mu} {s x : Int} (hW : Wf σ) (hs : 0 ≤ s ∧ s ≤ 3) (h7 : σ 7 s ≠ 0) : Wf (takF σ s x) := by
  have h : inQ (σ 0 0) (σ 0 1) (fun j => σ 8 (36 * s + j)) := fun j z1 z2 => ((hW.sl s hs.1 (by omega)).2 h7 j z1 (by have := hW.1; omega)).1
  unfold takF
  split
  · rw [row_up (by decide)]
    exact hW.row3 h (by have := hW.pr.1; omega)
  · exact hW.row4 h
theorem Wf.tape {σ σ' : Mu} (hW : Wf σ) (g : ∀ k j, (k = 0 → j ≠ 6 ∧ j ≠ 7) → k ≠ 6 → σ' k j = σ k j) (h : okTp (σ' 0 6) (σ' 6)) : Wf σ' := by
  have hp := hW.pr.1
  have f : ∀ k, k ≠ 0 → k ≠ 6 → σ' k = σ k := fun k z0 z3 => funext (fun j => g k j (fun e => absurd e z0) z3)
  refine hW.gen (fun k z1 z2 => g 0 k (by omega) (by omega)) (fun j => g 1 j (by omega) (by omega)) (fun i _ _ => Or.inl (g 2 i (by omega) (by omega))) (fun j z1 z2 => Or.inl (g 3 j (by omega) (by omega))) (fun j z1 z2 => Or.inl (g 4 j (by omega) (by omega))) (Or.inr ?_) h ?_ ?_ ?_
  · rw [g 0 5 (by omega) (by omega)]
    exact ⟨hp.1, Int.le_refl _, fun j _ _ => g 5 j (by omega) (by omega)⟩
  · rw [f 7 (by omega) (by omega), f 8 (by omega) (by omega)]; exact hW.sl
  · rw [g 0 8 (by omega) (by omega), f 9 (by omega) (by omega)]; exact hW.rw
  · rw [g 0 9 (by omega) (by omega), f 10 (by omega) (by omega)]; exact hW.nr
theorem Wf.feed {σ : Mu} {a b c d e : Int} (hW : Wf σ) : Wf (feeF σ a b c d e) := by
  unfold feeF
  split
  · refine ((((hW.lay (by omega)).lay ?_).lay ?_).lay ?_).lay ?_
    all_goals simp only [layF_06]
    all_goals omega
  · exact hW
theorem Wf.hallOk {n q w h ed : Int} {a : AC} {σ : Mu} (hO : hdO n q w h ed) (ha : ∀ x, 0 ≤ x → x < 36 → (a.jm x = 0 ∨ a.jm x = 1)) : Wf (halT n q w h ed a σ) := by
  have hq : 2 ≤ q ∧ q ≤ 5 := hO.1.b
  have hn : 0 ≤ n ∧ n ≤ 36 := by
    rcases hO.2 with z | ⟨z1, z2, z3, -⟩
    · omega
    · constructor
      · rw [z3]; exact Int.mul_nonneg (by omega) (by omega)
      · rw [z3]
        have : w * h ≤ 6 * 6 := Int.mul_le_mul (by omega) (by omega) (by omega) (by omega)
        omega
  refine ⟨hn, hO.1, ?_, ⟨Int.le_refl _, by show (0 : Int) ≤ 100; decide⟩, ⟨Int.le_refl _, by show (0 : Int) ≤ 500; decide⟩, fun x z1 z2 j z3 z4 => ⟨Int.emod_nonneg _ (show q ≠ 0 by omega), Int.emod_lt_of_pos _ (show 0 < q by omega)⟩, ha, fun j z1 z2 => ⟨⟨Int.le_refl _, show (0 : Int) < q by omega⟩, fun _ => rfl⟩, fun j z1 z2 => ⟨⟨Int.le_refl _, show (0 : Int) < q by omega⟩, fun _ => rfl⟩, fun j z1 z2 => ?_, fun j z1 z2 => ?_, fun s z1 z2 => ⟨Or.inl rfl, fun e => absurd rfl e⟩, fun e => absurd rfl e, fun e => absurd rfl e⟩
  · rcases hO.2 with z | ⟨z1, z2, z3, z4⟩
    · exact Or.inl ⟨z.1, z.2.2.2, z.2.2.1⟩
    · exact Or.inr ⟨z1.1, z1.2, z2.1, z2.2, z3, z4⟩
  · have : j < (0 : Int) := z2
    omega
  · have : j < (0 : Int) := z2
    omega
theorem Wf.hall {σ : Mu} {N : Int} (hW : Wf σ) (hN : 0 ≤ N) : Wf (halF σ N) := by
  unfold halF
  split
  case isFalse =>
    refine hW.tape (fun k j z0 z1 => by rw [up_ne (by omega), up_ne (by omega)]) ?_
    rw [up_ne (by omega), up_same]
    exact ⟨by decide, fun j z1 z2 => by omega⟩
  case isTrue h =>
    have h6 : (hl6 (σ 6) N).fk = 0 := by
      apply Decidable.byContradiction
      intro hc
      have e41 : hlR (σ 6) N = (hl6 (σ 6) N, ac0) := clN_stop (k := 0) (fun z => hc z.1) 41
      rw [e41] at h
      exact hc h
    have hO := hl6_ok h6
    have eR : hlR (σ 6) N = clN (σ 6) N (hlB (σ 6) N).2.1 (hlq (σ 6) N) (hlB (σ 6) N).2.2.1 (hl6 (σ 6) N) 41 := rfl
    have h41 := clN_ok (τ := σ 6) (N := N) (n := (hlB (σ 6) N).2.1) (q := hlq (σ 6) N) (w := (hlB (σ 6) N).2.2.1) (s := hl6 (σ 6) N) (pIn_6 hN) hO.1 41
    rw [← eR] at h41
    exact Wf.hallOk hO h41.1.2.2.2.1
theorem Wf.kp {σ σ' : Mu} (hW : Wf σ) (g : ∀ k j, (k = 0 → j ≠ 8 ∧ j ≠ 9) → k ≠ 9 → k ≠ 10 → σ' k j = σ k j) (h8 : σ' 0 8 ≠ 0 → inQ (σ 0 0) (σ 0 1) (σ' 9)) (h9 : σ' 0 9 ≠ 0 → inQ (σ 0 0) (σ 0 1) (σ' 10)) : Wf σ' := by
  have hp := hW.pr.1
  have f : ∀ k, k ≠ 0 → k ≠ 9 → k ≠ 10 → σ' k = σ k := fun k z0 z3 z4 => funext (fun j => g k j (fun e => absurd e z0) z3 z4)
  refine hW.gen (fun k z1 z2 => g 0 k (by omega) (by omega) (by omega)) (fun j => g 1 j (by omega) (by omega) (by omega)) (fun i _ _ => Or.inl (g 2 i (by omega) (by omega) (by omega))) (fun j z1 z2 => Or.inl (g 3 j (by omega) (by omega) (by omega))) (fun j z1 z2 => Or.inl (g 4 j (by omega) (by omega) (by omega))) (Or.inr ?_) ?_ ?_ h8 h9
  · rw [g 0 5 (by omega) (by omega) (by omega)]
    exact ⟨hp.1, Int.le_refl _, fun j _ _ => g 5 j (by omega) (by omega) (by omega)⟩
  · rw [g 0 6 (by omega) (by omega) (by omega), f 6 (by omega) (by omega) (by omega)]; exact hW.tp
  · rw [f 7 (by omega) (by omega) (by omega), f 8 (by omega) (by omega) (by omega)]; exact hW.sl
theorem BestD.inq {n q z v : Int} {C : (Int → Int) → Int} {S : GS} {x0 best : Int → Int} (hq : 0 < q) (h : BestD n C (DRv q S x0 v) z best) (hz : z ≠ -1) : inQ n q best := by
  rcases h with h | ⟨-, ⟨x, ⟨d, -, -, e⟩, h3⟩, -⟩
  · exact absurd h.1 hz
  · intro j z1 z2
    rw [h3 j z1 z2, e]
    exact mixI_in hq j z1 z2
theorem Wf.sol {σ σ' : Mu} {kind z : Int} (hW : Wf σ) (h : SolR σ kind z σ') : Wf σ' := by
  have hq := hW.2.1.b
  rcases h with ⟨-, -, e⟩ | ⟨-, -, -, e⟩ | ⟨-, -, best, hb, e⟩
  · rw [e]; exact hW
  · rw [e]; exact hW
  · rw [e]
    split
    · exact hW
    · refine hW.kp (fun k j z0 z1 z2 => by rw [up_ne (by omega), row_off z1]) (fun _ j z1 z2 => ?_) ?_
      · rw [up_ne (by omega), row_in ⟨z1, by have := hW.1; omega⟩]
        exact hb.inq (by omega) (by assumption) j z1 z2
      · rw [up_ne (by omega), row_off (by decide), up_off (by decide), row_offF (by decide)]
        exact hW.nr
theorem near_ne {σ : Mu} {z : Int} {best : Int → Int} (hW : Wf σ) (hb : BestD (σ 0 0) (fun f => unlC f (σ 4) (σ 0 0)) (DRv (σ 0 1) (SoF σ) (σ 3) (σ 0 1 ^ (SbF σ).c)) z best) : z ≠ -1 := by
  have hq := hW.2.1.b
  rcases hb with h | ⟨h, -⟩
  · exfalso
    have hd : dgs (σ 0 1) (SoF σ).tc (fun _ => 0) := fun i _ _ => ⟨Int.le_refl _, by show (0 : Int) < σ 0 1; omega⟩
    have h1 := h.2 (mixI (σ 0 1) (SoF σ) (σ 3) (fun _ => 0)) ⟨_, hd, (vlN_b (by omega) _ hd).2, rfl⟩
    have h2 := (unlC_b (mixI (σ 0 1) (SoF σ) (σ 3) (fun _ => 0)) (σ 4) (n := σ 0 0) (σ 0 0) hW.1.1 (Int.le_refl _)).1
    have h3 : unlC (mixI (σ 0 1) (SoF σ) (σ 3) (fun _ => 0)) (σ 4) (σ 0 0) = -1 := h1
    omega
  · omega
theorem Wf.near {σ σ' : Mu} {z : Int} (hW : Wf σ) (h : NearR σ z σ') : Wf σ' := by
  have hq := hW.2.1.b
  rcases h with ⟨-, -, e⟩ | ⟨-, best, hb, e⟩
  · rw [e]; exact hW
  · rw [e]
    refine hW.kp (fun k j z0 z1 z2 => by rw [up_ne (by omega), row_off z2]) ?_ (fun _ j z1 z2 => ?_)
    · rw [up_ne (by omega), row_off (by decide), up_off (by decide), row_offF (by decide)]
      exact hW.rw
    · rw [up_ne (by omega), row_in ⟨z1, by have := hW.1; omega⟩]
      exact hb.inq (by omega) (near_ne hW hb) j z1 z2
