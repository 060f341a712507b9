/-! calls with an answer of their own kind -/
theorem gSW {own : String} {ix : Nat} {y : MethodName} {cc : ByteArray} {nL : Nat} {hh : List (Nat × Nat × Nat × Nat)} (h1 : Cond.methodLink own ix y ∈ TB) (h2 : Cond.static y ∈ TB) (h3 : Cond.initialized y.cls ∈ TB) (h4 : Cond.codeWith y cc nL (some .int) hh ∈ TB) : GoodIn TB (va_wsS own ix y (wsW y cc nL (some .int) hh)) := fun w hw => by
  unfold va_wsS at hw
  rcases List.mem_append.mp hw with h | h
  · simp only [List.mem_cons, List.not_mem_nil, or_false] at h
    rcases h with rfl | rfl | rfl
    · exact ⟨h1, TB_good h1⟩
    · exact ⟨h2, TB_good h2⟩
    · exact ⟨h3, TB_good h3⟩
  · exact wsW_good h4 w h
theorem b01_eq {z : Int} (h : z = 0 ∨ z = 1) : (if z = 0 then (0 : Int) else 1) = z := by
  rcases h with h | h <;> rw [h] <;> rfl
section LawKeys2
variable {G : Gx} {γ γ1 γ2 μ m1 m2 σ σ1 : Mu} {w p n y : Int} {r r2 : Option AV}
theorem ModG.fr {b : Int} (h : ModG γ b) (hf : ∀ j, γ1 b j = γ b j) : ModG γ1 b := by
  unfold ModG at h ⊢
  simp only [hf]
  exact h
theorem keyH (hH : HallAt G γ 0 w p) (hR : RepC μ 0 w σ) (hG : ModG γ 518) (hRR : RepR μ 518 σ) (hW : Wf σ)
    (hp : (r = some (aI 0) ∧ ∃ z9 m, ((0 ≤ n ∧ n ≤ σ 0 6) ∧ some (aI z9) = some (aI (hlR (σ 6) n).1.fk) ∧ (∀ y j, (y = 0 → j ≠ 1 ∧ j ≠ 2) → γ1 y j = γ y j) ∧ (∃ w' p', HallAt G γ1 0 w' p' ∧ RepC m 0 w' (halF σ n)) ∧ frB μ m 0 (0 + 518)) ∧ m1 = up m 558 0 z9) ∨ (r = some (aI 1) ∧ ∃ e : String, ¬ (0 ≤ n ∧ n ≤ σ 0 6) ∧ e = IAEx ∧ γ1 = γ ∧ m1 = μ)) :
    r = some (aI (if 0 ≤ n ∧ n ≤ σ 0 6 then 0 else 1)) ∧ Mq G γ1 m1 (if 0 ≤ n ∧ n ≤ σ 0 6 then halF σ n else σ) σ ∧ ((if 0 ≤ n ∧ n ≤ σ 0 6 then (0 : Int) else 1) = 0 → m1 558 0 = (if 0 ≤ n ∧ n ≤ σ 0 6 then (hlR (σ 6) n).1.fk else 0)) := by
  rcases hp with ⟨h1, z9, m, ⟨c, q2, q3, ⟨w', p', hH', hR'⟩, q5⟩, q6⟩ | ⟨h1, e, c, -, q3, q4⟩
  · rw [if_pos c, if_pos c, if_pos c]
    have e : z9 = (hlR (σ 6) n).1.fk := Sum.inl.inj (Option.some.inj q2)
    subst q6
    refine ⟨h1, ⟨⟨w', p', hH', hR'.fr hH'.wb (fun y j a b => up_ne (by omega))⟩, hG.fr (fun j => q3 518 j (by omega)), hRR.frm hW (fun y j a b => by rw [up_ne (by omega)]; exact q5 y j (Or.inr (by omega)))⟩, fun _ => by rw [up_same, e]⟩
  · rw [if_neg c, if_neg c, if_neg c]
    subst q3
    subst q4
    exact ⟨h1, ⟨⟨w, p, hH, hR⟩, hG, hRR⟩, fun h => absurd h (by decide)⟩
theorem keyS (hH : HallAt G γ 0 w p) (hG : ModG γ 518) (hRR : RepR μ 518 σ) (hW : Wf σ)
    (hp : (r = some (aI 0) ∧ ∃ z9 m, ((0 ≤ y ∧ y ≤ 2) ∧ PCe μ γ 0 w (SolR σ y) (some (aI z9)) γ1 m) ∧ m1 = up m 558 0 z9) ∨ (r = some (aI 1) ∧ ∃ e : String, ¬ (0 ≤ y ∧ y ≤ 2) ∧ e = NSEx ∧ γ1 = γ ∧ RepC m1 0 w σ ∧ frB μ m1 0 (0 + 518))) :
    r = some (aI (if 0 ≤ y ∧ y ≤ 2 then 0 else 1)) ∧ ∃ σ1, Mq G γ1 m1 σ1 σ ∧ ((0 ≤ y ∧ y ≤ 2) → SolR σ y (m1 558 0) σ1) ∧ (¬ (0 ≤ y ∧ y ≤ 2) → σ1 = σ) := by
  rcases hp with ⟨h1, z9, m, ⟨c, z, σ1, q1, q2, q3, q4, q5⟩, q6⟩ | ⟨h1, e, c, -, q3, q4, q5⟩
  · rw [if_pos c]
    have e : z9 = z := Sum.inl.inj (Option.some.inj q2)
    subst e
    subst q6
    subst q3
    exact ⟨h1, σ1, ⟨⟨w, p, hH, q4.fr hH.wb (fun y j a b => up_ne (by omega))⟩, hG, hRR.frm hW (fun y j a b => by rw [up_ne (by omega)]; exact q5 y j (Or.inr (by omega)))⟩, fun _ => by rw [up_same]; exact q1, fun h => absurd c h⟩
  · rw [if_neg c]
    subst q3
    exact ⟨h1, σ, keyA hH hG hRR hW q4 q5, fun h => absurd h c, fun _ => rfl⟩
theorem keyMS (hM : Mq G γ1 m1 σ1 σ) (hW : Wf σ) (h1 : (0 ≤ y ∧ y ≤ 2) → SolR σ y (m1 558 0) σ1) (h2 : ¬ (0 ≤ y ∧ y ≤ 2) → σ1 = σ) (hS : ModS G 518) (ho : shO G 558 12 1) (hp : if 0 ≤ y ∧ y ≤ 2 then PE m1 γ1 518 (SolR σ y) r2 γ2 m2 else PR m1 γ1 518 σ 0 1 r2 γ2 m2) :
    ∃ z2 σ2, r2 = some (aI z2) ∧ m2 518 0 = (if 0 ≤ y ∧ y ≤ 2 then 0 else 1) ∧ m2 558 0 = m1 558 0 ∧ Lq G γ2 m2 σ2 ∧ ((if 0 ≤ y ∧ y ≤ 2 then (0 : Int) else 1) = 0 → m1 558 0 = z2) := by
  by_cases c : 0 ≤ y ∧ y ≤ 2
  · rw [if_pos c] at hp
    obtain ⟨z2, σ2, q1, q2⟩ := hp
    obtain ⟨⟨w, p, hH, hR⟩, hG, hRR⟩ := hM
    obtain ⟨e1, e2⟩ := sol_same hW (h1 c) q1 hR
    obtain ⟨k1, k2, k3, k4⟩ := keyM (σ := σ) ⟨⟨w, p, hH, e2⟩, hG, hRR⟩ hS (hW.sol q1) ho q2
    exact ⟨z2, σ2, k1, by rw [if_pos c]; exact k2, k3, k4, fun _ => e1⟩
  · rw [if_neg c] at hp
    have e := h2 c
    subst e
    obtain ⟨k1, k2, k3, k4⟩ := keyM hM hS hW ho hp
    exact ⟨0, σ1, k1, by rw [if_neg c]; exact k2, k3, k4, fun h => by rw [if_neg c] at h; exact absurd h (by decide)⟩
theorem keyMN (hH : HallAt G γ1 0 w p) (hG : ModG γ1 518) (hRR : RepR m1 518 σ) (hR : RepC m1 0 w σ1) {z : Int} (hW : Wf σ) (h1 : NearR σ z σ1) (hS : ModS G 518) (ho : shO G 558 12 1) (hp : PE m1 γ1 518 (NearR σ) r2 γ2 m2) : ∃ σ2, r2 = some (aI z) ∧ Lq G γ2 m2 σ2 := by
  obtain ⟨z2, σ2, q1, q2⟩ := hp
  obtain ⟨e1, e2⟩ := near_same hW h1 q1 hR
  obtain ⟨k1, k2, k3, k4⟩ := keyM (σ := σ) ⟨⟨w, p, hH, e2⟩, hG, hRR⟩ hS (hW.near q1) ho q2
  exact ⟨σ2, by rw [k1, e1], k4⟩
end LawKeys2
