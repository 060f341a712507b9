/-! contracts of Span: the same elimination as the reference's -/
theorem ixO {G : Gx} {a i : Int} {t N : Nat} (h : shO G a t N) (hi : 0 ≤ i ∧ i < N) : ixA G t a i := ⟨h.1, h.2.1, by rw [h.2.2], hi.1, by rw [h.2.2]; exact hi.2⟩
theorem lnO {G : Gx} {a : Int} {N : Nat} (h : shO G a 11 N) (hN : N < 2147483648) : lnA G 11 a := ⟨h.1, h.2.1, by rw [h.2.2], by rw [h.2.2]; exact hN⟩
theorem shLen {G : Gx} {a : Int} {t N : Nat} (h : shO G a t N) : (G.sh a).2 = N := by rw [h.2.2]
theorem row_up {μ : Mu} {a b n i z : Int} {g : Int → Int} (h : b ≠ a) : up (row μ a n g) b i z = row (up μ b i z) a n g := by
  funext c j
  by_cases h1 : c = b ∧ j = i
  · obtain ⟨rfl, rfl⟩ := h1
    rw [up_same, row_off h, up_same]
  · rw [up_ne h1]
    by_cases h2 : c = a ∧ 0 ≤ j ∧ j < n
    · obtain ⟨rfl, h2⟩ := h2
      rw [row_in h2, row_in h2]
    · rw [row_out h2, row_out h2, up_ne h1]
theorem row_row {μ : Mu} {a n : Int} {f g : Int → Int} : row (row μ a n f) a n g = row μ a n g := by
  funext c j
  by_cases h2 : c = a ∧ 0 ≤ j ∧ j < n
  · obtain ⟨rfl, h2⟩ := h2
    rw [row_in h2, row_in h2]
  · rw [row_out h2, row_out h2, row_out h2]
theorem row_comm {μ : Mu} {a b n m : Int} {f g : Int → Int} (h : a ≠ b) : row (row μ a n f) b m g = row (row μ b m g) a n f := by
  funext c j
  by_cases h1 : c = a
  · subst h1
    rw [row_off h]
    by_cases h2 : 0 ≤ j ∧ j < n
    · rw [row_in h2, row_in h2]
    · rw [row_out (fun q => h2 q.2), row_out (fun q => h2 q.2), row_off h]
  · rw [row_off (a := a) h1]
    by_cases h3 : c = b
    · subst h3
      by_cases h2 : 0 ≤ j ∧ j < m
      · rw [row_in h2, row_in h2]
      · rw [row_out (fun q => h2 q.2), row_out (fun q => h2 q.2), row_off h1]
    · rw [row_off h3, row_off h3, row_off h1]
theorem PI.use {z : Int} {γ μ : Mu} {P : Option AV → Mu → Mu → Prop} (h : P (some (aI z)) γ μ) : ∀ r γ' μ', PI z γ μ r γ' μ' → P r γ' μ' := by
  rintro _ _ _ ⟨rfl, rfl, rfl⟩
  exact h
theorem PV.use {γ μ : Mu} {P : Option AV → Mu → Mu → Prop} (h : P none γ μ) : ∀ r γ' μ', PV γ μ r γ' μ' → P r γ' μ' := by
  rintro _ _ _ ⟨rfl, rfl, rfl⟩
  exact h
/-- Span at a -/
def SpanAt (G : Gx) (γ : Mu) (a : Int) : Prop := shO G a 5 9 ∧ γ a 0 = a + 1 ∧ shO G (a + 1) 14 36 ∧ γ a 1 = a + 38 ∧ shO G (a + 38) 11 36 ∧ γ a 2 = a + 39 ∧ shO G (a + 39) 14 36 ∧ γ a 3 = a + 76 ∧ shO G (a + 76) 11 36 ∧ γ a 4 = a + 77 ∧ shO G (a + 77) 11 36 ∧
  ∀ i, 0 ≤ i → i < 36 → (γ (a + 1) i = a + 2 + i ∧ shO G (a + 2 + i) 11 36) ∧ γ (a + 39) i = a + 40 + i ∧ shO G (a + 40 + i) 11 36
section Spans
variable {l : Launch} {G : Gx} {γ μ : Mu}
theorem c_spBegin (hl : l.stackTraces = false) (d : Nat) {a n q : Int} (ha : SpanAt G γ a) : Cn l G yX5_begin cX5_begin 3 none d 0 [aR a, aI n, aI q] γ μ (PV γ (up (up (up (up μ a 7 n) a 8 q) a 5 0) a 6 0)) :=
  Cn.of2 hl (plainFor_of_name (by decide)) (noLc nlR (noLc nlI (noL1 nlI))) rfl (fun o1 o3 X hX hC => B_X5_begin_0 hC ha.1 ⟨Nat.le_refl _, rfl, rfl, rfl⟩)
theorem c_firstUnlike0 (hl : l.stackTraces = false) (d : Nat) {a v : Int} {N : Nat} (ha : SpanAt G γ a) (hv : shO G v 11 N) (hn : 0 ≤ μ a 7 ∧ μ a 7 ≤ N) : Cn l G yX5_firstUnlike0 cX5_firstUnlike0 3 (some .int) d 0 [aR a, aR v] γ μ (PI (ff (μ v) (μ a 7)) γ μ) := by
  refine Cn.of2 hl (plainFor_of_name (by decide)) (noLc nlR (noL1 nlR)) rfl (fun o1 o3 X hX hC => B_X5_firstUnlike0_0 hC ha.1 ?_)
  have hw : iR (μ a 7) := okM_I o3 ha.1.2.2 (by rintro (q | q) <;> omega)
  have loop : ∀ (n : Nat) (i : Int), 0 ≤ i → μ a 7 - i = n → V X G (Qm X G 0 (PI (ffr (μ v) n i) γ μ)) 0 2 [aR a, aR v, aI i] [] γ μ := by
    intro n
    induction n with
    | zero =>
      intro i h0 h1
      exact B_X5_firstUnlike0_2 hC ha.1 ⟨fun _ => ⟨Nat.le_refl _, rfl, rfl, rfl⟩, fun w => absurd (by omega) w⟩
    | succ n ih =>
      intro i h0 h1
      refine B_X5_firstUnlike0_2 hC ha.1 ⟨fun w => absurd w (by omega), fun w => ⟨ixO hv ⟨h0, by omega⟩, fun w1 => ⟨⟨by omega, by omega⟩, ?_⟩, fun w1 => ⟨Nat.le_refl _, ?_, rfl, rfl⟩⟩⟩
      · rw [show ffr (μ v) (n + 1) i = ffr (μ v) n (i + 1) by rw [ffr, if_pos w1]]
        exact ih (i + 1) (by omega) (by omega)
      · rw [ffr, if_neg w1]
  exact loop (μ a 7).toNat 0 (by omega) (by omega)
theorem c_makePivotOne (hl : l.stackTraces = false) (d : Nat) (hd : 1 < d) {a id n q p : Int} (ha : SpanAt G γ a) (hid : 0 ≤ id ∧ id < 36) (en : μ a 7 = n) (eq : μ a 8 = q) (ep : μ (a + 38) id = p) (hn : n ≤ 36) (hp : 0 ≤ p ∧ p < n) (hq : 2 ≤ q ∧ q ≤ 5) (hR : ∀ j, 0 ≤ j → j < n → 0 ≤ μ (a + 2 + id) j ∧ μ (a + 2 + id) j < q) (hM : ∀ j, 0 ≤ j → j < n → 0 ≤ μ (a + 40 + id) j ∧ μ (a + 40 + id) j < q) :
    Cn l G yX5_makePivotOne cX5_makePivotOne 4 none d 0 [aR a, aI id] γ μ (PV γ (row (row μ (a + 2 + id) n (fun j => (μ (a + 2 + id) j * invQ (μ (a + 2 + id) p) q) % q)) (a + 40 + id) n (fun j => (μ (a + 40 + id) j * invQ (μ (a + 2 + id) p) q) % q))) := by
  refine Cn.of2 hl (plainFor_of_name (by decide)) (noLc nlR (noL1 nlI)) rfl (fun o1 o3 X hX hC => B_X5_makePivotOne_0 hC ha.1 ?_)
  have ha0 := ha
  obtain ⟨s0, g0, s1, g1, s38, g2, s39, g3, s76, g4, s77, hr⟩ := ha0
  obtain ⟨⟨r1, r2⟩, r3, r4⟩ := hr id hid.1 hid.2
  rw [g0, g1, r1, ep, eq]
  generalize ht : invQ (μ (a + 2 + id) p) q = t
  have htR : 0 ≤ t ∧ t ≤ 5 := by
    have key : ∀ (k : Nat) (i : Int), 0 ≤ i → i + k ≤ q → 0 ≤ invL (μ (a + 2 + id) p) q k i ∧ invL (μ (a + 2 + id) p) q k i ≤ 5 := by
      intro k
      induction k with
      | zero => intro i _ _; unfold invL; constructor <;> omega
      | succ k ih =>
        intro i h0 h1
        unfold invL
        split
        · constructor <;> omega
        · exact ih (i + 1) (by omega) (by omega)
    rw [← ht]
    exact key _ 1 (by omega) (by omega)
  refine ⟨ixO s1 (by omega), ixO s38 (by omega), ixO r2 (by omega), 0, 0, _, by omega, Nat.le_refl _, hX ▸ c_inverse hl 0 hq (hR p hp.1 hp.2), PI.use ?_⟩
  rw [ht]
  refine B_X5_makePivotOne_20 hC ha.1 ?_
  have loop : ∀ (k : Nat) (i : Int), 0 ≤ i → n - i = k → V X G (Qm X G 0 (PV γ (row (row μ (a + 2 + id) n (fun j => (μ (a + 2 + id) j * t) % q)) (a + 40 + id) n (fun j => (μ (a + 40 + id) j * t) % q)))) 0 23 [aR a, aI id, aI t, aI i] [] γ (row (row μ (a + 2 + id) i (fun j => (μ (a + 2 + id) j * t) % q)) (a + 40 + id) i (fun j => (μ (a + 40 + id) j * t) % q)) := by
    intro k
    induction k with
    | zero =>
      intro i h0 h1
      have e : i = n := by omega
      subst e
      refine B_X5_makePivotOne_23 hC ha.1 ⟨fun _ => ⟨Nat.le_refl _, rfl, rfl, rfl⟩, fun w => absurd ?_ w⟩
      rw [row_off (by omega), row_off (by omega), en]
      exact Int.le_refl _
    | succ k ih =>
      intro i h0 h1
      generalize hm : row (row μ (a + 2 + id) i (fun j => (μ (a + 2 + id) j * t) % q)) (a + 40 + id) i (fun j => (μ (a + 40 + id) j * t) % q) = m
      have e7 : m a 7 = n := by rw [← hm, row_off (by omega), row_off (by omega), en]
      have e8 : m a 8 = q := by rw [← hm, row_off (by omega), row_off (by omega), eq]
      have eR : m (a + 2 + id) i = μ (a + 2 + id) i := by rw [← hm, row_off (by omega), row_out (by omega)]
      have eM : m (a + 40 + id) i = μ (a + 40 + id) i := by rw [← hm, row_out (by omega), row_off (by omega)]
      have hR' := hR i h0 (by omega)
      have hM' := hM i h0 (by omega)
      have p1 := mulR (a := μ (a + 2 + id) i) (b := t) (m := 5) (by omega) (by omega)
      have p2 := mulR (a := μ (a + 40 + id) i) (b := t) (m := 5) (by omega) (by omega)
      refine B_X5_makePivotOne_23 hC ha.1 ?_
      rw [e7, e8, g0, r1, eR]
      refine ⟨fun w => absurd w (by omega), fun w => ⟨ixO s1 (by omega), ixO r2 (by omega), ⟨by omega, by omega⟩, 1, 0, _, by omega, Nat.le_refl _, hX ▸ c_mod hl 1 (by omega), PI.use ?_⟩⟩
      rw [if_pos hq.1]
      refine B_X5_makePivotOne_55 hC ha.1 ?_
      rw [g2, r3, up_offA (show a + 40 + id ≠ a + 2 + id by omega), eM, e8]
      refine ⟨ixO r2 (by omega), ixO s39 (by omega), ixO r4 (by omega), ⟨by omega, by omega⟩, 1, 0, _, by omega, Nat.le_refl _, hX ▸ c_mod hl 1 (by omega), PI.use ?_⟩
      rw [if_pos hq.1]
      refine B_X5_makePivotOne_80 hC ha.1 ⟨ixO r4 (by omega), ⟨by omega, by omega⟩, ?_⟩
      have e9 : up (up m (a + 2 + id) i (μ (a + 2 + id) i * t % q)) (a + 40 + id) i (μ (a + 40 + id) i * t % q) = row (row μ (a + 2 + id) (i + 1) (fun j => (μ (a + 2 + id) j * t) % q)) (a + 40 + id) (i + 1) (fun j => (μ (a + 40 + id) j * t) % q) := by
        rw [← hm, row_up (show a + 2 + id ≠ a + 40 + id by omega), row_s (f := fun j => (μ (a + 2 + id) j * t) % q) h0, row_s (f := fun j => (μ (a + 40 + id) j * t) % q) h0]
      rw [e9]
      exact ih (i + 1) (by omega) (by omega)
  have h := loop n.toNat 0 (by omega) (by omega)
  rw [row_0, row_0] at h
  exact h
end Spans
