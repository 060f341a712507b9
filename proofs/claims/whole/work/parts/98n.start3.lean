/-! the first state is held by both -/
section Start3
variable {μ m : Mu} {r : Int}
theorem mi3_out {a j : Int} (h : a ≠ r) : mi3 μ r a j = μ a j := by simp (disch := omega) only [mi3, up_ne]
theorem mi7_out {a j : Int} (h : a ≠ r) : mi7 μ r a j = μ a j := by simp (disch := omega) only [mi7, up_ne]
theorem mi5_out {a j : Int} (h : a ≠ r) : mi5 μ r a j = μ a j := by simp (disch := omega) only [mi5, up_ne]
theorem mi0_out {a j : Int} (h : a ≠ r + 1 ∧ a ≠ r + 79 ∧ a ≠ r + 157 ∧ a ≠ r + 235) : mi0 μ r a j = μ a j := by simp (disch := omega) only [mi0, mi5_out]
theorem mi2_out {a j : Int} (h : a ≠ r) : mi2 μ r a j = μ a j := by simp (disch := omega) only [mi2, up_ne]
theorem mi4_out {a j : Int} (h : a ≠ r) : mi4 μ r a j = μ a j := by simp (disch := omega) only [mi4, up_ne]
theorem mi6_out {a j : Int} (h : a ≠ r) : mi6 μ r a j = μ a j := by simp (disch := omega) only [mi6, up_ne]
theorem mi1_out {a j : Int} (h : a ≠ r) : mi1 μ r a j = μ a j := by simp (disch := omega) only [mi1, up_ne]
theorem repC0 (hz : ∀ a j, r ≤ a → a < r + 518 → μ a j = 0) (hf : ∀ a j, r ≤ a → a < r + 518 → m a j = mi8 μ r a j) : RepC m r (r + 4) sg0 := by
  have z0 : ∀ a j, r ≤ a → a < r + 518 → a ≠ r + 1 → a ≠ r + 4 → a ≠ r + 81 → a ≠ r + 159 → a ≠ r + 237 → a ≠ r + 315 → a ≠ r + 393 → a ≠ r + 475 → a ≠ r + 485 → a ≠ r + 505 → a ≠ r + 511 → m a j = 0 := fun a j k1 k2 _ _ _ _ _ _ _ _ _ _ _ => by
    rw [hf a j k1 k2]
    simp (disch := omega) only [mi8, mi0_out, mi1_out, mi2_out, mi3_out, mi4_out, mi6_out, mi7_out, hz]
  have q1 : m (r + 1) 2 = 0 := by
    rw [hf _ _ (by omega) (by omega)]
    simp (disch := omega) only [mi8, mi0_out, mi1_out, mi2_out, mi4_out, mi6_out, mi7_out, mi3, up_ne, up_same]
  have q2 : m (r + 1) 3 = -1 := by
    rw [hf _ _ (by omega) (by omega)]
    simp (disch := omega) only [mi8, mi0_out, mi1_out, mi2_out, mi4_out, mi6_out, mi7_out, mi3, up_ne, up_same]
  have qw : m (r + 4) 0 = 0 ∧ m (r + 4) 1 = 2 ∧ m (r + 4) 2 = 0 ∧ m (r + 4) 3 = 0 ∧ m (r + 4) 4 = -1 := by
    rw [hf _ _ (by omega) (by omega), hf _ _ (by omega) (by omega), hf _ _ (by omega) (by omega), hf _ _ (by omega) (by omega), hf _ _ (by omega) (by omega)]
    have o : ∀ j, mi8 μ r (r + 4) j = mi7 (mi3 μ (r + 1)) (r + 4) (r + 4) j := fun j => by
      unfold mi8
      rw [mi1_out (by omega), mi6_out (by omega), mi4_out (by omega), mi2_out (by omega), mi0_out (by omega), mi7_out (by omega)]
    rw [o, o, o, o, o]
    simp (disch := omega) only [mi7, up_ne, up_same, and_self]
  have qp : m (r + 475) 1 = 0 ∧ m (r + 475) 2 = 0 := by
    rw [hf _ _ (by omega) (by omega), hf _ _ (by omega) (by omega)]
    simp (disch := omega) only [mi8, mi1_out, mi4_out, mi6_out, mi2, up_ne, up_same, and_self]
  refine ⟨⟨q1, q2, fun j z1 z2 => ?_⟩, ⟨⟨qw.1, qw.2.1, by decide, by decide, fun b z1 z2 => ?_, fun b z1 z2 => ?_⟩, qw.2.2.1, qw.2.2.2.1, qw.2.2.2.2⟩, fun j z1 z2 => ⟨?_, ?_⟩, ⟨by rw [qp.1]; decide, qp.2, fun i z1 z2 => ?_⟩, fun s z1 z2 => ⟨?_, fun e => absurd rfl e⟩, ⟨?_, fun e => absurd rfl e, ?_, fun e => absurd rfl e⟩, ⟨fun e => ?_, fun e => ?_, fun e => ?_, fun e => ?_⟩, fun e => ?_, fun e => ?_⟩
  · have : j < (0 : Int) := z2
    omega
  · have : b < (0 : Int) := z2
    omega
  · have : b < (0 : Int) := z2
    omega
  · exact z0 _ _ (by omega) (by omega) (by omega) (by omega) (by omega) (by omega) (by omega) (by omega) (by omega) (by omega) (by omega) (by omega) (by omega)
  · exact z0 _ _ (by omega) (by omega) (by omega) (by omega) (by omega) (by omega) (by omega) (by omega) (by omega) (by omega) (by omega) (by omega) (by omega)
  · have : i < (0 : Int) := z2
    omega
  · exact z0 _ _ (by omega) (by omega) (by omega) (by omega) (by omega) (by omega) (by omega) (by omega) (by omega) (by omega) (by omega) (by omega) (by omega)
  · rw [z0 _ _ (by omega) (by omega) (by omega) (by omega) (by omega) (by omega) (by omega) (by omega) (by omega) (by omega) (by omega) (by omega) (by omega)]
    exact ⟨fun _ => rfl, fun _ => rfl⟩
  · rw [z0 _ _ (by omega) (by omega) (by omega) (by omega) (by omega) (by omega) (by omega) (by omega) (by omega) (by omega) (by omega) (by omega) (by omega)]
    exact ⟨fun _ => rfl, fun _ => rfl⟩
  all_goals exact absurd (z0 _ _ (by omega) (by omega) (by omega) (by omega) (by omega) (by omega) (by omega) (by omega) (by omega) (by omega) (by omega) (by omega) (by omega)) e
theorem repR0 (hz : ∀ a j, r ≤ a → a < r + 40 → μ a j = 0) (hf : ∀ a j, r ≤ a → a < r + 40 → m a j = mi9 μ r a j) : RepR m r sg0 := by
  have z1 : ∀ a j, r ≤ a → a < r + 40 → (a = r → j ≠ 2 ∧ j ≠ 5 ∧ j ≠ 15) → m a j = 0 := fun a j k1 k2 k3 => by
    rw [hf a j k1 k2]
    simp (disch := omega) only [mi9, up_ne, hz]
  refine ⟨z1 _ _ (by omega) (by omega) (by omega), ?_, z1 _ _ (by omega) (by omega) (by omega), z1 _ _ (by omega) (by omega) (by omega), ?_, z1 _ _ (by omega) (by omega) (by omega), z1 _ _ (by omega) (by omega) (by omega), ?_, z1 _ _ (by omega) (by omega) (by omega), z1 _ _ (by omega) (by omega) (by omega), fun j _ _ => z1 _ _ (by omega) (by omega) (by omega), fun j _ _ => z1 _ _ (by omega) (by omega) (by omega), fun j _ _ => z1 _ _ (by omega) (by omega) (by omega), fun j _ _ => z1 _ _ (by omega) (by omega) (by omega), fun j _ _ => z1 _ _ (by omega) (by omega) (by omega), fun j _ _ => z1 _ _ (by omega) (by omega) (by omega), fun j _ _ => z1 _ _ (by omega) (by omega) (by omega), fun j _ _ => z1 _ _ (by omega) (by omega) (by omega), fun e => absurd rfl e, fun e => absurd rfl e, fun e => absurd (z1 _ _ (by omega) (by omega) (by omega)) e, fun e => absurd (z1 _ _ (by omega) (by omega) (by omega)) e⟩
  all_goals rw [hf _ _ (by omega) (by omega)]
  all_goals simp (disch := omega) only [mi9, up_ne, up_same]
  all_goals rfl
end Start3
