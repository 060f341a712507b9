/-! contracts: inverse, Presses, small methods of Wiring and Span -/
/-- the least k from a start on with v * k = 1 modulo q, of n tries; 0: none -/
def invL (v q : Int) : Nat → Int → Int
  | 0, _ => 0
  | n + 1, k => if (v * k) % q = 1 then k else invL v q n (k + 1)
/-- the inverse modulo q -/
def invQ (v q : Int) : Int := invL v q (q - 1).toNat 1
/-- the first place from i on, of n, where f isn't 0; -1: none -/
def ffr (f : Int → Int) : Nat → Int → Int
  | 0, _ => -1
  | n + 1, i => if f i = 0 then ffr f n (i + 1) else i
/-- the first place of n where f isn't 0 -/
def ff (f : Int → Int) (n : Int) : Int := ffr f n.toNat 0
theorem mulR {a b m : Int} (ha : 0 ≤ a ∧ a ≤ m) (hb : 0 ≤ b ∧ b ≤ m) : 0 ≤ a * b ∧ a * b ≤ m * m := ⟨Int.mul_nonneg ha.1 hb.1, Int.mul_le_mul ha.2 hb.2 hb.1 (by omega)⟩
section Small
variable {l : Launch} {G : Gx} {γ μ : Mu}
theorem c_inverse (hl : l.stackTraces = false) (d : Nat) {v q : Int} (hq : 2 ≤ q ∧ q ≤ 5) (hv : 0 ≤ v ∧ v < q) : Cn l G yX8_inverse cX8_inverse 3 (some .int) d 0 [aI v, aI q] γ μ (PI (invQ v q) γ μ) := by
  refine Cn.of2 hl (plainFor_of_name (by decide)) (noLc nlI (noL1 nlI)) rfl (fun o1 o3 X hX hC => B_X8_inverse_0 hC ?_)
  have loop : ∀ (n : Nat) (i : Int), 1 ≤ i → q - i = n → V X G (Qm X G 0 (PI (invL v q n i) γ μ)) 0 2 [aI v, aI q, aI i] [] γ μ := by
    intro n
    induction n with
    | zero =>
      intro i h0 hn
      exact B_X8_inverse_2 hC ⟨fun _ => ⟨Nat.le_refl _, rfl, rfl, rfl⟩, fun w => absurd (by omega) w⟩
    | succ n ih =>
      intro i h0 hn
      have hp := mulR (a := v) (b := i) (m := 5) (by omega) (by omega)
      have et : Int.tmod (v * i) q = (v * i) % q := Int.tmod_eq_emod_of_nonneg hp.1
      refine B_X8_inverse_2 hC ⟨fun w => absurd w (by omega), fun w => ⟨⟨by omega, by omega⟩, by omega, fun w1 => ⟨⟨by omega, by omega⟩, ?_⟩, fun w1 => ⟨Nat.le_refl _, ?_, rfl, rfl⟩⟩⟩
      · rw [et] at w1
        have e : invL v q (n + 1) i = invL v q n (i + 1) := by rw [invL, if_neg w1]
        rw [e]
        exact ih (i + 1) (by omega) (by omega)
      · rw [et] at w1
        rw [invL, if_pos w1]
  have h := loop (q - 1).toNat 1 (by omega) (by omega)
  exact h
/-- Presses at a -/
def PressAt (G : Gx) (γ : Mu) (a : Int) : Prop := shO G a 2 3 ∧ γ a 0 = a + 1 ∧ shO G (a + 1) 11 100
theorem c_prClear (hl : l.stackTraces = false) (d : Nat) {a : Int} (ha : PressAt G γ a) : Cn l G yX2_clear cX2_clear 1 none d 0 [aR a] γ μ (PV γ (up μ a 2 0)) :=
  Cn.of2 hl (plainFor_of_name (by decide)) (noL1 nlR) rfl (fun o1 o3 X hX hC => B_X2_clear_0 hC ha.1 ⟨Nat.le_refl _, rfl, rfl, rfl⟩)
/-- what add leaves behind -/
def prAdd (μ : Mu) (a b : Int) : Mu :=
  let m1 := up (up μ (a + 1) (μ a 1) b) a 1 ((μ a 1 + 1) % 100)
  if 100 ≤ μ a 2 then m1 else up m1 a 2 (μ a 2 + 1)
theorem c_prAdd (hl : l.stackTraces = false) (d : Nat) {a b : Int} (ha : PressAt G γ a) (h1 : 0 ≤ μ a 1 ∧ μ a 1 < 100) (h2 : 0 ≤ μ a 2 ∧ μ a 2 ≤ 100) : Cn l G yX2_add cX2_add 2 none d 0 [aR a, aI b] γ μ (PV γ (prAdd μ a b)) := by
  refine Cn.of2 hl (plainFor_of_name (by decide)) (noLc nlR (noL1 nlI)) rfl (fun o1 o3 X hX hC => B_X2_add_0 hC ha.1 ?_)
  have e : Int.tmod (μ a 1 + 1) 100 = (μ a 1 + 1) % 100 := Int.tmod_eq_emod_of_nonneg (by omega)
  rw [ha.2.1]
  refine ⟨⟨ha.2.2.1, ha.2.2.2.1, by rw [ha.2.2.2.2], by omega, by rw [ha.2.2.2.2]; omega⟩, ⟨by omega, by omega⟩, fun w => ⟨Nat.le_refl _, rfl, rfl, ?_⟩, fun w => ⟨⟨by omega, by omega⟩, Nat.le_refl _, rfl, rfl, ?_⟩⟩
  · unfold prAdd
    rw [if_pos w, e]
  · unfold prAdd
    rw [if_neg w, e]
/-- what removeLatest leaves behind -/
def prRem (μ : Mu) (a : Int) : Mu := if μ a 2 = 0 then μ else up (up μ a 2 (μ a 2 - 1)) a 1 ((μ a 1 + 99) % 100)
theorem c_prRem (hl : l.stackTraces = false) (d : Nat) {a : Int} (ha : PressAt G γ a) (h1 : 0 ≤ μ a 1 ∧ μ a 1 < 100) (h2 : 0 ≤ μ a 2 ∧ μ a 2 ≤ 100) : Cn l G yX2_removeLatest cX2_removeLatest 1 (some .int) d 0 [aR a] γ μ (PM (if μ a 2 = 0 then -1 else μ (a + 1) ((μ a 1 + 99) % 100)) γ (prRem μ a)) := by
  refine Cn.of2 hl (plainFor_of_name (by decide)) (noL1 nlR) rfl (fun o1 o3 X hX hC => B_X2_removeLatest_0 hC ha.1 ⟨fun w => ?_, fun w => ⟨Nat.le_refl _, by rw [if_pos w], rfl, by unfold prRem; rw [if_pos w]⟩⟩)
  have e : Int.tmod (μ a 1 + 100 - 1) 100 = (μ a 1 + 99) % 100 := by rw [Int.tmod_eq_emod_of_nonneg (by omega)]; congr 1; omega
  rw [ha.2.1, e]
  refine ⟨⟨by omega, by omega⟩, ⟨by omega, by omega⟩, ⟨by omega, by omega⟩, ⟨ha.2.2.1, ha.2.2.2.1, by rw [ha.2.2.2.2], by omega, by rw [ha.2.2.2.2]; omega⟩, Nat.le_refl _, ?_, rfl, ?_⟩
  · rw [if_neg w]
  · unfold prRem
    rw [if_neg w]
/-- Wiring at a -/
def WirAt (G : Gx) (γ : Mu) (a : Int) : Prop := shO G a 7 9 ∧ γ a 5 = a + 1 ∧ shO G (a + 1) 14 36 ∧ γ a 6 = a + 38 ∧ shO G (a + 38) 13 36 ∧ γ a 7 = a + 39 ∧ shO G (a + 39) 11 6 ∧ γ a 8 = a + 40 ∧ shO G (a + 40) 14 36 ∧
  ∀ i, 0 ≤ i → i < 36 → (γ (a + 1) i = a + 2 + i ∧ shO G (a + 2 + i) 11 36) ∧ γ (a + 40) i = a + 41 + i ∧ shO G (a + 41 + i) 11 36
theorem c_isNet (hl : l.stackTraces = false) (d : Nat) {a : Int} (ha : WirAt G γ a) : Cn l G yX7_isNet cX7_isNet 1 (some .boolean) d 0 [aR a] γ μ (PI (if μ a 4 = -1 then 1 else 0) γ μ) := by
  refine Cn.of2 hl (plainFor_of_name (by decide)) (noL1 nlR) rfl (fun o1 o3 X hX hC => B_X7_isNet_0 hC ha.1 ⟨fun w => ⟨Nat.le_refl _, ?_, rfl, rfl⟩, fun w => ⟨Nat.le_refl _, ?_, rfl, rfl⟩⟩)
  · rw [if_neg w]
  · rw [if_pos w]
/-- how many of the first n places of f aren't 0 -/
def cntL (f : Int → Int) : Nat → Int
  | 0 => 0
  | n + 1 => cntL f n + (if f n = 0 then 0 else 1)
theorem cntL_le (f : Int → Int) : ∀ n : Nat, 0 ≤ cntL f n ∧ cntL f n ≤ n
  | 0 => by simp [cntL]
  | n + 1 => by
    have := cntL_le f n
    unfold cntL
    split <;> omega
theorem c_jammedCount (hl : l.stackTraces = false) (d : Nat) {a : Int} (ha : WirAt G γ a) (hn : 0 ≤ μ a 0 ∧ μ a 0 ≤ 36) : Cn l G yX7_jammedCount cX7_jammedCount 3 (some .int) d 0 [aR a] γ μ (PI (cntL (μ (a + 38)) (μ a 0).toNat) γ μ) := by
  refine Cn.of2 hl (plainFor_of_name (by decide)) (noL1 nlR) rfl (fun o1 o3 X hX hC => B_X7_jammedCount_0 hC ha.1 ?_)
  have loop : ∀ (n : Nat) (i : Nat), μ a 0 - i = n → V X G (Qm X G 0 (PI (cntL (μ (a + 38)) (μ a 0).toNat) γ μ)) 0 4 [aR a, aI (cntL (μ (a + 38)) i), aI i] [] γ μ := by
    intro n
    induction n with
    | zero =>
      intro i hn2
      have e : (μ a 0).toNat = i := by omega
      exact B_X7_jammedCount_4 hC ha.1 ⟨fun _ => ⟨Nat.le_refl _, by rw [e], rfl, rfl⟩, fun w => absurd (by omega) w⟩
    | succ n ih =>
      intro i hn2
      have hc := cntL_le (μ (a + 38)) i
      refine B_X7_jammedCount_4 hC ha.1 ⟨fun w => absurd w (by omega), fun w => ?_⟩
      rw [ha.2.2.2.1]
      have h38 := ha.2.2.2.2.1
      refine ⟨⟨h38.1, h38.2.1, by rw [h38.2.2], by omega, by rw [h38.2.2]; omega⟩, fun w1 => ⟨⟨by omega, by omega⟩, ?_⟩, fun w1 => ⟨⟨by omega, by omega⟩, ⟨by omega, by omega⟩, ?_⟩⟩
      · have h := ih (i + 1) (by omega)
        rw [show cntL (μ (a + 38)) (i + 1) = cntL (μ (a + 38)) i by rw [cntL, if_pos w1, Int.add_zero]] at h
        exact h
      · have h := ih (i + 1) (by omega)
        rw [show cntL (μ (a + 38)) (i + 1) = cntL (μ (a + 38)) i + 1 by rw [cntL, if_neg w1]] at h
        exact h
  exact loop (μ a 0).toNat 0 (by omega)
end Small
