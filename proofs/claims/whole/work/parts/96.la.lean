/-! sums modulo a prime: congruences, combinations, systems with more unknowns than equations -/
abbrev cg (q a b : Int) : Prop := a % q = b % q
theorem cg_add {q a b c d : Int} (h1 : cg q a b) (h2 : cg q c d) : cg q (a + c) (b + d) := by
  show (a + c) % q = (b + d) % q
  rw [Int.add_emod, h1, h2, ← Int.add_emod]
theorem cg_sub {q a b c d : Int} (h1 : cg q a b) (h2 : cg q c d) : cg q (a - c) (b - d) := by
  show (a - c) % q = (b - d) % q
  rw [Int.sub_emod, h1, h2, ← Int.sub_emod]
theorem cg_mul {q a b c d : Int} (h1 : cg q a b) (h2 : cg q c d) : cg q (a * c) (b * d) := by
  show (a * c) % q = (b * d) % q
  rw [Int.mul_emod, h1, h2, ← Int.mul_emod]
theorem cg_mod {q a : Int} : cg q (a % q) a := Int.emod_emod a q
theorem cg_neg {q a b : Int} (h : cg q a b) : cg q (-a) (-b) := by
  have := cg_sub (q := q) (a := 0) (b := 0) rfl h
  rw [Int.zero_sub, Int.zero_sub] at this
  exact this
theorem cg_q {q a b : Int} : cg q (a + q * b) a := Int.add_mul_emod_self_left a q b
theorem cg_eq {q a b : Int} (h : cg q a b) (ha : 0 ≤ a ∧ a < q) (hb : 0 ≤ b ∧ b < q) : a = b := by
  have h' : a % q = b % q := h
  rw [Int.emod_eq_of_lt ha.1 ha.2, Int.emod_eq_of_lt hb.1 hb.2] at h'
  exact h'
theorem cg_z {q a : Int} (h : cg q a 0) (ha : 0 ≤ a ∧ a < q) : a = 0 := cg_eq h ha ⟨Int.le_refl _, by omega⟩
theorem cg_sum {q n : Int} {f g : Int → Int} (hn : 0 ≤ n) (h : ∀ j, 0 ≤ j → j < n → cg q (f j) (g j)) : cg q (sumI f n) (sumI g n) := sumI_emod hn h
theorem cg_sum0 {q n : Int} {f : Int → Int} (hn : 0 ≤ n) (h : ∀ j, 0 ≤ j → j < n → cg q (f j) 0) : cg q (sumI f n) 0 := by
  have := cg_sum (g := fun _ => 0) hn h
  rw [sumI_zero (f := fun _ => 0) hn (fun _ _ _ => rfl)] at this
  exact this
theorem cg_01 {q : Int} (hq : 2 ≤ q) : ¬ cg q 1 0 := by
  intro h
  have h' : (1 : Int) % q = 0 % q := h
  rw [Int.emod_eq_of_lt (by omega) (by omega), Int.zero_emod] at h'
  omega
theorem cg_prime {q a b : Int} (hq : qP q) (h : cg q (a * b) 0) : cg q a 0 ∨ cg q b 0 := by
  have h' : (a * b) % q = 0 % q := h
  rw [Int.mul_emod, Int.zero_emod] at h'
  have hb := hq.b
  have a0 := Int.emod_nonneg a (show q ≠ 0 by omega)
  have a1 := Int.emod_lt_of_pos a (show 0 < q by omega)
  have b0 := Int.emod_nonneg b (show q ≠ 0 by omega)
  have b1 := Int.emod_lt_of_pos b (show 0 < q by omega)
  show a % q = 0 % q ∨ b % q = 0 % q
  rw [Int.zero_emod]
  generalize a % q = x at *
  generalize b % q = y at *
  rcases hq with rfl | rfl | rfl
  · rcases (show x = 0 ∨ x = 1 by omega) with rfl | rfl <;> rcases (show y = 0 ∨ y = 1 by omega) with rfl | rfl <;> first | exact Or.inl rfl | exact Or.inr rfl | exact absurd h' (by decide)
  · rcases (show x = 0 ∨ x = 1 ∨ x = 2 by omega) with rfl | rfl | rfl <;> rcases (show y = 0 ∨ y = 1 ∨ y = 2 by omega) with rfl | rfl | rfl <;> first | exact Or.inl rfl | exact Or.inr rfl | exact absurd h' (by decide)
  · rcases (show x = 0 ∨ x = 1 ∨ x = 2 ∨ x = 3 ∨ x = 4 by omega) with rfl | rfl | rfl | rfl | rfl <;> rcases (show y = 0 ∨ y = 1 ∨ y = 2 ∨ y = 3 ∨ y = 4 by omega) with rfl | rfl | rfl | rfl | rfl <;> first | exact Or.inl rfl | exact Or.inr rfl | exact absurd h' (by decide)
theorem inv_ok {q v : Int} (hq : qP q) (hv : 0 ≤ v ∧ v < q) (h0 : v ≠ 0) : (v * invQ v q) % q = 1 := by
  rcases hq with rfl | rfl | rfl
  · rcases (show v = 1 by omega) with rfl <;> decide
  · rcases (show v = 1 ∨ v = 2 by omega) with rfl | rfl <;> decide
  · rcases (show v = 1 ∨ v = 2 ∨ v = 3 ∨ v = 4 by omega) with rfl | rfl | rfl | rfl <;> decide
/-- every number that isn't 0 has an inverse -/
theorem cg_inv {q a : Int} (hq : qP q) (h : ¬ cg q a 0) : ∃ b, cg q (a * b) 1 := by
  have hb := hq.b
  have a0 := Int.emod_nonneg a (show q ≠ 0 by omega)
  have a1 := Int.emod_lt_of_pos a (show 0 < q by omega)
  have hi := inv_ok hq ⟨a0, a1⟩ (fun w => h (by show a % q = 0 % q; rw [Int.zero_emod]; exact w))
  refine ⟨invQ (a % q) q, ?_⟩
  have h1 : cg q (a * invQ (a % q) q) (a % q * invQ (a % q) q) := cg_mul cg_mod.symm rfl
  refine Eq.trans h1 ?_
  show (a % q * invQ (a % q) q) % q = 1 % q
  rw [hi, Int.emod_eq_of_lt (by omega) (by omega)]
def LC (n : Int) (vec : Int → Int → Int) (a : Int → Int) (j : Int) : Int := sumI (fun k => a k * vec k j) n
theorem LC_cg {q n : Int} {vec : Int → Int → Int} {a b : Int → Int} {j : Int} (hn : 0 ≤ n) (h : ∀ k, 0 ≤ k → k < n → cg q (a k) (b k)) : cg q (LC n vec a j) (LC n vec b j) := cg_sum hn (fun k z1 z2 => cg_mul (h k z1 z2) rfl)
theorem LC_add {n : Int} {vec : Int → Int → Int} {a b : Int → Int} {j : Int} (hn : 0 ≤ n) : LC n vec (fun k => a k + b k) j = LC n vec a j + LC n vec b j := by
  unfold LC
  rw [← sumI_add hn]
  exact sumI_cong hn (fun k _ _ => Int.add_mul _ _ _)
theorem LC_mul {n c : Int} {vec : Int → Int → Int} {a : Int → Int} {j : Int} (hn : 0 ≤ n) : LC n vec (fun k => c * a k) j = c * LC n vec a j := by
  unfold LC
  rw [← sumI_mul hn]
  exact sumI_cong hn (fun k _ _ => Int.mul_assoc _ _ _)
theorem LC_sum {n c : Int} {vec m : Int → Int → Int} {b : Int → Int} {j : Int} (hn : 0 ≤ n) (hc : 0 ≤ c) : LC n vec (fun k => sumI (fun i => b i * m i k) c) j = sumI (fun i => b i * LC n vec (m i) j) c := by
  unfold LC
  rw [sumI_cong (g := fun k => sumI (fun i => b i * (m i k * vec k j)) c) hn (fun k _ _ => by
    rw [← sumI_mulr hc]
    exact sumI_cong hc (fun i _ _ => Int.mul_assoc _ _ _)), sumI_swap hn hc]
  exact sumI_cong hc (fun i _ _ => sumI_mul hn)
theorem LC_unit {n id : Int} {vec : Int → Int → Int} {j : Int} (h : 0 ≤ id ∧ id < n) : LC n vec (unitV id) j = vec id j := by
  unfold LC
  rw [sumI_single (k := id) h (fun k _ _ z => by unfold unitV; rw [if_neg z, Int.zero_mul])]
  unfold unitV
  rw [if_pos rfl, Int.one_mul]
theorem sumI_skip {g : Int → Int} {p : Int} (hp : 0 ≤ p) : ∀ N : Nat, p ≤ N → sumI g ((N : Int) + 1) = sumI (fun c => g (if c < p then c else c + 1)) N + g p
  | 0, h => by
    obtain rfl : p = 0 := by omega
    rw [sumI_s (by omega)]
    rfl
  | N + 1, h => by
    by_cases e : p = ((N + 1 : Nat) : Int)
    · rw [sumI_s (by omega), ← e]
      rw [sumI_cong (f := g) (g := fun c => g (if c < p then c else c + 1)) hp (fun c z1 z2 => by rw [if_pos z2])]
    · have ih := sumI_skip (g := g) hp N (by omega)
      rw [sumI_s (by omega), show ((N + 1 : Nat) : Int) = (N : Int) + 1 by omega, ih, sumI_s (by omega), if_neg (by omega)]
      omega
/-- more unknowns than equations -/
theorem hom_sys {q : Int} (hq : qP q) : ∀ (m : Nat) (M : Int → Int → Int), ∃ y : Int → Int, (∃ c : Int, 0 ≤ c ∧ c < (m : Int) + 1 ∧ ¬ cg q (y c) 0) ∧ ∀ r : Int, 0 ≤ r → r < m → cg q (sumI (fun c => M r c * y c) ((m : Int) + 1)) 0
  | 0, M => ⟨fun _ => 1, ⟨0, by omega, by omega, cg_01 hq.b.1⟩, fun r z1 z2 => by omega⟩
  | m + 1, M => by
    have em : ((m + 1 : Nat) : Int) = (m : Int) + 1 := by omega
    by_cases h : ∃ p : Int, 0 ≤ p ∧ p < (m : Int) + 1 + 1 ∧ ¬ cg q (M m p) 0
    · obtain ⟨p, p0, p1, p2⟩ := h
      obtain ⟨v, hv⟩ := cg_inv hq p2
      obtain ⟨y, ⟨c, c0, c1, c2⟩, hy⟩ := hom_sys hq m (fun r c => M r (if c < p then c else c + 1) - M r p * v * M m (if c < p then c else c + 1))
      generalize hT : sumI (fun c => M m (if c < p then c else c + 1) * y c) ((m : Int) + 1) = T
      let Y : Int → Int := fun c => if c = p then -(v * T) else y (if c < p then c else c - 1)
      have Yp : Y p = -(v * T) := if_pos rfl
      have Ys : ∀ c, Y (if c < p then c else c + 1) = y c := fun c => by
        by_cases w : c < p
        · rw [if_pos w]
          show (if c = p then _ else y (if c < p then c else c - 1)) = y c
          rw [if_neg (by omega), if_pos w]
        · rw [if_neg w]
          show (if c + 1 = p then _ else y (if c + 1 < p then c + 1 else c + 1 - 1)) = y c
          rw [if_neg (by omega), if_neg (by omega), show c + 1 - 1 = c by omega]
      have split : ∀ r : Int, sumI (fun c => M r c * Y c) ((m : Int) + 1 + 1) = sumI (fun c => M r (if c < p then c else c + 1) * y c) ((m : Int) + 1) - M r p * (v * T) := fun r => by
        have := sumI_skip (g := fun c => M r c * Y c) p0 (m + 1) (by omega)
        rw [em] at this
        rw [this, Yp, Int.mul_neg, sumI_cong (g := fun c => M r (if c < p then c else c + 1) * y c) (by omega) (fun c _ _ => by rw [Ys])]
        omega
      refine ⟨Y, ⟨if c < p then c else c + 1, by split <;> omega, by rw [em]; split <;> omega, by rw [Ys]; exact c2⟩, fun r z1 z2 => ?_⟩
      rw [em, split r]
      by_cases e : r = m
      · rw [e, hT]
        have h1 : cg q (M m p * (v * T)) (1 * T) := by
          rw [← Int.mul_assoc]
          exact cg_mul hv rfl
        have := cg_sub (q := q) (a := T) (b := T) rfl h1
        rw [Int.one_mul, Int.sub_self] at this
        exact this
      · have h1 := hy r z1 (by omega)
        have h2 : sumI (fun c => (M r (if c < p then c else c + 1) - M r p * v * M m (if c < p then c else c + 1)) * y c) ((m : Int) + 1) = sumI (fun c => M r (if c < p then c else c + 1) * y c) ((m : Int) + 1) - M r p * (v * T) := by
          rw [← hT, ← Int.mul_assoc, ← sumI_mul (by omega)]
          rw [sumI_cong (f := fun c => (M r (if c < p then c else c + 1) - M r p * v * M m (if c < p then c else c + 1)) * y c) (g := fun c => M r (if c < p then c else c + 1) * y c + (-1) * (M r p * v * (M m (if c < p then c else c + 1) * y c))) (by omega) (fun c _ _ => by rw [Int.sub_mul, Int.mul_assoc (M r p * v)]; omega), sumI_add (by omega), sumI_mul (by omega)]
          omega
        rw [← h2]
        exact h1
    · have hz : ∀ p : Int, 0 ≤ p → p < (m : Int) + 1 + 1 → cg q (M m p) 0 := fun p z1 z2 => Decidable.byContradiction (fun w => h ⟨p, z1, z2, w⟩)
      obtain ⟨y, ⟨c, c0, c1, c2⟩, hy⟩ := hom_sys hq m M
      let Y : Int → Int := fun c => if c < (m : Int) + 1 then y c else 0
      have Y1 : ∀ c, c < (m : Int) + 1 → Y c = y c := fun c z => if_pos z
      have Y2 : Y ((m : Int) + 1) = 0 := if_neg (by omega)
      refine ⟨Y, ⟨c, c0, by omega, by rw [Y1 c c1]; exact c2⟩, fun r z1 z2 => ?_⟩
      rw [em]
      by_cases e : r = m
      · refine cg_sum0 (by omega) (fun c z3 z4 => ?_)
        rw [e]
        have := cg_mul (c := Y c) (d := Y c) (hz c z3 z4) rfl
        rw [Int.zero_mul] at this
        exact this
      · rw [sumI_s (by omega), Y2, Int.mul_zero, Int.add_zero, sumI_cong (g := fun c => M r c * y c) (by omega) (fun c z3 z4 => by rw [Y1 c z4])]
        exact hy r z1 (by omega)
/-- so many vectors that don't depend on each other, made of so many others -/
theorem dim_le {q n : Int} (hq : qP q) {a b : Nat} {v w C : Int → Int → Int} (hi : ∀ y : Int → Int, (∀ j, 0 ≤ j → j < n → cg q (sumI (fun i => y i * v i j) a) 0) → ∀ i : Int, 0 ≤ i → i < a → cg q (y i) 0) (hs : ∀ i : Int, 0 ≤ i → i < a → ∀ j, 0 ≤ j → j < n → cg q (v i j) (sumI (fun r => C i r * w r j) b)) : a ≤ b := by
  rcases Nat.lt_or_ge b a with hlt | h
  · exfalso
    obtain ⟨y, ⟨c, c0, c1, c2⟩, hy⟩ := hom_sys hq b (fun r c => C c r)
    let Y : Int → Int := fun c => if c < (b : Int) + 1 then y c else 0
    have Y1 : ∀ c, c < (b : Int) + 1 → Y c = y c := fun c z => if_pos z
    have Y2 : ∀ c, (b : Int) + 1 ≤ c → Y c = 0 := fun c z => if_neg (by omega)
    refine c2 ?_
    rw [← Y1 c c1]
    refine hi Y (fun j j0 j1 => ?_) c c0 (by omega)
    have e1 : sumI (fun i => Y i * v i j) a = sumI (fun i => Y i * v i j) ((b : Int) + 1) := by
      obtain ⟨e, he⟩ : ∃ e : Nat, (a : Int) = (b : Int) + 1 + e := ⟨a - b - 1, by omega⟩
      rw [he]
      clear he
      induction e with
      | zero => rw [show (b : Int) + 1 + ((0 : Nat) : Int) = (b : Int) + 1 by omega]
      | succ e ih => rw [show (b : Int) + 1 + ((e + 1 : Nat) : Int) = (b : Int) + 1 + e + 1 by omega, sumI_s (by omega), ih, Y2 _ (by omega), Int.zero_mul, Int.add_zero]
    rw [e1]
    have e2 : cg q (sumI (fun i => Y i * v i j) ((b : Int) + 1)) (sumI (fun i => sumI (fun r => (C i r * y i) * w r j) b) ((b : Int) + 1)) := cg_sum (by omega) (fun i z1 z2 => by
      have h1 := cg_mul (q := q) (a := Y i) (b := y i) (by rw [Y1 i z2]) (hs i z1 (by omega) j j0 j1)
      have h2 : y i * sumI (fun r => C i r * w r j) b = sumI (fun r => (C i r * y i) * w r j) b := by
        rw [← sumI_mul (by omega)]
        exact sumI_cong (by omega) (fun r _ _ => by rw [← Int.mul_assoc, Int.mul_comm (y i)])
      rw [h2] at h1
      exact h1)
    refine Eq.trans e2 ?_
    rw [sumI_swap (by omega) (by omega)]
    refine cg_sum0 (by omega) (fun r z1 z2 => ?_)
    rw [sumI_mulr (by omega)]
    have := cg_mul (c := w r j) (d := w r j) (hy r z1 z2) rfl
    rw [Int.zero_mul] at this
    exact this
  · exact h
