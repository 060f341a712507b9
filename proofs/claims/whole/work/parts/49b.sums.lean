/-! sums over 0 .. n - 1 -/
def sumI (f : Int → Int) (n : Int) : Int := foldI (fun v i => v + f i) 0 n
theorem sumI_0 {f : Int → Int} : sumI f 0 = 0 := rfl
theorem sumI_s {f : Int → Int} {n : Int} (h : 0 ≤ n) : sumI f (n + 1) = sumI f n + f n := foldI_s h
theorem sumI_ind {f : Int → Int} {P : Int → Int → Prop} {n : Int} (h0 : P 0 0) (hs : ∀ i x, 0 ≤ i → i < n → P i x → P (i + 1) (x + f i)) (hn : 0 ≤ n) : P n (sumI f n) := foldI_ind h0 hs n hn (Int.le_refl _)
theorem sumI_cong {f g : Int → Int} {n : Int} (hn : 0 ≤ n) (h : ∀ j, 0 ≤ j → j < n → f j = g j) : sumI f n = sumI g n := foldI_cong (fun i x z1 z2 => by rw [h i z1 z2]) n hn (Int.le_refl _)
theorem int_ind {P : Int → Prop} (h0 : P 0) (hs : ∀ i, 0 ≤ i → P i → P (i + 1)) : ∀ n, 0 ≤ n → P n := by
  have key : ∀ k : Nat, P k := by
    intro k
    induction k with
    | zero => exact h0
    | succ k ih => exact hs k (by omega) ih
  intro n hn
  have := key n.toNat
  rw [show ((n.toNat : Nat) : Int) = n by omega] at this
  exact this
theorem sumI_add {f g : Int → Int} {n : Int} (hn : 0 ≤ n) : sumI (fun j => f j + g j) n = sumI f n + sumI g n := by
  refine int_ind (P := fun n => sumI (fun j => f j + g j) n = sumI f n + sumI g n) rfl (fun i h0 ih => ?_) n hn
  rw [sumI_s h0, sumI_s h0, sumI_s h0, ih]
  omega
theorem sumI_mul {f : Int → Int} {c n : Int} (hn : 0 ≤ n) : sumI (fun j => c * f j) n = c * sumI f n := by
  refine int_ind (P := fun n => sumI (fun j => c * f j) n = c * sumI f n) (by rw [sumI_0, sumI_0, Int.mul_zero]) (fun i h0 ih => ?_) n hn
  rw [sumI_s h0, sumI_s h0, ih, Int.mul_add]
theorem sumI_mulr {f : Int → Int} {c n : Int} (hn : 0 ≤ n) : sumI (fun j => f j * c) n = sumI f n * c := by
  rw [sumI_cong hn (g := fun j => c * f j) (fun j _ _ => Int.mul_comm _ _), sumI_mul hn, Int.mul_comm]
theorem sumI_zero {f : Int → Int} {n : Int} (hn : 0 ≤ n) (h : ∀ j, 0 ≤ j → j < n → f j = 0) : sumI f n = 0 := by
  rw [sumI_cong hn h]
  exact int_ind (P := fun n => sumI (fun _ => 0) n = 0) rfl (fun i h0 ih => by rw [sumI_s h0, ih]; rfl) n hn
/-- two that differ at one place alone -/
theorem sumI_one {f g : Int → Int} {n k : Int} (hk : 0 ≤ k ∧ k < n) (h : ∀ j, 0 ≤ j → j < n → j ≠ k → f j = g j) : sumI f n = sumI g n + (f k - g k) := by
  have key : ∀ n, 0 ≤ n → (∀ j, 0 ≤ j → j < n → j ≠ k → f j = g j) → sumI f n = sumI g n + (if k < n then f k - g k else 0) := by
    refine int_ind (fun _ => ?_) (fun i h0 ih h => ?_)
    · rw [if_neg (by omega)]; rfl
    · rw [sumI_s h0, sumI_s h0, ih (fun j z1 z2 z3 => h j z1 (by omega) z3)]
      by_cases e : k = i
      · rw [if_neg (by omega), if_pos (by omega), e]; omega
      · rw [h i h0 (by omega) (fun w => e w.symm)]
        by_cases e2 : k < i
        · rw [if_pos e2, if_pos (by omega)]; omega
        · rw [if_neg e2, if_neg (by omega)]; omega
  have := key n (by omega) h
  rw [if_pos hk.2] at this
  exact this
theorem sumI_single {f : Int → Int} {n k : Int} (hk : 0 ≤ k ∧ k < n) (h : ∀ j, 0 ≤ j → j < n → j ≠ k → f j = 0) : sumI f n = f k := by
  rw [sumI_one (g := fun _ => 0) hk h, sumI_zero (f := fun _ => 0) (by omega) (fun _ _ _ => rfl)]
  omega
theorem sumI_swap {f : Int → Int → Int} {n m : Int} (hn : 0 ≤ n) (hm : 0 ≤ m) : sumI (fun i => sumI (f i) m) n = sumI (fun j => sumI (fun i => f i j) n) m := by
  refine int_ind (P := fun n => sumI (fun i => sumI (f i) m) n = sumI (fun j => sumI (fun i => f i j) n) m) ?_ (fun i h0 ih => ?_) n hn
  · rw [sumI_0]
    exact (sumI_zero hm (fun _ _ _ => rfl)).symm
  · rw [sumI_s h0, ih, ← sumI_add hm]
    exact sumI_cong hm (fun j _ _ => (sumI_s h0).symm)
theorem sumI_nonneg {f : Int → Int} {n : Int} (hn : 0 ≤ n) (h : ∀ j, 0 ≤ j → j < n → 0 ≤ f j) : 0 ≤ sumI f n := sumI_ind (P := fun _ x => 0 ≤ x) (Int.le_refl _) (fun i x z1 z2 hx => by have := h i z1 z2; omega) hn
theorem sumI_le {f : Int → Int} {n c : Int} (hn : 0 ≤ n) (h : ∀ j, 0 ≤ j → j < n → f j ≤ c) : sumI f n ≤ c * n := sumI_ind (P := fun i x => x ≤ c * i) (by omega) (fun i x z1 z2 hx => by have := h i z1 z2; rw [Int.mul_add, Int.mul_one]; omega) hn
/-- sums agree modulo q, where their parts do -/
theorem sumI_emod {f g : Int → Int} {n q : Int} (hn : 0 ≤ n) (h : ∀ j, 0 ≤ j → j < n → f j % q = g j % q) : sumI f n % q = sumI g n % q := by
  have key : ∀ n, 0 ≤ n → (∀ j, 0 ≤ j → j < n → f j % q = g j % q) → sumI f n % q = sumI g n % q := by
    refine int_ind (fun _ => rfl) (fun i h0 ih h => ?_)
    rw [sumI_s h0, sumI_s h0, Int.add_emod, ih (fun j z1 z2 => h j z1 (by omega)), h i h0 (by omega), ← Int.add_emod]
  exact key n hn h
/-- rows in order: f ahead of g -/
def Lx (n : Int) (f g : Int → Int) : Prop := ∃ p, 0 ≤ p ∧ p < n ∧ (∀ j, 0 ≤ j → j < p → f j = g j) ∧ f p < g p
theorem Lx_trans {n : Int} {f g h : Int → Int} (h1 : Lx n f g) (h2 : Lx n g h) : Lx n f h := by
  obtain ⟨p, p0, p1, p2, p3⟩ := h1
  obtain ⟨r, r0, r1, r2, r3⟩ := h2
  rcases Int.lt_trichotomy p r with w | w | w
  · exact ⟨p, p0, p1, fun j z1 z2 => by rw [p2 j z1 z2, r2 j z1 (by omega)], by rw [← r2 p p0 w]; exact p3⟩
  · subst w
    exact ⟨p, p0, p1, fun j z1 z2 => by rw [p2 j z1 z2, r2 j z1 z2], by omega⟩
  · exact ⟨r, r0, r1, fun j z1 z2 => by rw [p2 j z1 (by omega), r2 j z1 z2], by rw [p2 r r0 w]; exact r3⟩
theorem Lx_cong {n : Int} {f g f' g' : Int → Int} (hf : ∀ j, 0 ≤ j → j < n → f j = f' j) (hg : ∀ j, 0 ≤ j → j < n → g j = g' j) (h : Lx n f g) : Lx n f' g' := by
  obtain ⟨p, p0, p1, p2, p3⟩ := h
  exact ⟨p, p0, p1, fun j z1 z2 => by rw [← hf j z1 (by omega), ← hg j z1 (by omega)]; exact p2 j z1 z2, by rw [← hf p p0 p1, ← hg p p0 p1]; exact p3⟩
/-- the best of the rows D by a cost C (-1: not allowed), of like ones the first as a row -/
def BestD (n : Int) (C : (Int → Int) → Int) (D : (Int → Int) → Prop) (least : Int) (best : Int → Int) : Prop :=
  (least = -1 ∧ ∀ x, D x → C x = -1) ∨ (0 ≤ least ∧ (∃ x, D x ∧ ∀ j, 0 ≤ j → j < n → best j = x j) ∧ C best = least ∧ ∀ x, D x → C x = -1 ∨ least < C x ∨ (least = C x ∧ ¬ Lx n x best))
theorem BestD.cong {n least : Int} {C : (Int → Int) → Int} {D : (Int → Int) → Prop} {best best' : Int → Int} (hC : ∀ f g : Int → Int, (∀ j, 0 ≤ j → j < n → f j = g j) → C f = C g) (h : BestD n C D least best) (he : ∀ j, 0 ≤ j → j < n → best' j = best j) : BestD n C D least best' := by
  rcases h with h | ⟨h1, ⟨x, h2, h3⟩, h4, h5⟩
  · exact Or.inl h
  · refine Or.inr ⟨h1, ⟨x, h2, fun j z1 z2 => by rw [he j z1 z2, h3 j z1 z2]⟩, by rw [hC _ _ he, h4], fun y hy => ?_⟩
    rcases h5 y hy with w | w | ⟨w1, w2⟩
    · exact Or.inl w
    · exact Or.inr (Or.inl w)
    · exact Or.inr (Or.inr ⟨w1, fun k => w2 (Lx_cong (fun _ _ _ => rfl) he k)⟩)
theorem BestD.skip {n least : Int} {C : (Int → Int) → Int} {D : (Int → Int) → Prop} {best y : Int → Int} (h : BestD n C D least best) (hy : C y = -1 ∨ (least ≠ -1 ∧ (least < C y ∨ (least = C y ∧ ¬ Lx n y best)))) : BestD n C (fun x => D x ∨ x = y) least best := by
  rcases h with ⟨h1, h2⟩ | ⟨h1, ⟨x, h2, h3⟩, h4, h5⟩
  · refine Or.inl ⟨h1, fun x hx => ?_⟩
    rcases hx with hx | rfl
    · exact h2 x hx
    · rcases hy with w | w
      · exact w
      · exact absurd h1 w.1
  · refine Or.inr ⟨h1, ⟨x, Or.inl h2, h3⟩, h4, fun x hx => ?_⟩
    rcases hx with hx | rfl
    · exact h5 x hx
    · rcases hy with w | ⟨-, w⟩
      · exact Or.inl w
      · exact Or.inr w
theorem BestD.take {n least : Int} {C : (Int → Int) → Int} {D : (Int → Int) → Prop} {best y : Int → Int} (h : BestD n C D least best) (hy : 0 ≤ C y) (hb : least = -1 ∨ C y < least ∨ (C y = least ∧ Lx n y best)) : BestD n C (fun x => D x ∨ x = y) (C y) y := by
  refine Or.inr ⟨hy, ⟨y, Or.inr rfl, fun _ _ _ => rfl⟩, rfl, fun x hx => ?_⟩
  rcases hx with hx | rfl
  · rcases h with ⟨h1, h2⟩ | ⟨h1, -, h4, h5⟩
    · exact Or.inl (h2 x hx)
    · rcases h5 x hx with w | w | ⟨w1, w2⟩
      · exact Or.inl w
      · refine Or.inr (Or.inl ?_)
        omega
      · rcases hb with v | v | ⟨v1, v2⟩
        · omega
        · exact Or.inr (Or.inl (by omega))
        · exact Or.inr (Or.inr ⟨by omega, fun k => w2 (Lx_trans k v2)⟩)
  · refine Or.inr (Or.inr ⟨rfl, fun k => ?_⟩)
    obtain ⟨p, p0, p1, p2, p3⟩ := k
    omega
theorem BestD.eqv {n least : Int} {C : (Int → Int) → Int} {D D' : (Int → Int) → Prop} {best : Int → Int} (hC : ∀ f g : Int → Int, (∀ j, 0 ≤ j → j < n → f j = g j) → C f = C g) (h : BestD n C D least best) (h1 : ∀ x, D x → ∃ y, D' y ∧ ∀ j, 0 ≤ j → j < n → x j = y j) (h2 : ∀ y, D' y → ∃ x, D x ∧ ∀ j, 0 ≤ j → j < n → x j = y j) : BestD n C D' least best := by
  rcases h with ⟨a1, a2⟩ | ⟨a1, ⟨x, a2, a3⟩, a4, a5⟩
  · refine Or.inl ⟨a1, fun y hy => ?_⟩
    obtain ⟨x, x1, x2⟩ := h2 y hy
    rw [← hC x y x2]
    exact a2 x x1
  · obtain ⟨y, y1, y2⟩ := h1 x a2
    refine Or.inr ⟨a1, ⟨y, y1, fun j z1 z2 => by rw [a3 j z1 z2, y2 j z1 z2]⟩, a4, fun y hy => ?_⟩
    obtain ⟨x, x1, x2⟩ := h2 y hy
    rw [← hC x y x2]
    rcases a5 x x1 with w | w | ⟨w1, w2⟩
    · exact Or.inl w
    · exact Or.inr (Or.inl w)
    · exact Or.inr (Or.inr ⟨w1, fun k => w2 (Lx_cong (fun j z1 z2 => (x2 j z1 z2).symm) (fun _ _ _ => rfl) k)⟩)
/-- there is one best -/
theorem BestD.uniq {n a b : Int} {C : (Int → Int) → Int} {D : (Int → Int) → Prop} {f g : Int → Int} (hn : 0 ≤ n) (hC : ∀ f g : Int → Int, (∀ j, 0 ≤ j → j < n → f j = g j) → C f = C g) (h1 : BestD n C D a f) (h2 : BestD n C D b g) : a = b ∧ (a ≠ -1 → ∀ j, 0 ≤ j → j < n → f j = g j) := by
  rcases h1 with ⟨a1, a2⟩ | ⟨a1, ⟨x, a2, a3⟩, a4, a5⟩
  · rcases h2 with ⟨b1, b2⟩ | ⟨b1, ⟨y, b2, b3⟩, b4, b5⟩
    · exact ⟨by omega, fun w => absurd a1 w⟩
    · have := a2 y b2
      rw [← hC g y b3] at this
      omega
  · rcases h2 with ⟨b1, b2⟩ | ⟨b1, ⟨y, b2, b3⟩, b4, b5⟩
    · have := b2 x a2
      rw [← hC f x a3] at this
      omega
    · have e1 := a5 y b2
      have e2 := b5 x a2
      rw [← hC g y b3] at e1
      rw [← hC f x a3] at e2
      have l1 : a = b ∧ ¬ Lx n y f := by
        rcases e1 with w | w | ⟨w1, w2⟩
        · omega
        · rcases e2 with v | v | ⟨v1, v2⟩ <;> omega
        · exact ⟨by omega, w2⟩
      have l2 : ¬ Lx n x g := by
        rcases e2 with w | w | ⟨w1, w2⟩
        · omega
        · omega
        · exact w2
      refine ⟨l1.1, fun _ => ?_⟩
      have k1 : ¬ Lx n g f := fun w => l1.2 (Lx_cong b3 (fun _ _ _ => rfl) w)
      have k2 : ¬ Lx n f g := fun w => l2 (Lx_cong a3 (fun _ _ _ => rfl) w)
      have key : ∀ m, 0 ≤ m → m ≤ n → ∀ j, 0 ≤ j → j < m → f j = g j := by
        refine int_ind (fun _ j z1 z2 => by omega) (fun i h0 ih hm j z1 z2 => ?_)
        have ih2 := ih (by omega)
        by_cases e : j = i
        · subst e
          rcases Int.lt_trichotomy (f j) (g j) with w | w | w
          · exact absurd ⟨j, h0, by omega, ih2, w⟩ k2
          · exact w
          · exact absurd ⟨j, h0, by omega, fun k z1 z2 => (ih2 k z1 z2).symm, w⟩ k1
        · exact ih2 j z1 (by omega)
      exact key n hn (Int.le_refl _)
