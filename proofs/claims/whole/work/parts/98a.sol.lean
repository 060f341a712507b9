/-! solutions, what is quiet, ranks -/
def Sol (n q : Int) (vec : Int → Int → Int) (Ad : Int → Prop) (f y : Int → Int) : Prop := (∀ k, 0 ≤ k → k < n → ¬ Ad k → y k = 0) ∧ inQ n q y ∧ ∀ j, 0 ≤ j → j < n → cg q (LC n vec y j) (f j)
section LaSol
variable {n q : Int} {vec : Int → Int → Int} {Rb : Int → Int → Prop} {S : GS} {Ad : Int → Prop}
theorem GInv.tvtd (h : GInv n q vec Rb S Ad) {i i' : Int} (h0 : 0 ≤ i) (h1 : i < S.tc) (h0' : 0 ≤ i') (h1' : i' < S.tc) : S.tv i (S.td i') = if i = i' then 1 else 0 := by
  obtain ⟨-, -, -, -, h5, h6, -⟩ := h
  by_cases e : i = i'
  · rw [if_pos e, ← e]
    exact (h5 i h0 h1).2.2.2.1
  · rw [if_neg e]
    obtain ⟨w1, -⟩ := h5 i' h0' h1'
    refine (h5 i h0 h1).2.2.2.2 _ w1.2.1.1 w1.2.1.2 (fun w => ?_) (fun w => w1.2.2 w.1)
    rcases Int.lt_trichotomy i i' with w2 | w2 | w2
    · exact h6 i i' h0 w2 h1' w.symm
    · exact e w2
    · exact h6 i' i h0' w2 h1 w
theorem GInv.ownAd (h : GInv n q vec Rb S Ad) {k : Int} (hk : OwnD S k) : Ad k := by
  obtain ⟨i, i0, i1, i2⟩ := hk
  rw [← i2]
  exact (h.1 i i0 i1).1.1
theorem GInv.tv0 (h : GInv n q vec Rb S Ad) {i k : Int} (h0 : 0 ≤ i) (h1 : i < S.tc) (k0 : 0 ≤ k) (k1 : k < n) (hk : ¬ Ad k) : S.tv i k = 0 := by
  obtain ⟨w1, -, -, -, w5⟩ := h.2.2.2.2.1 i h0 h1
  exact w5 k k0 k1 (fun e => hk (by rw [e]; exact w1.1)) (fun w => hk (h.ownAd w.1))
/-- what changes nothing is made of the tied ones -/
theorem GInv.ker (h : GInv n q vec Rb S Ad) (hn : 0 ≤ n) {z : Int → Int} (hz : ∀ k, 0 ≤ k → k < n → ¬ Ad k → cg q (z k) 0) (hL : ∀ j, 0 ≤ j → j < n → cg q (LC n vec z j) 0) : ∀ k, 0 ≤ k → k < n → cg q (z k) (sumI (fun i => z (S.td i) * S.tv i k) S.tc) := by
  obtain ⟨h1, h2, h3, h4, h5, h6, h7⟩ := id h
  have key := h4 (fun k => z k - sumI (fun i => z (S.td i) * S.tv i k) S.tc) (fun k k0 k1 k2 => ?_) (fun j j0 j1 => ?_)
  · intro k k0 k1
    have := cg_add (key k k0 k1) (rfl : cg q (sumI (fun i => z (S.td i) * S.tv i k) S.tc) (sumI (fun i => z (S.td i) * S.tv i k) S.tc))
    rw [show z k - sumI (fun i => z (S.td i) * S.tv i k) S.tc + sumI (fun i => z (S.td i) * S.tv i k) S.tc = z k by omega, Int.zero_add] at this
    exact this
  · show cg q (z k - sumI (fun i => z (S.td i) * S.tv i k) S.tc) 0
    by_cases w : Ad k
    · rcases h7 k w with w2 | ⟨i0, i1, i2, i3⟩
      · exact absurd w2 k2
      · rw [sumI_single (k := i0) ⟨i1, i2⟩ (fun i z1 z2 z3 => by rw [← i3, h.tvtd z1 z2 i1 i2, if_neg z3, Int.mul_zero]), ← i3, h.tvtd i1 i2 i1 i2, if_pos rfl, Int.mul_one, Int.sub_self]
    · rw [sumI_zero (by omega) (fun i z1 z2 => by rw [h.tv0 z1 z2 k0 k1 w, Int.mul_zero]), Int.sub_zero]
      exact hz k k0 k1 w
  · have e0 : LC n vec (fun k => z k - sumI (fun i => z (S.td i) * S.tv i k) S.tc) j = LC n vec z j + (-1) * sumI (fun i => z (S.td i) * LC n vec (S.tv i) j) S.tc := by
      rw [← LC_sum hn (by omega), ← LC_mul hn, ← LC_add hn]
      unfold LC
      exact sumI_cong hn (fun k _ _ => by show (z k - sumI (fun i => z (S.td i) * S.tv i k) S.tc) * vec k j = (z k + (-1) * sumI (fun i => z (S.td i) * S.tv i k) S.tc) * vec k j; congr 1; omega)
    rw [e0]
    have e1 : cg q (sumI (fun i => z (S.td i) * LC n vec (S.tv i) j) S.tc) 0 := cg_sum0 (by omega) (fun i z1 z2 => by
      have := cg_mul (q := q) (a := z (S.td i)) (b := z (S.td i)) rfl ((h5 i z1 z2).2.2.1 j j0 j1)
      rw [Int.mul_zero] at this
      exact this)
    have := cg_add (hL j j0 j1) (cg_mul (q := q) (a := -1) (b := -1) rfl e1)
    rw [Int.mul_zero, Int.zero_add] at this
    exact this
theorem GInv.sol_mix (h : GInv n q vec Rb S Ad) (hq : 2 ≤ q) (hn : 0 ≤ n) {f x0 d : Int → Int} (h0 : Sol n q vec Ad f x0) : Sol n q vec Ad f (mixI q S x0 d) := by
  refine ⟨fun k k0 k1 k2 => ?_, mixI_in (by omega), fun j j0 j1 => ?_⟩
  · unfold mixI
    rw [h0.1 k k0 k1 k2, sumI_zero (by omega) (fun i z1 z2 => by rw [h.tv0 z1 z2 k0 k1 k2, Int.mul_zero]), Int.add_zero, Int.zero_emod]
  · have e1 : cg q (LC n vec (mixI q S x0 d) j) (LC n vec (fun k => x0 k + sumI (fun i => d i * S.tv i k) S.tc) j) := LC_cg hn (fun k _ _ => cg_mod)
    refine e1.trans ?_
    rw [LC_add hn, LC_sum hn (by omega)]
    have e2 : cg q (sumI (fun i => d i * LC n vec (S.tv i) j) S.tc) 0 := cg_sum0 (by omega) (fun i z1 z2 => by
      have := cg_mul (q := q) (a := d i) (b := d i) rfl ((h.2.2.2.2.1 i z1 z2).2.2.1 j j0 j1)
      rw [Int.mul_zero] at this
      exact this)
    have := cg_add (h0.2.2 j j0 j1) e2
    rw [Int.add_zero] at this
    exact this
theorem GInv.mix_sol (h : GInv n q vec Rb S Ad) (hq : 2 ≤ q) (hn : 0 ≤ n) {f x0 y : Int → Int} (h0 : Sol n q vec Ad f x0) (hy : Sol n q vec Ad f y) : ∃ d, dgs q S.tc d ∧ ∀ k, 0 ≤ k → k < n → y k = mixI q S x0 d k := by
  have hk := h.ker hn (z := fun k => y k - x0 k) (fun k k0 k1 k2 => by show cg q (y k - x0 k) 0; rw [hy.1 k k0 k1 k2, h0.1 k k0 k1 k2]; rfl) (fun j j0 j1 => by
    have e0 : LC n vec (fun k => y k - x0 k) j = LC n vec y j + (-1) * LC n vec x0 j := by
      rw [← LC_mul hn, ← LC_add hn]
      unfold LC
      exact sumI_cong hn (fun k _ _ => by show (y k - x0 k) * vec k j = (y k + (-1) * x0 k) * vec k j; congr 1; omega)
    rw [e0]
    have := cg_add (hy.2.2 j j0 j1) (cg_mul (q := q) (a := -1) (b := -1) rfl (h0.2.2 j j0 j1))
    rw [show f j + -1 * f j = 0 by omega] at this
    exact this)
  refine ⟨fun i => (y (S.td i) - x0 (S.td i)) % q, fun i _ _ => ⟨Int.emod_nonneg _ (by omega), Int.emod_lt_of_pos _ (by omega)⟩, fun k k0 k1 => ?_⟩
  refine cg_eq ?_ (hy.2.1 k k0 k1) (mixI_in (n := n) (by omega) k k0 k1)
  refine Eq.trans ?_ cg_mod.symm
  have e1 : cg q (sumI (fun i => (y (S.td i) - x0 (S.td i)) * S.tv i k) S.tc) (sumI (fun i => (y (S.td i) - x0 (S.td i)) % q * S.tv i k) S.tc) := cg_sum (by omega) (fun i _ _ => cg_mul cg_mod.symm rfl)
  have := cg_add (q := q) (a := x0 k) (b := x0 k) rfl ((hk k k0 k1).trans e1)
  rw [show x0 k + (y k - x0 k) = y k by omega] at this
  exact this
/-- whether a vector is made of those let in, and by what numbers -/
theorem GInv.lead (h : GInv n q vec Rb S Ad) (hq : 2 ≤ q) (hn : 0 ≤ n) {f : Int → Int} (hf : inQ n q f) : (ff (gv q S.op S.ov S.om S.c f (fun _ => 0)).1 n = -1 → Sol n q vec Ad f (fun k => (q - (gv q S.op S.ov S.om S.c f (fun _ => 0)).2 k) % q) ∧ ∀ k, 0 ≤ k → k < n → ¬ OwnD S k → (q - (gv q S.op S.ov S.om S.c f (fun _ => 0)).2 k) % q = 0) ∧ ((∃ y : Int → Int, (∀ k, 0 ≤ k → k < n → ¬ Ad k → cg q (y k) 0) ∧ ∀ j, 0 ≤ j → j < n → cg q (LC n vec y j) (f j)) → ff (gv q S.op S.ov S.om S.c f (fun _ => 0)).1 n = -1) := by
  obtain ⟨h1, h2, h3, h4, h5, h6, h7⟩ := id h
  have hop : ∀ i : Int, 0 ≤ i → i < S.c → 0 ≤ S.op i ∧ S.op i < n := fun i z1 z2 => (h1 i z1 z2).2.1
  have ho1 : ∀ i : Int, 0 ≤ i → i < S.c → S.ov i (S.op i) = 1 := fun i z1 z2 => (h1 i z1 z2).2.2.2.2.1
  have h0q : inQ n q (fun _ => 0) := fun j _ _ => ⟨Int.le_refl _, by show (0 : Int) < q; omega⟩
  obtain ⟨a, a1, a2, a3⟩ := gv_spec (om := S.om) hq hop ho1 h2 hf h0q S.c (Nat.le_refl _)
  have hin := gv_in (n := n) (op := S.op) (ov := S.ov) (om := S.om) (show 0 < q by omega) hf h0q S.c
  generalize gv q S.op S.ov S.om S.c f (fun _ => 0) = y at *
  have sup : ∀ k, 0 ≤ k → k < n → ¬ OwnD S k → (q - y.2 k) % q = 0 := fun k z1 z2 z4 => by
    have : y.2 k = 0 := by
      refine cg_z ((a2 k z1 z2).trans ?_) (hin.2 k z1 z2)
      rw [Int.zero_add]
      exact cg_sum0 (by omega) (fun i z5 z6 => by rw [(h1 i z5 z6).2.2.2.2.2.2 k z1 z2 z4, Int.mul_zero])
    rw [this, Int.sub_zero, Int.emod_self]
  have LH : ∀ j, 0 ≤ j → j < n → cg q (LC n vec y.2 j) (sumI (fun k => a k * S.ov k j) S.c) := fun j z1 z2 => by
    have e1 : cg q (LC n vec y.2 j) (LC n vec (fun k => sumI (fun i => a i * S.om i k) S.c) j) := LC_cg hn (fun k z3 z4 => by have := a2 k z3 z4; rw [Int.zero_add] at this; exact this)
    refine e1.trans ?_
    rw [LC_sum hn (by omega)]
    exact cg_sum (by omega) (fun i z3 z4 => cg_mul rfl ((h1 i z3 z4).2.2.2.2.2.1 j z1 z2).symm)
  constructor
  · intro hw
    have Fz : ∀ j, 0 ≤ j → j < n → y.1 j = 0 := by
      rcases ff_range (f := y.1) hn with w | ⟨w, -⟩
      · exact w.2
      · omega
    refine ⟨⟨fun k k0 k1 k2 => sup k k0 k1 (fun w => k2 (h.ownAd w)), fun k _ _ => ⟨Int.emod_nonneg _ (by omega), Int.emod_lt_of_pos _ (by omega)⟩, fun j j0 j1 => ?_⟩, sup⟩
    have e1 : cg q (LC n vec (fun k => (q - y.2 k) % q) j) (LC n vec (fun k => (-1) * y.2 k) j) := LC_cg hn (fun k _ _ => by
      refine Eq.trans cg_mod ?_
      show (q - y.2 k) % q = ((-1) * y.2 k) % q
      rw [show q - y.2 k = (-1) * y.2 k + q by omega, Int.add_emod_right])
    refine e1.trans ?_
    rw [LC_mul hn]
    have e2 := cg_mul (q := q) (a := -1) (b := -1) rfl (LH j j0 j1)
    refine e2.trans ?_
    have e3 := a1 j j0 j1
    rw [Fz j j0 j1] at e3
    have := cg_add e3 (rfl : cg q ((-1) * sumI (fun k => a k * S.ov k j) S.c) ((-1) * sumI (fun k => a k * S.ov k j) S.c))
    rw [Int.zero_add, show f j + sumI (fun k => a k * S.ov k j) S.c + (-1) * sumI (fun k => a k * S.ov k j) S.c = f j by omega] at this
    exact this
  · rintro ⟨x, x1, x2⟩
    have coef : ∀ k : Int, ∃ b : Int → Int, 0 ≤ k → k < n → ∀ j, 0 ≤ j → j < n → cg q (x k * vec k j) (sumI (fun i => b i * S.ov i j) S.c) := fun k => by
      by_cases w : Ad k
      · obtain ⟨b, hb⟩ := h3 k w
        refine ⟨fun i => x k * b i, fun _ _ j z1 z2 => ?_⟩
        have := cg_mul (q := q) (a := x k) (b := x k) rfl (hb j z1 z2)
        refine this.trans ?_
        rw [← sumI_mul (by omega)]
        exact congrArg (· % q) (sumI_cong (by omega) (fun i _ _ => (Int.mul_assoc _ _ _).symm))
      · refine ⟨fun _ => 0, fun k0 k1 j z1 z2 => ?_⟩
        have := cg_mul (c := vec k j) (d := vec k j) (x1 k k0 k1 w) rfl
        rw [Int.zero_mul] at this
        rw [sumI_zero (by omega) (fun i _ _ => Int.zero_mul _)]
        exact this
    have pick : ∃ B : Int → Int → Int, ∀ k, 0 ≤ k → k < n → ∀ j, 0 ≤ j → j < n → cg q (x k * vec k j) (sumI (fun i => B k i * S.ov i j) S.c) := ⟨fun k => Classical.choose (coef k), fun k => Classical.choose_spec (coef k)⟩
    obtain ⟨B, hB⟩ := pick
    have hz := piv_zero (q := q) (v := y.1) (a := fun i => sumI (fun k => B k i) n + a i) hop ho1 h2 (fun j j0 j1 => ?_) (fun i z1 z2 => by rw [a3 i z1 z2])
    · rcases ff_range (f := y.1) hn with w | ⟨w1, w2, w3, -⟩
      · exact w.1
      · exact absurd (cg_z (hz _ w1 w2) (hin.1 _ w1 w2)) w3
    · refine (a1 j j0 j1).trans ?_
      rw [sumI_cong (f := fun i => (sumI (fun k => B k i) n + a i) * S.ov i j) (g := fun i => sumI (fun k => B k i) n * S.ov i j + a i * S.ov i j) (by omega) (fun i _ _ => Int.add_mul _ _ _), sumI_add (by omega)]
      refine cg_add ?_ rfl
      refine (x2 j j0 j1).symm.trans ?_
      unfold LC
      refine (cg_sum (q := q) hn (fun k k0 k1 => hB k k0 k1 j j0 j1)).trans ?_
      rw [sumI_swap hn (by omega)]
      exact congrArg (· % q) (sumI_cong (by omega) (fun i _ _ => sumI_mulr hn))
theorem exN_eq (hq : 2 ≤ q) {f : Int → Int} : ∀ (i : Nat) (k : Int), (exN q S f i k + (gv q S.op S.ov S.om i f (fun _ => 0)).2 k) % q = 0
  | 0, k => by show (0 + 0 : Int) % q = 0; rw [Int.add_zero, Int.zero_emod]
  | i + 1, k => by
    have ih := exN_eq hq (f := f) i k
    have eX : exN q S f (i + 1) = if (gv q S.op S.ov S.om i f (fun _ => 0)).1 (S.op i) = 0 then exN q S f i else fun j => (exN q S f i j + (gv q S.op S.ov S.om i f (fun _ => 0)).1 (S.op i) * S.om i j) % q := rfl
    have eG : gv q S.op S.ov S.om (i + 1) f (fun _ => 0) = if (gv q S.op S.ov S.om i f (fun _ => 0)).1 (S.op i) = 0 then gv q S.op S.ov S.om i f (fun _ => 0) else (fun j => ((gv q S.op S.ov S.om i f (fun _ => 0)).1 j + (q - (gv q S.op S.ov S.om i f (fun _ => 0)).1 (S.op i)) * S.ov i j) % q, fun j => ((gv q S.op S.ov S.om i f (fun _ => 0)).2 j + (q - (gv q S.op S.ov S.om i f (fun _ => 0)).1 (S.op i)) * S.om i j) % q) := rfl
    rw [eX, eG]
    by_cases e : (gv q S.op S.ov S.om i f (fun _ => 0)).1 (S.op i) = 0
    · rw [if_pos e, if_pos e]
      exact ih
    · rw [if_neg e, if_neg e]
      generalize (gv q S.op S.ov S.om i f (fun _ => 0)).1 (S.op i) = t at *
      show ((exN q S f i k + t * S.om i k) % q + ((gv q S.op S.ov S.om i f (fun _ => 0)).2 k + (q - t) * S.om i k) % q) % q = 0
      rw [← Int.add_emod, show exN q S f i k + t * S.om i k + ((gv q S.op S.ov S.om i f (fun _ => 0)).2 k + (q - t) * S.om i k) = exN q S f i k + (gv q S.op S.ov S.om i f (fun _ => 0)).2 k + S.om i k * q by rw [Int.sub_mul, Int.mul_comm q]; omega, Int.add_mul_emod_self_right]
      exact ih
theorem exN_eq2 (hq : 2 ≤ q) {f : Int → Int} (hf : inQ n q f) {k : Int} (k0 : 0 ≤ k) (k1 : k < n) : exN q S f S.c k = (q - (gv q S.op S.ov S.om S.c f (fun _ => 0)).2 k) % q := by
  have e := exN_eq (S := S) hq (f := f) S.c k
  have b1 := exN_in (n := n) (q := q) (S := S) (f := f) (by omega) S.c k k0 k1
  have b2 := (gv_in (n := n) (op := S.op) (ov := S.ov) (om := S.om) (show 0 < q by omega) hf (h := fun _ => 0) (fun j _ _ => ⟨Int.le_refl _, by show (0 : Int) < q; omega⟩) S.c).2 k k0 k1
  generalize exN q S f S.c k = x at *
  generalize (gv q S.op S.ov S.om S.c f (fun _ => 0)).2 k = y at *
  by_cases w : x + y < q
  · rw [Int.emod_eq_of_lt (by omega) w] at e
    have : x = 0 ∧ y = 0 := by omega
    rw [this.1, this.2, Int.sub_zero, Int.emod_self]
  · rw [← Int.sub_emod_right, Int.emod_eq_of_lt (by omega) (by omega)] at e
    rw [show q - y = x by omega, Int.emod_eq_of_lt b1.1 b1.2]
end LaSol
/-- rows that stand in steps don't depend on each other -/
theorem piv_ind {n q : Int} {c : Nat} {op a : Int → Int} {ov : Int → Int → Int} (hop : ∀ i : Int, 0 ≤ i → i < c → 0 ≤ op i ∧ op i < n) (h1 : ∀ i : Int, 0 ≤ i → i < c → ov i (op i) = 1) (h2 : ∀ i i' : Int, 0 ≤ i → i < i' → i' < c → ov i' (op i) = 0) (hs : ∀ j, 0 ≤ j → j < n → cg q (sumI (fun i => a i * ov i j) c) 0) : ∀ i : Int, 0 ≤ i → i < c → cg q (a i) 0 := by
  have key : ∀ m : Nat, m ≤ c → ∀ i : Int, 0 ≤ i → i < m → cg q (a i) 0 := by
    intro m
    induction m with
    | zero => intro _ i z1 z2; omega
    | succ m ih =>
      intro hm i z1 z2
      by_cases e : i = m
      · have hp := hop m (by omega) (by omega)
        have e1 := hs (op m) hp.1 hp.2
        have e2 : cg q (sumI (fun i => a i * ov i (op m)) c) (sumI (fun i => if i = m then a m else 0) c) := cg_sum (by omega) (fun i z3 z4 => by
          show cg q (a i * ov i (op m)) (if i = m then a m else 0)
          by_cases w : i = m
          · rw [if_pos w, w, h1 m (by omega) (by omega), Int.mul_one]
          · rw [if_neg w]
            rcases Int.lt_or_le i m with w2 | w2
            · have := cg_mul (c := ov i (op m)) (d := ov i (op m)) (ih (by omega) i z3 w2) rfl
              rw [Int.zero_mul] at this
              exact this
            · rw [h2 m i (by omega) (by omega) z4, Int.mul_zero])
        rw [sumI_single (k := (m : Int)) (by omega) (fun i _ _ z => if_neg z), if_pos rfl] at e2
        rw [e]
        exact e2.symm.trans e1
      · exact ih (by omega) i z1 (by omega)
  exact fun i z1 z2 => key c (Nat.le_refl _) i z1 z2
/-- what combinations of vectors are, that others make -/
theorem LC_made {n q : Int} {vec w : Int → Int → Int} {b : Nat} {a : Int → Int} (hn : 0 ≤ n) {B : Int → Int → Int} (hB : ∀ k, 0 ≤ k → k < n → cg q (a k) 0 ∨ ∀ j, 0 ≤ j → j < n → cg q (vec k j) (sumI (fun r => B k r * w r j) b)) : ∀ j, 0 ≤ j → j < n → cg q (LC n vec a j) (sumI (fun r => sumI (fun k => a k * B k r) n * w r j) b) := fun j j0 j1 => by
  rw [sumI_cong (f := fun r => sumI (fun k => a k * B k r) n * w r j) (g := fun r => sumI (fun k => a k * (B k r * w r j)) n) (by omega) (fun r _ _ => by rw [← sumI_mulr hn]; exact sumI_cong hn (fun k _ _ => Int.mul_assoc _ _ _)), ← sumI_swap hn (by omega)]
  refine cg_sum hn (fun k k0 k1 => ?_)
  rw [sumI_mul (by omega)]
  rcases hB k k0 k1 with w1 | w1
  · have e1 := cg_mul (c := vec k j) (d := vec k j) w1 rfl
    have e2 := cg_mul (c := sumI (fun r => B k r * w r j) b) (d := sumI (fun r => B k r * w r j) b) w1 rfl
    rw [Int.zero_mul] at e1 e2
    exact e1.trans e2.symm
  · exact cg_mul rfl (w1 j j0 j1)
theorem GInv.rank_le {n q : Int} {vec : Int → Int → Int} {R1 R2 : Int → Int → Prop} {S1 S2 : GS} {Ad : Int → Prop} (h1 : GInv n q vec R1 S1 Ad) (h2 : GInv n q vec R2 S2 Ad) (hq : qP q) (hn : 0 ≤ n) : S1.c ≤ S2.c := by
  have pick : ∃ B : Int → Int → Int, ∀ k, Ad k → ∀ j, 0 ≤ j → j < n → cg q (vec k j) (sumI (fun i => B k i * S2.ov i j) S2.c) := by
    have coef : ∀ k : Int, ∃ b : Int → Int, Ad k → ∀ j, 0 ≤ j → j < n → cg q (vec k j) (sumI (fun i => b i * S2.ov i j) S2.c) := fun k => by
      by_cases w : Ad k
      · obtain ⟨b, hb⟩ := h2.2.2.1 k w
        exact ⟨b, fun _ => hb⟩
      · exact ⟨fun _ => 0, fun z => absurd z w⟩
    exact ⟨fun k => Classical.choose (coef k), fun k => Classical.choose_spec (coef k)⟩
  obtain ⟨B, hB⟩ := pick
  refine dim_le (n := n) (v := S1.ov) (w := S2.ov) (C := fun i r => sumI (fun k => S1.om i k * B k r) n) hq (fun y hy => piv_ind (fun i z1 z2 => (h1.1 i z1 z2).2.1) (fun i z1 z2 => (h1.1 i z1 z2).2.2.2.2.1) h1.2.1 hy) (fun i z1 z2 j j0 j1 => ?_)
  obtain ⟨-, -, -, -, -, w6, w7⟩ := h1.1 i z1 z2
  refine (w6 j j0 j1).trans (LC_made hn (fun k k0 k1 => ?_) j j0 j1)
  by_cases w : OwnD S1 k
  · exact Or.inr (hB k (h1.ownAd w))
  · exact Or.inl (by rw [w7 k k0 k1 w])
