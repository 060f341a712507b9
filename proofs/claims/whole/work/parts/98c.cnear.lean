/-! lamps that are bound: what can be shown; the class: nearest -/
theorem Wf.GL {σ : Mu} (hW : Wf σ) : GInv (σ 0 0) (σ 0 1) (colV (sA σ) (σ 2)) (fun a b => a < b) (SlF σ) (fun b => 0 ≤ b ∧ b < σ 0 0) := by
  have hn := hW.1
  have hq := hW.2.1.b
  refine (gRun_GInv (jm := fun _ => 0) hW.2.1 (fun k k0 k1 j j0 j1 => ?_) (σ 0 0).toNat (by omega)).iff (fun b => ?_)
  · show 0 ≤ (if σ 2 j = 0 then sA σ j k else 0) ∧ (if σ 2 j = 0 then sA σ j k else 0) < σ 0 1
    split
    · exact hW.am j j0 j1 k k0 k1
    · omega
  · rw [show ((σ 0 0).toNat : Int) = σ 0 0 by omega]
    exact ⟨fun w => w.1, fun w => ⟨w, rfl⟩⟩
theorem rank_bl {σ : Mu} (hW : Wf σ) : (SbF σ).c = (SlF σ).c := by
  have hn := hW.1
  have hG := hW.GB
  have hL := hW.GL
  have pickL : ∃ B : Int → Int → Int, ∀ k, 0 ≤ k ∧ k < σ 0 0 → ∀ j, 0 ≤ j → j < σ 0 0 → cg (σ 0 1) (colV (sA σ) (σ 2) k j) (sumI (fun i => B k i * (SlF σ).ov i j) (SlF σ).c) := by
    have coef : ∀ k : Int, ∃ b : Int → Int, (0 ≤ k ∧ k < σ 0 0) → ∀ j, 0 ≤ j → j < σ 0 0 → cg (σ 0 1) (colV (sA σ) (σ 2) k j) (sumI (fun i => b i * (SlF σ).ov i j) (SlF σ).c) := fun k => by
      by_cases w : 0 ≤ k ∧ k < σ 0 0
      · obtain ⟨b, hb⟩ := hL.2.2.1 k w
        exact ⟨b, fun _ => hb⟩
      · exact ⟨fun _ => 0, fun z => absurd z w⟩
    exact ⟨fun k => Classical.choose (coef k), fun k => Classical.choose_spec (coef k)⟩
  have pickB : ∃ B : Int → Int → Int, ∀ k, AdF σ k → ∀ j, 0 ≤ j → j < σ 0 0 → cg (σ 0 1) (sA σ k j) (sumI (fun i => B k i * (SbF σ).ov i j) (SbF σ).c) := by
    have coef : ∀ k : Int, ∃ b : Int → Int, AdF σ k → ∀ j, 0 ≤ j → j < σ 0 0 → cg (σ 0 1) (sA σ k j) (sumI (fun i => b i * (SbF σ).ov i j) (SbF σ).c) := fun k => by
      by_cases w : AdF σ k
      · obtain ⟨b, hb⟩ := hG.2.2.1 k w
        exact ⟨b, fun _ => hb⟩
      · exact ⟨fun _ => 0, fun z => absurd z w⟩
    exact ⟨fun k => Classical.choose (coef k), fun k => Classical.choose_spec (coef k)⟩
  obtain ⟨BL, hBL⟩ := pickL
  obtain ⟨BB, hBB⟩ := pickB
  have h1 : (SbF σ).c ≤ (SlF σ).c := by
    refine dim_le (n := σ 0 0) (v := (SbF σ).ov) (w := fun r k => BL k r) (C := fun i r => sumI (fun k => (SbF σ).om i k * (SlF σ).ov r k) (σ 0 0)) hW.2.1 (fun y hy => piv_ind (fun i z1 z2 => (hG.1 i z1 z2).2.1) (fun i z1 z2 => (hG.1 i z1 z2).2.2.2.2.1) hG.2.1 hy) (fun i z1 z2 j j0 j1 => ?_)
    obtain ⟨-, -, -, -, -, w6, w7⟩ := hG.1 i z1 z2
    refine (w6 j j0 j1).trans (LC_made (w := fun r k => BL k r) (B := fun k r => (SlF σ).ov r k) hn.1 (fun k k0 k1 => ?_) j j0 j1)
    by_cases w : OwnD (SbF σ) k
    · refine Or.inr (fun j j0 j1 => ?_)
      have := hBL j ⟨j0, j1⟩ k k0 k1
      have e : colV (sA σ) (σ 2) j k = sA σ k j := if_pos (hG.ownAd w).2
      rw [e] at this
      refine this.trans ?_
      exact congrArg (· % σ 0 1) (sumI_cong (by omega) (fun i _ _ => Int.mul_comm _ _))
    · exact Or.inl (by rw [w7 k k0 k1 w])
  have h2 : (SlF σ).c ≤ (SbF σ).c := by
    refine dim_le (n := σ 0 0) (v := (SlF σ).ov) (w := fun r b => if σ 2 b = 0 then BB b r else 0) (C := fun i r => sumI (fun k => (SlF σ).om i k * (SbF σ).ov r k) (σ 0 0)) hW.2.1 (fun y hy => piv_ind (fun i z1 z2 => (hL.1 i z1 z2).2.1) (fun i z1 z2 => (hL.1 i z1 z2).2.2.2.2.1) hL.2.1 hy) (fun i z1 z2 j j0 j1 => ?_)
    obtain ⟨-, -, -, -, -, w6, w7⟩ := hL.1 i z1 z2
    refine (w6 j j0 j1).trans (LC_made (w := fun r b => if σ 2 b = 0 then BB b r else 0) (B := fun k r => (SbF σ).ov r k) hn.1 (fun k k0 k1 => Or.inr (fun b b0 b1 => ?_)) j j0 j1)
    show cg (σ 0 1) (if σ 2 b = 0 then sA σ b k else 0) (sumI (fun r => (SbF σ).ov r k * (if σ 2 b = 0 then BB b r else 0)) (SbF σ).c)
    by_cases e : σ 2 b = 0
    · rw [if_pos e]
      refine (hBB b ⟨⟨b0, b1⟩, e⟩ k k0 k1).trans ?_
      exact congrArg (· % σ 0 1) (sumI_cong (by omega) (fun i _ _ => by rw [if_pos e, Int.mul_comm]))
    · rw [if_neg e, sumI_zero (by omega) (fun r _ _ => by rw [if_neg e, Int.mul_zero])]
  omega
/-- how all lamps go on when a lamp that isn't bound goes on by 1 -/
def lstN (S : GS) (q k : Int) (c : Nat) : Int → Int := fun j => if j = k then 1 else if fndL S.td j c 0 = -1 then 0 else (-(S.tv (fndL S.td j c 0) k)) % q
abbrev lstF (S : GS) (q k : Int) : Int → Int := lstN S q k S.tc
/-- what bound lamps show while the others are out -/
def bsN (S : GS) (q : Int) (f : Int → Int) (n : Int) (c : Nat) : Int → Int := fun j => if fndL S.td j c 0 = -1 then 0 else dotI (S.tv (fndL S.td j c 0)) f n % q
theorem fnd_td {n q : Int} {vec : Int → Int → Int} {Rb : Int → Int → Prop} {S : GS} {Ad : Int → Prop} (h : GInv n q vec Rb S Ad) {i : Int} {c : Nat} (hc : c ≤ S.tc) (h0 : 0 ≤ i) (h1 : i < S.tc) : fndL S.td (S.td i) c 0 = if i < c then i else -1 := by
  have hd : ∀ j : Int, 0 ≤ j → j < S.tc → S.td j = S.td i → j = i := fun j z1 z2 z3 => by
    rcases Int.lt_trichotomy j i with w | w | w
    · exact absurd z3 (h.2.2.2.2.2.1 j i z1 w h1)
    · exact w
    · exact absurd z3.symm (h.2.2.2.2.2.1 i j h0 w z2)
  rcases fndL_at (f := S.td) (x := S.td i) c 0 (Int.le_refl _) with ⟨a, a2⟩ | ⟨a, a2, a3⟩
  · rw [a, if_neg]
    intro w
    exact a2 i h0 (by omega) rfl
  · have := hd _ a (by omega) a3
    rw [this] at a2 ⊢
    rw [if_pos (by omega)]
theorem fnd_own {n q : Int} {vec : Int → Int → Int} {Rb : Int → Int → Prop} {S : GS} {Ad : Int → Prop} (h : GInv n q vec Rb S Ad) {k : Int} {c : Nat} (hc : c ≤ S.tc) (hk : OwnD S k) : fndL S.td k c 0 = -1 := fndL_none c 0 (fun j z1 z2 w => (h.2.2.2.2.1 j z1 (by omega)).1.2.2 (by rw [w]; exact hk))
section LaLamp
variable {n q : Int} {vec : Int → Int → Int} {S : GS}
abbrev phi (n : Int) (S : GS) (i : Int) (u : Int → Int) : Int := sumI (fun k => S.tv i k * u k) n
theorem phi_lin (hn : 0 ≤ n) {i : Int} {c : Int} (hc : 0 ≤ c) {u a : Int → Int} {st : Int → Int → Int} : phi n S i (fun k => u k + sumI (fun r => a r * st r k) c) = phi n S i u + sumI (fun r => a r * phi n S i (st r)) c := by
  show sumI (fun k => S.tv i k * (u k + sumI (fun r => a r * st r k) c)) n = _
  rw [sumI_cong (g := fun k => S.tv i k * u k + sumI (fun r => a r * (S.tv i k * st r k)) c) hn (fun k _ _ => by
    rw [Int.mul_add, ← sumI_mul hc]
    congr 1
    exact sumI_cong hc (fun r _ _ => by rw [Int.mul_left_comm])), sumI_add hn, sumI_swap hn hc]
  congr 1
  exact sumI_cong hc (fun r _ _ => sumI_mul hn)
theorem phi_cg (hn : 0 ≤ n) {i : Int} {u v : Int → Int} (h : ∀ k, 0 ≤ k → k < n → cg q (u k) (v k)) : cg q (phi n S i u) (phi n S i v) := cg_sum hn (fun k k0 k1 => cg_mul rfl (h k k0 k1))
theorem phi_step (h : GInv n q vec (fun a b => a < b) S (fun b => 0 ≤ b ∧ b < n)) (hn : 0 ≤ n) {i k : Int} (i0 : 0 ≤ i) (i1 : i < S.tc) (hk : OwnD S k) : cg q (phi n S i (lstF S q k)) 0 := by
  obtain ⟨w1, w2, w3, w4, w5⟩ := h.2.2.2.2.1 i i0 i1
  have kb := h.ownAd hk
  have hne : S.td i ≠ k := fun w => w1.2.2 (by rw [w]; exact hk)
  have e1 : cg q (phi n S i (lstF S q k)) (sumI (fun j => (if j = k then S.tv i k else 0) + (if j = S.td i then -(S.tv i k) else 0)) n) := cg_sum hn (fun j j0 j1 => by
    show cg q (S.tv i j * lstN S q k S.tc j) _
    by_cases c1 : j = k
    · rw [if_pos c1, if_neg (fun w => hne (by rw [← w]; exact c1)), c1, Int.add_zero]
      unfold lstN
      rw [if_pos rfl, Int.mul_one]
    · rw [if_neg c1, Int.zero_add]
      unfold lstN
      rw [if_neg c1]
      rcases h.2.2.2.2.2.2 j ⟨j0, j1⟩ with c2 | ⟨r, r0, r1, r2⟩
      · rw [fnd_own h (Nat.le_refl _) c2, if_pos rfl, Int.mul_zero, if_neg (fun w => w1.2.2 (by rw [← w]; exact c2))]
      · rw [← r2, fnd_td h (Nat.le_refl _) r0 r1, if_pos r1, if_neg (by omega), h.tvtd i0 i1 r0 r1]
        by_cases c3 : i = r
        · rw [if_pos c3, ← c3, if_pos rfl, Int.one_mul]
          exact cg_mod
        · rw [if_neg c3, Int.zero_mul, if_neg]
          intro w
          have a1 := h.tvtd i0 i1 r0 r1
          rw [w, w4, if_neg c3] at a1
          exact absurd a1 (by decide))
  refine e1.trans ?_
  rw [sumI_add hn, sumI_single (k := k) kb (fun j _ _ z => if_neg z), sumI_single (k := S.td i) w1.2.1 (fun j _ _ z => if_neg z), if_pos rfl, if_pos rfl]
  show (S.tv i k + -(S.tv i k)) % q = 0 % q
  rw [Int.add_right_neg]
theorem phi_base (h : GInv n q vec (fun a b => a < b) S (fun b => 0 ≤ b ∧ b < n)) (hn : 0 ≤ n) {f : Int → Int} {i : Int} (i0 : 0 ≤ i) (i1 : i < S.tc) : cg q (phi n S i (bsN S q f n S.tc)) (phi n S i f) := by
  obtain ⟨w1, w2, w3, w4, w5⟩ := h.2.2.2.2.1 i i0 i1
  have e1 : phi n S i (bsN S q f n S.tc) = sumI (fun j => if j = S.td i then dotI (S.tv i) f n % q else 0) n := sumI_cong hn (fun j j0 j1 => by
    show S.tv i j * bsN S q f n S.tc j = _
    unfold bsN
    rcases h.2.2.2.2.2.2 j ⟨j0, j1⟩ with c2 | ⟨r, r0, r1, r2⟩
    · rw [fnd_own h (Nat.le_refl _) c2, if_pos rfl, Int.mul_zero, if_neg (fun w => w1.2.2 (by rw [← w]; exact c2))]
    · rw [← r2, fnd_td h (Nat.le_refl _) r0 r1, if_pos r1, if_neg (by omega), h.tvtd i0 i1 r0 r1]
      by_cases c3 : i = r
      · rw [if_pos c3, ← c3, if_pos rfl, Int.one_mul]
      · rw [if_neg c3, Int.zero_mul, if_neg]
        intro w
        have a1 := h.tvtd i0 i1 r0 r1
        rw [w, w4, if_neg c3] at a1
        exact absurd a1 (by decide))
  rw [e1, sumI_single (k := S.td i) w1.2.1 (fun j _ _ z => if_neg z), if_pos rfl]
  exact cg_mod
/-- what all bound lamps allow is made of steps -/
theorem lamp_span (h : GInv n q vec (fun a b => a < b) S (fun b => 0 ≤ b ∧ b < n)) (hn : 0 ≤ n) (hinc : ∀ i j : Int, 0 ≤ i → i < j → j < S.c → S.od i < S.od j) {u : Int → Int} (hu : ∀ i : Int, 0 ≤ i → i < S.tc → cg q (phi n S i u) 0) : ∀ k, 0 ≤ k → k < n → cg q (u k) (sumI (fun r => u (S.od r) * lstF S q (S.od r) k) S.c) := by
  have own : ∀ r0 : Int, 0 ≤ r0 → r0 < S.c → sumI (fun r => u (S.od r) * lstF S q (S.od r) (S.od r0)) S.c = u (S.od r0) := fun r0 z1 z2 => by
    rw [sumI_single (k := r0) ⟨z1, z2⟩ (fun r z3 z4 z5 => ?_)]
    · unfold lstF lstN
      rw [if_pos rfl, Int.mul_one]
    · have hne : S.od r0 ≠ S.od r := fun w => by
        rcases Int.lt_trichotomy r r0 with w2 | w2 | w2
        · have := hinc r r0 z3 w2 z2; omega
        · exact z5 w2
        · have := hinc r0 r z1 w2 z4; omega
      unfold lstF lstN
      rw [if_neg hne, fnd_own h (Nat.le_refl _) ⟨r0, z1, z2, rfl⟩, if_pos rfl, Int.mul_zero]
  intro k k0 k1
  rcases h.2.2.2.2.2.2 k ⟨k0, k1⟩ with ⟨r, r0, r1, r2⟩ | ⟨i, i0, i1, i2⟩
  · rw [← r2, own r r0 r1]
  · obtain ⟨w1, w2, w3, w4, w5⟩ := h.2.2.2.2.1 i i0 i1
    have e1 := phi_lin (S := S) (i := i) hn (show (0 : Int) ≤ S.c by omega) (u := u) (a := fun r => -(u (S.od r))) (st := fun r => lstF S q (S.od r))
    have e2 : cg q (phi n S i (fun k => u k + sumI (fun r => -(u (S.od r)) * lstF S q (S.od r) k) S.c)) 0 := by
      rw [e1]
      have e3 : cg q (sumI (fun r => -(u (S.od r)) * phi n S i (lstF S q (S.od r))) S.c) 0 := cg_sum0 (by omega) (fun r z1 z2 => by
        have := cg_mul (q := q) (a := -(u (S.od r))) (b := -(u (S.od r))) rfl (phi_step h hn i0 i1 ⟨r, z1, z2, rfl⟩)
        rw [Int.mul_zero] at this
        exact this)
      exact cg_add (hu i i0 i1) e3
    have e4 : phi n S i (fun k => u k + sumI (fun r => -(u (S.od r)) * lstF S q (S.od r) k) S.c) = sumI (fun j => if j = S.td i then u (S.td i) + sumI (fun r => -(u (S.od r)) * lstF S q (S.od r) (S.td i)) S.c else 0) n := sumI_cong hn (fun j j0 j1 => by
      show S.tv i j * (u j + sumI (fun r => -(u (S.od r)) * lstF S q (S.od r) j) S.c) = _
      by_cases c1 : j = S.td i
      · rw [if_pos c1, c1, w4, Int.one_mul]
      · rw [if_neg c1]
        rcases h.2.2.2.2.2.2 j ⟨j0, j1⟩ with ⟨r, r0, r1, r2⟩ | ⟨i', b0, b1, b2⟩
        · have := own r r0 r1
          rw [← r2, sumI_cong (f := fun r_1 => -(u (S.od r_1)) * lstF S q (S.od r_1) (S.od r)) (g := fun r_1 => -(u (S.od r_1) * lstF S q (S.od r_1) (S.od r))) (by omega) (fun _ _ _ => Int.neg_mul _ _), sumI_neg (by omega), this, Int.add_right_neg, Int.mul_zero]
        · rw [← b2, h.tvtd i0 i1 b0 b1, if_neg (fun w => c1 (by rw [← b2, w])), Int.zero_mul])
    rw [e4, sumI_single (k := S.td i) w1.2.1 (fun j _ _ z => if_neg z), if_pos rfl, sumI_cong (f := fun r => -(u (S.od r)) * lstF S q (S.od r) (S.td i)) (g := fun r => -(u (S.od r) * lstF S q (S.od r) (S.td i))) (by omega) (fun _ _ _ => Int.neg_mul _ _), sumI_neg (by omega)] at e2
    rw [← i2]
    have := cg_add e2 (rfl : cg q (sumI (fun r => u (S.od r) * lstF S q (S.od r) (S.td i)) S.c) (sumI (fun r => u (S.od r) * lstF S q (S.od r) (S.td i)) S.c))
    rw [Int.zero_add, show u (S.td i) + -(sumI (fun r => u (S.od r) * lstF S q (S.od r) (S.td i)) S.c) + sumI (fun r => u (S.od r) * lstF S q (S.od r) (S.td i)) S.c = u (S.td i) by omega] at this
    exact this
end LaLamp
theorem sum_own {n : Int} {od : Int → Int} : ∀ (c : Nat) (f : Int → Int), 0 ≤ n → (∀ i : Int, 0 ≤ i → i < c → 0 ≤ od i ∧ od i < n) → (∀ i j : Int, 0 ≤ i → i < j → j < c → od i < od j) → (∀ k, 0 ≤ k → k < n → (∀ i : Int, 0 ≤ i → i < c → od i ≠ k) → f k = 0) → sumI f n = sumI (fun r => f (od r)) c
  | 0, f, hn, _, _, hz => sumI_zero hn (fun k k0 k1 => hz k k0 k1 (fun i z1 z2 => by omega))
  | c + 1, f, hn, hb, hi, hz => by
    have hc := hb c (by omega) (by omega)
    rw [sumI_one (f := f) (g := fup f (od c) 0) hc (fun j _ _ z => (fup_n z).symm), fup_s, Int.sub_zero, sum_own c (fup f (od c) 0) hn (fun i z1 z2 => hb i z1 (by omega)) (fun i j z1 z2 z3 => hi i j z1 z2 (by omega)) (fun k k0 k1 hk => ?_), show ((c + 1 : Nat) : Int) = (c : Int) + 1 by omega, sumI_s (by omega)]
    · congr 1
      refine sumI_cong (by omega) (fun r z1 z2 => ?_)
      have := hi r c z1 z2 (by omega)
      exact fup_n (by omega)
    · by_cases e : k = od c
      · rw [e, fup_s]
      · rw [fup_n e]
        refine hz k k0 k1 (fun i z1 z2 w => ?_)
        by_cases e2 : i = c
        · exact e (by rw [← w, e2])
        · exact hk i z1 (by omega) w
theorem phi_row {σ : Mu} (hW : Wf σ) {i b : Int} (i0 : 0 ≤ i) (i1 : i < (SlF σ).tc) (hb : AdF σ b) : cg (σ 0 1) (phi (σ 0 0) (SlF σ) i (sA σ b)) 0 := by
  have := (hW.GL.2.2.2.2.1 i i0 i1).2.2.1 b hb.1.1 hb.1.2
  refine Eq.trans ?_ this
  exact congrArg (· % σ 0 1) (sumI_cong hW.1.1 (fun k _ _ => by
    show (SlF σ).tv i k * sA σ b k = (SlF σ).tv i k * (if σ 2 b = 0 then sA σ b k else 0)
    rw [if_pos hb.2]))
/-- what all bound lamps allow, presses make -/
theorem row_made {σ : Mu} (hW : Wf σ) {v : Int → Int} (hvq : inQ (σ 0 0) (σ 0 1) v) (hv : ∀ i : Int, 0 ≤ i → i < (SlF σ).tc → cg (σ 0 1) (phi (σ 0 0) (SlF σ) i v) 0) : ff (gv (σ 0 1) (SbF σ).op (SbF σ).ov (SbF σ).om (SbF σ).c v (fun _ => 0)).1 (σ 0 0) = -1 := by
  have hn := hW.1
  have hq := hW.2.1.b
  have hG := hW.GB
  have hL := hW.GL
  obtain ⟨h1, h2, h3, h4, h5, h6, h7⟩ := id hG
  have hop : ∀ i : Int, 0 ≤ i → i < (SbF σ).c → 0 ≤ (SbF σ).op i ∧ (SbF σ).op i < σ 0 0 := fun i z1 z2 => (h1 i z1 z2).2.1
  have ho1 : ∀ i : Int, 0 ≤ i → i < (SbF σ).c → (SbF σ).ov i ((SbF σ).op i) = 1 := fun i z1 z2 => (h1 i z1 z2).2.2.2.2.1
  have h0q : inQ (σ 0 0) (σ 0 1) (fun _ => 0) := fun j _ _ => ⟨Int.le_refl _, by show (0 : Int) < σ 0 1; omega⟩
  obtain ⟨a, a1, a2, a3⟩ := gv_spec (om := (SbF σ).om) hq.1 hop ho1 h2 hvq h0q (SbF σ).c (Nat.le_refl _)
  have hin := gv_in (n := σ 0 0) (op := (SbF σ).op) (ov := (SbF σ).ov) (om := (SbF σ).om) (show 0 < σ 0 1 by omega) hvq h0q (SbF σ).c
  generalize gv (σ 0 1) (SbF σ).op (SbF σ).ov (SbF σ).om (SbF σ).c v (fun _ => 0) = y at *
  rcases ff_range (f := y.1) hn.1 with w | ⟨p0, p1, p2, p3⟩
  · exact w.1
  exfalso
  generalize ff y.1 (σ 0 0) = p at *
  have hFp := hin.1 p p0 p1
  have hinv := inv_ok hW.2.1 hFp p2
  generalize invQ (y.1 p) (σ 0 1) = t at *
  have pv : ∀ i : Int, 0 ≤ i → i < (SlF σ).tc → ∀ r : Int, 0 ≤ r → r < (SbF σ).c → cg (σ 0 1) (phi (σ 0 0) (SlF σ) i ((SbF σ).ov r)) 0 := fun i i0 i1 r r0 r1 => by
    obtain ⟨-, -, -, -, -, w6, w7⟩ := h1 r r0 r1
    refine (phi_cg hn.1 w6).trans ?_
    have e := phi_lin (S := SlF σ) (i := i) hn.1 hn.1 (u := fun _ => 0) (a := (SbF σ).om r) (st := sA σ)
    have e2 : phi (σ 0 0) (SlF σ) i (LC (σ 0 0) (sA σ) ((SbF σ).om r)) = phi (σ 0 0) (SlF σ) i (fun k => 0 + sumI (fun r_1 => (SbF σ).om r r_1 * sA σ r_1 k) (σ 0 0)) := sumI_cong hn.1 (fun k _ _ => by
      show (SlF σ).tv i k * LC (σ 0 0) (sA σ) ((SbF σ).om r) k = (SlF σ).tv i k * (0 + sumI (fun r_1 => (SbF σ).om r r_1 * sA σ r_1 k) (σ 0 0))
      rw [Int.zero_add]
      rfl)
    rw [e2, e, show phi (σ 0 0) (SlF σ) i (fun _ => 0) = 0 from sumI_zero hn.1 (fun k _ _ => Int.mul_zero _), Int.zero_add]
    refine cg_sum0 hn.1 (fun b b0 b1 => ?_)
    by_cases w : OwnD (SbF σ) b
    · have := cg_mul (q := σ 0 1) (a := (SbF σ).om r b) (b := (SbF σ).om r b) rfl (phi_row hW i0 i1 (hG.ownAd w))
      rw [Int.mul_zero] at this
      exact this
    · rw [w7 b b0 b1 w, Int.zero_mul]
  have pF : ∀ i : Int, 0 ≤ i → i < (SlF σ).tc → cg (σ 0 1) (phi (σ 0 0) (SlF σ) i (fun j => y.1 j * t % σ 0 1)) 0 := fun i i0 i1 => by
    have e0 : cg (σ 0 1) (phi (σ 0 0) (SlF σ) i y.1) 0 := by
      refine (phi_cg hn.1 a1).trans ?_
      rw [phi_lin hn.1 (by omega)]
      have := cg_add (hv i i0 i1) (cg_sum0 (q := σ 0 1) (n := ((SbF σ).c : Int)) (f := fun r => a r * phi (σ 0 0) (SlF σ) i ((SbF σ).ov r)) (by omega) (fun r r0 r1 => by
        have := cg_mul (q := σ 0 1) (a := a r) (b := a r) rfl (pv i i0 i1 r r0 r1)
        rw [Int.mul_zero] at this
        exact this))
      exact this
    have e1 : cg (σ 0 1) (phi (σ 0 0) (SlF σ) i (fun j => y.1 j * t % σ 0 1)) (phi (σ 0 0) (SlF σ) i (fun j => t * y.1 j)) := phi_cg hn.1 (fun k _ _ => by
      show cg (σ 0 1) (y.1 k * t % σ 0 1) (t * y.1 k)
      rw [Int.mul_comm t]
      exact cg_mod)
    refine e1.trans ?_
    have e2 : phi (σ 0 0) (SlF σ) i (fun j => t * y.1 j) = t * phi (σ 0 0) (SlF σ) i y.1 := by
      show sumI (fun k => (SlF σ).tv i k * (t * y.1 k)) (σ 0 0) = _
      rw [← sumI_mul hn.1]
      exact sumI_cong hn.1 (fun k _ _ => Int.mul_left_comm _ _ _)
    rw [e2]
    have := cg_mul (q := σ 0 1) (a := t) (b := t) rfl e0
    rw [Int.mul_zero] at this
    exact this
  have hdim : (SbF σ).c + 1 ≤ (SlF σ).c := by
    refine dim_le (n := σ 0 0) (v := fup (SbF σ).ov (SbF σ).c (fun j => y.1 j * t % σ 0 1)) (w := fun r => lstF (SlF σ) (σ 0 1) ((SlF σ).od r)) (C := fun i r => fup (SbF σ).ov (SbF σ).c (fun j => y.1 j * t % σ 0 1) i ((SlF σ).od r)) hW.2.1 (fun z hz => piv_ind (op := fup (SbF σ).op (SbF σ).c p) (fun i z1 z2 => ?_) (fun i z1 z2 => ?_) (fun i i' z1 z2 z3 => ?_) hz) (fun i z1 z2 j j0 j1 => ?_)
    · by_cases e : i = (SbF σ).c
      · rw [e, fup_s]; exact ⟨p0, p1⟩
      · rw [fup_n e]; exact hop i z1 (by omega)
    · by_cases e : i = (SbF σ).c
      · rw [e, fup_s, fup_s]; exact hinv
      · rw [fup_n e, fup_n e]; exact ho1 i z1 (by omega)
    · rw [fup_n (show i ≠ (SbF σ).c by omega)]
      by_cases e : i' = (SbF σ).c
      · rw [e, fup_s]
        show y.1 ((SbF σ).op i) * t % σ 0 1 = 0
        rw [a3 i z1 (by omega), Int.zero_mul, Int.zero_emod]
      · rw [fup_n e]; exact h2 i i' z1 z2 (by omega)
    · have hinc : ∀ i j : Int, 0 ≤ i → i < j → j < (SlF σ).c → (SlF σ).od i < (SlF σ).od j := (gRun_sort (σ 0 1) (σ 0 0) (fun _ => 0) (colV (sA σ) (σ 2)) (σ 0 0).toNat).2.1
      refine lamp_span hL hn.1 hinc (fun r r0 r1 => ?_) j j0 j1
      by_cases e : i = (SbF σ).c
      · rw [e, fup_s]; exact pF r r0 r1
      · rw [fup_n e]; exact pv r r0 r1 i z1 (by omega)
  have := rank_bl hW
  omega
