/-! breadth first walks as pure runs; what hard and lit rest on -/
abbrev BF : Type := (Int → Int) × (Int → Int) × Nat
abbrev BF.way (W : BF) : Int → Int := W.1
abbrev BF.que (W : BF) : Int → Int := W.2.1
abbrev BF.last (W : BF) : Nat := W.2.2
/-- a state t is come to from one of level lev -/
def bMv (t lev : Int) (W : BF) : BF := if t = -1 ∨ W.way t ≠ -1 then W else (fup W.way t (lev + 1), fup W.que W.last t, W.last + 1)
/-- the first k moves from v -/
def bRw (nx : Int → Int → Int) (v lev : Int) : Nat → BF → BF
  | 0, W => W
  | k + 1, W => bMv (nx v k) lev (bRw nx v lev k W)
def bf0 (s : Int) : BF := (fup (fun _ => -1) s 0, fup (fun _ => 0) 0 s, 1)
/-- the walk from s: the first k of its queue gone through -/
def bRun (nx : Int → Int → Int) (n : Nat) (s : Int) : Nat → BF
  | 0 => bf0 s
  | k + 1 => if k < (bRun nx n s k).last then bRw nx ((bRun nx n s k).que k) ((bRun nx n s k).way ((bRun nx n s k).que k)) n (bRun nx n s k) else bRun nx n s k
/-- 1 where a state was come to -/
def isW (W : BF) : Int → Int := fun t => if W.way t = -1 then 0 else 1
def BInv (N : Nat) (W : BF) : Prop := 1 ≤ W.last ∧ (∀ i : Int, 0 ≤ i → i < W.last → (0 ≤ W.que i ∧ W.que i < N) ∧ 0 ≤ W.way (W.que i) ∧ W.way (W.que i) ≤ i) ∧ (W.last : Int) = cntL (isW W) N ∧ ∀ t, W.way t = -1 ∨ 0 ≤ W.way t
theorem cntL_cong {f g : Int → Int} : ∀ n : Nat, (∀ j : Int, 0 ≤ j → j < n → (f j = 0 ↔ g j = 0)) → cntL f n = cntL g n
  | 0, _ => rfl
  | n + 1, h => by
    unfold cntL
    rw [cntL_cong n (fun j h1 h2 => h j h1 (by omega))]
    have := h n (by omega) (by omega)
    by_cases e : f n = 0
    · rw [if_pos e, if_pos (this.mp e)]
    · rw [if_neg e, if_neg (fun w => e (this.mpr w))]
/-- one place more that isn't 0 -/
theorem cntL_one {f g : Int → Int} {t : Int} : ∀ n : Nat, (∀ j : Int, 0 ≤ j → j < n → j ≠ t → (f j = 0 ↔ g j = 0)) → 0 ≤ t → t < n → f t = 0 → g t ≠ 0 → cntL g n = cntL f n + 1
  | 0, _, _, h, _, _ => absurd h (by omega)
  | n + 1, h, h0, h1, h2, h3 => by
    unfold cntL
    by_cases e : t = n
    · subst e
      rw [cntL_cong n (fun j z1 z2 => (h j z1 (by omega) (by omega)).symm), if_pos h2, if_neg h3]
      omega
    · rw [cntL_one n (fun j z1 z2 z3 => h j z1 (by omega) z3) h0 (by omega) h2 h3]
      have := h n (by omega) (by omega) (fun w => e w.symm)
      by_cases e2 : f n = 0
      · rw [if_pos e2, if_pos (this.mp e2)]; omega
      · rw [if_neg e2, if_neg (fun w => e2 (this.mpr w))]
theorem cntL_lt {f : Int → Int} {t : Int} : ∀ n : Nat, 0 ≤ t → t < n → f t = 0 → cntL f n < n
  | 0, _, h, _ => absurd h (by omega)
  | n + 1, h0, h1, h2 => by
    unfold cntL
    by_cases e : t = n
    · subst e
      have := cntL_le f n
      rw [if_pos h2]; omega
    · have := cntL_lt n h0 (by omega) h2
      split <;> omega
theorem isW_0 {W : BF} {t : Int} : isW W t = 0 ↔ W.way t = -1 := by
  unfold isW
  split <;> simp_all
theorem bMv_inv {N : Nat} {W : BF} {t lev : Int} (h : BInv N W) (ht : t = -1 ∨ (0 ≤ t ∧ t < N)) (hl : 0 ≤ lev ∧ lev < W.last) : BInv N (bMv t lev W) ∧ W.last ≤ (bMv t lev W).last ∧ (∀ i : Int, i < W.last → (bMv t lev W).que i = W.que i) ∧ ∀ x, W.way x ≠ -1 → (bMv t lev W).way x = W.way x := by
  obtain ⟨h1, h2, h3, h4⟩ := id h
  unfold bMv
  split
  · exact ⟨h, Nat.le_refl _, fun _ _ => rfl, fun _ _ => rfl⟩
  · rename_i hc
    have t1 : ¬ t = -1 := fun w => hc (Or.inl w)
    have t2 : W.way t = -1 := Decidable.byContradiction (fun w => hc (Or.inr w))
    have t3 : 0 ≤ t ∧ t < N := by omega
    refine ⟨⟨by show 1 ≤ W.last + 1; omega, fun i q1 q2 => ?_, ?_, fun x => ?_⟩, by show W.last ≤ W.last + 1; omega, fun i hi => fup_n (by omega), fun x hx => ?_⟩
    · have q2' : i < W.last + 1 := q2
      show (0 ≤ fup W.que W.last t i ∧ fup W.que W.last t i < N) ∧ 0 ≤ fup W.way t (lev + 1) (fup W.que W.last t i) ∧ fup W.way t (lev + 1) (fup W.que W.last t i) ≤ i
      by_cases e : i = W.last
      · rw [e, fup_s, fup_s]
        exact ⟨t3, by omega, by omega⟩
      · rw [fup_n e]
        obtain ⟨w1, w2, w3⟩ := h2 i q1 (by omega)
        rw [fup_n (fun w => by rw [w] at w2; omega)]
        exact ⟨w1, w2, w3⟩
    · show ((W.last + 1 : Nat) : Int) = _
      rw [cntL_one (f := isW W) (t := t) N (fun j z1 z2 z3 => ?_) t3.1 t3.2 (isW_0.mpr t2) ?_]
      · omega
      · intro w
        have w2 : fup W.way t (lev + 1) t = -1 := isW_0.mp w
        rw [fup_s] at w2; omega
      · rw [isW_0, isW_0]
        show _ ↔ fup W.way t (lev + 1) j = -1
        rw [fup_n z3]
    · show fup W.way t (lev + 1) x = -1 ∨ 0 ≤ fup W.way t (lev + 1) x
      by_cases e : x = t
      · rw [e, fup_s]; omega
      · rw [fup_n e]; exact h4 x
    · show fup W.way t (lev + 1) x = W.way x
      exact fup_n (fun w => hx (by rw [w]; exact t2))
/-- there is room for one more -/
theorem BInv.room {N : Nat} {W : BF} (h : BInv N W) {t : Int} (ht : 0 ≤ t ∧ t < N) (hw : W.way t = -1) : W.last < N := by
  have := cntL_lt (f := isW W) N ht.1 ht.2 (isW_0.mpr hw)
  have := h.2.2.1
  omega
theorem BInv.le {N : Nat} {W : BF} (h : BInv N W) : W.last ≤ N := by
  have := (cntL_le (isW W) N).2
  have := h.2.2.1
  omega
theorem bRw_inv {N : Nat} {nx : Int → Int → Int} {v lev : Int} {W : BF} (h : BInv N W) (hl : 0 ≤ lev ∧ lev < W.last) : ∀ k : Nat, (∀ b : Nat, b < k → nx v b = -1 ∨ (0 ≤ nx v b ∧ nx v b < N)) → BInv N (bRw nx v lev k W) ∧ W.last ≤ (bRw nx v lev k W).last ∧ (∀ i : Int, i < W.last → (bRw nx v lev k W).que i = W.que i) ∧ ∀ x, W.way x ≠ -1 → (bRw nx v lev k W).way x = W.way x
  | 0, _ => ⟨h, Nat.le_refl _, fun _ _ => rfl, fun _ _ => rfl⟩
  | k + 1, hn => by
    obtain ⟨a1, a2, a3, a4⟩ := bRw_inv h hl k (fun b hb => hn b (by omega))
    obtain ⟨b1, b2, b3, b4⟩ := bMv_inv (lev := lev) a1 (hn k (by omega)) (by omega)
    refine ⟨b1, Nat.le_trans a2 b2, fun i hi => ?_, fun x hx => ?_⟩
    · show (bMv _ _ _).que i = _
      rw [b3 i (by omega), a3 i hi]
    · show (bMv _ _ _).way x = _
      rw [b4 x (by rw [a4 x hx]; exact hx), a4 x hx]
theorem bf0_inv {N : Nat} {s : Int} (hs : 0 ≤ s ∧ s < N) : BInv N (bf0 s) := by
  refine ⟨Nat.le_refl _, fun i q1 q2 => ?_, ?_, fun t => ?_⟩
  · have : i = 0 := by
      have : i < ((1 : Nat) : Int) := q2
      omega
    subst this
    show (0 ≤ fup (fun _ => 0) 0 s 0 ∧ fup (fun _ => 0) 0 s 0 < N) ∧ 0 ≤ fup (fun _ => -1) s 0 (fup (fun _ => 0) 0 s 0) ∧ fup (fun _ => -1) s 0 (fup (fun _ => 0) 0 s 0) ≤ 0
    rw [fup_s, fup_s]
    exact ⟨hs, Int.le_refl _, Int.le_refl _⟩
  · have h0 : ∀ n : Nat, cntL (fun _ => 0) n = 0 := by
      intro n
      induction n with
      | zero => rfl
      | succ n ih => unfold cntL; rw [ih, if_pos rfl]; rfl
    rw [cntL_one (f := fun _ => 0) (t := s) N (fun j z1 z2 z3 => ?_) hs.1 hs.2 rfl ?_, h0]
    · rfl
    · intro w
      have w2 : fup (fun _ => -1) s 0 s = -1 := isW_0.mp w
      rw [fup_s] at w2; omega
    · rw [isW_0]
      show _ ↔ fup (fun _ => -1) s 0 j = -1
      rw [fup_n z3]
      simp
  · show fup (fun _ => -1) s 0 t = -1 ∨ 0 ≤ fup (fun _ => -1) s 0 t
    by_cases e : t = s
    · rw [e, fup_s]; omega
    · rw [fup_n e]; exact Or.inl rfl
/-- the moves lead from states to states -/
def nxOk (N : Nat) (n : Nat) (nx : Int → Int → Int) : Prop := ∀ v : Int, 0 ≤ v → v < N → ∀ b : Nat, b < n → nx v b = -1 ∨ (0 ≤ nx v b ∧ nx v b < N)
theorem bRun_inv {N n : Nat} {nx : Int → Int → Int} {s : Int} (hs : 0 ≤ s ∧ s < N) (hn : nxOk N n nx) : ∀ k : Nat, BInv N (bRun nx n s k)
  | 0 => bf0_inv hs
  | k + 1 => by
    have ih := bRun_inv hs hn k
    unfold bRun
    split
    · rename_i hk
      obtain ⟨w1, w2, w3⟩ := ih.2.1 k (by omega) (by omega)
      exact (bRw_inv ih ⟨w2, by omega⟩ n (fun b hb => hn _ w1.1 w1.2 b hb)).1
    · exact ih
/-- gone through: nothing changes any more -/
theorem bRun_end {n : Nat} {nx : Int → Int → Int} {s : Int} {k : Nat} (h : (bRun nx n s k).last ≤ k) : ∀ j : Nat, bRun nx n s (k + j) = bRun nx n s k
  | 0 => rfl
  | j + 1 => by
    have ih := bRun_end h j
    show bRun nx n s ((k + j) + 1) = _
    rw [bRun, ih, if_neg (by omega)]
theorem bRun_end2 {n N : Nat} {nx : Int → Int → Int} {s : Int} {k : Nat} (h : (bRun nx n s k).last ≤ k) (hk : k ≤ N) : bRun nx n s N = bRun nx n s k := by
  have := bRun_end h (N - k)
  rw [show k + (N - k) = N by omega] at this
  exact this
/-- how many of the first i of the queue are of level k -/
def lvC (W : BF) (k : Int) : Nat → Int
  | 0 => 0
  | i + 1 => lvC W k i + (if W.way (W.que i) = k then 1 else 0)
/-- digits plus digits, each modulo q: k places from r on, at their weight -/
def plusR (q : Int) (pt : Int → Int) : Nat → Int → Int → Int → Int → Int
  | 0, _, _, _, v => v
  | k + 1, r, left, at_, v => plusR q pt k (r + 1) (left / q) (at_ * q) (v + at_ * ((left % q + pt r) % q))
def plusP (q : Int) (c : Nat) (pt : Int → Int) (v : Int) : Int := plusR q pt c 0 v 1 0
/-- the least place of f, of n from i on, where x stands; -1: none -/
def fndL (f : Int → Int) (x : Int) : Nat → Int → Int
  | 0, _ => -1
  | n + 1, i => if f i = x then i else fndL f x n (i + 1)
/-- by which own ones button b is made -/
def partP (S : GS) (q b : Int) : Int → Int := fun r => if fndL S.td b S.tc 0 = -1 then (if S.od r = b then 1 else 0) else (q - S.tv (fndL S.td b S.tc 0) (S.od r)) % q
def nxH (n q : Int) (A : Int → Int → Int) (jm : Int → Int) : Int → Int → Int := fun v b => if jm b = 0 then plusP q (Sbt n q A jm).c (partP (Sbt n q A jm) q b) v else -1
def hdW (n q : Int) (A : Int → Int → Int) (jm : Int → Int) : BF := bRun (nxH n q A jm) n.toNat 0 (q ^ (Sbt n q A jm).c).toNat
def hdMax (n q : Int) (A : Int → Int → Int) (jm : Int → Int) : Int := (hdW n q A jm).way ((hdW n q A jm).que ((hdW n q A jm).last - 1))
def hdCnt (n q : Int) (A : Int → Int → Int) (jm : Int → Int) (k : Int) : Int := lvC (hdW n q A jm) k (hdW n q A jm).last
theorem plusR_ok {q : Int} {pt : Int → Int} (hq : 0 < q) : ∀ (k : Nat) (r left at_ v : Int), 0 ≤ v → v < at_ → 0 ≤ plusR q pt k r left at_ v ∧ plusR q pt k r left at_ v < at_ * q ^ k
  | 0, r, left, at_, v, h0, h1 => by
    rw [plusR, Int.pow_zero, Int.mul_one]
    exact ⟨h0, h1⟩
  | k + 1, r, left, at_, v, h0, h1 => by
    have m0 := Int.emod_nonneg (left % q + pt r) (show q ≠ 0 by omega)
    have m1 := Int.emod_lt_of_pos (left % q + pt r) hq
    generalize hm : (left % q + pt r) % q = m at m0 m1
    have e1 : 0 ≤ at_ * m := Int.mul_nonneg (by omega) m0
    have e2 : at_ * m ≤ at_ * (q - 1) := Int.mul_le_mul_of_nonneg_left (by omega) (by omega)
    have e3 : at_ * (q - 1) = at_ * q - at_ := by rw [Int.mul_sub, Int.mul_one]
    have ih := plusR_ok (pt := pt) hq k (r + 1) (left / q) (at_ * q) (v + at_ * m) (by omega) (by omega)
    rw [plusR, hm, Int.pow_succ, Int.mul_comm (q ^ k) q, ← Int.mul_assoc]
    exact ih
theorem plusP_ok {q : Int} {pt : Int → Int} (hq : 0 < q) (c : Nat) (v : Int) : 0 ≤ plusP q c pt v ∧ plusP q c pt v < q ^ c := by
  have := plusR_ok (pt := pt) hq c 0 v 1 0 (by omega) (by omega)
  rw [Int.one_mul] at this
  exact this
