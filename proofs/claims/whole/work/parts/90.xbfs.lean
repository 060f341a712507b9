/-! breadth first walks with the first move of each way; what the ways are -/
abbrev XF : Type := BF × (Int → Int)
abbrev XF.w (Z : XF) : BF := Z.1
abbrev XF.f (Z : XF) : Int → Int := Z.2
/-- a state is come to, by a first move, at a level -/
def xCm (t fb lv : Int) (Z : XF) : XF := if Z.w.way t ≠ -1 then Z else ((fup Z.w.way t lv, fup Z.w.que Z.w.last t, Z.w.last + 1), fup Z.f t fb)
def xMv (t b lev fv : Int) (Z : XF) : XF := if t = -1 then Z else xCm t (if fv = -1 then b else fv) (lev + 1) Z
def xRw (nx : Int → Int → Int) (v lev fv : Int) : Nat → XF → XF
  | 0, Z => Z
  | k + 1, Z => xMv (nx v k) k lev fv (xRw nx v lev fv k Z)
def xf0 (s : Int) : XF := (bf0 s, fun _ => -1)
def xRun (nx : Int → Int → Int) (n : Nat) (s : Int) : Nat → XF
  | 0 => xf0 s
  | k + 1 => if k < (xRun nx n s k).w.last then xRw nx ((xRun nx n s k).w.que k) ((xRun nx n s k).w.way ((xRun nx n s k).w.que k)) ((xRun nx n s k).f ((xRun nx n s k).w.que k)) n (xRun nx n s k) else xRun nx n s k
theorem xMv_1 {t b lev fv : Int} {Z : XF} : (xMv t b lev fv Z).1 = bMv t lev Z.1 := by
  unfold xMv bMv xCm
  by_cases h : t = -1
  · rw [if_pos h, if_pos (Or.inl h)]
  · by_cases h2 : Z.w.way t ≠ -1
    · rw [if_neg h, if_pos h2, if_pos (Or.inr h2)]
    · rw [if_neg h, if_neg h2, if_neg (show ¬ (t = -1 ∨ Z.1.way t ≠ -1) from fun w => w.elim h h2)]
theorem xRw_1 {nx : Int → Int → Int} {v lev fv : Int} {Z : XF} : ∀ k : Nat, (xRw nx v lev fv k Z).1 = bRw nx v lev k Z.1
  | 0 => rfl
  | k + 1 => by
    show (xMv _ _ _ _ _).1 = bMv _ _ _
    rw [xMv_1, xRw_1 k]
theorem xRun_1 {nx : Int → Int → Int} {n : Nat} {s : Int} : ∀ k : Nat, (xRun nx n s k).1 = bRun nx n s k
  | 0 => rfl
  | k + 1 => by
    have ih := xRun_1 (nx := nx) (n := n) (s := s) k
    have el : (xRun nx n s k).w.last = (bRun nx n s k).last := by show (xRun nx n s k).1.last = _; rw [ih]
    unfold xRun bRun
    by_cases h : k < (bRun nx n s k).last
    · rw [if_pos (show k < (xRun nx n s k).w.last by rw [el]; exact h), if_pos h, xRw_1]
      show bRw nx ((xRun nx n s k).1.que k) ((xRun nx n s k).1.way ((xRun nx n s k).1.que k)) n (xRun nx n s k).1 = _
      rw [ih]
    · rw [if_neg (show ¬ k < (xRun nx n s k).w.last by rw [el]; exact h), if_neg h, ih]
/-- ways of so many moves -/
def PF (nx : Int → Int → Int) (n : Nat) : Nat → Int → Int → Prop
  | 0, u, t => u = t
  | m + 1, u, t => ∃ p, PF nx n m u p ∧ ∃ b : Nat, b < n ∧ nx p b = t ∧ t ≠ -1
theorem PF_front {nx : Int → Int → Int} {n : Nat} {s u : Int} {b : Nat} (hb : b < n) (hu : nx s b = u) (h1 : u ≠ -1) : ∀ (m : Nat) (t : Int), PF nx n m u t → PF nx n (m + 1) s t
  | 0, t, h => by
    have h' : u = t := h
    subst h'
    exact ⟨s, rfl, b, hb, hu, h1⟩
  | m + 1, t, h => by
    obtain ⟨p, h2, c, h3⟩ := h
    exact ⟨p, PF_front hb hu h1 m p h2, c, h3⟩
theorem PF_back {nx : Int → Int → Int} {n : Nat} {s : Int} : ∀ (m : Nat) (t : Int), PF nx n (m + 1) s t → ∃ b : Nat, b < n ∧ nx s b ≠ -1 ∧ PF nx n m (nx s b) t
  | 0, t, h => by
    obtain ⟨p, h1, b, h2, h3, h4⟩ := h
    have h1' : s = p := h1
    subst h1'
    exact ⟨b, h2, by rw [h3]; exact h4, h3⟩
  | m + 1, t, h => by
    obtain ⟨p, h1, c, h2⟩ := h
    obtain ⟨b, b1, b2, b3⟩ := PF_back m p h1
    exact ⟨b, b1, b2, p, b3, c, h2⟩
/-- b begins a way to t of L moves -/
def FMp (nx : Int → Int → Int) (n : Nat) (s t L b : Int) : Prop := nx s b ≠ -1 ∧ PF nx n (L - 1).toNat (nx s b) t
/-- k of the queue gone through, and j moves of the next -/
def XI (nx : Int → Int → Int) (n N : Nat) (s : Int) (k j : Nat) (Z : XF) : Prop :=
  BInv N Z.w ∧ k < Z.w.last ∧ (Z.w.que 0 = s ∧ Z.w.way s = 0 ∧ Z.f s = -1) ∧
  (∀ t, Z.w.way t ≠ -1 → ∃ i : Int, 0 ≤ i ∧ i < Z.w.last ∧ Z.w.que i = t) ∧
  (∀ i i' : Int, 0 ≤ i → i ≤ i' → i' < Z.w.last → Z.w.way (Z.w.que i) ≤ Z.w.way (Z.w.que i')) ∧
  (∀ i : Int, 0 ≤ i → i < Z.w.last → Z.w.way (Z.w.que i) ≤ Z.w.way (Z.w.que k) + 1) ∧
  (∀ i : Int, 1 ≤ i → i < Z.w.last → 1 ≤ Z.w.way (Z.w.que i)) ∧
  (∀ i i' : Int, 1 ≤ i → i ≤ i' → i' < Z.w.last → Z.w.way (Z.w.que i) = Z.w.way (Z.w.que i') → Z.f (Z.w.que i) ≤ Z.f (Z.w.que i')) ∧
  (∀ (i : Int) (b : Nat), 0 ≤ i → (i < k ∧ b < n ∨ i = k ∧ b < j) → nx (Z.w.que i) b ≠ -1 → 0 ≤ Z.w.way (nx (Z.w.que i) b) ∧ Z.w.way (nx (Z.w.que i) b) ≤ Z.w.way (Z.w.que i) + 1) ∧
  (k = 0 → ∀ i : Int, 1 ≤ i → i < Z.w.last → Z.f (Z.w.que i) < j) ∧
  (1 ≤ k → ∀ i : Int, 1 ≤ i → i < Z.w.last → Z.w.way (Z.w.que i) = Z.w.way (Z.w.que k) + 1 → Z.f (Z.w.que i) ≤ Z.f (Z.w.que k)) ∧
  (∀ i : Int, 1 ≤ i → i < Z.w.last → (0 ≤ Z.f (Z.w.que i) ∧ Z.f (Z.w.que i) < n) ∧ FMp nx n s (Z.w.que i) (Z.w.way (Z.w.que i)) (Z.f (Z.w.que i)) ∧ ∀ b : Nat, b < n → FMp nx n s (Z.w.que i) (Z.w.way (Z.w.que i)) b → Z.f (Z.w.que i) ≤ b)
theorem XI.path {nx : Int → Int → Int} {n N : Nat} {s : Int} {k j : Nat} {Z : XF} (h : XI nx n N s k j Z) : ∀ (m : Nat) (t : Int), (m : Int) ≤ Z.w.way (Z.w.que k) → PF nx n m s t → 0 ≤ Z.w.way t ∧ Z.w.way t ≤ m
  | 0, t, _, hp => by
    have e : s = t := hp
    rw [← e, h.2.2.1.2.1]
    omega
  | m + 1, t, hm, hp => by
    obtain ⟨p, p1, b, p2, p3, p4⟩ := hp
    have ih := XI.path h m p (by omega) p1
    obtain ⟨h1, h2, h3, h4, h5, h6, h7, h8, h9, h10, h11, h12⟩ := h
    obtain ⟨i, i0, i1, i2⟩ := h4 p (by omega)
    have hik : i < k := by
      rcases Int.lt_or_le i k with w | w
      · exact w
      · have := h5 k i (by omega) w i1
        rw [i2] at this
        omega
    have := h9 i b i0 (Or.inl ⟨hik, p2⟩) (by rw [i2, p3]; exact p4)
    rw [i2, p3] at this
    omega
theorem XI_0 {nx : Int → Int → Int} {n N : Nat} {s : Int} (hs : 0 ≤ s ∧ s < N) : XI nx n N s 0 0 (xf0 s) := by
  have q0 : (xf0 s).w.que 0 = s := by show fup (fun _ => 0) 0 s 0 = s; exact fup_s
  have w0 : (xf0 s).w.way s = 0 := by show fup (fun _ => -1) s 0 s = 0; exact fup_s
  have l1 : (xf0 s).w.last = 1 := rfl
  refine ⟨bf0_inv hs, by rw [l1]; omega, ⟨q0, w0, rfl⟩, fun t ht => ?_, fun i i' z1 z2 z3 => ?_, fun i z1 z2 => ?_, fun i z1 z2 => ?_, fun i i' z1 z2 z3 => ?_, fun i b z1 z2 => ?_, fun _ i z1 z2 => ?_, fun h => ?_, fun i z1 z2 => ?_⟩
  · refine ⟨0, Int.le_refl _, by rw [l1]; decide, ?_⟩
    rw [q0]
    by_cases e : t = s
    · exact e.symm
    · exact absurd (show (xf0 s).w.way t = -1 by show fup (fun _ => -1) s 0 t = -1; exact fup_n e) ht
  · rw [l1] at z3
    obtain rfl : i = i' := by omega
    exact Int.le_refl _
  · rw [l1] at z2
    obtain rfl : i = 0 := by omega
    show (xf0 s).w.way ((xf0 s).w.que 0) ≤ (xf0 s).w.way ((xf0 s).w.que 0) + 1
    omega
  · rw [l1] at z2; omega
  · rw [l1] at z3; omega
  · omega
  · rw [l1] at z2; omega
  · omega
  · rw [l1] at z2; omega
theorem XI.next {nx : Int → Int → Int} {n N : Nat} {s : Int} {k : Nat} {Z : XF} (h : XI nx n N s k n Z) (hk : k + 1 < Z.w.last) : XI nx n N s (k + 1) 0 Z := by
  obtain ⟨h1, h2, h3, h4, h5, h6, h7, h8, h9, h10, h11, h12⟩ := h
  have e : ((k + 1 : Nat) : Int) = (k : Int) + 1 := by omega
  have hs := h5 k (k + 1) (by omega) (by omega) (by omega)
  refine ⟨h1, hk, h3, h4, h5, fun i z1 z2 => ?_, h7, h8, fun i b z1 z2 => ?_, fun w => by omega, fun _ i z1 z2 z3 => ?_, h12⟩
  · have := h6 i z1 z2
    rw [e]
    omega
  · refine h9 i b z1 ?_
    rcases z2 with ⟨w1, w2⟩ | ⟨w1, w2⟩
    · by_cases e2 : i = k
      · exact Or.inr ⟨e2, w2⟩
      · exact Or.inl ⟨by omega, w2⟩
    · omega
  · rw [e] at z3 ⊢
    have b1 := h6 i (by omega) z2
    have b2 := h6 (k + 1) (by omega) (by omega)
    have w : Z.w.way (Z.w.que (k + 1)) = Z.w.way (Z.w.que k) := by omega
    rw [w] at z3
    by_cases ek : 1 ≤ k
    · have := h11 ek i z1 z2 z3
      have := h8 k (k + 1) (by omega) (by omega) (by omega) w.symm
      omega
    · have k0 : k = 0 := by omega
      subst k0
      have := h7 (0 + 1) (by omega) (by omega)
      have q0 : Z.w.way (Z.w.que ((0 : Nat) : Int)) = 0 := by
        show Z.w.way (Z.w.que 0) = 0
        rw [h3.1]; exact h3.2.1
      rw [q0] at w
      have w' : Z.w.way (Z.w.que (0 + 1)) = 0 := w
      omega
theorem XI.move {nx : Int → Int → Int} {n N : Nat} {s : Int} {k j : Nat} {Z : XF} (h : XI nx n N s k j Z) (hj : j < n) (hx : nxOk N n nx) : XI nx n N s k (j + 1) (xMv (nx (Z.w.que k) j) j (Z.w.way (Z.w.que k)) (Z.f (Z.w.que k)) Z) ∧ (∀ i : Int, i < Z.w.last → (xMv (nx (Z.w.que k) j) j (Z.w.way (Z.w.que k)) (Z.f (Z.w.que k)) Z).w.que i = Z.w.que i) ∧ (∀ t, Z.w.way t ≠ -1 → (xMv (nx (Z.w.que k) j) j (Z.w.way (Z.w.que k)) (Z.f (Z.w.que k)) Z).w.way t = Z.w.way t ∧ (xMv (nx (Z.w.que k) j) j (Z.w.way (Z.w.que k)) (Z.f (Z.w.que k)) Z).f t = Z.f t) := by
  have hp := fun m t => h.path m t
  obtain ⟨h1, h2, h3, h4, h5, h6, h7, h8, h9, h10, h11, h12⟩ := id h
  obtain ⟨v1, v2, v3⟩ := h1.2.1 k (by omega) (by omega)
  generalize hv : Z.w.que (k : Int) = v at *
  have same : (nx v j ≠ -1 → 0 ≤ Z.w.way (nx v j) ∧ Z.w.way (nx v j) ≤ Z.w.way v + 1) → XI nx n N s k (j + 1) Z := fun hc => by
    refine ⟨h1, h2, h3, h4, h5, by rw [hv]; exact h6, h7, h8, fun i b z1 z2 z3 => ?_, fun w i z1 z2 => ?_, by rw [hv]; exact h11, h12⟩
    · by_cases e : i = k ∧ b = j
      · rw [e.1, e.2, hv] at z3 ⊢
        exact hc z3
      · refine h9 i b z1 ?_ z3
        rcases z2 with w | w
        · exact Or.inl w
        · exact Or.inr ⟨w.1, by omega⟩
    · have := h10 w i z1 z2
      omega
  have hnx := hx v v1.1 v1.2 j hj
  unfold xMv
  by_cases c1 : nx v j = -1
  · rw [if_pos c1]
    exact ⟨same (fun w => absurd c1 w), fun _ _ => rfl, fun _ _ => ⟨rfl, rfl⟩⟩
  rw [if_neg c1]
  unfold xCm
  by_cases c2 : Z.w.way (nx v j) ≠ -1
  · rw [if_pos c2]
    refine ⟨same (fun _ => ?_), fun _ _ => rfl, fun _ _ => ⟨rfl, rfl⟩⟩
    obtain ⟨i, i0, i1, i2⟩ := h4 _ c2
    have b1 := h6 i i0 i1
    have b2 := h1.2.2.2 (nx v j)
    rw [i2] at b1
    omega
  rw [if_neg c2]
  have c3 : Z.w.way (nx v j) = -1 := Decidable.byContradiction c2
  have hB := bMv_inv (lev := Z.w.way v) h1 (t := nx v j) hnx (by omega)
  have eB : bMv (nx v j) (Z.w.way v) Z.w = (fup Z.w.way (nx v j) (Z.w.way v + 1), fup Z.w.que Z.w.last (nx v j), Z.w.last + 1) := by
    unfold bMv
    rw [if_neg (fun w => w.elim c1 c2)]
  rw [eB] at hB
  generalize ht : nx v (j : Int) = t at *
  have k0v : k = 0 → v = s := fun w => by subst w; rw [← hv]; exact h3.1
  have lev0 : Z.w.way v = 0 → k = 0 := fun w => by
    by_cases ek : k = 0
    · exact ek
    · have := h7 k (by omega) (by omega)
      rw [hv] at this
      omega
  generalize hfb : (if Z.f v = -1 then (j : Int) else Z.f v) = fb
  have fb0 : k = 0 → fb = j := fun w => by rw [← hfb, k0v w, h3.2.2, if_pos rfl]
  have hfk : 1 ≤ k → (0 ≤ Z.f v ∧ Z.f v < n) ∧ FMp nx n s v (Z.w.way v) (Z.f v) ∧ ∀ b : Nat, b < n → FMp nx n s v (Z.w.way v) b → Z.f v ≤ b := fun w => by
    have := h12 k (by omega) (by omega)
    rw [hv] at this
    exact this
  have fb1 : 1 ≤ k → fb = Z.f v := fun w => by
    have := (hfk w).1
    rw [← hfb, if_neg (by omega)]
  have Q : ∀ i : Int, i < Z.w.last → fup Z.w.que Z.w.last t i = Z.w.que i := fun i w => fup_n (by omega)
  have QL : fup Z.w.que Z.w.last t Z.w.last = t := fup_s
  have T : ∀ u, Z.w.way u ≠ -1 → fup Z.w.way t (Z.w.way v + 1) u = Z.w.way u ∧ fup Z.f t fb u = Z.f u := fun u w => by
    have : u ≠ t := fun e => w (by rw [e]; exact c3)
    exact ⟨fup_n this, fup_n this⟩
  have TL : fup Z.w.way t (Z.w.way v + 1) t = Z.w.way v + 1 ∧ fup Z.f t fb t = fb := ⟨fup_s, fup_s⟩
  have vis : ∀ i : Int, 0 ≤ i → i < Z.w.last → Z.w.way (Z.w.que i) ≠ -1 := fun i z1 z2 => by have := (h1.2.1 i z1 z2).2.1; omega
  refine ⟨?_, fun i w => Q i w, fun u w => T u w⟩
  have ek : fup Z.w.que Z.w.last t k = v := by rw [Q k (by omega), hv]
  have wk : fup Z.w.way t (Z.w.way v + 1) v = Z.w.way v ∧ fup Z.f t fb v = Z.f v := T v (by omega)
  unfold XI
  show BInv N (fup Z.w.way t (Z.w.way v + 1), fup Z.w.que Z.w.last t, Z.w.last + 1) ∧ _
  refine ⟨hB.1, by show k < Z.w.last + 1; omega, ⟨by show fup Z.w.que Z.w.last t 0 = s; rw [Q 0 (by omega)]; exact h3.1, ?_, ?_⟩, ?_, ?_, ?_, ?_, ?_, ?_, ?_, ?_, ?_⟩
  · show fup Z.w.way t (Z.w.way v + 1) s = 0
    rw [(T s (by rw [h3.2.1]; decide)).1]; exact h3.2.1
  · show fup Z.f t fb s = -1
    rw [(T s (by rw [h3.2.1]; decide)).2]; exact h3.2.2
  · intro u hu
    by_cases e : u = t
    · exact ⟨Z.w.last, by omega, by show (Z.w.last : Int) < ((Z.w.last + 1 : Nat) : Int); omega, by rw [e]; exact QL⟩
    · have hu' : fup Z.w.way t (Z.w.way v + 1) u ≠ -1 := hu
      rw [fup_n e] at hu'
      obtain ⟨i, i0, i1, i2⟩ := h4 u hu'
      exact ⟨i, i0, by show i < ((Z.w.last + 1 : Nat) : Int); omega, by show fup Z.w.que Z.w.last t i = u; rw [Q i i1]; exact i2⟩
  · intro i i' z1 z2 z3
    have z3' : i' < ((Z.w.last + 1 : Nat) : Int) := z3
    show fup Z.w.way t (Z.w.way v + 1) (fup Z.w.que Z.w.last t i) ≤ fup Z.w.way t (Z.w.way v + 1) (fup Z.w.que Z.w.last t i')
    by_cases e : i' = Z.w.last
    · rw [e, QL, TL.1]
      by_cases e2 : i = Z.w.last
      · rw [e2, QL, TL.1]; exact Int.le_refl _
      · rw [Q i (by omega), (T _ (vis i z1 (by omega))).1]
        exact h6 i z1 (by omega)
    · rw [Q i' (by omega), Q i (by omega), (T _ (vis i z1 (by omega))).1, (T _ (vis i' (by omega) (by omega))).1]
      exact h5 i i' z1 z2 (by omega)
  · intro i z1 z2
    have z2' : i < ((Z.w.last + 1 : Nat) : Int) := z2
    show fup Z.w.way t (Z.w.way v + 1) (fup Z.w.que Z.w.last t i) ≤ fup Z.w.way t (Z.w.way v + 1) (fup Z.w.que Z.w.last t k) + 1
    rw [ek, wk.1]
    by_cases e : i = Z.w.last
    · rw [e, QL, TL.1]; exact Int.le_refl _
    · rw [Q i (by omega), (T _ (vis i z1 (by omega))).1]
      exact h6 i z1 (by omega)
  · intro i z1 z2
    have z2' : i < ((Z.w.last + 1 : Nat) : Int) := z2
    show 1 ≤ fup Z.w.way t (Z.w.way v + 1) (fup Z.w.que Z.w.last t i)
    by_cases e : i = Z.w.last
    · rw [e, QL, TL.1]; omega
    · rw [Q i (by omega), (T _ (vis i (by omega) (by omega))).1]
      exact h7 i z1 (by omega)
  · intro i i' z1 z2 z3 z4
    have z3' : i' < ((Z.w.last + 1 : Nat) : Int) := z3
    have z4' : fup Z.w.way t (Z.w.way v + 1) (fup Z.w.que Z.w.last t i) = fup Z.w.way t (Z.w.way v + 1) (fup Z.w.que Z.w.last t i') := z4
    show fup Z.f t fb (fup Z.w.que Z.w.last t i) ≤ fup Z.f t fb (fup Z.w.que Z.w.last t i')
    by_cases e : i' = Z.w.last
    · rw [e, QL, TL.1] at z4'
      rw [e, QL, TL.2]
      by_cases e2 : i = Z.w.last
      · rw [e2, QL, TL.2]; exact Int.le_refl _
      · rw [Q i (by omega), (T _ (vis i (by omega) (by omega))).1] at z4'
        rw [Q i (by omega), (T _ (vis i (by omega) (by omega))).2]
        by_cases e3 : k = 0
        · have := h10 e3 i z1 (by omega)
          rw [fb0 e3]; omega
        · rw [fb1 (by omega)]
          exact h11 (by omega) i z1 (by omega) z4'
    · rw [Q i' (by omega), Q i (by omega), (T _ (vis i (by omega) (by omega))).1, (T _ (vis i' (by omega) (by omega))).1] at z4'
      rw [Q i' (by omega), Q i (by omega), (T _ (vis i (by omega) (by omega))).2, (T _ (vis i' (by omega) (by omega))).2]
      exact h8 i i' z1 z2 (by omega) z4'
  · intro i b z1 z2 z3
    have hi : i < Z.w.last := by rcases z2 with w | w <;> omega
    have z3' : nx (fup Z.w.que Z.w.last t i) b ≠ -1 := z3
    show 0 ≤ fup Z.w.way t (Z.w.way v + 1) (nx (fup Z.w.que Z.w.last t i) b) ∧ fup Z.w.way t (Z.w.way v + 1) (nx (fup Z.w.que Z.w.last t i) b) ≤ fup Z.w.way t (Z.w.way v + 1) (fup Z.w.que Z.w.last t i) + 1
    rw [Q i hi] at z3' ⊢
    rw [(T _ (vis i z1 hi)).1]
    by_cases e : i = k ∧ b = j
    · rw [e.1, e.2, hv, ht, TL.1]
      omega
    · have := h9 i b z1 (by
        rcases z2 with w | w
        · exact Or.inl w
        · exact Or.inr ⟨w.1, by omega⟩) z3'
      rw [(T _ (by omega)).1]
      exact this
  · intro w i z1 z2
    have z2' : i < ((Z.w.last + 1 : Nat) : Int) := z2
    show fup Z.f t fb (fup Z.w.que Z.w.last t i) < ((j + 1 : Nat) : Int)
    by_cases e : i = Z.w.last
    · rw [e, QL, TL.2, fb0 w]; omega
    · rw [Q i (by omega), (T _ (vis i (by omega) (by omega))).2]
      have := h10 w i z1 (by omega)
      omega
  · intro w i z1 z2 z3
    have z2' : i < ((Z.w.last + 1 : Nat) : Int) := z2
    have z3' : fup Z.w.way t (Z.w.way v + 1) (fup Z.w.que Z.w.last t i) = fup Z.w.way t (Z.w.way v + 1) (fup Z.w.que Z.w.last t k) + 1 := z3
    show fup Z.f t fb (fup Z.w.que Z.w.last t i) ≤ fup Z.f t fb (fup Z.w.que Z.w.last t k)
    rw [ek, wk.1] at z3'
    rw [ek, wk.2]
    by_cases e : i = Z.w.last
    · rw [e, QL, TL.2, fb1 w]; exact Int.le_refl _
    · rw [Q i (by omega), (T _ (vis i (by omega) (by omega))).1] at z3'
      rw [Q i (by omega), (T _ (vis i (by omega) (by omega))).2]
      exact h11 w i z1 (by omega) z3'
  · intro i z1 z2
    have z2' : i < ((Z.w.last + 1 : Nat) : Int) := z2
    show (0 ≤ fup Z.f t fb (fup Z.w.que Z.w.last t i) ∧ fup Z.f t fb (fup Z.w.que Z.w.last t i) < n) ∧ FMp nx n s (fup Z.w.que Z.w.last t i) (fup Z.w.way t (Z.w.way v + 1) (fup Z.w.que Z.w.last t i)) (fup Z.f t fb (fup Z.w.que Z.w.last t i)) ∧ ∀ b : Nat, b < n → FMp nx n s (fup Z.w.que Z.w.last t i) (fup Z.w.way t (Z.w.way v + 1) (fup Z.w.que Z.w.last t i)) b → fup Z.f t fb (fup Z.w.que Z.w.last t i) ≤ b
    by_cases e : i = Z.w.last
    · rw [e, QL, TL.1, TL.2]
      by_cases e3 : k = 0
      · have ev := k0v e3
        have e0 : Z.w.way v = 0 := by rw [ev]; exact h3.2.1
        rw [fb0 e3, e0]
        refine ⟨by omega, ⟨by rw [← ev, ht]; exact c1, ?_⟩, fun b hb hf => ?_⟩
        · show nx s j = t
          rw [← ev]; exact ht
        · have hf2 : nx s b = t := hf.2
          rcases Nat.lt_or_ge b j with w | w
          · have := (h9 0 b (Int.le_refl _) (Or.inr ⟨by omega, w⟩) (by rw [h3.1, hf2]; exact c1)).1
            rw [h3.1, hf2] at this
            omega
          · omega
      · obtain ⟨f1, f2, f3⟩ := hfk (by omega)
        have l1 : 1 ≤ Z.w.way v := by have := h7 k (by omega) (by omega); rw [hv] at this; exact this
        rw [fb1 (by omega)]
        refine ⟨f1, ⟨f2.1, ?_⟩, fun b hb hf => ?_⟩
        · rw [show (Z.w.way v + 1 - 1).toNat = (Z.w.way v - 1).toNat + 1 by omega]
          exact ⟨v, f2.2, j, hj, ht, c1⟩
        · obtain ⟨g1, g2⟩ := hf
          rw [show (Z.w.way v + 1 - 1).toNat = (Z.w.way v - 1).toNat + 1 by omega] at g2
          obtain ⟨p, p1, c, p2, p3, p4⟩ := g2
          have hps := PF_front hb rfl g1 _ p p1
          have wp := hp _ p (by omega) hps
          obtain ⟨i', i0, i1, i2⟩ := h4 p (by omega)
          have hk' : (k : Int) ≤ i' := by
            rcases Int.lt_or_le i' k with w | w
            · have := (h9 i' c i0 (Or.inl ⟨w, p2⟩) (by rw [i2, p3]; exact p4)).1
              rw [i2, p3] at this
              omega
            · exact w
          have hle := h5 k i' (by omega) hk' i1
          rw [hv, i2] at hle
          have ew : Z.w.way p = Z.w.way v := by omega
          have m1 := h8 k i' (by omega) hk' i1 (by rw [hv, i2, ew])
          rw [hv, i2] at m1
          have m2 := (h12 i' (by omega) i1).2.2 b hb
          rw [i2, ew] at m2
          have := m2 ⟨g1, p1⟩
          omega
    · rw [Q i (by omega), (T _ (vis i (by omega) (by omega))).1, (T _ (vis i (by omega) (by omega))).2]
      exact h12 i z1 (by omega)
theorem XI.moves {nx : Int → Int → Int} {n N : Nat} {s : Int} {k : Nat} {Z : XF} (h : XI nx n N s k 0 Z) (hx : nxOk N n nx) : ∀ j : Nat, j ≤ n → XI nx n N s k j (xRw nx (Z.w.que k) (Z.w.way (Z.w.que k)) (Z.f (Z.w.que k)) j Z) ∧ (∀ i : Int, i < Z.w.last → (xRw nx (Z.w.que k) (Z.w.way (Z.w.que k)) (Z.f (Z.w.que k)) j Z).w.que i = Z.w.que i) ∧ (∀ t, Z.w.way t ≠ -1 → (xRw nx (Z.w.que k) (Z.w.way (Z.w.que k)) (Z.f (Z.w.que k)) j Z).w.way t = Z.w.way t ∧ (xRw nx (Z.w.que k) (Z.w.way (Z.w.que k)) (Z.f (Z.w.que k)) j Z).f t = Z.f t) ∧ Z.w.last ≤ (xRw nx (Z.w.que k) (Z.w.way (Z.w.que k)) (Z.f (Z.w.que k)) j Z).w.last
  | 0, _ => ⟨h, fun _ _ => rfl, fun _ _ => ⟨rfl, rfl⟩, Nat.le_refl _⟩
  | j + 1, hj => by
    obtain ⟨a1, a2, a3, a4⟩ := XI.moves h hx j (by omega)
    have hk := h.2.1
    have vk : Z.w.way (Z.w.que k) ≠ -1 := by have := (h.1.2.1 k (by omega) (by omega)).2.1; omega
    have e1 := a2 k (by omega)
    have e2 := a3 _ vk
    have hm := a1.move (show j < n by omega) hx
    rw [e1, e2.1, e2.2] at hm
    obtain ⟨b1, b2, b3⟩ := hm
    have hl : (xRw nx (Z.w.que k) (Z.w.way (Z.w.que k)) (Z.f (Z.w.que k)) j Z).w.last ≤ (xRw nx (Z.w.que k) (Z.w.way (Z.w.que k)) (Z.f (Z.w.que k)) (j + 1) Z).w.last := by
      show _ ≤ (xMv _ _ _ _ _).w.last
      unfold xMv xCm
      split
      · exact Nat.le_refl _
      · split
        · exact Nat.le_refl _
        · exact Nat.le_succ _
    refine ⟨b1, fun i hi => ?_, fun t ht => ?_, Nat.le_trans a4 hl⟩
    · show (xMv _ _ _ _ _).w.que i = _
      rw [b2 i (by omega), a2 i hi]
    · have h1 := a3 t ht
      have h2 := b3 t (by rw [h1.1]; exact ht)
      refine ⟨?_, ?_⟩
      · show (xMv _ _ _ _ _).w.way t = _
        rw [h2.1, h1.1]
      · show (xMv _ _ _ _ _).f t = _
        rw [h2.2, h1.2]
/-- what the whole walk tells -/
theorem XI.fin {nx : Int → Int → Int} {n N : Nat} {s : Int} {k : Nat} {Z : XF} (h : XI nx n N s k n Z) (hk : k + 1 = Z.w.last) : (∀ (m : Nat) (t : Int), PF nx n m s t → 0 ≤ Z.w.way t ∧ Z.w.way t ≤ m) ∧ (∀ t, Z.w.way t ≠ -1 → PF nx n (Z.w.way t).toNat s t) ∧ (∀ t, 1 ≤ Z.w.way t → (0 ≤ Z.f t ∧ Z.f t < n) ∧ FMp nx n s t (Z.w.way t) (Z.f t) ∧ ∀ b : Nat, b < n → FMp nx n s t (Z.w.way t) b → Z.f t ≤ b) ∧ ∀ t, Z.w.way t = 0 → t = s := by
  obtain ⟨h1, h2, h3, h4, h5, h6, h7, h8, h9, h10, h11, h12⟩ := h
  have pos : ∀ t, 1 ≤ Z.w.way t → ∃ i : Int, 1 ≤ i ∧ i < Z.w.last ∧ Z.w.que i = t := fun t ht => by
    obtain ⟨i, i0, i1, i2⟩ := h4 t (by omega)
    refine ⟨i, ?_, i1, i2⟩
    by_cases e : i = 0
    · rw [e, h3.1] at i2
      rw [← i2, h3.2.1] at ht
      omega
    · omega
  have zer : ∀ t, Z.w.way t = 0 → t = s := fun t ht => by
    obtain ⟨i, i0, i1, i2⟩ := h4 t (by omega)
    by_cases e : i = 0
    · rw [← i2, e, h3.1]
    · have := h7 i (by omega) i1
      rw [i2] at this
      omega
  refine ⟨fun m => ?_, fun t ht => ?_, fun t ht => ?_, zer⟩
  · induction m with
    | zero =>
      intro t hp
      have e : s = t := hp
      rw [← e, h3.2.1]
      exact ⟨Int.le_refl _, Int.le_refl _⟩
    | succ m ih =>
      intro t hp
      obtain ⟨p, p1, b, p2, p3, p4⟩ := hp
      have hp := ih p p1
      obtain ⟨i, i0, i1, i2⟩ := h4 p (by omega)
      have := h9 i b i0 (by
        by_cases e : i = k
        · exact Or.inr ⟨e, p2⟩
        · exact Or.inl ⟨by omega, p2⟩) (by rw [i2, p3]; exact p4)
      rw [i2, p3] at this
      omega
  · rcases Int.lt_or_le 0 (Z.w.way t) with w | w
    · obtain ⟨i, i0, i1, i2⟩ := pos t (by omega)
      obtain ⟨f1, f2, f3⟩ := h12 i i0 i1
      rw [i2] at f1 f2
      have := PF_front (b := (Z.f t).toNat) (by omega) (by rw [Int.toNat_of_nonneg f1.1]) f2.1 _ t f2.2
      rw [show (Z.w.way t).toNat = (Z.w.way t - 1).toNat + 1 by omega]
      exact this
    · have := h1.2.2.2 t
      have e : Z.w.way t = 0 := by omega
      rw [e, zer t e]
      rfl
  · obtain ⟨i, i0, i1, i2⟩ := pos t ht
    have := h12 i i0 i1
    rw [i2] at this
    exact this
theorem xRun_XI {nx : Int → Int → Int} {n N : Nat} {s : Int} (hs : 0 ≤ s ∧ s < N) (hx : nxOk N n nx) : ∀ k : Nat, k < (xRun nx n s k).w.last → XI nx n N s k 0 (xRun nx n s k)
  | 0, _ => XI_0 hs
  | k + 1, h => by
    have hk : k < (xRun nx n s k).w.last := by
      rcases Nat.lt_or_ge k (xRun nx n s k).w.last with w | w
      · exact w
      · unfold xRun at h
        rw [if_neg (by omega)] at h
        omega
    have ih := xRun_XI hs hx k hk
    have hm := (ih.moves hx n (Nat.le_refl _)).1
    have e : xRun nx n s (k + 1) = xRw nx ((xRun nx n s k).w.que k) ((xRun nx n s k).w.way ((xRun nx n s k).w.que k)) ((xRun nx n s k).f ((xRun nx n s k).w.que k)) n (xRun nx n s k) := by
      conv => lhs; unfold xRun
      rw [if_pos hk]
    rw [e] at h ⊢
    exact hm.next h
theorem xRun_fin {nx : Int → Int → Int} {n N : Nat} {s : Int} (hs : 0 ≤ s ∧ s < N) (hx : nxOk N n nx) {k : Nat} (hk : k < (xRun nx n s k).w.last) (h : (xRun nx n s (k + 1)).w.last = k + 1) : XI nx n N s k n (xRun nx n s (k + 1)) := by
  have hm := ((xRun_XI hs hx k hk).moves hx n (Nat.le_refl _)).1
  have e : xRun nx n s (k + 1) = xRw nx ((xRun nx n s k).w.que k) ((xRun nx n s k).w.way ((xRun nx n s k).w.que k)) ((xRun nx n s k).f ((xRun nx n s k).w.que k)) n (xRun nx n s k) := by
    conv => lhs; unfold xRun
    rw [if_pos hk]
  rw [e]
  exact hm
/-- every walk comes to an end -/
theorem xRun_stop {nx : Int → Int → Int} {n N : Nat} {s : Int} (hs : 0 ≤ s ∧ s < N) (hx : nxOk N n nx) : ∃ k : Nat, k < (xRun nx n s k).w.last ∧ (xRun nx n s (k + 1)).w.last = k + 1 ∧ k + 1 ≤ N ∧ bRun nx n s N = (xRun nx n s (k + 1)).w := by
  have key : ∀ c k : Nat, k + c = N → k < (xRun nx n s k).w.last → ∃ k : Nat, k < (xRun nx n s k).w.last ∧ (xRun nx n s (k + 1)).w.last = k + 1 ∧ k + 1 ≤ N := by
    intro c
    induction c with
    | zero =>
      intro k hk hl
      have := (xRun_XI hs hx k hl).1.le
      omega
    | succ c ih =>
      intro k hk hl
      have hm := (xRun_XI hs hx k hl).moves hx n (Nat.le_refl _)
      have e : xRun nx n s (k + 1) = xRw nx ((xRun nx n s k).w.que k) ((xRun nx n s k).w.way ((xRun nx n s k).w.que k)) ((xRun nx n s k).f ((xRun nx n s k).w.que k)) n (xRun nx n s k) := by
        conv => lhs; unfold xRun
        rw [if_pos hl]
      have h2 := hm.2.2.2
      rw [← e] at h2
      rcases Nat.lt_or_ge (k + 1) (xRun nx n s (k + 1)).w.last with w | w
      · exact ih (k + 1) (by omega) w
      · exact ⟨k, hl, by omega, by omega⟩
  obtain ⟨k, h1, h2, h3⟩ := key N 0 (by omega) (by show 0 < 1; decide)
  refine ⟨k, h1, h2, h3, ?_⟩
  have e := xRun_1 (nx := nx) (n := n) (s := s) (k + 1)
  show _ = (xRun nx n s (k + 1)).1
  rw [e]
  refine bRun_end2 ?_ h3
  rw [← e]
  exact Nat.le_of_eq h2
