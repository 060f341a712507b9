/-! the class: Walk goes -/
/-- moves as the walk uses them -/
def WkS (m : Mu) (u : Int) (K : Nat) (nm : Int → Int) (N : Nat) (nx : Int → Int → Int) : Prop := ∃ L H : Int, (1 ≤ L ∧ 1 ≤ H ∧ L * H = N) ∧ (m u 4 = K ∧ m u 8 = L ∧ m u 9 = H) ∧ (K : Int) * (L + H) ≤ 7200 ∧ K ≤ 36 ∧ ∀ k : Int, 0 ≤ k → k < K → (m (u + 4) k = nm k ∧ 0 ≤ nm k ∧ nm k < 36) ∧ ∀ v : Int, 0 ≤ v → v < N → ((m (u + 3) (k * (L + H) + v % L) = -1 ∨ m (u + 3) (k * (L + H) + (L + v / L)) = -1) ∧ nx v (nm k) = -1) ∨ (0 ≤ m (u + 3) (k * (L + H) + v % L) ∧ 0 ≤ m (u + 3) (k * (L + H) + (L + v / L)) ∧ m (u + 3) (k * (L + H) + v % L) + m (u + 3) (k * (L + H) + (L + v / L)) = nx v (nm k))
theorem WkS.fr {μ m : Mu} {u : Int} {K N : Nat} {nm : Int → Int} {nx : Int → Int → Int} (h : WkS μ u K nm N nx) (hf : ∀ y j, (y = u ∧ 4 ≤ j ∧ j ≤ 9) ∨ y = u + 3 ∨ y = u + 4 → m y j = μ y j) : WkS m u K nm N nx := by
  obtain ⟨L, H, h1, ⟨h2, h3, h4⟩, h5, h6, h7⟩ := h
  refine ⟨L, H, h1, ⟨by rw [hf _ _ (by omega)]; exact h2, by rw [hf _ _ (by omega)]; exact h3, by rw [hf _ _ (by omega)]; exact h4⟩, h5, h6, fun k z1 z2 => ?_⟩
  obtain ⟨k1, k2⟩ := h7 k z1 z2
  exact ⟨by rw [hf _ _ (by omega)]; exact k1, fun v z3 z4 => by rw [hf _ _ (by omega), hf _ _ (by omega)]; exact k2 v z3 z4⟩
/-- what is kept tells moves -/
theorem CelS.wk {μ : Mu} {u q : Int} {c K N : Nat} {nm lp : Int → Int} {st nx : Int → Int → Int} (h : CelS μ u q c K nm st lp) (hq : 2 ≤ q ∧ q ≤ 5) (hN : q ^ c = N) (hK : K ≤ 36) (hroom : (K : Int) * (q ^ hlf c + q ^ (c - hlf c)) ≤ 7200) (hnm : ∀ k : Int, 0 ≤ k → k < K → 0 ≤ nm k ∧ nm k < 36) (hnx : ∀ k : Int, 0 ≤ k → k < K → ∀ v : Int, 0 ≤ v → v < N → nx v (nm k) = mvd q (st k) 0 (lp k) c v) : WkS μ u K nm N nx := by
  obtain ⟨⟨h4, h5, h6, h7, h8, h9⟩, hk⟩ := h
  have hh := hlf_b c
  have p3 := pw_pos (q := q) (by omega) (hlf c)
  have p4 := pw_pos (q := q) (by omega) (c - hlf c)
  have eN : q ^ hlf c * q ^ (c - hlf c) = N := by rw [← Int.pow_add, ← hN]; congr 1; omega
  refine ⟨q ^ hlf c, q ^ (c - hlf c), ⟨by omega, by omega, eN⟩, ⟨h4, h8, h9⟩, hroom, hK, fun k z1 z2 => ⟨⟨(hk k z1 z2).1, hnm k z1 z2⟩, fun v z3 z4 => ?_⟩⟩
  obtain ⟨-, k2, k3⟩ := hk k z1 z2
  have m0 := Int.emod_nonneg v (show q ^ hlf c ≠ 0 by omega)
  have m1 := Int.emod_lt_of_pos v p3
  have d0 := Int.ediv_nonneg z3 (show 0 ≤ q ^ hlf c by omega)
  have d1 : v / q ^ hlf c < q ^ (c - hlf c) := Int.ediv_lt_of_lt_mul p3 (by rw [Int.mul_comm, eN]; exact z4)
  rw [k2 _ m0 m1, k3 _ d0 d1, hnx k z1 z2 v z3 z4]
  rcases mvd_split (q := q) (by omega) (st := st k) (lp := lp k) (v := v) hh.1 with ⟨w1, w2⟩ | ⟨w1, w2, w3⟩
  · refine Or.inl ⟨?_, w2⟩
    rcases w1 with w | w
    · exact Or.inl w
    · exact Or.inr (by rw [if_pos w])
  · refine Or.inr ⟨w1, ?_, ?_⟩
    · rw [if_neg (by omega)]
      exact Int.mul_nonneg w2 (by omega)
    · rw [if_neg (by omega)]
      exact w3
def xRwM (nx : Int → Int → Int) (nm : Int → Int) (v lev fv : Int) : Nat → XF → XF
  | 0, Z => Z
  | k + 1, Z => xMv (nx v (nm k)) (nm k) lev fv (xRwM nx nm v lev fv k Z)
theorem xRwM_cong {nx : Int → Int → Int} {nm nm' : Int → Int} {v lev fv : Int} {Z : XF} : ∀ k : Nat, (∀ i : Int, 0 ≤ i → i < k → nm i = nm' i) → xRwM nx nm v lev fv k Z = xRwM nx nm' v lev fv k Z
  | 0, _ => rfl
  | k + 1, h => by
    show xMv _ _ _ _ _ = xMv _ _ _ _ _
    rw [xRwM_cong k (fun i z1 z2 => h i z1 (by omega)), h k (by omega) (by omega)]
def fOk (Z : XF) : Prop := ∀ t, -1 ≤ Z.f t ∧ Z.f t < 36
theorem xMv_inv {N : Nat} {Z : XF} {t b lev fv : Int} (h : BInv N Z.w) (hf : fOk Z) (ht : t = -1 ∨ (0 ≤ t ∧ t < N)) (hl : 0 ≤ lev ∧ lev < Z.w.last) (hb : 0 ≤ b ∧ b < 36) (hv : -1 ≤ fv ∧ fv < 36) : BInv N (xMv t b lev fv Z).w ∧ fOk (xMv t b lev fv Z) ∧ Z.w.last ≤ (xMv t b lev fv Z).w.last := by
  have h1 := bMv_inv (lev := lev) h ht hl
  have e : (xMv t b lev fv Z).w = bMv t lev Z.w := xMv_1
  rw [e]
  refine ⟨h1.1, ?_, h1.2.1⟩
  unfold xMv xCm
  split
  · exact hf
  · split
    · exact hf
    · intro x
      show -1 ≤ fup Z.f t (if fv = -1 then b else fv) x ∧ fup Z.f t (if fv = -1 then b else fv) x < 36
      by_cases e : x = t
      · rw [e, fup_s]
        split <;> omega
      · rw [fup_n e]; exact hf x
theorem xRwM_inv {N K : Nat} {nx : Int → Int → Int} {nm : Int → Int} {v lev fv : Int} {Z : XF} (h : BInv N Z.w) (hf : fOk Z) (hx : ∀ k : Int, 0 ≤ k → k < K → nx v (nm k) = -1 ∨ (0 ≤ nx v (nm k) ∧ nx v (nm k) < N)) (hl : 0 ≤ lev ∧ lev < Z.w.last) (hb : ∀ k : Int, 0 ≤ k → k < K → 0 ≤ nm k ∧ nm k < 36) (hv : -1 ≤ fv ∧ fv < 36) : ∀ k : Nat, k ≤ K → BInv N (xRwM nx nm v lev fv k Z).w ∧ fOk (xRwM nx nm v lev fv k Z) ∧ Z.w.last ≤ (xRwM nx nm v lev fv k Z).w.last
  | 0, _ => ⟨h, hf, Nat.le_refl _⟩
  | k + 1, hk => by
    obtain ⟨a1, a2, a3⟩ := xRwM_inv h hf hx hl hb hv k (by omega)
    obtain ⟨b1, b2, b3⟩ := xMv_inv (lev := lev) (fv := fv) (b := nm k) a1 a2 (hx k (by omega) (by omega)) (by omega) (hb k (by omega) (by omega)) hv
    exact ⟨b1, b2, Nat.le_trans a3 b3⟩
/-- the walk as it lies in memory -/
def WkR (m : Mu) (u tg : Int) (Z : XF) : Prop := m u 13 = Z.w.last ∧ m u 10 = tg ∧ m u 14 = Z.w.way tg ∧ m u 15 = Z.f tg ∧ (∀ t, 0 ≤ t → t < 20000 → m (u + 1) t = if Z.w.way t = -1 then 0 else Z.f t + 2) ∧ ∀ i : Int, 0 ≤ i → i < Z.w.last → m (u + 2) i = Z.w.que i
theorem WkR.fr {μ m : Mu} {u tg : Int} {Z : XF} (h : WkR μ u tg Z) (hf : ∀ y j, (y = u ∧ (j = 10 ∨ 13 ≤ j)) ∨ y = u + 1 ∨ y = u + 2 → m y j = μ y j) : WkR m u tg Z := by
  obtain ⟨h1, h2, h3, h4, h5, h6⟩ := h
  exact ⟨by rw [hf _ _ (by omega)]; exact h1, by rw [hf _ _ (by omega)]; exact h2, by rw [hf _ _ (by omega)]; exact h3, by rw [hf _ _ (by omega)]; exact h4, fun t z1 z2 => by rw [hf _ _ (by omega)]; exact h5 t z1 z2, fun i z1 z2 => by rw [hf _ _ (by omega)]; exact h6 i z1 z2⟩
theorem XI.fresh {nx : Int → Int → Int} {n N : Nat} {s : Int} {k : Nat} {Z : XF} (h : XI nx n N s k 0 Z) (hx : nxOk N n nx) : ∀ j : Nat, j ≤ n → ∀ i : Int, Z.w.last ≤ i → i < (xRw nx (Z.w.que k) (Z.w.way (Z.w.que k)) (Z.f (Z.w.que k)) j Z).w.last → (xRw nx (Z.w.que k) (Z.w.way (Z.w.que k)) (Z.f (Z.w.que k)) j Z).w.way ((xRw nx (Z.w.que k) (Z.w.way (Z.w.que k)) (Z.f (Z.w.que k)) j Z).w.que i) = Z.w.way (Z.w.que k) + 1
  | 0, _, i, z1, z2 => by
    have z2' : i < Z.w.last := z2
    omega
  | j + 1, hj, i, z1, z2 => by
    have ih := XI.fresh h hx j (by omega) i z1
    obtain ⟨a1, a2, a3, a4⟩ := h.moves hx j (by omega)
    have hk := h.2.1
    have vk := (h.1.2.1 k (by omega) (by omega)).2.1
    show (xMv (nx (Z.w.que k) j) j (Z.w.way (Z.w.que k)) (Z.f (Z.w.que k)) (xRw nx (Z.w.que k) (Z.w.way (Z.w.que k)) (Z.f (Z.w.que k)) j Z)).w.way ((xMv (nx (Z.w.que k) j) j (Z.w.way (Z.w.que k)) (Z.f (Z.w.que k)) (xRw nx (Z.w.que k) (Z.w.way (Z.w.que k)) (Z.f (Z.w.que k)) j Z)).w.que i) = Z.w.way (Z.w.que k) + 1
    have z2' : i < (xMv (nx (Z.w.que k) j) j (Z.w.way (Z.w.que k)) (Z.f (Z.w.que k)) (xRw nx (Z.w.que k) (Z.w.way (Z.w.que k)) (Z.f (Z.w.que k)) j Z)).w.last := z2
    generalize xRw nx (Z.w.que k) (Z.w.way (Z.w.que k)) (Z.f (Z.w.que k)) j Z = Y at *
    unfold xMv xCm at z2' ⊢
    split at z2'
    · rename_i c1
      rw [if_pos c1]
      exact ih z2'
    · rename_i c1
      rw [if_neg c1]
      split at z2'
      · rename_i c2
        rw [if_pos c2]
        exact ih z2'
      · rename_i c2
        rw [if_neg c2]
        have z3 : i < ((Y.w.last + 1 : Nat) : Int) := z2'
        show fup Y.w.way _ _ (fup Y.w.que Y.w.last _ i) = _
        by_cases e : i = Y.w.last
        · rw [e, fup_s, fup_s]
        · rw [fup_n e]
          have := ih (by omega)
          rw [fup_n (fun w => by rw [w] at this; exact c2 (by rw [this]; omega))]
          exact this
theorem lvC_ext {W : BF} {j lv : Int} {k : Nat} : ∀ c : Nat, (∀ i : Int, k ≤ i → i < k + c → W.way (W.que i) = lv) → lvC W j (k + c) = lvC W j k + (if j = lv then (c : Int) else 0)
  | 0, _ => by
    show lvC W j k = _
    split <;> omega
  | c + 1, h => by
    have ih := lvC_ext (j := j) c (fun i z1 z2 => h i z1 (by omega))
    show lvC W j (k + c) + (if W.way (W.que ((k + c : Nat) : Int)) = j then 1 else 0) = _
    rw [ih, h _ (by omega) (by omega)]
    by_cases e : j = lv
    · rw [if_pos e, if_pos e.symm, if_pos e]; omega
    · rw [if_neg e, if_neg (fun w => e w.symm), if_neg e]; omega
theorem lvC_0 {W : BF} {j : Int} : ∀ k : Nat, (∀ i : Int, 0 ≤ i → i < k → W.way (W.que i) ≠ j) → lvC W j k = 0
  | 0, _ => rfl
  | k + 1, h => by
    show lvC W j k + (if W.way (W.que k) = j then 1 else 0) = 0
    rw [lvC_0 k (fun i z1 z2 => h i z1 (by omega)), if_neg (h k (by omega) (by omega))]
    rfl
section CGo
variable {l : Launch} {G : Gx} {γ μ σ : Mu}
theorem c_comeTo (hl : l.stackTraces = false) (d : Nat) {u tg t fb lv : Int} {Z : XF} (hu : WalkAt G γ u) (hZ : WkR μ u tg Z) (hf : fOk Z) (ht : 0 ≤ t ∧ t < 20000) (hroom : Z.w.way t = -1 → Z.w.last < 20000) (hfb : -1 ≤ fb ∧ fb < 36) (hlv : 0 ≤ lv) : Cn l G yX6_comeTo cX6_comeTo 4 none d 0 [aR u, aI t, aI fb, aI lv] γ μ (fun r γ' μ' => r = none ∧ γ' = γ ∧ WkR μ' u tg (xCm t fb lv Z) ∧ ∀ y j, (y = u → j < 13) → y ≠ u + 1 → y ≠ u + 2 → μ' y j = μ y j) := by
  refine Cn.ofP hl (plainFor_of_name (by decide)) (noLc nlR (noLc nlI (noLc nlI (noL1 nlI)))) rfl (fun P hP o1 o3 X hX hC => B_X6_comeTo_0 hC hu.o ?_)
  obtain ⟨-, g0, s1, g1, s2, g2, s3, g3, s4, g11, s5⟩ := id hu
  obtain ⟨h1, h2, h3, h4, h5, h6⟩ := id hZ
  rw [g0, g1, h1, h2, h5 t ht.1 ht.2]
  have hft := hf t
  refine ⟨fun z => absurd z (by omega), fun _ => ⟨fun z => absurd z (by omega), fun _ => ⟨ixO s1 (by omega), fun h => ?_, fun h => ⟨Nat.le_refl _, hP _ _ _ ⟨rfl, rfl, ?_, fun _ _ _ _ _ => rfl⟩⟩⟩⟩⟩
  · have hw : Z.w.way t = -1 := by
      by_cases e : Z.w.way t = -1
      · exact e
      · rw [if_neg e] at h; omega
    have hlt := hroom hw
    have ex : xCm t fb lv Z = ((fup Z.w.way t lv, fup Z.w.que Z.w.last t, Z.w.last + 1), fup Z.f t fb) := by unfold xCm; rw [if_neg (fun z => z hw)]
    rw [ex] at hP
    have base : ∀ m : Mu, (∀ y j, (y = u → j < 13) → y ≠ u + 1 → y ≠ u + 2 → m y j = μ y j) → m u 13 = (Z.w.last : Int) + 1 → (∀ j, m (u + 1) j = up μ (u + 1) t (fb + 2) (u + 1) j) → (∀ j, m (u + 2) j = up μ (u + 2) Z.w.last t (u + 2) j) → m u 14 = fup Z.w.way t lv tg → m u 15 = fup Z.f t fb tg → P none γ m := fun m f1 f2 f3 f4 f5 f6 => by
      refine hP _ _ _ ⟨rfl, rfl, ⟨by show m u 13 = ((Z.w.last + 1 : Nat) : Int); rw [f2]; omega, by rw [f1 _ _ (by omega) (by omega) (by omega)]; exact h2, f5, f6, fun x z1 z2 => ?_, fun i z1 z2 => ?_⟩, f1⟩
      · show m (u + 1) x = if fup Z.w.way t lv x = -1 then 0 else fup Z.f t fb x + 2
        rw [f3]
        by_cases e : x = t
        · rw [e, up_same, fup_s, fup_s]
          rw [if_neg (by omega)]
        · rw [up_ne (by omega), fup_n e, fup_n e]
          exact h5 x z1 z2
      · have z2' : i < ((Z.w.last + 1 : Nat) : Int) := z2
        show m (u + 2) i = fup Z.w.que Z.w.last t i
        rw [f4]
        by_cases e : i = Z.w.last
        · rw [e, up_same, fup_s]
        · rw [up_ne (by omega), fup_n e]
          exact h6 i z1 (by omega)
    refine ⟨by constructor <;> omega, ixO s2 (by omega), by constructor <;> omega, fun e => ⟨Nat.le_refl _, base _ (fun y j z1 z2 z3 => by rw [up_ne (by omega), up_ne (by omega), up_ne (by omega)]) up_same (fun j => by rw [up_ne (by omega), up_ne (by omega)]) (fun j => ?_) ?_ ?_⟩, fun e => ⟨Nat.le_refl _, base _ (fun y j z1 z2 z3 => by rw [up_ne (by omega), up_ne (by omega), up_ne (by omega), up_ne (by omega), up_ne (by omega)]) (by rw [up_ne (by omega), up_ne (by omega), up_same]) (fun j => by rw [up_ne (by omega), up_ne (by omega), up_ne (by omega), up_ne (by omega)]) (fun j => ?_) ?_ ?_⟩⟩
    · rw [up_ne (by omega)]
      by_cases w : j = Z.w.last
      · rw [w, up_same, up_same]
      · rw [up_ne (by omega), up_ne (by omega), up_ne (by omega)]
    · rw [up_ne (by omega), up_ne (by omega), up_ne (by omega), fup_n (fun w => e w.symm)]
      exact h3
    · rw [up_ne (by omega), up_ne (by omega), up_ne (by omega), fup_n (fun w => e w.symm)]
      exact h4
    · rw [up_ne (by omega), up_ne (by omega), up_ne (by omega)]
      by_cases w : j = Z.w.last
      · rw [w, up_same, up_same]
      · rw [up_ne (by omega), up_ne (by omega), up_ne (by omega)]
    · rw [up_ne (by omega), up_same, e, fup_s]
    · rw [up_same, e, fup_s]
  · have hw : Z.w.way t ≠ -1 := fun e => h (by rw [if_pos e])
    unfold xCm
    rw [if_pos hw]
    exact hZ
end CGo
