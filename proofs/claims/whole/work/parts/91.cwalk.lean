/-! the class: Walk, how a move of digits is kept -/
theorem rst_eq {q v : Int} (hq : 0 < q) : ∀ k : Nat, rst q v k = v / q ^ k
  | 0 => by rw [Int.pow_zero, Int.ediv_one]; rfl
  | k + 1 => by
    show rst q v k / q = _
    rw [rst_eq hq k, Int.pow_succ, Int.ediv_ediv_of_nonneg (by have := pw_pos hq k; omega)]
theorem dgF_eq {q v : Int} (hq : 0 < q) {k : Nat} : dgF q v k = v / q ^ k % q := by
  unfold dgF
  rw [Int.toNat_natCast, rst_eq hq]
theorem dgF_lo {q v : Int} (hq : 0 < q) {a i : Nat} (h : i < a) : dgF q (v % q ^ a) i = dgF q v i := by
  rw [dgF_eq hq, dgF_eq hq]
  have hp := pw_pos hq i
  obtain ⟨e, he⟩ : ∃ e : Nat, a = i + (e + 1) := ⟨a - i - 1, by omega⟩
  have h1 := Int.mul_ediv_add_emod v (q ^ a)
  have h2 : q ^ a = q ^ i * (q * q ^ e) := by rw [he, Int.pow_add, Int.pow_succ, Int.mul_comm (q ^ e) q]
  have h3 : v = v % q ^ a + q ^ i * (q * q ^ e * (v / q ^ a)) := by
    rw [← Int.mul_assoc, ← h2]
    omega
  conv => rhs; rw [h3]
  rw [Int.add_mul_ediv_left _ _ (by omega), Int.mul_assoc, Int.add_mul_emod_self_left]
theorem dgF_hi {q v : Int} (hq : 0 < q) {a i : Nat} : dgF q (v / q ^ a) i = dgF q v (a + i : Nat) := by
  have hp := pw_pos hq a
  rw [dgF_eq hq, dgF_eq hq, Int.ediv_ediv_of_nonneg (by omega), Int.pow_add]
theorem dgF_in {q v : Int} (hq : 0 < q) (j : Int) : 0 ≤ dgF q v j ∧ dgF q v j < q := ⟨Int.emod_nonneg _ (by omega), Int.emod_lt_of_pos _ hq⟩
theorem vlN_split {q : Int} {d : Int → Int} {a : Nat} : ∀ b : Nat, vlN q d (a + b) = vlN q d a + q ^ a * vlN q (fun i => d (a + i)) b
  | 0 => by show vlN q d a = vlN q d a + q ^ a * 0; rw [Int.mul_zero, Int.add_zero]
  | b + 1 => by
    show vlN q d (a + b) + d ((a + b : Nat) : Int) * q ^ (a + b) = vlN q d a + q ^ a * (vlN q (fun i => d (a + i)) b + d (a + b) * q ^ b)
    rw [vlN_split b, Int.pow_add, Int.mul_add, show ((a + b : Nat) : Int) = (a : Int) + b by omega, Int.mul_left_comm (d (a + b))]
    omega
/-- a move of digits: c places from a on; -1 where the place lp has 0 -/
def mvd (q : Int) (st : Int → Int) (a lp : Int) (c : Nat) (v : Int) : Int := if a ≤ lp ∧ lp < a + c ∧ dgF q v (lp - a) = 0 then -1 else vlN q (fun i => (dgF q v i + st (a + i)) % q) c
theorem mvd_b {q : Int} (hq : 0 < q) {st : Int → Int} {a lp v : Int} {c : Nat} : mvd q st a lp c v = -1 ∨ (0 ≤ mvd q st a lp c v ∧ mvd q st a lp c v < q ^ c) := by
  unfold mvd
  split
  · exact Or.inl rfl
  · exact Or.inr (vlN_b hq c (fun i _ _ => ⟨Int.emod_nonneg _ (by omega), Int.emod_lt_of_pos _ hq⟩))
theorem mvd_split {q : Int} (hq : 0 < q) {st : Int → Int} {lp v : Int} {a c : Nat} (hac : a ≤ c) : ((mvd q st 0 lp a (v % q ^ a) = -1 ∨ mvd q st a lp (c - a) (v / q ^ a) = -1) ∧ mvd q st 0 lp c v = -1) ∨ (0 ≤ mvd q st 0 lp a (v % q ^ a) ∧ 0 ≤ mvd q st a lp (c - a) (v / q ^ a) ∧ mvd q st 0 lp a (v % q ^ a) + mvd q st a lp (c - a) (v / q ^ a) * q ^ a = mvd q st 0 lp c v) := by
  have b1 := mvd_b hq (st := st) (a := 0) (lp := lp) (v := v % q ^ a) (c := a)
  have b2 := mvd_b hq (st := st) (a := a) (lp := lp) (v := v / q ^ a) (c := c - a)
  have ec : ((c - a : Nat) : Int) = c - a := by omega
  by_cases h1 : 0 ≤ lp ∧ lp < c ∧ dgF q v lp = 0
  · refine Or.inl ⟨?_, ?_⟩
    · by_cases h2 : lp < a
      · refine Or.inl ?_
        have := dgF_lo (q := q) (v := v) hq (a := a) (i := lp.toNat) (by omega)
        rw [Int.toNat_of_nonneg h1.1] at this
        unfold mvd
        rw [if_pos ⟨h1.1, by omega, by rw [Int.sub_zero, this]; exact h1.2.2⟩]
      · refine Or.inr ?_
        have := dgF_hi (q := q) (v := v) hq (a := a) (i := (lp - a).toNat)
        rw [show ((a + (lp - a).toNat : Nat) : Int) = lp by omega, show (((lp - a).toNat : Nat) : Int) = lp - a by omega] at this
        unfold mvd
        rw [if_pos ⟨by omega, by omega, by rw [this]; exact h1.2.2⟩]
    · unfold mvd
      rw [if_pos ⟨h1.1, by omega, by rw [Int.sub_zero]; exact h1.2.2⟩]
  · have n1 : mvd q st 0 lp a (v % q ^ a) = vlN q (fun i => (dgF q v i + st i) % q) a := by
      unfold mvd
      rw [if_neg (fun w => h1 ⟨w.1, by omega, by
        have := dgF_lo (q := q) (v := v) hq (a := a) (i := lp.toNat) (by omega)
        rw [Int.toNat_of_nonneg w.1] at this
        rw [← this]
        have := w.2.2
        rw [Int.sub_zero] at this
        exact this⟩)]
      refine vlN_cong a (fun i z1 z2 => ?_)
      have := dgF_lo (q := q) (v := v) hq (a := a) (i := i.toNat) (by omega)
      rw [Int.toNat_of_nonneg z1] at this
      rw [this, Int.zero_add]
    have n2 : mvd q st a lp (c - a) (v / q ^ a) = vlN q (fun i => (dgF q v (a + i) + st (a + i)) % q) (c - a) := by
      have key : ∀ i : Int, 0 ≤ i → dgF q (v / q ^ a) i = dgF q v (a + i) := fun i z => by
        have := dgF_hi (q := q) (v := v) hq (a := a) (i := i.toNat)
        rw [show ((a + i.toNat : Nat) : Int) = a + i by omega, Int.toNat_of_nonneg z] at this
        exact this
      unfold mvd
      rw [if_neg (fun w => h1 ⟨by omega, by omega, by
        have := w.2.2
        rw [key _ (by omega), show (a : Int) + (lp - a) = lp by omega] at this
        exact this⟩)]
      exact vlN_cong (c - a) (fun i z1 z2 => by rw [key i z1])
    have n3 : mvd q st 0 lp c v = vlN q (fun i => (dgF q v i + st i) % q) c := by
      unfold mvd
      rw [if_neg (fun w => h1 ⟨w.1, by omega, by have := w.2.2; rw [Int.sub_zero] at this; exact this⟩)]
      exact vlN_cong c (fun i _ _ => by rw [Int.zero_add])
    have hd : ∀ b : Nat, ∀ f : Int → Int, 0 ≤ vlN q (fun i => f i % q) b := fun b f => (vlN_b hq b (fun i _ _ => ⟨Int.emod_nonneg _ (by omega), Int.emod_lt_of_pos _ hq⟩)).1
    refine Or.inr ⟨by rw [n1]; exact hd a (fun i => dgF q v i + st i), by rw [n2]; exact hd (c - a) (fun i => dgF q v (a + i) + st (a + i)), ?_⟩
    rw [n1, n2, n3]
    have := vlN_split (q := q) (d := fun i => (dgF q v i + st i) % q) (a := a) (c - a)
    rw [show a + (c - a) = c by omega] at this
    rw [this, Int.mul_comm (q ^ a)]
def hlf (c : Nat) : Nat := (c + 1) / 2
theorem hlf_b (c : Nat) : hlf c ≤ c ∧ 2 * hlf c ≤ c + 1 ∧ c ≤ 2 * hlf c := by unfold hlf; omega
/-- moves as they are kept: names, and the digits that low and high ones become -/
def CelS (m : Mu) (u q : Int) (c K : Nat) (nm : Int → Int) (st : Int → Int → Int) (lp : Int → Int) : Prop :=
  (m u 4 = K ∧ m u 5 = c ∧ m u 6 = q ∧ m u 7 = hlf c ∧ m u 8 = q ^ hlf c ∧ m u 9 = q ^ (c - hlf c)) ∧ ∀ k : Int, 0 ≤ k → k < K → m (u + 4) k = nm k ∧ (∀ e, 0 ≤ e → e < q ^ hlf c → m (u + 3) (k * (q ^ hlf c + q ^ (c - hlf c)) + e) = mvd q (st k) 0 (lp k) (hlf c) e) ∧ ∀ e, 0 ≤ e → e < q ^ (c - hlf c) → m (u + 3) (k * (q ^ hlf c + q ^ (c - hlf c)) + (q ^ hlf c + e)) = if mvd q (st k) (hlf c) (lp k) (c - hlf c) e = -1 then -1 else mvd q (st k) (hlf c) (lp k) (c - hlf c) e * q ^ hlf c
theorem CelS.fr {μ m : Mu} {u q : Int} {c K : Nat} {nm lp : Int → Int} {st : Int → Int → Int} (h : CelS μ u q c K nm st lp) (hf : ∀ y j, (y = u ∧ 4 ≤ j ∧ j ≤ 9) ∨ y = u + 3 ∨ y = u + 4 → m y j = μ y j) : CelS m u q c K nm st lp := by
  obtain ⟨⟨h4, h5, h6, h7, h8, h9⟩, hk⟩ := h
  refine ⟨⟨by rw [hf _ _ (by omega)]; exact h4, by rw [hf _ _ (by omega)]; exact h5, by rw [hf _ _ (by omega)]; exact h6, by rw [hf _ _ (by omega)]; exact h7, by rw [hf _ _ (by omega)]; exact h8, by rw [hf _ _ (by omega)]; exact h9⟩, fun k z1 z2 => ?_⟩
  obtain ⟨k1, k2, k3⟩ := hk k z1 z2
  exact ⟨by rw [hf _ _ (by omega)]; exact k1, fun e z3 z4 => by rw [hf _ _ (by omega)]; exact k2 e z3 z4, fun e z3 z4 => by rw [hf _ _ (by omega)]; exact k3 e z3 z4⟩
theorem idx_lt {k K e S : Int} (hk : k < K) (he : 0 ≤ e ∧ e < S) : k * S + e < K * S := by
  have : (k + 1) * S ≤ K * S := Int.mul_le_mul_of_nonneg_right (by omega) (by omega)
  rw [Int.add_mul, Int.one_mul] at this
  omega
section CWalk
variable {l : Launch} {G : Gx} {γ μ σ : Mu}
theorem c_wkPower (hl : l.stackTraces = false) (d : Nat) {u q : Int} {e : Nat} (hu : WalkAt G γ u) (eq : μ u 6 = q) (hq : 2 ≤ q ∧ q ≤ 5) (hN : q ^ e ≤ 20000) (he : e ≤ 36) : Cn l G yX6_power cX6_power 4 (some .int) d 0 [aR u, aI (e : Int)] γ μ (PI (q ^ e) γ μ) := by
  refine Cn.ofP hl (plainFor_of_name (by decide)) (noLc nlR (noL1 nlI)) rfl (fun P hP o1 o3 X hX hC => B_X6_power_0 hC hu.o ?_)
  have loop : ∀ (j k : Nat), k + j = e → V X G (Qm X G 0 P) 0 4 [aR u, aI (e : Int), aI (q ^ k), aI (k : Int)] [] γ μ := by
    intro j
    induction j with
    | zero =>
      intro k hk
      obtain rfl : k = e := by omega
      exact B_X6_power_4 hC hu.o ⟨fun _ => ⟨Nat.le_refl _, hP _ _ _ ⟨rfl, rfl, rfl⟩⟩, fun z => absurd (Int.le_refl _) z⟩
    | succ j ih =>
      intro k hk
      have h1 := ih (k + 1) (by omega)
      have h2 := pw_mono (q := q) (by omega) (show k + 1 ≤ e by omega)
      have h3 := pw_pos (q := q) (by omega) (k + 1)
      rw [Int.pow_succ] at h1 h2 h3
      rw [show ((k + 1 : Nat) : Int) = (k : Int) + 1 by omega] at h1
      refine B_X6_power_4 hC hu.o ⟨fun z => absurd z (by omega), fun _ => ?_⟩
      rw [eq]
      exact ⟨by constructor <;> omega, by constructor <;> omega, h1⟩
  have := loop e 0 (by omega)
  rw [Int.pow_zero] at this
  exact this
theorem c_wkBegin (hl : l.stackTraces = false) (d : Nat) (hd : 0 < d) {u q : Int} {c : Nat} (hu : WalkAt G γ u) (hq : 2 ≤ q ∧ q ≤ 5) (hN : q ^ c ≤ 20000) (hc : c ≤ 36) : Cn l G yX6_begin cX6_begin 3 none d 0 [aR u, aI (c : Int), aI q] γ μ (PV γ (up (up (up (up (up (up μ u 4 0) u 5 c) u 6 q) u 7 (hlf c)) u 8 (q ^ hlf c)) u 9 (q ^ (c - hlf c)))) := by
  refine Cn.ofP hl (plainFor_of_name (by decide)) (noLc nlR (noLc nlI (noL1 nlI))) rfl (fun P hP o1 o3 X hX hC => B_X6_begin_0 hC hu.o ?_)
  have hh := hlf_b c
  have e : Int.tdiv ((c : Int) + 1) 2 = (hlf c : Nat) := by
    rw [Int.tdiv_eq_ediv_of_nonneg (by omega)]
    omega
  have p1 := pw_mono (q := q) (by omega) (show hlf c ≤ c by omega)
  have p2 := pw_mono (q := q) (by omega) (show c - hlf c ≤ c by omega)
  rw [e]
  refine ⟨by constructor <;> omega, 0, 0, _, hd, Nat.le_refl _, hX ▸ c_wkPower hl 0 hu (by rw [up_ne (by omega), up_same]) hq (by omega) (by omega), PI.use ?_⟩
  refine B_X6_begin_33 hC hu.o ?_
  have e5 : up (up (up (up (up μ u 4 0) u 5 (c : Int)) u 6 q) u 7 (hlf c : Nat)) u 8 (q ^ hlf c) u 5 = c := by rw [up_ne (by omega), up_ne (by omega), up_ne (by omega), up_same]
  have e7 : up (up (up (up (up μ u 4 0) u 5 (c : Int)) u 6 q) u 7 (hlf c : Nat)) u 8 (q ^ hlf c) u 7 = (hlf c : Nat) := by rw [up_ne (by omega), up_same]
  rw [e5, e7, show (c : Int) - (hlf c : Nat) = ((c - hlf c : Nat) : Int) by omega]
  refine ⟨hu.o, by constructor <;> omega, 0, 0, _, hd, Nat.le_refl _, hX ▸ c_wkPower hl 0 hu (by rw [up_ne (by omega), up_ne (by omega), up_same]) hq (by omega) (by omega), PI.use ?_⟩
  exact B_X6_begin_50 hC ⟨hu.o, Nat.le_refl _, hP _ _ _ ⟨rfl, rfl, rfl⟩⟩
theorem c_codeOf (hl : l.stackTraces = false) (d : Nat) {u r q : Int} {c : Nat} {f : Int → Int} (hu : WalkAt G γ u) (hr : shO G r 11 36) (ec : μ u 5 = c) (eq : μ u 6 = q) (hq : 2 ≤ q ∧ q ≤ 5) (hc : c ≤ 36) (hN : q ^ c ≤ 20000) (hf : ∀ j : Int, 0 ≤ j → j < c → μ r j = f j) (hfq : inQ c q f) : Cn l G yX6_codeOf cX6_codeOf 4 (some .int) d 0 [aR u, aR r] γ μ (PI (vlN q f c) γ μ) := by
  refine Cn.ofP hl (plainFor_of_name (by decide)) (noLc nlR (noL1 nlR)) rfl (fun P hP o1 o3 X hX hC => B_X6_codeOf_0 hC hu.o ?_)
  rw [ec]
  refine ⟨by constructor <;> omega, ?_⟩
  have loop := rem_ind (n := (c : Int)) (P := fun k => V X G (Qm X G 0 P) 0 9 [aR u, aR r, aI (nbF q f c k), aI ((c : Int) - 1 - k)] [] γ μ) (fun k k0 k1 ih => ?_)
  · have := loop 0 (by omega) (by omega)
    rw [Int.sub_zero] at this
    exact this
  · have hb := nbF_b (q := q) (n := c) (f := f) (by omega) hfq k k0 k1
    have hm := pw_mono (q := q) (by omega) (show k.toNat ≤ c by omega)
    refine B_X6_codeOf_9 hC hu.o ⟨fun h => ⟨Nat.le_refl _, hP _ _ _ ⟨?_, rfl, rfl⟩⟩, fun h => ?_⟩
    · obtain rfl : k = c := by omega
      rw [nbF_eq (by omega), Int.toNat_natCast]
    · have hfi := hfq ((c : Int) - 1 - k) (by omega) (by omega)
      have h5 : 0 ≤ nbF q f c k * q ∧ nbF q f c k * q ≤ 20000 * 5 := ⟨Int.mul_nonneg hb.1 (by omega), Int.mul_le_mul (by omega) hq.2 (by omega) (by decide)⟩
      have hih := ih (by omega)
      rw [show nbF q f c (k + 1) = nbF q f c k * q + f ((c : Int) - 1 - k) from foldI_s k0, show (c : Int) - 1 - (k + 1) = (c : Int) - 1 - k + -1 by omega] at hih
      rw [eq, hf _ (by omega) (by omega)]
      exact ⟨by constructor <;> omega, ixO hr (by omega), by constructor <;> omega, by constructor <;> omega, hih⟩
theorem c_moved (hl : l.stackTraces = false) (d : Nat) (hd : 1 < d) {u r q v a b lp : Int} {c : Nat} {st : Int → Int} (hu : WalkAt G γ u) (hr : shO G r 11 36) (eq : μ u 6 = q) (hq : 2 ≤ q ∧ q ≤ 5) (hN : q ^ c ≤ 20000) (hv : 0 ≤ v) (ha : 0 ≤ a) (hb : b = a + c) (hb36 : b ≤ 36) (hst : ∀ j, a ≤ j → j < b → μ r j = st j ∧ 0 ≤ st j ∧ st j < q) : Cn l G yX6_moved cX6_moved 11 (some .int) d 0 [aR u, aI v, aI a, aI b, aR r, aI lp] γ μ (PI (mvd q st a lp c v) γ μ) := by
  refine Cn.ofP hl (plainFor_of_name (by decide)) (noLc nlR (noLc nlI (noLc nlI (noLc nlI (noLc nlR (noL1 nlI)))))) rfl (fun P hP o1 o3 X hX hC => B_X6_moved_0 hC hu.o ?_)
  rw [eq]
  refine ⟨fun _ => ?_, fun z => absurd hq.1 z⟩
  have loop : ∀ (j k : Nat), k + j = c → (a ≤ lp → lp < a + k → dgF q v (lp - a) ≠ 0) → V X G (Qm X G 0 P) 0 22 [aR u, aD, aD, aI b, aR r, aI lp, aI (rst q v k), aI (q ^ k), aI (vlN q (fun i => (dgF q v i + st (a + i)) % q) k), aI (a + k), aD] [] γ μ := by
    intro j
    induction j with
    | zero =>
      intro k hk hz
      obtain rfl : k = c := by omega
      refine B_X6_moved_22 hC hu.o ⟨fun _ => ⟨Nat.le_refl _, hP _ _ _ ⟨?_, rfl, rfl⟩⟩, fun z => absurd (by omega) z⟩
      unfold mvd
      rw [if_neg (fun w => hz w.1 w.2.1 w.2.2)]
    | succ j ih =>
      intro k hk hz
      have hrb := rst_b (q := q) (t := v) hq.1 hv k
      have h2 := pw_mono (q := q) (by omega) (show k + 1 ≤ c by omega)
      have h3 := pw_pos (q := q) (by omega) k
      have hvb := vlN_b (q := q) (d := fun i => (dgF q v i + st (a + i)) % q) (by omega) k (fun i _ _ => ⟨Int.emod_nonneg _ (by omega), Int.emod_lt_of_pos _ (by omega)⟩)
      have hsk := hst (a + k) (by omega) (by omega)
      have hdk := dgF_in (q := q) (v := v) (by omega) k
      have edk : rst q v k % q = dgF q v k := by unfold dgF; rw [Int.toNat_natCast]
      have em0 := Int.emod_nonneg (dgF q v k + st (a + k)) (show q ≠ 0 by omega)
      have em1 := Int.emod_lt_of_pos (dgF q v k + st (a + k)) (show 0 < q by omega)
      rw [Int.pow_succ] at h2
      have hmul : (dgF q v k + st (a + k)) % q * q ^ k ≤ 4 * q ^ k := Int.mul_le_mul_of_nonneg_right (by omega) (by omega)
      have hmul0 : 0 ≤ (dgF q v k + st (a + k)) % q * q ^ k := Int.mul_nonneg em0 (by omega)
      have h2q : q ^ k * 2 ≤ q ^ k * q := Int.mul_le_mul_of_nonneg_left hq.1 (by omega)
      have go : (a ≤ lp → lp < a + k + 1 → dgF q v (lp - a) ≠ 0) → ixA G 11 r (a + k) ∧ iR ((rst q v k).tmod q + μ r (a + k)) ∧ ∃ d9 k9 P9, d9 < d ∧ 0 + k9 ≤ 0 ∧ Cn X.l G yX8_mod cX8_mod 2 (some .int) d9 k9 [aI ((rst q v k).tmod q + μ r (a + k)), aI q] γ μ P9 ∧ ∀ r9 γ9 μ9, P9 r9 γ9 μ9 → V X G (Qm X G 0 P) (0 + k9) 68 [aR u, aD, aD, aI b, aR r, aI lp, aI (rst q v k), aI (q ^ k), aD, aI (a + k), aD] (r9.toList ++ [aI (vlN q (fun i => (dgF q v i + st (a + i)) % q) k)]) γ9 μ9 := fun hz2 => by
        rw [Int.tmod_eq_emod_of_nonneg hrb.1, edk, hsk.1]
        refine ⟨ixO hr (by omega), by constructor <;> omega, 1, 0, _, hd, Nat.le_refl _, hX ▸ c_mod hl 1 (by omega), PI.use ?_⟩
        rw [if_pos hq.1]
        refine B_X6_moved_68 hC hu.o ?_
        rw [eq, Int.tdiv_eq_ediv_of_nonneg hrb.1]
        have hih := ih (k + 1) (by omega) (fun z1 z2 => hz2 z1 (by omega))
        rw [Int.pow_succ, show a + ((k + 1 : Nat) : Int) = a + k + 1 by omega] at hih
        exact ⟨by constructor <;> omega, by constructor <;> omega, by omega, by constructor <;> omega, by constructor <;> omega, hih⟩
      refine B_X6_moved_22 hC hu.o ?_
      rw [eq]
      refine ⟨fun z => absurd z (by omega), fun _ => ⟨by omega, fun h => go (fun z1 z2 => hz z1 (by omega)), fun h => ⟨fun h4 => go (fun z1 z2 => ?_), fun h4 => ⟨Nat.le_refl _, hP _ _ _ ⟨?_, rfl, rfl⟩⟩⟩⟩⟩
      · rw [Int.tmod_eq_emod_of_nonneg hrb.1, edk] at h4
        by_cases e : lp = a + k
        · rw [show lp - a = k by omega]; exact h4
        · exact hz z1 (by omega)
      · rw [Int.tmod_eq_emod_of_nonneg hrb.1, edk] at h4
        unfold mvd
        rw [if_pos ⟨by omega, by omega, by rw [show lp - a = k by omega]; exact h4⟩]
  have := loop c 0 (by omega) (fun z1 z2 => by omega)
  rw [Int.pow_zero, show a + ((0 : Nat) : Int) = a by omega] at this
  exact this
theorem c_addMove (hl : l.stackTraces = false) (d : Nat) (hd : 2 < d) {u r q nam lp0 : Int} {c K : Nat} {nm lp : Int → Int} {st : Int → Int → Int} {st0 : Int → Int} (hu : WalkAt G γ u) (hr : shO G r 11 36) (hru : r ≠ u ∧ r ≠ u + 3 ∧ r ≠ u + 4) (hq : 2 ≤ q ∧ q ≤ 5) (hN : q ^ c ≤ 20000) (hc : c ≤ 36) (hM : CelS μ u q c K nm st lp) (hK : K < 36) (hroom : ((K : Int) + 1) * (q ^ hlf c + q ^ (c - hlf c)) ≤ 7200) (hst : ∀ j : Int, 0 ≤ j → j < c → μ r j = st0 j ∧ 0 ≤ st0 j ∧ st0 j < q) : Cn l G yX6_addMove cX6_addMove 7 none d 0 [aR u, aI nam, aR r, aI lp0] γ μ (fun rr γ' μ' => rr = none ∧ γ' = γ ∧ CelS μ' u q c (K + 1) (fup nm K nam) (fup st K st0) (fup lp K lp0) ∧ ∀ y j, (y = u → j ≠ 4) → y ≠ u + 3 → y ≠ u + 4 → μ' y j = μ y j) := by
  refine Cn.ofP hl (plainFor_of_name (by decide)) (noLc nlR (noLc nlI (noLc nlR (noL1 nlI)))) rfl (fun P hP o1 o3 X hX hC => B_X6_addMove_0 hC hu.o ?_)
  obtain ⟨-, g0, s1, g1, s2, g2, s3, g3, s4, g11, s5⟩ := id hu
  obtain ⟨⟨h4, h5, h6, h7, h8, h9⟩, hk⟩ := id hM
  have hh := hlf_b c
  have p1 := pw_mono (q := q) (by omega) (show hlf c ≤ c by omega)
  have p2 := pw_mono (q := q) (by omega) (show c - hlf c ≤ c by omega)
  have p3 := pw_pos (q := q) (by omega) (hlf c)
  have p4 := pw_pos (q := q) (by omega) (c - hlf c)
  rw [Int.add_mul, Int.one_mul] at hroom
  have hKS : 0 ≤ (K : Int) * (q ^ hlf c + q ^ (c - hlf c)) := Int.mul_nonneg (by omega) (by omega)
  have hidx : ∀ k e : Int, k < K → 0 ≤ e → e < q ^ hlf c + q ^ (c - hlf c) → k * (q ^ hlf c + q ^ (c - hlf c)) + e < K * (q ^ hlf c + q ^ (c - hlf c)) := fun k e w1 w2 w3 => idx_lt w1 ⟨w2, w3⟩
  rw [h4, h8, h9, g3]
  generalize hB : (K : Int) * (q ^ hlf c + q ^ (c - hlf c)) = B at *
  refine ⟨by constructor <;> omega, by constructor <;> omega, fun z => absurd z (by omega), fun _ => ⟨by constructor <;> omega, by constructor <;> omega, fun _ => ⟨ixO s4 (by omega), by constructor <;> omega, ?_⟩, fun z => absurd (by omega) z⟩⟩
  have FR : ∀ m : Mu, (∀ y j, (y = u → j ≠ 4) → y ≠ u + 3 → y ≠ u + 4 → m y j = μ y j) → m u 4 = (K : Int) + 1 → (∀ j, m (u + 4) j = fup (μ (u + 4)) K nam j) → (∀ j, j < B → m (u + 3) j = μ (u + 3) j) → (∀ e, 0 ≤ e → e < q ^ hlf c → m (u + 3) (B + e) = mvd q st0 0 lp0 (hlf c) e) → (∀ e, 0 ≤ e → e < q ^ (c - hlf c) → m (u + 3) (B + (q ^ hlf c + e)) = if mvd q st0 (hlf c) lp0 (c - hlf c) e = -1 then -1 else mvd q st0 (hlf c) lp0 (c - hlf c) e * q ^ hlf c) → P none γ m := fun m f1 f2 f3 f4 f5 f6 => by
    refine hP _ _ _ ⟨rfl, rfl, ⟨⟨by rw [f2]; omega, by rw [f1 _ _ (by omega) (by omega) (by omega)]; exact h5, by rw [f1 _ _ (by omega) (by omega) (by omega)]; exact h6, by rw [f1 _ _ (by omega) (by omega) (by omega)]; exact h7, by rw [f1 _ _ (by omega) (by omega) (by omega)]; exact h8, by rw [f1 _ _ (by omega) (by omega) (by omega)]; exact h9⟩, fun k z1 z2 => ?_⟩, f1⟩
    by_cases e : k = K
    · rw [e, f3, fup_s, fup_s, fup_s, fup_s, hB]
      exact ⟨rfl, f5, f6⟩
    · obtain ⟨k1, k2, k3⟩ := hk k z1 (by omega)
      rw [f3, fup_n e, fup_n e, fup_n e, fup_n e]
      refine ⟨k1, fun e z3 z4 => ?_, fun e z3 z4 => ?_⟩
      · have := hidx k e (by omega) z3 (by omega)
        rw [f4 _ this]
        exact k2 e z3 z4
      · have := hidx k (q ^ hlf c + e) (by omega) (by omega) (by omega)
        rw [f4 _ this]
        exact k3 e z3 z4
  have loop2 := rem_ind (n := q ^ (c - hlf c)) (P := fun i => ∀ m : Mu, (∀ y j, (y = u → j ≠ 4) → y ≠ u + 3 → y ≠ u + 4 → m y j = μ y j) → m u 4 = (K : Int) + 1 → (∀ j, m (u + 4) j = fup (μ (u + 4)) K nam j) → (∀ j, j < B → m (u + 3) j = μ (u + 3) j) → (∀ e, 0 ≤ e → e < q ^ hlf c → m (u + 3) (B + e) = mvd q st0 0 lp0 (hlf c) e) → (∀ e, 0 ≤ e → e < i → m (u + 3) (B + (q ^ hlf c + e)) = if mvd q st0 (hlf c) lp0 (c - hlf c) e = -1 then -1 else mvd q st0 (hlf c) lp0 (c - hlf c) e * q ^ hlf c) → V X G (Qm X G 0 P) 0 108 [aR u, aD, aR r, aI lp0, aI B, aI i, aD] [] γ m) (fun i i0 i1 ih m f1 f2 f3 f4 f5 f6 => ?_)
  · have loop1 := rem_ind (n := q ^ hlf c) (P := fun i => ∀ m : Mu, (∀ y j, (y = u → j ≠ 4) → y ≠ u + 3 → y ≠ u + 4 → m y j = μ y j) → m u 4 = (K : Int) + 1 → (∀ j, m (u + 4) j = fup (μ (u + 4)) K nam j) → (∀ j, j < B → m (u + 3) j = μ (u + 3) j) → (∀ e, 0 ≤ e → e < i → m (u + 3) (B + e) = mvd q st0 0 lp0 (hlf c) e) → V X G (Qm X G 0 P) 0 67 [aR u, aD, aR r, aI lp0, aI B, aI i, aD] [] γ m) (fun i i0 i1 ih m f1 f2 f3 f4 f5 => ?_)
    · refine loop1 0 (by omega) (by omega) _ (fun y j z1 z2 z3 => by rw [up_ne (by omega), up_ne (by omega)]) up_same (fun j => ?_) (fun j _ => by rw [up_ne (by omega), up_ne (by omega)]) (fun e z1 z2 => by omega)
      rw [up_ne (by omega)]
      by_cases e : j = K
      · rw [e, up_same, fup_s]
      · rw [up_ne (by omega), fup_n e]
    · refine B_X6_addMove_67 hC hu.o ?_
      rw [f1 u 8 (by omega) (by omega) (by omega), h8, f1 u 7 (by omega) (by omega) (by omega), h7, g2]
      refine ⟨fun h => loop2 0 (by omega) (by omega) m f1 f2 f3 f4 (fun e z1 z2 => f5 e z1 (by omega)) (fun e z1 z2 => by omega), fun h => ⟨by constructor <;> omega, 2, 0, _, hd, Nat.le_refl _, hX ▸ c_moved hl 2 (by omega) (c := hlf c) (st := st0) hu hr (by rw [f1 u 6 (by omega) (by omega) (by omega)]; exact h6) hq (by omega) i0 (Int.le_refl _) (by omega) (by omega) (fun j z1 z2 => by rw [f1 r j (fun e => absurd e hru.1) hru.2.1 hru.2.2]; exact hst j z1 (by omega)), PI.use ?_⟩⟩
      refine B_X6_addMove_98 hC hu.o ⟨ixO s3 (by omega), by constructor <;> omega, ih (by omega) _ (fun y j z1 z2 z3 => by rw [up_ne (by omega)]; exact f1 y j z1 z2 z3) (by rw [up_ne (by omega)]; exact f2) (fun j => by rw [up_ne (by omega)]; exact f3 j) (fun j z => by rw [up_ne (by omega)]; exact f4 j z) (fun e z1 z2 => ?_)⟩
      by_cases w : e = i
      · rw [w, up_same]
      · rw [up_ne (by omega)]
        exact f5 e z1 (by omega)
  · refine B_X6_addMove_108 hC hu.o ?_
    rw [f1 u 9 (by omega) (by omega) (by omega), h9, f1 u 7 (by omega) (by omega) (by omega), h7, f1 u 5 (by omega) (by omega) (by omega), h5]
    refine ⟨fun h => ⟨Nat.le_refl _, FR m f1 f2 f3 f4 f5 (fun e z1 z2 => f6 e z1 (by omega))⟩, fun h => ⟨2, 0, _, hd, Nat.le_refl _, hX ▸ c_moved hl 2 (by omega) (c := c - hlf c) (st := st0) hu hr (by rw [f1 u 6 (by omega) (by omega) (by omega)]; exact h6) hq (by omega) i0 (by omega) (by omega) (by omega) (fun j z1 z2 => by rw [f1 r j (fun e => absurd e hru.1) hru.2.1 hru.2.2]; exact hst j (by omega) (by omega)), PI.use ?_⟩⟩
    have hmb := mvd_b (q := q) (by omega) (st := st0) (a := hlf c) (lp := lp0) (v := i) (c := c - hlf c)
    refine B_X6_addMove_133 hC hu.o ?_
    rw [f1 u 8 (by omega) (by omega) (by omega), h8, g2, show B + q ^ hlf c + i = B + (q ^ hlf c + i) by omega]
    have nxt : ∀ z, z = (if mvd q st0 (hlf c) lp0 (c - hlf c) i = -1 then -1 else mvd q st0 (hlf c) lp0 (c - hlf c) i * q ^ hlf c) → ixA G 11 (u + 3) (B + (q ^ hlf c + i)) ∧ iR (i + 1) ∧ V X G (Qm X G 0 P) 0 108 [aR u, aD, aR r, aI lp0, aI B, aI (i + 1), aD] [] γ (up m (u + 3) (B + (q ^ hlf c + i)) z) := fun z hz => by
      refine ⟨ixO s3 (by omega), by constructor <;> omega, ih (by omega) _ (fun y j z1 z2 z3 => by rw [up_ne (by omega)]; exact f1 y j z1 z2 z3) (by rw [up_ne (by omega)]; exact f2) (fun j => by rw [up_ne (by omega)]; exact f3 j) (fun j z => by rw [up_ne (by omega)]; exact f4 j z) (fun e z1 z2 => by rw [up_ne (by omega)]; exact f5 e z1 z2) (fun e z1 z2 => ?_)⟩
      by_cases w : e = i
      · rw [w, up_same, hz]
      · rw [up_ne (by omega)]
        exact f6 e z1 (by omega)
    refine ⟨by constructor <;> omega, by constructor <;> omega, fun e => ⟨?_, nxt _ (by rw [if_neg e])⟩, fun e => nxt _ (by rw [if_pos e])⟩
    have hmul : mvd q st0 (hlf c) lp0 (c - hlf c) i * q ^ hlf c ≤ 20000 * 20000 := Int.mul_le_mul (by omega) (by omega) (by omega) (by decide)
    have hmul0 : 0 ≤ mvd q st0 (hlf c) lp0 (c - hlf c) i * q ^ hlf c := Int.mul_nonneg (by omega) (by omega)
    constructor <;> omega
end CWalk
