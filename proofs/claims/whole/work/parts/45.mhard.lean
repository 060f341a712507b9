/-! the reference: power, plus, reckons -/
theorem pw_pos {q : Int} (hq : 0 < q) : ∀ k : Nat, 0 < q ^ k
  | 0 => by rw [Int.pow_zero]; decide
  | k + 1 => by rw [Int.pow_succ]; exact Int.mul_pos (pw_pos hq k) hq
theorem pw_mono {q : Int} (hq : 0 < q) {k m : Nat} (h : k ≤ m) : q ^ k ≤ q ^ m := by
  induction m with
  | zero => obtain rfl : k = 0 := by omega
            exact Int.le_refl _
  | succ m ih =>
    by_cases e : k = m + 1
    · rw [e]; exact Int.le_refl _
    · have := ih (by omega)
      have h2 := pw_pos hq m
      rw [Int.pow_succ]
      have : q ^ m * 1 ≤ q ^ m * q := Int.mul_le_mul_of_nonneg_left (by omega) (by omega)
      omega
/-- the ids of a run stand in order, those own apart from those bound -/
theorem gRun_sort (q n : Int) (jm : Int → Int) (vec : Int → Int → Int) : ∀ k : Nat, (∀ i j : Int, 0 ≤ i → i < j → j < (gRun q n jm vec k).tc → (gRun q n jm vec k).td i < (gRun q n jm vec k).td j) ∧ (∀ i j : Int, 0 ≤ i → i < j → j < (gRun q n jm vec k).c → (gRun q n jm vec k).od i < (gRun q n jm vec k).od j) ∧ (∀ i j : Int, 0 ≤ i → i < (gRun q n jm vec k).c → 0 ≤ j → j < (gRun q n jm vec k).tc → (gRun q n jm vec k).od i ≠ (gRun q n jm vec k).td j) ∧ (∀ i : Int, 0 ≤ i → i < (gRun q n jm vec k).c → jm ((gRun q n jm vec k).od i) = 0) ∧ ∀ i : Int, 0 ≤ i → i < (gRun q n jm vec k).tc → jm ((gRun q n jm vec k).td i) = 0
  | 0 => ⟨fun i j _ _ h => absurd h (by show ¬ j < ((0 : Nat) : Int); omega), fun i j _ _ h => absurd h (by show ¬ j < ((0 : Nat) : Int); omega), fun i j _ h => absurd h (by show ¬ i < ((0 : Nat) : Int); omega), fun i _ h => absurd h (by show ¬ i < ((0 : Nat) : Int); omega), fun i _ h => absurd h (by show ¬ i < ((0 : Nat) : Int); omega)⟩
  | k + 1 => by
    obtain ⟨a1, a2, a3, a4, a5⟩ := gRun_sort q n jm vec k
    obtain ⟨b1, b2, b3⟩ := gRun_ids q n jm vec k
    unfold gRun
    split
    · rename_i hj
      generalize gRun q n jm vec k = S at *
      unfold gStep
      split
      · refine ⟨fun i j h0 h1 h2 => ?_, a2, fun i j h0 h1 h2 h3 => ?_, a4, fun i h0 h1 => ?_⟩
        · have h2' : j < S.tc + 1 := h2
          show fup S.td S.tc k i < fup S.td S.tc k j
          rw [fup_n (by omega)]
          by_cases e : j = S.tc
          · rw [e, fup_s]; exact (b2 i h0 (by omega)).2
          · rw [fup_n e]; exact a1 i j h0 h1 (by omega)
        · have h3' : j < S.tc + 1 := h3
          show S.od i ≠ fup S.td S.tc k j
          by_cases e : j = S.tc
          · rw [e, fup_s]; have := b1 i h0 h1; omega
          · rw [fup_n e]; exact a3 i j h0 h1 h2 (by omega)
        · have h1' : i < S.tc + 1 := h1
          show jm (fup S.td S.tc k i) = 0
          by_cases e : i = S.tc
          · rw [e, fup_s]; exact hj
          · rw [fup_n e]; exact a5 i h0 (by omega)
      · refine ⟨a1, fun i j h0 h1 h2 => ?_, fun i j h0 h1 h2 h3 => ?_, fun i h0 h1 => ?_, a5⟩
        · have h2' : j < S.c + 1 := h2
          show fup S.od S.c k i < fup S.od S.c k j
          rw [fup_n (by omega)]
          by_cases e : j = S.c
          · rw [e, fup_s]; exact (b1 i h0 (by omega)).2
          · rw [fup_n e]; exact a2 i j h0 h1 (by omega)
        · have h1' : i < S.c + 1 := h1
          show fup S.od S.c k i ≠ S.td j
          by_cases e : i = S.c
          · rw [e, fup_s]; have := b2 j h2 h3; omega
          · rw [fup_n e]; exact a3 i j h0 (by omega) h2 h3
        · have h1' : i < S.c + 1 := h1
          show jm (fup S.od S.c k i) = 0
          by_cases e : i = S.c
          · rw [e, fup_s]; exact hj
          · rw [fup_n e]; exact a4 i h0 (by omega)
    · refine ⟨a1, a2, a3, a4, a5⟩
theorem fndL_succ (f : Int → Int) (x : Int) : ∀ (n : Nat) (i : Int), 0 ≤ i → fndL f x (n + 1) i = if fndL f x n i = -1 then (if f (i + n) = x then i + n else -1) else fndL f x n i
  | 0, i, _ => by
    show (if f i = x then i else -1) = if (-1 : Int) = -1 then (if f (i + (0 : Nat)) = x then i + (0 : Nat) else -1) else -1
    rw [if_pos rfl]
    simp
  | n + 1, i, h0 => by
    rw [fndL]
    by_cases h : f i = x
    · rw [if_pos h, fndL, if_pos h, if_neg (by omega)]
    · rw [if_neg h, fndL_succ f x n (i + 1) (by omega), fndL, if_neg h]
      rw [show i + 1 + (n : Int) = i + ((n + 1 : Nat) : Int) by omega]
section MHard
variable {l : Launch} {G : Gx} {γ μ : Mu}
theorem m_power (hl : l.stackTraces = false) (d : Nat) {b q most : Int} (many : Nat) (hS : ModS G b) (eq : μ b 2 = q) (hq : 2 ≤ q ∧ q ≤ 5) (hm : 0 ≤ most ∧ most ≤ 20000) (hmy : many ≤ 36) : Cn l G yX9_power cX9_power 5 (some .int) d 0 [aR b, aI many, aI most] γ μ (PI (if q ^ many ≤ most then q ^ many else most + 1) γ μ) := by
  refine Cn.ofP hl (plainFor_of_name (by decide)) (noLc nlR (noLc nlI (noL1 nlI))) rfl (fun P hP o1 o3 X hX hC => B_X9_power_0 hC hS.o ?_)
  have loop : ∀ (j k : Nat), k + j = many → V X G (Qm X G 0 P) 0 5 [aR b, aI many, aI most, aI (q ^ k), aI k] [] γ μ := by
    intro j
    induction j with
    | zero =>
      intro k hk
      obtain rfl : k = many := by omega
      refine B_X9_power_5 hC hS.o ?_
      (repeat' (first | (with_reducible exact ixO (by assumption) (by omega)) | with_reducible apply And.intro | with_reducible intro)) <;> (try first | omega | (with_reducible apply Nat.le_refl) | rfl | exact absurd trivial (by assumption))
      · refine hP _ _ _ ⟨?_, rfl, rfl⟩
        rw [if_pos (by assumption)]
      · refine hP _ _ _ ⟨?_, rfl, rfl⟩
        rw [if_neg (by assumption)]
    | succ j ih =>
      intro k hk
      have hih := ih (k + 1) (by omega)
      have hmo := pw_mono (q := q) (by omega) (show k ≤ many by omega)
      rw [Int.pow_succ] at hih
      have hp := pw_pos (show 0 < q by omega) k
      have hb : q ^ k ≤ 20000 → q ^ k * q ≤ 20000 * 5 := fun h => Int.mul_le_mul h (by omega) (by omega) (by omega)
      have hb2 : 0 ≤ q ^ k * q := Int.mul_nonneg (by omega) (by omega)
      refine B_X9_power_5 hC hS.o ?_
      simp (disch := first | assumption | omega) only [row_off, row_in, row_out, up_same, up_ne, cpy_off, mg6, mg7, mg8, mg9, mg10, mg12, mg30, mg31, mg32, mg33, mg35, mg36, mg37, mg38, mg39, mg43, mg44, mg45, mg46, mg47, mg48, mg49, mg50, mg53, mg54, mg55, mg56, mg57, mg58, mg59, mg60, mg65, mg66, mg67, mg68, mg69, mg70, mg71, mg72, eq]
      generalize q ^ k * q = z at *
      (repeat' (first | (with_reducible exact ixO (by assumption) (by omega)) | with_reducible apply And.intro | with_reducible intro)) <;> (try first | omega | (with_reducible apply Nat.le_refl) | rfl | exact absurd trivial (by assumption))
      · refine hP _ _ _ ⟨?_, rfl, rfl⟩
        rw [if_neg (by omega)]
      · exact hih
  have h9 := loop many 0 (by omega)
  rw [Int.pow_zero] at h9
  exact h9
set_option maxHeartbeats 2000000 in
theorem m_plus (hl : l.stackTraces = false) (d : Nat) {b q v x : Int} {c : Nat} {pt : Int → Int} (hS : ModS G b) (hG : ModG γ b) (eq : μ b 2 = q) (ec : μ b 40 = c) (hq : 2 ≤ q ∧ q ≤ 5) (hc : c ≤ 36) (hN : q ^ c ≤ 10000) (hx : 0 ≤ x ∧ x < 36) (hv : 0 ≤ v) (hp : ∀ r : Int, 0 ≤ r → r < c → μ (b + 28) (36 * x + r) = pt r ∧ 0 ≤ pt r ∧ pt r < q) : Cn l G yX9_plus cX9_plus 7 (some .int) d 0 [aR b, aI v, aI x] γ μ (PI (plusP q c pt v) γ μ) := by
  refine Cn.ofP hl (plainFor_of_name (by decide)) (noLc nlR (noLc nlI (noL1 nlI))) rfl (fun P hP o1 o3 X hX hC => B_X9_plus_0 hC hS.o ?_)
  have s28 := ms28 hS
  have loop : ∀ (k r : Nat) (left v : Int), r + k = c → 0 ≤ v → v < q ^ r → 0 ≤ left → P (some (aI (plusR q pt k r left (q ^ r) v))) γ μ → V X G (Qm X G 0 P) 0 11 [aR b, aD, aI x, aI v, aI (q ^ r), aI left, aI r] [] γ μ := by
    intro k
    induction k with
    | zero =>
      intro r left v hr h0 h1 h2 hp
      refine B_X9_plus_11 hC hS.o ?_
      simp (disch := first | assumption | omega) only [row_off, row_in, row_out, up_same, up_ne, cpy_off, mg6, mg7, mg8, mg9, mg10, mg12, mg30, mg31, mg32, mg33, mg35, mg36, mg37, mg38, mg39, mg43, mg44, mg45, mg46, mg47, mg48, mg49, mg50, mg53, mg54, mg55, mg56, mg57, mg58, mg59, mg60, mg65, mg66, mg67, mg68, mg69, mg70, mg71, mg72, ec]
      (repeat' (first | (with_reducible exact ixO (by assumption) (by omega)) | with_reducible apply And.intro | with_reducible intro)) <;> (try first | omega | (with_reducible apply Nat.le_refl) | rfl | exact absurd trivial (by assumption))
      exact hp
    | succ k ih =>
      intro r left v hr h0 h1 h2 hp2
      obtain ⟨p1, p2, p3⟩ := hp r (by omega) (by omega)
      have m0 := Int.emod_nonneg left (show q ≠ 0 by omega)
      have m1 := Int.emod_lt_of_pos left (show 0 < q by omega)
      have n0 := Int.emod_nonneg (left % q + pt r) (show q ≠ 0 by omega)
      have n1 := Int.emod_lt_of_pos (left % q + pt r) (show 0 < q by omega)
      have d0 : 0 ≤ left / q := Int.ediv_nonneg h2 (by omega)
      have hmo := pw_mono (q := q) (by omega) (show r + 1 ≤ c by omega)
      have hpp := pw_pos (show 0 < q by omega) r
      have hs : q ^ (r + 1) = q ^ r * q := Int.pow_succ _ _
      have hih := ih (r + 1) (left / q) (v + q ^ r * ((left % q + pt r) % q)) (by omega)
      rw [plusR] at hp2
      have e1 : 0 ≤ q ^ r * ((left % q + pt r) % q) := Int.mul_nonneg (by omega) n0
      have e2 : q ^ r * ((left % q + pt r) % q) ≤ q ^ r * (q - 1) := Int.mul_le_mul_of_nonneg_left (by omega) (by omega)
      have e3 : q ^ r * (q - 1) = q ^ r * q - q ^ r := by rw [Int.mul_sub, Int.mul_one]
      refine B_X9_plus_11 hC hS.o ?_
      simp (disch := first | assumption | omega) only [row_off, row_in, row_out, up_same, up_ne, cpy_off, mg6, mg7, mg8, mg9, mg10, mg12, mg30, mg31, mg32, mg33, mg35, mg36, mg37, mg38, mg39, mg43, mg44, mg45, mg46, mg47, mg48, mg49, mg50, mg53, mg54, mg55, mg56, mg57, mg58, mg59, mg60, mg65, mg66, mg67, mg68, mg69, mg70, mg71, mg72, ec, eq, p1]
      rw [Int.tmod_eq_emod_of_nonneg h2, Int.tmod_eq_emod_of_nonneg (by omega), Int.tdiv_eq_ediv_of_nonneg h2]
      rw [hs] at hih hmo
      have hih2 := hih (by omega) (by omega) d0 hp2
      generalize q ^ r * ((left % q + pt r) % q) = z1 at *
      generalize q ^ r * q = z2 at *
      (repeat' (first | (with_reducible exact ixO (by assumption) (by omega)) | with_reducible apply And.intro | with_reducible intro)) <;> (try first | omega | (with_reducible apply Nat.le_refl) | rfl | exact absurd trivial (by assumption))
      exact hih2
  have h9 := loop c 0 v 0 (by omega) (by omega) (by rw [Int.pow_zero]; decide) hv (hP _ _ _ ⟨by rw [Int.pow_zero]; rfl, rfl, rfl⟩)
  rw [Int.pow_zero] at h9
  exact h9
/-- what stands in the reference once the hardest is known -/
def HdR (μ : Mu) (b n q : Int) (A : Int → Int → Int) (jm : Int → Int) : Prop := μ b 62 = hdMax n q A jm ∧ ∀ k, 0 ≤ k → k ≤ hdMax n q A jm → μ (b + 31) k = hdCnt n q A jm k
theorem lvC_cong {W W' : BF} {k : Int} : ∀ i : Nat, (∀ j : Int, 0 ≤ j → j < i → W.way (W.que j) = W'.way (W'.que j)) → lvC W k i = lvC W' k i
  | 0, _ => rfl
  | i + 1, h => by
    unfold lvC
    rw [lvC_cong i (fun j h1 h2 => h j h1 (by omega)), h i (by omega) (by omega)]
theorem lvC_le {W : BF} {k : Int} : ∀ i : Nat, 0 ≤ lvC W k i ∧ lvC W k i ≤ i
  | 0 => by simp [lvC]
  | i + 1 => by
    have := lvC_le (W := W) (k := k) i
    unfold lvC
    split <;> omega
theorem fndL_none {f : Int → Int} {x : Int} : ∀ (n : Nat) (i : Int), (∀ j : Int, i ≤ j → j < i + n → f j ≠ x) → fndL f x n i = -1
  | 0, _, _ => rfl
  | n + 1, i, h => by
    rw [fndL, if_neg (h i (by omega) (by omega))]
    exact fndL_none n (i + 1) (fun j h1 h2 => h j (by omega) (by omega))
theorem fndL_rng {f : Int → Int} {x : Int} : ∀ (n : Nat) (i : Int), fndL f x n i = -1 ∨ (i ≤ fndL f x n i ∧ fndL f x n i < i + n)
  | 0, _ => Or.inl rfl
  | n + 1, i => by
    rw [fndL]
    split
    · exact Or.inr ⟨Int.le_refl _, by omega⟩
    · rcases fndL_rng (f := f) (x := x) n (i + 1) with h | h
      · exact Or.inl h
      · exact Or.inr ⟨by omega, by omega⟩
theorem nxH_ok {n q : Int} {A : Int → Int → Int} {jm : Int → Int} (hq : 0 < q) : nxOk (q ^ (Sbt n q A jm).c).toNat n.toNat (nxH n q A jm) := by
  intro v h0 h1 x hx
  unfold nxH
  split
  · have := plusP_ok (pt := partP (Sbt n q A jm) q x) hq (Sbt n q A jm).c v
    right
    omega
  · left; rfl
set_option maxHeartbeats 4000000 in
theorem m_reckons (hl : l.stackTraces = false) (d : Nat) (hd : 0 < d) {b n q : Int} {A : Int → Int → Int} {jm : Int → Int} (hS : ModS G b) (hG : ModG γ b) (hD : MD μ b n q A jm) (hK : KnR μ b n q A jm) (hN : q ^ (Sbt n q A jm).c ≤ 10000) (hk0 : μ b 61 ≠ 0 → HdR μ b n q A jm) :
    Cn l G yX9_reckons cX9_reckons 5 none d 0 [aR b] γ μ (fun r γ' μ' => r = none ∧ γ' = γ ∧ μ' b 61 ≠ 0 ∧ HdR μ' b n q A jm ∧ ∀ x j, (x < b + 28 ∨ b + 31 < x) → (x = b → j ≠ 61 ∧ j ≠ 62 ∧ j ≠ 63) → μ' x j = μ x j) := by
  refine Cn.ofP hl (plainFor_of_name (by decide)) (noL1 nlR) rfl (fun P hP o1 o3 X hX hC => B_X9_reckons_0 hC hS.o ⟨fun h61 => ?_, fun h61 => ⟨Nat.le_refl _, hP _ _ _ ⟨rfl, rfl, h61, hk0 h61, fun _ _ _ _ => rfl⟩⟩⟩)
  obtain ⟨en, eq, hn, hq, hA, hj⟩ := hD
  have hqb := hq.b
  obtain ⟨⟨e40, e41, -⟩, eod, etd, -, -⟩ := hK
  have hwf := gRun_wf (jm := jm) (vec := A) hqb.1 hn.1 n.toNat (by omega) (fun i h1 h2 => (hA i h1 (by omega)).2)
  have hids := gRun_ids q n jm A n.toNat
  have hsrt := gRun_sort q n jm A n.toNat
  have hnx := nxH_ok (n := n) (A := A) (jm := jm) (show 0 < q by omega)
  have hNp := pw_pos (show 0 < q by omega) (Sbt n q A jm).c
  have ehd : hdW n q A jm = bRun (nxH n q A jm) n.toNat 0 (q ^ (Sbt n q A jm).c).toNat := rfl
  have enx : ∀ v x, nxH n q A jm v x = if jm x = 0 then plusP q (Sbt n q A jm).c (partP (Sbt n q A jm) q x) v else -1 := fun _ _ => rfl
  have s2 := ms2 hS; have s16 := ms16 hS; have s17 := ms17 hS; have s19 := ms19 hS; have s28 := ms28 hS; have s29 := ms29 hS; have s30 := ms30 hS; have s31 := ms31 hS
  unfold HdR hdMax hdCnt at hP
  unfold Sbt at *
  generalize hdW n q A jm = HW at *
  generalize nxH n q A jm = nx at *
  generalize gRun q n jm A n.toNat = S at *
  obtain ⟨i1, i2, i3⟩ := hids
  obtain ⟨u1, u2, u3, u4, u5⟩ := hsrt
  generalize hNN : (q ^ S.c).toNat = N at *
  have hNe : q ^ S.c = N := by omega
  -- all but the four rows and the three fields
  have fr : ∀ {m : Mu}, (∀ x j, (x < b + 28 ∨ b + 31 < x) → (x = b → j ≠ 61 ∧ j ≠ 62 ∧ j ≠ 63) → m x j = μ x j) → m b 1 = n ∧ m b 2 = q ∧ m b 40 = S.c ∧ m b 41 = S.tc ∧ (∀ i : Int, 0 ≤ i → i < S.c → m (b + 16) i = S.od i) ∧ (∀ i : Int, 0 ≤ i → i < S.tc → m (b + 17) i = S.td i ∧ ∀ j, 0 ≤ j → j < n → m (b + 19) (36 * i + j) = S.tv i j) ∧ ∀ x, 0 ≤ x → x < n → m (b + 2) x = jm x := by
    intro m h
    refine ⟨by rw [h _ _ (by omega) (by omega)]; exact en, by rw [h _ _ (by omega) (by omega)]; exact eq, by rw [h _ _ (by omega) (by omega)]; exact e40, by rw [h _ _ (by omega) (by omega)]; exact e41, fun i z1 z2 => by rw [h _ _ (by omega) (by omega)]; exact eod i z1 z2, fun i z1 z2 => ⟨by rw [h _ _ (by omega) (by omega)]; exact (etd i z1 z2).1, fun j z3 z4 => by rw [h _ _ (by omega) (by omega)]; exact (etd i z1 z2).2 j z3 z4⟩, fun x z1 z2 => by rw [h _ _ (by omega) (by omega)]; exact hj x z1 z2⟩
  have hpt : ∀ x r : Int, 0 ≤ r → r < S.c → 0 ≤ partP S q x r ∧ partP S q x r < q := by
    intro x r h1 h2
    unfold partP
    split
    · split <;> omega
    · exact ⟨Int.emod_nonneg _ (by omega), Int.emod_lt_of_pos _ (by omega)⟩
  have bo : ∀ (k i : Nat) (m : Mu), i + k = N → (∀ x j, (x < b + 28 ∨ b + 31 < x) → (x = b → j ≠ 61 ∧ j ≠ 62 ∧ j ≠ 63) → m x j = μ x j) → m b 61 ≠ 0 → (∀ x r : Int, 0 ≤ x → x < n → jm x = 0 → 0 ≤ r → r < S.c → m (b + 28) (36 * x + r) = partP S q x r) → i ≤ (bRun nx n.toNat 0 i).last → (∀ t : Int, 0 ≤ t → t < N → m (b + 29) t = (bRun nx n.toNat 0 i).way t) → (∀ j : Int, 0 ≤ j → j < (bRun nx n.toNat 0 i).last → m (b + 30) j = (bRun nx n.toNat 0 i).que j) → (∀ k : Int, 0 ≤ k → k < N → m (b + 31) k = lvC (bRun nx n.toNat 0 i) k i) → (0 < i → m b 62 = (bRun nx n.toNat 0 i).way ((bRun nx n.toNat 0 i).que (i - 1))) → V X G (Qm X G 0 P) 0 205 [aR b, aI (bRun nx n.toNat 0 i).last, aI i, aD, aD] [] γ m := by
    intro k
    induction k with
    | zero =>
      intro i m hi hF h61 hPt hil hw hqu hmy h62
      have hB := bRun_inv (s := 0) (by omega) hnx i
      have hle := hB.le
      have e : HW = bRun nx n.toNat 0 i := by rw [ehd]; exact bRun_end2 (by omega) (by omega)
      refine B_X9_reckons_205 hC hS.o ⟨fun _ => ⟨Nat.le_refl _, hP _ _ _ ⟨rfl, rfl, h61, ⟨?_, fun k z1 z2 => ?_⟩, hF⟩⟩, fun w => absurd (by omega) w⟩
      · rw [e, h62 (by have := hB.1; omega), show ((bRun nx n.toNat 0 i).last : Int) = i by omega]
      · rw [e] at z2 ⊢
        have hB1 := hB.1
        have := hB.2.1 ((bRun nx n.toNat 0 i).last - 1) (by omega) (by omega)
        rw [hmy k z1 (by omega), show (bRun nx n.toNat 0 i).last = i by omega]
    | succ k ih =>
      intro i m hi hF h61 hPt hil hw hqu hmy h62
      have hB := bRun_inv (s := 0) (by omega) hnx i
      have hle := hB.le
      obtain ⟨f1, f2, f40, f41, fod, ftd, fj⟩ := fr hF
      by_cases hfin : (bRun nx n.toNat 0 i).last ≤ i
      · have e : HW = bRun nx n.toNat 0 i := by rw [ehd]; exact bRun_end2 (by omega) (by omega)
        refine B_X9_reckons_205 hC hS.o ⟨fun _ => ⟨Nat.le_refl _, hP _ _ _ ⟨rfl, rfl, h61, ⟨?_, fun k z1 z2 => ?_⟩, hF⟩⟩, fun w => absurd (by omega) w⟩
        · rw [e, h62 (by have := hB.1; omega), show ((bRun nx n.toNat 0 i).last : Int) = i by omega]
        · rw [e] at z2 ⊢
          have hB1 := hB.1
          have := hB.2.1 ((bRun nx n.toNat 0 i).last - 1) (by omega) (by omega)
          rw [hmy k z1 (by omega), show (bRun nx n.toNat 0 i).last = i by omega]
      · have hih := ih (i + 1)
        rw [bRun, if_pos (by omega)] at hih
        generalize bRun nx n.toNat 0 i = W at *
        obtain ⟨v1, v2, v3⟩ := hB.2.1 i (by omega) (by omega)
        have hq30 := hqu i (by omega) (by omega)
        have hw29 := hw (W.que i) v1.1 v1.2
        have hm31 := hmy (W.way (W.que i)) v2 (by omega)
        have hlv := lvC_le (W := W) (k := W.way (W.que i)) i
        have hrow := bRw_inv (nx := nx) (v := W.que i) (lev := W.way (W.que i)) hB ⟨v2, by omega⟩
        have inn : ∀ (k2 x : Nat) (m2 : Mu), x + k2 = n.toNat → (∀ x j, (x < b + 28 ∨ b + 31 < x) → (x = b → j ≠ 61 ∧ j ≠ 62 ∧ j ≠ 63) → m2 x j = μ x j) → m2 b 61 ≠ 0 → (∀ x r : Int, 0 ≤ x → x < n → jm x = 0 → 0 ≤ r → r < S.c → m2 (b + 28) (36 * x + r) = partP S q x r) → (∀ t : Int, 0 ≤ t → t < N → m2 (b + 29) t = (bRw nx (W.que i) (W.way (W.que i)) x W).way t) → (∀ j : Int, 0 ≤ j → j < (bRw nx (W.que i) (W.way (W.que i)) x W).last → m2 (b + 30) j = (bRw nx (W.que i) (W.way (W.que i)) x W).que j) → (∀ k : Int, 0 ≤ k → k < N → m2 (b + 31) k = lvC W k (i + 1)) → m2 b 62 = W.way (W.que i) → V X G (Qm X G 0 P) 0 240 [aR b, aI (bRw nx (W.que i) (W.way (W.que i)) x W).last, aI i, aI x, aD] [] γ m2 := by
          intro k2
          induction k2 with
          | zero =>
            intro x m2 hx gF g61 gPt gw gq gm g62
            obtain rfl : x = n.toNat := by omega
            obtain ⟨b1, b2, b3, b4⟩ := hrow n.toNat (fun y hy => hnx _ v1.1 v1.2 y hy)
            have ew : (bRw nx (W.que i) (W.way (W.que i)) n.toNat W).way ((bRw nx (W.que i) (W.way (W.que i)) n.toNat W).que i) = W.way (W.que i) := by
              rw [b3 i (by omega), b4 _ (by omega)]
            have ef := (fr gF).1
            refine B_X9_reckons_240 hC hS.o ?_
            simp (disch := first | assumption | omega) only [row_off, row_in, row_out, up_same, up_ne, cpy_off, rwo_off, rwo_at, rwo_out, mg6, mg7, mg8, mg9, mg10, mg12, mg30, mg31, mg32, mg33, mg35, mg36, mg37, mg38, mg39, mg43, mg44, mg45, mg46, mg47, mg48, mg49, mg50, mg53, mg54, mg55, mg56, mg57, mg58, mg59, mg60, mg65, mg66, mg67, mg68, mg69, mg70, mg71, mg72, ef]
            (repeat' (first | (with_reducible exact ixO (by assumption) (by omega)) | with_reducible apply And.intro | with_reducible intro)) <;> (try first | omega | (with_reducible apply Nat.le_refl) | rfl | exact absurd trivial (by assumption))
            refine hih m2 (by omega) gF g61 gPt (by omega) gw gq (fun k z1 z2 => ?_) (fun _ => ?_)
            · rw [gm k z1 z2]
              exact lvC_cong (i + 1) (fun j y1 y2 => by
                have := hB.2.1 j y1 (by omega)
                rw [b3 j (by omega), b4 _ (by omega)])
            · rw [g62, show ((i + 1 : Nat) : Int) - 1 = i by omega]
              exact ew.symm
          | succ k2 ih2 =>
            intro x m2 hx gF g61 gPt gw gq gm g62
            have hih2 := ih2 (x + 1)
            rw [bRw] at hih2
            obtain ⟨b1, b2, b3, b4⟩ := hrow x (fun y hy => hnx _ v1.1 v1.2 y (by omega))
            obtain ⟨c1, c2, c40, c41, cod, ctd, cj⟩ := fr gF
            have hq2 := b3 i (by omega)
            have hnv := hnx _ v1.1 v1.2 x (by omega)
            have hex := enx (W.que i) x
            generalize nx (W.que i) x = t at *
            generalize bRw nx (W.que i) (W.way (W.que i)) x W = W' at *
            have hgq := gq i (by omega) (by omega)
            have hble := b1.le
            refine B_X9_reckons_240 hC hS.o ?_
            simp (disch := first | assumption | omega) only [row_off, row_in, row_out, up_same, up_ne, cpy_off, rwo_off, rwo_at, rwo_out, mg6, mg7, mg8, mg9, mg10, mg12, mg30, mg31, mg32, mg33, mg35, mg36, mg37, mg38, mg39, mg43, mg44, mg45, mg46, mg47, mg48, mg49, mg50, mg53, mg54, mg55, mg56, mg57, mg58, mg59, mg60, mg65, mg66, mg67, mg68, mg69, mg70, mg71, mg72, c1, cj x (by omega) (by omega), hgq, hq2]
            (repeat' (first | (with_reducible exact ixO (by assumption) (by omega)) | with_reducible apply And.intro | with_reducible intro)) <;> (try first | omega | (with_reducible apply Nat.le_refl) | rfl | exact absurd trivial (by assumption))
            · rename_i hjx
              rw [if_pos hjx] at hex
              have hpp := plusP_ok (pt := partP S q x) (show 0 < q by omega) S.c (W.que i)
              refine ⟨0, 0, _, hd, Nat.le_refl _, hX ▸ m_plus hl 0 (c := S.c) (pt := partP S q x) hS hG c2 c40 hqb (by omega) (by omega) (by omega) v1.1 (fun r z1 z2 => ⟨gPt x r (by omega) (by omega) hjx z1 z2, hpt x r z1 z2⟩), PI.use ?_⟩
              rw [← hex]
              have hwt := gw t (by omega) (by omega)
              refine B_X9_reckons_271 hC hS.o ?_
              simp (disch := first | assumption | omega) only [row_off, row_in, row_out, up_same, up_ne, cpy_off, rwo_off, rwo_at, rwo_out, mg6, mg7, mg8, mg9, mg10, mg12, mg30, mg31, mg32, mg33, mg35, mg36, mg37, mg38, mg39, mg43, mg44, mg45, mg46, mg47, mg48, mg49, mg50, mg53, mg54, mg55, mg56, mg57, mg58, mg59, mg60, mg65, mg66, mg67, mg68, mg69, mg70, mg71, mg72, hwt, g62]
              by_cases hz : W'.way t = -1
              · have hroom := b1.room (t := t) (by omega) hz
                unfold bMv at hih2
                rw [if_neg (fun w => w.elim (fun w => by omega) (fun w => w hz))] at hih2
                (repeat' (first | (with_reducible exact ixO (by assumption) (by omega)) | with_reducible apply And.intro | with_reducible intro)) <;> (try first | omega | (with_reducible apply Nat.le_refl) | rfl | exact absurd trivial (by assumption))
                refine hih2 _ (by omega) (fun x j z1 z2 => by simp (disch := first | assumption | omega) only [row_off, row_in, row_out, up_same, up_ne, cpy_off, rwo_off, rwo_at, rwo_out, mg6, mg7, mg8, mg9, mg10, mg12, mg30, mg31, mg32, mg33, mg35, mg36, mg37, mg38, mg39, mg43, mg44, mg45, mg46, mg47, mg48, mg49, mg50, mg53, mg54, mg55, mg56, mg57, mg58, mg59, mg60, mg65, mg66, mg67, mg68, mg69, mg70, mg71, mg72]; exact gF x j z1 z2) (by simp (disch := first | assumption | omega) only [row_off, row_in, row_out, up_same, up_ne, cpy_off, rwo_off, rwo_at, rwo_out, mg6, mg7, mg8, mg9, mg10, mg12, mg30, mg31, mg32, mg33, mg35, mg36, mg37, mg38, mg39, mg43, mg44, mg45, mg46, mg47, mg48, mg49, mg50, mg53, mg54, mg55, mg56, mg57, mg58, mg59, mg60, mg65, mg66, mg67, mg68, mg69, mg70, mg71, mg72]; exact g61) (fun x r z1 z2 z3 z4 z5 => by simp (disch := first | assumption | omega) only [row_off, row_in, row_out, up_same, up_ne, cpy_off, rwo_off, rwo_at, rwo_out, mg6, mg7, mg8, mg9, mg10, mg12, mg30, mg31, mg32, mg33, mg35, mg36, mg37, mg38, mg39, mg43, mg44, mg45, mg46, mg47, mg48, mg49, mg50, mg53, mg54, mg55, mg56, mg57, mg58, mg59, mg60, mg65, mg66, mg67, mg68, mg69, mg70, mg71, mg72]; exact gPt x r z1 z2 z3 z4 z5) (fun t2 z1 z2 => ?_) (fun j z1 z2 => ?_) (fun k z1 z2 => by simp (disch := first | assumption | omega) only [row_off, row_in, row_out, up_same, up_ne, cpy_off, rwo_off, rwo_at, rwo_out, mg6, mg7, mg8, mg9, mg10, mg12, mg30, mg31, mg32, mg33, mg35, mg36, mg37, mg38, mg39, mg43, mg44, mg45, mg46, mg47, mg48, mg49, mg50, mg53, mg54, mg55, mg56, mg57, mg58, mg59, mg60, mg65, mg66, mg67, mg68, mg69, mg70, mg71, mg72]; exact gm k z1 z2) (by simp (disch := first | assumption | omega) only [row_off, row_in, row_out, up_same, up_ne, cpy_off, rwo_off, rwo_at, rwo_out, mg6, mg7, mg8, mg9, mg10, mg12, mg30, mg31, mg32, mg33, mg35, mg36, mg37, mg38, mg39, mg43, mg44, mg45, mg46, mg47, mg48, mg49, mg50, mg53, mg54, mg55, mg56, mg57, mg58, mg59, mg60, mg65, mg66, mg67, mg68, mg69, mg70, mg71, mg72]; exact g62)
                · show _ = fup W'.way t (W.way (W.que i) + 1) t2
                  by_cases e : t2 = t
                  · subst e
                    rw [fup_s]; simp (disch := first | assumption | omega) only [row_off, row_in, row_out, up_same, up_ne, cpy_off, rwo_off, rwo_at, rwo_out, mg6, mg7, mg8, mg9, mg10, mg12, mg30, mg31, mg32, mg33, mg35, mg36, mg37, mg38, mg39, mg43, mg44, mg45, mg46, mg47, mg48, mg49, mg50, mg53, mg54, mg55, mg56, mg57, mg58, mg59, mg60, mg65, mg66, mg67, mg68, mg69, mg70, mg71, mg72]
                  · rw [fup_n e]; simp (disch := first | assumption | omega) only [row_off, row_in, row_out, up_same, up_ne, cpy_off, rwo_off, rwo_at, rwo_out, mg6, mg7, mg8, mg9, mg10, mg12, mg30, mg31, mg32, mg33, mg35, mg36, mg37, mg38, mg39, mg43, mg44, mg45, mg46, mg47, mg48, mg49, mg50, mg53, mg54, mg55, mg56, mg57, mg58, mg59, mg60, mg65, mg66, mg67, mg68, mg69, mg70, mg71, mg72]
                    exact gw t2 z1 z2
                · have z2' : j < W'.last + 1 := z2
                  show _ = fup W'.que W'.last t j
                  by_cases e : j = W'.last
                  · subst e
                    rw [fup_s]; simp (disch := first | assumption | omega) only [row_off, row_in, row_out, up_same, up_ne, cpy_off, rwo_off, rwo_at, rwo_out, mg6, mg7, mg8, mg9, mg10, mg12, mg30, mg31, mg32, mg33, mg35, mg36, mg37, mg38, mg39, mg43, mg44, mg45, mg46, mg47, mg48, mg49, mg50, mg53, mg54, mg55, mg56, mg57, mg58, mg59, mg60, mg65, mg66, mg67, mg68, mg69, mg70, mg71, mg72]
                  · rw [fup_n e]; simp (disch := first | assumption | omega) only [row_off, row_in, row_out, up_same, up_ne, cpy_off, rwo_off, rwo_at, rwo_out, mg6, mg7, mg8, mg9, mg10, mg12, mg30, mg31, mg32, mg33, mg35, mg36, mg37, mg38, mg39, mg43, mg44, mg45, mg46, mg47, mg48, mg49, mg50, mg53, mg54, mg55, mg56, mg57, mg58, mg59, mg60, mg65, mg66, mg67, mg68, mg69, mg70, mg71, mg72]
                    exact gq j z1 (by omega)
              · unfold bMv at hih2
                rw [if_pos (Or.inr hz)] at hih2
                (repeat' (first | (with_reducible exact ixO (by assumption) (by omega)) | with_reducible apply And.intro | with_reducible intro)) <;> (try first | omega | (with_reducible apply Nat.le_refl) | rfl | exact absurd trivial (by assumption))
                exact hih2 m2 (by omega) gF g61 gPt gw gq gm g62
            · rename_i hjx
              rw [if_neg hjx] at hex
              unfold bMv at hih2
              rw [if_pos (Or.inl hex)] at hih2
              exact hih2 m2 (by omega) gF g61 gPt gw gq gm g62
        refine B_X9_reckons_205 hC hS.o ?_
        simp (disch := first | assumption | omega) only [row_off, row_in, row_out, up_same, up_ne, cpy_off, rwo_off, rwo_at, rwo_out, mg6, mg7, mg8, mg9, mg10, mg12, mg30, mg31, mg32, mg33, mg35, mg36, mg37, mg38, mg39, mg43, mg44, mg45, mg46, mg47, mg48, mg49, mg50, mg53, mg54, mg55, mg56, mg57, mg58, mg59, mg60, mg65, mg66, mg67, mg68, mg69, mg70, mg71, mg72, hq30, hw29, hm31]
        (repeat' (first | (with_reducible exact ixO (by assumption) (by omega)) | with_reducible apply And.intro | with_reducible intro)) <;> (try first | omega | (with_reducible apply Nat.le_refl) | rfl | exact absurd trivial (by assumption))
        refine inn n.toNat 0 _ (by omega) (fun x j z1 z2 => by simp (disch := first | assumption | omega) only [row_off, row_in, row_out, up_same, up_ne, cpy_off, rwo_off, rwo_at, rwo_out, mg6, mg7, mg8, mg9, mg10, mg12, mg30, mg31, mg32, mg33, mg35, mg36, mg37, mg38, mg39, mg43, mg44, mg45, mg46, mg47, mg48, mg49, mg50, mg53, mg54, mg55, mg56, mg57, mg58, mg59, mg60, mg65, mg66, mg67, mg68, mg69, mg70, mg71, mg72]; exact hF x j z1 z2) (by simp (disch := first | assumption | omega) only [row_off, row_in, row_out, up_same, up_ne, cpy_off, rwo_off, rwo_at, rwo_out, mg6, mg7, mg8, mg9, mg10, mg12, mg30, mg31, mg32, mg33, mg35, mg36, mg37, mg38, mg39, mg43, mg44, mg45, mg46, mg47, mg48, mg49, mg50, mg53, mg54, mg55, mg56, mg57, mg58, mg59, mg60, mg65, mg66, mg67, mg68, mg69, mg70, mg71, mg72]; exact h61) (fun x r z1 z2 z3 z4 z5 => by simp (disch := first | assumption | omega) only [row_off, row_in, row_out, up_same, up_ne, cpy_off, rwo_off, rwo_at, rwo_out, mg6, mg7, mg8, mg9, mg10, mg12, mg30, mg31, mg32, mg33, mg35, mg36, mg37, mg38, mg39, mg43, mg44, mg45, mg46, mg47, mg48, mg49, mg50, mg53, mg54, mg55, mg56, mg57, mg58, mg59, mg60, mg65, mg66, mg67, mg68, mg69, mg70, mg71, mg72]; exact hPt x r z1 z2 z3 z4 z5) (fun t z1 z2 => by simp (disch := first | assumption | omega) only [row_off, row_in, row_out, up_same, up_ne, cpy_off, rwo_off, rwo_at, rwo_out, mg6, mg7, mg8, mg9, mg10, mg12, mg30, mg31, mg32, mg33, mg35, mg36, mg37, mg38, mg39, mg43, mg44, mg45, mg46, mg47, mg48, mg49, mg50, mg53, mg54, mg55, mg56, mg57, mg58, mg59, mg60, mg65, mg66, mg67, mg68, mg69, mg70, mg71, mg72]; exact hw t z1 z2) (fun j z1 z2 => by simp (disch := first | assumption | omega) only [row_off, row_in, row_out, up_same, up_ne, cpy_off, rwo_off, rwo_at, rwo_out, mg6, mg7, mg8, mg9, mg10, mg12, mg30, mg31, mg32, mg33, mg35, mg36, mg37, mg38, mg39, mg43, mg44, mg45, mg46, mg47, mg48, mg49, mg50, mg53, mg54, mg55, mg56, mg57, mg58, mg59, mg60, mg65, mg66, mg67, mg68, mg69, mg70, mg71, mg72]; exact hqu j z1 z2) (fun k z1 z2 => ?_) (by simp (disch := first | assumption | omega) only [row_off, row_in, row_out, up_same, up_ne, cpy_off, rwo_off, rwo_at, rwo_out, mg6, mg7, mg8, mg9, mg10, mg12, mg30, mg31, mg32, mg33, mg35, mg36, mg37, mg38, mg39, mg43, mg44, mg45, mg46, mg47, mg48, mg49, mg50, mg53, mg54, mg55, mg56, mg57, mg58, mg59, mg60, mg65, mg66, mg67, mg68, mg69, mg70, mg71, mg72])
        rw [lvC]
        by_cases e : k = W.way (W.que i)
        · subst e
          rw [if_pos rfl]; simp (disch := first | assumption | omega) only [row_off, row_in, row_out, up_same, up_ne, cpy_off, rwo_off, rwo_at, rwo_out, mg6, mg7, mg8, mg9, mg10, mg12, mg30, mg31, mg32, mg33, mg35, mg36, mg37, mg38, mg39, mg43, mg44, mg45, mg46, mg47, mg48, mg49, mg50, mg53, mg54, mg55, mg56, mg57, mg58, mg59, mg60, mg65, mg66, mg67, mg68, mg69, mg70, mg71, mg72]
        · rw [if_neg (fun w => e w.symm)]; simp (disch := first | assumption | omega) only [row_off, row_in, row_out, up_same, up_ne, cpy_off, rwo_off, rwo_at, rwo_out, mg6, mg7, mg8, mg9, mg10, mg12, mg30, mg31, mg32, mg33, mg35, mg36, mg37, mg38, mg39, mg43, mg44, mg45, mg46, mg47, mg48, mg49, mg50, mg53, mg54, mg55, mg56, mg57, mg58, mg59, mg60, mg65, mg66, mg67, mg68, mg69, mg70, mg71, mg72]
          rw [hmy k z1 z2]; omega
  -- the beginning of the walk
  have b1 : ∀ (k : Nat) (i : Int) (m : Mu), 0 ≤ i → N - i = k → (∀ x j, (x < b + 28 ∨ b + 31 < x) → (x = b → j ≠ 61 ∧ j ≠ 62 ∧ j ≠ 63) → m x j = μ x j) → m b 61 ≠ 0 → m b 63 = N → (∀ x r : Int, 0 ≤ x → x < n → jm x = 0 → 0 ≤ r → r < S.c → m (b + 28) (36 * x + r) = partP S q x r) → (∀ t : Int, 0 ≤ t → t < i → m (b + 29) t = -1 ∧ m (b + 31) t = 0) → V X G (Qm X G 0 P) 0 159 [aR b, aI i, aD, aD, aD] [] γ m := by
    intro k
    induction k with
    | zero =>
      intro i m h0 hk hF h61 h63 hPt hz
      refine B_X9_reckons_159 hC hS.o ?_
      simp (disch := first | assumption | omega) only [row_off, row_in, row_out, up_same, up_ne, cpy_off, rwo_off, rwo_at, rwo_out, mg6, mg7, mg8, mg9, mg10, mg12, mg30, mg31, mg32, mg33, mg35, mg36, mg37, mg38, mg39, mg43, mg44, mg45, mg46, mg47, mg48, mg49, mg50, mg53, mg54, mg55, mg56, mg57, mg58, mg59, mg60, mg65, mg66, mg67, mg68, mg69, mg70, mg71, mg72, h63]
      (repeat' (first | (with_reducible exact ixO (by assumption) (by omega)) | with_reducible apply And.intro | with_reducible intro)) <;> (try first | omega | (with_reducible apply Nat.le_refl) | rfl | exact absurd trivial (by assumption))
      refine bo N 0 _ (by omega) (fun x j z1 z2 => by simp (disch := first | assumption | omega) only [row_off, row_in, row_out, up_same, up_ne, cpy_off, rwo_off, rwo_at, rwo_out, mg6, mg7, mg8, mg9, mg10, mg12, mg30, mg31, mg32, mg33, mg35, mg36, mg37, mg38, mg39, mg43, mg44, mg45, mg46, mg47, mg48, mg49, mg50, mg53, mg54, mg55, mg56, mg57, mg58, mg59, mg60, mg65, mg66, mg67, mg68, mg69, mg70, mg71, mg72]; exact hF x j z1 z2) (by simp (disch := first | assumption | omega) only [row_off, row_in, row_out, up_same, up_ne, cpy_off, rwo_off, rwo_at, rwo_out, mg6, mg7, mg8, mg9, mg10, mg12, mg30, mg31, mg32, mg33, mg35, mg36, mg37, mg38, mg39, mg43, mg44, mg45, mg46, mg47, mg48, mg49, mg50, mg53, mg54, mg55, mg56, mg57, mg58, mg59, mg60, mg65, mg66, mg67, mg68, mg69, mg70, mg71, mg72]; exact h61) (fun x r z1 z2 z3 z4 z5 => by simp (disch := first | assumption | omega) only [row_off, row_in, row_out, up_same, up_ne, cpy_off, rwo_off, rwo_at, rwo_out, mg6, mg7, mg8, mg9, mg10, mg12, mg30, mg31, mg32, mg33, mg35, mg36, mg37, mg38, mg39, mg43, mg44, mg45, mg46, mg47, mg48, mg49, mg50, mg53, mg54, mg55, mg56, mg57, mg58, mg59, mg60, mg65, mg66, mg67, mg68, mg69, mg70, mg71, mg72]; exact hPt x r z1 z2 z3 z4 z5) (Nat.zero_le _) (fun t z1 z2 => ?_) (fun j z1 z2 => ?_) (fun k z1 z2 => by simp (disch := first | assumption | omega) only [row_off, row_in, row_out, up_same, up_ne, cpy_off, rwo_off, rwo_at, rwo_out, mg6, mg7, mg8, mg9, mg10, mg12, mg30, mg31, mg32, mg33, mg35, mg36, mg37, mg38, mg39, mg43, mg44, mg45, mg46, mg47, mg48, mg49, mg50, mg53, mg54, mg55, mg56, mg57, mg58, mg59, mg60, mg65, mg66, mg67, mg68, mg69, mg70, mg71, mg72]; exact (hz k z1 (by omega)).2) (fun w => absurd w (by omega))
      · show _ = fup (fun _ => -1) 0 0 t
        by_cases e : t = 0
        · subst e
          rw [fup_s]; simp (disch := first | assumption | omega) only [row_off, row_in, row_out, up_same, up_ne, cpy_off, rwo_off, rwo_at, rwo_out, mg6, mg7, mg8, mg9, mg10, mg12, mg30, mg31, mg32, mg33, mg35, mg36, mg37, mg38, mg39, mg43, mg44, mg45, mg46, mg47, mg48, mg49, mg50, mg53, mg54, mg55, mg56, mg57, mg58, mg59, mg60, mg65, mg66, mg67, mg68, mg69, mg70, mg71, mg72]
        · rw [fup_n e]; simp (disch := first | assumption | omega) only [row_off, row_in, row_out, up_same, up_ne, cpy_off, rwo_off, rwo_at, rwo_out, mg6, mg7, mg8, mg9, mg10, mg12, mg30, mg31, mg32, mg33, mg35, mg36, mg37, mg38, mg39, mg43, mg44, mg45, mg46, mg47, mg48, mg49, mg50, mg53, mg54, mg55, mg56, mg57, mg58, mg59, mg60, mg65, mg66, mg67, mg68, mg69, mg70, mg71, mg72]
          exact (hz t z1 (by omega)).1
      · have z2' : j < ((1 : Nat) : Int) := z2
        obtain rfl : j = 0 := by omega
        show _ = fup (fun _ => 0) 0 0 0
        rw [fup_s]; simp (disch := first | assumption | omega) only [row_off, row_in, row_out, up_same, up_ne, cpy_off, rwo_off, rwo_at, rwo_out, mg6, mg7, mg8, mg9, mg10, mg12, mg30, mg31, mg32, mg33, mg35, mg36, mg37, mg38, mg39, mg43, mg44, mg45, mg46, mg47, mg48, mg49, mg50, mg53, mg54, mg55, mg56, mg57, mg58, mg59, mg60, mg65, mg66, mg67, mg68, mg69, mg70, mg71, mg72]
    | succ k ih =>
      intro i m h0 hk hF h61 h63 hPt hz
      refine B_X9_reckons_159 hC hS.o ?_
      simp (disch := first | assumption | omega) only [row_off, row_in, row_out, up_same, up_ne, cpy_off, rwo_off, rwo_at, rwo_out, mg6, mg7, mg8, mg9, mg10, mg12, mg30, mg31, mg32, mg33, mg35, mg36, mg37, mg38, mg39, mg43, mg44, mg45, mg46, mg47, mg48, mg49, mg50, mg53, mg54, mg55, mg56, mg57, mg58, mg59, mg60, mg65, mg66, mg67, mg68, mg69, mg70, mg71, mg72, h63]
      (repeat' (first | (with_reducible exact ixO (by assumption) (by omega)) | with_reducible apply And.intro | with_reducible intro)) <;> (try first | omega | (with_reducible apply Nat.le_refl) | rfl | exact absurd trivial (by assumption))
      refine ih (i + 1) _ (by omega) (by omega) (fun x j z1 z2 => by simp (disch := first | assumption | omega) only [row_off, row_in, row_out, up_same, up_ne, cpy_off, rwo_off, rwo_at, rwo_out, mg6, mg7, mg8, mg9, mg10, mg12, mg30, mg31, mg32, mg33, mg35, mg36, mg37, mg38, mg39, mg43, mg44, mg45, mg46, mg47, mg48, mg49, mg50, mg53, mg54, mg55, mg56, mg57, mg58, mg59, mg60, mg65, mg66, mg67, mg68, mg69, mg70, mg71, mg72]; exact hF x j z1 z2) (by simp (disch := first | assumption | omega) only [row_off, row_in, row_out, up_same, up_ne, cpy_off, rwo_off, rwo_at, rwo_out, mg6, mg7, mg8, mg9, mg10, mg12, mg30, mg31, mg32, mg33, mg35, mg36, mg37, mg38, mg39, mg43, mg44, mg45, mg46, mg47, mg48, mg49, mg50, mg53, mg54, mg55, mg56, mg57, mg58, mg59, mg60, mg65, mg66, mg67, mg68, mg69, mg70, mg71, mg72]; exact h61) (by simp (disch := first | assumption | omega) only [row_off, row_in, row_out, up_same, up_ne, cpy_off, rwo_off, rwo_at, rwo_out, mg6, mg7, mg8, mg9, mg10, mg12, mg30, mg31, mg32, mg33, mg35, mg36, mg37, mg38, mg39, mg43, mg44, mg45, mg46, mg47, mg48, mg49, mg50, mg53, mg54, mg55, mg56, mg57, mg58, mg59, mg60, mg65, mg66, mg67, mg68, mg69, mg70, mg71, mg72]; exact h63) (fun x r z1 z2 z3 z4 z5 => by simp (disch := first | assumption | omega) only [row_off, row_in, row_out, up_same, up_ne, cpy_off, rwo_off, rwo_at, rwo_out, mg6, mg7, mg8, mg9, mg10, mg12, mg30, mg31, mg32, mg33, mg35, mg36, mg37, mg38, mg39, mg43, mg44, mg45, mg46, mg47, mg48, mg49, mg50, mg53, mg54, mg55, mg56, mg57, mg58, mg59, mg60, mg65, mg66, mg67, mg68, mg69, mg70, mg71, mg72]; exact hPt x r z1 z2 z3 z4 z5) (fun t z1 z2 => ?_)
      by_cases e : t = i
      · subst e
        exact ⟨by simp (disch := first | assumption | omega) only [row_off, row_in, row_out, up_same, up_ne, cpy_off, rwo_off, rwo_at, rwo_out, mg6, mg7, mg8, mg9, mg10, mg12, mg30, mg31, mg32, mg33, mg35, mg36, mg37, mg38, mg39, mg43, mg44, mg45, mg46, mg47, mg48, mg49, mg50, mg53, mg54, mg55, mg56, mg57, mg58, mg59, mg60, mg65, mg66, mg67, mg68, mg69, mg70, mg71, mg72], by simp (disch := first | assumption | omega) only [row_off, row_in, row_out, up_same, up_ne, cpy_off, rwo_off, rwo_at, rwo_out, mg6, mg7, mg8, mg9, mg10, mg12, mg30, mg31, mg32, mg33, mg35, mg36, mg37, mg38, mg39, mg43, mg44, mg45, mg46, mg47, mg48, mg49, mg50, mg53, mg54, mg55, mg56, mg57, mg58, mg59, mg60, mg65, mg66, mg67, mg68, mg69, mg70, mg71, mg72]⟩
      · exact ⟨by simp (disch := first | assumption | omega) only [row_off, row_in, row_out, up_same, up_ne, cpy_off, rwo_off, rwo_at, rwo_out, mg6, mg7, mg8, mg9, mg10, mg12, mg30, mg31, mg32, mg33, mg35, mg36, mg37, mg38, mg39, mg43, mg44, mg45, mg46, mg47, mg48, mg49, mg50, mg53, mg54, mg55, mg56, mg57, mg58, mg59, mg60, mg65, mg66, mg67, mg68, mg69, mg70, mg71, mg72]; exact (hz t z1 (by omega)).1, by simp (disch := first | assumption | omega) only [row_off, row_in, row_out, up_same, up_ne, cpy_off, rwo_off, rwo_at, rwo_out, mg6, mg7, mg8, mg9, mg10, mg12, mg30, mg31, mg32, mg33, mg35, mg36, mg37, mg38, mg39, mg43, mg44, mg45, mg46, mg47, mg48, mg49, mg50, mg53, mg54, mg55, mg56, mg57, mg58, mg59, mg60, mg65, mg66, mg67, mg68, mg69, mg70, mg71, mg72]; exact (hz t z1 (by omega)).2⟩
  -- the bound ones
  have ptb : ∀ (k i : Nat) (m : Mu), i + k = S.tc → (∀ x j, (x < b + 28 ∨ b + 31 < x) → (x = b → j ≠ 61 ∧ j ≠ 62 ∧ j ≠ 63) → m x j = μ x j) → m b 61 ≠ 0 → (∀ x r : Int, 0 ≤ x → x < n → jm x = 0 → 0 ≤ r → r < S.c → m (b + 28) (36 * x + r) = if fndL S.td x i 0 = -1 then (if S.od r = x then 1 else 0) else (q - S.tv (fndL S.td x i 0) (S.od r)) % q) → V X G (Qm X G 0 P) 0 70 [aR b, aI i, aD, aD, aD] [] γ m := by
    intro k
    induction k with
    | zero =>
      intro i m hi hF h61 hPt
      obtain rfl : i = S.tc := by omega
      obtain ⟨f1, f2, f40, f41, fod, ftd, fj⟩ := fr hF
      refine B_X9_reckons_70 hC hS.o ?_
      simp (disch := first | assumption | omega) only [row_off, row_in, row_out, up_same, up_ne, cpy_off, rwo_off, rwo_at, rwo_out, mg6, mg7, mg8, mg9, mg10, mg12, mg30, mg31, mg32, mg33, mg35, mg36, mg37, mg38, mg39, mg43, mg44, mg45, mg46, mg47, mg48, mg49, mg50, mg53, mg54, mg55, mg56, mg57, mg58, mg59, mg60, mg65, mg66, mg67, mg68, mg69, mg70, mg71, mg72, f41, f40]
      (repeat' (first | (with_reducible exact ixO (by assumption) (by omega)) | with_reducible apply And.intro | with_reducible intro)) <;> (try first | omega | (with_reducible apply Nat.le_refl) | rfl | exact absurd trivial (by assumption))
      refine ⟨0, 0, _, hd, Nat.le_refl _, hX ▸ m_power hl 0 S.c hS f2 hqb (by omega) (by omega), PI.use ?_⟩
      rw [if_pos hN, hNe]
      refine B_X9_reckons_154 hC hS.o ⟨hS.o, ?_⟩
      exact b1 N 0 _ (by omega) (by omega) (fun x j z1 z2 => by simp (disch := first | assumption | omega) only [row_off, row_in, row_out, up_same, up_ne, cpy_off, rwo_off, rwo_at, rwo_out, mg6, mg7, mg8, mg9, mg10, mg12, mg30, mg31, mg32, mg33, mg35, mg36, mg37, mg38, mg39, mg43, mg44, mg45, mg46, mg47, mg48, mg49, mg50, mg53, mg54, mg55, mg56, mg57, mg58, mg59, mg60, mg65, mg66, mg67, mg68, mg69, mg70, mg71, mg72]; exact hF x j z1 z2) (by simp (disch := first | assumption | omega) only [row_off, row_in, row_out, up_same, up_ne, cpy_off, rwo_off, rwo_at, rwo_out, mg6, mg7, mg8, mg9, mg10, mg12, mg30, mg31, mg32, mg33, mg35, mg36, mg37, mg38, mg39, mg43, mg44, mg45, mg46, mg47, mg48, mg49, mg50, mg53, mg54, mg55, mg56, mg57, mg58, mg59, mg60, mg65, mg66, mg67, mg68, mg69, mg70, mg71, mg72]; exact h61) (by simp (disch := first | assumption | omega) only [row_off, row_in, row_out, up_same, up_ne, cpy_off, rwo_off, rwo_at, rwo_out, mg6, mg7, mg8, mg9, mg10, mg12, mg30, mg31, mg32, mg33, mg35, mg36, mg37, mg38, mg39, mg43, mg44, mg45, mg46, mg47, mg48, mg49, mg50, mg53, mg54, mg55, mg56, mg57, mg58, mg59, mg60, mg65, mg66, mg67, mg68, mg69, mg70, mg71, mg72]) (fun x r z1 z2 z3 z4 z5 => by simp (disch := first | assumption | omega) only [row_off, row_in, row_out, up_same, up_ne, cpy_off, rwo_off, rwo_at, rwo_out, mg6, mg7, mg8, mg9, mg10, mg12, mg30, mg31, mg32, mg33, mg35, mg36, mg37, mg38, mg39, mg43, mg44, mg45, mg46, mg47, mg48, mg49, mg50, mg53, mg54, mg55, mg56, mg57, mg58, mg59, mg60, mg65, mg66, mg67, mg68, mg69, mg70, mg71, mg72]; exact hPt x r z1 z2 z3 z4 z5) (fun t z1 z2 => by omega)
    | succ k ih =>
      intro i m hi hF h61 hPt
      obtain ⟨f1, f2, f40, f41, fod, ftd, fj⟩ := fr hF
      have htd := i2 i (by omega) (by omega)
      obtain ⟨ft1, ft2⟩ := ftd i (by omega) (by omega)
      have inn : ∀ (k2 : Nat) (r0 : Int) (m2 : Mu), 0 ≤ r0 → S.c - r0 = k2 → (∀ x j, (x < b + 28 ∨ b + 31 < x) → (x = b → j ≠ 61 ∧ j ≠ 62 ∧ j ≠ 63) → m2 x j = μ x j) → m2 b 61 ≠ 0 → (∀ x r : Int, 0 ≤ x → x < n → jm x = 0 → 0 ≤ r → r < S.c → m2 (b + 28) (36 * x + r) = if x = S.td i ∧ r < r0 then (q - S.tv i (S.od r)) % q else m (b + 28) (36 * x + r)) → V X G (Qm X G 0 P) 0 80 [aR b, aI i, aI r0, aD, aD] [] γ m2 := by
        intro k2
        induction k2 with
        | zero =>
          intro r0 m2 h0 hr gF g61 gPt
          have g40 := (fr gF).2.2.1
          refine B_X9_reckons_80 hC hS.o ?_
          simp (disch := first | assumption | omega) only [row_off, row_in, row_out, up_same, up_ne, cpy_off, rwo_off, rwo_at, rwo_out, mg6, mg7, mg8, mg9, mg10, mg12, mg30, mg31, mg32, mg33, mg35, mg36, mg37, mg38, mg39, mg43, mg44, mg45, mg46, mg47, mg48, mg49, mg50, mg53, mg54, mg55, mg56, mg57, mg58, mg59, mg60, mg65, mg66, mg67, mg68, mg69, mg70, mg71, mg72, g40]
          (repeat' (first | (with_reducible exact ixO (by assumption) (by omega)) | with_reducible apply And.intro | with_reducible intro)) <;> (try first | omega | (with_reducible apply Nat.le_refl) | rfl | exact absurd trivial (by assumption))
          refine ih (i + 1) m2 (by omega) gF g61 (fun x r z1 z2 z3 z4 z5 => ?_)
          rw [gPt x r z1 z2 z3 z4 z5, fndL_succ _ _ _ _ (Int.le_refl _), hPt x r z1 z2 z3 z4 z5]
          rw [show (0 : Int) + i = i by omega]
          by_cases e : x = S.td i
          · have hno : fndL S.td x i 0 = -1 := fndL_none i 0 (fun j y1 y2 => by have := u1 j i (by omega) (by omega) (by omega); omega)
            rw [if_pos ⟨e, by omega⟩, hno, if_pos rfl, if_pos e.symm, if_neg (by omega)]
          · rw [if_neg (fun w => e w.1)]
            by_cases hno : fndL S.td x i 0 = -1
            · rw [if_pos hno, if_pos hno, if_neg (show ¬ S.td i = x from fun w => e w.symm), if_pos rfl]
            · rw [if_neg hno, if_neg hno, if_neg hno]
        | succ k2 ih2 =>
          intro r0 m2 h0 hr gF g61 gPt
          obtain ⟨c1, c2, c40, c41, cod, ctd, cj⟩ := fr gF
          obtain ⟨ct1, ct2⟩ := ctd i (by omega) (by omega)
          have ho := i1 r0 h0 (by omega)
          have htq := hwf.2 i (by omega) (by omega) (S.od r0) ho.1 (by omega)
          refine B_X9_reckons_80 hC hS.o ?_
          simp (disch := first | assumption | omega) only [row_off, row_in, row_out, up_same, up_ne, cpy_off, rwo_off, rwo_at, rwo_out, mg6, mg7, mg8, mg9, mg10, mg12, mg30, mg31, mg32, mg33, mg35, mg36, mg37, mg38, mg39, mg43, mg44, mg45, mg46, mg47, mg48, mg49, mg50, mg53, mg54, mg55, mg56, mg57, mg58, mg59, mg60, mg65, mg66, mg67, mg68, mg69, mg70, mg71, mg72, c40, ct1, cod r0 h0 (by omega), c2, ct2 (S.od r0) ho.1 (by omega)]
          (repeat' (first | (with_reducible exact ixO (by assumption) (by omega)) | with_reducible apply And.intro | with_reducible intro)) <;> (try first | omega | (with_reducible apply Nat.le_refl) | rfl | exact absurd trivial (by assumption))
          refine ih2 (r0 + 1) _ (by omega) (by omega) (fun x j z1 z2 => by simp (disch := first | assumption | omega) only [row_off, row_in, row_out, up_same, up_ne, cpy_off, rwo_off, rwo_at, rwo_out, mg6, mg7, mg8, mg9, mg10, mg12, mg30, mg31, mg32, mg33, mg35, mg36, mg37, mg38, mg39, mg43, mg44, mg45, mg46, mg47, mg48, mg49, mg50, mg53, mg54, mg55, mg56, mg57, mg58, mg59, mg60, mg65, mg66, mg67, mg68, mg69, mg70, mg71, mg72]; exact gF x j z1 z2) (by simp (disch := first | assumption | omega) only [row_off, row_in, row_out, up_same, up_ne, cpy_off, rwo_off, rwo_at, rwo_out, mg6, mg7, mg8, mg9, mg10, mg12, mg30, mg31, mg32, mg33, mg35, mg36, mg37, mg38, mg39, mg43, mg44, mg45, mg46, mg47, mg48, mg49, mg50, mg53, mg54, mg55, mg56, mg57, mg58, mg59, mg60, mg65, mg66, mg67, mg68, mg69, mg70, mg71, mg72]; exact g61) (fun x r z1 z2 z3 z4 z5 => ?_)
          by_cases e : x = S.td i ∧ r = r0
          · obtain ⟨rfl, rfl⟩ := e
            rw [if_pos ⟨rfl, by omega⟩]
            simp (disch := first | assumption | omega) only [row_off, row_in, row_out, up_same, up_ne, cpy_off, rwo_off, rwo_at, rwo_out, mg6, mg7, mg8, mg9, mg10, mg12, mg30, mg31, mg32, mg33, mg35, mg36, mg37, mg38, mg39, mg43, mg44, mg45, mg46, mg47, mg48, mg49, mg50, mg53, mg54, mg55, mg56, mg57, mg58, mg59, mg60, mg65, mg66, mg67, mg68, mg69, mg70, mg71, mg72]
            exact Int.tmod_eq_emod_of_nonneg (by omega)
          · simp (disch := first | assumption | omega) only [row_off, row_in, row_out, up_same, up_ne, cpy_off, rwo_off, rwo_at, rwo_out, mg6, mg7, mg8, mg9, mg10, mg12, mg30, mg31, mg32, mg33, mg35, mg36, mg37, mg38, mg39, mg43, mg44, mg45, mg46, mg47, mg48, mg49, mg50, mg53, mg54, mg55, mg56, mg57, mg58, mg59, mg60, mg65, mg66, mg67, mg68, mg69, mg70, mg71, mg72]
            rw [gPt x r z1 z2 z3 z4 z5]
            by_cases e2 : x = S.td i ∧ r < r0
            · rw [if_pos e2, if_pos (by omega)]
            · rw [if_neg e2, if_neg (by omega)]
      refine B_X9_reckons_70 hC hS.o ?_
      simp (disch := first | assumption | omega) only [row_off, row_in, row_out, up_same, up_ne, cpy_off, rwo_off, rwo_at, rwo_out, mg6, mg7, mg8, mg9, mg10, mg12, mg30, mg31, mg32, mg33, mg35, mg36, mg37, mg38, mg39, mg43, mg44, mg45, mg46, mg47, mg48, mg49, mg50, mg53, mg54, mg55, mg56, mg57, mg58, mg59, mg60, mg65, mg66, mg67, mg68, mg69, mg70, mg71, mg72, f41]
      (repeat' (first | (with_reducible exact ixO (by assumption) (by omega)) | with_reducible apply And.intro | with_reducible intro)) <;> (try first | omega | (with_reducible apply Nat.le_refl) | rfl | exact absurd trivial (by assumption))
      exact inn S.c 0 m (by omega) (by omega) hF h61 (fun x r z1 z2 z3 z4 z5 => by rw [if_neg (by omega)])
  -- the own ones
  have pto : ∀ (k : Nat) (i : Int) (m : Mu), 0 ≤ i → S.c - i = k → (∀ x j, (x < b + 28 ∨ b + 31 < x) → (x = b → j ≠ 61 ∧ j ≠ 62 ∧ j ≠ 63) → m x j = μ x j) → m b 61 ≠ 0 → (∀ x r : Int, 0 ≤ x → x < n → 0 ≤ r → r < S.c → m (b + 28) (36 * x + r) = if S.od r = x ∧ r < i then 1 else 0) → V X G (Qm X G 0 P) 0 37 [aR b, aI i, aD, aD, aD] [] γ m := by
    intro k
    induction k with
    | zero =>
      intro i m h0 hi hF h61 hPt
      have g40 := (fr hF).2.2.1
      refine B_X9_reckons_37 hC hS.o ?_
      simp (disch := first | assumption | omega) only [row_off, row_in, row_out, up_same, up_ne, cpy_off, rwo_off, rwo_at, rwo_out, mg6, mg7, mg8, mg9, mg10, mg12, mg30, mg31, mg32, mg33, mg35, mg36, mg37, mg38, mg39, mg43, mg44, mg45, mg46, mg47, mg48, mg49, mg50, mg53, mg54, mg55, mg56, mg57, mg58, mg59, mg60, mg65, mg66, mg67, mg68, mg69, mg70, mg71, mg72, g40]
      (repeat' (first | (with_reducible exact ixO (by assumption) (by omega)) | with_reducible apply And.intro | with_reducible intro)) <;> (try first | omega | (with_reducible apply Nat.le_refl) | rfl | exact absurd trivial (by assumption))
      refine ptb S.tc 0 m (by omega) hF h61 (fun x r z1 z2 z3 z4 z5 => ?_)
      rw [hPt x r z1 z2 z4 z5]
      show _ = if (-1 : Int) = -1 then _ else _
      rw [if_pos rfl]
      by_cases e : S.od r = x
      · rw [if_pos e, if_pos ⟨e, by omega⟩]
      · rw [if_neg e, if_neg (fun w => e w.1)]
    | succ k ih =>
      intro i m h0 hi hF h61 hPt
      obtain ⟨f1, f2, f40, f41, fod, ftd, fj⟩ := fr hF
      have ho := i1 i h0 (by omega)
      refine B_X9_reckons_37 hC hS.o ?_
      simp (disch := first | assumption | omega) only [row_off, row_in, row_out, up_same, up_ne, cpy_off, rwo_off, rwo_at, rwo_out, mg6, mg7, mg8, mg9, mg10, mg12, mg30, mg31, mg32, mg33, mg35, mg36, mg37, mg38, mg39, mg43, mg44, mg45, mg46, mg47, mg48, mg49, mg50, mg53, mg54, mg55, mg56, mg57, mg58, mg59, mg60, mg65, mg66, mg67, mg68, mg69, mg70, mg71, mg72, f40, fod i h0 (by omega)]
      (repeat' (first | (with_reducible exact ixO (by assumption) (by omega)) | with_reducible apply And.intro | with_reducible intro)) <;> (try first | omega | (with_reducible apply Nat.le_refl) | rfl | exact absurd trivial (by assumption))
      refine ih (i + 1) _ (by omega) (by omega) (fun x j z1 z2 => by simp (disch := first | assumption | omega) only [row_off, row_in, row_out, up_same, up_ne, cpy_off, rwo_off, rwo_at, rwo_out, mg6, mg7, mg8, mg9, mg10, mg12, mg30, mg31, mg32, mg33, mg35, mg36, mg37, mg38, mg39, mg43, mg44, mg45, mg46, mg47, mg48, mg49, mg50, mg53, mg54, mg55, mg56, mg57, mg58, mg59, mg60, mg65, mg66, mg67, mg68, mg69, mg70, mg71, mg72]; exact hF x j z1 z2) (by simp (disch := first | assumption | omega) only [row_off, row_in, row_out, up_same, up_ne, cpy_off, rwo_off, rwo_at, rwo_out, mg6, mg7, mg8, mg9, mg10, mg12, mg30, mg31, mg32, mg33, mg35, mg36, mg37, mg38, mg39, mg43, mg44, mg45, mg46, mg47, mg48, mg49, mg50, mg53, mg54, mg55, mg56, mg57, mg58, mg59, mg60, mg65, mg66, mg67, mg68, mg69, mg70, mg71, mg72]; exact h61) (fun x r z1 z2 z4 z5 => ?_)
      by_cases e : x = S.od i ∧ r = i
      · obtain ⟨rfl, rfl⟩ := e
        rw [if_pos ⟨rfl, by omega⟩]
        simp (disch := first | assumption | omega) only [row_off, row_in, row_out, up_same, up_ne, cpy_off, rwo_off, rwo_at, rwo_out, mg6, mg7, mg8, mg9, mg10, mg12, mg30, mg31, mg32, mg33, mg35, mg36, mg37, mg38, mg39, mg43, mg44, mg45, mg46, mg47, mg48, mg49, mg50, mg53, mg54, mg55, mg56, mg57, mg58, mg59, mg60, mg65, mg66, mg67, mg68, mg69, mg70, mg71, mg72]
      · simp (disch := first | assumption | omega) only [row_off, row_in, row_out, up_same, up_ne, cpy_off, rwo_off, rwo_at, rwo_out, mg6, mg7, mg8, mg9, mg10, mg12, mg30, mg31, mg32, mg33, mg35, mg36, mg37, mg38, mg39, mg43, mg44, mg45, mg46, mg47, mg48, mg49, mg50, mg53, mg54, mg55, mg56, mg57, mg58, mg59, mg60, mg65, mg66, mg67, mg68, mg69, mg70, mg71, mg72]
        rw [hPt x r z1 z2 z4 z5]
        by_cases e2 : S.od r = x ∧ r < i
        · rw [if_pos e2, if_pos (by omega)]
        · rw [if_neg e2]
          by_cases e3 : S.od r = x ∧ r < i + 1
          · exfalso
            obtain rfl : r = i := by omega
            exact e ⟨e3.1.symm, rfl⟩
          · rw [if_neg e3]
  have ptz : ∀ (k : Nat) (i : Int) (m : Mu), 0 ≤ i → 1296 - i = k → (∀ x j, (x < b + 28 ∨ b + 31 < x) → (x = b → j ≠ 61 ∧ j ≠ 62 ∧ j ≠ 63) → m x j = μ x j) → m b 61 ≠ 0 → (∀ j, 0 ≤ j → j < i → m (b + 28) j = 0) → V X G (Qm X G 0 P) 0 15 [aR b, aI i, aD, aD, aD] [] γ m := by
    intro k
    induction k with
    | zero =>
      intro i m h0 hi hF h61 hz
      refine B_X9_reckons_15 hC hS.o ?_
      (repeat' (first | (with_reducible exact ixO (by assumption) (by omega)) | with_reducible apply And.intro | with_reducible intro)) <;> (try first | omega | (with_reducible apply Nat.le_refl) | rfl | exact absurd trivial (by assumption))
      exact pto S.c 0 m (by omega) (by omega) hF h61 (fun x r z1 z2 z4 z5 => by rw [hz _ (by omega) (by omega), if_neg (by omega)])
    | succ k ih =>
      intro i m h0 hi hF h61 hz
      refine B_X9_reckons_15 hC hS.o ?_
      simp (disch := first | assumption | omega) only [row_off, row_in, row_out, up_same, up_ne, cpy_off, rwo_off, rwo_at, rwo_out, mg6, mg7, mg8, mg9, mg10, mg12, mg30, mg31, mg32, mg33, mg35, mg36, mg37, mg38, mg39, mg43, mg44, mg45, mg46, mg47, mg48, mg49, mg50, mg53, mg54, mg55, mg56, mg57, mg58, mg59, mg60, mg65, mg66, mg67, mg68, mg69, mg70, mg71, mg72]
      (repeat' (first | (with_reducible exact ixO (by assumption) (by omega)) | with_reducible apply And.intro | with_reducible intro)) <;> (try first | omega | (with_reducible apply Nat.le_refl) | rfl | exact absurd trivial (by assumption))
      refine ih (i + 1) _ (by omega) (by omega) (fun x j z1 z2 => by simp (disch := first | assumption | omega) only [row_off, row_in, row_out, up_same, up_ne, cpy_off, rwo_off, rwo_at, rwo_out, mg6, mg7, mg8, mg9, mg10, mg12, mg30, mg31, mg32, mg33, mg35, mg36, mg37, mg38, mg39, mg43, mg44, mg45, mg46, mg47, mg48, mg49, mg50, mg53, mg54, mg55, mg56, mg57, mg58, mg59, mg60, mg65, mg66, mg67, mg68, mg69, mg70, mg71, mg72]; exact hF x j z1 z2) (by simp (disch := first | assumption | omega) only [row_off, row_in, row_out, up_same, up_ne, cpy_off, rwo_off, rwo_at, rwo_out, mg6, mg7, mg8, mg9, mg10, mg12, mg30, mg31, mg32, mg33, mg35, mg36, mg37, mg38, mg39, mg43, mg44, mg45, mg46, mg47, mg48, mg49, mg50, mg53, mg54, mg55, mg56, mg57, mg58, mg59, mg60, mg65, mg66, mg67, mg68, mg69, mg70, mg71, mg72]; exact h61) (fun j z1 z2 => ?_)
      by_cases e : j = i
      · subst e
        simp (disch := first | assumption | omega) only [row_off, row_in, row_out, up_same, up_ne, cpy_off, rwo_off, rwo_at, rwo_out, mg6, mg7, mg8, mg9, mg10, mg12, mg30, mg31, mg32, mg33, mg35, mg36, mg37, mg38, mg39, mg43, mg44, mg45, mg46, mg47, mg48, mg49, mg50, mg53, mg54, mg55, mg56, mg57, mg58, mg59, mg60, mg65, mg66, mg67, mg68, mg69, mg70, mg71, mg72]
      · simp (disch := first | assumption | omega) only [row_off, row_in, row_out, up_same, up_ne, cpy_off, rwo_off, rwo_at, rwo_out, mg6, mg7, mg8, mg9, mg10, mg12, mg30, mg31, mg32, mg33, mg35, mg36, mg37, mg38, mg39, mg43, mg44, mg45, mg46, mg47, mg48, mg49, mg50, mg53, mg54, mg55, mg56, mg57, mg58, mg59, mg60, mg65, mg66, mg67, mg68, mg69, mg70, mg71, mg72]
        exact hz j z1 (by omega)
  exact ptz 1296 0 _ (by omega) (by omega) (fun x j z1 z2 => by simp (disch := first | assumption | omega) only [row_off, row_in, row_out, up_same, up_ne, cpy_off, rwo_off, rwo_at, rwo_out, mg6, mg7, mg8, mg9, mg10, mg12, mg30, mg31, mg32, mg33, mg35, mg36, mg37, mg38, mg39, mg43, mg44, mg45, mg46, mg47, mg48, mg49, mg50, mg53, mg54, mg55, mg56, mg57, mg58, mg59, mg60, mg65, mg66, mg67, mg68, mg69, mg70, mg71, mg72]) (by simp (disch := first | assumption | omega) only [row_off, row_in, row_out, up_same, up_ne, cpy_off, rwo_off, rwo_at, rwo_out, mg6, mg7, mg8, mg9, mg10, mg12, mg30, mg31, mg32, mg33, mg35, mg36, mg37, mg38, mg39, mg43, mg44, mg45, mg46, mg47, mg48, mg49, mg50, mg53, mg54, mg55, mg56, mg57, mg58, mg59, mg60, mg65, mg66, mg67, mg68, mg69, mg70, mg71, mg72]; decide) (fun j z1 z2 => by omega)
end MHard
