/-! the reference: turns, solve, times, needed -/
theorem vlN_fup {q z : Int} {d : Int → Int} {k : Nat} : ∀ c : Nat, k < c → vlN q (fup d k z) c = vlN q d c + (z - d k) * q ^ k
  | 0, h => by omega
  | c + 1, h => by
    show vlN q (fup d k z) c + fup d k z c * q ^ c = vlN q d c + d c * q ^ c + (z - d k) * q ^ k
    by_cases e : k = c
    · subst e
      rw [fup_s, vlN_cong k (e := d) (fun i z1 z2 => fup_n (by omega)), Int.sub_mul]
      omega
    · rw [vlN_fup c (by omega), fup_n (by omega)]
      omega
theorem vlN_0 {q : Int} {d : Int → Int} : ∀ c : Nat, (∀ i : Int, 0 ≤ i → i < c → d i = 0) → vlN q d c = 0
  | 0, _ => rfl
  | c + 1, h => by
    show vlN q d c + d c * q ^ c = 0
    rw [vlN_0 c (fun i z1 z2 => h i z1 (by omega)), h c (by omega) (by omega), Int.zero_mul]
    rfl
theorem mixI_fup {q z : Int} {S : GS} {x0 d : Int → Int} {k j : Int} (hk : 0 ≤ k ∧ k < S.tc) : mixI q S x0 (fup d k z) j = (x0 j + (sumI (fun i => d i * S.tv i j) S.tc + (z - d k) * S.tv k j)) % q := by
  unfold mixI
  rw [sumI_one (g := fun i => d i * S.tv i j) hk (fun i z1 z2 z3 => by rw [fup_n z3]), fup_s, ← Int.sub_mul]
theorem mixI_in {q n : Int} {S : GS} {x0 d : Int → Int} (hq : 0 < q) : inQ n q (mixI q S x0 d) := fun j _ _ => ⟨Int.emod_nonneg _ (by omega), Int.emod_lt_of_pos _ hq⟩
theorem mixI_cong {q : Int} {S : GS} {x0 d e : Int → Int} (h : ∀ i : Int, 0 ≤ i → i < S.tc → d i = e i) : mixI q S x0 d = mixI q S x0 e := by
  funext l
  unfold mixI
  rw [sumI_cong (by omega) (fun i z1 z2 => by rw [h i z1 z2])]
/-- the rows that digits make, those with a lesser number than v -/
def DRv (q : Int) (S : GS) (x0 : Int → Int) (v : Int) (x : Int → Int) : Prop := ∃ d, dgs q S.tc d ∧ vlN q d S.tc < v ∧ x = mixI q S x0 d
def SolR (σ : Mu) (kind z : Int) (σ' : Mu) : Prop :=
  (ldF σ ≠ -1 ∧ z = -1 ∧ σ' = σ) ∨ (ldF σ = -1 ∧ 20000 < σ 0 1 ^ (SbF σ).tc ∧ z = -2 ∧ σ' = σ) ∨ (ldF σ = -1 ∧ σ 0 1 ^ (SbF σ).tc ≤ 20000 ∧ ∃ best, BestD (σ 0 0) (fun f => costF kind f (σ 0 0)) (DRv (σ 0 1) (SbF σ) (x0F σ) (σ 0 1 ^ (SbF σ).tc)) z best ∧ σ' = if z = -1 then σ else up (row σ 9 36 best) 0 8 1)
section MTurns
variable {l : Launch} {G : Gx} {γ μ σ : Mu}
set_option maxHeartbeats 2000000 in
theorem m_turns (hl : l.stackTraces = false) (d : Nat) {b n q : Int} {S : GS} {x0 dd : Int → Int} (hS : ModS G b) (hG : ModG γ b) (en : μ b 1 = n) (eq : μ b 2 = q) (ec : μ b 41 = S.tc) (hn : 0 ≤ n ∧ n ≤ 36) (hq : 2 ≤ q ∧ q ≤ 5) (htc : S.tc ≤ 36) (hdd : dgs q S.tc dd) (hdm : ∀ i : Int, 0 ≤ i → i < S.tc → μ (b + 27) i = dd i) (htr : ∀ j, 0 ≤ j → j < n → μ (b + 25) j = mixI q S x0 dd j) (hqt : ∀ i : Int, 0 ≤ i → i < S.tc → ∀ j, 0 ≤ j → j < n → μ (b + 19) (36 * i + j) = S.tv i j) (hti : ∀ i : Int, 0 ≤ i → i < S.tc → inQ n q (S.tv i)) :
    Cn l G yX9_turns cX9_turns 3 (some .boolean) d 0 [aR b] γ μ (fun r γ' μ' => γ' = γ ∧ (∀ x j, x ≠ b + 25 → x ≠ b + 27 → μ' x j = μ x j) ∧ ((r = some (aI 1) ∧ ∃ d', dgs q S.tc d' ∧ (∀ i : Int, 0 ≤ i → i < S.tc → μ' (b + 27) i = d' i) ∧ (∀ j, 0 ≤ j → j < n → μ' (b + 25) j = mixI q S x0 d' j) ∧ vlN q d' S.tc = vlN q dd S.tc + 1) ∨ (r = some (aI 0) ∧ vlN q dd S.tc + 1 = q ^ S.tc))) := by
  refine Cn.ofP hl (plainFor_of_name (by decide)) (noL1 nlR) rfl (fun P hP o1 o3 X hX hC => B_X9_turns_0 hC hS.o ?_)
  have s19 := ms19 hS; have s25 := ms25 hS; have s27 := ms27 hS
  have loop := rem_ind (n := (S.tc : Int)) (P := fun i => ∀ (m : Mu) (dc : Int → Int), (∀ x j, x ≠ b + 25 → x ≠ b + 27 → m x j = μ x j) → dgs q S.tc dc → (∀ i : Int, 0 ≤ i → i < S.tc → m (b + 27) i = dc i) → (∀ j, 0 ≤ j → j < n → m (b + 25) j = mixI q S x0 dc j) → (∀ j, 0 ≤ j → j < i → dc j = 0) → vlN q dc S.tc + q ^ i.toNat = vlN q dd S.tc + 1 → V X G (Qm X G 0 P) 0 2 [aR b, aI i, aD] [] γ m) (fun i h0 h1 ih m dc fm hdc m27 m25 hz hv => ?_)
  · exact loop 0 (by omega) (by omega) μ dd (fun _ _ _ _ => rfl) hdd hdm htr (fun j z1 z2 => by omega) (by rw [show (0 : Int).toNat = 0 from rfl, Int.pow_zero])
  · have e1 : m b 1 = n := by rw [fm _ _ (by omega) (by omega), en]
    have e2 : m b 2 = q := by rw [fm _ _ (by omega) (by omega), eq]
    have e41 : m b 41 = S.tc := by rw [fm _ _ (by omega) (by omega), ec]
    have inner := rem_ind (n := n) (P := fun j => i < S.tc → V X G (Qm X G 0 P) 0 12 [aR b, aI i, aI j] [] γ (row m (b + 25) j (mixI q S x0 (fup dc i (dc i + 1))))) (fun j j0 j1 ihj hit => ?_)
    · refine B_X9_turns_2 hC hS.o ?_
      rw [e41]
      (repeat' (first | (with_reducible exact ixO (by assumption) (by omega)) | with_reducible apply And.intro | with_reducible intro)) <;> (try first | omega | (with_reducible apply Nat.le_refl) | rfl | exact absurd trivial (by assumption))
      · refine hP _ _ _ ⟨rfl, fm, Or.inr ⟨rfl, ?_⟩⟩
        obtain rfl : i = S.tc := by omega
        rw [vlN_0 S.tc hz] at hv
        rw [show ((S.tc : Int)).toNat = S.tc by omega] at hv
        omega
      · have h9 := inner 0 (by omega) (by omega) (by omega)
        rw [row_0] at h9
        exact h9
    · have hdi := hdc i h0 hit
      have ei : ((i.toNat : Nat) : Int) = i := by omega
      have hvf : ∀ z, vlN q (fup dc i z) S.tc = vlN q dc S.tc + (z - dc i) * q ^ i.toNat := fun z => by
        have := vlN_fup (q := q) (z := z) (d := dc) (k := i.toNat) S.tc (by omega)
        rw [ei] at this
        exact this
      rcases Int.lt_or_le j n with hj | hj
      · have hih := ihj hj hit
        have a1 := hti i h0 hit j j0 hj
        have a2 := mixI_in (n := n) (S := S) (x0 := x0) (d := dc) (show 0 < q by omega) j j0 hj
        have e : (mixI q S x0 dc j + S.tv i j).tmod q = mixI q S x0 (fup dc i (dc i + 1)) j := by
          rw [Int.tmod_eq_emod_of_nonneg (by omega), mixI_fup ⟨h0, hit⟩]
          unfold mixI
          rw [Int.emod_add_emod, show dc i + 1 - dc i = 1 by omega, Int.one_mul]
          congr 1
          omega
        rw [← row_s j0] at hih
        refine B_X9_turns_12 hC hS.o ?_
        simp (disch := first | assumption | omega) only [row_off, row_in, row_out, up_same, up_ne, cpy_off, rwo_off, rwo_at, rwo_out, mg6, mg7, mg8, mg9, mg10, mg12, mg30, mg31, mg32, mg33, mg35, mg36, mg37, mg38, mg39, mg43, mg44, mg45, mg46, mg47, mg48, mg49, mg50, mg53, mg54, mg55, mg56, mg57, mg58, mg59, mg60, mg65, mg66, mg67, mg68, mg69, mg70, mg71, mg72, e1, e2, m25 j j0 hj, fm (b + 19) (36 * i + j) (by omega) (by omega), hqt i h0 hit j j0 hj, e]
        (repeat' (first | (with_reducible exact ixO (by assumption) (by omega)) | with_reducible apply And.intro | with_reducible intro)) <;> (try first | omega | (with_reducible apply Nat.le_refl) | rfl | exact absurd trivial (by assumption))
        all_goals exact hih
      · obtain rfl : j = n := by omega
        refine B_X9_turns_12 hC hS.o ?_
        simp (disch := first | assumption | omega) only [row_off, row_in, row_out, up_same, up_ne, cpy_off, rwo_off, rwo_at, rwo_out, mg6, mg7, mg8, mg9, mg10, mg12, mg30, mg31, mg32, mg33, mg35, mg36, mg37, mg38, mg39, mg43, mg44, mg45, mg46, mg47, mg48, mg49, mg50, mg53, mg54, mg55, mg56, mg57, mg58, mg59, mg60, mg65, mg66, mg67, mg68, mg69, mg70, mg71, mg72, e1, e2, m27 i h0 hit]
        (repeat' (first | (with_reducible exact ixO (by assumption) (by omega)) | with_reducible apply And.intro | with_reducible intro)) <;> (try first | omega | (with_reducible apply Nat.le_refl) | rfl | exact absurd trivial (by assumption))
        · refine ih hit _ (fup dc i 0) (fun x j z1 z2 => by simp (disch := first | assumption | omega) only [row_off, row_in, row_out, up_same, up_ne, cpy_off, rwo_off, rwo_at, rwo_out, mg6, mg7, mg8, mg9, mg10, mg12, mg30, mg31, mg32, mg33, mg35, mg36, mg37, mg38, mg39, mg43, mg44, mg45, mg46, mg47, mg48, mg49, mg50, mg53, mg54, mg55, mg56, mg57, mg58, mg59, mg60, mg65, mg66, mg67, mg68, mg69, mg70, mg71, mg72]; exact fm x j z1 z2) (fun k z1 z2 => ?_) (fun k z1 z2 => ?_) (fun k z1 z2 => ?_) (fun k z1 z2 => ?_) ?_
          · by_cases e : k = i
            · rw [e, fup_s]; omega
            · rw [fup_n e]; exact hdc k z1 z2
          · by_cases e : k = i
            · subst e; rw [fup_s, up_same]
            · rw [fup_n e]; simp (disch := first | assumption | omega) only [row_off, row_in, row_out, up_same, up_ne, cpy_off, rwo_off, rwo_at, rwo_out, mg6, mg7, mg8, mg9, mg10, mg12, mg30, mg31, mg32, mg33, mg35, mg36, mg37, mg38, mg39, mg43, mg44, mg45, mg46, mg47, mg48, mg49, mg50, mg53, mg54, mg55, mg56, mg57, mg58, mg59, mg60, mg65, mg66, mg67, mg68, mg69, mg70, mg71, mg72]; exact m27 k z1 z2
          · simp (disch := first | assumption | omega) only [row_off, row_in, row_out, up_same, up_ne, cpy_off, rwo_off, rwo_at, rwo_out, mg6, mg7, mg8, mg9, mg10, mg12, mg30, mg31, mg32, mg33, mg35, mg36, mg37, mg38, mg39, mg43, mg44, mg45, mg46, mg47, mg48, mg49, mg50, mg53, mg54, mg55, mg56, mg57, mg58, mg59, mg60, mg65, mg66, mg67, mg68, mg69, mg70, mg71, mg72]
            rw [mixI_fup ⟨h0, hit⟩, mixI_fup ⟨h0, hit⟩, show dc i + 1 - dc i = 1 by omega, show (0 - dc i) = 1 - q by omega, Int.sub_mul, ← Int.add_sub_assoc, ← Int.add_sub_assoc, Int.mul_comm q, ← Int.emod_emod_of_dvd (_ - _) (Int.dvd_refl q), Int.sub_mul_emod_self_right]
            simp
          · by_cases e : k = i
            · rw [e, fup_s]
            · rw [fup_n e]; exact hz k z1 (by omega)
          · rw [hvf, show (i + 1).toNat = i.toNat + 1 by omega, Int.pow_succ, show (0 - dc i) = 1 - q by omega, Int.sub_mul, Int.one_mul, Int.mul_comm q]
            omega
        · refine hP _ _ _ ⟨rfl, fun x j z1 z2 => by simp (disch := first | assumption | omega) only [row_off, row_in, row_out, up_same, up_ne, cpy_off, rwo_off, rwo_at, rwo_out, mg6, mg7, mg8, mg9, mg10, mg12, mg30, mg31, mg32, mg33, mg35, mg36, mg37, mg38, mg39, mg43, mg44, mg45, mg46, mg47, mg48, mg49, mg50, mg53, mg54, mg55, mg56, mg57, mg58, mg59, mg60, mg65, mg66, mg67, mg68, mg69, mg70, mg71, mg72]; exact fm x j z1 z2, Or.inl ⟨rfl, fup dc i (dc i + 1), fun k z1 z2 => ?_, fun k z1 z2 => ?_, fun k z1 z2 => by simp (disch := first | assumption | omega) only [row_off, row_in, row_out, up_same, up_ne, cpy_off, rwo_off, rwo_at, rwo_out, mg6, mg7, mg8, mg9, mg10, mg12, mg30, mg31, mg32, mg33, mg35, mg36, mg37, mg38, mg39, mg43, mg44, mg45, mg46, mg47, mg48, mg49, mg50, mg53, mg54, mg55, mg56, mg57, mg58, mg59, mg60, mg65, mg66, mg67, mg68, mg69, mg70, mg71, mg72], ?_⟩⟩
          · by_cases e : k = i
            · rw [e, fup_s]; omega
            · rw [fup_n e]; exact hdc k z1 z2
          · by_cases e : k = i
            · subst e; rw [fup_s, up_same]
            · rw [fup_n e]; simp (disch := first | assumption | omega) only [row_off, row_in, row_out, up_same, up_ne, cpy_off, rwo_off, rwo_at, rwo_out, mg6, mg7, mg8, mg9, mg10, mg12, mg30, mg31, mg32, mg33, mg35, mg36, mg37, mg38, mg39, mg43, mg44, mg45, mg46, mg47, mg48, mg49, mg50, mg53, mg54, mg55, mg56, mg57, mg58, mg59, mg60, mg65, mg66, mg67, mg68, mg69, mg70, mg71, mg72]; exact m27 k z1 z2
          · rw [hvf, show dc i + 1 - dc i = 1 by omega, Int.one_mul]
            omega
end MTurns
