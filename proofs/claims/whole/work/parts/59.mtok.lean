/-! tokens of a text; the reference: byteAt, isLetter, isDigit, goes, spelled, letters, knownWord, wrong, isGood, need -/
/-- letters 1, digits 2, the sign 3, others 4, blanks 5 -/
def kdF (c : Int) : Int := if 97 ≤ c ∧ c ≤ 122 then 1 else if 48 ≤ c ∧ c ≤ 57 then 2 else if c = 32 ∨ c = 10 then 5 else if c = 59 then 3 else 4
/-- the first place from i on where f isn't 0; N without -/
def scn (f : Int → Int) (N i : Int) : Int := if fs f N i = -1 then N else fs f N i
theorem scn_ge {f : Int → Int} {N i : Int} (h : N ≤ i) : scn f N i = N := by unfold scn; rw [fs_ge h, if_pos rfl]
theorem scn_1 {f : Int → Int} {N i : Int} (h : i < N) (h0 : f i = 0) : scn f N i = scn f N (i + 1) := by unfold scn; rw [fs_1 h h0]
theorem scn_2 {f : Int → Int} {N i : Int} (h : i < N) (h0 : f i ≠ 0) (hi : 0 ≤ i) : scn f N i = i := by unfold scn; rw [fs_2 h h0, if_neg (by omega)]
theorem scn_rng {f : Int → Int} {N : Int} : ∀ i, 0 ≤ i → i ≤ N → i ≤ scn f N i ∧ scn f N i ≤ N := rem_ind (P := fun i => i ≤ scn f N i ∧ scn f N i ≤ N) (fun i h0 h1 ih => by
  rcases Int.lt_or_le i N with h | h
  · by_cases e : f i = 0
    · rw [scn_1 h e]; have := ih h; omega
    · rw [scn_2 h e h0]; omega
  · rw [scn_ge h]; omega)
theorem scn_at {f : Int → Int} {N : Int} : ∀ i, 0 ≤ i → i ≤ N → scn f N i < N → f (scn f N i) ≠ 0 := rem_ind (P := fun i => scn f N i < N → f (scn f N i) ≠ 0) (fun i h0 h1 ih => by
  rcases Int.lt_or_le i N with h | h
  · by_cases e : f i = 0
    · rw [scn_1 h e]; exact ih h
    · rw [scn_2 h e h0]; exact fun _ => e
  · rw [scn_ge h]; omega)
theorem scn_in {f : Int → Int} {N : Int} : ∀ i, 0 ≤ i → i ≤ N → ∀ j, i ≤ j → j < scn f N i → f j = 0 := rem_ind (P := fun i => ∀ j, i ≤ j → j < scn f N i → f j = 0) (fun i h0 h1 ih => by
  rcases Int.lt_or_le i N with h | h
  · by_cases e : f i = 0
    · rw [scn_1 h e]
      intro j z1 z2
      by_cases e2 : j = i
      · rw [e2]; exact e
      · exact ih h j (by omega) z2
    · rw [scn_2 h e h0]; intro j z1 z2; omega
  · rw [scn_ge h]; intro j z1 z2; omega)
def kdN (τ : Int → Int) (k : Int) : Int → Int := fun j => if kdF (τ j) = k then 0 else 1
theorem kdN_0 {τ : Int → Int} {k j : Int} : kdN τ k j = 0 ↔ kdF (τ j) = k := by unfold kdN; split <;> simp_all
/-- the token that is come to from p: its place, its kind (0: the end), its end, its length -/
def tS (τ : Int → Int) (N p : Int) : Int := scn (fun j => if kdF (τ j) = 5 then 0 else 1) N p
def tK (τ : Int → Int) (N p : Int) : Int := if tS τ N p < N then kdF (τ (tS τ N p)) else 0
def tE (τ : Int → Int) (N p : Int) : Int := if tS τ N p < N then (if tK τ N p = 1 ∨ tK τ N p = 2 then scn (kdN τ (tK τ N p)) N (tS τ N p) else tS τ N p + 1) else N
def tL (τ : Int → Int) (N p : Int) : Int := tE τ N p - tS τ N p
/-- the number that digits from s on spell, the letters' number -/
def dgV (τ : Int → Int) (s k : Int) : Int := foldI (fun v j => 10 * v + τ (s + j) - 48) 0 k
def ltV (τ : Int → Int) (s k : Int) : Int := foldI (fun v j => 32 * v + (τ (s + j) - 96)) 0 k
def tV (τ : Int → Int) (N p : Int) : Int := if tK τ N p = 2 then dgV τ (tS τ N p) (min (tL τ N p) 3) else 0
def tW (τ : Int → Int) (N p : Int) : Int := if tK τ N p = 1 then ltV τ (tS τ N p) (min (tL τ N p) 8) else 0
def wdL : List (List Int) := [[115, 101, 108, 102], [115, 105, 100, 101], [115, 108, 97, 110, 116], [108, 101, 97, 112], [114, 111, 119], [99, 111, 108, 117, 109, 110], [119, 105, 114, 101], [98, 117, 116, 116, 111, 110], [106, 97, 109], [99, 111, 108, 111, 117, 114, 115], [98, 111, 97, 114, 100], [110, 101, 116], [114, 105, 110, 103], [98, 111, 116, 104], [98, 121], [97, 116]]
def wdV (k : Int) : Int := ltV (fun j => (wdL.getD k.toNat []).getD j.toNat 0) 0 (wdL.getD k.toNat []).length
/-- which of the known words the token is; -1: none -/
def tN (τ : Int → Int) (N p : Int) : Int := if tK τ N p ≠ 1 ∨ 7 < tL τ N p then -1 else fs (fun k => if wdV k = tW τ N p then 1 else 0) 16 0
theorem kdF_b (c : Int) : 1 ≤ kdF c ∧ kdF c ≤ 5 := by
  unfold kdF
  split
  · omega
  · split
    · omega
    · split
      · omega
      · split <;> omega
theorem tok_b {τ : Int → Int} {N p : Int} (hp : 0 ≤ p ∧ p ≤ N) : (p ≤ tS τ N p ∧ tS τ N p ≤ N) ∧ (tS τ N p ≤ tE τ N p ∧ tE τ N p ≤ N) ∧ (0 ≤ tL τ N p ∧ tL τ N p ≤ N) := by
  have h1 : p ≤ tS τ N p ∧ tS τ N p ≤ N := scn_rng p hp.1 hp.2
  have h2 : tS τ N p ≤ tE τ N p ∧ tE τ N p ≤ N := by
    unfold tE
    split
    · split
      · exact scn_rng _ (by omega) (by omega)
      · omega
    · omega
  exact ⟨h1, h2, by unfold tL; omega⟩
/-- a text: N bytes -/
def txt (τ : Int → Int) (N : Int) : Prop := (0 ≤ N ∧ N ≤ 500) ∧ ∀ j, 0 ≤ j → j < N → 0 ≤ τ j ∧ τ j < 256
theorem tS_kd {τ : Int → Int} {N p : Int} (hp : 0 ≤ p ∧ p ≤ N) (h : tS τ N p < N) : kdF (τ (tS τ N p)) ≠ 5 := by
  have h1 := scn_at (f := fun j => if kdF (τ j) = 5 then 0 else 1) (N := N) p hp.1 hp.2 h
  intro e
  exact h1 (if_pos e)
theorem kd_1 {c : Int} : kdF c = 1 ↔ 97 ≤ c ∧ c ≤ 122 := by
  unfold kdF
  constructor
  · intro h
    split at h
    · assumption
    · split at h
      · omega
      · split at h
        · omega
        · split at h <;> omega
  · intro h; rw [if_pos h]
theorem kd_2 {c : Int} : kdF c = 2 ↔ 48 ≤ c ∧ c ≤ 57 := by
  unfold kdF
  constructor
  · intro h
    split at h
    · omega
    · split at h
      · assumption
      · split at h
        · omega
        · split at h <;> omega
  · intro h; rw [if_neg (by omega), if_pos h]
theorem kd_5 {c : Int} : kdF c = 5 ↔ (c = 32 ∨ c = 10) := by
  unfold kdF
  constructor
  · intro h
    split at h
    · omega
    · split at h
      · omega
      · split at h
        · assumption
        · split at h <;> omega
  · intro h; rw [if_neg (by omega), if_neg (by omega), if_pos h]
theorem kd_3 {c : Int} : kdF c = 3 ↔ c = 59 := by
  unfold kdF
  constructor
  · intro h
    split at h
    · omega
    · split at h
      · omega
      · split at h
        · omega
        · split at h <;> omega
  · intro h; rw [if_neg (by omega), if_neg (by omega), if_neg (by omega), if_pos h]
theorem dgV_b {τ : Int → Int} {s : Int} : ∀ k, 0 ≤ k → k ≤ 3 → (∀ j, 0 ≤ j → j < k → 48 ≤ τ (s + j) ∧ τ (s + j) ≤ 57) → 0 ≤ dgV τ s k ∧ dgV τ s k ≤ 999 := by
  intro k h0 h3 h
  have e1 : dgV τ s 1 = 10 * 0 + τ (s + 0) - 48 := rfl
  have e2 : dgV τ s 2 = 10 * (10 * 0 + τ (s + 0) - 48) + τ (s + 1) - 48 := rfl
  have e3 : dgV τ s 3 = 10 * (10 * (10 * 0 + τ (s + 0) - 48) + τ (s + 1) - 48) + τ (s + 2) - 48 := rfl
  rcases (show k = 0 ∨ k = 1 ∨ k = 2 ∨ k = 3 by omega) with rfl | rfl | rfl | rfl
  · exact ⟨Int.le_refl _, by show (0 : Int) ≤ 999; decide⟩
  · have := h 0 (by omega) (by omega); rw [e1]; omega
  · have := h 0 (by omega) (by omega); have := h 1 (by omega) (by omega); rw [e2]; omega
  · have := h 0 (by omega) (by omega); have := h 1 (by omega) (by omega); have := h 2 (by omega) (by omega); rw [e3]; omega
theorem tk_run {τ : Int → Int} {N p : Int} (hp : 0 ≤ p ∧ p ≤ N) {k : Int} (hk : tK τ N p = k) (h12 : k = 1 ∨ k = 2) : tS τ N p < N ∧ tE τ N p = scn (kdN τ k) N (tS τ N p) ∧ ∀ j, tS τ N p ≤ j → j < tE τ N p → kdF (τ j) = k := by
  have h1 : tS τ N p < N := by
    by_cases e : tS τ N p < N
    · exact e
    · unfold tK at hk; rw [if_neg e] at hk; omega
  have h2 : tE τ N p = scn (kdN τ k) N (tS τ N p) := by unfold tE; rw [if_pos h1, hk, if_pos h12]
  have hb := (tok_b (τ := τ) hp).1
  refine ⟨h1, h2, fun j z1 z2 => ?_⟩
  rw [h2] at z2
  exact kdN_0.mp (scn_in (f := kdN τ k) (N := N) (tS τ N p) (by omega) (by omega) j z1 z2)
theorem tV_b {τ : Int → Int} {N p : Int} (hp : 0 ≤ p ∧ p ≤ N) : 0 ≤ tV τ N p ∧ tV τ N p ≤ 999 := by
  unfold tV
  split
  · rename_i h
    obtain ⟨h1, h2, h3⟩ := tk_run hp h (Or.inr rfl)
    have hb := (tok_b (τ := τ) hp).2.2
    refine dgV_b _ (by omega) (by omega) (fun j z1 z2 => kd_2.mp (h3 _ (by omega) ?_))
    unfold tL at z2
    omega
  · omega
theorem ltV_b {τ : Int → Int} {s n : Int} (h : ∀ j, 0 ≤ j → j < n → 97 ≤ τ (s + j) ∧ τ (s + j) ≤ 122) : ∀ k, 0 ≤ k → k ≤ n → 0 ≤ ltV τ s k ∧ ltV τ s k < 32 ^ k.toNat :=
  foldI_ind (P := fun k v => 0 ≤ v ∧ v < 32 ^ k.toNat) ⟨by decide, by decide⟩ (fun i v h0 h1 hv => by
    have := h i h0 h1
    rw [show (i + 1).toNat = i.toNat + 1 by omega, Int.pow_succ]
    omega)
/-- a shift by five bits and five bits more -/
theorem lor5 {w d : Int} (hw : 0 ≤ w ∧ w < 1099511627776) (hd : 0 ≤ d ∧ d < 32) : o_lor (o_lshl w 5) d = 32 * w + d := by
  obtain ⟨a, rfl⟩ := Int.eq_ofNat_of_zero_le hw.1
  obtain ⟨c, rfl⟩ := Int.eq_ofNat_of_zero_le hd.1
  have ha : a < 1099511627776 := by omega
  have hc : c < 32 := by omega
  have nat : ∀ x : Nat, x < 9223372036854775808 → (Int64.ofInt (x : Int)).toBitVec.toNat = x := fun x hx => by
    show (BitVec.ofInt 64 (x : Int)).toNat = x
    rw [BitVec.toNat_ofInt]
    omega
  have e1 : o_lshl (a : Int) 5 = ((32 * a : Nat) : Int) := by
    unfold o_lshl
    rw [← Int64.toInt_toBitVec, Int64.toBitVec_shiftLeft]
    have e5 : (((Int32.ofInt 5).toInt64 &&& 63).toBitVec.smod 64) = 5#64 := by decide
    rw [e5]
    have e6 : ((Int64.ofInt (a : Int)).toBitVec <<< 5#64).toNat = 32 * a := by
      rw [BitVec.shiftLeft_eq', BitVec.toNat_shiftLeft, nat a (by omega)]
      show a <<< 5 % 2 ^ 64 = 32 * a
      rw [Nat.shiftLeft_eq]
      omega
    rw [BitVec.toInt_eq_toNat_of_lt (by rw [e6]; omega), e6]
  rw [e1]
  unfold o_lor
  rw [← Int64.toInt_toBitVec, Int64.toBitVec_or]
  have e7 : ((Int64.ofInt ((32 * a : Nat) : Int)).toBitVec ||| (Int64.ofInt (c : Int)).toBitVec).toNat = 32 * a + c := by
    rw [BitVec.toNat_or, nat _ (by omega), nat c (by omega), show 32 * a = a <<< 5 by rw [Nat.shiftLeft_eq]; omega]
    exact (Nat.shiftLeft_add_eq_or_of_lt (by omega) a).symm
  rw [BitVec.toInt_eq_toNat_of_lt (by rw [e7]; omega), e7]
  omega
/-- the reference at a token: what its fields tell -/
def TokR (m : Mu) (b : Int) (τ : Int → Int) (N p : Int) : Prop := m b 16 = N ∧ m b 17 = tE τ N p ∧ m b 18 = tK τ N p ∧ m b 19 = tS τ N p ∧ m b 20 = tL τ N p ∧ m b 21 = tV τ N p ∧ m b 22 = tW τ N p
/-- the text on the tape -/
def TxR (m : Mu) (b : Int) (τ : Int → Int) (N : Int) : Prop := ∀ j, 0 ≤ j → j < N → m (b + 6) j = τ j
/-- what the reading of tokens leaves as it was -/
def FT (μ m : Mu) (b : Int) : Prop := ∀ x j, (x = b → j ≠ 14 ∧ j ≠ 15 ∧ (j < 17 ∨ 22 < j)) → m x j = μ x j
def FG (μ m : Mu) (b : Int) : Prop := ∀ x j, (x = b → j < 17 ∨ 22 < j) → m x j = μ x j
theorem FG.ft {μ m : Mu} {b : Int} (h : FG μ m b) : FT μ m b := fun x j hx => h x j (fun e => (hx e).2.2)
theorem FT.t {μ m m2 : Mu} {b : Int} (h : FT μ m b) (h2 : FT m m2 b) : FT μ m2 b := fun x j hx => by rw [h2 x j hx, h x j hx]
section MTok
variable {l : Launch} {G : Gx} {γ μ : Mu}
theorem m_byteAt (hl : l.stackTraces = false) (d : Nat) {b N i : Int} {τ : Int → Int} (hS : ModS G b) (hG : ModG γ b) (eN : μ b 16 = N) (hT : txt τ N) (hX : TxR μ b τ N) (hi : 0 ≤ i) : Cn l G yX9_byteAt cX9_byteAt 2 (some .int) d 0 [aR b, aI i] γ μ (PI (if i < N then τ i else 0) γ μ) := by
  refine Cn.ofP hl (plainFor_of_name (by decide)) (noLc nlR (noL1 nlI)) rfl (fun P hP o1 o3 X hX' hC => B_X9_byteAt_0 hC hS.o ?_)
  have hN := hT.1
  have s6 := ms6 hS
  rw [eN, mg12 hG]
  refine ⟨fun h => ⟨Nat.le_refl _, hP _ _ _ ⟨by rw [if_neg (by omega)], rfl, rfl⟩⟩, fun h => ⟨ixO s6 (by omega), Nat.le_refl _, hP _ _ _ ⟨by rw [if_pos (by omega), hX i hi (by omega)], rfl, rfl⟩⟩⟩
theorem m_isLetter (hl : l.stackTraces = false) (d : Nat) {c : Int} : Cn l G yX9_isLetter cX9_isLetter 1 (some .boolean) d 0 [aI c] γ μ (PI (if kdF c = 1 then 1 else 0) γ μ) := by
  refine Cn.ofP hl (plainFor_of_name (by decide)) (noL1 nlI) rfl (fun P hP o1 o3 X hX hC => B_X9_isLetter_0 hC ?_)
  have h1 := kd_1 (c := c)
  refine ⟨fun h => ⟨Nat.le_refl _, hP _ _ _ ⟨by rw [if_neg (by omega)], rfl, rfl⟩⟩, fun h => ⟨fun h2 => ⟨Nat.le_refl _, hP _ _ _ ⟨by rw [if_neg (by omega)], rfl, rfl⟩⟩, fun h2 => ⟨Nat.le_refl _, hP _ _ _ ⟨by rw [if_pos (by omega)], rfl, rfl⟩⟩⟩⟩
theorem m_isDigit (hl : l.stackTraces = false) (d : Nat) {c : Int} : Cn l G yX9_isDigit cX9_isDigit 1 (some .boolean) d 0 [aI c] γ μ (PI (if kdF c = 2 then 1 else 0) γ μ) := by
  refine Cn.ofP hl (plainFor_of_name (by decide)) (noL1 nlI) rfl (fun P hP o1 o3 X hX hC => B_X9_isDigit_0 hC ?_)
  have h1 := kd_2 (c := c)
  refine ⟨fun h => ⟨Nat.le_refl _, hP _ _ _ ⟨by rw [if_neg (by omega)], rfl, rfl⟩⟩, fun h => ⟨fun h2 => ⟨Nat.le_refl _, hP _ _ _ ⟨by rw [if_neg (by omega)], rfl, rfl⟩⟩, fun h2 => ⟨Nat.le_refl _, hP _ _ _ ⟨by rw [if_pos (by omega)], rfl, rfl⟩⟩⟩⟩
theorem kd_0 : kdF 0 = 4 := by decide

set_option maxHeartbeats 1000000 in
theorem m_goes (hl : l.stackTraces = false) (d : Nat) (hd : 0 < d) {b N p : Int} {τ : Int → Int} (hS : ModS G b) (hG : ModG γ b) (eN : μ b 16 = N) (ep : μ b 17 = p) (hp : 0 ≤ p ∧ p ≤ N) (hT : txt τ N) (hX : TxR μ b τ N) : Cn l G yX9_goes cX9_goes 2 none d 0 [aR b] γ μ (fun r γ' μ' => r = none ∧ γ' = γ ∧ TokR μ' b τ N p ∧ FG μ μ' b) := by
  refine Cn.ofP hl (plainFor_of_name (by decide)) (noL1 nlR) rfl (fun P hP o1 o3 X hX' hC => ?_)
  have hN := hT.1
  have hb := tok_b (τ := τ) hp
  have hV := tV_b (τ := τ) hp
  generalize hs : tS τ N p = s at *
  have fin : ∀ m : Mu, m b 16 = N → m b 17 = tE τ N p → m b 18 = tK τ N p → m b 19 = s → m b 20 = tL τ N p → m b 21 = tV τ N p → m b 22 = tW τ N p → FG μ m b → P none γ m := fun m h1 h2 h3 h4 h5 h6 h7 h8 => hP _ _ _ ⟨rfl, rfl, ⟨h1, h2, h3, by rw [hs]; exact h4, h5, h6, h7⟩, h8⟩
  -- behind the blanks
  have st50 : ∀ m : Mu, FG μ m b → m b 17 = s → V X G (Qm X G 0 P) 0 50 [aR b, aD] [] γ m := fun m fm e17 => by
    have e16 : m b 16 = N := by rw [fm _ _ (by omega)]; exact eN
    refine B_X9_goes_50 hC hS.o ?_
    rw [e17]
    generalize hm1 : up (up (up m b 19 s) b 22 0) b 21 0 = m1
    have g16 : m1 b 16 = N := by rw [← hm1]; simp (disch := first | assumption | omega) only [row_off, row_in, row_out, up_same, up_ne, cpy_off, rwo_off, rwo_at, rwo_out, mg6, mg7, mg8, mg9, mg10, mg12, mg30, mg31, mg32, mg33, mg35, mg36, mg37, mg38, mg39, mg43, mg44, mg45, mg46, mg47, mg48, mg49, mg50, mg53, mg54, mg55, mg56, mg57, mg58, mg59, mg60, mg65, mg66, mg67, mg68, mg69, mg70, mg71, mg72]; exact e16
    have g17 : m1 b 17 = s := by rw [← hm1]; simp (disch := first | assumption | omega) only [row_off, row_in, row_out, up_same, up_ne, cpy_off, rwo_off, rwo_at, rwo_out, mg6, mg7, mg8, mg9, mg10, mg12, mg30, mg31, mg32, mg33, mg35, mg36, mg37, mg38, mg39, mg43, mg44, mg45, mg46, mg47, mg48, mg49, mg50, mg53, mg54, mg55, mg56, mg57, mg58, mg59, mg60, mg65, mg66, mg67, mg68, mg69, mg70, mg71, mg72]; exact e17
    have g19 : m1 b 19 = s := by rw [← hm1]; simp (disch := first | assumption | omega) only [row_off, row_in, row_out, up_same, up_ne, cpy_off, rwo_off, rwo_at, rwo_out, mg6, mg7, mg8, mg9, mg10, mg12, mg30, mg31, mg32, mg33, mg35, mg36, mg37, mg38, mg39, mg43, mg44, mg45, mg46, mg47, mg48, mg49, mg50, mg53, mg54, mg55, mg56, mg57, mg58, mg59, mg60, mg65, mg66, mg67, mg68, mg69, mg70, mg71, mg72]
    have g21 : m1 b 21 = 0 := by rw [← hm1]; simp (disch := first | assumption | omega) only [row_off, row_in, row_out, up_same, up_ne, cpy_off, rwo_off, rwo_at, rwo_out, mg6, mg7, mg8, mg9, mg10, mg12, mg30, mg31, mg32, mg33, mg35, mg36, mg37, mg38, mg39, mg43, mg44, mg45, mg46, mg47, mg48, mg49, mg50, mg53, mg54, mg55, mg56, mg57, mg58, mg59, mg60, mg65, mg66, mg67, mg68, mg69, mg70, mg71, mg72]
    have g22 : m1 b 22 = 0 := by rw [← hm1]; simp (disch := first | assumption | omega) only [row_off, row_in, row_out, up_same, up_ne, cpy_off, rwo_off, rwo_at, rwo_out, mg6, mg7, mg8, mg9, mg10, mg12, mg30, mg31, mg32, mg33, mg35, mg36, mg37, mg38, mg39, mg43, mg44, mg45, mg46, mg47, mg48, mg49, mg50, mg53, mg54, mg55, mg56, mg57, mg58, mg59, mg60, mg65, mg66, mg67, mg68, mg69, mg70, mg71, mg72]
    have gf : FG μ m1 b := fun x j h => by rw [← hm1, up_ne (by omega), up_ne (by omega), up_ne (by omega), fm x j h]
    have gX : TxR m1 b τ N := fun j z1 z2 => by rw [gf _ _ (by omega)]; exact hX j z1 z2
    refine ⟨0, 0, _, hd, Nat.le_refl _, hX' ▸ m_byteAt hl 0 hS hG g16 hT gX (by omega), PI.use ?_⟩
    by_cases hsN : s < N
    case neg =>
      have eK : tK τ N p = 0 := by unfold tK; rw [hs, if_neg hsN]
      have eE : tE τ N p = N := by unfold tE; rw [hs, if_neg hsN]
      refine B_X9_goes_76 hC hS.o ?_
      rw [g16, g17, g19]
      refine ⟨fun w => absurd w hsN, fun _ => ⟨by constructor <;> omega, Nat.le_refl _, fin _ ?_ ?_ ?_ ?_ ?_ ?_ ?_ ?_⟩⟩
      · simp (disch := first | assumption | omega) only [row_off, row_in, row_out, up_same, up_ne, cpy_off, rwo_off, rwo_at, rwo_out, mg6, mg7, mg8, mg9, mg10, mg12, mg30, mg31, mg32, mg33, mg35, mg36, mg37, mg38, mg39, mg43, mg44, mg45, mg46, mg47, mg48, mg49, mg50, mg53, mg54, mg55, mg56, mg57, mg58, mg59, mg60, mg65, mg66, mg67, mg68, mg69, mg70, mg71, mg72]; exact g16
      · simp (disch := first | assumption | omega) only [row_off, row_in, row_out, up_same, up_ne, cpy_off, rwo_off, rwo_at, rwo_out, mg6, mg7, mg8, mg9, mg10, mg12, mg30, mg31, mg32, mg33, mg35, mg36, mg37, mg38, mg39, mg43, mg44, mg45, mg46, mg47, mg48, mg49, mg50, mg53, mg54, mg55, mg56, mg57, mg58, mg59, mg60, mg65, mg66, mg67, mg68, mg69, mg70, mg71, mg72]; rw [g17, eE]; omega
      · simp (disch := first | assumption | omega) only [row_off, row_in, row_out, up_same, up_ne, cpy_off, rwo_off, rwo_at, rwo_out, mg6, mg7, mg8, mg9, mg10, mg12, mg30, mg31, mg32, mg33, mg35, mg36, mg37, mg38, mg39, mg43, mg44, mg45, mg46, mg47, mg48, mg49, mg50, mg53, mg54, mg55, mg56, mg57, mg58, mg59, mg60, mg65, mg66, mg67, mg68, mg69, mg70, mg71, mg72]; exact eK.symm
      · simp (disch := first | assumption | omega) only [row_off, row_in, row_out, up_same, up_ne, cpy_off, rwo_off, rwo_at, rwo_out, mg6, mg7, mg8, mg9, mg10, mg12, mg30, mg31, mg32, mg33, mg35, mg36, mg37, mg38, mg39, mg43, mg44, mg45, mg46, mg47, mg48, mg49, mg50, mg53, mg54, mg55, mg56, mg57, mg58, mg59, mg60, mg65, mg66, mg67, mg68, mg69, mg70, mg71, mg72]; exact g19
      · simp (disch := first | assumption | omega) only [row_off, row_in, row_out, up_same, up_ne, cpy_off, rwo_off, rwo_at, rwo_out, mg6, mg7, mg8, mg9, mg10, mg12, mg30, mg31, mg32, mg33, mg35, mg36, mg37, mg38, mg39, mg43, mg44, mg45, mg46, mg47, mg48, mg49, mg50, mg53, mg54, mg55, mg56, mg57, mg58, mg59, mg60, mg65, mg66, mg67, mg68, mg69, mg70, mg71, mg72]; unfold tL; rw [eE, hs]; omega
      · simp (disch := first | assumption | omega) only [row_off, row_in, row_out, up_same, up_ne, cpy_off, rwo_off, rwo_at, rwo_out, mg6, mg7, mg8, mg9, mg10, mg12, mg30, mg31, mg32, mg33, mg35, mg36, mg37, mg38, mg39, mg43, mg44, mg45, mg46, mg47, mg48, mg49, mg50, mg53, mg54, mg55, mg56, mg57, mg58, mg59, mg60, mg65, mg66, mg67, mg68, mg69, mg70, mg71, mg72]; unfold tV; rw [eK, if_neg (by decide)]; exact g21
      · simp (disch := first | assumption | omega) only [row_off, row_in, row_out, up_same, up_ne, cpy_off, rwo_off, rwo_at, rwo_out, mg6, mg7, mg8, mg9, mg10, mg12, mg30, mg31, mg32, mg33, mg35, mg36, mg37, mg38, mg39, mg43, mg44, mg45, mg46, mg47, mg48, mg49, mg50, mg53, mg54, mg55, mg56, mg57, mg58, mg59, mg60, mg65, mg66, mg67, mg68, mg69, mg70, mg71, mg72]; unfold tW; rw [eK, if_neg (by decide)]; exact g22
      · intro x j h; rw [up_ne (by omega), up_ne (by omega)]; exact gf x j h
    rw [if_pos hsN]
    have eK : tK τ N p = kdF (τ s) := by unfold tK; rw [hs, if_pos hsN]
    refine B_X9_goes_76 hC hS.o ?_
    rw [g16, g17]
    refine ⟨fun _ => ?_, fun w => absurd hsN w⟩
    refine ⟨0, 0, _, hd, Nat.le_refl _, hX' ▸ m_isLetter hl 0, PI.use ?_⟩
    by_cases hk1 : kdF (τ s) = 1
    · rw [if_pos hk1]
      refine B_X9_goes_100 hC hS.o ⟨fun w => absurd w (by decide), fun _ => ?_⟩
      have eK1 : tK τ N p = 1 := by rw [eK]; exact hk1
      obtain ⟨-, run2, run3⟩ := tk_run hp eK1 (Or.inl rfl)
      rw [hs] at run2 run3
      have eW : tW τ N p = ltV τ s (min (tL τ N p) 8) := by unfold tW; rw [if_pos eK1, hs]
      have loop := rem_ind (n := N) (P := fun i => s ≤ i → scn (kdN τ 1) N i = tE τ N p → ∀ m2 : Mu, m2 b 16 = N → m2 b 17 = i → m2 b 19 = s → m2 b 21 = 0 → m2 b 22 = ltV τ s (min (i - s) 8) → FG μ m2 b → V X G (Qm X G 0 P) 0 103 [aR b, aD] [] γ m2) (fun i i0 i1 ih his hsc m2 k16 k17 k19 k21 k22 kf => ?_)
      · exact loop s (by omega) (by omega) (Int.le_refl _) run2.symm m1 g16 g17 g19 g21 (by rw [g22, show min (s - s) 8 = 0 by omega]; rfl) gf
      · have kX : TxR m2 b τ N := fun j z1 z2 => by rw [kf _ _ (by omega)]; exact hX j z1 z2
        have hrng := scn_rng (f := kdN τ 1) (N := N) i i0 i1
        refine B_X9_goes_103 hC hS.o ?_
        rw [k17]
        refine ⟨0, 0, _, hd, Nat.le_refl _, hX' ▸ m_byteAt hl 0 hS hG k16 hT kX (by omega), PI.use ?_⟩
        refine B_X9_goes_111 hC hS.o ?_
        refine ⟨0, 0, _, hd, Nat.le_refl _, hX' ▸ m_isLetter hl 0, PI.use ?_⟩
        by_cases hc : i < N ∧ kdF (τ i) = 1
        · rw [if_pos hc.1, if_pos hc.2]
          have hc1 := kd_1.mp hc.2
          have hnx : scn (kdN τ 1) N (i + 1) = tE τ N p := by rw [← hsc, scn_1 (f := kdN τ 1) hc.1 (kdN_0.mpr hc.2)]
          refine B_X9_goes_114 hC hS.o ⟨fun w => absurd w (by decide), fun _ => ?_⟩
          rw [k17, k19, k22]
          refine ⟨by constructor <;> omega, fun h8 => ⟨by constructor <;> omega, ?_⟩, fun h8 => ?_⟩
          · exact ih hc.1 (by omega) hnx _ (by rw [up_ne (by omega)]; exact k16) up_same (by rw [up_ne (by omega)]; exact k19) (by rw [up_ne (by omega)]; exact k21) (by rw [up_ne (by omega), k22, show min (i + 1 - s) 8 = min (i - s) 8 by omega]) (fun x j h => by rw [up_ne (by omega)]; exact kf x j h)
          · refine ⟨0, 0, _, hd, Nat.le_refl _, hX' ▸ m_byteAt hl 0 hS hG k16 hT kX (by omega), PI.use ?_⟩
            rw [if_pos hc.1]
            have hlb := ltV_b (τ := τ) (s := s) (n := i - s) (fun j z1 z2 => kd_1.mp (run3 _ (by omega) (by omega))) (i - s) (by omega) (by omega)
            have hp8 := pw_mono (q := 32) (by decide) (show (i - s).toNat ≤ 8 by omega)
            rw [show min (i - s) 8 = i - s by omega] at k22 ⊢
            have e40 : (32 : Int) ^ 8 = 1099511627776 := by decide
            refine B_X9_goes_146 hC hS.o ?_
            rw [lor5 (w := ltV τ s (i - s)) (d := τ i - 96) ⟨hlb.1, by omega⟩ (by omega)]
            simp (disch := first | assumption | omega) only [row_off, row_in, row_out, up_same, up_ne, cpy_off, rwo_off, rwo_at, rwo_out, mg6, mg7, mg8, mg9, mg10, mg12, mg30, mg31, mg32, mg33, mg35, mg36, mg37, mg38, mg39, mg43, mg44, mg45, mg46, mg47, mg48, mg49, mg50, mg53, mg54, mg55, mg56, mg57, mg58, mg59, mg60, mg65, mg66, mg67, mg68, mg69, mg70, mg71, mg72, k17]
            refine ⟨by constructor <;> omega, hS.o, by constructor <;> omega, ?_⟩
            refine ih hc.1 (by omega) hnx _ (by simp (disch := first | assumption | omega) only [row_off, row_in, row_out, up_same, up_ne, cpy_off, rwo_off, rwo_at, rwo_out, mg6, mg7, mg8, mg9, mg10, mg12, mg30, mg31, mg32, mg33, mg35, mg36, mg37, mg38, mg39, mg43, mg44, mg45, mg46, mg47, mg48, mg49, mg50, mg53, mg54, mg55, mg56, mg57, mg58, mg59, mg60, mg65, mg66, mg67, mg68, mg69, mg70, mg71, mg72]; exact k16) (by simp (disch := first | assumption | omega) only [row_off, row_in, row_out, up_same, up_ne, cpy_off, rwo_off, rwo_at, rwo_out, mg6, mg7, mg8, mg9, mg10, mg12, mg30, mg31, mg32, mg33, mg35, mg36, mg37, mg38, mg39, mg43, mg44, mg45, mg46, mg47, mg48, mg49, mg50, mg53, mg54, mg55, mg56, mg57, mg58, mg59, mg60, mg65, mg66, mg67, mg68, mg69, mg70, mg71, mg72]) (by simp (disch := first | assumption | omega) only [row_off, row_in, row_out, up_same, up_ne, cpy_off, rwo_off, rwo_at, rwo_out, mg6, mg7, mg8, mg9, mg10, mg12, mg30, mg31, mg32, mg33, mg35, mg36, mg37, mg38, mg39, mg43, mg44, mg45, mg46, mg47, mg48, mg49, mg50, mg53, mg54, mg55, mg56, mg57, mg58, mg59, mg60, mg65, mg66, mg67, mg68, mg69, mg70, mg71, mg72]; exact k19) (by simp (disch := first | assumption | omega) only [row_off, row_in, row_out, up_same, up_ne, cpy_off, rwo_off, rwo_at, rwo_out, mg6, mg7, mg8, mg9, mg10, mg12, mg30, mg31, mg32, mg33, mg35, mg36, mg37, mg38, mg39, mg43, mg44, mg45, mg46, mg47, mg48, mg49, mg50, mg53, mg54, mg55, mg56, mg57, mg58, mg59, mg60, mg65, mg66, mg67, mg68, mg69, mg70, mg71, mg72]; exact k21) ?_ (fun x j h => by rw [up_ne (by omega), up_ne (by omega)]; exact kf x j h)
            have es : ltV τ s (i - s + 1) = 32 * ltV τ s (i - s) + (τ (s + (i - s)) - 96) := foldI_s (by omega)
            rw [show min (i + 1 - s) 8 = i - s + 1 by omega, es, show s + (i - s) = i by omega]
            simp (disch := first | assumption | omega) only [row_off, row_in, row_out, up_same, up_ne, cpy_off, rwo_off, rwo_at, rwo_out, mg6, mg7, mg8, mg9, mg10, mg12, mg30, mg31, mg32, mg33, mg35, mg36, mg37, mg38, mg39, mg43, mg44, mg45, mg46, mg47, mg48, mg49, mg50, mg53, mg54, mg55, mg56, mg57, mg58, mg59, mg60, mg65, mg66, mg67, mg68, mg69, mg70, mg71, mg72]
        · have hz : (if kdF (if i < N then τ i else 0) = 1 then (1 : Int) else 0) = 0 := by
            by_cases e : i < N
            · rw [if_pos e, if_neg (fun w => hc ⟨e, w⟩)]
            · rw [if_neg e, kd_0, if_neg (by decide)]
          rw [hz]
          have hEi : tE τ N p = i := by
            rw [← hsc]
            by_cases e : i < N
            · exact scn_2 (f := kdN τ 1) e (fun w => hc ⟨e, kdN_0.mp w⟩) i0
            · rw [scn_ge (by omega)]; omega
          refine B_X9_goes_114 hC hS.o ⟨fun _ => ?_, fun w => absurd rfl w⟩
          rw [k17, k19]
          refine ⟨by constructor <;> omega, Nat.le_refl _, fin _ ?_ ?_ ?_ ?_ ?_ ?_ ?_ ?_⟩
          · simp (disch := first | assumption | omega) only [row_off, row_in, row_out, up_same, up_ne, cpy_off, rwo_off, rwo_at, rwo_out, mg6, mg7, mg8, mg9, mg10, mg12, mg30, mg31, mg32, mg33, mg35, mg36, mg37, mg38, mg39, mg43, mg44, mg45, mg46, mg47, mg48, mg49, mg50, mg53, mg54, mg55, mg56, mg57, mg58, mg59, mg60, mg65, mg66, mg67, mg68, mg69, mg70, mg71, mg72]; exact k16
          · simp (disch := first | assumption | omega) only [row_off, row_in, row_out, up_same, up_ne, cpy_off, rwo_off, rwo_at, rwo_out, mg6, mg7, mg8, mg9, mg10, mg12, mg30, mg31, mg32, mg33, mg35, mg36, mg37, mg38, mg39, mg43, mg44, mg45, mg46, mg47, mg48, mg49, mg50, mg53, mg54, mg55, mg56, mg57, mg58, mg59, mg60, mg65, mg66, mg67, mg68, mg69, mg70, mg71, mg72]; rw [k17, hEi]
          · simp (disch := first | assumption | omega) only [row_off, row_in, row_out, up_same, up_ne, cpy_off, rwo_off, rwo_at, rwo_out, mg6, mg7, mg8, mg9, mg10, mg12, mg30, mg31, mg32, mg33, mg35, mg36, mg37, mg38, mg39, mg43, mg44, mg45, mg46, mg47, mg48, mg49, mg50, mg53, mg54, mg55, mg56, mg57, mg58, mg59, mg60, mg65, mg66, mg67, mg68, mg69, mg70, mg71, mg72]; exact eK1.symm
          · simp (disch := first | assumption | omega) only [row_off, row_in, row_out, up_same, up_ne, cpy_off, rwo_off, rwo_at, rwo_out, mg6, mg7, mg8, mg9, mg10, mg12, mg30, mg31, mg32, mg33, mg35, mg36, mg37, mg38, mg39, mg43, mg44, mg45, mg46, mg47, mg48, mg49, mg50, mg53, mg54, mg55, mg56, mg57, mg58, mg59, mg60, mg65, mg66, mg67, mg68, mg69, mg70, mg71, mg72]; exact k19
          · simp (disch := first | assumption | omega) only [row_off, row_in, row_out, up_same, up_ne, cpy_off, rwo_off, rwo_at, rwo_out, mg6, mg7, mg8, mg9, mg10, mg12, mg30, mg31, mg32, mg33, mg35, mg36, mg37, mg38, mg39, mg43, mg44, mg45, mg46, mg47, mg48, mg49, mg50, mg53, mg54, mg55, mg56, mg57, mg58, mg59, mg60, mg65, mg66, mg67, mg68, mg69, mg70, mg71, mg72]; unfold tL; rw [hEi, hs]
          · simp (disch := first | assumption | omega) only [row_off, row_in, row_out, up_same, up_ne, cpy_off, rwo_off, rwo_at, rwo_out, mg6, mg7, mg8, mg9, mg10, mg12, mg30, mg31, mg32, mg33, mg35, mg36, mg37, mg38, mg39, mg43, mg44, mg45, mg46, mg47, mg48, mg49, mg50, mg53, mg54, mg55, mg56, mg57, mg58, mg59, mg60, mg65, mg66, mg67, mg68, mg69, mg70, mg71, mg72]; unfold tV; rw [eK1, if_neg (by decide)]; exact k21
          · simp (disch := first | assumption | omega) only [row_off, row_in, row_out, up_same, up_ne, cpy_off, rwo_off, rwo_at, rwo_out, mg6, mg7, mg8, mg9, mg10, mg12, mg30, mg31, mg32, mg33, mg35, mg36, mg37, mg38, mg39, mg43, mg44, mg45, mg46, mg47, mg48, mg49, mg50, mg53, mg54, mg55, mg56, mg57, mg58, mg59, mg60, mg65, mg66, mg67, mg68, mg69, mg70, mg71, mg72]; rw [k22, eW]; unfold tL; rw [hEi, hs]
          · intro x j h; rw [up_ne (by omega), up_ne (by omega)]; exact kf x j h
    · rw [if_neg hk1]
      refine B_X9_goes_100 hC hS.o ⟨fun _ => ?_, fun w => absurd rfl w⟩
      refine ⟨0, 0, _, hd, Nat.le_refl _, hX' ▸ m_isDigit hl 0, PI.use ?_⟩
      by_cases hk2 : kdF (τ s) = 2
      · rw [if_pos hk2]
        refine B_X9_goes_179 hC hS.o ⟨fun w => absurd w (by decide), fun _ => ?_⟩
        have eK1 : tK τ N p = 2 := by rw [eK]; exact hk2
        obtain ⟨-, run2, run3⟩ := tk_run hp eK1 (Or.inr rfl)
        rw [hs] at run2 run3
        have eV : tV τ N p = dgV τ s (min (tL τ N p) 3) := by unfold tV; rw [if_pos eK1, hs]
        have loop := rem_ind (n := N) (P := fun i => s ≤ i → scn (kdN τ 2) N i = tE τ N p → ∀ m2 : Mu, m2 b 16 = N → m2 b 17 = i → m2 b 19 = s → m2 b 22 = 0 → m2 b 21 = dgV τ s (min (i - s) 3) → FG μ m2 b → V X G (Qm X G 0 P) 0 182 [aR b, aD] [] γ m2) (fun i i0 i1 ih his hsc m2 k16 k17 k19 k22 k21 kf => ?_)
        · exact loop s (by omega) (by omega) (Int.le_refl _) run2.symm m1 g16 g17 g19 g22 (by rw [g21, show min (s - s) 3 = 0 by omega]; rfl) gf
        · have kX : TxR m2 b τ N := fun j z1 z2 => by rw [kf _ _ (by omega)]; exact hX j z1 z2
          have hrng := scn_rng (f := kdN τ 2) (N := N) i i0 i1
          have hdb := dgV_b (τ := τ) (s := s) (min (i - s) 3) (by omega) (by omega) (fun j z1 z2 => kd_2.mp (run3 _ (by omega) (by omega)))
          refine B_X9_goes_182 hC hS.o ?_
          rw [k17]
          refine ⟨0, 0, _, hd, Nat.le_refl _, hX' ▸ m_byteAt hl 0 hS hG k16 hT kX (by omega), PI.use ?_⟩
          refine B_X9_goes_190 hC hS.o ?_
          refine ⟨0, 0, _, hd, Nat.le_refl _, hX' ▸ m_isDigit hl 0, PI.use ?_⟩
          by_cases hc : i < N ∧ kdF (τ i) = 2
          · rw [if_pos hc.1, if_pos hc.2]
            have hc1 := kd_2.mp hc.2
            have hnx : scn (kdN τ 2) N (i + 1) = tE τ N p := by rw [← hsc, scn_1 (f := kdN τ 2) hc.1 (kdN_0.mpr hc.2)]
            refine B_X9_goes_193 hC hS.o ⟨fun w => absurd w (by decide), fun _ => ?_⟩
            rw [k17, k19, k21]
            refine ⟨by constructor <;> omega, fun h8 => ⟨by constructor <;> omega, ?_⟩, fun h8 => ⟨by constructor <;> omega, ?_⟩⟩
            · exact ih hc.1 (by omega) hnx _ (by rw [up_ne (by omega)]; exact k16) up_same (by rw [up_ne (by omega)]; exact k19) (by rw [up_ne (by omega)]; exact k22) (by rw [up_ne (by omega), k21, show min (i + 1 - s) 3 = min (i - s) 3 by omega]) (fun x j h => by rw [up_ne (by omega)]; exact kf x j h)
            · refine ⟨0, 0, _, hd, Nat.le_refl _, hX' ▸ m_byteAt hl 0 hS hG k16 hT kX (by omega), PI.use ?_⟩
              rw [if_pos hc.1]
              refine B_X9_goes_225 hC hS.o ?_
              simp (disch := first | assumption | omega) only [row_off, row_in, row_out, up_same, up_ne, cpy_off, rwo_off, rwo_at, rwo_out, mg6, mg7, mg8, mg9, mg10, mg12, mg30, mg31, mg32, mg33, mg35, mg36, mg37, mg38, mg39, mg43, mg44, mg45, mg46, mg47, mg48, mg49, mg50, mg53, mg54, mg55, mg56, mg57, mg58, mg59, mg60, mg65, mg66, mg67, mg68, mg69, mg70, mg71, mg72, k17]
              refine ⟨by constructor <;> omega, by constructor <;> omega, hS.o, by constructor <;> omega, ?_⟩
              refine ih hc.1 (by omega) hnx _ (by simp (disch := first | assumption | omega) only [row_off, row_in, row_out, up_same, up_ne, cpy_off, rwo_off, rwo_at, rwo_out, mg6, mg7, mg8, mg9, mg10, mg12, mg30, mg31, mg32, mg33, mg35, mg36, mg37, mg38, mg39, mg43, mg44, mg45, mg46, mg47, mg48, mg49, mg50, mg53, mg54, mg55, mg56, mg57, mg58, mg59, mg60, mg65, mg66, mg67, mg68, mg69, mg70, mg71, mg72]; exact k16) (by simp (disch := first | assumption | omega) only [row_off, row_in, row_out, up_same, up_ne, cpy_off, rwo_off, rwo_at, rwo_out, mg6, mg7, mg8, mg9, mg10, mg12, mg30, mg31, mg32, mg33, mg35, mg36, mg37, mg38, mg39, mg43, mg44, mg45, mg46, mg47, mg48, mg49, mg50, mg53, mg54, mg55, mg56, mg57, mg58, mg59, mg60, mg65, mg66, mg67, mg68, mg69, mg70, mg71, mg72]) (by simp (disch := first | assumption | omega) only [row_off, row_in, row_out, up_same, up_ne, cpy_off, rwo_off, rwo_at, rwo_out, mg6, mg7, mg8, mg9, mg10, mg12, mg30, mg31, mg32, mg33, mg35, mg36, mg37, mg38, mg39, mg43, mg44, mg45, mg46, mg47, mg48, mg49, mg50, mg53, mg54, mg55, mg56, mg57, mg58, mg59, mg60, mg65, mg66, mg67, mg68, mg69, mg70, mg71, mg72]; exact k19) (by simp (disch := first | assumption | omega) only [row_off, row_in, row_out, up_same, up_ne, cpy_off, rwo_off, rwo_at, rwo_out, mg6, mg7, mg8, mg9, mg10, mg12, mg30, mg31, mg32, mg33, mg35, mg36, mg37, mg38, mg39, mg43, mg44, mg45, mg46, mg47, mg48, mg49, mg50, mg53, mg54, mg55, mg56, mg57, mg58, mg59, mg60, mg65, mg66, mg67, mg68, mg69, mg70, mg71, mg72]; exact k22) ?_ (fun x j h => by rw [up_ne (by omega), up_ne (by omega)]; exact kf x j h)
              have es : dgV τ s (i - s + 1) = 10 * dgV τ s (i - s) + τ (s + (i - s)) - 48 := foldI_s (by omega)
              rw [show min (i + 1 - s) 3 = i - s + 1 by omega, es, show s + (i - s) = i by omega]
              simp (disch := first | assumption | omega) only [row_off, row_in, row_out, up_same, up_ne, cpy_off, rwo_off, rwo_at, rwo_out, mg6, mg7, mg8, mg9, mg10, mg12, mg30, mg31, mg32, mg33, mg35, mg36, mg37, mg38, mg39, mg43, mg44, mg45, mg46, mg47, mg48, mg49, mg50, mg53, mg54, mg55, mg56, mg57, mg58, mg59, mg60, mg65, mg66, mg67, mg68, mg69, mg70, mg71, mg72]
              rw [show min (i - s) 3 = i - s by omega]
          · have hz : (if kdF (if i < N then τ i else 0) = 2 then (1 : Int) else 0) = 0 := by
              by_cases e : i < N
              · rw [if_pos e, if_neg (fun w => hc ⟨e, w⟩)]
              · rw [if_neg e, kd_0, if_neg (by decide)]
            rw [hz]
            have hEi : tE τ N p = i := by
              rw [← hsc]
              by_cases e : i < N
              · exact scn_2 (f := kdN τ 2) e (fun w => hc ⟨e, kdN_0.mp w⟩) i0
              · rw [scn_ge (by omega)]; omega
            refine B_X9_goes_193 hC hS.o ⟨fun _ => ?_, fun w => absurd rfl w⟩
            rw [k17, k19]
            refine ⟨by constructor <;> omega, Nat.le_refl _, fin _ ?_ ?_ ?_ ?_ ?_ ?_ ?_ ?_⟩
            · simp (disch := first | assumption | omega) only [row_off, row_in, row_out, up_same, up_ne, cpy_off, rwo_off, rwo_at, rwo_out, mg6, mg7, mg8, mg9, mg10, mg12, mg30, mg31, mg32, mg33, mg35, mg36, mg37, mg38, mg39, mg43, mg44, mg45, mg46, mg47, mg48, mg49, mg50, mg53, mg54, mg55, mg56, mg57, mg58, mg59, mg60, mg65, mg66, mg67, mg68, mg69, mg70, mg71, mg72]; exact k16
            · simp (disch := first | assumption | omega) only [row_off, row_in, row_out, up_same, up_ne, cpy_off, rwo_off, rwo_at, rwo_out, mg6, mg7, mg8, mg9, mg10, mg12, mg30, mg31, mg32, mg33, mg35, mg36, mg37, mg38, mg39, mg43, mg44, mg45, mg46, mg47, mg48, mg49, mg50, mg53, mg54, mg55, mg56, mg57, mg58, mg59, mg60, mg65, mg66, mg67, mg68, mg69, mg70, mg71, mg72]; rw [k17, hEi]
            · simp (disch := first | assumption | omega) only [row_off, row_in, row_out, up_same, up_ne, cpy_off, rwo_off, rwo_at, rwo_out, mg6, mg7, mg8, mg9, mg10, mg12, mg30, mg31, mg32, mg33, mg35, mg36, mg37, mg38, mg39, mg43, mg44, mg45, mg46, mg47, mg48, mg49, mg50, mg53, mg54, mg55, mg56, mg57, mg58, mg59, mg60, mg65, mg66, mg67, mg68, mg69, mg70, mg71, mg72]; exact eK1.symm
            · simp (disch := first | assumption | omega) only [row_off, row_in, row_out, up_same, up_ne, cpy_off, rwo_off, rwo_at, rwo_out, mg6, mg7, mg8, mg9, mg10, mg12, mg30, mg31, mg32, mg33, mg35, mg36, mg37, mg38, mg39, mg43, mg44, mg45, mg46, mg47, mg48, mg49, mg50, mg53, mg54, mg55, mg56, mg57, mg58, mg59, mg60, mg65, mg66, mg67, mg68, mg69, mg70, mg71, mg72]; exact k19
            · simp (disch := first | assumption | omega) only [row_off, row_in, row_out, up_same, up_ne, cpy_off, rwo_off, rwo_at, rwo_out, mg6, mg7, mg8, mg9, mg10, mg12, mg30, mg31, mg32, mg33, mg35, mg36, mg37, mg38, mg39, mg43, mg44, mg45, mg46, mg47, mg48, mg49, mg50, mg53, mg54, mg55, mg56, mg57, mg58, mg59, mg60, mg65, mg66, mg67, mg68, mg69, mg70, mg71, mg72]; unfold tL; rw [hEi, hs]
            · simp (disch := first | assumption | omega) only [row_off, row_in, row_out, up_same, up_ne, cpy_off, rwo_off, rwo_at, rwo_out, mg6, mg7, mg8, mg9, mg10, mg12, mg30, mg31, mg32, mg33, mg35, mg36, mg37, mg38, mg39, mg43, mg44, mg45, mg46, mg47, mg48, mg49, mg50, mg53, mg54, mg55, mg56, mg57, mg58, mg59, mg60, mg65, mg66, mg67, mg68, mg69, mg70, mg71, mg72]; rw [k21, eV]; unfold tL; rw [hEi, hs]
            · simp (disch := first | assumption | omega) only [row_off, row_in, row_out, up_same, up_ne, cpy_off, rwo_off, rwo_at, rwo_out, mg6, mg7, mg8, mg9, mg10, mg12, mg30, mg31, mg32, mg33, mg35, mg36, mg37, mg38, mg39, mg43, mg44, mg45, mg46, mg47, mg48, mg49, mg50, mg53, mg54, mg55, mg56, mg57, mg58, mg59, mg60, mg65, mg66, mg67, mg68, mg69, mg70, mg71, mg72]; unfold tW; rw [eK1, if_neg (by decide)]; exact k22
            · intro x j h; rw [up_ne (by omega), up_ne (by omega)]; exact kf x j h
      · rw [if_neg hk2]
        have hk5 : kdF (τ s) ≠ 5 := by rw [← hs]; exact tS_kd hp (by rw [hs]; exact hsN)
        have eE : tE τ N p = s + 1 := by unfold tE; rw [hs, if_pos hsN, eK, if_neg (by omega)]
        have e3 := kd_3 (c := τ s)
        have hkb := kdF_b (τ s)
        refine B_X9_goes_179 hC hS.o ⟨fun _ => ?_, fun w => absurd rfl w⟩
        rw [g17, g19]
        refine ⟨by constructor <;> omega, fun h => ⟨by constructor <;> omega, Nat.le_refl _, fin _ ?_ ?_ ?_ ?_ ?_ ?_ ?_ ?_⟩, fun h => ⟨by constructor <;> omega, Nat.le_refl _, fin _ ?_ ?_ ?_ ?_ ?_ ?_ ?_ ?_⟩⟩
        · simp (disch := first | assumption | omega) only [row_off, row_in, row_out, up_same, up_ne, cpy_off, rwo_off, rwo_at, rwo_out, mg6, mg7, mg8, mg9, mg10, mg12, mg30, mg31, mg32, mg33, mg35, mg36, mg37, mg38, mg39, mg43, mg44, mg45, mg46, mg47, mg48, mg49, mg50, mg53, mg54, mg55, mg56, mg57, mg58, mg59, mg60, mg65, mg66, mg67, mg68, mg69, mg70, mg71, mg72]; exact g16
        · simp (disch := first | assumption | omega) only [row_off, row_in, row_out, up_same, up_ne, cpy_off, rwo_off, rwo_at, rwo_out, mg6, mg7, mg8, mg9, mg10, mg12, mg30, mg31, mg32, mg33, mg35, mg36, mg37, mg38, mg39, mg43, mg44, mg45, mg46, mg47, mg48, mg49, mg50, mg53, mg54, mg55, mg56, mg57, mg58, mg59, mg60, mg65, mg66, mg67, mg68, mg69, mg70, mg71, mg72]; exact eE.symm
        · simp (disch := first | assumption | omega) only [row_off, row_in, row_out, up_same, up_ne, cpy_off, rwo_off, rwo_at, rwo_out, mg6, mg7, mg8, mg9, mg10, mg12, mg30, mg31, mg32, mg33, mg35, mg36, mg37, mg38, mg39, mg43, mg44, mg45, mg46, mg47, mg48, mg49, mg50, mg53, mg54, mg55, mg56, mg57, mg58, mg59, mg60, mg65, mg66, mg67, mg68, mg69, mg70, mg71, mg72]; rw [eK]; omega
        · simp (disch := first | assumption | omega) only [row_off, row_in, row_out, up_same, up_ne, cpy_off, rwo_off, rwo_at, rwo_out, mg6, mg7, mg8, mg9, mg10, mg12, mg30, mg31, mg32, mg33, mg35, mg36, mg37, mg38, mg39, mg43, mg44, mg45, mg46, mg47, mg48, mg49, mg50, mg53, mg54, mg55, mg56, mg57, mg58, mg59, mg60, mg65, mg66, mg67, mg68, mg69, mg70, mg71, mg72]; exact g19
        · simp (disch := first | assumption | omega) only [row_off, row_in, row_out, up_same, up_ne, cpy_off, rwo_off, rwo_at, rwo_out, mg6, mg7, mg8, mg9, mg10, mg12, mg30, mg31, mg32, mg33, mg35, mg36, mg37, mg38, mg39, mg43, mg44, mg45, mg46, mg47, mg48, mg49, mg50, mg53, mg54, mg55, mg56, mg57, mg58, mg59, mg60, mg65, mg66, mg67, mg68, mg69, mg70, mg71, mg72]; unfold tL; rw [eE, hs]
        · simp (disch := first | assumption | omega) only [row_off, row_in, row_out, up_same, up_ne, cpy_off, rwo_off, rwo_at, rwo_out, mg6, mg7, mg8, mg9, mg10, mg12, mg30, mg31, mg32, mg33, mg35, mg36, mg37, mg38, mg39, mg43, mg44, mg45, mg46, mg47, mg48, mg49, mg50, mg53, mg54, mg55, mg56, mg57, mg58, mg59, mg60, mg65, mg66, mg67, mg68, mg69, mg70, mg71, mg72]; unfold tV; rw [eK, if_neg hk2]; exact g21
        · simp (disch := first | assumption | omega) only [row_off, row_in, row_out, up_same, up_ne, cpy_off, rwo_off, rwo_at, rwo_out, mg6, mg7, mg8, mg9, mg10, mg12, mg30, mg31, mg32, mg33, mg35, mg36, mg37, mg38, mg39, mg43, mg44, mg45, mg46, mg47, mg48, mg49, mg50, mg53, mg54, mg55, mg56, mg57, mg58, mg59, mg60, mg65, mg66, mg67, mg68, mg69, mg70, mg71, mg72]; unfold tW; rw [eK, if_neg hk1]; exact g22
        · intro x j h; rw [up_ne (by omega), up_ne (by omega), up_ne (by omega)]; exact gf x j h
        · simp (disch := first | assumption | omega) only [row_off, row_in, row_out, up_same, up_ne, cpy_off, rwo_off, rwo_at, rwo_out, mg6, mg7, mg8, mg9, mg10, mg12, mg30, mg31, mg32, mg33, mg35, mg36, mg37, mg38, mg39, mg43, mg44, mg45, mg46, mg47, mg48, mg49, mg50, mg53, mg54, mg55, mg56, mg57, mg58, mg59, mg60, mg65, mg66, mg67, mg68, mg69, mg70, mg71, mg72]; exact g16
        · simp (disch := first | assumption | omega) only [row_off, row_in, row_out, up_same, up_ne, cpy_off, rwo_off, rwo_at, rwo_out, mg6, mg7, mg8, mg9, mg10, mg12, mg30, mg31, mg32, mg33, mg35, mg36, mg37, mg38, mg39, mg43, mg44, mg45, mg46, mg47, mg48, mg49, mg50, mg53, mg54, mg55, mg56, mg57, mg58, mg59, mg60, mg65, mg66, mg67, mg68, mg69, mg70, mg71, mg72]; exact eE.symm
        · simp (disch := first | assumption | omega) only [row_off, row_in, row_out, up_same, up_ne, cpy_off, rwo_off, rwo_at, rwo_out, mg6, mg7, mg8, mg9, mg10, mg12, mg30, mg31, mg32, mg33, mg35, mg36, mg37, mg38, mg39, mg43, mg44, mg45, mg46, mg47, mg48, mg49, mg50, mg53, mg54, mg55, mg56, mg57, mg58, mg59, mg60, mg65, mg66, mg67, mg68, mg69, mg70, mg71, mg72]; rw [eK]; omega
        · simp (disch := first | assumption | omega) only [row_off, row_in, row_out, up_same, up_ne, cpy_off, rwo_off, rwo_at, rwo_out, mg6, mg7, mg8, mg9, mg10, mg12, mg30, mg31, mg32, mg33, mg35, mg36, mg37, mg38, mg39, mg43, mg44, mg45, mg46, mg47, mg48, mg49, mg50, mg53, mg54, mg55, mg56, mg57, mg58, mg59, mg60, mg65, mg66, mg67, mg68, mg69, mg70, mg71, mg72]; exact g19
        · simp (disch := first | assumption | omega) only [row_off, row_in, row_out, up_same, up_ne, cpy_off, rwo_off, rwo_at, rwo_out, mg6, mg7, mg8, mg9, mg10, mg12, mg30, mg31, mg32, mg33, mg35, mg36, mg37, mg38, mg39, mg43, mg44, mg45, mg46, mg47, mg48, mg49, mg50, mg53, mg54, mg55, mg56, mg57, mg58, mg59, mg60, mg65, mg66, mg67, mg68, mg69, mg70, mg71, mg72]; unfold tL; rw [eE, hs]
        · simp (disch := first | assumption | omega) only [row_off, row_in, row_out, up_same, up_ne, cpy_off, rwo_off, rwo_at, rwo_out, mg6, mg7, mg8, mg9, mg10, mg12, mg30, mg31, mg32, mg33, mg35, mg36, mg37, mg38, mg39, mg43, mg44, mg45, mg46, mg47, mg48, mg49, mg50, mg53, mg54, mg55, mg56, mg57, mg58, mg59, mg60, mg65, mg66, mg67, mg68, mg69, mg70, mg71, mg72]; unfold tV; rw [eK, if_neg hk2]; exact g21
        · simp (disch := first | assumption | omega) only [row_off, row_in, row_out, up_same, up_ne, cpy_off, rwo_off, rwo_at, rwo_out, mg6, mg7, mg8, mg9, mg10, mg12, mg30, mg31, mg32, mg33, mg35, mg36, mg37, mg38, mg39, mg43, mg44, mg45, mg46, mg47, mg48, mg49, mg50, mg53, mg54, mg55, mg56, mg57, mg58, mg59, mg60, mg65, mg66, mg67, mg68, mg69, mg70, mg71, mg72]; unfold tW; rw [eK, if_neg hk1]; exact g22
        · intro x j h; rw [up_ne (by omega), up_ne (by omega), up_ne (by omega)]; exact gf x j h
  have loop := rem_ind (n := N) (P := fun i => p ≤ i → tS τ N i = s → ∀ m : Mu, FG μ m b → m b 17 = i → V X G (Qm X G 0 P) 0 0 [aR b, aD] [] γ m) (fun i i0 i1 ih hpi hsi m fm e17 => ?_)
  · exact loop p hp.1 hp.2 (Int.le_refl _) hs μ (fun _ _ _ => rfl) ep
  · have e16 : m b 16 = N := by rw [fm _ _ (by omega)]; exact eN
    have kX : TxR m b τ N := fun j z1 z2 => by rw [fm _ _ (by omega)]; exact hX j z1 z2
    refine B_X9_goes_0 hC hS.o ?_
    rw [e16, e17]
    rcases Int.lt_or_le i N with hi | hi
    · refine ⟨fun w => absurd w (by omega), fun _ => ?_⟩
      have nxt : kdF (τ i) = 5 → V X G (Qm X G 0 P) 0 0 [aR b, aD] [] γ (up m b 17 (i + 1)) := fun h5 => ih hi (by omega) (by rw [← hsi]; exact (scn_1 (f := fun j => if kdF (τ j) = 5 then 0 else 1) hi (if_pos h5)).symm) _ (fun x j h => by rw [up_ne (by omega)]; exact fm x j h) up_same
      refine ⟨0, 0, _, hd, Nat.le_refl _, hX' ▸ m_byteAt hl 0 hS hG e16 hT kX i0, PI.use ?_⟩
      rw [if_pos hi]
      refine B_X9_goes_19 hC hS.o ?_
      rw [e17]
      refine ⟨fun h => ⟨by constructor <;> omega, nxt (kd_5.mpr (Or.inl h))⟩, fun h => ?_⟩
      refine ⟨0, 0, _, hd, Nat.le_refl _, hX' ▸ m_byteAt hl 0 hS hG e16 hT kX i0, PI.use ?_⟩
      rw [if_pos hi]
      refine B_X9_goes_32 hC hS.o ?_
      rw [e17]
      refine ⟨fun h2 => st50 m fm ?_, fun h2 => ⟨by constructor <;> omega, nxt (kd_5.mpr (Or.inr h2))⟩⟩
      rw [e17, ← hsi]
      have h5 : ¬ kdF (τ i) = 5 := fun w => (kd_5.mp w).elim h h2
      exact (scn_2 (f := fun j => if kdF (τ j) = 5 then 0 else 1) hi (by rw [if_neg h5]; decide) i0).symm
    · refine ⟨fun _ => st50 m fm ?_, fun w => absurd hi w⟩
      rw [e17, ← hsi]
      obtain rfl : i = N := by omega
      exact (scn_ge (Int.le_refl _)).symm
def splS (v c : Int) : Int := if c = 0 then v else o_lor (o_lshl v 5) (c - 96)
theorem m_spelled (hl : l.stackTraces = false) (d : Nat) {a b c e f g h : Int} (hr : ∀ x ∈ [a, b, c, e, f, g, h], 0 ≤ x ∧ x < 256) : Cn l G yX9_spelled cX9_spelled 9 (some .long) d 0 [aI a, aI b, aI c, aI e, aI f, aI g, aI h] γ μ (fun r γ' μ' => r = some (aL (splS (splS (splS (splS (splS (splS (a - 96) b) c) e) f) g) h)) ∧ γ' = γ ∧ μ' = μ) := by
  simp only [List.mem_cons, List.not_mem_nil, or_false, forall_eq_or_imp, forall_eq] at hr
  obtain ⟨ra, rb, rc, re, rf, rg, rh⟩ := hr
  refine Cn.ofP hl (plainFor_of_name (by decide)) (noLc nlI (noLc nlI (noLc nlI (noLc nlI (noLc nlI (noLc nlI (noL1 nlI))))))) rfl (fun P hP o1 o3 X hX hC => B_X9_spelled_0 hC ?_)
  have k91 : ∀ v, v = splS (splS (splS (splS (splS (a - 96) b) c) e) f) g → V X G (Qm X G 0 P) 0 91 [aD, aD, aD, aD, aD, aD, aI h, aL v, aD] [] γ μ := fun v hv => by
    refine B_X9_spelled_91 hC ⟨fun w => ⟨Nat.le_refl _, hP _ _ _ ⟨?_, rfl, rfl⟩⟩, fun w => ⟨by constructor <;> omega, Nat.le_refl _, hP _ _ _ ⟨?_, rfl, rfl⟩⟩⟩
    · rw [← hv]; unfold splS; rw [if_pos w]
    · rw [← hv, splS, if_neg w]
  have k73 : ∀ v, v = splS (splS (splS (splS (a - 96) b) c) e) f → V X G (Qm X G 0 P) 0 73 [aD, aD, aD, aD, aD, aI g, aI h, aL v, aD] [] γ μ := fun v hv => by
    refine B_X9_spelled_73 hC ⟨fun w => k91 _ (by rw [← hv, splS, if_pos w]), fun w => ⟨by constructor <;> omega, k91 _ (by rw [← hv, splS, if_neg w])⟩⟩
  have k55 : ∀ v, v = splS (splS (splS (a - 96) b) c) e → V X G (Qm X G 0 P) 0 55 [aD, aD, aD, aD, aI f, aI g, aI h, aL v, aD] [] γ μ := fun v hv => by
    refine B_X9_spelled_55 hC ⟨fun w => k73 _ (by rw [← hv, splS, if_pos w]), fun w => ⟨by constructor <;> omega, k73 _ (by rw [← hv, splS, if_neg w])⟩⟩
  have k39 : ∀ v, v = splS (splS (a - 96) b) c → V X G (Qm X G 0 P) 0 39 [aD, aD, aD, aI e, aI f, aI g, aI h, aL v, aD] [] γ μ := fun v hv => by
    refine B_X9_spelled_39 hC ⟨fun w => k55 _ (by rw [← hv, splS, if_pos w]), fun w => ⟨by constructor <;> omega, k55 _ (by rw [← hv, splS, if_neg w])⟩⟩
  have k23 : ∀ v, v = splS (a - 96) b → V X G (Qm X G 0 P) 0 23 [aD, aD, aI c, aI e, aI f, aI g, aI h, aL v, aD] [] γ μ := fun v hv => by
    refine B_X9_spelled_23 hC ⟨fun w => k39 _ (by rw [← hv, splS, if_pos w]), fun w => ⟨by constructor <;> omega, k39 _ (by rw [← hv, splS, if_neg w])⟩⟩
  exact ⟨by constructor <;> omega, fun w => k23 _ (by rw [splS, if_pos w]), fun w => ⟨by constructor <;> omega, k23 _ (by rw [splS, if_neg w])⟩⟩
theorem m_letters (hl : l.stackTraces = false) (d : Nat) (hd : 0 < d) {k : Int} (hk : 0 ≤ k ∧ k < 16) : Cn l G yX9_letters cX9_letters 1 (some .long) d 0 [aI k] γ μ (fun r γ' μ' => r = some (aL (wdV k)) ∧ γ' = γ ∧ μ' = μ) := by
  refine Cn.ofP hl (plainFor_of_name (by decide)) (noL1 nlI) rfl (fun P hP o1 o3 X hX hC => B_X9_letters_0 hC ?_)

  refine ⟨fun w => ?_, fun w => ?_, fun w => ?_, fun w => ?_, fun w => ?_, fun w => ?_, fun w => ?_, fun w => ?_, fun w => ?_, fun w => ?_, fun w => ?_, fun w => ?_, fun w => ?_, fun w => ?_, fun w => ?_, fun w => ?_⟩
  · refine ⟨0, 0, _, hd, Nat.le_refl _, hX ▸ m_spelled hl 0 (by decide), ?_⟩
    rintro r γ m ⟨rfl, rfl, rfl⟩
    obtain rfl : k = 15 := by omega
    exact B_X9_letters_317 hC ⟨Nat.le_refl _, hP _ _ _ ⟨congrArg (fun z => some (aL z)) (by decide +kernel), rfl, rfl⟩⟩
  · refine ⟨0, 0, _, hd, Nat.le_refl _, hX ▸ m_spelled hl 0 (by decide), ?_⟩
    rintro r γ m ⟨rfl, rfl, rfl⟩
    obtain rfl : k = 0 := by omega
    exact B_X9_letters_90 hC ⟨Nat.le_refl _, hP _ _ _ ⟨congrArg (fun z => some (aL z)) (by decide +kernel), rfl, rfl⟩⟩
  · refine ⟨0, 0, _, hd, Nat.le_refl _, hX ▸ m_spelled hl 0 (by decide), ?_⟩
    rintro r γ m ⟨rfl, rfl, rfl⟩
    obtain rfl : k = 1 := by omega
    exact B_X9_letters_105 hC ⟨Nat.le_refl _, hP _ _ _ ⟨congrArg (fun z => some (aL z)) (by decide +kernel), rfl, rfl⟩⟩
  · refine ⟨0, 0, _, hd, Nat.le_refl _, hX ▸ m_spelled hl 0 (by decide), ?_⟩
    rintro r γ m ⟨rfl, rfl, rfl⟩
    obtain rfl : k = 2 := by omega
    exact B_X9_letters_121 hC ⟨Nat.le_refl _, hP _ _ _ ⟨congrArg (fun z => some (aL z)) (by decide +kernel), rfl, rfl⟩⟩
  · refine ⟨0, 0, _, hd, Nat.le_refl _, hX ▸ m_spelled hl 0 (by decide), ?_⟩
    rintro r γ m ⟨rfl, rfl, rfl⟩
    obtain rfl : k = 3 := by omega
    exact B_X9_letters_136 hC ⟨Nat.le_refl _, hP _ _ _ ⟨congrArg (fun z => some (aL z)) (by decide +kernel), rfl, rfl⟩⟩
  · refine ⟨0, 0, _, hd, Nat.le_refl _, hX ▸ m_spelled hl 0 (by decide), ?_⟩
    rintro r γ m ⟨rfl, rfl, rfl⟩
    obtain rfl : k = 4 := by omega
    exact B_X9_letters_150 hC ⟨Nat.le_refl _, hP _ _ _ ⟨congrArg (fun z => some (aL z)) (by decide +kernel), rfl, rfl⟩⟩
  · refine ⟨0, 0, _, hd, Nat.le_refl _, hX ▸ m_spelled hl 0 (by decide), ?_⟩
    rintro r γ m ⟨rfl, rfl, rfl⟩
    obtain rfl : k = 5 := by omega
    exact B_X9_letters_167 hC ⟨Nat.le_refl _, hP _ _ _ ⟨congrArg (fun z => some (aL z)) (by decide +kernel), rfl, rfl⟩⟩
  · refine ⟨0, 0, _, hd, Nat.le_refl _, hX ▸ m_spelled hl 0 (by decide), ?_⟩
    rintro r γ m ⟨rfl, rfl, rfl⟩
    obtain rfl : k = 6 := by omega
    exact B_X9_letters_182 hC ⟨Nat.le_refl _, hP _ _ _ ⟨congrArg (fun z => some (aL z)) (by decide +kernel), rfl, rfl⟩⟩
  · refine ⟨0, 0, _, hd, Nat.le_refl _, hX ▸ m_spelled hl 0 (by decide), ?_⟩
    rintro r γ m ⟨rfl, rfl, rfl⟩
    obtain rfl : k = 7 := by omega
    exact B_X9_letters_199 hC ⟨Nat.le_refl _, hP _ _ _ ⟨congrArg (fun z => some (aL z)) (by decide +kernel), rfl, rfl⟩⟩
  · refine ⟨0, 0, _, hd, Nat.le_refl _, hX ▸ m_spelled hl 0 (by decide), ?_⟩
    rintro r γ m ⟨rfl, rfl, rfl⟩
    obtain rfl : k = 8 := by omega
    exact B_X9_letters_213 hC ⟨Nat.le_refl _, hP _ _ _ ⟨congrArg (fun z => some (aL z)) (by decide +kernel), rfl, rfl⟩⟩
  · refine ⟨0, 0, _, hd, Nat.le_refl _, hX ▸ m_spelled hl 0 (by decide), ?_⟩
    rintro r γ m ⟨rfl, rfl, rfl⟩
    obtain rfl : k = 9 := by omega
    exact B_X9_letters_231 hC ⟨Nat.le_refl _, hP _ _ _ ⟨congrArg (fun z => some (aL z)) (by decide +kernel), rfl, rfl⟩⟩
  · refine ⟨0, 0, _, hd, Nat.le_refl _, hX ▸ m_spelled hl 0 (by decide), ?_⟩
    rintro r γ m ⟨rfl, rfl, rfl⟩
    obtain rfl : k = 10 := by omega
    exact B_X9_letters_247 hC ⟨Nat.le_refl _, hP _ _ _ ⟨congrArg (fun z => some (aL z)) (by decide +kernel), rfl, rfl⟩⟩
  · refine ⟨0, 0, _, hd, Nat.le_refl _, hX ▸ m_spelled hl 0 (by decide), ?_⟩
    rintro r γ m ⟨rfl, rfl, rfl⟩
    obtain rfl : k = 11 := by omega
    exact B_X9_letters_261 hC ⟨Nat.le_refl _, hP _ _ _ ⟨congrArg (fun z => some (aL z)) (by decide +kernel), rfl, rfl⟩⟩
  · refine ⟨0, 0, _, hd, Nat.le_refl _, hX ▸ m_spelled hl 0 (by decide), ?_⟩
    rintro r γ m ⟨rfl, rfl, rfl⟩
    obtain rfl : k = 12 := by omega
    exact B_X9_letters_276 hC ⟨Nat.le_refl _, hP _ _ _ ⟨congrArg (fun z => some (aL z)) (by decide +kernel), rfl, rfl⟩⟩
  · refine ⟨0, 0, _, hd, Nat.le_refl _, hX ▸ m_spelled hl 0 (by decide), ?_⟩
    rintro r γ m ⟨rfl, rfl, rfl⟩
    obtain rfl : k = 13 := by omega
    exact B_X9_letters_291 hC ⟨Nat.le_refl _, hP _ _ _ ⟨congrArg (fun z => some (aL z)) (by decide +kernel), rfl, rfl⟩⟩
  · refine ⟨0, 0, _, hd, Nat.le_refl _, hX ▸ m_spelled hl 0 (by decide), ?_⟩
    rintro r γ m ⟨rfl, rfl, rfl⟩
    obtain rfl : k = 14 := by omega
    exact B_X9_letters_304 hC ⟨Nat.le_refl _, hP _ _ _ ⟨congrArg (fun z => some (aL z)) (by decide +kernel), rfl, rfl⟩⟩
theorem m_knownWord (hl : l.stackTraces = false) (d : Nat) (hd : 1 < d) {b N p : Int} {τ : Int → Int} (hS : ModS G b) (hR : TokR μ b τ N p) : Cn l G yX9_knownWord cX9_knownWord 2 (some .int) d 0 [aR b] γ μ (PI (tN τ N p) γ μ) := by
  refine Cn.ofP hl (plainFor_of_name (by decide)) (noL1 nlR) rfl (fun P hP o1 o3 X hX hC => B_X9_knownWord_0 hC hS.o ?_)
  obtain ⟨t1, t2, t3, t4, t5, t6, t7⟩ := hR
  rw [t3, t5]
  unfold tN at hP
  refine ⟨fun h => ⟨Nat.le_refl _, hP _ _ _ ⟨by rw [if_pos (Or.inl h)], rfl, rfl⟩⟩, fun h => ⟨fun h2 => ?_, fun h2 => ⟨Nat.le_refl _, hP _ _ _ ⟨by rw [if_pos (Or.inr (by omega))], rfl, rfl⟩⟩⟩⟩
  simp only [if_neg (show ¬ (tK τ N p ≠ 1 ∨ 7 < tL τ N p) by omega)] at hP
  have loop := rem_ind (n := 16) (P := fun i => fs (fun k => if wdV k = tW τ N p then 1 else 0) 16 i = fs (fun k => if wdV k = tW τ N p then 1 else 0) 16 0 → V X G (Qm X G 0 P) 0 21 [aR b, aI i] [] γ μ) (fun i h0 h1 ih hi => ?_)
  · exact loop 0 (by omega) (by omega) rfl
  · refine B_X9_knownWord_21 hC hS.o ⟨fun h => ⟨Nat.le_refl _, hP _ _ _ ⟨by rw [← hi, fs_ge (by omega)], rfl, rfl⟩⟩, fun h => ?_⟩
    refine ⟨1, 0, _, hd, Nat.le_refl _, hX ▸ m_letters hl 1 (by omega) ⟨h0, by omega⟩, ?_⟩
    rintro r γ m ⟨rfl, rfl, rfl⟩
    refine B_X9_knownWord_31 hC hS.o ?_
    rw [t7]
    unfold o_lcmp
    by_cases e : wdV i = tW τ N p
    · rw [if_neg (by omega), if_pos e]
      refine ⟨fun w => absurd rfl w, fun _ => ⟨Nat.le_refl _, hP _ _ _ ⟨?_, rfl, rfl⟩⟩⟩
      rw [← hi, fs_2 (by omega) (by rw [if_pos e]; decide)]
    · refine ⟨fun _ => ⟨by constructor <;> omega, ih (by omega) (by rw [← hi]; exact (fs_1 (f := fun k => if wdV k = tW τ N p then 1 else 0) (by omega) (if_neg e)).symm)⟩, fun w => ?_⟩
      exfalso
      split at w
      · omega
      · first | omega | (rw [if_neg e] at w; omega)
theorem m_wrong (hl : l.stackTraces = false) (d : Nat) {b k : Int} (hS : ModS G b) : Cn l G yX9_wrong cX9_wrong 2 none d 0 [aR b, aI k] γ μ (PV γ (if μ b 14 = 0 then up (up μ b 14 k) b 15 (μ b 19) else μ)) := by
  refine Cn.ofP hl (plainFor_of_name (by decide)) (noLc nlR (noL1 nlI)) rfl (fun P hP o1 o3 X hX hC => B_X9_wrong_0 hC hS.o ⟨fun h => ⟨Nat.le_refl _, hP _ _ _ ⟨rfl, rfl, by rw [if_pos h]⟩⟩, fun h => ⟨Nat.le_refl _, hP _ _ _ ⟨rfl, rfl, by rw [if_neg h]⟩⟩⟩)
theorem m_isGood (hl : l.stackTraces = false) (d : Nat) {b : Int} (hS : ModS G b) : Cn l G yX9_isGood cX9_isGood 1 (some .boolean) d 0 [aR b] γ μ (PI (if μ b 14 = 0 then 1 else 0) γ μ) := by
  refine Cn.ofP hl (plainFor_of_name (by decide)) (noL1 nlR) rfl (fun P hP o1 o3 X hX hC => B_X9_isGood_0 hC hS.o ⟨fun h => ⟨Nat.le_refl _, hP _ _ _ ⟨by rw [if_neg h], rfl, rfl⟩⟩, fun h => ⟨Nat.le_refl _, hP _ _ _ ⟨by rw [if_pos h], rfl, rfl⟩⟩⟩)
end MTok
