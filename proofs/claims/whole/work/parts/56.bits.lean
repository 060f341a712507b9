/-! bits of small sets -/
def bitI (s b : Int) : Int := (s / 2 ^ b.toNat) % 2
def bitChk (lo hi : Nat) : Bool := ((List.range (hi - lo)).map (· + lo)).all fun s => (List.range 12).all fun b => decide (o_and (o_shr (s : Int) (b : Int)) 1 = bitI s b) && decide (o_or (s : Int) (o_shl 1 (b : Int)) = if bitI s b = 1 then (s : Int) else s + 2 ^ b) && decide (o_and (s : Int) (o_shl 1 (b : Int)) = bitI s b * 2 ^ b)
theorem bitChk_0 : bitChk 0 1024 = true := by decide +kernel
theorem bitChk_1 : bitChk 1024 2048 = true := by decide +kernel
theorem bitChk_2 : bitChk 2048 3072 = true := by decide +kernel
theorem bitChk_3 : bitChk 3072 4096 = true := by decide +kernel
theorem bitChk_use {lo hi : Nat} (h : bitChk lo hi = true) {s b : Nat} (hs : lo ≤ s ∧ s < hi) (hb : b < 12) : o_and (o_shr (s : Int) (b : Int)) 1 = bitI s b ∧ (o_or (s : Int) (o_shl 1 (b : Int)) = if bitI s b = 1 then (s : Int) else s + 2 ^ b) ∧ o_and (s : Int) (o_shl 1 (b : Int)) = bitI s b * 2 ^ b := by
  have h1 := List.all_eq_true.mp h s (List.mem_map.mpr ⟨s - lo, List.mem_range.mpr (by omega), by omega⟩)
  have h2 := List.all_eq_true.mp h1 b (List.mem_range.mpr hb)
  simp only [Bool.and_eq_true, decide_eq_true_eq] at h2
  exact ⟨h2.1.1, h2.1.2, h2.2⟩
theorem bits_ok {s b : Int} (hs : 0 ≤ s ∧ s < 4096) (hb : 0 ≤ b ∧ b < 12) : o_and (o_shr s b) 1 = bitI s b ∧ (o_or s (o_shl 1 b) = if bitI s b = 1 then s else s + 2 ^ b.toNat) ∧ o_and s (o_shl 1 b) = bitI s b * 2 ^ b.toNat := by
  obtain ⟨k, rfl⟩ := Int.eq_ofNat_of_zero_le hs.1
  obtain ⟨c, rfl⟩ := Int.eq_ofNat_of_zero_le hb.1
  have hc : c < 12 := by omega
  have hk : k < 4096 := by omega
  show o_and (o_shr (k : Int) (c : Int)) 1 = bitI k c ∧ (o_or (k : Int) (o_shl 1 (c : Int)) = if bitI k c = 1 then (k : Int) else k + 2 ^ c) ∧ o_and (k : Int) (o_shl 1 (c : Int)) = bitI k c * 2 ^ c
  rcases (show k < 1024 ∨ (1024 ≤ k ∧ k < 2048) ∨ (2048 ≤ k ∧ k < 3072) ∨ (3072 ≤ k ∧ k < 4096) by omega) with h | h | h | h
  · exact bitChk_use bitChk_0 ⟨by omega, h⟩ hc
  · exact bitChk_use bitChk_1 h hc
  · exact bitChk_use bitChk_2 h hc
  · exact bitChk_use bitChk_3 h hc
theorem shl_ok {b : Int} (hb : 0 ≤ b ∧ b ≤ 12) : o_shl 1 b = 2 ^ b.toNat := by
  rcases (show b = 0 ∨ b = 1 ∨ b = 2 ∨ b = 3 ∨ b = 4 ∨ b = 5 ∨ b = 6 ∨ b = 7 ∨ b = 8 ∨ b = 9 ∨ b = 10 ∨ b = 11 ∨ b = 12 by omega) with rfl | rfl | rfl | rfl | rfl | rfl | rfl | rfl | rfl | rfl | rfl | rfl | rfl <;> decide +kernel
theorem p2_b {b n : Int} (hb : 0 ≤ b ∧ b < n) (hn : n ≤ 12) : 1 ≤ (2 : Int) ^ b.toNat ∧ (2 : Int) ^ b.toNat < 2 ^ n.toNat ∧ (2 : Int) ^ n.toNat ≤ 4096 := by
  have h1 := pw_pos (q := 2) (by decide) b.toNat
  have h2 := pw_mono (q := 2) (by decide) (show b.toNat + 1 ≤ n.toNat by omega)
  rw [Int.pow_succ] at h2
  have h3 := pw_mono (q := 2) (by decide) (show n.toNat ≤ 12 by omega)
  have h4 : (2 : Int) ^ 12 = 4096 := by decide
  omega
theorem bitI_01 (s b : Int) : bitI s b = 0 ∨ bitI s b = 1 := by
  unfold bitI
  have := Int.emod_nonneg (s / 2 ^ b.toNat) (show (2 : Int) ≠ 0 by decide)
  have := Int.emod_lt_of_pos (s / 2 ^ b.toNat) (show (0 : Int) < 2 by decide)
  omega
/-- with a bit that isn't there it is still one of the sets -/
theorem bit_add {s b n : Int} (hs : 0 ≤ s ∧ s < 2 ^ n.toNat) (hb : 0 ≤ b ∧ b < n) (h0 : bitI s b = 0) : s + 2 ^ b.toNat < 2 ^ n.toNat := by
  obtain ⟨c, hc⟩ : ∃ c : Nat, n.toNat = b.toNat + 1 + c := ⟨n.toNat - b.toNat - 1, by omega⟩
  have hp := pw_pos (q := 2) (by decide) b.toNat
  have e : (2 : Int) ^ n.toNat = 2 ^ b.toNat * (2 * 2 ^ c) := by rw [hc, Int.pow_add, Int.pow_succ, Int.mul_assoc]
  unfold bitI at h0
  generalize (2 : Int) ^ b.toNat = B at *
  rw [e] at hs ⊢
  have h1 := Int.mul_ediv_add_emod s B
  have h2 := Int.emod_lt_of_pos s hp
  have h3 := Int.emod_nonneg s (show B ≠ 0 by omega)
  have h4 : s / B < 2 * 2 ^ c := Int.ediv_lt_of_lt_mul hp (by rw [Int.mul_comm]; exact hs.2)
  have h5 : s / B + 1 < 2 * 2 ^ c := by
    have : s / B ≠ 2 * 2 ^ c - 1 := fun w => by rw [w] at h0; omega
    omega
  have h6 : B * (s / B + 1 + 1) ≤ B * (2 * 2 ^ c) := Int.mul_le_mul_of_nonneg_left (by omega) (by omega)
  rw [Int.mul_add, Int.mul_add, Int.mul_one] at h6
  omega
