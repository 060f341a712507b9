/-! the class: Reader.put; what the class and the reference make of the sums is one -/
theorem ofI_to {v : Int} (h : iR v) : (Int32.ofInt v).toInt = v := Int32.toInt_ofInt_of_le h.1 (by have := h.2; omega)
theorem i2b_ok {v : Int} (h : iR v) : o_i2b v = sg8 (v % 256) := by
  unfold o_i2b
  rw [Int8.toInt_toInt32, Int32.toInt_toInt8, ofI_to h]
  unfold sg8
  rw [Int.bmod_def]
  split <;> split <;> omega
theorem and255w {v : Int} (h : iR v) : o_and v 255 = v % 256 := by
  unfold o_and
  have hv := ofI_to h
  generalize Int32.ofInt v = x at *
  have h1 : (x.toBitVec &&& (Int32.ofInt 255).toBitVec).toNat = x.toBitVec.toNat % 256 := by
    rw [BitVec.toNat_and]
    exact Nat.and_two_pow_sub_one_eq_mod _ 8
  have e : (x &&& Int32.ofInt 255).toInt = ((x.toBitVec.toNat % 256 : Nat) : Int) := by
    rw [← Int32.toInt_toBitVec, Int32.toBitVec_and, BitVec.toInt_eq_toNat_of_lt (by rw [h1]; omega), h1]
  rw [e, ← hv, ← Int32.toInt_toBitVec, BitVec.toInt_eq_toNat_cond]
  split <;> omega
theorem shr_ok {v : Int} (h : iR v) : o_shr v 0 = v ∧ o_shr v 8 = v / 256 ∧ o_shr v 16 = v / 65536 ∧ o_shr v 24 = v / 16777216 := by
  have hv := ofI_to h
  have k : ∀ n : Nat, n < 32 → ∀ b : Int32, b.toBitVec.smod 32 = BitVec.ofNat 32 n → (Int32.ofInt v >>> b).toInt = v / 2 ^ n := fun n hn b hb => by
    rw [← Int32.toInt_toBitVec, Int32.toBitVec_shiftRight, hb, BitVec.sshiftRight_eq', BitVec.toInt_sshiftRight, Int32.toInt_toBitVec, hv, Int.shiftRight_eq_div_pow, BitVec.toNat_ofNat, Nat.mod_eq_of_lt (by omega)]
    rfl
  refine ⟨?_, k 8 (by decide) _ (by decide +kernel), k 16 (by decide) _ (by decide +kernel), k 24 (by decide) _ (by decide +kernel)⟩
  have := k 0 (by decide) (Int32.ofInt 0 &&& 31) (by decide +kernel)
  unfold o_shr
  rw [this]
  omega
theorem ushr_k {v : Int} (h : iR v) {n : Nat} (hn : n < 32) {b : UInt32} (hb : b.toNat % 32 = n) : (((Int32.ofInt v).toUInt32 >>> b).toInt32.toInt) = (if (v % 4294967296) / 2 ^ n < 2147483648 then (v % 4294967296) / 2 ^ n else (v % 4294967296) / 2 ^ n - 4294967296) := by
  have hv := ofI_to h
  generalize Int32.ofInt v = x at *
  have e1 : ((x.toBitVec.toNat : Nat) : Int) = v % 4294967296 := by
    rw [← hv, ← Int32.toInt_toBitVec, BitVec.toInt_eq_toNat_cond]
    split <;> omega
  have e2 : (x.toUInt32 >>> b).toInt32.toBitVec.toNat = x.toBitVec.toNat / 2 ^ n := by
    show (x.toUInt32 >>> b).toNat = _
    rw [UInt32.toNat_shiftRight, hb, Nat.shiftRight_eq_div_pow]
    rfl
  rw [← Int32.toInt_toBitVec, BitVec.toInt_eq_toNat_cond, e2, ← e1]
  have e3 : ((x.toBitVec.toNat / 2 ^ n : Nat) : Int) = (x.toBitVec.toNat : Int) / 2 ^ n := by
    rw [Int.natCast_ediv]; rfl
  rw [← e3]
  split <;> split <;> omega
theorem ushr_ok {v : Int} (h : iR v) : o_ushr v 0 = v ∧ o_ushr v 8 = (v % 4294967296) / 256 ∧ o_ushr v 16 = (v % 4294967296) / 65536 ∧ o_ushr v 24 = (v % 4294967296) / 16777216 := by
  obtain ⟨h1, h2⟩ := id h
  refine ⟨?_, ?_, ?_, ?_⟩
  · have := ushr_k h (n := 0) (by decide) (b := (Int32.ofInt 0).toUInt32 &&& Int32.toUInt32 31) (by decide +kernel)
    unfold o_ushr
    rw [this]
    split <;> omega
  · have := ushr_k h (n := 8) (by decide) (b := (Int32.ofInt 8).toUInt32 &&& Int32.toUInt32 31) (by decide +kernel)
    unfold o_ushr
    rw [this]
    split <;> omega
  · have := ushr_k h (n := 16) (by decide) (b := (Int32.ofInt 16).toUInt32 &&& Int32.toUInt32 31) (by decide +kernel)
    unfold o_ushr
    rw [this]
    split <;> omega
  · have := ushr_k h (n := 24) (by decide) (b := (Int32.ofInt 24).toUInt32 &&& Int32.toUInt32 31) (by decide +kernel)
    unfold o_ushr
    rw [this]
    split <;> omega
theorem byt_sg {v k : Int} (h : iR v) (hk : k = 0 ∨ k = 8 ∨ k = 16 ∨ k = 24) : o_i2b (o_ushr v k) = sg8 (byt v k) := by
  obtain ⟨h1, h2⟩ := id h
  obtain ⟨a0, a8, a16, a24⟩ := shr_ok h
  obtain ⟨b0, b8, b16, b24⟩ := ushr_ok h
  unfold byt
  rcases hk with rfl | rfl | rfl | rfl
  · rw [a0, b0, i2b_ok h, and255w h]
  · rw [a8, b8, i2b_ok (by constructor <;> omega), and255w (by constructor <;> omega)]
    congr 1
    omega
  · rw [a16, b16, i2b_ok (by constructor <;> omega), and255w (by constructor <;> omega)]
    congr 1
    omega
  · rw [a24, b24, i2b_ok (by constructor <;> omega), and255w (by constructor <;> omega)]
    congr 1
    omega
theorem sg8_b {c : Int} (h : 0 ≤ c ∧ c < 256) : -128 ≤ sg8 c ∧ sg8 c < 128 := by unfold sg8; split <;> omega
/-- four bytes of a number, laid -/
def putM (μ : Mu) (r v : Int) : Mu := up (up (up (up (up (up (up (up μ (r + 1) (μ r 2) (sg8 (byt v 24))) r 2 (μ r 2 + 1)) (r + 1) (μ r 2 + 1) (sg8 (byt v 16))) r 2 (μ r 2 + 1 + 1)) (r + 1) (μ r 2 + 1 + 1) (sg8 (byt v 8))) r 2 (μ r 2 + 1 + 1 + 1)) (r + 1) (μ r 2 + 1 + 1 + 1) (sg8 (byt v 0))) r 2 (μ r 2 + 1 + 1 + 1 + 1)
section CRead5
variable {l : Launch} {G : Gx} {γ μ : Mu}
theorem c_put (hl : l.stackTraces = false) (d : Nat) (hd : 0 < d) {r v : Int} (hr : ReadAt G γ r) (hv : iR v) (h5 : 0 ≤ μ r 2 ∧ μ r 2 + 4 ≤ 500) : Cn l G yX3_put cX3_put 3 none d 0 [aR r, aI v] γ μ (PV γ (putM μ r v)) := by
  refine Cn.ofP hl (plainFor_of_name (by decide)) (noLc nlR (noL1 nlI)) rfl (fun P hP o1 o3 X hX hC => B_X3_put_0 hC hr.o ?_)
  refine ⟨0, 0, _, hd, Nat.le_refl _, hX ▸ c_hasRoom hl 0 hr.o (by constructor <;> omega), PI.use ?_⟩
  rw [if_pos h5.2]
  have st : ∀ (k : Int) (m : Mu), (k = 0 ∨ k = 8 ∨ k = 16 ∨ k = 24) → 0 ≤ m r 2 ∧ m r 2 < 500 → V X G (Qm X G 0 P) 0 12 [aR r, aI v, aI (k + (-8))] [] γ (up (up m (r + 1) (m r 2) (sg8 (byt v k))) r 2 (m r 2 + 1)) → V X G (Qm X G 0 P) 0 12 [aR r, aI v, aI k] [] γ m := fun k m hk hm h => by
    refine B_X3_put_12 hC hr.o ⟨fun z => by omega, fun _ => ?_⟩
    rw [hr.g0, byt_sg hv hk]
    exact ⟨ixO hr.s1 hm, sg8_b (byt_b v k), by constructor <;> omega, by constructor <;> omega, h⟩
  have s1 : ∀ (m : Mu) (i z : Int), up m (r + 1) i z r 2 = m r 2 := fun m i z => up_ne (by omega)
  refine B_X3_put_5 hC hr.o ⟨fun _ => ?_, fun z => absurd z (by decide)⟩
  refine st 24 _ (by decide) (by omega) (st 16 _ (by decide) (by rw [up_same]; omega) (st 8 _ (by decide) (by rw [up_same, up_same]; omega) (st 0 _ (by decide) (by rw [up_same, up_same, up_same]; omega) ?_)))
  rw [up_same, up_same, up_same]
  exact B_X3_put_12 hC hr.o ⟨fun _ => ⟨Nat.le_refl _, hP _ _ _ ⟨rfl, rfl, rfl⟩⟩, fun z => absurd (by decide) z⟩
end CRead5
/-! one value -/
theorem mod_add {a b c d q : Int} (h1 : a % q = b % q) (h2 : c % q = d % q) : (a + c) % q = (b + d) % q := by rw [Int.add_emod, h1, h2, ← Int.add_emod]
theorem mod_mulL {a b q : Int} : (a % q * b) % q = (a * b) % q := by rw [Int.mul_emod, Int.emod_emod_of_dvd _ (Int.dvd_refl q), ← Int.mul_emod]
theorem wrC_out {a : AC} {n c x y : Int} (hA : AcO n c a) (h : ¬ ((0 ≤ x ∧ x < n) ∧ (0 ≤ y ∧ y < n))) : wrC a a.wc x y = 0 := by
  have := foldI_ind (s := fun v j => v + (if x = a.wA j ∧ y = a.wB j then 1 else 0) + (if x = a.wB j ∧ y = a.wA j then 1 else 0)) (a := (0 : Int)) (n := a.wc) (P := fun _ v => v = 0) rfl (fun i v h0 h1 hv => by
    have hr := hA.2.2.1 i h0 h1
    rw [if_neg (fun z => h (by omega)), if_neg (fun z => h (by omega))]
    omega)
  exact this a.wc hA.2.1.1 (Int.le_refl _)
theorem finC_A {n q w h ed c : Int} {a : AC} (hA : AcO n c a) (hw : noW w a) (x y : Int) : finC n q w h ed a x y % q = finA n q w h ed a x y % q := by
  unfold finC finA amS
  by_cases e : w = 0
  · rw [if_pos e, if_pos e, if_pos e, Int.add_zero]
    refine mod_add (mod_add rfl mod_mulL) ?_
    by_cases e2 : (0 ≤ x ∧ x < n) ∧ (0 ≤ y ∧ y < n)
    · rw [if_pos e2, Int.mul_comm]
    · rw [if_neg e2, wrC_out hA e2, Int.mul_zero]
  · have e0 : a.wc = 0 := hw.resolve_left e
    have e1 : wrC a a.wc x y = 0 := by rw [e0]; rfl
    rw [if_neg e, if_neg e, e1, Int.mul_zero, Int.add_zero]
    exact mod_add (mod_add rfl mod_mulL) (mod_add (mod_add (mod_add (mod_add mod_mulL mod_mulL) mod_mulL) mod_mulL) mod_mulL)
