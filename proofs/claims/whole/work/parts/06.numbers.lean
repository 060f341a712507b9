/-! numbers: Int32 and Int64 as Ints within their range -/
theorem oI {z : Int} (h : iR z) : (Int32.ofInt z).toInt = z := Int32.toInt_ofInt_of_le h.1 h.2
theorem oL {z : Int} (h : lR z) : (Int64.ofInt z).toInt = z := Int64.toInt_ofInt_of_le h.1 h.2
theorem oI_toInt (x : Int32) : Int32.ofInt x.toInt = x := Int32.ofInt_toInt x
theorem oL_toInt (x : Int64) : Int64.ofInt x.toInt = x := Int64.ofInt_toInt x
theorem iR_toInt (x : Int32) : iR x.toInt := ⟨Int32.le_toInt x, Int32.toInt_lt x⟩
theorem lR_toInt (x : Int64) : lR x.toInt := ⟨Int64.le_toInt x, Int64.toInt_lt x⟩
theorem oI_lt {a b : Int} (ha : iR a) (hb : iR b) : Int32.ofInt a < Int32.ofInt b ↔ a < b := by rw [Int32.lt_iff_toInt_lt, oI ha, oI hb]
theorem oI_le {a b : Int} (ha : iR a) (hb : iR b) : Int32.ofInt a ≤ Int32.ofInt b ↔ a ≤ b := by rw [Int32.le_iff_toInt_le, oI ha, oI hb]
theorem oI_eq {a b : Int} (ha : iR a) (hb : iR b) : Int32.ofInt a = Int32.ofInt b ↔ a = b := by rw [← Int32.toInt_inj, oI ha, oI hb]
theorem oL_lt {a b : Int} (ha : lR a) (hb : lR b) : Int64.ofInt a < Int64.ofInt b ↔ a < b := by rw [Int64.lt_iff_toInt_lt, oL ha, oL hb]
theorem oL_eq {a b : Int} (ha : lR a) (hb : lR b) : Int64.ofInt a = Int64.ofInt b ↔ a = b := by rw [← Int64.toInt_inj, oL ha, oL hb]
theorem iR_0 : iR 0 := by constructor <;> decide
theorem oI_0 : Int32.ofInt 0 = 0 := rfl
theorem oI_cl {z : Int} (h : iR z) : (Int32.ofInt z).toNatClampNeg = z.toNat := by
  show (Int32.ofInt z).toInt.toNat = z.toNat
  rw [oI h]
theorem oI_in {z : Int} {n : Nat} (h : iR z) (h0 : 0 ≤ z) (h1 : z < n) : vp_in (Int32.ofInt z) n := by
  rw [vp_in_iff, oI h]
  exact ⟨h0, h1⟩
theorem tdiv_abs {a b : Int} (h0 : 0 < b) : (0 ≤ a → 0 ≤ a.tdiv b ∧ a.tdiv b ≤ a) ∧ (a < 0 → a ≤ a.tdiv b ∧ a.tdiv b ≤ 0) := by
  have key : ∀ c : Int, 0 ≤ c → 0 ≤ c.tdiv b ∧ c.tdiv b ≤ c := fun c hc => by
    rw [Int.tdiv_eq_ediv_of_nonneg hc]
    exact ⟨Int.ediv_nonneg hc (Int.le_of_lt h0), Int.ediv_le_self b hc⟩
  refine ⟨key a, fun h => ?_⟩
  have h2 := key (-a) (by omega)
  rw [Int.neg_tdiv] at h2
  omega
theorem iR_tdiv {a b : Int} (ha : iR a) (h0 : 0 < b) : iR (a.tdiv b) := by
  obtain ⟨h1, h2⟩ := ha
  have h3 := tdiv_abs (a := a) h0
  by_cases h : 0 ≤ a
  · have := h3.1 h; constructor <;> omega
  · have := h3.2 (by omega); constructor <;> omega
theorem oI_div {a b : Int} (ha : iR a) (hb : iR b) (h0 : 0 < b) : Int32.ofInt a / Int32.ofInt b = Int32.ofInt (a.tdiv b) := by
  rw [← Int32.toInt_inj, Int32.toInt_div_of_ne_right _ _ (fun h => by
    have h2 := congrArg Int32.toInt h
    rw [oI hb] at h2
    have h3 : (-1 : Int32).toInt = -1 := rfl
    omega), oI ha, oI hb, oI (iR_tdiv ha h0)]
theorem iR_tmod {a b : Int} (hb : iR b) (h0 : 0 < b) : iR (a.tmod b) := by
  have := Int.tmod_lt_of_pos a h0
  have := Int.lt_tmod_of_pos a h0
  obtain ⟨h1, h2⟩ := hb
  constructor <;> omega
theorem oI_rem {a b : Int} (ha : iR a) (hb : iR b) (h0 : 0 < b) : Int32.ofInt a - Int32.ofInt a / Int32.ofInt b * Int32.ofInt b = Int32.ofInt (a.tmod b) := by
  rw [oI_div ha hb h0, ← Int32.ofInt_mul, ← Int32.ofInt_sub]
  congr 1
  rw [Int.tmod_def, Int.mul_comm]
theorem oI_i2l {a : Int} (ha : iR a) : (Int32.ofInt a).toInt64 = Int64.ofInt a := by
  rw [← Int64.toInt_inj, Int32.toInt_toInt64, oI ha, oL]
  obtain ⟨h1, h2⟩ := ha
  constructor <;> omega
theorem lR_of {a : Int} (h : iR a) : lR a := by obtain ⟨h1, h2⟩ := h; constructor <;> omega
/-- results of the rarer operations, whatever they are -/
def o_wrap (z : Int) : Int := (Int32.ofInt z).toInt
def o_shl (a b : Int) : Int := (Int32.ofInt a <<< (Int32.ofInt b &&& 31)).toInt
def o_shr (a b : Int) : Int := (Int32.ofInt a >>> (Int32.ofInt b &&& 31)).toInt
def o_ushr (a b : Int) : Int := ((Int32.ofInt a).toUInt32 >>> ((Int32.ofInt b).toUInt32 &&& Int32.toUInt32 31)).toInt32.toInt
def o_and (a b : Int) : Int := (Int32.ofInt a &&& Int32.ofInt b).toInt
def o_or (a b : Int) : Int := (Int32.ofInt a ||| Int32.ofInt b).toInt
def o_xor (a b : Int) : Int := (Int32.ofInt a ^^^ Int32.ofInt b).toInt
def o_lshl (a b : Int) : Int := (Int64.ofInt a <<< ((Int32.ofInt b).toInt64 &&& 63)).toInt
def o_lor (a b : Int) : Int := (Int64.ofInt a ||| Int64.ofInt b).toInt
def o_ladd (a b : Int) : Int := (Int64.ofInt a + Int64.ofInt b).toInt
def o_lmul (a b : Int) : Int := (Int64.ofInt a * Int64.ofInt b).toInt
def o_i2b (a : Int) : Int := (Int32.ofInt a).toInt8.toInt32.toInt
def o_lcmp (a b : Int) : Int := if a < b then -1 else if a = b then 0 else 1
theorem o_wrap_eq {z : Int} (h : iR z) : o_wrap z = z := oI h
