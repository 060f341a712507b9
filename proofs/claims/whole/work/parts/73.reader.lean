/-! the class: Reader's tokens -/
def sg8 (c : Int) : Int := if c < 128 then c else c - 256
def ReadAt (G : Gx) (γ : Mu) (r : Int) : Prop := shO G r 3 10 ∧ γ r 0 = r + 1 ∧ shO G (r + 1) 10 500 ∧ γ r 1 = r + 2 ∧ shO G (r + 2) 11 500
theorem ReadAt.o {G : Gx} {γ : Mu} {r : Int} (h : ReadAt G γ r) : shO G r 3 10 := h.1
theorem ReadAt.g0 {G : Gx} {γ : Mu} {r : Int} (h : ReadAt G γ r) : γ r 0 = r + 1 := h.2.1
theorem ReadAt.s1 {G : Gx} {γ : Mu} {r : Int} (h : ReadAt G γ r) : shO G (r + 1) 10 500 := h.2.2.1
theorem ReadAt.g1 {G : Gx} {γ : Mu} {r : Int} (h : ReadAt G γ r) : γ r 1 = r + 2 := h.2.2.2.1
theorem ReadAt.s2 {G : Gx} {γ : Mu} {r : Int} (h : ReadAt G γ r) : shO G (r + 2) 11 500 := h.2.2.2.2
theorem kdF_sg {c : Int} (hc : 0 ≤ c ∧ c < 256) : kdF (sg8 c) = kdF c := by
  unfold sg8
  split
  · rfl
  · unfold kdF
    rw [if_neg (by omega), if_neg (by omega), if_neg (by omega), if_neg (by omega), if_neg (by omega), if_neg (by omega), if_neg (by omega), if_neg (by omega)]
theorem sg8_eq {c z : Int} (hc : 0 ≤ c ∧ c < 256) (hz : 0 ≤ z ∧ z < 128) : sg8 c = z ↔ c = z := by
  unfold sg8
  split <;> omega
/-- the reader at a token -/
def TkC (m : Mu) (r : Int) (τ : Int → Int) (N p : Int) : Prop := m r 5 = N ∧ m r 6 = tS τ N p ∧ m r 7 = tE τ N p ∧ m r 8 = tK τ N p
def TxC (m : Mu) (r : Int) (τ : Int → Int) (N : Int) : Prop := ∀ j, 0 ≤ j → j < N → m (r + 1) j = sg8 (τ j) ∧ m (r + 2) j = kdF (τ j)
/-- all but the reader's own numbers -/
def FRd (μ m : Mu) (r : Int) : Prop := ∀ y j, (y = r → j ≠ 3 ∧ j ≠ 4 ∧ (j < 6 ∨ 9 < j)) → m y j = μ y j
theorem FRd.rf {μ : Mu} {r : Int} : FRd μ μ r := fun _ _ _ => rfl
theorem FRd.t {μ m m2 : Mu} {r : Int} (h : FRd μ m r) (h2 : FRd m m2 r) : FRd μ m2 r := fun x j hx => by rw [h2 x j hx, h x j hx]
theorem TxC.fr {μ m : Mu} {r N : Int} {τ : Int → Int} (h : TxC μ r τ N) (hf : FRd μ m r) : TxC m r τ N := fun j z1 z2 => by rw [hf _ _ (by omega), hf _ _ (by omega)]; exact h j z1 z2
def PcR (m : Mu) (r : Int) (τ : Int → Int) (N : Int) (s : PT) : Prop := (s.fk = 0 → TkC m r τ N s.p) ∧ m r 4 = s.fk ∧ m r 3 = s.fp ∧ pIn N s ∧ m r 5 = N
/-! letters as numbers, and back -/
theorem ltV_s {τ : Int → Int} {s k : Int} (h : 0 ≤ k) : ltV τ s (k + 1) = 32 * ltV τ s k + (τ (s + k) - 96) := foldI_s h
theorem ltV_inj {τ τ' : Int → Int} {s s' : Int} : ∀ a b : Nat, (∀ j : Int, 0 ≤ j → j < a → 97 ≤ τ (s + j) ∧ τ (s + j) ≤ 122) → (∀ j : Int, 0 ≤ j → j < b → 97 ≤ τ' (s' + j) ∧ τ' (s' + j) ≤ 122) → ltV τ s a = ltV τ' s' b → a = b ∧ ∀ j : Int, 0 ≤ j → j < a → τ (s + j) = τ' (s' + j)
  | 0, 0, _, _, _ => ⟨rfl, fun j z1 z2 => by omega⟩
  | 0, b + 1, _, h2, h => by
    have hb := ltV_b (τ := τ') (s := s') (n := b) (fun j z1 z2 => h2 j z1 (by omega)) b (by omega) (Int.le_refl _)
    have h9 := h2 b (by omega) (by omega)
    rw [show ((b + 1 : Nat) : Int) = (b : Int) + 1 by omega, ltV_s (by omega)] at h
    have : ltV τ s ((0 : Nat) : Int) = 0 := rfl
    omega
  | a + 1, 0, h1, _, h => by
    have hb := ltV_b (τ := τ) (s := s) (n := a) (fun j z1 z2 => h1 j z1 (by omega)) a (by omega) (Int.le_refl _)
    have h9 := h1 a (by omega) (by omega)
    rw [show ((a + 1 : Nat) : Int) = (a : Int) + 1 by omega, ltV_s (by omega)] at h
    have : ltV τ' s' ((0 : Nat) : Int) = 0 := rfl
    omega
  | a + 1, b + 1, h1, h2, h => by
    have k1 := h1 a (by omega) (by omega)
    have k2 := h2 b (by omega) (by omega)
    rw [show ((a + 1 : Nat) : Int) = (a : Int) + 1 by omega, show ((b + 1 : Nat) : Int) = (b : Int) + 1 by omega, ltV_s (by omega), ltV_s (by omega)] at h
    obtain ⟨e1, e2⟩ := ltV_inj (τ := τ) (τ' := τ') (s := s) (s' := s') a b (fun j z1 z2 => h1 j z1 (by omega)) (fun j z1 z2 => h2 j z1 (by omega)) (by omega)
    subst e1
    refine ⟨rfl, fun j z1 z2 => ?_⟩
    by_cases e : j = a
    · rw [e]; omega
    · exact e2 j z1 (by omega)
def wix (i : Nat) : Int := [0, 0, 0, 0, 0, 0, 0, 0, 11, 10, 12, 13, 0, 1, 2, 3, 4, 5, 6, 7, 8, 15, 14, 9].getD i 0
theorem wix_tab : ∀ i : Fin 24, 8 ≤ i.1 → (0 ≤ wix i ∧ wix i < 16) ∧ sxLen.getD i 0 = (wdL.getD (wix i).toNat []).length ∧ sxLen.getD i 0 ≤ 7 ∧ ∀ j : Fin 8, j.1 < sxLen.getD i 0 → strC i j = (wdL.getD (wix i).toNat []).getD j 0 ∧ 97 ≤ strC i j ∧ strC i j ≤ 122 := by decide +kernel
theorem wdV_inj : ∀ a b : Fin 16, wdV a.1 = wdV b.1 → a = b := by decide +kernel
/-- the token is a word, letter by letter -/
theorem tN_word {τ : Int → Int} {N p : Int} {i : Nat} (hp : 0 ≤ p ∧ p ≤ N) (hi : 8 ≤ i ∧ i < 24) : tN τ N p = wix i ↔ (tK τ N p = 1 ∧ tL τ N p = (sxLen.getD i 0 : Nat) ∧ ∀ j : Int, 0 ≤ j → j < (sxLen.getD i 0 : Nat) → τ (tS τ N p + j) = strC i j.toNat) := by
  have wt : (0 ≤ wix i ∧ wix i < 16) ∧ sxLen.getD i 0 = (wdL.getD (wix i).toNat []).length ∧ sxLen.getD i 0 ≤ 7 ∧ ∀ j : Fin 8, j.1 < sxLen.getD i 0 → strC i j = (wdL.getD (wix i).toNat []).getD j 0 ∧ 97 ≤ strC i j ∧ strC i j ≤ 122 := wix_tab ⟨i, hi.2⟩ hi.1
  obtain ⟨w1, w2, w3, w4⟩ := wt
  have hb := tok_b (τ := τ) hp
  have eW : wdV (wix i) = ltV (fun j => strC i j.toNat) 0 (sxLen.getD i 0 : Nat) := by
    unfold wdV
    rw [← w2]
    refine foldI_cong (fun j v z1 z2 => ?_) _ (by omega) (Int.le_refl _)
    have := (w4 ⟨j.toNat, by omega⟩ (by show j.toNat < _; omega)).1
    rw [Int.zero_add]
    show 32 * v + ((wdL.getD (wix i).toNat []).getD j.toNat 0 - 96) = _
    rw [← this]
  unfold tN
  constructor
  · intro h
    split at h
    · omega
    · rename_i hc
      have hk : tK τ N p = 1 := by omega
      have hr := ff_range (f := fun k => if wdV k = tW τ N p then 1 else 0) (n := 16) (by decide)
      rw [ff_fs, h] at hr
      have hv : wdV (wix i) = tW τ N p := by
        rcases hr with ⟨z, -⟩ | ⟨-, -, z, -⟩
        · omega
        · by_cases e : wdV (wix i) = tW τ N p
          · exact e
          · exact absurd (if_neg e) z
      obtain ⟨r1, r2, r3⟩ := tk_run hp hk (Or.inl rfl)
      have eT : tW τ N p = ltV τ (tS τ N p) (tL τ N p) := by
        unfold tW
        rw [if_pos hk, show min (tL τ N p) 8 = tL τ N p by omega]
      have eL : ((tL τ N p).toNat : Int) = tL τ N p := by omega
      rw [eT, eW, ← eL] at hv
      obtain ⟨q1, q2⟩ := ltV_inj (τ := fun j => strC i j.toNat) (τ' := τ) (s := 0) (s' := tS τ N p) (sxLen.getD i 0) (tL τ N p).toNat (fun j z1 z2 => by rw [Int.zero_add]; exact (w4 ⟨j.toNat, by omega⟩ (by show j.toNat < _; omega)).2) (fun j z1 z2 => kd_1.mp (r3 _ (by omega) (by unfold tL at z2; omega))) hv
      refine ⟨hk, by omega, fun j z1 z2 => ?_⟩
      have := q2 j z1 z2
      rw [Int.zero_add] at this
      exact this.symm
  · rintro ⟨h1, h2, h3⟩
    rw [if_neg (by omega)]
    have eT : tW τ N p = wdV (wix i) := by
      unfold tW
      rw [if_pos h1, show min (tL τ N p) 8 = tL τ N p by omega, h2, eW]
      refine foldI_cong (fun j v z1 z2 => ?_) _ (by omega) (Int.le_refl _)
      rw [h3 j z1 z2, Int.zero_add]
    have hr := ff_range (f := fun k => if wdV k = tW τ N p then 1 else 0) (n := 16) (by decide)
    rw [ff_fs] at hr
    rcases hr with ⟨z, z2⟩ | ⟨z1, z2, z3, -⟩
    · have := z2 (wix i) w1.1 w1.2
      rw [if_pos eT.symm] at this
      exact absurd this (by decide)
    · generalize fs (fun k => if wdV k = tW τ N p then 1 else 0) 16 0 = m at *
      have hm : wdV m = tW τ N p := by
        by_cases e : wdV m = tW τ N p
        · exact e
        · exact absurd (if_neg e) z3
      rw [eT] at hm
      have e1 : ((m.toNat : Nat) : Int) = m := by omega
      have e2 : (((wix i).toNat : Nat) : Int) = wix i := by omega
      have := wdV_inj ⟨m.toNat, by omega⟩ ⟨(wix i).toNat, by omega⟩ (by show wdV ((m.toNat : Nat) : Int) = wdV (((wix i).toNat : Nat) : Int); rw [e1, e2]; exact hm)
      have := congrArg Fin.val this
      have h9 : m.toNat = (wix i).toNat := this
      omega
section CRead
variable {l : Launch} {G : Gx} {γ μ : Mu}
theorem c_kindOf (hl : l.stackTraces = false) (d : Nat) {c : Int} : Cn l G yX3_kindOf cX3_kindOf 1 (some .int) d 0 [aI c] γ μ (PI (kdF c) γ μ) := by
  refine Cn.ofP hl (plainFor_of_name (by decide)) (noL1 nlI) rfl (fun P hP o1 o3 X hX hC => B_X3_kindOf_0 hC ?_)
  have fin : ∀ z, z = kdF c → P (some (aI z)) γ μ := fun z hz => hP _ _ _ ⟨by rw [hz], rfl, rfl⟩
  unfold kdF at fin
  have t28 : ¬ (97 ≤ c ∧ c ≤ 122) → ¬ (48 ≤ c ∧ c ≤ 57) → V X G (Qm X G 0 P) 0 28 [aI c] [] γ μ := fun h1 h2 => by
    rw [if_neg h1, if_neg h2] at fin
    refine B_X3_kindOf_28 hC ⟨fun e => ⟨Nat.le_refl _, fin _ (by rw [if_pos (Or.inl e)])⟩, fun e => ⟨fun e2 => ⟨fun e3 => ⟨Nat.le_refl _, fin _ (by rw [if_neg (by omega), if_neg e3])⟩, fun e3 => ⟨Nat.le_refl _, fin _ (by rw [if_neg (by omega), if_pos e3])⟩⟩, fun e2 => ⟨Nat.le_refl _, fin _ (by rw [if_pos (Or.inr e2)])⟩⟩⟩
  have dig : ¬ (97 ≤ c ∧ c ≤ 122) → (48 ≤ c ∧ c ≤ 57) → P (some (aI 2)) γ μ := fun h1 h2 => fin _ (by rw [if_neg h1, if_pos h2])
  refine ⟨fun h => ⟨fun h2 => t28 (by omega) (by omega), fun h2 => ⟨fun h3 => t28 (by omega) (by omega), fun h3 => ⟨Nat.le_refl _, dig (by omega) (by omega)⟩⟩⟩, fun h => ⟨fun h1 => ⟨fun h2 => t28 (by omega) (by omega), fun h2 => ⟨fun h3 => t28 (by omega) (by omega), fun h3 => ⟨Nat.le_refl _, dig (by omega) (by omega)⟩⟩⟩, fun h1 => ⟨Nat.le_refl _, fin _ (by rw [if_pos (by omega)])⟩⟩⟩
theorem c_findKinds (hl : l.stackTraces = false) (d : Nat) (hd : 0 < d) {r N : Int} {τ : Int → Int} (hr : ReadAt G γ r) (e5 : μ r 5 = N) (hT : txt τ N) (hx : ∀ j, 0 ≤ j → j < N → μ (r + 1) j = sg8 (τ j)) : Cn l G yX3_findKinds cX3_findKinds 2 none d 0 [aR r] γ μ (PV γ (row μ (r + 2) N (fun j => kdF (τ j)))) := by
  refine Cn.ofP hl (plainFor_of_name (by decide)) (noL1 nlR) rfl (fun P hP o1 o3 X hX hC => B_X3_findKinds_0 hC hr.o ?_)
  have hN := hT.1
  have loop := rem_ind (n := N) (P := fun i => V X G (Qm X G 0 P) 0 2 [aR r, aI i] [] γ (row μ (r + 2) i (fun j => kdF (τ j)))) (fun i h0 h1 ih => ?_)
  · have h9 := loop 0 (by omega) (by omega)
    rw [row_0] at h9
    exact h9
  · refine B_X3_findKinds_2 hC hr.o ?_
    rw [row_off (by omega), e5, hr.g0, hr.g1, row_off (show r + 1 ≠ r + 2 by omega)]
    rcases Int.lt_or_le i N with hi | hi
    · have hih := ih hi
      rw [← row_s (f := fun j => kdF (τ j)) h0] at hih
      rw [hx i h0 hi]
      refine ⟨fun z => absurd z (by omega), fun _ => ⟨ixO hr.s1 (by omega), 0, 0, _, hd, Nat.le_refl _, hX ▸ c_kindOf hl 0, PI.use ?_⟩⟩
      rw [kdF_sg (hT.2 i h0 hi)]
      exact B_X3_findKinds_24 hC hr.o ⟨ixO hr.s2 (by omega), by constructor <;> omega, hih⟩
    · obtain rfl : i = N := by omega
      exact ⟨fun _ => ⟨Nat.le_refl _, hP _ _ _ ⟨rfl, rfl, rfl⟩⟩, fun z => absurd hi z⟩
theorem c_advance (hl : l.stackTraces = false) (d : Nat) {r N p : Int} {τ : Int → Int} (hr : ReadAt G γ r) (e5 : μ r 5 = N) (e7 : μ r 7 = p) (hp : 0 ≤ p ∧ p ≤ N) (hT : txt τ N) (hx : TxC μ r τ N) : Cn l G yX3_advance cX3_advance 1 none d 0 [aR r] γ μ (fun rr γ' μ' => rr = none ∧ γ' = γ ∧ TkC μ' r τ N p ∧ ∀ y j, (y = r → j < 6 ∨ 8 < j) → μ' y j = μ y j) := by
  refine Cn.ofP hl (plainFor_of_name (by decide)) (noL1 nlR) rfl (fun P hP o1 o3 X hX hC => B_X3_advance_0 hC hr.o ?_)
  have hN := hT.1
  have hb := tok_b (τ := τ) hp
  generalize hs : tS τ N p = s at *
  have fin : ∀ m : Mu, (∀ y j, (y = r → j < 6 ∨ 8 < j) → m y j = μ y j) → m r 6 = s → m r 7 = tE τ N p → m r 8 = tK τ N p → P none γ m := fun m f1 h1 h2 h3 => hP _ _ _ ⟨rfl, rfl, ⟨by rw [f1 _ _ (by omega)]; exact e5, by rw [hs]; exact h1, h2, h3⟩, f1⟩
  have kd : ∀ m : Mu, (∀ y j, (y = r → j < 6 ∨ 8 < j) → m y j = μ y j) → ∀ j, 0 ≤ j → j < N → m (r + 2) j = kdF (τ j) := fun m f1 j z1 z2 => by rw [f1 _ _ (by omega)]; exact (hx j z1 z2).2
  have run : ∀ m : Mu, ∀ kk, (kk = 1 ∨ kk = 2) → tK τ N p = kk → (∀ y j, (y = r → j < 6 ∨ 8 < j) → m y j = μ y j) → m r 6 = s → m r 8 = kk → m r 7 = s + 1 → V X G (Qm X G 0 P) 0 117 [aR r] [] γ m := fun m kk h12 hk f1 m6 m8 m7 => by
    obtain ⟨r1, r2, r3⟩ := tk_run hp hk h12
    rw [hs] at r1 r2 r3
    have st : scn (kdN τ kk) N (s + 1) = tE τ N p := by
      rw [r2]
      refine (scn_1 r1 (kdN_0.mpr ?_)).symm
      have : tK τ N p = kdF (τ s) := by unfold tK; rw [hs, if_pos r1]
      rw [← this]; exact hk
    have loop := rem_ind (n := N) (P := fun i => scn (kdN τ kk) N i = tE τ N p → ∀ m : Mu, (∀ y j, (y = r → j < 6 ∨ 8 < j) → m y j = μ y j) → m r 6 = s → m r 8 = kk → m r 7 = i → V X G (Qm X G 0 P) 0 117 [aR r] [] γ m) (fun i i0 i1 ih hsc m f1 m6 m8 m7 => ?_)
    · exact loop (s + 1) (by omega) (by omega) st m f1 m6 m8 m7
    · refine B_X3_advance_117 hC hr.o ?_
      rw [m7, m8, f1 r 5 (by omega), e5, hr.g1]
      rcases Int.lt_or_le i N with hi | hi
      · rw [kd m f1 i i0 hi]
        refine ⟨fun z => absurd z (by omega), fun _ => ⟨ixO hr.s2 (by omega), fun e => ⟨Nat.le_refl _, fin m f1 m6 ?_ (by rw [m8, hk])⟩, fun e => ⟨by constructor <;> omega, ih hi (by rw [← hsc]; exact (scn_1 (f := kdN τ kk) hi (kdN_0.mpr e)).symm) _ (fun y j h => by rw [up_ne (by omega)]; exact f1 y j h) (by rw [up_ne (by omega)]; exact m6) (by rw [up_ne (by omega)]; exact m8) up_same⟩⟩⟩
        rw [m7, ← hsc]
        exact (scn_2 (f := kdN τ kk) hi (fun w => e (kdN_0.mp w)) i0).symm
      · refine ⟨fun _ => ⟨Nat.le_refl _, fin m f1 m6 ?_ (by rw [m8, hk])⟩, fun z => absurd hi z⟩
        rw [m7, ← hsc, scn_ge hi]
        omega
  have s45 : ∀ m : Mu, (∀ y j, (y = r → j < 6 ∨ 8 < j) → m y j = μ y j) → m r 6 = s → V X G (Qm X G 0 P) 0 45 [aR r] [] γ m := fun m f1 m6 => by
    refine B_X3_advance_45 hC hr.o ?_
    rw [m6, f1 r 5 (by omega), e5, hr.g1]
    refine ⟨fun hi => ?_, fun hi => ⟨ixO hr.s2 (by omega), ?_⟩⟩
    · have eK : tK τ N p = 0 := by unfold tK; rw [hs, if_neg (by omega)]
      have eE : tE τ N p = N := by unfold tE; rw [hs, if_neg (by omega)]
      refine B_X3_advance_70 hC hr.o ?_
      rw [up_ne (by omega), up_ne (by omega), up_same, m6, f1 r 5 (by omega), e5]
      refine ⟨hr.o, fun _ => ⟨fun z => absurd z (by decide), fun _ => ⟨fun _ => ⟨Nat.le_refl _, fin _ (fun y j h => by rw [up_ne (by omega), up_ne (by omega)]; exact f1 y j h) (by rw [up_ne (by omega), up_ne (by omega)]; exact m6) (by rw [up_same, eE]) (by rw [up_ne (by omega), up_same, eK])⟩, fun z => absurd z (by decide)⟩⟩, fun z => absurd hi z⟩
    · rw [kd m f1 s (by omega) (by omega)]
      have hsN : s < N := by omega
      have eK : tK τ N p = kdF (τ s) := by unfold tK; rw [hs, if_pos hsN]
      refine B_X3_advance_70 hC hr.o ?_
      rw [up_ne (by omega), up_ne (by omega), up_same, m6, f1 r 5 (by omega), e5]
      have ff : ∀ y j, (y = r → j < 6 ∨ 8 < j) → up (up m r 8 (kdF (τ s))) r 7 (s + 1) y j = μ y j := fun y j h => by rw [up_ne (by omega), up_ne (by omega)]; exact f1 y j h
      have f6 : up (up m r 8 (kdF (τ s))) r 7 (s + 1) r 6 = s := by rw [up_ne (by omega), up_ne (by omega)]; exact m6
      have f8 : up (up m r 8 (kdF (τ s))) r 7 (s + 1) r 8 = kdF (τ s) := by rw [up_ne (by omega), up_same]
      refine ⟨hr.o, fun z => absurd z hi, fun _ => ⟨by constructor <;> omega, fun e => run _ 1 (Or.inl rfl) (by rw [eK]; exact e) ff f6 (by rw [f8]; exact e) up_same, fun e => ⟨fun e2 => ⟨Nat.le_refl _, fin _ ff f6 ?_ (by rw [f8, eK])⟩, fun e2 => run _ 2 (Or.inr rfl) (by rw [eK]; exact e2) ff f6 (by rw [f8]; exact e2) up_same⟩⟩⟩
      rw [up_same]
      unfold tE
      rw [hs, if_pos hsN, eK, if_neg (by omega)]
  have loop := rem_ind (n := N) (P := fun i => p ≤ i → tS τ N i = s → ∀ m : Mu, (∀ y j, (y = r → j < 6 ∨ 8 < j) → m y j = μ y j) → m r 6 = i → V X G (Qm X G 0 P) 0 8 [aR r] [] γ m) (fun i i0 i1 ih hpi hsi m f1 m6 => ?_)
  · rw [e7]
    exact loop p hp.1 hp.2 (Int.le_refl _) hs _ (fun y j h => by rw [up_ne (by omega)]) up_same
  · refine B_X3_advance_8 hC hr.o ?_
    rw [m6, f1 r 5 (by omega), e5, hr.g1]
    rcases Int.lt_or_le i N with hi | hi
    · rw [kd m f1 i i0 hi]
      refine ⟨fun z => absurd z (by omega), fun _ => ⟨ixO hr.s2 (by omega), fun e => s45 m f1 ?_, fun e => ⟨by constructor <;> omega, ih hi (by omega) (by rw [← hsi]; exact (scn_1 (f := fun j => if kdF (τ j) = 5 then 0 else 1) hi (if_pos e)).symm) _ (fun y j h => by rw [up_ne (by omega)]; exact f1 y j h) up_same⟩⟩⟩
      rw [m6, ← hsi]
      exact (scn_2 (f := fun j => if kdF (τ j) = 5 then 0 else 1) hi (by rw [if_neg e]; decide) i0).symm
    · refine ⟨fun _ => s45 m f1 ?_, fun z => absurd hi z⟩
      rw [m6, ← hsi]
      obtain rfl : i = N := by omega
      exact (scn_ge (Int.le_refl _)).symm
theorem c_failAt (hl : l.stackTraces = false) (d : Nat) {r k a : Int} (hr : ReadAt G γ r) : Cn l G yX3_failAt cX3_failAt 3 (some .boolean) d 0 [aR r, aI k, aI a] γ μ (PI 0 γ (up (up μ r 4 k) r 3 a)) :=
  Cn.ofP hl (plainFor_of_name (by decide)) (noLc nlR (noLc nlI (noL1 nlI))) rfl (fun P hP o1 o3 X hX hC => B_X3_failAt_0 hC hr.o ⟨Nat.le_refl _, hP _ _ _ ⟨rfl, rfl, rfl⟩⟩)
theorem c_isWord (hl : l.stackTraces = false) (d : Nat) (hd : 3 < d) {r N p : Int} {i : Nat} {τ : Int → Int} (hr : ReadAt G γ r) (hK : TkC μ r τ N p) (hp : 0 ≤ p ∧ p ≤ N) (hT : txt τ N) (hx : TxC μ r τ N) (hi : 8 ≤ i ∧ i < 24) : Cn l G yX3_isWord cX3_isWord 3 (some .boolean) d 0 [aR r, aS (i : Int)] γ μ (PI (if tN τ N p = wix i then 1 else 0) γ μ) := by
  refine Cn.ofP hl (plainFor_of_name (by decide)) (noLc nlR (noL1 nlS)) rfl (fun P hP o1 o3 X hX hC => ?_)
  obtain ⟨k5, k6, k7, k8⟩ := hK
  have hN := hT.1
  have hb := tok_b (τ := τ) hp
  have hw := tN_word (τ := τ) hp hi
  have hlb := sxLen_b hi.2
  have yes : tN τ N p = wix i → P (some (aI 1)) γ μ := fun h => hP _ _ _ ⟨by rw [if_pos h], rfl, rfl⟩
  have no : ¬ tN τ N p = wix i → P (some (aI 0)) γ μ := fun h => hP _ _ _ ⟨by rw [if_neg h], rfl, rfl⟩
  have gi : (0 : Int) ≤ i := by omega
  have e24 : ∀ lv, ¬ tN τ N p = wix i → V X G (Qm X G 0 P) 0 24 lv [] γ μ := fun lv h => V_iconst hC dX3_isWord_24 (by decide) (V_zreturn hC dX3_isWord_25 (Nat.le_refl _) (by decide) (no h))
  refine V_aload_n hC dX3_isWord_0 rfl rfl (V_getI hC 8 (ci := 3) (N := 10) rfl itX3 m_141 (by decide) rfl (by decide) dX3_isWord_1 hr.o (V_iconst hC dX3_isWord_4 (by decide) (V_icmp_ne (tgt := 24) hC dX3_isWord_5 (by decide) (fun h => ?_) (fun h => ?_))))
  · have h' : ¬ μ r 8 = 1 := h
    rw [k8] at h'
    exact e24 _ (fun w => h' (hw.mp w).1)
  have h' : μ r 8 = 1 := h
  rw [k8] at h'
  refine V_aload_n hC dX3_isWord_8 rfl rfl (V_getI hC 7 (ci := 3) (N := 10) rfl itX3 m_140 (by decide) rfl (by decide) dX3_isWord_9 hr.o (V_aload_n hC dX3_isWord_12 rfl rfl (V_getI hC 6 (ci := 3) (N := 10) rfl itX3 m_139 (by decide) rfl (by decide) dX3_isWord_13 hr.o (V_isub hC dX3_isWord_16 (show iR (μ r 7 - μ r 6) by rw [k6, k7]; constructor <;> omega) (V_aload_n_S hC gi dX3_isWord_17 rfl rfl ?_)))))
  refine V_callVS hC (as := []) (st := [aI (μ r 7 - μ r 6)]) (n := 0) hi.2 gjD ⟨rfl, by decide, by decide, by decide +kernel⟩ dX3_isWord_18 (by decide) rfl (Nat.le_of_ble_eq_true rfl) rfl (show 1 < d by omega) (Nat.le_refl _) (hX ▸ c_strLen hl 1 (by omega) hi.2) (PI.use ?_)
  have eL : μ r 7 - μ r 6 = tL τ N p := by rw [k6, k7]; rfl
  rw [eL]
  refine V_icmp_eq (tgt := 26) hC dX3_isWord_21 (by decide) (fun h2 => ?_) (fun h2 => e24 _ (fun w => h2 (hw.mp w).2.1))
  have loop := rem_ind (n := ((sxLen.getD i 0 : Nat) : Int)) (P := fun c => (∀ j : Int, 0 ≤ j → j < c → τ (tS τ N p + j) = strC i j.toNat) → V X G (Qm X G 0 P) 0 28 [aR r, aS (i : Int), aI c] [] γ μ) (fun c c0 c1 ih hm => ?_)
  · exact V_iconst hC dX3_isWord_26 (by decide) (V_istore_n hC dX3_isWord_27 rfl (Nat.le_of_ble_eq_true rfl) rfl rfl (loop 0 (by omega) (by omega) (fun j z1 z2 => by omega)))
  · refine V_iload_n hC dX3_isWord_28 rfl rfl (V_aload_n_S hC gi dX3_isWord_29 rfl rfl ?_)
    refine V_callVS hC (as := []) (st := [aI c]) (n := 0) hi.2 gjD ⟨rfl, by decide, by decide, by decide +kernel⟩ dX3_isWord_30 (by decide) rfl (Nat.le_of_ble_eq_true rfl) rfl (show 1 < d by omega) (Nat.le_refl _) (hX ▸ c_strLen hl 1 (by omega) hi.2) (PI.use ?_)
    refine V_icmp_ge (tgt := 63) hC dX3_isWord_33 (by decide) (fun h3 => ?_) (fun h3 => ?_)
    · exact V_iconst hC dX3_isWord_63 (by decide) (V_zreturn hC dX3_isWord_64 (Nat.le_refl _) (by decide) (yes (hw.mpr ⟨h', h2, fun j z1 z2 => hm j z1 (by omega)⟩)))
    · have hcN : tS τ N p + c < N := by
        have : tL τ N p = tE τ N p - tS τ N p := rfl
        omega
      have hby := hT.2 (tS τ N p + c) (by omega) hcN
      have hsc := strC_b hi.2 (j := c.toNat) (by omega)
      refine V_aload_n hC dX3_isWord_36 rfl rfl (V_getR hC 0 (ci := 3) (N := 10) rfl itX3 m_131 (by decide) rfl (by decide) dX3_isWord_37 hr.o (V_aload_n hC dX3_isWord_40 rfl rfl (V_getI hC 6 (ci := 3) (N := 10) rfl itX3 m_139 (by decide) rfl (by decide) dX3_isWord_41 hr.o (V_iload_n hC dX3_isWord_44 rfl rfl (V_iadd hC dX3_isWord_45 (show iR (μ r 6 + c) by rw [k6]; constructor <;> omega) ?_)))))
      show V X G (Qm X G 0 P) (0 + 0) 46 [aR r, aS (i : Int), aI c] [aI (μ r 6 + c), aR (γ r 0)] γ μ
      rw [k6, hr.g0]
      refine U_bald hC dX3_isWord_46 (ixO hr.s1 (by omega)) (V_aload_n_S hC gi dX3_isWord_47 rfl rfl (V_iload_n hC dX3_isWord_48 rfl rfl ?_))
      rw [(hx (tS τ N p + c) (by omega) hcN).1]
      refine V_callVS hC (as := [aI c]) (st := [aI (sg8 (τ (tS τ N p + c)))]) (n := 1) hi.2 gjE ⟨rfl, by decide, by decide, by decide +kernel⟩ dX3_isWord_49 (by decide) rfl (Nat.le_of_ble_eq_true rfl) rfl hd (Nat.le_refl _) (hX ▸ c_chrA hl 3 (by omega) hi.2 ⟨c0, by omega⟩) (PI.use ?_)
      refine V_icmp_eq (tgt := 57) hC dX3_isWord_52 (by decide) (fun h4 => ?_) (fun h4 => ?_)
      · refine V_iinc hC dX3_isWord_57 rfl rfl (by constructor <;> omega) rfl (V_goto (tgt := 28) hC dX3_isWord_60 (by decide) ?_)
        refine ih (by omega) (fun j z1 z2 => ?_)
        by_cases e : j = c
        · rw [e]; exact (sg8_eq hby hsc).mp h4
        · exact hm j z1 (by omega)
      · refine V_iconst hC dX3_isWord_55 (by decide) (V_zreturn hC dX3_isWord_56 (Nat.le_refl _) (by decide) (no (fun w => h4 ?_)))
        exact (sg8_eq hby hsc).mpr ((hw.mp w).2.2 c c0 (by omega))
end CRead
