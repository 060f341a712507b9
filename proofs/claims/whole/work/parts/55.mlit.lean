/-! the reference: numberOf, laysOut, lights, spreads, lit -/
def nbF (q : Int) (f : Int → Int) (n k : Int) : Int := foldI (fun v k => v * q + f (n - 1 - k)) 0 k
theorem nbF_b {q n : Int} {f : Int → Int} (hq : 0 < q) (hf : inQ n q f) : ∀ k, 0 ≤ k → k ≤ n → 0 ≤ nbF q f n k ∧ nbF q f n k < q ^ k.toNat := by
  refine foldI_ind (P := fun k x => 0 ≤ x ∧ x < q ^ k.toNat) ⟨by decide, by show (0 : Int) < q ^ 0; rw [Int.pow_zero]; decide⟩ (fun i x h0 h1 hx => ?_)
  have h2 := hf (n - 1 - i) (by omega) (by omega)
  rw [show (i + 1).toNat = i.toNat + 1 by omega, Int.pow_succ]
  have h4 : (x + 1) * q ≤ q ^ i.toNat * q := Int.mul_le_mul_of_nonneg_right (by omega) (by omega)
  rw [Int.add_mul, Int.one_mul] at h4
  have h5 : 0 ≤ x * q := Int.mul_nonneg hx.1 (by omega)
  omega
theorem nbF_vl {q : Int} {f : Int → Int} {n : Nat} : ∀ k, 0 ≤ k → k ≤ (n : Int) → vlN q f (n - k.toNat) + q ^ (n - k.toNat) * nbF q f n k = vlN q f n := by
  refine foldI_ind (P := fun k x => vlN q f (n - k.toNat) + q ^ (n - k.toNat) * x = vlN q f n) ?_ (fun i x h0 h1 hx => ?_)
  · show vlN q f (n - 0) + _ * 0 = _
    rw [Int.mul_zero, Int.add_zero]
    rfl
  · obtain ⟨c, hc⟩ : ∃ c : Nat, n - i.toNat = c + 1 := ⟨n - i.toNat - 1, by omega⟩
    have h2 : n - (i + 1).toNat = c := by omega
    have h3 : ((n : Int) - 1 - i) = (c : Int) := by omega
    rw [hc] at hx
    rw [h2, h3, ← hx]
    show _ = vlN q f c + f c * q ^ c + _
    rw [Int.mul_add, Int.pow_succ, Int.mul_comm x q, ← Int.mul_assoc, Int.mul_comm (q ^ c) (f c)]
    omega
theorem nbF_eq {q : Int} {f : Int → Int} {n : Int} (hn : 0 ≤ n) : nbF q f n n = vlN q f n.toNat := by
  have := nbF_vl (q := q) (f := f) (n := n.toNat) n (by omega) (by omega)
  rw [show n.toNat - n.toNat = 0 by omega, show ((n.toNat : Nat) : Int) = n by omega, Int.pow_zero, Int.one_mul] at this
  rw [← this]
  show _ = 0 + _
  omega
def dgF (q v : Int) : Int → Int := fun l => rst q v l.toNat % q
/-- the state behind a press of x that is lit (bk 0), or before it (bk 1); -1: there is none -/
def litG (σ : Mu) (v x bk : Int) : Int → Int := fun j => (dgF (σ 0 1) v j + (if bk = 0 then sA σ x j else σ 0 1 - sA σ x j)) % σ 0 1
def litN (σ : Mu) (bk v x : Int) : Int := if σ 2 x ≠ 0 ∨ (bk = 0 ∧ dgF (σ 0 1) v x = 0) then -1 else if bk ≠ 0 ∧ litG σ v x bk x = 0 then -1 else vlN (σ 0 1) (litG σ v x bk) (σ 0 0).toNat
theorem litG_in {σ : Mu} {v x bk n : Int} (hW : Wf σ) : inQ n (σ 0 1) (litG σ v x bk) := by
  have hq := hW.2.1.b
  exact fun j _ _ => ⟨Int.emod_nonneg _ (by omega), Int.emod_lt_of_pos _ (by omega)⟩
theorem litN_ok {σ : Mu} (hW : Wf σ) (bk : Int) : nxOk (σ 0 1 ^ (σ 0 0).toNat).toNat (σ 0 0).toNat (litN σ bk) := by
  intro v _ _ x _
  have hq := hW.2.1.b
  have hp := pw_pos (q := σ 0 1) (by omega) (σ 0 0).toNat
  unfold litN
  split
  · exact Or.inl rfl
  · split
    · exact Or.inl rfl
    · have := vlN_b (q := σ 0 1) (d := litG σ v x bk) (by omega) (σ 0 0).toNat (fun i z1 z2 => litG_in (n := (σ 0 0).toNat) hW i z1 z2)
      exact Or.inr (by omega)
def lnN (σ : Mu) : Nat := (σ 0 1 ^ (σ 0 0).toNat).toNat
/-- the walk of lit states from a row (bk 0), or to it (bk 1) -/
def litW (σ : Mu) (bk s : Int) : BF := bRun (litN σ bk) (σ 0 0).toNat s (lnN σ)
def nmb (σ : Mu) (f : Int → Int) : Int := vlN (σ 0 1) f (σ 0 0).toNat
def litP (σ : Mu) : Int → Int := fun b => if litN σ 0 (nmb σ (σ 3)) b = -1 then 0 else if (litW σ 1 (nmb σ (σ 4))).way (litN σ 0 (nmb σ (σ 3)) b) = (litW σ 1 (nmb σ (σ 4))).way (nmb σ (σ 3)) - 1 then 1 else 0
def litF (σ : Mu) (x : Int) : Int :=
  if 20000 < σ 0 1 ^ (σ 0 0).toNat then -2 else if x = 2 then ((litW σ 0 (nmb σ (σ 3))).last : Int) else
  if x = 0 then (litW σ 1 (nmb σ (σ 4))).way (nmb σ (σ 3)) else if (litW σ 1 (nmb σ (σ 4))).way (nmb σ (σ 3)) ≤ 0 then -1 else fs (litP σ) (σ 0 0) 0
section MLit
variable {l : Launch} {G : Gx} {γ μ σ : Mu}
theorem m_numberOf (hl : l.stackTraces = false) (d : Nat) {b n q a : Int} {f : Int → Int} (hS : ModS G b) (hG : ModG γ b) (en : μ b 1 = n) (eq : μ b 2 = q) (hn : 0 ≤ n ∧ n ≤ 36) (hq : 2 ≤ q ∧ q ≤ 5) (hN : q ^ n.toNat ≤ 20000) (ha : shO G a 11 36) (hf : ∀ j, 0 ≤ j → j < n → μ a j = f j) (hfq : inQ n q f) : Cn l G yX9_numberOf cX9_numberOf 4 (some .int) d 0 [aR b, aR a] γ μ (PI (vlN q f n.toNat) γ μ) := by
  refine Cn.ofP hl (plainFor_of_name (by decide)) (noLc nlR (noL1 nlR)) rfl (fun P hP o1 o3 X hX hC => B_X9_numberOf_0 hC hS.o ?_)
  have loop := rem_ind (n := n) (P := fun k => V X G (Qm X G 0 P) 0 9 [aR b, aR a, aI (nbF q f n k), aI (n - 1 - k)] [] γ μ) (fun k k0 k1 ih => ?_)
  · have h9 := loop 0 (by omega) (by omega)
    rw [Int.sub_zero] at h9
    rw [en]
    exact ⟨by constructor <;> omega, h9⟩
  · have hb := nbF_b (show 0 < q by omega) hfq k k0 k1
    refine B_X9_numberOf_9 hC hS.o ?_
    rcases Int.lt_or_le k n with hk | hk
    · have hm := pw_mono (q := q) (by omega) (show k.toNat ≤ n.toNat by omega)
      have hfk := hfq (n - 1 - k) (by omega) (by omega)
      have hih := ih hk
      have es : nbF q f n (k + 1) = nbF q f n k * q + f (n - 1 - k) := foldI_s k0
      rw [es, show n - 1 - (k + 1) = n - 1 - k + -1 by omega] at hih
      have b3 := mulR (a := nbF q f n k) (b := q) (m := 20000) (by omega) (by omega)
      simp (disch := first | assumption | omega) only [row_off, row_in, row_out, up_same, up_ne, cpy_off, rwo_off, rwo_at, rwo_out, mg6, mg7, mg8, mg9, mg10, mg12, mg30, mg31, mg32, mg33, mg35, mg36, mg37, mg38, mg39, mg43, mg44, mg45, mg46, mg47, mg48, mg49, mg50, mg53, mg54, mg55, mg56, mg57, mg58, mg59, mg60, mg65, mg66, mg67, mg68, mg69, mg70, mg71, mg72, eq, hf (n - 1 - k) (by omega) (by omega)]
      (repeat' (first | (with_reducible exact ixO (by assumption) (by omega)) | with_reducible apply And.intro | with_reducible intro)) <;> (try first | omega | (with_reducible apply Nat.le_refl) | rfl | exact absurd trivial (by assumption))
      all_goals exact hih
    · obtain rfl : k = n := by omega
      (repeat' (first | (with_reducible exact ixO (by assumption) (by omega)) | with_reducible apply And.intro | with_reducible intro)) <;> (try first | omega | (with_reducible apply Nat.le_refl) | rfl | exact absurd trivial (by assumption))
      exact hP _ _ _ ⟨by rw [nbF_eq hn.1], rfl, rfl⟩
theorem m_laysOut (hl : l.stackTraces = false) (d : Nat) {b n q a v : Int} (hS : ModS G b) (hG : ModG γ b) (en : μ b 1 = n) (eq : μ b 2 = q) (hn : 0 ≤ n ∧ n ≤ 36) (hq : 2 ≤ q ∧ q ≤ 5) (hv : 0 ≤ v) (ha : shO G a 11 36) (hab : a ≠ b) : Cn l G yX9_laysOut cX9_laysOut 5 none d 0 [aR b, aI v, aR a] γ μ (PV γ (row μ a n (dgF q v))) := by
  refine Cn.ofP hl (plainFor_of_name (by decide)) (noLc nlR (noLc nlI (noL1 nlR))) rfl (fun P hP o1 o3 X hX hC => B_X9_laysOut_0 hC hS.o ?_)
  have loop := rem_ind (n := n) (P := fun k => V X G (Qm X G 0 P) 0 5 [aR b, aD, aR a, aI (rst q v k.toNat), aI k] [] γ (row μ a k (dgF q v))) (fun k k0 k1 ih => ?_)
  · have h9 := loop 0 (by omega) (by omega)
    rw [row_0] at h9
    exact h9
  · have hb := rst_b hq.1 hv k.toNat
    refine B_X9_laysOut_5 hC hS.o ?_
    rcases Int.lt_or_le k n with hk | hk
    · have hih := ih hk
      have e1 : (rst q v k.toNat).tmod q = dgF q v k := Int.tmod_eq_emod_of_nonneg hb.1
      have e2 : (rst q v k.toNat).tdiv q = rst q v (k + 1).toNat := by
        rw [Int.tdiv_eq_ediv_of_nonneg hb.1, show (k + 1).toNat = k.toNat + 1 by omega]
        rfl
      rw [← row_s k0] at hih
      simp (disch := first | assumption | omega) only [row_off, row_in, row_out, up_same, up_ne, cpy_off, rwo_off, rwo_at, rwo_out, mg6, mg7, mg8, mg9, mg10, mg12, mg30, mg31, mg32, mg33, mg35, mg36, mg37, mg38, mg39, mg43, mg44, mg45, mg46, mg47, mg48, mg49, mg50, mg53, mg54, mg55, mg56, mg57, mg58, mg59, mg60, mg65, mg66, mg67, mg68, mg69, mg70, mg71, mg72, en, eq, e1, e2]
      (repeat' (first | (with_reducible exact ixO (by assumption) (by omega)) | with_reducible apply And.intro | with_reducible intro)) <;> (try first | omega | (with_reducible apply Nat.le_refl) | rfl | exact absurd trivial (by assumption))
      all_goals exact hih
    · obtain rfl : k = n := by omega
      simp (disch := first | assumption | omega) only [row_off, row_in, row_out, up_same, up_ne, cpy_off, rwo_off, rwo_at, rwo_out, mg6, mg7, mg8, mg9, mg10, mg12, mg30, mg31, mg32, mg33, mg35, mg36, mg37, mg38, mg39, mg43, mg44, mg45, mg46, mg47, mg48, mg49, mg50, mg53, mg54, mg55, mg56, mg57, mg58, mg59, mg60, mg65, mg66, mg67, mg68, mg69, mg70, mg71, mg72, en]
      (repeat' (first | (with_reducible exact ixO (by assumption) (by omega)) | with_reducible apply And.intro | with_reducible intro)) <;> (try first | omega | (with_reducible apply Nat.le_refl) | rfl | exact absurd trivial (by assumption))
      exact hP _ _ _ ⟨rfl, rfl, rfl⟩
theorem m_lights (hl : l.stackTraces = false) (d : Nat) (hd : 0 < d) {b x v bk : Int} (hS : ModS G b) (hG : ModG γ b) (hR : RepR μ b σ) (hW : Wf σ) (hx : isL σ x) (hv : 0 ≤ v) (hN : σ 0 1 ^ (σ 0 0).toNat ≤ 20000) : Cn l G yX9_lights cX9_lights 5 (some .int) d 0 [aR b, aI v, aI x, aI bk] γ μ (fun r γ' μ' => r = some (aI (litN σ bk v x)) ∧ γ' = γ ∧ ∀ y j, y ≠ b + 33 → μ' y j = μ y j) := by
  refine Cn.ofP hl (plainFor_of_name (by decide)) (noLc nlR (noLc nlI (noLc nlI (noL1 nlI)))) rfl (fun P hP o1 o3 X hX hC => B_X9_lights_0 hC hS.o ?_)
  have hn := hW.1
  have hq := hW.2.1.b
  have s1 := ms1 hS; have s2 := ms2 hS; have s33 := ms33 hS
  rw [mg66 hG]
  refine ⟨0, 0, _, hd, Nat.le_refl _, hX ▸ m_laysOut hl 0 hS hG hR.1 hR.2.1 hn hq hv s33 (by omega), PV.use ?_⟩
  generalize hm : row μ (b + 33) (σ 0 0) (dgF (σ 0 1) v) = m
  have fm : ∀ y j, y ≠ b + 33 → m y j = μ y j := fun y j h => by rw [← hm, row_off h]
  have m33 : ∀ j, 0 ≤ j → j < σ 0 0 → m (b + 33) j = dgF (σ 0 1) v j := fun j z1 z2 => by rw [← hm, row_in ⟨z1, z2⟩]
  have mR : RepR m b σ := hR.fr hW (fun y j h => fm y j (by unfold keepR at h; omega))
  obtain ⟨r1, r2, r3, r4, r5, r6, r7, r8, r9, r10, ra1, ra2, -⟩ := id mR
  have fin : ∀ z m2, z = litN σ bk v x → (∀ y j, y ≠ b + 33 → m2 y j = μ y j) → P (some (aI z)) γ m2 := fun z m2 hz h2 => hP _ _ _ ⟨by rw [hz], rfl, h2⟩
  unfold litN at fin
  have loop := rem_ind (n := σ 0 0) (P := fun i => ¬ (σ 2 x ≠ 0 ∨ (bk = 0 ∧ dgF (σ 0 1) v x = 0)) → V X G (Qm X G 0 P) 0 36 [aR b, aD, aI x, aI bk, aI i] [] γ (row m (b + 33) i (litG σ v x bk))) (fun i h0 h1 ih hne => ?_)
  · have st : ¬ (σ 2 x ≠ 0 ∨ (bk = 0 ∧ dgF (σ 0 1) v x = 0)) → V X G (Qm X G 0 P) 0 36 [aR b, aD, aI x, aI bk, aI 0] [] γ m := fun h => by
      have h9 := loop 0 (by omega) (by omega) h
      rw [row_0] at h9
      exact h9
    refine B_X9_lights_9 hC hS.o ?_
    simp (disch := first | assumption | omega) only [row_off, row_in, row_out, up_same, up_ne, cpy_off, rwo_off, rwo_at, rwo_out, mg6, mg7, mg8, mg9, mg10, mg12, mg30, mg31, mg32, mg33, mg35, mg36, mg37, mg38, mg39, mg43, mg44, mg45, mg46, mg47, mg48, mg49, mg50, mg53, mg54, mg55, mg56, mg57, mg58, mg59, mg60, mg65, mg66, mg67, mg68, mg69, mg70, mg71, mg72, ra2 x hx.1 (by omega), m33 x hx.1 hx.2]
    (repeat' (first | (with_reducible exact ixO (by assumption) (by omega)) | with_reducible apply And.intro | with_reducible intro)) <;> (try first | omega | (with_reducible apply Nat.le_refl) | rfl | exact absurd trivial (by assumption))
    · rename_i h
      exact fin _ m (by rw [if_pos (Or.inl h)]) fm
    · rename_i h h2
      exact st (by rintro (w | w); exact w h; exact h2 w.1)
    · rename_i h h2 h3
      exact st (by rintro (w | w); exact w h; exact h3 w.2)
    · rename_i h h2 h3
      exact fin _ m (by rw [if_pos (Or.inr ⟨h2, h3⟩)]) fm
  · simp only [if_neg hne] at fin
    refine B_X9_lights_36 hC hS.o ?_
    rcases Int.lt_or_le i (σ 0 0) with hi | hi
    · have hih := ih hi hne
      rw [← row_s h0] at hih
      have a1 := hW.am x hx.1 hx.2 i h0 hi
      have a2 : 0 ≤ dgF (σ 0 1) v i ∧ dgF (σ 0 1) v i < σ 0 1 := ⟨Int.emod_nonneg _ (by omega), Int.emod_lt_of_pos _ (by omega)⟩
      have e1 : m (b + 1) (36 * x + i) = sA σ x i := ra1 _ (by omega) (by omega)
      unfold litG at hih
      unfold litG
      simp (disch := first | assumption | omega) only [row_off, row_in, row_out, up_same, up_ne, cpy_off, rwo_off, rwo_at, rwo_out, mg6, mg7, mg8, mg9, mg10, mg12, mg30, mg31, mg32, mg33, mg35, mg36, mg37, mg38, mg39, mg43, mg44, mg45, mg46, mg47, mg48, mg49, mg50, mg53, mg54, mg55, mg56, mg57, mg58, mg59, mg60, mg65, mg66, mg67, mg68, mg69, mg70, mg71, mg72, r1, r2, e1, m33 i h0 hi]
      (repeat' (first | (with_reducible exact ixO (by assumption) (by omega)) | with_reducible apply And.intro | with_reducible intro)) <;> (try first | omega | (with_reducible apply Nat.le_refl) | rfl | exact absurd trivial (by assumption))
      · rename_i h
        rw [if_pos h] at hih
        rw [Int.tmod_eq_emod_of_nonneg (by omega)]
        exact hih
      · rename_i h
        rw [if_neg h] at hih
        rw [Int.tmod_eq_emod_of_nonneg (by omega)]
        exact hih
    · obtain rfl : i = σ 0 0 := by omega
      generalize hm3 : row m (b + 33) (σ 0 0) (litG σ v x bk) = m3
      have f3 : ∀ y j, y ≠ b + 33 → m3 y j = m y j := fun y j h => by rw [← hm3, row_off h]
      have e33 : ∀ j, 0 ≤ j → j < σ 0 0 → m3 (b + 33) j = litG σ v x bk j := fun j z1 z2 => by rw [← hm3, row_in ⟨z1, z2⟩]
      have k1 : m3 b 1 = σ 0 0 := by rw [f3 _ _ (by omega), r1]
      have k2 : m3 b 2 = σ 0 1 := by rw [f3 _ _ (by omega), r2]
      have nmbr : ¬ (bk ≠ 0 ∧ litG σ v x bk x = 0) → ∃ (d9 k9 : Nat) (P9 : Option AV → Mu → Mu → Prop), d9 < d ∧ 0 + k9 ≤ 0 ∧ Cn X.l G yX9_numberOf cX9_numberOf 4 (some .int) d9 k9 [aR b, aR (b + 33)] γ m3 P9 ∧ ∀ r9 γ9 μ9, P9 r9 γ9 μ9 → V X G (Qm X G 0 P) (0 + k9) 132 [aD, aD, aD, aD, aD] (r9.toList ++ []) γ9 μ9 := fun hne2 => by
        refine ⟨0, 0, _, hd, Nat.le_refl _, hX ▸ m_numberOf hl 0 hS hG k1 k2 hn hq hN s33 e33 (litG_in hW), PI.use ?_⟩
        refine B_X9_lights_132 hC ⟨Nat.le_refl _, fin _ m3 (by rw [if_neg hne2]) (fun y j h => by rw [f3 y j h, fm y j h])⟩
      rw [mg66 hG, k1, e33 x hx.1 hx.2]
      refine ⟨fun _ => ⟨fun h => nmbr (fun w => w.1 h), fun h => ⟨ixO s33 (by omega), fun h2 => nmbr (fun w => h2 w.2), fun h2 => ?_⟩⟩, fun w => absurd hi w⟩
      refine B_X9_lights_132 hC ⟨Nat.le_refl _, fin _ m3 (by rw [if_pos ⟨h, h2⟩]) (fun y j h => by rw [f3 y j h, fm y j h])⟩
set_option maxHeartbeats 2000000 in
theorem m_spreads (hl : l.stackTraces = false) (d : Nat) (hd : 1 < d) {b s bk : Int} (hS : ModS G b) (hG : ModG γ b) (hR : RepR μ b σ) (hW : Wf σ) (hN : σ 0 1 ^ (σ 0 0).toNat ≤ 20000) (hs : 0 ≤ s ∧ s < σ 0 1 ^ (σ 0 0).toNat) : Cn l G yX9_spreads cX9_spreads 8 (some .int) d 0 [aR b, aI s, aI (σ 0 1 ^ (σ 0 0).toNat), aI bk] γ μ (fun r γ' μ' => r = some (aI (litW σ bk s).last) ∧ γ' = γ ∧ (∀ t, 0 ≤ t → t < σ 0 1 ^ (σ 0 0).toNat → μ' (b + 34) t = (litW σ bk s).way t) ∧ ∀ y j, y ≠ b + 33 → y ≠ b + 34 → y ≠ b + 35 → μ' y j = μ y j) := by
  refine Cn.ofP hl (plainFor_of_name (by decide)) (noLc nlR (noLc nlI (noLc nlI (noL1 nlI)))) rfl (fun P hP o1 o3 X hX hC => B_X9_spreads_0 hC hS.o ?_)
  have hn := hW.1
  have hq := hW.2.1.b
  have s34 := ms34 hS; have s35 := ms35 hS
  have eN : ((lnN σ : Nat) : Int) = σ 0 1 ^ (σ 0 0).toNat := by unfold lnN; have := pw_pos (q := σ 0 1) (by omega) (σ 0 0).toNat; omega
  rw [← eN] at hN hs hP ⊢
  have hnx : nxOk (lnN σ) (σ 0 0).toNat (litN σ bk) := litN_ok hW bk
  have ew : litW σ bk s = bRun (litN σ bk) (σ 0 0).toNat s (lnN σ) := rfl
  generalize lnN σ = N at *
  generalize litW σ bk s = HW at *
  have hnv : ∀ v : Int, 0 ≤ v → v < N → ∀ x : Nat, x < (σ 0 0).toNat → litN σ bk v x = -1 ∨ (0 ≤ litN σ bk v x ∧ litN σ bk v x < N) := fun v z1 z2 x z3 => hnx v z1 z2 x z3
  have fr : ∀ m : Mu, (∀ y j, y ≠ b + 33 → y ≠ b + 34 → y ≠ b + 35 → m y j = μ y j) → RepR m b σ := fun m fm => hR.fr hW (fun y j h => fm y j (by unfold keepR at h; omega) (by unfold keepR at h; omega) (by unfold keepR at h; omega))
  have bo : ∀ (k i : Nat) (m : Mu), i + k = N → (∀ y j, y ≠ b + 33 → y ≠ b + 34 → y ≠ b + 35 → m y j = μ y j) → (∀ t : Int, 0 ≤ t → t < N → m (b + 34) t = (bRun (litN σ bk) (σ 0 0).toNat s i).way t) → (∀ j : Int, 0 ≤ j → j < (bRun (litN σ bk) (σ 0 0).toNat s i).last → m (b + 35) j = (bRun (litN σ bk) (σ 0 0).toNat s i).que j) → V X G (Qm X G 0 P) 0 43 [aR b, aD, aD, aI bk, aI (bRun (litN σ bk) (σ 0 0).toNat s i).last, aI i, aD, aD] [] γ m := by
    intro k
    induction k with
    | zero =>
      intro i m hk fm hw hqu
      obtain rfl : i = N := by omega
      have hB := bRun_inv (s := s) hs hnx i
      have hle := hB.le
      refine B_X9_spreads_43 hC hS.o ⟨fun _ => ⟨Nat.le_refl _, hP _ _ _ ⟨by rw [ew], rfl, fun t z1 z2 => by rw [hw t z1 z2, ew], fm⟩⟩, fun w => absurd (by omega) w⟩
    | succ k ih =>
      intro i m hk fm hw hqu
      have hB := bRun_inv (s := s) hs hnx i
      have hle := hB.le
      have hih := ih (i + 1)
      by_cases hfin : (bRun (litN σ bk) (σ 0 0).toNat s i).last ≤ i
      · have e : HW = bRun (litN σ bk) (σ 0 0).toNat s i := by rw [ew]; exact bRun_end2 hfin (by omega)
        exact B_X9_spreads_43 hC hS.o ⟨fun _ => ⟨Nat.le_refl _, hP _ _ _ ⟨by rw [e], rfl, fun t z1 z2 => by rw [hw t z1 z2, e], fm⟩⟩, fun w => absurd (by omega) w⟩
      · rw [bRun, if_pos (by omega)] at hih
        generalize bRun (litN σ bk) (σ 0 0).toNat s i = W at *
        obtain ⟨v1, v2, v3⟩ := hB.2.1 i (by omega) (by omega)
        have hrow := bRw_inv (nx := litN σ bk) (v := W.que i) (lev := W.way (W.que i)) hB ⟨v2, by omega⟩
        have inn : ∀ (k2 x : Nat) (m2 : Mu), x + k2 = (σ 0 0).toNat → (∀ y j, y ≠ b + 33 → y ≠ b + 34 → y ≠ b + 35 → m2 y j = μ y j) → (∀ t : Int, 0 ≤ t → t < N → m2 (b + 34) t = (bRw (litN σ bk) (W.que i) (W.way (W.que i)) x W).way t) → (∀ j : Int, 0 ≤ j → j < (bRw (litN σ bk) (W.que i) (W.way (W.que i)) x W).last → m2 (b + 35) j = (bRw (litN σ bk) (W.que i) (W.way (W.que i)) x W).que j) → V X G (Qm X G 0 P) 0 53 [aR b, aD, aD, aI bk, aI (bRw (litN σ bk) (W.que i) (W.way (W.que i)) x W).last, aI i, aI x, aD] [] γ m2 := by
          intro k2
          induction k2 with
          | zero =>
            intro x m2 hx f2 gw gq
            obtain rfl : x = (σ 0 0).toNat := by omega
            refine B_X9_spreads_53 hC hS.o ⟨fun _ => ⟨by constructor <;> omega, ?_⟩, fun w => absurd (by rw [(fr m2 f2).1]; omega) w⟩
            exact hih m2 (by omega) f2 gw gq
          | succ k2 ih2 =>
            intro x m2 hx f2 gw gq
            have hih2 := ih2 (x + 1)
            rw [bRw] at hih2
            obtain ⟨b1, b2, b3, b4⟩ := hrow x (fun y hy => hnv _ v1.1 v1.2 y (by omega))
            have hq2 := b3 i (by omega)
            have hnt := hnv _ v1.1 v1.2 x (by omega)
            have hble := b1.le
            generalize hWx : bRw (litN σ bk) (W.que i) (W.way (W.que i)) x W = W' at *
            have hgq := gq i (by omega) (by omega)
            have hwq := gw (W.que i) v1.1 v1.2
            rw [b4 (W.que i) (by omega)] at hwq
            refine B_X9_spreads_53 hC hS.o ⟨fun w => absurd w (by rw [(fr m2 f2).1]; omega), fun _ => ?_⟩
            rw [mg68 hG, hgq, hq2]
            refine ⟨ixO s35 (by omega), 1, 0, _, hd, Nat.le_refl _, hX ▸ m_lights hl 1 (by omega) hS hG (fr m2 f2) hW (by unfold isL; omega) v1.1 (by omega), ?_⟩
            rintro r γ m3 ⟨rfl, rfl, f3⟩
            have gw3 : ∀ t : Int, 0 ≤ t → t < N → m3 (b + 34) t = W'.way t := fun t z1 z2 => by rw [f3 _ _ (by omega)]; exact gw t z1 z2
            have gq3 : ∀ j : Int, 0 ≤ j → j < W'.last → m3 (b + 35) j = W'.que j := fun j z1 z2 => by rw [f3 _ _ (by omega)]; exact gq j z1 z2
            have ff3 : ∀ y j, y ≠ b + 33 → y ≠ b + 34 → y ≠ b + 35 → m3 y j = μ y j := fun y j z1 z2 z3 => by rw [f3 y j z1, f2 y j z1 z2 z3]
            have g3q := gq3 i (by omega) (by omega)
            rw [hq2] at g3q
            have g3w := gw3 (W.que i) v1.1 v1.2
            rw [b4 (W.que i) (by omega)] at g3w
            generalize litN σ bk (W.que i) x = t at *
            refine B_X9_spreads_76 hC hS.o ⟨fun h => ⟨by constructor <;> omega, ?_⟩, fun h => ?_⟩
            · unfold bMv at hih2
              rw [if_pos (Or.inl h)] at hih2
              exact hih2 m3 (by omega) ff3 gw3 gq3
            · have hwt := gw3 t (by omega) (by omega)
              simp (disch := first | assumption | omega) only [row_off, row_in, row_out, up_same, up_ne, cpy_off, rwo_off, rwo_at, rwo_out, mg6, mg7, mg8, mg9, mg10, mg12, mg30, mg31, mg32, mg33, mg35, mg36, mg37, mg38, mg39, mg43, mg44, mg45, mg46, mg47, mg48, mg49, mg50, mg53, mg54, mg55, mg56, mg57, mg58, mg59, mg60, mg65, mg66, mg67, mg68, mg69, mg70, mg71, mg72, g3q, g3w, hwt]
              by_cases hz : W'.way t = -1
              · have hroom := b1.room (t := t) (by omega) hz
                unfold bMv at hih2
                rw [if_neg (fun w => w.elim (fun w => by omega) (fun w => w hz))] at hih2
                (repeat' (first | (with_reducible exact ixO (by assumption) (by omega)) | with_reducible apply And.intro | with_reducible intro)) <;> (try first | omega | (with_reducible apply Nat.le_refl) | rfl | exact absurd trivial (by assumption))
                refine hih2 _ (by omega) (fun y j z1 z2 z3 => by simp (disch := first | assumption | omega) only [row_off, row_in, row_out, up_same, up_ne, cpy_off, rwo_off, rwo_at, rwo_out, mg6, mg7, mg8, mg9, mg10, mg12, mg30, mg31, mg32, mg33, mg35, mg36, mg37, mg38, mg39, mg43, mg44, mg45, mg46, mg47, mg48, mg49, mg50, mg53, mg54, mg55, mg56, mg57, mg58, mg59, mg60, mg65, mg66, mg67, mg68, mg69, mg70, mg71, mg72]; exact ff3 y j z1 z2 z3) (fun t2 z1 z2 => ?_) (fun j z1 z2 => ?_)
                · show _ = fup W'.way t (W.way (W.que i) + 1) t2
                  by_cases e : t2 = t
                  · subst e
                    rw [fup_s]; simp (disch := first | assumption | omega) only [row_off, row_in, row_out, up_same, up_ne, cpy_off, rwo_off, rwo_at, rwo_out, mg6, mg7, mg8, mg9, mg10, mg12, mg30, mg31, mg32, mg33, mg35, mg36, mg37, mg38, mg39, mg43, mg44, mg45, mg46, mg47, mg48, mg49, mg50, mg53, mg54, mg55, mg56, mg57, mg58, mg59, mg60, mg65, mg66, mg67, mg68, mg69, mg70, mg71, mg72]
                  · rw [fup_n e]; simp (disch := first | assumption | omega) only [row_off, row_in, row_out, up_same, up_ne, cpy_off, rwo_off, rwo_at, rwo_out, mg6, mg7, mg8, mg9, mg10, mg12, mg30, mg31, mg32, mg33, mg35, mg36, mg37, mg38, mg39, mg43, mg44, mg45, mg46, mg47, mg48, mg49, mg50, mg53, mg54, mg55, mg56, mg57, mg58, mg59, mg60, mg65, mg66, mg67, mg68, mg69, mg70, mg71, mg72]
                    exact gw3 t2 z1 z2
                · have z2' : j < W'.last + 1 := z2
                  show _ = fup W'.que W'.last t j
                  by_cases e : j = W'.last
                  · subst e
                    rw [fup_s]; simp (disch := first | assumption | omega) only [row_off, row_in, row_out, up_same, up_ne, cpy_off, rwo_off, rwo_at, rwo_out, mg6, mg7, mg8, mg9, mg10, mg12, mg30, mg31, mg32, mg33, mg35, mg36, mg37, mg38, mg39, mg43, mg44, mg45, mg46, mg47, mg48, mg49, mg50, mg53, mg54, mg55, mg56, mg57, mg58, mg59, mg60, mg65, mg66, mg67, mg68, mg69, mg70, mg71, mg72]
                  · rw [fup_n e]; simp (disch := first | assumption | omega) only [row_off, row_in, row_out, up_same, up_ne, cpy_off, rwo_off, rwo_at, rwo_out, mg6, mg7, mg8, mg9, mg10, mg12, mg30, mg31, mg32, mg33, mg35, mg36, mg37, mg38, mg39, mg43, mg44, mg45, mg46, mg47, mg48, mg49, mg50, mg53, mg54, mg55, mg56, mg57, mg58, mg59, mg60, mg65, mg66, mg67, mg68, mg69, mg70, mg71, mg72]
                    exact gq3 j z1 (by omega)
              · unfold bMv at hih2
                rw [if_pos (Or.inr hz)] at hih2
                (repeat' (first | (with_reducible exact ixO (by assumption) (by omega)) | with_reducible apply And.intro | with_reducible intro)) <;> (try first | omega | (with_reducible apply Nat.le_refl) | rfl | exact absurd trivial (by assumption))
                exact hih2 m3 (by omega) ff3 gw3 gq3
        refine B_X9_spreads_43 hC hS.o ⟨fun w => absurd w (by omega), fun _ => ?_⟩
        exact inn (σ 0 0).toNat 0 m (by omega) fm hw hqu
  have st := rem_ind (n := (N : Int)) (P := fun i => V X G (Qm X G 0 P) 0 3 [aR b, aI s, aI N, aI bk, aI i, aD, aD, aD] [] γ (row μ (b + 34) i (fun _ => -1))) (fun i h0 h1 ih => ?_)
  · have h9 := st 0 (by omega) (by omega)
    rw [row_0] at h9
    exact h9
  · refine B_X9_spreads_3 hC hS.o ?_
    rcases Int.lt_or_le i N with hi | hi
    · have hih := ih hi
      rw [← row_s h0] at hih
      simp (disch := first | assumption | omega) only [row_off, row_in, row_out, up_same, up_ne, cpy_off, rwo_off, rwo_at, rwo_out, mg6, mg7, mg8, mg9, mg10, mg12, mg30, mg31, mg32, mg33, mg35, mg36, mg37, mg38, mg39, mg43, mg44, mg45, mg46, mg47, mg48, mg49, mg50, mg53, mg54, mg55, mg56, mg57, mg58, mg59, mg60, mg65, mg66, mg67, mg68, mg69, mg70, mg71, mg72]
      (repeat' (first | (with_reducible exact ixO (by assumption) (by omega)) | with_reducible apply And.intro | with_reducible intro)) <;> (try first | omega | (with_reducible apply Nat.le_refl) | rfl | exact absurd trivial (by assumption))
      all_goals exact hih
    · obtain rfl : i = N := by omega
      simp (disch := first | assumption | omega) only [row_off, row_in, row_out, up_same, up_ne, cpy_off, rwo_off, rwo_at, rwo_out, mg6, mg7, mg8, mg9, mg10, mg12, mg30, mg31, mg32, mg33, mg35, mg36, mg37, mg38, mg39, mg43, mg44, mg45, mg46, mg47, mg48, mg49, mg50, mg53, mg54, mg55, mg56, mg57, mg58, mg59, mg60, mg65, mg66, mg67, mg68, mg69, mg70, mg71, mg72]
      (repeat' (first | (with_reducible exact ixO (by assumption) (by omega)) | with_reducible apply And.intro | with_reducible intro)) <;> (try first | omega | (with_reducible apply Nat.le_refl) | rfl | exact absurd trivial (by assumption))
      refine bo N 0 _ (by omega) (fun y j z1 z2 z3 => by simp (disch := first | assumption | omega) only [row_off, row_in, row_out, up_same, up_ne, cpy_off, rwo_off, rwo_at, rwo_out, mg6, mg7, mg8, mg9, mg10, mg12, mg30, mg31, mg32, mg33, mg35, mg36, mg37, mg38, mg39, mg43, mg44, mg45, mg46, mg47, mg48, mg49, mg50, mg53, mg54, mg55, mg56, mg57, mg58, mg59, mg60, mg65, mg66, mg67, mg68, mg69, mg70, mg71, mg72]) (fun t z1 z2 => ?_) (fun j z1 z2 => ?_)
      · show _ = fup (fun _ => -1) s 0 t
        by_cases e : t = s
        · subst e
          rw [fup_s]; simp (disch := first | assumption | omega) only [row_off, row_in, row_out, up_same, up_ne, cpy_off, rwo_off, rwo_at, rwo_out, mg6, mg7, mg8, mg9, mg10, mg12, mg30, mg31, mg32, mg33, mg35, mg36, mg37, mg38, mg39, mg43, mg44, mg45, mg46, mg47, mg48, mg49, mg50, mg53, mg54, mg55, mg56, mg57, mg58, mg59, mg60, mg65, mg66, mg67, mg68, mg69, mg70, mg71, mg72]
        · rw [fup_n e]; simp (disch := first | assumption | omega) only [row_off, row_in, row_out, up_same, up_ne, cpy_off, rwo_off, rwo_at, rwo_out, mg6, mg7, mg8, mg9, mg10, mg12, mg30, mg31, mg32, mg33, mg35, mg36, mg37, mg38, mg39, mg43, mg44, mg45, mg46, mg47, mg48, mg49, mg50, mg53, mg54, mg55, mg56, mg57, mg58, mg59, mg60, mg65, mg66, mg67, mg68, mg69, mg70, mg71, mg72]
      · have z3 : j < (1 : Nat) := z2
        obtain rfl : j = 0 := by omega
        rw [up_same]
        rfl
theorem m_lit (hl : l.stackTraces = false) (d : Nat) (hd : 2 < d) {b x : Int} (hS : ModS G b) (hG : ModG γ b) (hR : RepR μ b σ) (hW : Wf σ) : Cn l G yX9_lit cX9_lit 7 (some .int) d 0 [aR b, aI x] γ μ (PR μ γ b σ (if 0 ≤ x ∧ x ≤ 2 then litF σ x else 0) (if 0 ≤ x ∧ x ≤ 2 then 0 else 1)) := by
  refine Cn.ofP hl (plainFor_of_name (by decide)) (noLc nlR (noL1 nlI)) rfl (fun P hP o1 o3 X hX hC => B_X9_lit_0 hC hS.o ?_)
  have hn := hW.1
  have hq := hW.2.1.b
  have s3 := ms3 hS; have s4 := ms4 hS; have s34 := ms34 hS
  have bad : ¬ (0 ≤ x ∧ x ≤ 2) → V X G (Qm X G 0 P) 0 24 [aR b, aI x, aD, aD, aD, aD, aD] [aI 0] γ (up (up μ b 0 0) b 0 1) := fun hx => by
    refine B_X9_lit_24 hC hS.o ?_
    (repeat' (first | (with_reducible exact ixO (by assumption) (by omega)) | with_reducible apply And.intro | with_reducible intro)) <;> (try first | omega | (with_reducible apply Nat.le_refl) | rfl | exact absurd trivial (by assumption))
    exact hP _ _ _ ⟨by rw [if_neg hx], rfl, by rw [if_neg hx]; exact up_same, (hR.t hW).t hW, frB_up (frB_up frB_rf (by omega)) (by omega)⟩
  refine ⟨fun h => ?_, fun h => ⟨fun h2 => ?_, fun h2 => ?_⟩⟩
  · refine ⟨0, 0, _, by omega, Nat.le_refl _, hX ▸ m_right hl 0 hS (by first | exact up_same | assumption | (simp (disch := first | assumption | omega) only [row_off, row_in, row_out, up_same, up_ne, cpy_off, rwo_off, rwo_at, rwo_out, mg6, mg7, mg8, mg9, mg10, mg12, mg30, mg31, mg32, mg33, mg35, mg36, mg37, mg38, mg39, mg43, mg44, mg45, mg46, mg47, mg48, mg49, mg50, mg53, mg54, mg55, mg56, mg57, mg58, mg59, mg60, mg65, mg66, mg67, mg68, mg69, mg70, mg71, mg72] ; done)), PI.use ?_⟩
    rw [if_pos rfl, if_pos rfl]
    exact bad (by omega)
  · refine ⟨0, 0, _, by omega, Nat.le_refl _, hX ▸ m_right hl 0 hS (by first | exact up_same | assumption | (simp (disch := first | assumption | omega) only [row_off, row_in, row_out, up_same, up_ne, cpy_off, rwo_off, rwo_at, rwo_out, mg6, mg7, mg8, mg9, mg10, mg12, mg30, mg31, mg32, mg33, mg35, mg36, mg37, mg38, mg39, mg43, mg44, mg45, mg46, mg47, mg48, mg49, mg50, mg53, mg54, mg55, mg56, mg57, mg58, mg59, mg60, mg65, mg66, mg67, mg68, mg69, mg70, mg71, mg72] ; done)), PI.use ?_⟩
    rw [if_pos rfl, if_pos rfl]
    exact bad (by omega)
  refine ⟨0, 0, _, by omega, Nat.le_refl _, hX ▸ m_right hl 0 hS (by first | exact up_same | assumption | (simp (disch := first | assumption | omega) only [row_off, row_in, row_out, up_same, up_ne, cpy_off, rwo_off, rwo_at, rwo_out, mg6, mg7, mg8, mg9, mg10, mg12, mg30, mg31, mg32, mg33, mg35, mg36, mg37, mg38, mg39, mg43, mg44, mg45, mg46, mg47, mg48, mg49, mg50, mg53, mg54, mg55, mg56, mg57, mg58, mg59, mg60, mg65, mg66, mg67, mg68, mg69, mg70, mg71, mg72] ; done)), PI.use ?_⟩
  rw [if_neg (by decide), if_neg (by decide)]
  have hx : 0 ≤ x ∧ x ≤ 2 := by omega
  simp only [if_pos hx] at hP
  have mR := hR.t (z := 0) hW
  have m0 : up μ b 0 0 b 0 = 0 := up_same
  have mf : frB μ (up μ b 0 0) b (b + 40) := frB_up frB_rf (by omega)
  generalize up μ b 0 0 = m at *
  refine B_X9_lit_24 hC hS.o ⟨fun _ => ?_, fun w => absurd w (by decide)⟩
  have hpw := m_power (l := l) (G := G) (γ := γ) (μ := m) hl 0 (b := b) (q := σ 0 1) (most := 20000) (σ 0 0).toNat hS mR.2.1 hq (by decide) (by omega)
  rw [show (((σ 0 0).toNat : Nat) : Int) = σ 0 0 by omega] at hpw
  rw [mR.1]
  refine ⟨0, 0, _, by omega, Nat.le_refl _, hX ▸ hpw, PI.use ?_⟩
  unfold litF at hP
  by_cases hN : σ 0 1 ^ (σ 0 0).toNat ≤ 20000
  case neg =>
    rw [if_neg hN]
    refine B_X9_lit_40 hC hS.o ?_
    (repeat' (first | (with_reducible exact ixO (by assumption) (by omega)) | with_reducible apply And.intro | with_reducible intro)) <;> (try first | omega | (with_reducible apply Nat.le_refl) | rfl | exact absurd trivial (by assumption))
    exact hP _ _ _ ⟨by rw [if_pos (by omega)], rfl, m0, mR, mf⟩
  rw [if_pos hN]
  simp only [if_neg (show ¬ 20000 < σ 0 1 ^ (σ 0 0).toNat by omega)] at hP
  have hst : inQ (σ 0 0) (σ 0 1) (σ 3) := fun j z1 z2 => (hW.st j z1 (by omega)).1
  have hwi : inQ (σ 0 0) (σ 0 1) (σ 4) := fun j z1 z2 => (hW.wi j z1 (by omega)).1
  have n3 := vlN_b (q := σ 0 1) (d := σ 3) (by omega) (σ 0 0).toNat (fun i z1 z2 => hst i z1 (by omega))
  have n4 := vlN_b (q := σ 0 1) (d := σ 4) (by omega) (σ 0 0).toNat (fun i z1 z2 => hwi i z1 (by omega))
  have fr : ∀ m2 : Mu, (∀ y j, y ≠ b + 33 → y ≠ b + 34 → y ≠ b + 35 → m2 y j = m y j) → RepR m2 b σ ∧ m2 b 0 = 0 ∧ frB μ m2 b (b + 40) := fun m2 fm => ⟨mR.fr hW (fun y j h => fm y j (by unfold keepR at h; omega) (by unfold keepR at h; omega) (by unfold keepR at h; omega)), by rw [fm _ _ (by omega) (by omega) (by omega)]; exact m0, mf.t (fun y j h => fm y j (by omega) (by omega) (by omega))⟩
  refine B_X9_lit_40 hC hS.o ⟨fun _ => ⟨fun h2 => ?_, fun h2 => ?_⟩, fun w => absurd hN w⟩
  · rw [mg9 hG]
    refine ⟨0, 0, _, by omega, Nat.le_refl _, hX ▸ m_numberOf hl 0 (f := σ 4) hS hG mR.1 mR.2.1 hn hq hN s4 (fun j z1 z2 => mR.2.2.2.2.2.2.2.2.2.2.2.2.2.1 j z1 (by omega)) hwi, PI.use ?_⟩
    refine B_X9_lit_80 hC hS.o ⟨hS.o, ?_⟩
    refine ⟨2, 0, _, hd, Nat.le_refl _, hX ▸ m_spreads hl 2 (by omega) hS hG mR hW hN n4, ?_⟩
    rintro r γ m2 ⟨rfl, rfl, w2, f2⟩
    obtain ⟨m2R, m20, m2f⟩ := fr m2 f2
    refine B_X9_lit_85 hC hS.o ?_
    rw [mg8 hG]
    refine ⟨0, 0, _, by omega, Nat.le_refl _, hX ▸ m_numberOf hl 0 (f := σ 3) hS hG m2R.1 m2R.2.1 hn hq hN s3 (fun j z1 z2 => m2R.2.2.2.2.2.2.2.2.2.2.2.2.1 j z1 (by omega)) hst, PI.use ?_⟩
    have hB : BInv (lnN σ) (litW σ 1 (vlN (σ 0 1) (σ 4) (σ 0 0).toNat)) := bRun_inv (by omega) (litN_ok hW 1) _
    have hBl := hB.1
    have ww : m2 (b + 34) (vlN (σ 0 1) (σ 3) (σ 0 0).toNat) = (litW σ 1 (nmb σ (σ 4))).way (nmb σ (σ 3)) := w2 _ n3.1 n3.2
    have fin : ∀ z m3, z = (if x = 2 then ((litW σ 0 (nmb σ (σ 3))).last : Int) else if x = 0 then (litW σ 1 (nmb σ (σ 4))).way (nmb σ (σ 3)) else if (litW σ 1 (nmb σ (σ 4))).way (nmb σ (σ 3)) ≤ 0 then -1 else fs (litP σ) (σ 0 0) 0) → (∀ y j, y ≠ b + 33 → m3 y j = m2 y j) → P (some (aI z)) γ m3 := fun z m3 hz f3 => by
      obtain ⟨a1, a2, a3⟩ := fr m3 (fun y j z1 z2 z3 => by rw [f3 y j z1, f2 y j z1 z2 z3])
      exact hP _ _ _ ⟨by rw [hz], rfl, a2, a1, a3⟩
    simp only [if_neg h2] at fin
    have t110 : (x = 0 ∨ (litW σ 1 (nmb σ (σ 4))).way (nmb σ (σ 3)) ≤ 0) → V X G (Qm X G 0 P) 0 110 [aR b, aI x, aD, aI ((litW σ 1 (vlN (σ 0 1) (σ 4) (σ 0 0).toNat)).last : Int), aI (vlN (σ 0 1) (σ 3) (σ 0 0).toNat), aD, aD] [] γ m2 := fun hc => by
      refine B_X9_lit_110 hC hS.o ?_
      rw [mg67 hG, ww]
      refine ⟨fun h0 => ⟨Nat.le_refl _, fin _ m2 (by rw [if_neg h0, if_pos (by omega)]) (fun _ _ _ => rfl)⟩, fun h0 => ⟨fun w => absurd w (by omega), fun _ => ⟨ixO s34 (by omega), Nat.le_refl _, fin _ m2 (by rw [if_pos h0]) (fun _ _ _ => rfl)⟩⟩⟩
    refine B_X9_lit_94 hC hS.o ?_
    rw [mg67 hG, ww]
    refine ⟨fun h0 => t110 (Or.inl h0), fun h0 => ⟨ixO s34 (by omega), fun h1 => ?_, fun h1 => t110 (Or.inr (by omega))⟩⟩
    simp only [if_neg h0, if_neg (show ¬ (litW σ 1 (nmb σ (σ 4))).way (nmb σ (σ 3)) ≤ 0 by omega)] at fin
    have loop := rem_ind (n := σ 0 0) (P := fun i => fs (litP σ) (σ 0 0) i = fs (litP σ) (σ 0 0) 0 → ∀ m3 : Mu, (∀ y j, y ≠ b + 33 → m3 y j = m2 y j) → V X G (Qm X G 0 P) 0 133 [aR b, aD, aD, aD, aI (vlN (σ 0 1) (σ 3) (σ 0 0).toNat), aI i, aD] [] γ m3) (fun i i0 i1 ih hi m3 f3 => ?_)
    · exact loop 0 (by omega) (by omega) rfl m2 (fun _ _ _ => rfl)
    · obtain ⟨m3R, m30, m3f⟩ := fr m3 (fun y j z1 z2 z3 => by rw [f3 y j z1, f2 y j z1 z2 z3])
      refine B_X9_lit_133 hC hS.o ?_
      rw [m3R.1]
      rcases Int.lt_or_le i (σ 0 0) with hin | hin
      · refine ⟨fun w => absurd w (by omega), fun _ => ?_⟩
        refine ⟨1, 0, _, by omega, Nat.le_refl _, hX ▸ m_lights hl 1 (by omega) hS hG m3R hW ⟨i0, hin⟩ n3.1 hN, ?_⟩
        rintro r γ m4 ⟨rfl, rfl, f4⟩
        have f42 : ∀ y j, y ≠ b + 33 → m4 y j = m2 y j := fun y j h => by rw [f4 y j h, f3 y j h]
        have hnv := litN_ok hW 0 (vlN (σ 0 1) (σ 3) (σ 0 0).toNat) n3.1 (by omega) i.toNat (by omega)
        rw [show ((i.toNat : Nat) : Int) = i by omega] at hnv
        refine V_ok (fun _ _ hok4 => ?_)
        have hok5 := (hok4 (b + 34) (vlN (σ 0 1) (σ 3) (σ 0 0).toNat)).2 (by rw [s34.2.2]; rintro (w | w); exact absurd w (by decide); exact absurd w.1 (by decide))
        refine B_X9_lit_151 hC hS.o ?_
        have el : litN σ 0 (vlN (σ 0 1) (σ 3) (σ 0 0).toNat) i = litN σ 0 (nmb σ (σ 3)) i := rfl
        refine ⟨fun h => ⟨by constructor <;> omega, ih hin ?_ m4 f42⟩, fun h => ?_⟩
        · rw [← hi, fs_1 (f := litP σ) hin (by unfold litP; rw [if_pos (el ▸ h)])]
        · have w4 : m4 (b + 34) (litN σ 0 (vlN (σ 0 1) (σ 3) (σ 0 0).toNat) i) = (litW σ 1 (nmb σ (σ 4))).way (litN σ 0 (nmb σ (σ 3)) i) := by
            rw [f42 _ _ (by omega)]
            exact w2 _ (by omega) (by omega)
          have wi4 : m4 (b + 34) (vlN (σ 0 1) (σ 3) (σ 0 0).toNat) = (litW σ 1 (nmb σ (σ 4))).way (nmb σ (σ 3)) := by rw [f42 _ _ (by omega), ww]
          rw [wi4] at hok5
          rw [mg67 hG, w4, wi4]
          refine ⟨ixO s34 (by omega), ixO s34 (by omega), by constructor <;> omega, fun h5 => ⟨by constructor <;> omega, ih hin ?_ m4 f42⟩, fun h5 => ⟨Nat.le_refl _, fin _ m4 ?_ f42⟩⟩
          · rw [← hi, fs_1 (f := litP σ) hin (by unfold litP; rw [if_neg (el ▸ h), if_neg h5])]
          · rw [← hi, fs_2 (f := litP σ) hin (by unfold litP; rw [if_neg (el ▸ h), if_pos h5]; decide)]
      · exact ⟨fun _ => ⟨Nat.le_refl _, fin _ m3 (by rw [← hi, fs_ge (by omega)]) f3⟩, fun w => absurd hin w⟩
  · rw [mg8 hG]
    refine ⟨0, 0, _, by omega, Nat.le_refl _, hX ▸ m_numberOf hl 0 (f := σ 3) hS hG mR.1 mR.2.1 hn hq hN s3 (fun j z1 z2 => mR.2.2.2.2.2.2.2.2.2.2.2.2.1 j z1 (by omega)) hst, PI.use ?_⟩
    refine B_X9_lit_65 hC ⟨hS.o, ?_⟩
    refine ⟨2, 0, _, hd, Nat.le_refl _, hX ▸ m_spreads hl 2 (by omega) hS hG mR hW hN n3, ?_⟩
    rintro r γ m2 ⟨rfl, rfl, w2, f2⟩
    obtain ⟨m2R, m20, m2f⟩ := fr m2 f2
    refine B_X9_lit_70 hC ⟨Nat.le_refl _, hP _ _ _ ⟨by rw [if_pos h2]; rfl, rfl, m20, m2R, m2f⟩⟩
end MLit
