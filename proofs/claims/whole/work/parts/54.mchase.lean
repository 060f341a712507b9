/-! the reference: chases, shows, chase, goesOut, top -/
/-- how often button x is pressed in a chase, the row being f; y the lamp above it -/
def chsV (σ : Mu) (f : Int → Int) (x y : Int) : Int := if σ 2 x ≠ 0 ∨ sA σ x y = 0 then 0 else ((σ 4 y - f y + σ 0 1) % σ 0 1 * invQ (sA σ x y) (σ 0 1)) % σ 0 1
def stpV (σ : Mu) (f : Int → Int) (x k : Int) : Int → Int := fun j => (f j + k * sA σ x j) % σ 0 1
theorem chsV_b {σ : Mu} {f : Int → Int} {x y : Int} (hW : Wf σ) : 0 ≤ chsV σ f x y ∧ chsV σ f x y < σ 0 1 := by
  have hq := hW.2.1.b
  unfold chsV
  split
  · omega
  · exact ⟨Int.emod_nonneg _ (by omega), Int.emod_lt_of_pos _ (by omega)⟩
theorem stpV_in {σ : Mu} {f : Int → Int} {x k n : Int} (hW : Wf σ) : inQ n (σ 0 1) (stpV σ f x k) := by
  have hq := hW.2.1.b
  exact fun j _ _ => ⟨Int.emod_nonneg _ (by omega), Int.emod_lt_of_pos _ (by omega)⟩
def chaF (σ : Mu) (t : Int) : Mu × Int := foldI (fun p t => (prsN p.1 (σ 0 2 + t) (chsV p.1 (p.1 3) (σ 0 2 + t) t).toNat, p.2 + chsV p.1 (p.1 3) (σ 0 2 + t) t)) (σ, 0) t
def tpF (σ : Mu) (dg : Int → Int) (x : Int) : Int → Int := foldI (fun f y => stpV σ f y (dg y)) (σ 3) x
def chF (σ : Mu) (f : Int → Int) (t : Int) : Int → Int := foldI (fun f t => stpV σ f (σ 0 2 + t) (chsV σ f (σ 0 2 + t) t)) f t
def outV (σ : Mu) (dg : Int → Int) : Int → Int := chF σ (tpF σ dg (σ 0 2)) (σ 0 0 - σ 0 2)
def rst (q t : Int) : Nat → Int
  | 0 => t
  | k + 1 => rst q t k / q
def digT (q w t : Int) : Int → Int := fun x => rst q t (w - 1 - x).toNat % q
def grd (σ : Mu) (t : Int) : Int → Int := fun k => if rst (σ 0 1) t k.toNat % σ 0 1 = 0 then 1 else if σ 2 (σ 0 2 - 1 - k) = 0 then 1 else 0
def nmT (q t k : Int) : Int := foldI (fun v k => v * q + rst q t k.toNat % q) 0 k
def okT (σ : Mu) : Int → Int := fun t => if allI (grd σ t) (σ 0 2) = 0 then 0 else allI (eqP (outV σ (digT (σ 0 1) (σ 0 2) t)) (σ 4)) (σ 0 0)
def topF (σ : Mu) : Int := if σ 0 2 = 0 then -1 else if fs (okT σ) (σ 0 1 ^ (σ 0 2).toNat) 0 = -1 then -1 else nmT (σ 0 1) (fs (okT σ) (σ 0 1 ^ (σ 0 2).toNat) 0) (σ 0 2)
theorem rst_b {q t : Int} (hq : 2 ≤ q) (ht : 0 ≤ t) : ∀ k, 0 ≤ rst q t k ∧ rst q t k ≤ t
  | 0 => ⟨ht, Int.le_refl _⟩
  | k + 1 => by
    have ih := rst_b hq ht k
    show 0 ≤ rst q t k / q ∧ rst q t k / q ≤ t
    have h1 := Int.ediv_nonneg ih.1 (show 0 ≤ q by omega)
    have h2 := Int.ediv_le_self q ih.1
    omega
theorem q6_le {q : Int} (hq : qP q) {w : Nat} (hw : w ≤ 6) : q ^ w ≤ 15625 := by
  have h1 := pw_mono (q := q) (by have := hq.b; omega) hw
  have h2 : q ^ 6 ≤ 15625 := by rcases hq with rfl | rfl | rfl <;> decide
  omega
theorem nmT_b {q t n : Int} (hq : qP q) : ∀ k, 0 ≤ k → k ≤ n → 0 ≤ nmT q t k ∧ nmT q t k < q ^ k.toNat := by
  have hqb := hq.b
  refine foldI_ind (P := fun k x => 0 ≤ x ∧ x < q ^ k.toNat) ⟨by decide, by show (0 : Int) < q ^ 0; rw [Int.pow_zero]; decide⟩ (fun i x h0 h1 hx => ?_)
  have h2 := Int.emod_nonneg (rst q t i.toNat) (show q ≠ 0 by omega)
  have h3 := Int.emod_lt_of_pos (rst q t i.toNat) (show 0 < q by omega)
  rw [show (i + 1).toNat = i.toNat + 1 by omega, Int.pow_succ]
  have h4 : (x + 1) * q ≤ q ^ i.toNat * q := Int.mul_le_mul_of_nonneg_right (by omega) (by omega)
  rw [Int.add_mul, Int.one_mul] at h4
  have h5 : 0 ≤ x * q := Int.mul_nonneg hx.1 (by omega)
  omega
theorem Wf.w {σ : Mu} (hW : Wf σ) : (σ 0 2 = 0 ∧ σ 0 3 = 0 ∧ σ 0 4 = -1) ∨ (1 ≤ σ 0 2 ∧ σ 0 2 ≤ 6 ∧ σ 0 2 ≤ σ 0 0 ∧ 0 ≤ σ 0 4) := by
  rcases hW.2.2.1 with h | ⟨h1, h2, h3, h4, h5, h6, h7⟩
  · exact Or.inl h
  · refine Or.inr ⟨h1, h2, ?_, h6⟩
    have := Int.mul_le_mul_of_nonneg_left h3 (show 0 ≤ σ 0 2 by omega)
    omega
section MChase
variable {l : Launch} {G : Gx} {γ μ σ : Mu}
theorem m_chases (hl : l.stackTraces = false) (d : Nat) (hd : 0 < d) {b x y : Int} {f : Int → Int} (hS : ModS G b) (hG : ModG γ b) (hR : RepR μ b σ) (hW : Wf σ) (hx : isL σ x) (hy : isL σ y) (hf : ∀ j, 0 ≤ j → j < σ 0 0 → μ (b + 33) j = f j) (hfq : inQ (σ 0 0) (σ 0 1) f) : Cn l G yX9_chases cX9_chases 5 (some .int) d 0 [aR b, aI x, aI y] γ μ (PI (chsV σ f x y) γ μ) := by
  refine Cn.ofP hl (plainFor_of_name (by decide)) (noLc nlR (noLc nlI (noL1 nlI))) rfl (fun P hP o1 o3 X hX hC => B_X9_chases_0 hC hS.o ?_)
  obtain ⟨r1, r2, r3, r4, r5, r6, r7, r8, r9, r10, ra1, ra2, ra3, ra4, -⟩ := id hR
  have hn := hW.1
  have hq := hW.2.1.b
  have s1 := ms1 hS; have s2 := ms2 hS; have s4 := ms4 hS; have s33 := ms33 hS
  have a1 := hW.am x hx.1 hx.2 y hy.1 hy.2
  have a2 := (hW.wi y hy.1 (by omega)).1
  have a3 := hfq y hy.1 hy.2
  have e1 : μ (b + 1) (36 * x + y) = sA σ x y := ra1 _ (by omega) (by omega)
  have e2 : (σ 4 y - f y + σ 0 1).tmod (σ 0 1) = (σ 4 y - f y + σ 0 1) % σ 0 1 := Int.tmod_eq_emod_of_nonneg (by omega)
  have fin : ∀ z, z = chsV σ f x y → P (some (aI z)) γ μ := fun z hz => hP _ _ _ ⟨by rw [hz], rfl, rfl⟩
  unfold chsV at fin
  simp (disch := first | assumption | omega) only [row_off, row_in, row_out, up_same, up_ne, cpy_off, rwo_off, rwo_at, rwo_out, mg6, mg7, mg8, mg9, mg10, mg12, mg30, mg31, mg32, mg33, mg35, mg36, mg37, mg38, mg39, mg43, mg44, mg45, mg46, mg47, mg48, mg49, mg50, mg53, mg54, mg55, mg56, mg57, mg58, mg59, mg60, mg65, mg66, mg67, mg68, mg69, mg70, mg71, mg72, r2, e1, ra4 y hy.1 (by omega), hf y hy.1 hy.2, ra2 x hx.1 (by omega), e2]
  (repeat' (first | (with_reducible exact ixO (by assumption) (by omega)) | with_reducible apply And.intro | with_reducible intro)) <;> (try first | omega | (with_reducible apply Nat.le_refl) | rfl | exact absurd trivial (by assumption))
  · rename_i h
    exact fin _ (by rw [if_pos (Or.inl h)])
  · rename_i h h2
    refine ⟨0, 0, _, by omega, Nat.le_refl _, hX ▸ m_inverse hl 0 hS r2 hW.2.1 (by omega), PI.use ?_⟩
    have hi := invQ_ok hW.2.1 (v := sA σ x y) (by omega)
    have b1 := Int.emod_nonneg (σ 4 y - f y + σ 0 1) (show σ 0 1 ≠ 0 by omega)
    have b2 := Int.emod_lt_of_pos (σ 4 y - f y + σ 0 1) (show 0 < σ 0 1 by omega)
    have b3 := mulR (a := (σ 4 y - f y + σ 0 1) % σ 0 1) (b := invQ (sA σ x y) (σ 0 1)) (m := 5) (by omega) (by omega)
    refine B_X9_chases_61 hC hS.o ?_
    rw [r2]
    refine ⟨by constructor <;> omega, by omega, Nat.le_refl _, fin _ ?_⟩
    rw [if_neg (by rintro (w | w); exact w h; exact h2 w), Int.tmod_eq_emod_of_nonneg b3.1]
  · rename_i h h2
    exact fin _ (by rw [if_pos (Or.inr h2)])
theorem m_shows (hl : l.stackTraces = false) (d : Nat) {b x k : Int} {f : Int → Int} (hS : ModS G b) (hG : ModG γ b) (hR : RepR μ b σ) (hW : Wf σ) (hx : isL σ x) (hk : 0 ≤ k ∧ k < σ 0 1) (hf : ∀ j, 0 ≤ j → j < σ 0 0 → μ (b + 33) j = f j) (hfq : inQ (σ 0 0) (σ 0 1) f) : Cn l G yX9_shows cX9_shows 4 none d 0 [aR b, aI x, aI k] γ μ (PV γ (row μ (b + 33) (σ 0 0) (stpV σ f x k))) := by
  refine Cn.ofP hl (plainFor_of_name (by decide)) (noLc nlR (noLc nlI (noL1 nlI))) rfl (fun P hP o1 o3 X hX hC => B_X9_shows_0 hC hS.o ?_)
  obtain ⟨r1, r2, r3, r4, r5, r6, r7, r8, r9, r10, ra1, ra2, ra3, ra4, -⟩ := id hR
  have hn := hW.1
  have hq := hW.2.1.b
  have s1 := ms1 hS; have s33 := ms33 hS
  have loop := rem_ind (n := σ 0 0) (P := fun i => V X G (Qm X G 0 P) 0 2 [aR b, aI x, aI k, aI i] [] γ (row μ (b + 33) i (stpV σ f x k))) (fun i h0 h1 ih => ?_)
  · have h9 := loop 0 (by omega) (by omega)
    rw [row_0] at h9
    exact h9
  · refine B_X9_shows_2 hC hS.o ?_
    rcases Int.lt_or_le i (σ 0 0) with hi | hi
    · have hih := ih hi
      rw [← row_s h0] at hih
      have a1 := hW.am x hx.1 hx.2 i h0 hi
      have a2 := hfq i h0 hi
      have a3 := mulR (a := k) (b := sA σ x i) (m := 5) (by omega) (by omega)
      have e1 : μ (b + 1) (36 * x + i) = sA σ x i := ra1 _ (by omega) (by omega)
      have e2 : (f i + k * sA σ x i).tmod (σ 0 1) = stpV σ f x k i := Int.tmod_eq_emod_of_nonneg (by omega)
      simp (disch := first | assumption | omega) only [row_off, row_in, row_out, up_same, up_ne, cpy_off, rwo_off, rwo_at, rwo_out, mg6, mg7, mg8, mg9, mg10, mg12, mg30, mg31, mg32, mg33, mg35, mg36, mg37, mg38, mg39, mg43, mg44, mg45, mg46, mg47, mg48, mg49, mg50, mg53, mg54, mg55, mg56, mg57, mg58, mg59, mg60, mg65, mg66, mg67, mg68, mg69, mg70, mg71, mg72, r1, r2, e1, hf i h0 hi, e2]
      (repeat' (first | (with_reducible exact ixO (by assumption) (by omega)) | with_reducible apply And.intro | with_reducible intro)) <;> (try first | omega | (with_reducible apply Nat.le_refl) | rfl | exact absurd trivial (by assumption))
      · obtain rfl : k = 0 := by omega
        have e : row μ (b + 33) i (stpV σ f x 0) = row μ (b + 33) (σ 0 0) (stpV σ f x 0) := by
          have key : ∀ m, m ≤ σ 0 0 → row μ (b + 33) m (stpV σ f x 0) = μ := fun m hm => row_same (fun j z1 z2 => by
            have := hfq j z1 (by omega)
            rw [hf j z1 (by omega)]
            unfold stpV
            rw [Int.zero_mul, Int.add_zero]
            exact (Int.emod_eq_of_lt this.1 this.2).symm)
          rw [key i h1, key _ (Int.le_refl _)]
        exact hP _ _ _ ⟨rfl, rfl, by rw [e]⟩
    · obtain rfl : i = σ 0 0 := by omega
      simp (disch := first | assumption | omega) only [row_off, row_in, row_out, up_same, up_ne, cpy_off, rwo_off, rwo_at, rwo_out, mg6, mg7, mg8, mg9, mg10, mg12, mg30, mg31, mg32, mg33, mg35, mg36, mg37, mg38, mg39, mg43, mg44, mg45, mg46, mg47, mg48, mg49, mg50, mg53, mg54, mg55, mg56, mg57, mg58, mg59, mg60, mg65, mg66, mg67, mg68, mg69, mg70, mg71, mg72, r1]
      (repeat' (first | (with_reducible exact ixO (by assumption) (by omega)) | with_reducible apply And.intro | with_reducible intro)) <;> (try first | omega | (with_reducible apply Nat.le_refl) | rfl | exact absurd trivial (by assumption))
      exact hP _ _ _ ⟨rfl, rfl, rfl⟩
theorem chaF_ok (hW : Wf σ) : ∀ t, 0 ≤ t → t ≤ σ 0 0 - σ 0 2 → (Wf (chaF σ t).1 ∧ (0 ≤ (chaF σ t).2 ∧ (chaF σ t).2 ≤ 5 * t) ∧ ∀ k j, (k = 0 → j ≠ 5) → k ≠ 3 → k ≠ 5 → (chaF σ t).1 k j = σ k j) := by
  have hw := hW.w
  refine foldI_ind (P := fun t (p : Mu × Int) => Wf p.1 ∧ (0 ≤ p.2 ∧ p.2 ≤ 5 * t) ∧ ∀ k j, (k = 0 → j ≠ 5) → k ≠ 3 → k ≠ 5 → p.1 k j = σ k j) ⟨hW, by show (0 : Int) ≤ 0 ∧ (0 : Int) ≤ 5 * 0; omega, fun _ _ _ _ _ => rfl⟩ (fun t p h0 h1 ⟨h2, h3, h4⟩ => ?_)
  have hc := chsV_b (f := p.1 3) (x := σ 0 2 + t) (y := t) h2
  have e := h4 0 1 (by omega) (by omega) (by omega)
  have hq := hW.2.1.b
  refine ⟨h2.prsN (by unfold isL; rw [h4 _ _ (by omega) (by omega) (by omega)]; omega) _, ?_, fun k j z1 z2 z3 => ?_⟩
  · show 0 ≤ p.2 + _ ∧ p.2 + _ ≤ _
    omega
  · show prsN p.1 _ _ k j = _
    rw [prsN_keep z1 z2 z3, h4 k j z1 z2 z3]
theorem m_chase (hl : l.stackTraces = false) (d : Nat) (hd : 1 < d) {b : Int} (hS : ModS G b) (hG : ModG γ b) (hR : RepR μ b σ) (hW : Wf σ) : Cn l G yX9_chase cX9_chase 5 (some .int) d 0 [aR b] γ μ (PR μ γ b (if σ 0 2 = 0 then σ else (chaF σ (σ 0 0 - σ 0 2)).1) (if σ 0 2 = 0 then -1 else (chaF σ (σ 0 0 - σ 0 2)).2) 0) := by
  refine Cn.ofP hl (plainFor_of_name (by decide)) (noL1 nlR) rfl (fun P hP o1 o3 X hX hC => B_X9_chase_0 hC hS.o ?_)
  have hn := hW.1
  have hq := hW.2.1.b
  have hw := hW.w
  have s3 := ms3 hS; have s33 := ms33 hS
  rw [hR.2.2.1]
  refine ⟨fun h0 => ?_, fun h0 => ⟨Nat.le_refl _, hP _ _ _ ⟨by rw [if_pos h0], rfl, up_same, by rw [if_pos h0]; exact hR.t hW, frB_up frB_rf (by omega)⟩⟩⟩
  simp only [if_neg h0] at hP
  have loop := rem_ind (n := σ 0 0 - σ 0 2) (P := fun t => ∀ m, RepR m b (chaF σ t).1 → m b 0 = 0 → frB μ m b (b + 40) → V X G (Qm X G 0 P) 0 21 [aR b, aI (chaF σ t).2, aI (σ 0 2 + t), aD, aD] [] γ m) (fun t t0 t1 ih m mR m0 mf => ?_)
  · have h9 := loop 0 (by omega) (by omega) _ (hR.t hW) up_same (frB_up frB_rf (by omega))
    rw [Int.add_zero] at h9
    exact h9
  · obtain ⟨g1, g2, g3⟩ := chaF_ok hW t t0 t1
    have gk : ∀ k j, (k = 0 → j ≠ 5) → k ≠ 3 → k ≠ 5 → (chaF σ t).1 k j = σ k j := g3
    have es : chaF σ (t + 1) = (prsN (chaF σ t).1 (σ 0 2 + t) (chsV (chaF σ t).1 ((chaF σ t).1 3) (σ 0 2 + t) t).toNat, (chaF σ t).2 + chsV (chaF σ t).1 ((chaF σ t).1 3) (σ 0 2 + t) t) := foldI_s t0
    generalize hp : chaF σ t = p at *
    obtain ⟨s, v⟩ := p
    dsimp only at *
    have e1 : m b 1 = σ 0 0 := by rw [mR.1, gk _ _ (by omega) (by omega) (by omega)]
    have e3 : m b 3 = σ 0 2 := by rw [mR.2.2.1, gk _ _ (by omega) (by omega) (by omega)]
    have s00 : s 0 0 = σ 0 0 := gk _ _ (by omega) (by omega) (by omega)
    have s01 : s 0 1 = σ 0 1 := gk _ _ (by omega) (by omega) (by omega)
    rcases Int.lt_or_le t (σ 0 0 - σ 0 2) with hi | hi
    · refine B_X9_chase_21 hC hS.o ⟨fun w => absurd (by rw [e1] at w; exact w) (by omega), fun _ => ?_⟩
      have cp := rem_ind (n := σ 0 0) (P := fun i => V X G (Qm X G 0 P) 0 31 [aR b, aI v, aI (σ 0 2 + t), aI i, aD] [] γ (row m (b + 33) i (s 3))) (fun i i0 i1 ihi => ?_)
      · have h9 := cp 0 (by omega) (by omega)
        rw [row_0] at h9
        exact h9
      · refine B_X9_chase_31 hC hS.o ?_
        rcases Int.lt_or_le i (σ 0 0) with hin | hin
        · have hih := ihi hin
          rw [← row_s i0] at hih
          simp (disch := first | assumption | omega) only [row_off, row_in, row_out, up_same, up_ne, cpy_off, rwo_off, rwo_at, rwo_out, mg6, mg7, mg8, mg9, mg10, mg12, mg30, mg31, mg32, mg33, mg35, mg36, mg37, mg38, mg39, mg43, mg44, mg45, mg46, mg47, mg48, mg49, mg50, mg53, mg54, mg55, mg56, mg57, mg58, mg59, mg60, mg65, mg66, mg67, mg68, mg69, mg70, mg71, mg72, e1, mR.2.2.2.2.2.2.2.2.2.2.2.2.1 i i0 (by omega)]
          (repeat' (first | (with_reducible exact ixO (by assumption) (by omega)) | with_reducible apply And.intro | with_reducible intro)) <;> (try first | omega | (with_reducible apply Nat.le_refl) | rfl | exact absurd trivial (by assumption))
          all_goals exact hih
        · obtain rfl : i = σ 0 0 := by omega
          generalize hm2 : row m (b + 33) (σ 0 0) (s 3) = m2
          have f2 : ∀ y j, y ≠ b + 33 → m2 y j = m y j := fun y j h => by rw [← hm2, row_off h]
          have m2R : RepR m2 b s := mR.fr g1 (fun y j h => f2 y j (by unfold keepR at h; omega))
          rw [f2 b 1 (by omega), f2 b 3 (by omega), e1, e3]
          refine ⟨fun _ => ⟨by constructor <;> omega, ?_⟩, fun w => absurd (Int.le_refl _) w⟩
          rw [show σ 0 2 + t - σ 0 2 = t by omega]
          refine ⟨1, 0, _, hd, Nat.le_refl _, hX ▸ m_chases hl 1 (by omega) (f := s 3) hS hG m2R g1 (by unfold isL; omega) (by unfold isL; omega) (fun j z1 z2 => by rw [← hm2, row_in ⟨z1, by omega⟩]) (fun j z1 z2 => (g1.st j z1 (by omega)).1), PI.use ?_⟩
          have hc := chsV_b (f := s 3) (x := σ 0 2 + t) (y := t) g1
          generalize hk : chsV s (s 3) (σ 0 2 + t) t = k at *
          refine B_X9_chase_68 hC hS.o ?_
          have inner := rem_ind (n := k) (P := fun z => ∀ m, RepR m b (prsN s (σ 0 2 + t) z.toNat) → m b 0 = 0 → frB μ m b (b + 40) → V X G (Qm X G 0 P) 0 72 [aR b, aI v, aI (σ 0 2 + t), aI k, aI z] [] γ m) (fun z z0 z1 ihz m3 m3R m30 m3f => ?_)
          · exact inner 0 (by omega) (by omega) m2 m2R (by rw [f2 _ _ (by omega)]; exact m0) (mf.t (fun y j h => f2 y j (by omega)))
          · have gw := g1.prsN (x := σ 0 2 + t) (by unfold isL; omega) z.toNat
            have w00 : prsN s (σ 0 2 + t) z.toNat 0 0 = σ 0 0 := by rw [prsN_keep (by omega) (by omega) (by omega)]; exact s00
            refine B_X9_chase_72 hC hS.o ⟨fun h => ⟨by constructor <;> omega, by constructor <;> omega, ?_⟩, fun h => ?_⟩
            · obtain rfl : z = k := by omega
              have h9 := ih hi m3 (by rw [es]; exact m3R) m30 m3f
              rw [es] at h9
              rw [Int.add_assoc]
              exact h9
            · refine ⟨0, 0, _, by omega, Nat.le_refl _, hX ▸ m_pressOne hl 0 hS hG m3R gw (by unfold isL; omega), ?_⟩
              rintro r γ m4 ⟨rfl, rfl, y3, y4, y5⟩
              refine B_X9_chase_83 hC hS.o ⟨by constructor <;> omega, ?_⟩
              refine ihz (by omega) m4 ?_ (by rw [y3, m30]) (m3f.t (fun y j hy => y5 y j (by omega) (by omega) (by omega)))
              rw [show (z + 1).toNat = z.toNat + 1 by omega]
              exact y4
    · obtain rfl : t = σ 0 0 - σ 0 2 := by omega
      refine B_X9_chase_21 hC hS.o ⟨fun _ => ⟨Nat.le_refl _, hP _ _ _ ⟨by rw [hp], rfl, m0, by rw [hp]; exact mR, mf⟩⟩, fun w => absurd (by rw [e1]; omega) w⟩
theorem m_goesOut (hl : l.stackTraces = false) (d : Nat) (hd : 1 < d) {b : Int} {dg : Int → Int} (hS : ModS G b) (hG : ModG γ b) (hR : RepR μ b σ) (hW : Wf σ) (hw : 1 ≤ σ 0 2) (hdg : ∀ x, 0 ≤ x → x < σ 0 2 → μ (b + 27) x = dg x ∧ 0 ≤ dg x ∧ dg x < σ 0 1) : Cn l G yX9_goesOut cX9_goesOut 3 (some .boolean) d 0 [aR b] γ μ (fun r γ' μ' => r = some (aI (allI (eqP (outV σ dg) (σ 4)) (σ 0 0))) ∧ γ' = γ ∧ ∀ x j, x ≠ b + 33 → μ' x j = μ x j) := by
  refine Cn.ofP hl (plainFor_of_name (by decide)) (noL1 nlR) rfl (fun P hP o1 o3 X hX hC => B_X9_goesOut_0 hC hS.o ?_)
  have hn := hW.1
  have hq := hW.2.1.b
  have hww := hW.w
  obtain ⟨r1, r2, r3, r4, r5, r6, r7, r8, r9, r10, ra1, ra2, ra3, ra4, -⟩ := id hR
  have s3 := ms3 hS; have s4 := ms4 hS; have s27 := ms27 hS; have s33 := ms33 hS
  have fr : ∀ m : Mu, (∀ x j, x ≠ b + 33 → m x j = μ x j) → RepR m b σ := fun m fm => hR.fr hW (fun y j h => fm y j (by unfold keepR at h; omega))
  have L4 : ∀ m : Mu, (∀ x j, x ≠ b + 33 → m x j = μ x j) → (∀ j, 0 ≤ j → j < σ 0 0 → m (b + 33) j = outV σ dg j) → V X G (Qm X G 0 P) 0 94 [aR b, aI 1, aI 0] [] γ m := fun m fm mf => by
    have loop := rem_ind (n := σ 0 0) (P := fun i => V X G (Qm X G 0 P) 0 94 [aR b, aI (allI (eqP (outV σ dg) (σ 4)) i), aI i] [] γ m) (fun i h0 h1 ih => ?_)
    · exact loop 0 (by omega) (by omega)
    · have h01 := allI_01 (eqP (outV σ dg) (σ 4)) i
      refine B_X9_goesOut_94 hC hS.o ?_
      rcases Int.lt_or_le i (σ 0 0) with hi | hi
      · have hih := ih hi
        have ea : allI (eqP (outV σ dg) (σ 4)) (i + 1) = if allI (eqP (outV σ dg) (σ 4)) i = 0 then 0 else if eqP (outV σ dg) (σ 4) i = 0 then 0 else 1 := foldI_s h0
        rw [ea] at hih
        simp (disch := first | assumption | omega) only [row_off, row_in, row_out, up_same, up_ne, cpy_off, rwo_off, rwo_at, rwo_out, mg6, mg7, mg8, mg9, mg10, mg12, mg30, mg31, mg32, mg33, mg35, mg36, mg37, mg38, mg39, mg43, mg44, mg45, mg46, mg47, mg48, mg49, mg50, mg53, mg54, mg55, mg56, mg57, mg58, mg59, mg60, mg65, mg66, mg67, mg68, mg69, mg70, mg71, mg72, fm b 1 (by omega), r1, mf i h0 hi, fm (b + 4) i (by omega), ra4 i h0 (by omega)]
        (repeat' (first | (with_reducible exact ixO (by assumption) (by omega)) | with_reducible apply And.intro | with_reducible intro)) <;> (try first | omega | (with_reducible apply Nat.le_refl) | rfl | exact absurd trivial (by assumption))
        · rename_i h
          rw [if_pos h] at hih
          exact hih
        · rename_i h h2
          rw [if_neg h, eqP_0 h2, if_pos rfl] at hih
          exact hih
        · rename_i h h2
          rw [if_neg h, eqP_1 h2, if_neg (by decide)] at hih
          exact hih
      · obtain rfl : i = σ 0 0 := by omega
        simp (disch := first | assumption | omega) only [row_off, row_in, row_out, up_same, up_ne, cpy_off, rwo_off, rwo_at, rwo_out, mg6, mg7, mg8, mg9, mg10, mg12, mg30, mg31, mg32, mg33, mg35, mg36, mg37, mg38, mg39, mg43, mg44, mg45, mg46, mg47, mg48, mg49, mg50, mg53, mg54, mg55, mg56, mg57, mg58, mg59, mg60, mg65, mg66, mg67, mg68, mg69, mg70, mg71, mg72, fm b 1 (by omega), r1]
        (repeat' (first | (with_reducible exact ixO (by assumption) (by omega)) | with_reducible apply And.intro | with_reducible intro)) <;> (try first | omega | (with_reducible apply Nat.le_refl) | rfl | exact absurd trivial (by assumption))
        exact hP _ _ _ ⟨rfl, rfl, fm⟩
  have L3 := rem_ind (n := σ 0 0 - σ 0 2) (P := fun t => ∀ m : Mu, (∀ x j, x ≠ b + 33 → m x j = μ x j) → (∀ j, 0 ≤ j → j < σ 0 0 → m (b + 33) j = chF σ (tpF σ dg (σ 0 2)) t j) → inQ (σ 0 0) (σ 0 1) (chF σ (tpF σ dg (σ 0 2)) t) → V X G (Qm X G 0 P) 0 60 [aR b, aI (σ 0 2 + t), aD] [] γ m) (fun t t0 t1 ih m fm mf mq => ?_)
  · have L2 := rem_ind (n := σ 0 2) (P := fun i => ∀ m : Mu, (∀ x j, x ≠ b + 33 → m x j = μ x j) → (∀ j, 0 ≤ j → j < σ 0 0 → m (b + 33) j = tpF σ dg i j) → inQ (σ 0 0) (σ 0 1) (tpF σ dg i) → V X G (Qm X G 0 P) 0 30 [aR b, aI i, aD] [] γ m) (fun i i0 i1 ih m fm mf mq => ?_)
    · have L1 := rem_ind (n := σ 0 0) (P := fun i => V X G (Qm X G 0 P) 0 2 [aR b, aI i, aD] [] γ (row μ (b + 33) i (σ 3))) (fun i i0 i1 ih => ?_)
      · have h9 := L1 0 (by omega) (by omega)
        rw [row_0] at h9
        exact h9
      · refine B_X9_goesOut_2 hC hS.o ?_
        rcases Int.lt_or_le i (σ 0 0) with hi | hi
        · have hih := ih hi
          rw [← row_s i0] at hih
          simp (disch := first | assumption | omega) only [row_off, row_in, row_out, up_same, up_ne, cpy_off, rwo_off, rwo_at, rwo_out, mg6, mg7, mg8, mg9, mg10, mg12, mg30, mg31, mg32, mg33, mg35, mg36, mg37, mg38, mg39, mg43, mg44, mg45, mg46, mg47, mg48, mg49, mg50, mg53, mg54, mg55, mg56, mg57, mg58, mg59, mg60, mg65, mg66, mg67, mg68, mg69, mg70, mg71, mg72, r1, ra3 i i0 (by omega)]
          (repeat' (first | (with_reducible exact ixO (by assumption) (by omega)) | with_reducible apply And.intro | with_reducible intro)) <;> (try first | omega | (with_reducible apply Nat.le_refl) | rfl | exact absurd trivial (by assumption))
          all_goals exact hih
        · obtain rfl : i = σ 0 0 := by omega
          have h9 := L2 0 (by omega) (by omega) (row μ (b + 33) (σ 0 0) (σ 3)) (fun x j h => row_off h) (fun j z1 z2 => row_in ⟨z1, z2⟩) (fun j z1 z2 => (hW.st j z1 (by omega)).1)
          simp (disch := first | assumption | omega) only [row_off, row_in, row_out, up_same, up_ne, cpy_off, rwo_off, rwo_at, rwo_out, mg6, mg7, mg8, mg9, mg10, mg12, mg30, mg31, mg32, mg33, mg35, mg36, mg37, mg38, mg39, mg43, mg44, mg45, mg46, mg47, mg48, mg49, mg50, mg53, mg54, mg55, mg56, mg57, mg58, mg59, mg60, mg65, mg66, mg67, mg68, mg69, mg70, mg71, mg72, r1]
          (repeat' (first | (with_reducible exact ixO (by assumption) (by omega)) | with_reducible apply And.intro | with_reducible intro)) <;> (try first | omega | (with_reducible apply Nat.le_refl) | rfl | exact absurd trivial (by assumption))
          all_goals exact h9
    · refine B_X9_goesOut_30 hC hS.o ?_
      rw [fm b 3 (by omega), r3, mg56 hG, fm (b + 27) i (by omega)]
      rcases Int.lt_or_le i (σ 0 2) with hi | hi
      · obtain ⟨d1, d2, d3⟩ := hdg i i0 hi
        rw [d1]
        refine ⟨fun w => absurd w (by omega), fun _ => ⟨ixO s27 (by omega), ?_⟩⟩
        refine ⟨0, 0, _, by omega, Nat.le_refl _, hX ▸ m_shows hl 0 (f := tpF σ dg i) hS hG (fr m fm) hW (by unfold isL; omega) ⟨d2, d3⟩ mf mq, PV.use ?_⟩
        have es : tpF σ dg (i + 1) = stpV σ (tpF σ dg i) i (dg i) := foldI_s i0
        refine B_X9_goesOut_49 hC hS.o ⟨by constructor <;> omega, ih hi _ (fun x j h => by rw [row_off h, fm x j h]) (fun j z1 z2 => by rw [row_in ⟨z1, z2⟩, es]) (by rw [es]; exact stpV_in hW)⟩
      · obtain rfl : i = σ 0 2 := by omega
        refine ⟨fun _ => ?_, fun w => absurd hi w⟩
        have h9 := L3 0 (by omega) (by omega) m fm mf mq
        rw [Int.add_zero] at h9
        exact h9
  · refine B_X9_goesOut_60 hC hS.o ?_
    rw [fm b 1 (by omega), fm b 3 (by omega), r1, r3, show σ 0 2 + t - σ 0 2 = t by omega]
    rcases Int.lt_or_le t (σ 0 0 - σ 0 2) with hi | hi
    · refine ⟨fun w => absurd w (by omega), fun _ => ⟨by constructor <;> omega, ?_⟩⟩
      refine ⟨1, 0, _, hd, Nat.le_refl _, hX ▸ m_chases hl 1 (by omega) hS hG (fr m fm) hW (by unfold isL; omega) (by unfold isL; omega) mf mq, PI.use ?_⟩
      refine B_X9_goesOut_81 hC hS.o ⟨hS.o, ?_⟩
      refine ⟨0, 0, _, by omega, Nat.le_refl _, hX ▸ m_shows hl 0 hS hG (fr m fm) hW (by unfold isL; omega) (chsV_b hW) mf mq, PV.use ?_⟩
      have es : chF σ (tpF σ dg (σ 0 2)) (t + 1) = stpV σ (chF σ (tpF σ dg (σ 0 2)) t) (σ 0 2 + t) (chsV σ (chF σ (tpF σ dg (σ 0 2)) t) (σ 0 2 + t) t) := foldI_s t0
      refine B_X9_goesOut_84 hC hS.o ⟨by constructor <;> omega, ?_⟩
      rw [Int.add_assoc]
      exact ih hi _ (fun x j h => by rw [row_off h, fm x j h]) (fun j z1 z2 => by rw [row_in ⟨z1, z2⟩, es]) (by rw [es]; exact stpV_in hW)
    · obtain rfl : t = σ 0 0 - σ 0 2 := by omega
      exact ⟨fun _ => L4 m fm mf, fun w => absurd (by omega) w⟩
set_option maxHeartbeats 2000000 in
theorem m_top (hl : l.stackTraces = false) (d : Nat) (hd : 2 < d) {b : Int} (hS : ModS G b) (hG : ModG γ b) (hR : RepR μ b σ) (hW : Wf σ) : Cn l G yX9_top cX9_top 7 (some .int) d 0 [aR b] γ μ (PR μ γ b σ (topF σ) 0) := by
  refine Cn.ofP hl (plainFor_of_name (by decide)) (noL1 nlR) rfl (fun P hP o1 o3 X hX hC => B_X9_top_0 hC hS.o ?_)
  have hn := hW.1
  have hq := hW.2.1.b
  have hww := hW.w
  have s2 := ms2 hS; have s27 := ms27 hS
  rw [hR.2.2.1]
  unfold topF at hP
  refine ⟨fun h0 => ?_, fun h0 => ⟨Nat.le_refl _, hP _ _ _ ⟨by rw [if_pos h0], rfl, up_same, hR.t hW, frB_up frB_rf (by omega)⟩⟩⟩
  simp only [if_neg h0] at hP
  have ew : (((σ 0 2).toNat : Nat) : Int) = σ 0 2 := by omega
  have h6 := q6_le hW.2.1 (w := (σ 0 2).toNat) (by omega)
  have h9 := m_power (l := l) (G := G) (γ := γ) (μ := up μ b 0 0) hl 0 (b := b) (q := σ 0 1) (most := 20000) (σ 0 2).toNat hS (by rw [up_ne (by omega)]; exact hR.2.1) hq (by decide) (by omega)
  rw [ew, if_pos (by omega)] at h9
  refine ⟨0, 0, _, by omega, Nat.le_refl _, hX ▸ h9, PI.use ?_⟩
  refine B_X9_top_25 hC hS.o ?_
  generalize hN : σ 0 1 ^ (σ 0 2).toNat = N at *
  have loop := rem_ind (n := N) (P := fun t => fs (okT σ) N t = fs (okT σ) N 0 → ∀ m : Mu, RepR m b σ → m b 0 = 0 → frB μ m b (b + 40) → V X G (Qm X G 0 P) 0 28 [aR b, aI N, aI t, aD, aD, aD, aD] [] γ m) (fun t t0 t1 ih ht m mR m0 mf => ?_)
  · have := pw_pos (q := σ 0 1) (by omega) (σ 0 2).toNat
    exact loop 0 (by omega) (by omega) rfl _ (hR.t hW) up_same (frB_up frB_rf (by omega))
  · refine B_X9_top_28 hC hS.o ?_
    rw [mR.2.2.1]
    refine ⟨fun h => ⟨Nat.le_refl _, hP _ _ _ ⟨by rw [← ht, fs_ge h, if_pos rfl], rfl, m0, mR, mf⟩⟩, fun h => ⟨by constructor <;> omega, ?_⟩⟩
    have inner := rem_ind (n := σ 0 2) (P := fun k => ∀ m2 : Mu, (∀ x j, x ≠ b + 27 → m2 x j = m x j) → (∀ x, σ 0 2 - 1 - k < x → x < σ 0 2 → m2 (b + 27) x = digT (σ 0 1) (σ 0 2) t x) → V X G (Qm X G 0 P) 0 49 [aR b, aI N, aI t, aI (rst (σ 0 1) t k.toNat), aI (nmT (σ 0 1) t k), aI (allI (grd σ t) k), aI (σ 0 2 - 1 - k)] [] γ m2) (fun k k0 k1 ihk m2 f2 d2 => ?_)
    · have h9 := inner 0 (by omega) (by omega) m (fun _ _ _ => rfl) (fun x z1 z2 => by omega)
      rw [Int.sub_zero] at h9
      exact h9
    · have m2R : RepR m2 b σ := mR.fr hW (fun y j h => f2 y j (by unfold keepR at h; omega))
      have hb := rst_b hq.1 t0 k.toNat
      have hnb := nmT_b (t := t) hW.2.1 k k0 k1
      have h01 := allI_01 (grd σ t) k
      rcases Int.lt_or_le k (σ 0 2) with hk | hk
      · have hkq := pw_mono (q := σ 0 1) (by omega) (show k.toNat ≤ 6 by omega)
        have hk6 := q6_le hW.2.1 (w := 6) (by omega)
        have e1 : (rst (σ 0 1) t k.toNat).tmod (σ 0 1) = rst (σ 0 1) t k.toNat % σ 0 1 := Int.tmod_eq_emod_of_nonneg hb.1
        have e2 : (rst (σ 0 1) t k.toNat).tdiv (σ 0 1) = rst (σ 0 1) t (k + 1).toNat := by
          rw [Int.tdiv_eq_ediv_of_nonneg hb.1, show (k + 1).toNat = k.toNat + 1 by omega]
          rfl
        have b1 := Int.emod_nonneg (rst (σ 0 1) t k.toNat) (show σ 0 1 ≠ 0 by omega)
        have b2 := Int.emod_lt_of_pos (rst (σ 0 1) t k.toNat) (show 0 < σ 0 1 by omega)
        have b3 := mulR (a := nmT (σ 0 1) t k) (b := σ 0 1) (m := 20000) (by omega) (by omega)
        have en : nmT (σ 0 1) t (k + 1) = nmT (σ 0 1) t k * σ 0 1 + rst (σ 0 1) t k.toNat % σ 0 1 := foldI_s k0
        have ea : allI (grd σ t) (k + 1) = if allI (grd σ t) k = 0 then 0 else if grd σ t k = 0 then 0 else 1 := foldI_s k0
        have nxt : ∀ z, z = allI (grd σ t) (k + 1) → V X G (Qm X G 0 P) 0 104 [aR b, aI N, aI t, aI (rst (σ 0 1) t (k + 1).toNat), aI (nmT (σ 0 1) t k), aD, aI (σ 0 2 - 1 - k)] [aI z] γ (up m2 (b + 27) (σ 0 2 - 1 - k) (rst (σ 0 1) t k.toNat % σ 0 1)) := fun z hz => by
          refine B_X9_top_104 hC hS.o ?_
          have h9 := ihk hk (up m2 (b + 27) (σ 0 2 - 1 - k) (rst (σ 0 1) t k.toNat % σ 0 1)) (fun x j h => by rw [up_ne (by omega), f2 x j h]) (fun x z1 z2 => by
            by_cases e : x = σ 0 2 - 1 - k
            · rw [e, up_same]
              unfold digT
              rw [show σ 0 2 - 1 - (σ 0 2 - 1 - k) = k by omega]
            · rw [up_ne (by omega)]; exact d2 x (by omega) z2)
          rw [en, ← hz, show σ 0 2 - 1 - (k + 1) = σ 0 2 - 1 - k + -1 by omega] at h9
          simp (disch := first | assumption | omega) only [row_off, row_in, row_out, up_same, up_ne, cpy_off, rwo_off, rwo_at, rwo_out, mg6, mg7, mg8, mg9, mg10, mg12, mg30, mg31, mg32, mg33, mg35, mg36, mg37, mg38, mg39, mg43, mg44, mg45, mg46, mg47, mg48, mg49, mg50, mg53, mg54, mg55, mg56, mg57, mg58, mg59, mg60, mg65, mg66, mg67, mg68, mg69, mg70, mg71, mg72, m2R.2.1]
          (repeat' (first | (with_reducible exact ixO (by assumption) (by omega)) | with_reducible apply And.intro | with_reducible intro)) <;> (try first | omega | (with_reducible apply Nat.le_refl) | rfl | exact absurd trivial (by assumption))
          all_goals exact h9
        refine B_X9_top_49 hC hS.o ?_
        simp (disch := first | assumption | omega) only [row_off, row_in, row_out, up_same, up_ne, cpy_off, rwo_off, rwo_at, rwo_out, mg6, mg7, mg8, mg9, mg10, mg12, mg30, mg31, mg32, mg33, mg35, mg36, mg37, mg38, mg39, mg43, mg44, mg45, mg46, mg47, mg48, mg49, mg50, mg53, mg54, mg55, mg56, mg57, mg58, mg59, mg60, mg65, mg66, mg67, mg68, mg69, mg70, mg71, mg72, m2R.2.1, m2R.2.2.2.2.2.2.2.2.2.2.2.1 (σ 0 2 - 1 - k) (by omega) (by omega), e1, e2]
        (repeat' (first | (with_reducible exact ixO (by assumption) (by omega)) | with_reducible apply And.intro | with_reducible intro)) <;> (try first | omega | (with_reducible apply Nat.le_refl) | rfl | exact absurd trivial (by assumption))
        · rename_i h
          exact nxt _ (by rw [ea, if_pos h])
        · rename_i h h2
          exact nxt _ (by rw [ea, if_neg h, if_neg (show ¬ grd σ t k = 0 by unfold grd; rw [if_pos h2]; decide)])
        · rename_i h h2 h3
          exact nxt _ (by rw [ea, if_neg h, if_pos (show grd σ t k = 0 by unfold grd; rw [if_neg h2, if_neg h3])])
        · rename_i h h2 h3
          exact nxt _ (by rw [ea, if_neg h, if_neg (show ¬ grd σ t k = 0 by unfold grd; rw [if_neg h2, if_pos h3]; decide)])
      · obtain rfl : k = σ 0 2 := by omega
        refine B_X9_top_49 hC hS.o ⟨fun _ => ⟨fun h5 => ⟨by constructor <;> omega, ?_⟩, fun h5 => ?_⟩, fun w => absurd (by omega) w⟩
        · exact ih (by omega) (by rw [← ht, fs_1 (f := okT σ) (i := t) (by omega) (by unfold okT; rw [if_pos h5])]) m2 m2R (by rw [f2 _ _ (by omega)]; exact m0) (mf.t (fun y j h => f2 y j (by omega)))
        · have hdq : ∀ x, 0 ≤ x → x < σ 0 2 → m2 (b + 27) x = digT (σ 0 1) (σ 0 2) t x ∧ 0 ≤ digT (σ 0 1) (σ 0 2) t x ∧ digT (σ 0 1) (σ 0 2) t x < σ 0 1 := fun x z1 z2 => ⟨d2 x (by omega) z2, Int.emod_nonneg _ (by omega), Int.emod_lt_of_pos _ (by omega)⟩
          refine ⟨2, 0, _, hd, Nat.le_refl _, hX ▸ m_goesOut hl 2 (by omega) hS hG m2R hW (by omega) hdq, ?_⟩
          rintro r γ m3 ⟨rfl, rfl, f3⟩
          have m3R : RepR m3 b σ := m2R.fr hW (fun y j h => f3 y j (by unfold keepR at h; omega))
          have m30 : m3 b 0 = 0 := by rw [f3 _ _ (by omega), f2 _ _ (by omega)]; exact m0
          have m3f : frB μ m3 b (b + 40) := (mf.t (fun y j h => f2 y j (by omega))).t (fun y j h => f3 y j (by omega))
          have eo : okT σ t = allI (eqP (outV σ (digT (σ 0 1) (σ 0 2) t)) (σ 4)) (σ 0 0) := by unfold okT; rw [if_neg h5]
          refine B_X9_top_138 hC hS.o ⟨fun h7 => ⟨by constructor <;> omega, ?_⟩, fun h7 => ⟨Nat.le_refl _, ?_⟩⟩
          · exact ih (by omega) (by rw [← ht, fs_1 (f := okT σ) (i := t) (by omega) (by rw [eo]; exact h7)]) m3 m3R m30 m3f
          · have e9 : fs (okT σ) N 0 = t := by rw [← ht, fs_2 (f := okT σ) (i := t) (by omega) (by rw [eo]; exact h7)]
            exact hP _ _ _ ⟨by rw [e9, if_neg (by omega)], rfl, m30, m3R, m3f⟩
end MChase
