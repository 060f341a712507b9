/-! the reference: hard, makes, isShownAhead, nearest, near -/
/-- own buttons, as if they were bound ones: the rows that presses of them make -/
def SoF (σ : Mu) : GS := (0, fun _ => 0, fun _ => 0, fun _ _ => 0, fun _ _ => 0, (SbF σ).c, fun _ => 0, fun r => sA σ ((SbF σ).od r))
theorem SoF_tc {σ : Mu} : (SoF σ).tc = (SbF σ).c := rfl
theorem SoF_tv {σ : Mu} : (SoF σ).tv = fun r => sA σ ((SbF σ).od r) := rfl
def unlC (f g : Int → Int) (i : Int) : Int := foldI (fun v j => v + unl f g j) 0 i
theorem unl_01 (f g : Int → Int) (j : Int) : unl f g j = 0 ∨ unl f g j = 1 := by unfold unl; split <;> simp
theorem unlC_b (f g : Int → Int) {n : Int} : ∀ i, 0 ≤ i → i ≤ n → 0 ≤ unlC f g i ∧ unlC f g i ≤ i := foldI_ind (P := fun i x => 0 ≤ x ∧ x ≤ i) (by omega) (fun i x h0 h1 hx => by have := unl_01 f g i; omega)
theorem unlC_cong {f g h : Int → Int} {n : Int} (hn : 0 ≤ n) (hh : ∀ j, 0 ≤ j → j < n → f j = g j) : unlC f h n = unlC g h n := foldI_cong (fun i x z1 z2 => by unfold unl; rw [hh i z1 z2]) n hn (Int.le_refl _)
def NearR (σ : Mu) (z : Int) (σ' : Mu) : Prop :=
  (10000 < σ 0 1 ^ (SbF σ).c ∧ z = -2 ∧ σ' = σ) ∨ (σ 0 1 ^ (SbF σ).c ≤ 10000 ∧ ∃ best, BestD (σ 0 0) (fun f => unlC f (σ 4) (σ 0 0)) (DRv (σ 0 1) (SoF σ) (σ 3) (σ 0 1 ^ (SbF σ).c)) z best ∧ σ' = up (row σ 10 36 best) 0 9 1)
def hrdF (σ : Mu) (k : Int) : Int := if 10000 < σ 0 1 ^ (SbF σ).c then -2 else if k = -1 then hdMax (σ 0 0) (σ 0 1) (sA σ) (σ 2) else if k < 0 ∨ hdMax (σ 0 0) (σ 0 1) (sA σ) (σ 2) < k then 0 else hdCnt (σ 0 0) (σ 0 1) (sA σ) (σ 2) k
theorem RepR.hd {μ m σ : Mu} {b : Int} (hR : RepR μ b σ) (hW : Wf σ) (hf : ∀ x j, (x < b + 28 ∨ b + 31 < x) → (x = b → j ≠ 61 ∧ j ≠ 62 ∧ j ≠ 63) → m x j = μ x j) (hk : m b 61 ≠ 0 → HdR m b (σ 0 0) (σ 0 1) (sA σ) (σ 2)) : RepR m b σ := by
  obtain ⟨r1, r2, r3, r4, r5, r6, r7, r8, r9, r10, ra1, ra2, ra3, ra4, ra5, ra6, ra7, ra8, ra9, ra10, rk, rh⟩ := id hR
  refine ⟨?_, ?_, ?_, ?_, ?_, ?_, ?_, ?_, ?_, ?_, fun j z1 z2 => ?_, fun j z1 z2 => ?_, fun j z1 z2 => ?_, fun j z1 z2 => ?_, fun j z1 z2 => ?_, fun j z1 z2 => ?_, fun j z1 z2 => ?_, fun j z1 z2 => ?_, fun w j z1 z2 => ?_, fun w j z1 z2 => ?_, fun w => ?_, hk⟩
  case refine_21 => rw [hf _ _ (by omega) (by omega)] at w; exact (rk w).fr hW.1.2 ⟨hf _ _ (by omega) (by omega), hf _ _ (by omega) (by omega), hf _ _ (by omega) (by omega)⟩ (fun x j z1 z2 => hf _ _ (by omega) (by omega))
  all_goals rw [hf _ _ (by omega) (by omega)]
  all_goals first | assumption | (apply_assumption <;> assumption)
section MNear
variable {l : Launch} {G : Gx} {γ μ σ : Mu}
theorem hdMax_b {n q : Int} {A : Int → Int → Int} {jm : Int → Int} (hq : 0 < q) : 0 ≤ hdMax n q A jm ∧ hdMax n q A jm < q ^ (Sbt n q A jm).c := by
  have hp := pw_pos hq (Sbt n q A jm).c
  have hi := bRun_inv (N := (q ^ (Sbt n q A jm).c).toNat) (n := n.toNat) (nx := nxH n q A jm) (s := 0) ⟨by omega, by omega⟩ (nxH_ok hq) (q ^ (Sbt n q A jm).c).toNat
  have h1 := hi.le
  have h2 := hi.2.1 (((bRun (nxH n q A jm) n.toNat 0 (q ^ (Sbt n q A jm).c).toNat).last : Int) - 1) (by have := hi.1; omega) (by omega)
  have h3 : 0 ≤ hdMax n q A jm ∧ hdMax n q A jm ≤ ((bRun (nxH n q A jm) n.toNat 0 (q ^ (Sbt n q A jm).c).toNat).last : Int) - 1 := h2.2
  omega
theorem m_hard (hl : l.stackTraces = false) (d : Nat) (hd : 2 < d) {b x : Int} (hS : ModS G b) (hG : ModG γ b) (hR : RepR μ b σ) (hW : Wf σ) : Cn l G yX9_hard cX9_hard 2 (some .int) d 0 [aR b, aI x] γ μ (PR μ γ b σ (hrdF σ x) 0) := by
  refine Cn.ofP hl (plainFor_of_name (by decide)) (noLc nlR (noL1 nlI)) rfl (fun P hP o1 o3 X hX hC => B_X9_hard_0 hC hS.o ?_)
  have hn := hW.1
  have hq := hW.2.1.b
  have hb1 := Sb_le hW
  have s31 := ms31 hS
  refine ⟨2, 0, _, hd, Nat.le_refl _, hX ▸ m_knowsR hl 2 (by omega) hS hG (hR.t hW) hW, ?_⟩
  rintro r γ m0 ⟨rfl, rfl, z3, z4, z5, z6⟩
  have z0 : m0 b 0 = 0 := by rw [z3]; exact up_same
  have hfr : frB μ m0 b (b + 40) := (frB_up frB_rf (by omega)).t z6
  refine B_X9_hard_9 hC hS.o ?_
  rw [z5.s.1.1]
  refine ⟨0, 0, _, by omega, Nat.le_refl _, hX ▸ m_power hl 0 (SbF σ).c hS z4.2.1 hq (by decide) (by omega), PI.use ?_⟩
  unfold hrdF at hP
  by_cases hsp : σ 0 1 ^ (SbF σ).c ≤ 10000
  case neg =>
    rw [if_neg hsp]
    refine B_X9_hard_20 hC hS.o ?_
    (repeat' (first | (with_reducible exact ixO (by assumption) (by omega)) | with_reducible apply And.intro | with_reducible intro)) <;> (try first | omega | (with_reducible apply Nat.le_refl) | rfl | exact absurd trivial (by assumption))
    exact hP _ _ _ ⟨by rw [if_pos (by omega)], rfl, z0, z4, hfr⟩
  rw [if_pos hsp]
  refine B_X9_hard_20 hC hS.o ⟨fun _ => ?_, fun w => absurd hsp w⟩
  refine ⟨1, 0, _, by omega, Nat.le_refl _, hX ▸ m_reckons hl 1 (by omega) hS hG (z4.md hW) z5 hsp z4.2.2.2.2.2.2.2.2.2.2.2.2.2.2.2.2.2.2.2.2.2, ?_⟩
  rintro r γ m1 ⟨rfl, rfl, y1, y2, y3⟩
  have q0 : m1 b 0 = 0 := by rw [y3 _ _ (by omega) (by omega), z0]
  have qR : RepR m1 b σ := z4.hd hW y3 (fun _ => y2)
  have qf : frB μ m1 b (b + 40) := hfr.t (fun x j h => y3 x j (by omega) (by omega))
  have hm := hdMax_b (n := σ 0 0) (q := σ 0 1) (A := sA σ) (jm := σ 2) (by omega)
  have hm2 : hdMax (σ 0 0) (σ 0 1) (sA σ) (σ 2) < 10000 := Int.lt_of_lt_of_le hm.2 hsp
  have fin : ∀ z, z = (if x = -1 then hdMax (σ 0 0) (σ 0 1) (sA σ) (σ 2) else if x < 0 ∨ hdMax (σ 0 0) (σ 0 1) (sA σ) (σ 2) < x then 0 else hdCnt (σ 0 0) (σ 0 1) (sA σ) (σ 2) x) → P (some (aI z)) γ m1 := fun z hz => hP _ _ _ ⟨by rw [if_neg (by omega), hz], rfl, q0, qR, qf⟩
  refine B_X9_hard_33 hC hS.o ?_
  rw [y2.1, mg60 hG]
  refine ⟨fun h => ⟨fun h2 => ⟨Nat.le_refl _, fin _ (by rw [if_neg h, if_pos (Or.inl h2)])⟩, fun h2 => ⟨fun h3 => ⟨ixO s31 (by omega), Nat.le_refl _, fin _ (by rw [if_neg h, if_neg (by omega)]; exact y2.2 x (by omega) h3)⟩, fun h3 => ⟨Nat.le_refl _, fin _ (by rw [if_neg h, if_pos (Or.inr (by omega))])⟩⟩⟩, fun h => ⟨Nat.le_refl _, fin _ (by rw [if_pos h])⟩⟩
theorem m_isShownAhead (hl : l.stackTraces = false) (d : Nat) {b n : Int} {f g : Int → Int} (hS : ModS G b) (hG : ModG γ b) (en : μ b 1 = n) (hn : 0 ≤ n ∧ n ≤ 36) (hf : ∀ j, 0 ≤ j → j < n → μ (b + 33) j = f j) (hg : ∀ j, 0 ≤ j → j < n → μ (b + 32) j = g j) : Cn l G yX9_isShownAhead cX9_isShownAhead 2 (some .boolean) d 0 [aR b] γ μ (PI (ahF f g n) γ μ) := by
  refine Cn.ofP hl (plainFor_of_name (by decide)) (noL1 nlR) rfl (fun P hP o1 o3 X hX hC => B_X9_isShownAhead_0 hC hS.o ?_)
  have s32 := ms32 hS; have s33 := ms33 hS
  have fin : ∀ z, z = ahF f g n → P (some (aI z)) γ μ := fun z hz => hP _ _ _ ⟨by rw [hz], rfl, rfl⟩
  have loop := rem_ind (n := n) (P := fun i => fs (unl f g) n i = fs (unl f g) n 0 → V X G (Qm X G 0 P) 0 2 [aR b, aI i] [] γ μ) (fun i h0 h1 ih hi => ?_)
  · exact loop 0 (by omega) (by omega) rfl
  · unfold ahF at fin
    refine B_X9_isShownAhead_2 hC hS.o ?_
    rcases Int.lt_or_le i n with hin | hin
    · simp (disch := first | assumption | omega) only [row_off, row_in, row_out, up_same, up_ne, cpy_off, rwo_off, rwo_at, rwo_out, mg6, mg7, mg8, mg9, mg10, mg12, mg30, mg31, mg32, mg33, mg35, mg36, mg37, mg38, mg39, mg43, mg44, mg45, mg46, mg47, mg48, mg49, mg50, mg53, mg54, mg55, mg56, mg57, mg58, mg59, mg60, mg65, mg66, mg67, mg68, mg69, mg70, mg71, mg72, en, hf i h0 hin, hg i h0 hin]
      (repeat' (first | (with_reducible exact ixO (by assumption) (by omega)) | with_reducible apply And.intro | with_reducible intro)) <;> (try first | omega | (with_reducible apply Nat.le_refl) | rfl | exact absurd trivial (by assumption))
      · rename_i h
        exact ih hin (by rw [← hi, fs_1 (f := unl f g) hin (if_pos h)])
      · rename_i h h2
        refine fin _ ?_
        rw [← hi, fs_2 (f := unl f g) hin (by unfold unl; rw [if_neg h]; decide), if_neg (by omega), if_neg (by omega)]
      · rename_i h h2
        refine fin _ ?_
        rw [← hi, fs_2 (f := unl f g) hin (by unfold unl; rw [if_neg h]; decide), if_neg (by omega), if_pos (by omega)]
    · simp (disch := first | assumption | omega) only [row_off, row_in, row_out, up_same, up_ne, cpy_off, rwo_off, rwo_at, rwo_out, mg6, mg7, mg8, mg9, mg10, mg12, mg30, mg31, mg32, mg33, mg35, mg36, mg37, mg38, mg39, mg43, mg44, mg45, mg46, mg47, mg48, mg49, mg50, mg53, mg54, mg55, mg56, mg57, mg58, mg59, mg60, mg65, mg66, mg67, mg68, mg69, mg70, mg71, mg72, en]
      (repeat' (first | (with_reducible exact ixO (by assumption) (by omega)) | with_reducible apply And.intro | with_reducible intro)) <;> (try first | omega | (with_reducible apply Nat.le_refl) | rfl | exact absurd trivial (by assumption))
      refine fin _ ?_
      rw [← hi, fs_ge (by omega), if_pos rfl]
set_option maxHeartbeats 2000000 in
theorem m_makes (hl : l.stackTraces = false) (d : Nat) {b n q : Int} {S : GS} {od x0 dd : Int → Int} (hS : ModS G b) (hG : ModG γ b) (en : μ b 1 = n) (eq : μ b 2 = q) (ec : μ b 40 = S.tc) (hn : 0 ≤ n ∧ n ≤ 36) (hq : 2 ≤ q ∧ q ≤ 5) (htc : S.tc ≤ 36) (hdd : dgs q S.tc dd) (hdm : ∀ i : Int, 0 ≤ i → i < S.tc → μ (b + 27) i = dd i) (htr : ∀ j, 0 ≤ j → j < n → μ (b + 33) j = mixI q S x0 dd j) (hod : ∀ i : Int, 0 ≤ i → i < S.tc → μ (b + 16) i = od i ∧ 0 ≤ od i ∧ od i < n) (hqt : ∀ i : Int, 0 ≤ i → i < S.tc → ∀ j, 0 ≤ j → j < n → μ (b + 1) (36 * od i + j) = S.tv i j) (hti : ∀ i : Int, 0 ≤ i → i < S.tc → inQ n q (S.tv i)) :
    Cn l G yX9_makes cX9_makes 3 (some .boolean) d 0 [aR b] γ μ (fun r γ' μ' => γ' = γ ∧ (∀ x j, x ≠ b + 33 → x ≠ b + 27 → μ' x j = μ x j) ∧ ((r = some (aI 1) ∧ ∃ d', dgs q S.tc d' ∧ (∀ i : Int, 0 ≤ i → i < S.tc → μ' (b + 27) i = d' i) ∧ (∀ j, 0 ≤ j → j < n → μ' (b + 33) j = mixI q S x0 d' j) ∧ vlN q d' S.tc = vlN q dd S.tc + 1) ∨ (r = some (aI 0) ∧ vlN q dd S.tc + 1 = q ^ S.tc))) := by
  refine Cn.ofP hl (plainFor_of_name (by decide)) (noL1 nlR) rfl (fun P hP o1 o3 X hX hC => B_X9_makes_0 hC hS.o ?_)
  have s1 := ms1 hS; have s16 := ms16 hS; have s33 := ms33 hS; have s27 := ms27 hS
  have loop := rem_ind (n := (S.tc : Int)) (P := fun i => ∀ (m : Mu) (dc : Int → Int), (∀ x j, x ≠ b + 33 → x ≠ b + 27 → m x j = μ x j) → dgs q S.tc dc → (∀ i : Int, 0 ≤ i → i < S.tc → m (b + 27) i = dc i) → (∀ j, 0 ≤ j → j < n → m (b + 33) j = mixI q S x0 dc j) → (∀ j, 0 ≤ j → j < i → dc j = 0) → vlN q dc S.tc + q ^ i.toNat = vlN q dd S.tc + 1 → V X G (Qm X G 0 P) 0 2 [aR b, aI i, aD] [] γ m) (fun i h0 h1 ih m dc fm hdc m27 m25 hz hv => ?_)
  · exact loop 0 (by omega) (by omega) μ dd (fun _ _ _ _ => rfl) hdd hdm htr (fun j z1 z2 => by omega) (by rw [show (0 : Int).toNat = 0 from rfl, Int.pow_zero])
  · have e1 : m b 1 = n := by rw [fm _ _ (by omega) (by omega), en]
    have e2 : m b 2 = q := by rw [fm _ _ (by omega) (by omega), eq]
    have e41 : m b 40 = S.tc := by rw [fm _ _ (by omega) (by omega), ec]
    have inner := rem_ind (n := n) (P := fun j => i < S.tc → V X G (Qm X G 0 P) 0 12 [aR b, aI i, aI j] [] γ (row m (b + 33) j (mixI q S x0 (fup dc i (dc i + 1))))) (fun j j0 j1 ihj hit => ?_)
    · refine B_X9_makes_2 hC hS.o ?_
      rw [e41]
      (repeat' (first | (with_reducible exact ixO (by assumption) (by omega)) | with_reducible apply And.intro | with_reducible intro)) <;> (try first | omega | (with_reducible apply Nat.le_refl) | rfl | exact absurd trivial (by assumption))
      · refine hP _ _ _ ⟨rfl, fm, Or.inr ⟨rfl, ?_⟩⟩
        obtain rfl : i = S.tc := by omega
        rw [vlN_0 S.tc hz] at hv
        rw [show ((S.tc : Int)).toNat = S.tc by omega] at hv
        omega
      · have h9 := inner 0 (by omega) (by omega) (by omega)
        rw [row_0] at h9
        exact h9
    · have hdi := hdc i h0 hit
      obtain ⟨o1', o2', o3'⟩ := hod i h0 hit
      have ei : ((i.toNat : Nat) : Int) = i := by omega
      have hvf : ∀ z, vlN q (fup dc i z) S.tc = vlN q dc S.tc + (z - dc i) * q ^ i.toNat := fun z => by
        have := vlN_fup (q := q) (z := z) (d := dc) (k := i.toNat) S.tc (by omega)
        rw [ei] at this
        exact this
      rcases Int.lt_or_le j n with hj | hj
      · have hih := ihj hj hit
        have a1 := hti i h0 hit j j0 hj
        have a2 := mixI_in (n := n) (S := S) (x0 := x0) (d := dc) (show 0 < q by omega) j j0 hj
        have e : (mixI q S x0 dc j + S.tv i j).tmod q = mixI q S x0 (fup dc i (dc i + 1)) j := by
          rw [Int.tmod_eq_emod_of_nonneg (by omega), mixI_fup ⟨h0, hit⟩]
          unfold mixI
          rw [Int.emod_add_emod, show dc i + 1 - dc i = 1 by omega, Int.one_mul]
          congr 1
          omega
        rw [← row_s j0] at hih
        refine B_X9_makes_12 hC hS.o ?_
        simp (disch := first | assumption | omega) only [row_off, row_in, row_out, up_same, up_ne, cpy_off, rwo_off, rwo_at, rwo_out, mg6, mg7, mg8, mg9, mg10, mg12, mg30, mg31, mg32, mg33, mg35, mg36, mg37, mg38, mg39, mg43, mg44, mg45, mg46, mg47, mg48, mg49, mg50, mg53, mg54, mg55, mg56, mg57, mg58, mg59, mg60, mg65, mg66, mg67, mg68, mg69, mg70, mg71, mg72, e1, e2, m25 j j0 hj, fm (b + 16) i (by omega) (by omega), o1', fm (b + 1) (36 * od i + j) (by omega) (by omega), hqt i h0 hit j j0 hj, e]
        (repeat' (first | (with_reducible exact ixO (by assumption) (by omega)) | with_reducible apply And.intro | with_reducible intro)) <;> (try first | omega | (with_reducible apply Nat.le_refl) | rfl | exact absurd trivial (by assumption))
        all_goals exact hih
      · obtain rfl : j = n := by omega
        refine B_X9_makes_12 hC hS.o ?_
        simp (disch := first | assumption | omega) only [row_off, row_in, row_out, up_same, up_ne, cpy_off, rwo_off, rwo_at, rwo_out, mg6, mg7, mg8, mg9, mg10, mg12, mg30, mg31, mg32, mg33, mg35, mg36, mg37, mg38, mg39, mg43, mg44, mg45, mg46, mg47, mg48, mg49, mg50, mg53, mg54, mg55, mg56, mg57, mg58, mg59, mg60, mg65, mg66, mg67, mg68, mg69, mg70, mg71, mg72, e1, e2, m27 i h0 hit]
        (repeat' (first | (with_reducible exact ixO (by assumption) (by omega)) | with_reducible apply And.intro | with_reducible intro)) <;> (try first | omega | (with_reducible apply Nat.le_refl) | rfl | exact absurd trivial (by assumption))
        · refine ih hit _ (fup dc i 0) (fun x j z1 z2 => by simp (disch := first | assumption | omega) only [row_off, row_in, row_out, up_same, up_ne, cpy_off, rwo_off, rwo_at, rwo_out, mg6, mg7, mg8, mg9, mg10, mg12, mg30, mg31, mg32, mg33, mg35, mg36, mg37, mg38, mg39, mg43, mg44, mg45, mg46, mg47, mg48, mg49, mg50, mg53, mg54, mg55, mg56, mg57, mg58, mg59, mg60, mg65, mg66, mg67, mg68, mg69, mg70, mg71, mg72]; exact fm x j z1 z2) (fun k z1 z2 => ?_) (fun k z1 z2 => ?_) (fun k z1 z2 => ?_) (fun k z1 z2 => ?_) ?_
          · by_cases e : k = i
            · rw [e, fup_s]; omega
            · rw [fup_n e]; exact hdc k z1 z2
          · by_cases e : k = i
            · subst e; rw [fup_s, up_same]
            · rw [fup_n e]; simp (disch := first | assumption | omega) only [row_off, row_in, row_out, up_same, up_ne, cpy_off, rwo_off, rwo_at, rwo_out, mg6, mg7, mg8, mg9, mg10, mg12, mg30, mg31, mg32, mg33, mg35, mg36, mg37, mg38, mg39, mg43, mg44, mg45, mg46, mg47, mg48, mg49, mg50, mg53, mg54, mg55, mg56, mg57, mg58, mg59, mg60, mg65, mg66, mg67, mg68, mg69, mg70, mg71, mg72]; exact m27 k z1 z2
          · simp (disch := first | assumption | omega) only [row_off, row_in, row_out, up_same, up_ne, cpy_off, rwo_off, rwo_at, rwo_out, mg6, mg7, mg8, mg9, mg10, mg12, mg30, mg31, mg32, mg33, mg35, mg36, mg37, mg38, mg39, mg43, mg44, mg45, mg46, mg47, mg48, mg49, mg50, mg53, mg54, mg55, mg56, mg57, mg58, mg59, mg60, mg65, mg66, mg67, mg68, mg69, mg70, mg71, mg72]
            rw [mixI_fup ⟨h0, hit⟩, mixI_fup ⟨h0, hit⟩, show dc i + 1 - dc i = 1 by omega, show (0 - dc i) = 1 - q by omega, Int.sub_mul, ← Int.add_sub_assoc, ← Int.add_sub_assoc, Int.mul_comm q, ← Int.emod_emod_of_dvd (_ - _) (Int.dvd_refl q), Int.sub_mul_emod_self_right]
            simp
          · by_cases e : k = i
            · rw [e, fup_s]
            · rw [fup_n e]; exact hz k z1 (by omega)
          · rw [hvf, show (i + 1).toNat = i.toNat + 1 by omega, Int.pow_succ, show (0 - dc i) = 1 - q by omega, Int.sub_mul, Int.one_mul, Int.mul_comm q]
            omega
        · refine hP _ _ _ ⟨rfl, fun x j z1 z2 => by simp (disch := first | assumption | omega) only [row_off, row_in, row_out, up_same, up_ne, cpy_off, rwo_off, rwo_at, rwo_out, mg6, mg7, mg8, mg9, mg10, mg12, mg30, mg31, mg32, mg33, mg35, mg36, mg37, mg38, mg39, mg43, mg44, mg45, mg46, mg47, mg48, mg49, mg50, mg53, mg54, mg55, mg56, mg57, mg58, mg59, mg60, mg65, mg66, mg67, mg68, mg69, mg70, mg71, mg72]; exact fm x j z1 z2, Or.inl ⟨rfl, fup dc i (dc i + 1), fun k z1 z2 => ?_, fun k z1 z2 => ?_, fun k z1 z2 => by simp (disch := first | assumption | omega) only [row_off, row_in, row_out, up_same, up_ne, cpy_off, rwo_off, rwo_at, rwo_out, mg6, mg7, mg8, mg9, mg10, mg12, mg30, mg31, mg32, mg33, mg35, mg36, mg37, mg38, mg39, mg43, mg44, mg45, mg46, mg47, mg48, mg49, mg50, mg53, mg54, mg55, mg56, mg57, mg58, mg59, mg60, mg65, mg66, mg67, mg68, mg69, mg70, mg71, mg72], ?_⟩⟩
          · by_cases e : k = i
            · rw [e, fup_s]; omega
            · rw [fup_n e]; exact hdc k z1 z2
          · by_cases e : k = i
            · subst e; rw [fup_s, up_same]
            · rw [fup_n e]; simp (disch := first | assumption | omega) only [row_off, row_in, row_out, up_same, up_ne, cpy_off, rwo_off, rwo_at, rwo_out, mg6, mg7, mg8, mg9, mg10, mg12, mg30, mg31, mg32, mg33, mg35, mg36, mg37, mg38, mg39, mg43, mg44, mg45, mg46, mg47, mg48, mg49, mg50, mg53, mg54, mg55, mg56, mg57, mg58, mg59, mg60, mg65, mg66, mg67, mg68, mg69, mg70, mg71, mg72]; exact m27 k z1 z2
          · rw [hvf, show dc i + 1 - dc i = 1 by omega, Int.one_mul]
            omega
set_option maxHeartbeats 4000000 in
theorem m_nearest (hl : l.stackTraces = false) (d : Nat) (hd : 2 < d) {b : Int} (hS : ModS G b) (hG : ModG γ b) (hR : RepR μ b σ) (hW : Wf σ) : Cn l G yX9_nearest cX9_nearest 5 (some .int) d 0 [aR b] γ μ (PE μ γ b (NearR σ)) := by
  refine Cn.ofP hl (plainFor_of_name (by decide)) (noL1 nlR) rfl (fun P hP o1 o3 X hX hC => B_X9_nearest_0 hC hS.o ?_)
  have hn := hW.1
  have hq := hW.2.1.b
  have hb1 := Sb_le hW
  have hq0 : 0 < σ 0 1 := by omega
  have s3 := ms3 hS; have s4 := ms4 hS; have s27 := ms27 hS; have s32 := ms32 hS; have s33 := ms33 hS
  refine ⟨2, 0, _, hd, Nat.le_refl _, hX ▸ m_knowsR hl 2 (by omega) hS hG (hR.t hW) hW, ?_⟩
  rintro r γ m1 ⟨rfl, rfl, z3, qR, z5, z6⟩
  have q0 : m1 b 0 = 0 := by rw [z3]; exact up_same
  have qf : frB μ m1 b (b + 40) := (frB_up frB_rf (by omega)).t z6
  obtain ⟨⟨k1, k2, k3⟩, k4, k5, k6, k7⟩ := z5.s
  obtain ⟨r1, r2, r3, r4, r5, r6, r7, r8, r9, r10, ra1, ra2, ra3, ra4, -⟩ := id qR
  have hids := (gRun_ids (σ 0 1) (σ 0 0) (σ 2) (sA σ) (σ 0 0).toNat).1
  have hod : ∀ i : Int, 0 ≤ i → i < (SbF σ).c → 0 ≤ (SbF σ).od i ∧ (SbF σ).od i < σ 0 0 := fun i z1 z2 => by have h : 0 ≤ (SbF σ).od i ∧ (SbF σ).od i < ((σ 0 0).toNat : Int) := hids i z1 z2; omega
  refine B_X9_nearest_9 hC hS.o ?_
  rw [k1]
  refine ⟨0, 0, _, by omega, Nat.le_refl _, hX ▸ m_power hl 0 (SbF σ).c hS qR.2.1 hq (by decide) (by omega), PI.use ?_⟩
  by_cases hsp : σ 0 1 ^ (SbF σ).c ≤ 10000
  case neg =>
    rw [if_neg hsp]
    refine B_X9_nearest_20 hC hS.o ?_
    (repeat' (first | (with_reducible exact ixO (by assumption) (by omega)) | with_reducible apply And.intro | with_reducible intro)) <;> (try first | omega | (with_reducible apply Nat.le_refl) | rfl | exact absurd trivial (by assumption))
    exact hP _ _ _ ⟨_, _, Or.inl ⟨by omega, rfl, rfl⟩, rfl, rfl, q0, qR, qf⟩
  rw [if_pos hsp]
  refine B_X9_nearest_20 hC hS.o ⟨fun _ => ?_, fun w => absurd hsp w⟩
  have hCc : ∀ f g : Int → Int, (∀ j, 0 ≤ j → j < σ 0 0 → f j = g j) → unlC f (σ 4) (σ 0 0) = unlC g (σ 4) (σ 0 0) := fun f g h => unlC_cong hn.1 h
  have hC0 : ∀ f, 0 ≤ unlC f (σ 4) (σ 0 0) := fun f => (unlC_b f (σ 4) _ hn.1 (Int.le_refl _)).1
  have done : ∀ (m : Mu) (least : Int) (best : Int → Int), least ≠ -1 → (∀ y j, y ≠ b + 33 → y ≠ b + 32 → y ≠ b + 27 → m y j = m1 y j) → (∀ j, 0 ≤ j → j < σ 0 0 → m (b + 32) j = best j) → BestD (σ 0 0) (fun f => unlC f (σ 4) (σ 0 0)) (DRv (σ 0 1) (SoF σ) (σ 3) (σ 0 1 ^ (SbF σ).c)) least best → V X G (Qm X G 0 P) 0 84 [aR b, aI least, aI 0, aD, aD] [] γ m := by
    intro m least best hl1 fm hb hB
    refine B_X9_nearest_84 hC hS.o ⟨fun _ => ⟨Nat.le_refl _, ?_⟩, fun w => absurd rfl w⟩
    refine hP _ _ _ ⟨least, _, Or.inr ⟨hsp, best, hB, rfl⟩, rfl, rfl, by rw [up_ne (by omega), fm _ _ (by omega) (by omega) (by omega), q0], ?_, frB_up (qf.t (fun y j h => fm y j (by omega) (by omega) (by omega))) (by omega)⟩
    have hR := qR
    obtain ⟨r1, r2, r3, r4, r5, r6, r7, r8, r9, r10, ra1, ra2, ra3, ra4, ra5, ra6, ra7, ra8, ra9, ra10, rk, rh⟩ := id hR
    refine RepR.mk2 hR hW ⟨by simp (disch := first | assumption | omega) only [row_off, row_in, row_out, up_same, up_ne, cpy_off, rwo_off, rwo_at, rwo_out, mg6, mg7, mg8, mg9, mg10, mg12, mg30, mg31, mg32, mg33, mg35, mg36, mg37, mg38, mg39, mg43, mg44, mg45, mg46, mg47, mg48, mg49, mg50, mg53, mg54, mg55, mg56, mg57, mg58, mg59, mg60, mg65, mg66, mg67, mg68, mg69, mg70, mg71, mg72], by simp (disch := first | assumption | omega) only [row_off, row_in, row_out, up_same, up_ne, cpy_off, rwo_off, rwo_at, rwo_out, mg6, mg7, mg8, mg9, mg10, mg12, mg30, mg31, mg32, mg33, mg35, mg36, mg37, mg38, mg39, mg43, mg44, mg45, mg46, mg47, mg48, mg49, mg50, mg53, mg54, mg55, mg56, mg57, mg58, mg59, mg60, mg65, mg66, mg67, mg68, mg69, mg70, mg71, mg72], by simp (disch := decide) only [up_off, row_offF, rwo_offF], by simp (disch := decide) only [up_off, row_offF, rwo_offF]⟩ (fun y j h => by unfold keepK at h; rw [up_ne (by omega), fm y j (by omega) (by omega) (by omega)]) ⟨?_, ?_, ?_, ?_, ?_, ?_, ?_, ?_, fun j z1 z2 => ?_, fun j z1 z2 => ?_, fun j z1 z2 => ?_, fun j z1 z2 => ?_, fun j z1 z2 => ?_, fun j z1 z2 => ?_, fun w j z1 z2 => ?_, fun w j z1 z2 => ?_⟩
    case refine_16 =>
      rw [up_ne (by omega), row_off (by omega)] at z2
      rw [up_ne (by omega), up_ne (by omega), row_in (by omega)]
      exact hb j z1 z2
    case refine_8 => rw [up_same, up_same]
    case refine_11 =>
      rw [up_ne (by omega), row_off (by omega)] at z2
      rw [up_ne (by omega), fm _ _ (by omega) (by omega) (by omega), up_ne (by omega), row_off (by omega)]
      exact ra5 j z1 z2
    case refine_12 =>
      rw [up_ne (by omega), row_off (by omega)] at z2
      rw [up_ne (by omega), fm _ _ (by omega) (by omega) (by omega), up_ne (by omega), row_off (by omega)]
      exact ra6 j z1 z2
    case refine_15 =>
      rw [up_ne (by omega), row_off (by omega)] at w z2
      rw [up_ne (by omega), fm _ _ (by omega) (by omega) (by omega), up_ne (by omega), row_off (by omega)]
      exact ra9 w j z1 z2
    all_goals rw [up_ne (by omega), fm _ _ (by omega) (by omega) (by omega), up_ne (by omega), row_off (by omega)]
    all_goals first | assumption | (apply_assumption <;> assumption)
  have main : ∀ (k : Nat) (m : Mu) (dd : Int → Int) (least : Int) (best : Int → Int), σ 0 1 ^ (SbF σ).c - vlN (σ 0 1) dd (SoF σ).tc = k → (∀ y j, y ≠ b + 33 → y ≠ b + 32 → y ≠ b + 27 → m y j = m1 y j) → dgs (σ 0 1) (SoF σ).tc dd → (∀ i : Int, 0 ≤ i → i < (SoF σ).tc → m (b + 27) i = dd i) → (∀ j, 0 ≤ j → j < σ 0 0 → m (b + 33) j = mixI (σ 0 1) (SoF σ) (σ 3) dd j) → (least ≠ -1 → ∀ j, 0 ≤ j → j < σ 0 0 → m (b + 32) j = best j) → BestD (σ 0 0) (fun f => unlC f (σ 4) (σ 0 0)) (DRv (σ 0 1) (SoF σ) (σ 3) (vlN (σ 0 1) dd (SoF σ).tc)) least best → V X G (Qm X G 0 P) 0 84 [aR b, aI least, aI 1, aD, aD] [] γ m := by
    intro k
    induction k with
    | zero =>
      intro m dd least best hk fm hdd m27 m25 m26 hB
      have : 0 ≤ vlN (σ 0 1) dd (SoF σ).tc ∧ vlN (σ 0 1) dd (SoF σ).tc < σ 0 1 ^ (SbF σ).c := vlN_b hq0 (SoF σ).tc hdd
      omega
    | succ k ih =>
      intro m dd least best hk fm hdd m27 m25 m26 hB
      generalize hy : mixI (σ 0 1) (SoF σ) (σ 3) dd = y at m25
      have e1 : m b 1 = σ 0 0 := by rw [fm _ _ (by omega) (by omega) (by omega), r1]
      have e2 : m b 2 = σ 0 1 := by rw [fm _ _ (by omega) (by omega) (by omega), r2]
      have grow : ∀ v z bst, v = vlN (σ 0 1) dd (SoF σ).tc + 1 → BestD (σ 0 0) (fun f => unlC f (σ 4) (σ 0 0)) (fun u => DRv (σ 0 1) (SoF σ) (σ 3) (vlN (σ 0 1) dd (SoF σ).tc) u ∨ u = y) z bst → BestD (σ 0 0) (fun f => unlC f (σ 4) (σ 0 0)) (DRv (σ 0 1) (SoF σ) (σ 3) v) z bst := fun v z bst ev h => by
        refine h.eqv hCc (fun u hu => ⟨u, ?_, fun _ _ _ => rfl⟩) (fun u hu => ⟨u, ?_, fun _ _ _ => rfl⟩)
        · rcases hu with ⟨d1, d2, d3, d4⟩ | rfl
          · exact ⟨d1, d2, by omega, d4⟩
          · exact ⟨dd, hdd, by omega, hy.symm⟩
        · obtain ⟨d1, d2, d3, d4⟩ := hu
          by_cases e : vlN (σ 0 1) d1 (SoF σ).tc = vlN (σ 0 1) dd (SoF σ).tc
          · exact Or.inr (by rw [d4, ← hy]; exact mixI_cong (vlN_inj hq0 _ d2 hdd e))
          · exact Or.inl ⟨d1, d2, by omega, d4⟩
      have turn : ∀ (m2 : Mu) (z : Int) (bst : Int → Int), z ≠ -1 → (∀ y j, y ≠ b + 32 → m2 y j = m y j) → (∀ j, 0 ≤ j → j < σ 0 0 → m2 (b + 32) j = bst j) → BestD (σ 0 0) (fun f => unlC f (σ 4) (σ 0 0)) (fun u => DRv (σ 0 1) (SoF σ) (σ 3) (vlN (σ 0 1) dd (SoF σ).tc) u ∨ u = y) z bst → ∃ (d9 k9 : Nat) (P9 : Option AV → Mu → Mu → Prop), d9 < d ∧ 0 + k9 ≤ 0 ∧ Cn X.l G yX9_makes cX9_makes 3 (some .boolean) d9 k9 [aR b] γ m2 P9 ∧ ∀ r9 γ9 μ9, P9 r9 γ9 μ9 → V X G (Qm X G 0 P) (0 + k9) 193 [aR b, aI z, aD, aD, aD] (r9.toList ++ []) γ9 μ9 := by
        intro m2 z bst hz f2 hb2 hB2
        refine ⟨0, 0, _, by omega, Nat.le_refl _, hX ▸ m_makes hl 0 (S := SoF σ) (od := (SbF σ).od) (x0 := σ 3) (dd := dd) hS hG (by rw [f2 _ _ (by omega)]; exact e1) (by rw [f2 _ _ (by omega)]; exact e2) (by rw [f2 _ _ (by omega), fm _ _ (by omega) (by omega) (by omega)]; exact k1) hn hq (by rw [SoF_tc]; omega) hdd (fun i z1 z2 => by rw [f2 _ _ (by omega)]; exact m27 i z1 z2) (fun j z1 z2 => by rw [f2 _ _ (by omega), hy]; exact m25 j z1 z2) (fun i z1 z2 => ⟨by rw [f2 _ _ (by omega), fm _ _ (by omega) (by omega) (by omega)]; exact k4 i z1 z2, hod i z1 z2⟩) (fun i i0 i1 j j0 j1 => by have := hod i i0 i1; rw [f2 _ _ (by omega), fm _ _ (by omega) (by omega) (by omega)]; exact ra1 _ (by omega) (by omega)) (fun i z1 z2 => hW.am _ (hod i z1 z2).1 (hod i z1 z2).2), ?_⟩
        rintro r γ m3 ⟨rfl, f3, h3⟩
        rcases h3 with ⟨rfl, d', hd', a27, a25, av⟩ | ⟨rfl, av⟩
        · refine B_X9_nearest_193 hC hS.o ?_
          exact ih m3 d' z bst (by omega) (fun y j z1 z2 z3 => by rw [f3 y j z1 z3, f2 y j z2, fm y j z1 z2 z3]) hd' a27 a25 (fun w j z1 z2 => by rw [f3 _ _ (by omega) (by omega)]; exact hb2 j z1 z2) (grow _ _ _ av hB2)
        · refine B_X9_nearest_193 hC hS.o ?_
          exact done m3 z bst hz (fun y j z1 z2 z3 => by rw [f3 y j z1 z3, f2 y j z2, fm y j z1 z2 z3]) (fun j z1 z2 => by rw [f3 _ _ (by omega) (by omega)]; exact hb2 j z1 z2) (grow _ _ _ av.symm hB2)
      have tak : ∀ z, z = unlC y (σ 4) (σ 0 0) → (least = -1 ∨ z < least ∨ (z = least ∧ Lx (σ 0 0) y best)) → V X G (Qm X G 0 P) 0 160 [aR b, aI z, aD, aD, aI 0] [] γ m := fun z ez hzb => by
        have cp := rem_ind (n := σ 0 0) (P := fun i => V X G (Qm X G 0 P) 0 160 [aR b, aI z, aD, aD, aI i] [] γ (row m (b + 32) i y)) (fun i h0 h1 ih => ?_)
        · have h9 := cp 0 (by omega) (by omega)
          rw [row_0] at h9
          exact h9
        · refine B_X9_nearest_160 hC hS.o ?_
          rcases Int.lt_or_le i (σ 0 0) with hi | hi
          · have hih := ih hi
            rw [← row_s h0] at hih
            simp (disch := first | assumption | omega) only [row_off, row_in, row_out, up_same, up_ne, cpy_off, rwo_off, rwo_at, rwo_out, mg6, mg7, mg8, mg9, mg10, mg12, mg30, mg31, mg32, mg33, mg35, mg36, mg37, mg38, mg39, mg43, mg44, mg45, mg46, mg47, mg48, mg49, mg50, mg53, mg54, mg55, mg56, mg57, mg58, mg59, mg60, mg65, mg66, mg67, mg68, mg69, mg70, mg71, mg72, e1, m25 i h0 hi]
            (repeat' (first | (with_reducible exact ixO (by assumption) (by omega)) | with_reducible apply And.intro | with_reducible intro)) <;> (try first | omega | (with_reducible apply Nat.le_refl) | rfl | exact absurd trivial (by assumption))
            all_goals exact hih
          · obtain rfl : i = σ 0 0 := by omega
            refine ⟨fun _ => ?_, fun w => absurd (by rw [row_off (by omega), e1]; exact hi) w⟩
            have hz0 := hC0 y
            refine turn _ z y (by omega) (fun y j z1 => row_off z1) (fun j z1 z2 => row_in ⟨z1, z2⟩) ?_
            have h9 := hB.take (y := y) (by omega) (by rw [← ez]; exact hzb)
            rw [← ez] at h9
            exact h9
      refine B_X9_nearest_84 hC hS.o ⟨fun w => absurd w (by decide), fun _ => ?_⟩
      have cnt := rem_ind (n := σ 0 0) (P := fun i => V X G (Qm X G 0 P) 0 93 [aR b, aI least, aD, aI (unlC y (σ 4) i), aI i] [] γ m) (fun i h0 h1 ihc => ?_)
      · exact cnt 0 (by omega) (by omega)
      · have hub := unlC_b y (σ 4) i h0 h1
        refine B_X9_nearest_93 hC hS.o ?_
        rcases Int.lt_or_le i (σ 0 0) with hi | hi
        · have hih := ihc hi
          have es : unlC y (σ 4) (i + 1) = unlC y (σ 4) i + unl y (σ 4) i := foldI_s h0
          rw [es] at hih
          unfold unl at hih
          simp (disch := first | assumption | omega) only [row_off, row_in, row_out, up_same, up_ne, cpy_off, rwo_off, rwo_at, rwo_out, mg6, mg7, mg8, mg9, mg10, mg12, mg30, mg31, mg32, mg33, mg35, mg36, mg37, mg38, mg39, mg43, mg44, mg45, mg46, mg47, mg48, mg49, mg50, mg53, mg54, mg55, mg56, mg57, mg58, mg59, mg60, mg65, mg66, mg67, mg68, mg69, mg70, mg71, mg72, e1, m25 i h0 hi, fm (b + 4) i (by omega) (by omega) (by omega), ra4 i h0 (by omega)]
          (repeat' (first | (with_reducible exact ixO (by assumption) (by omega)) | with_reducible apply And.intro | with_reducible intro)) <;> (try first | omega | (with_reducible apply Nat.le_refl) | rfl | exact absurd trivial (by assumption))
          · rename_i h
            rw [if_pos h] at hih
            exact hih
          · rename_i h
            rw [if_neg h] at hih
            exact hih
        · obtain rfl : i = σ 0 0 := by omega
          refine ⟨fun _ => ⟨fun h2 => ?_, fun h2 => ⟨fun h3 => ?_, fun h3 => ⟨fun h4 => ?_, fun h4 => ?_⟩⟩⟩, fun w => absurd (by rw [e1]; exact hi) w⟩
          · exact tak _ rfl (Or.inl h2)
          · exact tak _ rfl (Or.inr (Or.inl h3))
          · exact turn m least best h2 (fun _ _ _ => rfl) (m26 h2) (hB.skip (Or.inr ⟨h2, Or.inl (by omega)⟩))
          · refine ⟨0, 0, _, by omega, Nat.le_refl _, hX ▸ m_isShownAhead hl 0 hS hG e1 hn m25 (m26 h2), PI.use ?_⟩
            refine B_X9_nearest_152 hC hS.o ⟨fun h5 => ?_, fun h5 => ?_⟩
            · exact turn m least best h2 (fun _ _ _ => rfl) (m26 h2) (hB.skip (Or.inr ⟨h2, Or.inr ⟨by omega, fun w => (ahF_iff hn.1).mpr w h5⟩⟩))
            · exact tak _ rfl (Or.inr (Or.inr ⟨h4, (ahF_iff hn.1).mp h5⟩))
  have st2 := rem_ind (n := ((SbF σ).c : Int)) (P := fun i => V X G (Qm X G 0 P) 0 59 [aR b, aI i, aD, aD, aD] [] γ (row (row m1 (b + 33) (σ 0 0) (σ 3)) (b + 27) i (fun _ => 0))) (fun i h0 h1 ih => ?_)
  · have st := rem_ind (n := σ 0 0) (P := fun i => V X G (Qm X G 0 P) 0 31 [aR b, aI i, aD, aD, aD] [] γ (row m1 (b + 33) i (σ 3))) (fun i h0 h1 ih => ?_)
    · have h9 := st 0 (by omega) (by omega)
      rw [row_0] at h9
      exact h9
    · refine B_X9_nearest_31 hC hS.o ?_
      rcases Int.lt_or_le i (σ 0 0) with hi | hi
      · have hih := ih hi
        rw [← row_s h0] at hih
        simp (disch := first | assumption | omega) only [row_off, row_in, row_out, up_same, up_ne, cpy_off, rwo_off, rwo_at, rwo_out, mg6, mg7, mg8, mg9, mg10, mg12, mg30, mg31, mg32, mg33, mg35, mg36, mg37, mg38, mg39, mg43, mg44, mg45, mg46, mg47, mg48, mg49, mg50, mg53, mg54, mg55, mg56, mg57, mg58, mg59, mg60, mg65, mg66, mg67, mg68, mg69, mg70, mg71, mg72, r1, ra3 i h0 (by omega)]
        (repeat' (first | (with_reducible exact ixO (by assumption) (by omega)) | with_reducible apply And.intro | with_reducible intro)) <;> (try first | omega | (with_reducible apply Nat.le_refl) | rfl | exact absurd trivial (by assumption))
        all_goals exact hih
      · obtain rfl : i = σ 0 0 := by omega
        have h9 := st2 0 (by omega) (by omega)
        rw [row_0] at h9
        simp (disch := first | assumption | omega) only [row_off, row_in, row_out, up_same, up_ne, cpy_off, rwo_off, rwo_at, rwo_out, mg6, mg7, mg8, mg9, mg10, mg12, mg30, mg31, mg32, mg33, mg35, mg36, mg37, mg38, mg39, mg43, mg44, mg45, mg46, mg47, mg48, mg49, mg50, mg53, mg54, mg55, mg56, mg57, mg58, mg59, mg60, mg65, mg66, mg67, mg68, mg69, mg70, mg71, mg72, r1]
        (repeat' (first | (with_reducible exact ixO (by assumption) (by omega)) | with_reducible apply And.intro | with_reducible intro)) <;> (try first | omega | (with_reducible apply Nat.le_refl) | rfl | exact absurd trivial (by assumption))
        all_goals exact h9
  · refine B_X9_nearest_59 hC hS.o ?_
    rcases Int.lt_or_le i (SbF σ).c with hi | hi
    · have hih := ih hi
      rw [← row_s h0] at hih
      simp (disch := first | assumption | omega) only [row_off, row_in, row_out, up_same, up_ne, cpy_off, rwo_off, rwo_at, rwo_out, mg6, mg7, mg8, mg9, mg10, mg12, mg30, mg31, mg32, mg33, mg35, mg36, mg37, mg38, mg39, mg43, mg44, mg45, mg46, mg47, mg48, mg49, mg50, mg53, mg54, mg55, mg56, mg57, mg58, mg59, mg60, mg65, mg66, mg67, mg68, mg69, mg70, mg71, mg72, k1]
      (repeat' (first | (with_reducible exact ixO (by assumption) (by omega)) | with_reducible apply And.intro | with_reducible intro)) <;> (try first | omega | (with_reducible apply Nat.le_refl) | rfl | exact absurd trivial (by assumption))
      all_goals exact hih
    · obtain rfl : i = (SbF σ).c := by omega
      simp (disch := first | assumption | omega) only [row_off, row_in, row_out, up_same, up_ne, cpy_off, rwo_off, rwo_at, rwo_out, mg6, mg7, mg8, mg9, mg10, mg12, mg30, mg31, mg32, mg33, mg35, mg36, mg37, mg38, mg39, mg43, mg44, mg45, mg46, mg47, mg48, mg49, mg50, mg53, mg54, mg55, mg56, mg57, mg58, mg59, mg60, mg65, mg66, mg67, mg68, mg69, mg70, mg71, mg72, k1]
      (repeat' (first | (with_reducible exact ixO (by assumption) (by omega)) | with_reducible apply And.intro | with_reducible intro)) <;> (try first | omega | (with_reducible apply Nat.le_refl) | rfl | exact absurd trivial (by assumption))
      refine main (σ 0 1 ^ (SbF σ).c).toNat _ (fun _ => 0) (-1) (fun _ => 0) ?_ (fun y j z1 z2 z3 => by rw [row_off z3, row_off z1]) (fun i _ _ => by show (0 : Int) ≤ 0 ∧ (0 : Int) < _; omega) (fun i z1 z2 => row_in ⟨z1, z2⟩) (fun j z1 z2 => ?_) (fun w => absurd rfl w) (Or.inl ⟨rfl, fun u hu => ?_⟩)
      · rw [vlN_0 _ (fun _ _ _ => rfl)]
        have := pw_pos hq0 (SbF σ).c
        omega
      · rw [row_off (by omega), row_in ⟨z1, z2⟩]
        unfold mixI
        rw [sumI_zero (by omega) (fun i _ _ => by rw [Int.zero_mul]), Int.add_zero]
        have := (hW.st j z1 (by omega)).1
        exact (Int.emod_eq_of_lt this.1 this.2).symm
      · obtain ⟨d1, d2, d3, d4⟩ := hu
        have := vlN_b hq0 (SoF σ).tc d2
        rw [vlN_0 (d := fun _ => 0) _ (fun _ _ _ => rfl)] at d3
        omega
theorem m_near (hl : l.stackTraces = false) (d : Nat) (hd : 0 < d) {b x : Int} (hS : ModS G b) (hG : ModG γ b) (hR : RepR μ b σ) (hW : Wf σ) : Cn l G yX9_near cX9_near 2 (some .int) d 0 [aR b, aI x] γ μ (PR μ γ b σ (if isL σ x ∧ σ 0 9 ≠ 0 then σ 10 x else 0) (if isL σ x ∧ σ 0 9 ≠ 0 then 0 else 1)) := by
  refine Cn.ofP hl (plainFor_of_name (by decide)) (noLc nlR (noL1 nlI)) rfl (fun P hP o1 o3 X hX hC => B_X9_near_0 hC hS.o ?_)
  obtain ⟨r1, r2, r3, r4, r5, r6, r7, r8, r9, r10, ra1, ra2, ra3, ra4, ra5, ra6, ra7, ra8, ra9, ra10, rk, rh⟩ := id hR
  have hn := hW.1
  have s32 := ms32 hS
  have bad : ¬ (isL σ x ∧ σ 0 9 ≠ 0) → V X G (Qm X G 0 P) 0 30 [aR b, aI x] [aI 0] γ (up (up μ b 0 0) b 0 1) := fun hx => by
    refine B_X9_near_30 hC hS.o ?_
    (repeat' (first | (with_reducible exact ixO (by assumption) (by omega)) | with_reducible apply And.intro | with_reducible intro)) <;> (try first | omega | (with_reducible apply Nat.le_refl) | rfl | exact absurd trivial (by assumption))
    exact hP _ _ _ ⟨by rw [if_neg hx], rfl, by rw [if_neg hx]; exact up_same, (hR.t hW).t hW, frB_up (frB_up frB_rf (by omega)) (by omega)⟩
  refine ⟨0, 0, _, by omega, Nat.le_refl _, hX ▸ m_isLamp hl 0 hS (by first | assumption | (simp (disch := first | assumption | omega) only [row_off, row_in, row_out, up_same, up_ne, cpy_off, rwo_off, rwo_at, rwo_out, mg6, mg7, mg8, mg9, mg10, mg12, mg30, mg31, mg32, mg33, mg35, mg36, mg37, mg38, mg39, mg43, mg44, mg45, mg46, mg47, mg48, mg49, mg50, mg53, mg54, mg55, mg56, mg57, mg58, mg59, mg60, mg65, mg66, mg67, mg68, mg69, mg70, mg71, mg72] ; assumption)), PI.use ?_⟩
  by_cases hx : isL σ x
  · rw [if_pos hx]
    refine B_X9_near_11 hC hS.o ⟨fun w => absurd w (by decide), fun _ => ?_⟩
    simp (disch := first | assumption | omega) only [row_off, row_in, row_out, up_same, up_ne, cpy_off, rwo_off, rwo_at, rwo_out, mg6, mg7, mg8, mg9, mg10, mg12, mg30, mg31, mg32, mg33, mg35, mg36, mg37, mg38, mg39, mg43, mg44, mg45, mg46, mg47, mg48, mg49, mg50, mg53, mg54, mg55, mg56, mg57, mg58, mg59, mg60, mg65, mg66, mg67, mg68, mg69, mg70, mg71, mg72, r10]
    refine ⟨fun h8 => ⟨hS.o, ?_⟩, fun h8 => ⟨hS.o, ?_⟩⟩
    · refine ⟨0, 0, _, by omega, Nat.le_refl _, hX ▸ m_right hl 0 hS (by first | exact up_same | assumption | (simp (disch := first | assumption | omega) only [row_off, row_in, row_out, up_same, up_ne, cpy_off, rwo_off, rwo_at, rwo_out, mg6, mg7, mg8, mg9, mg10, mg12, mg30, mg31, mg32, mg33, mg35, mg36, mg37, mg38, mg39, mg43, mg44, mg45, mg46, mg47, mg48, mg49, mg50, mg53, mg54, mg55, mg56, mg57, mg58, mg59, mg60, mg65, mg66, mg67, mg68, mg69, mg70, mg71, mg72] ; done)), PI.use ?_⟩
      rw [if_pos rfl, if_pos rfl]
      exact bad (fun w => w.2 h8)
    · refine ⟨0, 0, _, by omega, Nat.le_refl _, hX ▸ m_right hl 0 hS (by first | exact up_same | assumption | (simp (disch := first | assumption | omega) only [row_off, row_in, row_out, up_same, up_ne, cpy_off, rwo_off, rwo_at, rwo_out, mg6, mg7, mg8, mg9, mg10, mg12, mg30, mg31, mg32, mg33, mg35, mg36, mg37, mg38, mg39, mg43, mg44, mg45, mg46, mg47, mg48, mg49, mg50, mg53, mg54, mg55, mg56, mg57, mg58, mg59, mg60, mg65, mg66, mg67, mg68, mg69, mg70, mg71, mg72] ; done)), PI.use ?_⟩
      rw [if_neg (by decide), if_neg (by decide)]
      refine B_X9_near_30 hC hS.o ?_
      simp (disch := first | assumption | omega) only [row_off, row_in, row_out, up_same, up_ne, cpy_off, rwo_off, rwo_at, rwo_out, mg6, mg7, mg8, mg9, mg10, mg12, mg30, mg31, mg32, mg33, mg35, mg36, mg37, mg38, mg39, mg43, mg44, mg45, mg46, mg47, mg48, mg49, mg50, mg53, mg54, mg55, mg56, mg57, mg58, mg59, mg60, mg65, mg66, mg67, mg68, mg69, mg70, mg71, mg72, ra10 h8 x hx.1 hx.2]
      (repeat' (first | (with_reducible exact ixO (by assumption) (by omega)) | with_reducible apply And.intro | with_reducible intro)) <;> (try first | omega | (with_reducible apply Nat.le_refl) | rfl | exact absurd trivial (by assumption))
      exact hP _ _ _ ⟨by rw [if_pos ⟨hx, h8⟩], rfl, by rw [if_pos ⟨hx, h8⟩]; exact up_same, hR.t hW, frB_up frB_rf (by omega)⟩
  · rw [if_neg hx]
    refine B_X9_near_11 hC hS.o ⟨fun _ => ⟨hS.o, ?_⟩, fun w => absurd rfl w⟩
    refine ⟨0, 0, _, by omega, Nat.le_refl _, hX ▸ m_right hl 0 hS (by first | exact up_same | assumption | (simp (disch := first | assumption | omega) only [row_off, row_in, row_out, up_same, up_ne, cpy_off, rwo_off, rwo_at, rwo_out, mg6, mg7, mg8, mg9, mg10, mg12, mg30, mg31, mg32, mg33, mg35, mg36, mg37, mg38, mg39, mg43, mg44, mg45, mg46, mg47, mg48, mg49, mg50, mg53, mg54, mg55, mg56, mg57, mg58, mg59, mg60, mg65, mg66, mg67, mg68, mg69, mg70, mg71, mg72] ; done)), PI.use ?_⟩
    rw [if_pos rfl, if_pos rfl]
    exact bad (fun w => hx w.1)
end MNear
