/-! the reference: leads, cost, isAhead, turns -/
def x0F (σ : Mu) : Int → Int := fun l => (σ 0 1 - (gv (σ 0 1) (SbF σ).op (SbF σ).ov (SbF σ).om (SbF σ).c (dffF σ) (fun _ => 0)).2 l) % σ 0 1
/-- -1: there are rows that LEAD -/
def ldF (σ : Mu) : Int := ff (gv (σ 0 1) (SbF σ).op (SbF σ).ov (SbF σ).om (SbF σ).c (dffF σ) (fun _ => 0)).1 (σ 0 0)
def anyI (p : Int → Int) (i : Int) : Int := foldI (fun a j => if a = 0 then (if p j = 0 then 0 else 1) else 1) 0 i
theorem anyI_iff {p : Int → Int} {n : Int} (hn : 0 ≤ n) : anyI p n = 0 ↔ ∀ j, 0 ≤ j → j < n → p j = 0 := by
  refine foldI_ind (n := n) (P := fun i x => x = 0 ↔ ∀ j, 0 ≤ j → j < i → p j = 0) ⟨fun _ j _ _ => by omega, fun _ => rfl⟩ (fun i x h0 h1 hx => ?_) n hn (Int.le_refl _)
  split
  · rename_i e
    split
    · rename_i e2
      refine ⟨fun _ j z1 z2 => ?_, fun _ => rfl⟩
      by_cases e3 : j = i
      · rw [e3]; exact e2
      · exact hx.mp e j z1 (by omega)
    · rename_i e2
      exact ⟨fun w => absurd w (by decide), fun w => absurd (w i h0 (by omega)) e2⟩
  · rename_i e
    exact ⟨fun w => absurd w (by decide), fun w => absurd (hx.mpr (fun j z1 z2 => w j z1 (by omega))) e⟩
theorem anyI_01 (p : Int → Int) (i : Int) : anyI p i = 0 ∨ anyI p i = 1 := by
  unfold anyI foldI
  induction i.toNat with
  | zero => exact Or.inl rfl
  | succ k ih =>
    show (if _ then _ else _) = _ ∨ (if _ then _ else _) = _
    split
    · split
      · exact Or.inl rfl
      · exact Or.inr rfl
    · exact Or.inr rfl
/-- what a row costs by a kind: presses, or buttons -/
def prc (kind v : Int) : Int := if kind = 1 then (if 0 < v then 1 else 0) else v
def ctI (kind : Int) (f : Int → Int) (i : Int) : Int := foldI (fun v j => v + prc kind (f j)) 0 i
def badK (kind : Int) (f : Int → Int) : Int → Int := fun j => if kind = 2 ∧ 1 < f j then 1 else 0
def costF (kind : Int) (f : Int → Int) (n : Int) : Int := if fs (badK kind f) n 0 = -1 then ctI kind f n else -1
theorem ctI_b {kind q n : Int} {f : Int → Int} (hq : 2 ≤ q ∧ q ≤ 5) (hf : inQ n q f) : ∀ i, 0 ≤ i → i ≤ n → 0 ≤ ctI kind f i ∧ ctI kind f i ≤ 4 * i :=
  foldI_ind (P := fun i x => 0 ≤ x ∧ x ≤ 4 * i) (by omega) (fun i x h0 h1 hx => by
    have a1 := hf i h0 h1
    unfold prc
    split
    · split <;> omega
    · omega)
theorem fs_cong {f g : Int → Int} {n : Int} (h : ∀ j, 0 ≤ j → j < n → f j = g j) {i : Int} (h0 : 0 ≤ i) : fs f n i = fs g n i := ffr_cong _ _ (fun j z1 z2 => h j (by omega) (by omega))
theorem costF_cong {kind n : Int} {f g : Int → Int} (hn : 0 ≤ n) (h : ∀ j, 0 ≤ j → j < n → f j = g j) : costF kind f n = costF kind g n := by
  unfold costF ctI
  rw [fs_cong (g := badK kind g) (fun j z1 z2 => by unfold badK; rw [h j z1 z2]) (Int.le_refl _), foldI_cong (t := fun v j => v + prc kind (g j)) (fun i x z1 z2 => by rw [h i z1 z2]) n hn (Int.le_refl _)]
/-- the first place where two rows aren't alike; f stands ahead of g -/
def unl (f g : Int → Int) : Int → Int := fun j => if f j = g j then 0 else 1
def ahF (f g : Int → Int) (n : Int) : Int := if fs (unl f g) n 0 = -1 then 0 else if f (fs (unl f g) n 0) < g (fs (unl f g) n 0) then 1 else 0
theorem ahF_iff {f g : Int → Int} {n : Int} (hn : 0 ≤ n) : ahF f g n ≠ 0 ↔ Lx n f g := by
  unfold ahF
  have hr := ff_range (f := unl f g) hn
  rw [ff_fs] at hr
  have hu : ∀ j, unl f g j = 0 ↔ f j = g j := fun j => by unfold unl; split <;> simp_all
  rcases hr with ⟨h1, h2⟩ | ⟨h1, h2, h3, h4⟩
  · rw [if_pos h1]
    refine ⟨fun w => absurd rfl w, fun ⟨p, p0, p1, p2, p3⟩ => ?_⟩
    have := (hu p).mp (h2 p p0 p1)
    omega
  · generalize fs (unl f g) n 0 = p at *
    rw [if_neg (by omega)]
    have h5 : f p ≠ g p := fun w => h3 ((hu p).mpr w)
    split
    · rename_i h6
      exact ⟨fun _ => ⟨p, h1, h2, fun j z1 z2 => (hu j).mp (h4 j z1 z2), h6⟩, fun _ => by decide⟩
    · rename_i h6
      refine ⟨fun w => absurd rfl w, fun ⟨r, r0, r1, r2, r3⟩ => ?_⟩
      rcases Int.lt_trichotomy p r with w | w | w
      · exact absurd (r2 p h1 w) h5
      · subst w; omega
      · have := (hu r).mp (h4 r r0 w); omega
/-- the row that digits make -/
def mixI (q : Int) (S : GS) (x0 d : Int → Int) : Int → Int := fun l => (x0 l + sumI (fun i => d i * S.tv i l) S.tc) % q
/-- the number that digits make -/
def vlN (q : Int) (d : Int → Int) : Nat → Int
  | 0 => 0
  | k + 1 => vlN q d k + d k * q ^ k
def dgs (q : Int) (c : Nat) (d : Int → Int) : Prop := ∀ i : Int, 0 ≤ i → i < c → 0 ≤ d i ∧ d i < q
theorem vlN_b {q : Int} (hq : 0 < q) {d : Int → Int} : ∀ c : Nat, dgs q c d → 0 ≤ vlN q d c ∧ vlN q d c < q ^ c
  | 0, _ => ⟨Int.le_refl _, by show (0 : Int) < q ^ 0; rw [Int.pow_zero]; decide⟩
  | c + 1, h => by
    have ih := vlN_b hq c (fun i z1 z2 => h i z1 (by omega))
    have h1 := h c (by omega) (by omega)
    have hp := pw_pos hq c
    show 0 ≤ vlN q d c + d c * q ^ c ∧ vlN q d c + d c * q ^ c < q ^ (c + 1)
    have h2 : 0 ≤ d c * q ^ c := Int.mul_nonneg h1.1 (by omega)
    have h3 : (d c + 1) * q ^ c ≤ q * q ^ c := Int.mul_le_mul_of_nonneg_right (by omega) (by omega)
    rw [Int.add_mul, Int.one_mul] at h3
    rw [Int.pow_succ, Int.mul_comm (q ^ c) q]
    omega
theorem vlN_cong {q : Int} {d e : Int → Int} : ∀ c : Nat, (∀ i : Int, 0 ≤ i → i < c → d i = e i) → vlN q d c = vlN q e c
  | 0, _ => rfl
  | c + 1, h => by
    show vlN q d c + d c * q ^ c = vlN q e c + e c * q ^ c
    rw [vlN_cong c (fun i z1 z2 => h i z1 (by omega)), h c (by omega) (by omega)]
theorem mul_gap {x y a b Q : Int} (ha : 0 ≤ a ∧ a < Q) (hb : 0 ≤ b ∧ b < Q) (h : a + x * Q = b + y * Q) : x = y ∧ a = b := by
  have e : x = y := by
    rcases Int.lt_trichotomy x y with w | w | w
    · have : (x + 1) * Q ≤ y * Q := Int.mul_le_mul_of_nonneg_right (by omega) (by omega)
      rw [Int.add_mul, Int.one_mul] at this
      omega
    · exact w
    · have : (y + 1) * Q ≤ x * Q := Int.mul_le_mul_of_nonneg_right (by omega) (by omega)
      rw [Int.add_mul, Int.one_mul] at this
      omega
  subst e
  exact ⟨rfl, by omega⟩
theorem vlN_inj {q : Int} (hq : 0 < q) {d e : Int → Int} : ∀ c : Nat, dgs q c d → dgs q c e → vlN q d c = vlN q e c → ∀ i : Int, 0 ≤ i → i < c → d i = e i
  | 0, _, _, _ => fun i z1 z2 => by omega
  | c + 1, h1, h2, h => fun i z1 z2 => by
    have k1 : dgs q c d := fun i z1 z2 => h1 i z1 (by omega)
    have k2 : dgs q c e := fun i z1 z2 => h2 i z1 (by omega)
    obtain ⟨g1, g2⟩ := mul_gap (vlN_b hq c k1) (vlN_b hq c k2) h
    by_cases e9 : i = c
    · rw [e9]; exact g1
    · exact vlN_inj hq c k1 k2 g2 i z1 (by omega)
theorem row2_s {μ : Mu} {a c i : Int} {f g : Int → Int} (h0 : 0 ≤ i) (hac : a ≠ c) : up (up (row (row μ a i f) c i g) a i (f i)) c i (g i) = row (row μ a (i + 1) f) c (i + 1) g := by
  rw [row_up hac, row_s h0, row_s h0]
section MSolve
variable {l : Launch} {G : Gx} {γ μ σ : Mu}
theorem gs_bnd (hW : Wf σ) : ∀ i : Int, 0 ≤ i → i < (SbF σ).c → (0 ≤ (SbF σ).op i ∧ (SbF σ).op i < σ 0 0) ∧ inQ (σ 0 0) (σ 0 1) ((SbF σ).ov i) ∧ inQ (σ 0 0) (σ 0 1) ((SbF σ).om i) :=
  (gRun_wf (jm := σ 2) (vec := sA σ) hW.2.1.b.1 hW.1.1 (σ 0 0).toNat (by have := hW.1; omega) (fun i z1 z2 => hW.2.2.2.2.2.1 i z1 (by omega))).1
theorem m_leads (hl : l.stackTraces = false) (d : Nat) (hd : 0 < d) {b : Int} (hS : ModS G b) (hG : ModG γ b) (hR : RepR μ b σ) (hW : Wf σ) (hK : KnR μ b (σ 0 0) (σ 0 1) (sA σ) (σ 2)) :
    Cn l G yX9_leads cX9_leads 2 (some .boolean) d 0 [aR b] γ μ (fun r γ' μ' => r = some (aI (if ldF σ = -1 then 1 else 0)) ∧ γ' = γ ∧ (ldF σ = -1 → ∀ j, 0 ≤ j → j < σ 0 0 → μ' (b + 25) j = x0F σ j) ∧ ∀ x j, x ≠ b + 14 → x ≠ b + 15 → x ≠ b + 25 → μ' x j = μ x j) := by
  refine Cn.ofP hl (plainFor_of_name (by decide)) (noL1 nlR) rfl (fun P hP o1 o3 X hX hC => B_X9_leads_0 hC hS.o ?_)
  have hn := hW.1
  have hq := hW.2.1.b
  have hb1 := Sb_le hW
  obtain ⟨⟨k1, k2, k3⟩, k4, k5, k6, k7⟩ := hK.s
  obtain ⟨r1, r2, r3, r4, r5, r6, r7, r8, r9, r10, ra1, ra2, ra3, ra4, ra5, ra6, ra7, ra8, ra9, ra10, rk, rh⟩ := id hR
  have s3 := ms3 hS; have s4 := ms4 hS; have s14 := ms14 hS; have s15 := ms15 hS; have s21 := ms21 hS; have s22 := ms22 hS; have s23 := ms23 hS; have s25 := ms25 hS
  have loop := rem_ind (n := σ 0 0) (P := fun i => V X G (Qm X G 0 P) 0 2 [aR b, aI i] [] γ (row (row μ (b + 14) i (dffF σ)) (b + 15) i (fun _ => 0))) (fun i h0 h1 ih => ?_)
  · have h9 := loop 0 (by omega) (by omega)
    rw [row_0, row_0] at h9
    exact h9
  · rcases Int.lt_or_le i (σ 0 0) with hi | hi
    · have hih := ih hi
      rw [← row2_s h0 (by omega)] at hih
      have a4 := (hW.2.2.2.2.2.2.2.1 i h0 (by omega)).1
      have a5 := (hW.2.2.2.2.2.2.2.2.1 i h0 (by omega)).1
      have e : (σ 4 i - σ 3 i + σ 0 1).tmod (σ 0 1) = dffF σ i := Int.tmod_eq_emod_of_nonneg (by omega)
      refine B_X9_leads_2 hC hS.o ?_
      simp (disch := first | assumption | omega) only [row_off, row_in, row_out, up_same, up_ne, cpy_off, rwo_off, rwo_at, rwo_out, mg6, mg7, mg8, mg9, mg10, mg12, mg30, mg31, mg32, mg33, mg35, mg36, mg37, mg38, mg39, mg43, mg44, mg45, mg46, mg47, mg48, mg49, mg50, mg53, mg54, mg55, mg56, mg57, mg58, mg59, mg60, mg65, mg66, mg67, mg68, mg69, mg70, mg71, mg72, r1, r2, ra3 i h0 (by omega), ra4 i h0 (by omega), e]
      (repeat' (first | (with_reducible exact ixO (by assumption) (by omega)) | with_reducible apply And.intro | with_reducible intro)) <;> (try first | omega | (with_reducible apply Nat.le_refl) | rfl | exact absurd trivial (by assumption))
      all_goals exact hih
    · obtain rfl : i = σ 0 0 := by omega
      generalize hm : row (row μ (b + 14) (σ 0 0) (dffF σ)) (b + 15) (σ 0 0) (fun _ => 0) = m
      have fm : ∀ x j, x ≠ b + 14 → x ≠ b + 15 → m x j = μ x j := fun x j z1 z2 => by rw [← hm, row_off z2, row_off z1]
      have e1 : m b 1 = σ 0 0 := by rw [fm _ _ (by omega) (by omega), r1]
      have e2 : m b 2 = σ 0 1 := by rw [fm _ _ (by omega) (by omega), r2]
      have e40 : m b 40 = (SbF σ).c := by rw [fm _ _ (by omega) (by omega), k1]
      refine B_X9_leads_2 hC hS.o ⟨fun _ => ?_, fun w => absurd (by rw [e1]; omega) w⟩
      rw [e40, mg48 hG, mg49 hG, mg50 hG]
      refine ⟨0, 0, _, hd, Nat.le_refl _, hX ▸ m_isLeft2 hl 0 (f := dffF σ) (h := fun _ => 0) hS hG e1 e2 hn hq (by omega) s21 s22 s23 (by omega) (by omega) (by omega) (k7.fr hn.2 (by omega) (fun j _ _ => fm _ _ (by omega) (by omega)) (fun j _ _ => fm _ _ (by omega) (by omega)) (fun j _ _ => fm _ _ (by omega) (by omega))) (fun j z1 z2 => by rw [← hm, row_off (by omega), row_in ⟨z1, z2⟩]) (fun j z1 z2 => by rw [← hm, row_in ⟨z1, z2⟩]) (fun j z1 z2 => hW.dff j z1 (by omega)) (fun j z1 z2 => by show (0 : Int) ≤ 0 ∧ (0 : Int) < _; omega), ?_⟩
      rintro r γ m2 ⟨rfl, rfl, z3, z4, z5⟩
      have fm2 : ∀ x j, x ≠ b + 14 → x ≠ b + 15 → m2 x j = μ x j := fun x j z1 z2 => by rw [z5 x j z1 z2, fm x j z1 z2]
      have hgi := gv_in (n := σ 0 0) (op := (SbF σ).op) (ov := (SbF σ).ov) (om := (SbF σ).om) (show 0 < σ 0 1 by omega) (f := dffF σ) (h := fun _ => 0) (fun j z1 z2 => hW.dff j z1 (by omega)) (fun j z1 z2 => by show (0 : Int) ≤ 0 ∧ (0 : Int) < _; omega) (SbF σ).c
      have loop2 := rem_ind (n := σ 0 0) (P := fun i => ldF σ = -1 → V X G (Qm X G 0 P) 0 79 [aR b, aI i] [] γ (row m2 (b + 25) i (x0F σ))) (fun i h0 h1 ih hld => ?_)
      · refine B_X9_leads_72 hC hS.o ⟨fun h => ?_, fun h => ⟨Nat.le_refl _, ?_⟩⟩
        · have hld : ldF σ = -1 := by
            by_cases e : ldF σ = -1
            · exact e
            · have h' : (if ldF σ = -1 then (0 : Int) else 1) = 0 := h
              rw [if_neg e] at h'
              exact absurd h' (by decide)
          have h9 := loop2 0 (by omega) (by omega) hld
          rw [row_0] at h9
          exact h9
        · have hld : ldF σ ≠ -1 := fun e => by
            have h' : (if ldF σ = -1 then (0 : Int) else 1) ≠ 0 := h
            rw [if_pos e] at h'
            exact h' rfl
          exact hP _ _ _ ⟨by rw [if_neg hld], rfl, fun w => absurd w hld, fun x j z1 z2 z3 => fm2 x j z1 z2⟩
      · rcases Int.lt_or_le i (σ 0 0) with hi | hi
        · have hih := ih hi hld
          rw [← row_s h0] at hih
          have a1 := hgi.2 i h0 hi
          have e : (σ 0 1 - (gv (σ 0 1) (SbF σ).op (SbF σ).ov (SbF σ).om (SbF σ).c (dffF σ) (fun _ => 0)).2 i).tmod (σ 0 1) = x0F σ i := Int.tmod_eq_emod_of_nonneg (by omega)
          refine B_X9_leads_79 hC hS.o ?_
          simp (disch := first | assumption | omega) only [row_off, row_in, row_out, up_same, up_ne, cpy_off, rwo_off, rwo_at, rwo_out, mg6, mg7, mg8, mg9, mg10, mg12, mg30, mg31, mg32, mg33, mg35, mg36, mg37, mg38, mg39, mg43, mg44, mg45, mg46, mg47, mg48, mg49, mg50, mg53, mg54, mg55, mg56, mg57, mg58, mg59, mg60, mg65, mg66, mg67, mg68, mg69, mg70, mg71, mg72, fm2 b 1 (by omega) (by omega), fm2 b 2 (by omega) (by omega), r1, r2, z4 i h0 hi, e]
          (repeat' (first | (with_reducible exact ixO (by assumption) (by omega)) | with_reducible apply And.intro | with_reducible intro)) <;> (try first | omega | (with_reducible apply Nat.le_refl) | rfl | exact absurd trivial (by assumption))
          all_goals exact hih
        · obtain rfl : i = σ 0 0 := by omega
          refine B_X9_leads_79 hC hS.o ?_
          simp (disch := first | assumption | omega) only [row_off, row_in, row_out, up_same, up_ne, cpy_off, rwo_off, rwo_at, rwo_out, mg6, mg7, mg8, mg9, mg10, mg12, mg30, mg31, mg32, mg33, mg35, mg36, mg37, mg38, mg39, mg43, mg44, mg45, mg46, mg47, mg48, mg49, mg50, mg53, mg54, mg55, mg56, mg57, mg58, mg59, mg60, mg65, mg66, mg67, mg68, mg69, mg70, mg71, mg72, fm2 b 1 (by omega) (by omega), r1]
          (repeat' (first | (with_reducible exact ixO (by assumption) (by omega)) | with_reducible apply And.intro | with_reducible intro)) <;> (try first | omega | (with_reducible apply Nat.le_refl) | rfl | exact absurd trivial (by assumption))
          exact hP _ _ _ ⟨by rw [if_pos hld], rfl, fun _ j z1 z2 => by rw [row_in ⟨z1, z2⟩], fun x j z1 z2 z3 => by rw [row_off z3, fm2 x j z1 z2]⟩
theorem m_cost (hl : l.stackTraces = false) (d : Nat) {b n q kind : Int} {f : Int → Int} (hS : ModS G b) (hG : ModG γ b) (en : μ b 1 = n) (hn : 0 ≤ n ∧ n ≤ 36) (hq : 2 ≤ q ∧ q ≤ 5) (hf : ∀ j, 0 ≤ j → j < n → μ (b + 25) j = f j) (hfq : inQ n q f) : Cn l G yX9_cost cX9_cost 4 (some .int) d 0 [aR b, aI kind] γ μ (PI (costF kind f n) γ μ) := by
  refine Cn.ofP hl (plainFor_of_name (by decide)) (noLc nlR (noL1 nlI)) rfl (fun P hP o1 o3 X hX hC => B_X9_cost_0 hC hS.o ?_)
  have s25 := ms25 hS
  have loop := rem_ind (n := n) (P := fun i => fs (badK kind f) n i = fs (badK kind f) n 0 → V X G (Qm X G 0 P) 0 4 [aR b, aI kind, aI (ctI kind f i), aI i] [] γ μ) (fun i h0 h1 ih hi => ?_)
  · exact loop 0 (by omega) (by omega) rfl
  · have hct := ctI_b (kind := kind) hq hfq i h0 h1
    have step : i < n → badK kind f i = 0 → V X G (Qm X G 0 P) 0 29 [aR b, aI kind, aI (ctI kind f i), aI i] [] γ μ := fun hin hb => by
      have hih := ih hin (by rw [← hi, fs_1 hin hb])
      have hfi := hfq i h0 hin
      unfold ctI at hih hct ⊢
      rw [foldI_s h0] at hih
      unfold prc at hih
      refine B_X9_cost_29 hC hS.o ?_
      simp (disch := first | assumption | omega) only [row_off, row_in, row_out, up_same, up_ne, cpy_off, rwo_off, rwo_at, rwo_out, mg6, mg7, mg8, mg9, mg10, mg12, mg30, mg31, mg32, mg33, mg35, mg36, mg37, mg38, mg39, mg43, mg44, mg45, mg46, mg47, mg48, mg49, mg50, mg53, mg54, mg55, mg56, mg57, mg58, mg59, mg60, mg65, mg66, mg67, mg68, mg69, mg70, mg71, mg72, hf i h0 hin]
      (repeat' (first | (with_reducible exact ixO (by assumption) (by omega)) | with_reducible apply And.intro | with_reducible intro)) <;> (try first | omega | (with_reducible apply Nat.le_refl) | rfl | exact absurd trivial (by assumption))
      · rename_i h
        rw [if_neg h] at hih
        exact hih
      · rename_i h h2
        rw [if_pos h, if_neg (by omega)] at hih
        exact hih
      · rename_i h h2
        rw [if_pos h, if_pos (by omega)] at hih
        exact hih
    have fin : ∀ z, z = costF kind f n → P (some (aI z)) γ μ := fun z hz => hP _ _ _ ⟨by rw [hz], rfl, rfl⟩
    refine B_X9_cost_4 hC hS.o ?_
    simp (disch := first | assumption | omega) only [row_off, row_in, row_out, up_same, up_ne, cpy_off, rwo_off, rwo_at, rwo_out, mg6, mg7, mg8, mg9, mg10, mg12, mg30, mg31, mg32, mg33, mg35, mg36, mg37, mg38, mg39, mg43, mg44, mg45, mg46, mg47, mg48, mg49, mg50, mg53, mg54, mg55, mg56, mg57, mg58, mg59, mg60, mg65, mg66, mg67, mg68, mg69, mg70, mg71, mg72, en]
    refine ⟨fun h => ⟨Nat.le_refl _, fin _ ?_⟩, fun h => ⟨fun h2 => step (by omega) ?_, fun h2 => ⟨ixO s25 (by omega), ?_⟩⟩⟩
    · obtain rfl : i = n := by omega
      unfold costF
      rw [← hi, fs_ge (by omega), if_pos rfl]
    · unfold badK; rw [if_neg (fun w => h2 w.1)]
    · rw [hf i h0 (by omega)]
      refine ⟨fun h3 => step (by omega) (by unfold badK; rw [if_neg (fun w => by omega)]), fun h3 => ⟨Nat.le_refl _, fin _ ?_⟩⟩
      have := fs_2 (f := badK kind f) (show i < n by omega) (by unfold badK; rw [if_pos ⟨h2, by omega⟩]; decide)
      unfold costF
      rw [← hi, this, if_neg (by omega)]
theorem m_isAhead (hl : l.stackTraces = false) (d : Nat) {b n : Int} {f g : Int → Int} (hS : ModS G b) (hG : ModG γ b) (en : μ b 1 = n) (hn : 0 ≤ n ∧ n ≤ 36) (hf : ∀ j, 0 ≤ j → j < n → μ (b + 25) j = f j) (hg : ∀ j, 0 ≤ j → j < n → μ (b + 26) j = g j) : Cn l G yX9_isAhead cX9_isAhead 2 (some .boolean) d 0 [aR b] γ μ (PI (ahF f g n) γ μ) := by
  refine Cn.ofP hl (plainFor_of_name (by decide)) (noL1 nlR) rfl (fun P hP o1 o3 X hX hC => B_X9_isAhead_0 hC hS.o ?_)
  have s25 := ms25 hS; have s26 := ms26 hS
  have fin : ∀ z, z = ahF f g n → P (some (aI z)) γ μ := fun z hz => hP _ _ _ ⟨by rw [hz], rfl, rfl⟩
  have loop := rem_ind (n := n) (P := fun i => fs (unl f g) n i = fs (unl f g) n 0 → V X G (Qm X G 0 P) 0 2 [aR b, aI i] [] γ μ) (fun i h0 h1 ih hi => ?_)
  · exact loop 0 (by omega) (by omega) rfl
  · unfold ahF at fin
    refine B_X9_isAhead_2 hC hS.o ?_
    rcases Int.lt_or_le i n with hin | hin
    · simp (disch := first | assumption | omega) only [row_off, row_in, row_out, up_same, up_ne, cpy_off, rwo_off, rwo_at, rwo_out, mg6, mg7, mg8, mg9, mg10, mg12, mg30, mg31, mg32, mg33, mg35, mg36, mg37, mg38, mg39, mg43, mg44, mg45, mg46, mg47, mg48, mg49, mg50, mg53, mg54, mg55, mg56, mg57, mg58, mg59, mg60, mg65, mg66, mg67, mg68, mg69, mg70, mg71, mg72, en, hf i h0 hin, hg i h0 hin]
      (repeat' (first | (with_reducible exact ixO (by assumption) (by omega)) | with_reducible apply And.intro | with_reducible intro)) <;> (try first | omega | (with_reducible apply Nat.le_refl) | rfl | exact absurd trivial (by assumption))
      · rename_i h
        exact ih hin (by rw [← hi, fs_1 (f := unl f g) hin (if_pos h)])
      · rename_i h h2
        refine fin _ ?_
        rw [← hi, fs_2 (f := unl f g) hin (by unfold unl; rw [if_neg h]; decide), if_neg (by omega), if_neg (by omega)]
      · rename_i h h2
        refine fin _ ?_
        rw [← hi, fs_2 (f := unl f g) hin (by unfold unl; rw [if_neg h]; decide), if_neg (by omega), if_pos (by omega)]
    · simp (disch := first | assumption | omega) only [row_off, row_in, row_out, up_same, up_ne, cpy_off, rwo_off, rwo_at, rwo_out, mg6, mg7, mg8, mg9, mg10, mg12, mg30, mg31, mg32, mg33, mg35, mg36, mg37, mg38, mg39, mg43, mg44, mg45, mg46, mg47, mg48, mg49, mg50, mg53, mg54, mg55, mg56, mg57, mg58, mg59, mg60, mg65, mg66, mg67, mg68, mg69, mg70, mg71, mg72, en]
      (repeat' (first | (with_reducible exact ixO (by assumption) (by omega)) | with_reducible apply And.intro | with_reducible intro)) <;> (try first | omega | (with_reducible apply Nat.le_refl) | rfl | exact absurd trivial (by assumption))
      refine fin _ ?_
      rw [← hi, fs_ge (by omega), if_pos rfl]
end MSolve
