/-! tools for loops; the reference: twin, rank, bound, quiet, sum, why -/
/-- upwards from any place to n -/
theorem rem_ind {n : Int} {P : Int → Prop} (h : ∀ i, 0 ≤ i → i ≤ n → (i < n → P (i + 1)) → P i) : ∀ i, 0 ≤ i → i ≤ n → P i := by
  have key : ∀ (k : Nat) (i : Int), 0 ≤ i → n - i = k → P i := by
    intro k
    induction k with
    | zero => intro i h0 hi; exact h i h0 (by omega) (fun w => by omega)
    | succ k ih => intro i h0 hi; exact h i h0 (by omega) (fun w => ih (i + 1) (by omega) (by omega))
  intro i h0 h1
  exact key (n - i).toNat i h0 (by omega)
/-- downwards to -1 -/
theorem dn_ind {P : Int → Prop} (h : ∀ i, -1 ≤ i → (0 ≤ i → P (i - 1)) → P i) : ∀ i, -1 ≤ i → P i := by
  have key : ∀ (k : Nat) (i : Int), -1 ≤ i → i + 1 = k → P i := by
    intro k
    induction k with
    | zero => intro i h0 hi; exact h i h0 (fun w => by omega)
    | succ k ih => intro i h0 hi; exact h i h0 (fun w => ih (i - 1) (by omega) (by omega))
  intro i h0
  exact key (i + 1).toNat i h0 (by omega)
/-- steps at 0 .. i - 1, one behind another -/
def foldN {α : Type} (s : α → Int → α) (a : α) : Nat → α
  | 0 => a
  | k + 1 => s (foldN s a k) k
def foldI {α : Type} (s : α → Int → α) (a : α) (i : Int) : α := foldN s a i.toNat
theorem foldI_0 {α : Type} {s : α → Int → α} {a : α} : foldI s a 0 = a := rfl
theorem foldI_s {α : Type} {s : α → Int → α} {a : α} {i : Int} (h : 0 ≤ i) : foldI s a (i + 1) = s (foldI s a i) i := by
  unfold foldI
  rw [show (i + 1).toNat = i.toNat + 1 by omega]
  show s (foldN s a i.toNat) (i.toNat : Int) = _
  rw [show ((i.toNat : Nat) : Int) = i by omega]
theorem foldI_ind {α : Type} {s : α → Int → α} {a : α} {P : Int → α → Prop} {n : Int} (h0 : P 0 a) (hs : ∀ i x, 0 ≤ i → i < n → P i x → P (i + 1) (s x i)) : ∀ i, 0 ≤ i → i ≤ n → P i (foldI s a i) := by
  have key : ∀ k : Nat, (k : Int) ≤ n → P k (foldI s a k) := by
    intro k
    induction k with
    | zero => intro _; exact h0
    | succ k ih =>
      intro hk
      rw [show ((k + 1 : Nat) : Int) = (k : Int) + 1 by omega, foldI_s (by omega)]
      exact hs _ _ (by omega) (by omega) (ih (by omega))
  intro i h0 h1
  have := key i.toNat (by omega)
  rw [show ((i.toNat : Nat) : Int) = i by omega] at this
  exact this
theorem foldI_cong {α : Type} {s t : α → Int → α} {a : α} {n : Int} (h : ∀ i x, 0 ≤ i → i < n → s x i = t x i) : ∀ i, 0 ≤ i → i ≤ n → foldI s a i = foldI t a i :=
  foldI_ind (P := fun i x => x = foldI t a i) rfl (fun i x h0 h1 hx => by rw [foldI_s h0, hx, h i _ h0 h1])
/-- first place from i on, below n, where f isn't 0; else -1 -/
def fs (f : Int → Int) (n i : Int) : Int := ffr f (n - i).toNat i
theorem fs_ge {f : Int → Int} {n i : Int} (h : n ≤ i) : fs f n i = -1 := by
  unfold fs
  rw [show (n - i).toNat = 0 by omega]
  rfl
theorem fs_lt {f : Int → Int} {n i : Int} (h : i < n) : fs f n i = if f i = 0 then fs f n (i + 1) else i := by
  unfold fs
  rw [show (n - i).toNat = (n - (i + 1)).toNat + 1 by omega]
  rfl
theorem fs_1 {f : Int → Int} {n i : Int} (h : i < n) (h0 : f i = 0) : fs f n i = fs f n (i + 1) := by rw [fs_lt h, if_pos h0]
theorem fs_2 {f : Int → Int} {n i : Int} (h : i < n) (h0 : f i ≠ 0) : fs f n i = i := by rw [fs_lt h, if_neg h0]
theorem ff_fs {f : Int → Int} {n : Int} : ff f n = fs f n 0 := by unfold ff fs; rw [Int.sub_zero]
/-- 1 where p isn't 0 at 0 .. i - 1, else 0 -/
def allI (p : Int → Int) (i : Int) : Int := foldI (fun a j => if a = 0 then 0 else if p j = 0 then 0 else 1) 1 i
theorem allI_01 (p : Int → Int) (i : Int) : allI p i = 0 ∨ allI p i = 1 := by
  unfold allI foldI
  induction i.toNat with
  | zero => exact Or.inr rfl
  | succ k ih =>
    show (if _ then _ else _) = _ ∨ (if _ then _ else _) = _
    split
    · exact Or.inl rfl
    · split
      · exact Or.inl rfl
      · exact Or.inr rfl
theorem allI_iff {p : Int → Int} {n : Int} (hn : 0 ≤ n) : allI p n ≠ 0 ↔ ∀ j, 0 ≤ j → j < n → p j ≠ 0 := by
  refine foldI_ind (n := n) (P := fun i x => x ≠ 0 ↔ ∀ j, 0 ≤ j → j < i → p j ≠ 0) ⟨fun _ j _ _ => by omega, fun _ => by decide⟩ (fun i x h0 h1 hx => ?_) n hn (Int.le_refl _)
  split
  · rename_i e
    refine ⟨fun w => absurd rfl w, fun w => absurd e (hx.mpr (fun j z1 z2 => w j z1 (by omega)))⟩
  · rename_i e
    split
    · rename_i e2
      exact ⟨fun w => absurd rfl w, fun w => absurd e2 (w i h0 (by omega))⟩
    · rename_i e2
      refine ⟨fun _ j z1 z2 => ?_, fun _ => by decide⟩
      by_cases e3 : j = i
      · rw [e3]; exact e2
      · exact hx.mp e j z1 (by omega)
def eqP (f g : Int → Int) : Int → Int := fun j => if f j = g j then 1 else 0
theorem eqP_n {f g : Int → Int} {j : Int} : eqP f g j ≠ 0 ↔ f j = g j := by unfold eqP; split <;> simp_all
theorem eqP_0 {f g : Int → Int} {j : Int} (h : f j ≠ g j) : eqP f g j = 0 := if_neg h
theorem eqP_1 {f g : Int → Int} {j : Int} (h : f j = g j) : eqP f g j = 1 := if_pos h
/-- where the rows of button a and of x are alike -/
def alkF (σ : Mu) (x : Int) : Int → Int := fun a => allI (eqP (sA σ a) (sA σ x)) (σ 0 0)
def twF (σ : Mu) (x : Int) : Int := if fs (alkF σ x) x 0 = -1 then x else fs (alkF σ x) x 0
/-- the SUM's value of a row against what THE WISH is more than THE STATE -/
def dotI (f g : Int → Int) (i : Int) : Int := foldI (fun a j => a + f j * g j) 0 i
theorem dotI_b {f g : Int → Int} {q n : Int} (hq : 0 ≤ q ∧ q ≤ 5) (hf : inQ n q f) (hg : inQ n q g) : ∀ i, 0 ≤ i → i ≤ n → 0 ≤ dotI f g i ∧ dotI f g i ≤ 25 * i :=
  foldI_ind (P := fun i x => 0 ≤ x ∧ x ≤ 25 * i) (by omega) (fun i x h0 h1 hx => by
    have a1 := hf i h0 h1
    have a2 := hg i h0 h1
    have := mulR (a := f i) (b := g i) (m := 5) (by omega) (by omega)
    omega)
def dffF (σ : Mu) : Int → Int := fun j => (σ 4 j - σ 3 j + σ 0 1) % σ 0 1
theorem Wf.dff {σ : Mu} (hW : Wf σ) : inQ 36 (σ 0 1) (dffF σ) := fun j _ _ => ⟨Int.emod_nonneg _ (by have := hW.2.1.b; omega), Int.emod_lt_of_pos _ (by have := hW.2.1.b; omega)⟩
def whyP (σ : Mu) (S : GS) : Int → Int := fun i => dotI (S.tv i) (dffF σ) (σ 0 0) % σ 0 1
abbrev SbF (σ : Mu) : GS := Sbt (σ 0 0) (σ 0 1) (sA σ) (σ 2)
abbrev SlF (σ : Mu) : GS := Slm (σ 0 0) (σ 0 1) (sA σ) (σ 2)
theorem RepR.kn {μ m σ : Mu} {b : Int} (hR : RepR μ b σ) (hW : Wf σ) (hf : KF μ m b) (hk : m b 51 ≠ 0 → KnR m b (σ 0 0) (σ 0 1) (sA σ) (σ 2)) : RepR m b σ := by
  obtain ⟨r1, r2, r3, r4, r5, r6, r7, r8, r9, r10, ra1, ra2, ra3, ra4, ra5, ra6, ra7, ra8, ra9, ra10, rk, rh⟩ := id hR
  unfold KF at hf
  refine ⟨?_, ?_, ?_, ?_, ?_, ?_, ?_, ?_, ?_, ?_, fun j z1 z2 => ?_, fun j z1 z2 => ?_, fun j z1 z2 => ?_, fun j z1 z2 => ?_, fun j z1 z2 => ?_, fun j z1 z2 => ?_, fun j z1 z2 => ?_, fun j z1 z2 => ?_, fun w j z1 z2 => ?_, fun w j z1 z2 => ?_, hk, fun w => ?_⟩
  case refine_21 => rw [hf _ _ (by omega) (by omega)] at w; exact (rh w).fr (hf _ _ (by omega) (by omega)) (fun j => hf _ _ (by omega) (by omega))
  all_goals rw [hf _ _ (by omega) (by omega)]
  all_goals first | assumption | (apply_assumption <;> assumption)
theorem KF.fr {μ m : Mu} {b : Int} (h : KF μ m b) : frB μ m b (b + 40) := fun x j hx => h x j (by omega) (by omega)
theorem frB.t {μ m m2 : Mu} {lo hi : Int} (h : frB μ m lo hi) (h2 : frB m m2 lo hi) : frB μ m2 lo hi := fun x j hx => by rw [h2 x j hx, h x j hx]
theorem KnR.s {μ σ : Mu} {b : Int} (h : KnR μ b (σ 0 0) (σ 0 1) (sA σ) (σ 2)) : (μ b 40 = (SbF σ).c ∧ μ b 41 = (SbF σ).tc ∧ μ b 42 = (SlF σ).tc) ∧ (∀ i : Int, 0 ≤ i → i < (SbF σ).c → μ (b + 16) i = (SbF σ).od i) ∧ (∀ i : Int, 0 ≤ i → i < (SbF σ).tc → μ (b + 17) i = (SbF σ).td i ∧ ∀ j, 0 ≤ j → j < σ 0 0 → μ (b + 19) (36 * i + j) = (SbF σ).tv i j) ∧ (∀ i : Int, 0 ≤ i → i < (SlF σ).tc → μ (b + 18) i = (SlF σ).td i ∧ ∀ j, 0 ≤ j → j < σ 0 0 → μ (b + 20) (36 * i + j) = (SlF σ).tv i j) ∧ BsRep μ (b + 21) (b + 22) (b + 23) (σ 0 0) (σ 0 1) (SbF σ).c (SbF σ).op (SbF σ).ov (SbF σ).om := h
section MLin
variable {l : Launch} {G : Gx} {γ μ σ : Mu}
/-- knows, with the state's picture -/
theorem m_knowsR (hl : l.stackTraces = false) (d : Nat) (hd : 1 < d) {b : Int} (hS : ModS G b) (hG : ModG γ b) (hR : RepR μ b σ) (hW : Wf σ) :
    Cn l G yX9_knows cX9_knows 3 none d 0 [aR b] γ μ (fun r γ' μ' => r = none ∧ γ' = γ ∧ μ' b 0 = μ b 0 ∧ RepR μ' b σ ∧ KnR μ' b (σ 0 0) (σ 0 1) (sA σ) (σ 2) ∧ frB μ μ' b (b + 40)) := by
  refine Cn.mono (m_knows hl d hd hS hG (hR.md hW) hR.2.2.2.2.2.2.2.2.2.2.2.2.2.2.2.2.2.2.2.2.1) ?_
  rintro r γ' μ' ⟨h1, h2, h3, h4, h5⟩
  exact ⟨h1, h2, h5 _ _ (by omega) (by omega), hR.kn hW h5 (fun _ => h4), h4, h5.fr⟩
theorem m_twin (hl : l.stackTraces = false) (d : Nat) (hd : 0 < d) {b x : Int} (hS : ModS G b) (hG : ModG γ b) (hR : RepR μ b σ) (hW : Wf σ) : Cn l G yX9_twin cX9_twin 5 (some .int) d 0 [aR b, aI x] γ μ (PR μ γ b σ (if isL σ x then twF σ x else 0) (if isL σ x then 0 else 1)) := by
  refine Cn.ofP hl (plainFor_of_name (by decide)) (noLc nlR (noL1 nlI)) rfl (fun P hP o1 o3 X hX hC => B_X9_twin_0 hC hS.o ?_)
  obtain ⟨r1, r2, r3, r4, r5, r6, r7, r8, r9, r10, ra1, ra2, ra3, ra4, ra5, ra6, ra7, ra8, ra9, ra10, rk, rh⟩ := id hR
  have hn := hW.1
  have s1 := ms1 hS
  refine ⟨0, 0, _, by omega, Nat.le_refl _, hX ▸ m_isLamp hl 0 hS (by first | assumption | (simp (disch := first | assumption | omega) only [row_off, row_in, row_out, up_same, up_ne, cpy_off, rwo_off, rwo_at, rwo_out, mg6, mg7, mg8, mg9, mg10, mg12, mg30, mg31, mg32, mg33, mg35, mg36, mg37, mg38, mg39, mg43, mg44, mg45, mg46, mg47, mg48, mg49, mg50, mg53, mg54, mg55, mg56, mg57, mg58, mg59, mg60, mg65, mg66, mg67, mg68, mg69, mg70, mg71, mg72] ; assumption)), PI.use ?_⟩
  by_cases hx : isL σ x
  · simp only [if_pos hx] at hP ⊢
    refine B_X9_twin_11 hC hS.o ⟨hS.o, ?_⟩
    refine ⟨0, 0, _, by omega, Nat.le_refl _, hX ▸ m_right hl 0 hS (by first | exact up_same | assumption | (simp (disch := first | assumption | omega) only [row_off, row_in, row_out, up_same, up_ne, cpy_off, rwo_off, rwo_at, rwo_out, mg6, mg7, mg8, mg9, mg10, mg12, mg30, mg31, mg32, mg33, mg35, mg36, mg37, mg38, mg39, mg43, mg44, mg45, mg46, mg47, mg48, mg49, mg50, mg53, mg54, mg55, mg56, mg57, mg58, mg59, mg60, mg65, mg66, mg67, mg68, mg69, mg70, mg71, mg72] ; done)), PI.use ?_⟩
    rw [if_neg (by decide), if_neg (by decide)]
    refine B_X9_twin_15 hC hS.o ⟨fun _ => ?_, fun w => absurd w (by decide)⟩
    have fin : ∀ z, z = twF σ x → P (some (aI z)) γ (up μ b 0 0) := fun z hz => hP _ _ _ ⟨by rw [hz], rfl, up_same, hR.t hW, frB_up frB_rf (by omega)⟩
    have loop := rem_ind (n := x) (P := fun i => fs (alkF σ x) x i = fs (alkF σ x) x 0 → V X G (Qm X G 0 P) 0 22 [aR b, aI x, aI i, aD, aD] [] γ (up μ b 0 0)) (fun i h0 h1 ih hi => ?_)
    · exact loop 0 (by omega) (by omega) rfl
    · have inner := rem_ind (n := σ 0 0) (P := fun j => i < x → V X G (Qm X G 0 P) 0 32 [aR b, aI x, aI i, aI (allI (eqP (sA σ i) (sA σ x)) j), aI j] [] γ (up μ b 0 0)) (fun j j0 j1 ihj hix => ?_)
      · refine B_X9_twin_22 hC hS.o ?_
        (repeat' (first | (with_reducible exact ixO (by assumption) (by omega)) | with_reducible apply And.intro | with_reducible intro)) <;> (try first | omega | (with_reducible apply Nat.le_refl) | rfl | exact absurd trivial (by assumption))
        · exact fin _ (by unfold twF; rw [← hi, fs_ge (by omega), if_pos rfl])
        · exact inner 0 (by omega) (by omega) (by omega)
      · have e1 := ra1 (36 * x + j)
        have e2 := ra1 (36 * i + j)
        rcases Int.lt_or_le j (σ 0 0) with hj | hj
        · have hihj := ihj hj hix
          unfold allI at hihj ⊢
          rw [foldI_s j0] at hihj
          refine B_X9_twin_32 hC hS.o ?_
          simp (disch := first | assumption | omega) only [row_off, row_in, row_out, up_same, up_ne, cpy_off, rwo_off, rwo_at, rwo_out, mg6, mg7, mg8, mg9, mg10, mg12, mg30, mg31, mg32, mg33, mg35, mg36, mg37, mg38, mg39, mg43, mg44, mg45, mg46, mg47, mg48, mg49, mg50, mg53, mg54, mg55, mg56, mg57, mg58, mg59, mg60, mg65, mg66, mg67, mg68, mg69, mg70, mg71, mg72, r1, e1 (by omega) (by omega), e2 (by omega) (by omega)]
          (repeat' (first | (with_reducible exact ixO (by assumption) (by omega)) | with_reducible apply And.intro | with_reducible intro)) <;> (try first | omega | (with_reducible apply Nat.le_refl) | rfl | exact absurd trivial (by assumption))
          · rename_i h
            rw [if_pos h] at hihj
            exact hihj
          · rename_i h h2
            rw [if_neg h, eqP_0 (fun w => h2 w), if_pos rfl] at hihj
            exact hihj
          · rename_i h h2
            rw [if_neg h, eqP_1 (show sA σ i j = sA σ x j from h2), if_neg (by decide)] at hihj
            exact hihj
        · obtain rfl : j = σ 0 0 := by omega
          refine B_X9_twin_32 hC hS.o ?_
          simp (disch := first | assumption | omega) only [row_off, row_in, row_out, up_same, up_ne, cpy_off, rwo_off, rwo_at, rwo_out, mg6, mg7, mg8, mg9, mg10, mg12, mg30, mg31, mg32, mg33, mg35, mg36, mg37, mg38, mg39, mg43, mg44, mg45, mg46, mg47, mg48, mg49, mg50, mg53, mg54, mg55, mg56, mg57, mg58, mg59, mg60, mg65, mg66, mg67, mg68, mg69, mg70, mg71, mg72, r1]
          (repeat' (first | (with_reducible exact ixO (by assumption) (by omega)) | with_reducible apply And.intro | with_reducible intro)) <;> (try first | omega | (with_reducible apply Nat.le_refl) | rfl | exact absurd trivial (by assumption))
          · rename_i h
            exact ih (by omega) (by rw [← hi, fs_1 hix h])
          · rename_i h
            refine fin _ ?_
            have := fs_2 (f := alkF σ x) hix h
            unfold twF
            rw [← hi, this, if_neg (by omega)]
  · simp only [if_neg hx] at hP ⊢
    refine B_X9_twin_11 hC hS.o ⟨hS.o, ?_⟩
    refine ⟨0, 0, _, by omega, Nat.le_refl _, hX ▸ m_right hl 0 hS (by first | exact up_same | assumption | (simp (disch := first | assumption | omega) only [row_off, row_in, row_out, up_same, up_ne, cpy_off, rwo_off, rwo_at, rwo_out, mg6, mg7, mg8, mg9, mg10, mg12, mg30, mg31, mg32, mg33, mg35, mg36, mg37, mg38, mg39, mg43, mg44, mg45, mg46, mg47, mg48, mg49, mg50, mg53, mg54, mg55, mg56, mg57, mg58, mg59, mg60, mg65, mg66, mg67, mg68, mg69, mg70, mg71, mg72] ; done)), PI.use ?_⟩
    rw [if_pos rfl, if_pos rfl]
    refine B_X9_twin_15 hC hS.o ?_
    (repeat' (first | (with_reducible exact ixO (by assumption) (by omega)) | with_reducible apply And.intro | with_reducible intro)) <;> (try first | omega | (with_reducible apply Nat.le_refl) | rfl | exact absurd trivial (by assumption))
    exact hP _ _ _ ⟨rfl, rfl, up_same, (hR.t hW).t hW, frB_up (frB_up frB_rf (by omega)) (by omega)⟩
theorem m_rank (hl : l.stackTraces = false) (d : Nat) (hd : 2 < d) {b : Int} (hS : ModS G b) (hG : ModG γ b) (hR : RepR μ b σ) (hW : Wf σ) : Cn l G yX9_rank cX9_rank 1 (some .int) d 0 [aR b] γ μ (PR μ γ b σ (SbF σ).c 0) := by
  refine Cn.ofP hl (plainFor_of_name (by decide)) (noL1 nlR) rfl (fun P hP o1 o3 X hX hC => B_X9_rank_0 hC hS.o ?_)
  refine ⟨2, 0, _, hd, Nat.le_refl _, hX ▸ m_knowsR hl 2 (by omega) hS hG (hR.t hW) hW, ?_⟩
  rintro r γ m ⟨rfl, rfl, z3, z4, z5, z6⟩
  refine B_X9_rank_9 hC hS.o ?_
  rw [z5.1.1]
  (repeat' (first | (with_reducible exact ixO (by assumption) (by omega)) | with_reducible apply And.intro | with_reducible intro)) <;> (try first | omega | (with_reducible apply Nat.le_refl) | rfl | exact absurd trivial (by assumption))
  exact hP _ _ _ ⟨rfl, rfl, by rw [z3]; exact up_same, z4, (frB_up frB_rf (by omega)).t z6⟩
/-- how many are bound, and the i-th of them -/
def bndF (σ : Mu) (x i : Int) : Int := if i = -1 then (if x = 0 then ((SbF σ).tc : Int) else (SlF σ).tc) else if x = 0 then (SbF σ).td i else (SlF σ).td i
abbrev bndOk (σ : Mu) (x i : Int) : Prop := (x = 0 ∧ -1 ≤ i ∧ i < (SbF σ).tc) ∨ (x = 1 ∧ -1 ≤ i ∧ i < (SlF σ).tc)
theorem Sb_le (hW : Wf σ) : ((SbF σ).c : Int) + (SbF σ).tc ≤ σ 0 0 := by
  have : (SbF σ).c + (SbF σ).tc ≤ (σ 0 0).toNat := (gRun_ids (σ 0 1) (σ 0 0) (σ 2) (sA σ) (σ 0 0).toNat).2.2
  have := hW.1
  omega
theorem Sl_le (hW : Wf σ) : ((SlF σ).c : Int) + (SlF σ).tc ≤ σ 0 0 := by
  have : (SlF σ).c + (SlF σ).tc ≤ (σ 0 0).toNat := (gRun_ids (σ 0 1) (σ 0 0) (fun _ => 0) (colV (sA σ) (σ 2)) (σ 0 0).toNat).2.2
  have := hW.1
  omega
theorem m_bound (hl : l.stackTraces = false) (d : Nat) (hd : 2 < d) {b x i : Int} (hS : ModS G b) (hG : ModG γ b) (hR : RepR μ b σ) (hW : Wf σ) : Cn l G yX9_bound cX9_bound 4 (some .int) d 0 [aR b, aI x, aI i] γ μ (PR μ γ b σ (if bndOk σ x i then bndF σ x i else 0) (if bndOk σ x i then 0 else 1)) := by
  refine Cn.ofP hl (plainFor_of_name (by decide)) (noLc nlR (noLc nlI (noL1 nlI))) rfl (fun P hP o1 o3 X hX hC => B_X9_bound_0 hC hS.o ?_)
  have hn := hW.1
  have hb1 := Sb_le hW
  have hb2 := Sl_le hW
  have s17 := ms17 hS; have s18 := ms18 hS
  refine ⟨2, 0, _, hd, Nat.le_refl _, hX ▸ m_knowsR hl 2 (by omega) hS hG (hR.t hW) hW, ?_⟩
  rintro r γ m ⟨rfl, rfl, z3, z4, z5, z6⟩
  have z0 : m b 0 = 0 := by rw [z3]; exact up_same
  have hfr : frB μ m b (b + 40) := (frB_up frB_rf (by omega)).t z6
  obtain ⟨⟨k1, k2, k3⟩, k4, k5, k6, k7⟩ := z5.s
  have bad : ∀ y, ¬ bndOk σ x i → V X G (Qm X G 0 P) 0 54 [aR b, aI x, aI i, aI y] [aI 0] γ (up m b 0 1) := fun y hy => by
    refine B_X9_bound_54 hC hS.o ?_
    (repeat' (first | (with_reducible exact ixO (by assumption) (by omega)) | with_reducible apply And.intro | with_reducible intro)) <;> (try first | omega | (with_reducible apply Nat.le_refl) | rfl | exact absurd trivial (by assumption))
    exact hP _ _ _ ⟨by rw [if_neg hy], rfl, by rw [if_neg hy]; exact up_same, z4.t hW, frB_up hfr (by omega)⟩
  have good : ∀ y, bndOk σ x i → y = (if x = 0 then ((SbF σ).tc : Int) else (SlF σ).tc) → V X G (Qm X G 0 P) 0 54 [aR b, aI x, aI i, aI y] [aI 1] γ m := fun y hy ey => by
    have fin : ∀ z, z = bndF σ x i → P (some (aI z)) γ m := fun z hz => hP _ _ _ ⟨by rw [if_pos hy, hz], rfl, by rw [if_pos hy]; exact z0, z4, hfr⟩
    refine B_X9_bound_54 hC hS.o ?_
    unfold bndF at fin
    unfold bndOk at hy
    simp (disch := first | assumption | omega) only [row_off, row_in, row_out, up_same, up_ne, cpy_off, rwo_off, rwo_at, rwo_out, mg6, mg7, mg8, mg9, mg10, mg12, mg30, mg31, mg32, mg33, mg35, mg36, mg37, mg38, mg39, mg43, mg44, mg45, mg46, mg47, mg48, mg49, mg50, mg53, mg54, mg55, mg56, mg57, mg58, mg59, mg60, mg65, mg66, mg67, mg68, mg69, mg70, mg71, mg72]
    (repeat' (first | (with_reducible exact ixO (by assumption) (by omega)) | with_reducible apply And.intro | with_reducible intro)) <;> (try first | omega | (with_reducible apply Nat.le_refl) | rfl | exact absurd trivial (by assumption))
    · rename_i h1 h2
      refine fin _ ?_
      rw [if_neg h1, if_neg h2]
      exact (k6 i (by omega) (by omega)).1
    · rename_i h1 h2
      refine fin _ ?_
      rw [if_neg h1, if_pos h2]
      exact (k5 i (by omega) (by omega)).1
    · rename_i h1
      refine fin _ ?_
      rw [if_pos h1]
      exact ey
  have mid : ∀ y, (x = 0 ∨ x = 1) → y = (if x = 0 then ((SbF σ).tc : Int) else (SlF σ).tc) → V X G (Qm X G 0 P) 0 35 [aR b, aI x, aI i, aI y] [aR b] γ m := fun y hx ey => by
    refine B_X9_bound_35 hC hS.o ?_
    have hy : (x = 0 ∧ y = ((SbF σ).tc : Int)) ∨ (x = 1 ∧ y = ((SlF σ).tc : Int)) := by
      rcases hx with e | e
      · exact Or.inl ⟨e, by rw [ey, if_pos e]⟩
      · exact Or.inr ⟨e, by rw [ey, if_neg (by omega)]⟩
    refine ⟨fun h => ⟨hS.o, ?_⟩, fun h => ⟨fun h2 => ⟨hS.o, ?_⟩, fun h2 => ⟨hS.o, ?_⟩⟩⟩
    · refine ⟨0, 0, _, by omega, Nat.le_refl _, hX ▸ m_right hl 0 hS (by first | exact up_same | assumption | (simp (disch := first | assumption | omega) only [row_off, row_in, row_out, up_same, up_ne, cpy_off, rwo_off, rwo_at, rwo_out, mg6, mg7, mg8, mg9, mg10, mg12, mg30, mg31, mg32, mg33, mg35, mg36, mg37, mg38, mg39, mg43, mg44, mg45, mg46, mg47, mg48, mg49, mg50, mg53, mg54, mg55, mg56, mg57, mg58, mg59, mg60, mg65, mg66, mg67, mg68, mg69, mg70, mg71, mg72] ; done)), PI.use ?_⟩
      rw [if_pos rfl, if_pos rfl]
      exact bad _ (by unfold bndOk; omega)
    · refine ⟨0, 0, _, by omega, Nat.le_refl _, hX ▸ m_right hl 0 hS (by first | exact up_same | assumption | (simp (disch := first | assumption | omega) only [row_off, row_in, row_out, up_same, up_ne, cpy_off, rwo_off, rwo_at, rwo_out, mg6, mg7, mg8, mg9, mg10, mg12, mg30, mg31, mg32, mg33, mg35, mg36, mg37, mg38, mg39, mg43, mg44, mg45, mg46, mg47, mg48, mg49, mg50, mg53, mg54, mg55, mg56, mg57, mg58, mg59, mg60, mg65, mg66, mg67, mg68, mg69, mg70, mg71, mg72] ; done)), PI.use ?_⟩
      rw [if_pos rfl, if_pos rfl]
      exact bad _ (by unfold bndOk; omega)
    · refine ⟨0, 0, _, by omega, Nat.le_refl _, hX ▸ m_right hl 0 hS (by first | exact up_same | assumption | (simp (disch := first | assumption | omega) only [row_off, row_in, row_out, up_same, up_ne, cpy_off, rwo_off, rwo_at, rwo_out, mg6, mg7, mg8, mg9, mg10, mg12, mg30, mg31, mg32, mg33, mg35, mg36, mg37, mg38, mg39, mg43, mg44, mg45, mg46, mg47, mg48, mg49, mg50, mg53, mg54, mg55, mg56, mg57, mg58, mg59, mg60, mg65, mg66, mg67, mg68, mg69, mg70, mg71, mg72] ; done)), PI.use ?_⟩
      rw [if_neg (by decide), if_neg (by decide)]
      exact good _ (by unfold bndOk; omega) ey
  refine B_X9_bound_9 hC hS.o ⟨fun h => ⟨fun w => absurd w h, fun _ => ⟨fun h2 => ?_, fun h2 => ?_⟩⟩, fun h => ⟨fun _ => ?_, fun w => absurd h w⟩⟩
  · refine ⟨0, 0, _, by omega, Nat.le_refl _, hX ▸ m_right hl 0 hS (by first | exact up_same | assumption | (simp (disch := first | assumption | omega) only [row_off, row_in, row_out, up_same, up_ne, cpy_off, rwo_off, rwo_at, rwo_out, mg6, mg7, mg8, mg9, mg10, mg12, mg30, mg31, mg32, mg33, mg35, mg36, mg37, mg38, mg39, mg43, mg44, mg45, mg46, mg47, mg48, mg49, mg50, mg53, mg54, mg55, mg56, mg57, mg58, mg59, mg60, mg65, mg66, mg67, mg68, mg69, mg70, mg71, mg72] ; done)), PI.use ?_⟩
    rw [if_pos rfl, if_pos rfl]
    exact bad _ (by unfold bndOk; omega)
  · exact mid _ (Or.inr h2) (by rw [if_neg h]; exact k3)
  · exact mid _ (Or.inl h) (by rw [if_pos h]; exact k2)
theorem m_quiet (hl : l.stackTraces = false) (d : Nat) (hd : 2 < d) {b i x : Int} (hS : ModS G b) (hG : ModG γ b) (hR : RepR μ b σ) (hW : Wf σ) : Cn l G yX9_quiet cX9_quiet 3 (some .int) d 0 [aR b, aI i, aI x] γ μ (PR μ γ b σ (if (0 ≤ i ∧ i < (SbF σ).tc) ∧ isL σ x then (SbF σ).tv i x else 0) (if (0 ≤ i ∧ i < (SbF σ).tc) ∧ isL σ x then 0 else 1)) := by
  refine Cn.ofP hl (plainFor_of_name (by decide)) (noLc nlR (noLc nlI (noL1 nlI))) rfl (fun P hP o1 o3 X hX hC => B_X9_quiet_0 hC hS.o ?_)
  have hn := hW.1
  have hb1 := Sb_le hW
  have hb2 := Sl_le hW
  have s19 := ms19 hS; have s20 := ms20 hS
  refine ⟨2, 0, _, hd, Nat.le_refl _, hX ▸ m_knowsR hl 2 (by omega) hS hG (hR.t hW) hW, ?_⟩
  rintro r γ m ⟨rfl, rfl, z3, z4, z5, z6⟩
  have z0 : m b 0 = 0 := by rw [z3]; exact up_same
  have hfr : frB μ m b (b + 40) := (frB_up frB_rf (by omega)).t z6
  obtain ⟨⟨k1, k2, k3⟩, k4, k5, k6, k7⟩ := z5.s
  have bad : ¬ ((0 ≤ i ∧ i < (SbF σ).tc) ∧ isL σ x) → V X G (Qm X G 0 P) 0 39 [aR b, aI i, aI x] [aI 0] γ (up m b 0 1) := fun hy => by
    refine B_X9_quiet_39 hC hS.o ?_
    (repeat' (first | (with_reducible exact ixO (by assumption) (by omega)) | with_reducible apply And.intro | with_reducible intro)) <;> (try first | omega | (with_reducible apply Nat.le_refl) | rfl | exact absurd trivial (by assumption))
    exact hP _ _ _ ⟨by rw [if_neg hy], rfl, by rw [if_neg hy]; exact up_same, z4.t hW, frB_up hfr (by omega)⟩
  refine B_X9_quiet_9 hC hS.o ⟨fun h => ?_, fun h => ⟨fun h2 => ?_, fun h2 => ?_⟩⟩
  · refine ⟨0, 0, _, by omega, Nat.le_refl _, hX ▸ m_right hl 0 hS (by first | exact up_same | assumption | (simp (disch := first | assumption | omega) only [row_off, row_in, row_out, up_same, up_ne, cpy_off, rwo_off, rwo_at, rwo_out, mg6, mg7, mg8, mg9, mg10, mg12, mg30, mg31, mg32, mg33, mg35, mg36, mg37, mg38, mg39, mg43, mg44, mg45, mg46, mg47, mg48, mg49, mg50, mg53, mg54, mg55, mg56, mg57, mg58, mg59, mg60, mg65, mg66, mg67, mg68, mg69, mg70, mg71, mg72] ; done)), PI.use ?_⟩
    rw [if_pos rfl, if_pos rfl]
    exact bad (by omega)
  · refine ⟨0, 0, _, by omega, Nat.le_refl _, hX ▸ m_right hl 0 hS (by first | exact up_same | assumption | (simp (disch := first | assumption | omega) only [row_off, row_in, row_out, up_same, up_ne, cpy_off, rwo_off, rwo_at, rwo_out, mg6, mg7, mg8, mg9, mg10, mg12, mg30, mg31, mg32, mg33, mg35, mg36, mg37, mg38, mg39, mg43, mg44, mg45, mg46, mg47, mg48, mg49, mg50, mg53, mg54, mg55, mg56, mg57, mg58, mg59, mg60, mg65, mg66, mg67, mg68, mg69, mg70, mg71, mg72] ; done)), PI.use ?_⟩
    rw [if_pos rfl, if_pos rfl]
    rw [k2] at h2
    exact bad (by omega)
  · rw [k2] at h2
    refine ⟨0, 0, _, by omega, Nat.le_refl _, hX ▸ m_isLamp hl 0 hS z4.1, PI.use ?_⟩
    by_cases hx : isL σ x
    · rw [if_pos hx]
      refine B_X9_quiet_27 hC hS.o ⟨fun w => absurd w (by decide), fun _ => ⟨hS.o, ?_⟩⟩
      refine ⟨0, 0, _, by omega, Nat.le_refl _, hX ▸ m_right hl 0 hS (by first | exact up_same | assumption | (simp (disch := first | assumption | omega) only [row_off, row_in, row_out, up_same, up_ne, cpy_off, rwo_off, rwo_at, rwo_out, mg6, mg7, mg8, mg9, mg10, mg12, mg30, mg31, mg32, mg33, mg35, mg36, mg37, mg38, mg39, mg43, mg44, mg45, mg46, mg47, mg48, mg49, mg50, mg53, mg54, mg55, mg56, mg57, mg58, mg59, mg60, mg65, mg66, mg67, mg68, mg69, mg70, mg71, mg72] ; done)), PI.use ?_⟩
      rw [if_neg (by decide), if_neg (by decide)]
      refine B_X9_quiet_39 hC hS.o ?_
      simp (disch := first | assumption | omega) only [row_off, row_in, row_out, up_same, up_ne, cpy_off, rwo_off, rwo_at, rwo_out, mg6, mg7, mg8, mg9, mg10, mg12, mg30, mg31, mg32, mg33, mg35, mg36, mg37, mg38, mg39, mg43, mg44, mg45, mg46, mg47, mg48, mg49, mg50, mg53, mg54, mg55, mg56, mg57, mg58, mg59, mg60, mg65, mg66, mg67, mg68, mg69, mg70, mg71, mg72, (k5 i (by omega) (by omega)).2 x hx.1 hx.2]
      (repeat' (first | (with_reducible exact ixO (by assumption) (by omega)) | with_reducible apply And.intro | with_reducible intro)) <;> (try first | omega | (with_reducible apply Nat.le_refl) | rfl | exact absurd trivial (by assumption))
      exact hP _ _ _ ⟨by rw [if_pos ⟨by omega, hx⟩], rfl, by rw [if_pos ⟨by omega, hx⟩]; exact z0, z4, hfr⟩
    · rw [if_neg hx]
      refine B_X9_quiet_27 hC hS.o ⟨fun _ => ⟨hS.o, ?_⟩, fun w => absurd rfl w⟩
      refine ⟨0, 0, _, by omega, Nat.le_refl _, hX ▸ m_right hl 0 hS (by first | exact up_same | assumption | (simp (disch := first | assumption | omega) only [row_off, row_in, row_out, up_same, up_ne, cpy_off, rwo_off, rwo_at, rwo_out, mg6, mg7, mg8, mg9, mg10, mg12, mg30, mg31, mg32, mg33, mg35, mg36, mg37, mg38, mg39, mg43, mg44, mg45, mg46, mg47, mg48, mg49, mg50, mg53, mg54, mg55, mg56, mg57, mg58, mg59, mg60, mg65, mg66, mg67, mg68, mg69, mg70, mg71, mg72] ; done)), PI.use ?_⟩
      rw [if_pos rfl, if_pos rfl]
      exact bad (fun w => hx w.2)
theorem m_sum (hl : l.stackTraces = false) (d : Nat) (hd : 2 < d) {b i x : Int} (hS : ModS G b) (hG : ModG γ b) (hR : RepR μ b σ) (hW : Wf σ) : Cn l G yX9_sum cX9_sum 3 (some .int) d 0 [aR b, aI i, aI x] γ μ (PR μ γ b σ (if (0 ≤ i ∧ i < (SlF σ).tc) ∧ isL σ x then (SlF σ).tv i x else 0) (if (0 ≤ i ∧ i < (SlF σ).tc) ∧ isL σ x then 0 else 1)) := by
  refine Cn.ofP hl (plainFor_of_name (by decide)) (noLc nlR (noLc nlI (noL1 nlI))) rfl (fun P hP o1 o3 X hX hC => B_X9_sum_0 hC hS.o ?_)
  have hn := hW.1
  have hb1 := Sb_le hW
  have hb2 := Sl_le hW
  have s19 := ms19 hS; have s20 := ms20 hS
  refine ⟨2, 0, _, hd, Nat.le_refl _, hX ▸ m_knowsR hl 2 (by omega) hS hG (hR.t hW) hW, ?_⟩
  rintro r γ m ⟨rfl, rfl, z3, z4, z5, z6⟩
  have z0 : m b 0 = 0 := by rw [z3]; exact up_same
  have hfr : frB μ m b (b + 40) := (frB_up frB_rf (by omega)).t z6
  obtain ⟨⟨k1, k2, k3⟩, k4, k5, k6, k7⟩ := z5.s
  have bad : ¬ ((0 ≤ i ∧ i < (SlF σ).tc) ∧ isL σ x) → V X G (Qm X G 0 P) 0 39 [aR b, aI i, aI x] [aI 0] γ (up m b 0 1) := fun hy => by
    refine B_X9_sum_39 hC hS.o ?_
    (repeat' (first | (with_reducible exact ixO (by assumption) (by omega)) | with_reducible apply And.intro | with_reducible intro)) <;> (try first | omega | (with_reducible apply Nat.le_refl) | rfl | exact absurd trivial (by assumption))
    exact hP _ _ _ ⟨by rw [if_neg hy], rfl, by rw [if_neg hy]; exact up_same, z4.t hW, frB_up hfr (by omega)⟩
  refine B_X9_sum_9 hC hS.o ⟨fun h => ?_, fun h => ⟨fun h2 => ?_, fun h2 => ?_⟩⟩
  · refine ⟨0, 0, _, by omega, Nat.le_refl _, hX ▸ m_right hl 0 hS (by first | exact up_same | assumption | (simp (disch := first | assumption | omega) only [row_off, row_in, row_out, up_same, up_ne, cpy_off, rwo_off, rwo_at, rwo_out, mg6, mg7, mg8, mg9, mg10, mg12, mg30, mg31, mg32, mg33, mg35, mg36, mg37, mg38, mg39, mg43, mg44, mg45, mg46, mg47, mg48, mg49, mg50, mg53, mg54, mg55, mg56, mg57, mg58, mg59, mg60, mg65, mg66, mg67, mg68, mg69, mg70, mg71, mg72] ; done)), PI.use ?_⟩
    rw [if_pos rfl, if_pos rfl]
    exact bad (by omega)
  · refine ⟨0, 0, _, by omega, Nat.le_refl _, hX ▸ m_right hl 0 hS (by first | exact up_same | assumption | (simp (disch := first | assumption | omega) only [row_off, row_in, row_out, up_same, up_ne, cpy_off, rwo_off, rwo_at, rwo_out, mg6, mg7, mg8, mg9, mg10, mg12, mg30, mg31, mg32, mg33, mg35, mg36, mg37, mg38, mg39, mg43, mg44, mg45, mg46, mg47, mg48, mg49, mg50, mg53, mg54, mg55, mg56, mg57, mg58, mg59, mg60, mg65, mg66, mg67, mg68, mg69, mg70, mg71, mg72] ; done)), PI.use ?_⟩
    rw [if_pos rfl, if_pos rfl]
    rw [k3] at h2
    exact bad (by omega)
  · rw [k3] at h2
    refine ⟨0, 0, _, by omega, Nat.le_refl _, hX ▸ m_isLamp hl 0 hS z4.1, PI.use ?_⟩
    by_cases hx : isL σ x
    · rw [if_pos hx]
      refine B_X9_sum_27 hC hS.o ⟨fun w => absurd w (by decide), fun _ => ⟨hS.o, ?_⟩⟩
      refine ⟨0, 0, _, by omega, Nat.le_refl _, hX ▸ m_right hl 0 hS (by first | exact up_same | assumption | (simp (disch := first | assumption | omega) only [row_off, row_in, row_out, up_same, up_ne, cpy_off, rwo_off, rwo_at, rwo_out, mg6, mg7, mg8, mg9, mg10, mg12, mg30, mg31, mg32, mg33, mg35, mg36, mg37, mg38, mg39, mg43, mg44, mg45, mg46, mg47, mg48, mg49, mg50, mg53, mg54, mg55, mg56, mg57, mg58, mg59, mg60, mg65, mg66, mg67, mg68, mg69, mg70, mg71, mg72] ; done)), PI.use ?_⟩
      rw [if_neg (by decide), if_neg (by decide)]
      refine B_X9_sum_39 hC hS.o ?_
      simp (disch := first | assumption | omega) only [row_off, row_in, row_out, up_same, up_ne, cpy_off, rwo_off, rwo_at, rwo_out, mg6, mg7, mg8, mg9, mg10, mg12, mg30, mg31, mg32, mg33, mg35, mg36, mg37, mg38, mg39, mg43, mg44, mg45, mg46, mg47, mg48, mg49, mg50, mg53, mg54, mg55, mg56, mg57, mg58, mg59, mg60, mg65, mg66, mg67, mg68, mg69, mg70, mg71, mg72, (k6 i (by omega) (by omega)).2 x hx.1 hx.2]
      (repeat' (first | (with_reducible exact ixO (by assumption) (by omega)) | with_reducible apply And.intro | with_reducible intro)) <;> (try first | omega | (with_reducible apply Nat.le_refl) | rfl | exact absurd trivial (by assumption))
      exact hP _ _ _ ⟨by rw [if_pos ⟨by omega, hx⟩], rfl, by rw [if_pos ⟨by omega, hx⟩]; exact z0, z4, hfr⟩
    · rw [if_neg hx]
      refine B_X9_sum_27 hC hS.o ⟨fun _ => ⟨hS.o, ?_⟩, fun w => absurd rfl w⟩
      refine ⟨0, 0, _, by omega, Nat.le_refl _, hX ▸ m_right hl 0 hS (by first | exact up_same | assumption | (simp (disch := first | assumption | omega) only [row_off, row_in, row_out, up_same, up_ne, cpy_off, rwo_off, rwo_at, rwo_out, mg6, mg7, mg8, mg9, mg10, mg12, mg30, mg31, mg32, mg33, mg35, mg36, mg37, mg38, mg39, mg43, mg44, mg45, mg46, mg47, mg48, mg49, mg50, mg53, mg54, mg55, mg56, mg57, mg58, mg59, mg60, mg65, mg66, mg67, mg68, mg69, mg70, mg71, mg72] ; done)), PI.use ?_⟩
      rw [if_pos rfl, if_pos rfl]
      exact bad (fun w => hx w.2)
theorem tv_in (hW : Wf σ) : (∀ i : Int, 0 ≤ i → i < (SbF σ).tc → inQ (σ 0 0) (σ 0 1) ((SbF σ).tv i)) ∧ ∀ i : Int, 0 ≤ i → i < (SlF σ).tc → inQ (σ 0 0) (σ 0 1) ((SlF σ).tv i) := by
  have hn := hW.1
  have hA := hW.2.2.2.2.2.1
  have hq := hW.2.1.b
  have h1 := (gRun_wf (jm := σ 2) (vec := sA σ) hq.1 hn.1 (σ 0 0).toNat (by omega) (fun i z1 z2 => hA i z1 (by omega))).2
  have h2 := (gRun_wf (jm := fun _ => 0) (vec := colV (sA σ) (σ 2)) hq.1 hn.1 (σ 0 0).toNat (by omega) (fun i z1 z2 => colV_in hq.1 hA i ⟨z1, by omega⟩)).2
  exact ⟨fun i z1 z2 => h1 i z1 z2, fun i z1 z2 => h2 i z1 z2⟩
theorem m_why (hl : l.stackTraces = false) (d : Nat) (hd : 2 < d) {b : Int} (hS : ModS G b) (hG : ModG γ b) (hR : RepR μ b σ) (hW : Wf σ) : Cn l G yX9_why cX9_why 4 (some .int) d 0 [aR b] γ μ (PR μ γ b σ (fs (whyP σ (SlF σ)) (SlF σ).tc 0) 0) := by
  refine Cn.ofP hl (plainFor_of_name (by decide)) (noL1 nlR) rfl (fun P hP o1 o3 X hX hC => B_X9_why_0 hC hS.o ?_)
  have hn := hW.1
  have hq := hW.2.1.b
  have hb2 := Sl_le hW
  have htv := (tv_in hW).2
  have s3 := ms3 hS; have s4 := ms4 hS; have s20 := ms20 hS
  refine ⟨2, 0, _, hd, Nat.le_refl _, hX ▸ m_knowsR hl 2 (by omega) hS hG (hR.t hW) hW, ?_⟩
  rintro r γ m ⟨rfl, rfl, z3, z4, z5, z6⟩
  have z0 : m b 0 = 0 := by rw [z3]; exact up_same
  have hfr : frB μ m b (b + 40) := (frB_up frB_rf (by omega)).t z6
  obtain ⟨⟨k1, k2, k3⟩, k4, k5, k6, k7⟩ := z5.s
  obtain ⟨r1, r2, r3, r4, r5, r6, r7, r8, r9, r10, ra1, ra2, ra3, ra4, -⟩ := id z4
  have loop := rem_ind (n := ((SlF σ).tc : Int)) (P := fun i => fs (whyP σ (SlF σ)) (SlF σ).tc i = fs (whyP σ (SlF σ)) (SlF σ).tc 0 → V X G (Qm X G 0 P) 0 11 [aR b, aI i, aD, aD] [] γ m) (fun i h0 h1 ih hi => ?_)
  · exact B_X9_why_9 hC hS.o (loop 0 (by omega) (by omega) rfl)
  · have inner := rem_ind (n := σ 0 0) (P := fun j => i < (SlF σ).tc → V X G (Qm X G 0 P) 0 23 [aR b, aI i, aI (dotI ((SlF σ).tv i) (dffF σ) j), aI j] [] γ m) (fun j j0 j1 ihj hix => ?_)
    · refine B_X9_why_11 hC hS.o ?_
      simp (disch := first | assumption | omega) only [row_off, row_in, row_out, up_same, up_ne, cpy_off, rwo_off, rwo_at, rwo_out, mg6, mg7, mg8, mg9, mg10, mg12, mg30, mg31, mg32, mg33, mg35, mg36, mg37, mg38, mg39, mg43, mg44, mg45, mg46, mg47, mg48, mg49, mg50, mg53, mg54, mg55, mg56, mg57, mg58, mg59, mg60, mg65, mg66, mg67, mg68, mg69, mg70, mg71, mg72, k3]
      (repeat' (first | (with_reducible exact ixO (by assumption) (by omega)) | with_reducible apply And.intro | with_reducible intro)) <;> (try first | omega | (with_reducible apply Nat.le_refl) | rfl | exact absurd trivial (by assumption))
      · exact hP _ _ _ ⟨by rw [← hi, fs_ge (by omega)], rfl, z0, z4, hfr⟩
      · exact inner 0 (by omega) (by omega) (by omega)
    · have htvi := htv i h0 hix
      have db := dotI_b (f := (SlF σ).tv i) (g := dffF σ) (by omega) htvi (fun j z1 z2 => hW.dff j z1 (by omega)) j j0 j1
      rcases Int.lt_or_le j (σ 0 0) with hj | hj
      · have hihj := ihj hj hix
        have a1 := htvi j j0 hj
        have a2 := hW.dff j j0 (by omega)
        have a3 := mulR (a := (SlF σ).tv i j) (b := dffF σ j) (m := 5) (by omega) (by omega)
        have a4 := (hW.2.2.2.2.2.2.2.1 j j0 (by omega)).1
        have a5 := (hW.2.2.2.2.2.2.2.2.1 j j0 (by omega)).1
        have e : (σ 4 j - σ 3 j + σ 0 1).tmod (σ 0 1) = dffF σ j := Int.tmod_eq_emod_of_nonneg (by omega)
        unfold dotI at hihj ⊢ db
        rw [foldI_s j0] at hihj
        refine B_X9_why_23 hC hS.o ?_
        simp (disch := first | assumption | omega) only [row_off, row_in, row_out, up_same, up_ne, cpy_off, rwo_off, rwo_at, rwo_out, mg6, mg7, mg8, mg9, mg10, mg12, mg30, mg31, mg32, mg33, mg35, mg36, mg37, mg38, mg39, mg43, mg44, mg45, mg46, mg47, mg48, mg49, mg50, mg53, mg54, mg55, mg56, mg57, mg58, mg59, mg60, mg65, mg66, mg67, mg68, mg69, mg70, mg71, mg72, r1, r2, ra3 j j0 (by omega), ra4 j j0 (by omega), (k6 i h0 hix).2 j j0 hj, e]
        (repeat' (first | (with_reducible exact ixO (by assumption) (by omega)) | with_reducible apply And.intro | with_reducible intro)) <;> (try first | omega | (with_reducible apply Nat.le_refl) | rfl | exact absurd trivial (by assumption))
        all_goals exact hihj
      · obtain rfl : j = σ 0 0 := by omega
        refine B_X9_why_23 hC hS.o ?_
        have e : (dotI ((SlF σ).tv i) (dffF σ) (σ 0 0)).tmod (σ 0 1) = whyP σ (SlF σ) i := Int.tmod_eq_emod_of_nonneg (by omega)
        simp (disch := first | assumption | omega) only [row_off, row_in, row_out, up_same, up_ne, cpy_off, rwo_off, rwo_at, rwo_out, mg6, mg7, mg8, mg9, mg10, mg12, mg30, mg31, mg32, mg33, mg35, mg36, mg37, mg38, mg39, mg43, mg44, mg45, mg46, mg47, mg48, mg49, mg50, mg53, mg54, mg55, mg56, mg57, mg58, mg59, mg60, mg65, mg66, mg67, mg68, mg69, mg70, mg71, mg72, r1, r2, e]
        (repeat' (first | (with_reducible exact ixO (by assumption) (by omega)) | with_reducible apply And.intro | with_reducible intro)) <;> (try first | omega | (with_reducible apply Nat.le_refl) | rfl | exact absurd trivial (by assumption))
        · rename_i h
          exact ih hix (by rw [← hi, fs_1 hix h])
        · rename_i h
          exact hP _ _ _ ⟨by rw [← hi, fs_2 hix h], rfl, z0, z4, hfr⟩
end MLin
