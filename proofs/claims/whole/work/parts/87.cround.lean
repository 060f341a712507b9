/-! the class: Cycle, round -/
def pk (f : Int → Int) (a : Int) : Nat → Int
  | 0 => 0
  | k + 1 => pk f a k * 5 + f (a + k)
theorem pk_b {f : Int → Int} {a : Int} : ∀ k : Nat, (∀ i : Int, 0 ≤ i → i < k → 0 ≤ f (a + i) ∧ f (a + i) < 5) → 0 ≤ pk f a k ∧ pk f a k < 5 ^ k
  | 0, _ => ⟨Int.le_refl _, by show (0 : Int) < 5 ^ 0; decide⟩
  | k + 1, h => by
    have ih := pk_b k (fun i z1 z2 => h i z1 (by omega))
    have h1 := h k (by omega) (by omega)
    show 0 ≤ pk f a k * 5 + f (a + k) ∧ pk f a k * 5 + f (a + k) < 5 ^ (k + 1)
    rw [Int.pow_succ]
    generalize (5 : Int) ^ k = P at *
    omega
theorem pk_inj {f g : Int → Int} {a : Int} : ∀ k : Nat, (∀ i : Int, 0 ≤ i → i < k → 0 ≤ f (a + i) ∧ f (a + i) < 5) → (∀ i : Int, 0 ≤ i → i < k → 0 ≤ g (a + i) ∧ g (a + i) < 5) → pk f a k = pk g a k → ∀ i : Int, 0 ≤ i → i < k → f (a + i) = g (a + i)
  | 0, _, _, _ => fun i z1 z2 => by omega
  | k + 1, hf, hg, h => fun i z1 z2 => by
    have h' : pk f a k * 5 + f (a + k) = pk g a k * 5 + g (a + k) := h
    have f1 := hf k (by omega) (by omega)
    have g1 := hg k (by omega) (by omega)
    by_cases e : i = k
    · subst e; omega
    · exact pk_inj k (fun i z1 z2 => hf i z1 (by omega)) (fun i z1 z2 => hg i z1 (by omega)) (by omega) i z1 (by omega)
theorem pk_cong {f g : Int → Int} {a : Int} : ∀ k : Nat, (∀ i : Int, 0 ≤ i → i < k → f (a + i) = g (a + i)) → pk f a k = pk g a k
  | 0, _ => rfl
  | k + 1, h => by
    show pk f a k * 5 + f (a + k) = pk g a k * 5 + g (a + k)
    rw [pk_cong k (fun i z1 z2 => h i z1 (by omega)), h k (by omega) (by omega)]
theorem lmul_ok {a b : Int} (h : lR (a * b)) : o_lmul a b = a * b := by
  unfold o_lmul
  rw [← Int64.ofInt_mul]
  exact oL h
theorem ladd_ok {a b : Int} (h : lR (a + b)) : o_ladd a b = a + b := by
  unfold o_ladd
  rw [← Int64.ofInt_add]
  exact oL h
theorem lcmp_0 {a b : Int} : o_lcmp a b = 0 ↔ a = b := by
  unfold o_lcmp
  split
  · exact ⟨fun h => absurd h (by decide), fun h => by omega⟩
  · split
    · exact ⟨fun _ => by assumption, fun _ => rfl⟩
    · exact ⟨fun h => absurd h (by decide), fun h => absurd h (by assumption)⟩
theorem ffr_iff {f g : Int → Int} : ∀ (n : Nat) (i : Int), (∀ j, i ≤ j → j < i + n → (f j = 0 ↔ g j = 0)) → ffr f n i = ffr g n i
  | 0, _, _ => rfl
  | n + 1, i, h => by
    have h1 := h i (Int.le_refl _) (by omega)
    have ih := ffr_iff n (i + 1) (fun j z1 z2 => h j (by omega) (by omega))
    show (if f i = 0 then ffr f n (i + 1) else i) = if g i = 0 then ffr g n (i + 1) else i
    by_cases e : f i = 0
    · rw [if_pos e, if_pos (h1.mp e), ih]
    · rw [if_neg e, if_neg (fun w => e (h1.mpr w))]
theorem fs_iff {f g : Int → Int} {n i : Int} (h : ∀ j, i ≤ j → j < n → (f j = 0 ↔ g j = 0)) : fs f n i = fs g n i := ffr_iff _ _ (fun j z1 z2 => h j z1 (by omega))
theorem fs_rng {f : Int → Int} {n : Int} (hn : 0 ≤ n) : (fs f n 0 = -1 ∧ ∀ j, 0 ≤ j → j < n → f j = 0) ∨ (0 ≤ fs f n 0 ∧ fs f n 0 < n ∧ f (fs f n 0) ≠ 0 ∧ ∀ j, 0 ≤ j → j < fs f n 0 → f j = 0) := by
  rw [← ff_fs]
  exact ff_range hn
/-- a state behind k pulses, all 36 places of it -/
def p36 (σ : Mu) (k : Nat) : Int → Int := fun j => if j < σ 0 0 then pulN σ k j else 0
theorem p36_b {σ : Mu} (hW : Wf σ) (k : Nat) {j : Int} (h0 : 0 ≤ j) : 0 ≤ p36 σ k j ∧ p36 σ k j < 5 := by
  have hq := hW.2.1.b
  unfold p36
  split
  · have := pulN_in hW k j h0 (by assumption)
    omega
  · omega
def lkP (u v : Int → Int) (m : Int) : Int → Int := fun i => if u i = u m ∧ v i = v m then 1 else 0
theorem lkP_0 {u v : Int → Int} {m i : Int} : lkP u v m i = 0 ↔ ¬ (u i = u m ∧ v i = v m) := by
  unfold lkP
  split
  · exact ⟨fun h => absurd h (by decide), fun h => absurd (by assumption) h⟩
  · exact ⟨fun _ => by assumption, fun _ => rfl⟩
theorem pk36_eq {σ : Mu} (hW : Wf σ) {i k : Nat} : (pk (p36 σ i) 0 18 = pk (p36 σ k) 0 18 ∧ pk (p36 σ i) 18 18 = pk (p36 σ k) 18 18) ↔ eqK σ k i ≠ 0 := by
  have hn := hW.1
  unfold eqK
  rw [allI_iff hn.1, Int.toNat_natCast, Int.toNat_natCast]
  constructor
  · rintro ⟨h1, h2⟩ j z1 z2
    have e : p36 σ i j = p36 σ k j := by
      by_cases w : j < 18
      · have := pk_inj 18 (fun j z1 _ => p36_b hW i (by omega)) (fun j z1 _ => p36_b hW k (by omega)) h1 j z1 (by omega)
        rw [show (0 : Int) + j = j by omega] at this
        exact this
      · have := pk_inj 18 (fun j z1 _ => p36_b hW i (by omega)) (fun j z1 _ => p36_b hW k (by omega)) h2 (j - 18) (by omega) (by omega)
        rw [show (18 : Int) + (j - 18) = j by omega] at this
        exact this
    unfold p36 at e
    rw [if_pos z2, if_pos z2] at e
    unfold eqP
    rw [if_pos e]
    decide
  · intro h
    have e : ∀ j, 0 ≤ j → p36 σ i j = p36 σ k j := fun j z1 => by
      unfold p36
      by_cases w : j < σ 0 0
      · rw [if_pos w, if_pos w]
        have := h j z1 w
        unfold eqP at this
        by_cases e : pulN σ i j = pulN σ k j
        · exact e
        · rw [if_neg e] at this
          exact absurd rfl this
      · rw [if_neg w, if_neg w]
    exact ⟨pk_cong 18 (fun j z1 _ => e _ (by omega)), pk_cong 18 (fun j z1 _ => e _ (by omega))⟩
/-- what is fresh of ways and rounds is another, and nothing else -/
theorem RepC.lt2 {μ m σ : Mu} {x w : Int} (h : RepC μ x w σ) (hw : x + 4 ≤ w ∧ w ≤ x + 81) (hf : ∀ y j, x ≤ y → y < x + 485 → (y = x → j < 18) → m y j = μ y j) (hl : LtC m x σ) : RepC m x w σ := by
  obtain ⟨h1, h2, h3, h4, h5, h6, h7, -⟩ := h
  exact ⟨h1.fr (fun y j z1 z2 => hf y j (by omega) (by omega) (by omega)), h2.fr (fun y j z1 z2 => hf y j (by omega) (by omega) (by omega)), h3.fr (fun y j z1 z2 => hf y j (by omega) (by omega) (by omega)), h4.fr (fun y j z1 z2 => hf y j (by omega) (by omega) (by omega)), h5.fr (fun y j z1 z2 => hf y j (by omega) (by omega) (by omega)), h6.fr (hf _ _ (by omega) (by omega) (by omega)) (hf _ _ (by omega) (by omega) (by omega)) (fun y j z1 z2 => hf y j (by omega) (by omega) (by omega)), h7.fr (fun y j z1 z2 => hf y j (by omega) (by omega) (by omega)), hl⟩
section CRound
variable {l : Launch} {G : Gx} {γ μ σ : Mu}
theorem CycAt.o {c : Int} (h : CycAt G γ c) : shO G c 1 6 := h.1
theorem c_packed (hl : l.stackTraces = false) (d : Nat) {c a : Int} {f : Int → Int} (hc : CycAt G γ c) (ha : a = 0 ∨ a = 18) (hf : ∀ j, 0 ≤ j → j < 36 → μ (c + 3) j = f j) (hfb : ∀ j, 0 ≤ j → 0 ≤ f j ∧ f j < 5) : Cn l G yX1_packed cX1_packed 5 (some .long) d 0 [aR c, aI a] γ μ (fun r γ' μ' => r = some (aL (pk f a 18)) ∧ γ' = γ ∧ μ' = μ) := by
  refine Cn.ofP hl (plainFor_of_name (by decide)) (noLc nlR (noL1 nlI)) rfl (fun P hP o1 o3 X hX hC => B_X1_packed_0 hC hc.o ?_)
  obtain ⟨-, g0, s1, g1, s2, g2, s3, g3, s4⟩ := id hc
  have loop := rem_ind (n := 18) (P := fun i => V X G (Qm X G 0 P) 0 5 [aR c, aI a, aL (pk f a i.toNat), aD, aI (a + i)] [] γ μ) (fun i i0 i1 ih => ?_)
  · have := loop 0 (by omega) (by omega)
    rw [show a + 0 = a by omega] at this
    exact this
  · refine B_X1_packed_5 hC hc.o ?_
    rw [g2]
    refine ⟨by constructor <;> omega, fun h => ⟨Nat.le_refl _, hP _ _ _ ⟨?_, rfl, rfl⟩⟩, fun h => ?_⟩
    · obtain rfl : i = 18 := by omega
      rfl
    · have hb := pk_b (f := f) (a := a) i.toNat (fun j z1 _ => hfb _ (by omega))
      have hm := pw_mono (q := 5) (by decide) (show i.toNat ≤ 18 by omega)
      rw [show (5 : Int) ^ 18 = 3814697265625 by decide] at hm
      have hfi := hfb (a + i) (by omega)
      rw [hf (a + i) (by omega) (by omega), lmul_ok (by constructor <;> omega), ladd_ok (by constructor <;> omega)]
      have hih := ih (by omega)
      rw [show (i + 1).toNat = i.toNat + 1 by omega, show a + (i + 1) = a + i + 1 by omega] at hih
      have e : pk f a (i.toNat + 1) = pk f a i.toNat * 5 + f (a + i) := by
        show pk f a i.toNat * 5 + f (a + (i.toNat : Int)) = _
        rw [Int.toNat_of_nonneg i0]
      rw [e] at hih
      exact ⟨ixO s3 (by omega), by constructor <;> omega, hih⟩
theorem c_likeBefore (hl : l.stackTraces = false) (d : Nat) {c m : Int} (hc : CycAt G γ c) (hm : 0 ≤ m ∧ m ≤ 300) : Cn l G yX1_likeBefore cX1_likeBefore 3 (some .int) d 0 [aR c, aI m] γ μ (PI (fs (lkP (μ (c + 1)) (μ (c + 2)) m) m 0) γ μ) := by
  refine Cn.ofP hl (plainFor_of_name (by decide)) (noLc nlR (noL1 nlI)) rfl (fun P hP o1 o3 X hX hC => B_X1_likeBefore_0 hC hc.o ?_)
  obtain ⟨-, g0, s1, g1, s2, g2, s3, g3, s4⟩ := id hc
  have loop := rem_ind (n := m) (P := fun i => fs (lkP (μ (c + 1)) (μ (c + 2)) m) m i = fs (lkP (μ (c + 1)) (μ (c + 2)) m) m 0 → V X G (Qm X G 0 P) 0 2 [aR c, aI m, aI i] [] γ μ) (fun i i0 i1 ih hi => ?_)
  · exact loop 0 (by omega) (by omega) rfl
  · refine B_X1_likeBefore_2 hC hc.o ?_
    rw [g0, g1, lcmp_0, lcmp_0]
    have no : i < m → ¬ (μ (c + 1) i = μ (c + 1) m ∧ μ (c + 2) i = μ (c + 2) m) → iR (i + 1) ∧ V X G (Qm X G 0 P) 0 2 [aR c, aI m, aI (i + 1)] [] γ μ := fun h z => ⟨by constructor <;> omega, ih h (by rw [← hi]; exact (fs_1 (f := lkP (μ (c + 1)) (μ (c + 2)) m) h (lkP_0.mpr z)).symm)⟩
    refine ⟨fun h => ⟨Nat.le_refl _, hP _ _ _ ⟨by rw [← hi, fs_ge h], rfl, rfl⟩⟩, fun h => ⟨ixO s1 (by omega), ixO s1 (by omega), fun e => no (by omega) (fun z => e z.1), fun e => ⟨ixO s2 (by omega), ixO s2 (by omega), fun e2 => no (by omega) (fun z => e2 z.2), fun e2 => ⟨Nat.le_refl _, hP _ _ _ ⟨?_, rfl, rfl⟩⟩⟩⟩⟩
    rw [← hi, fs_2 (f := lkP (μ (c + 1)) (μ (c + 2)) m) (by omega) (fun z => lkP_0.mp z ⟨e, e2⟩)]
theorem c_find (hl : l.stackTraces = false) (d : Nat) (hd : 2 < d) {c w s : Int} (hc : CycAt G γ c) (hw : WirAt G γ w) (hD : WirS μ w σ) (hW : Wf σ) (hs : shO G s 11 36) (hsc : s < c ∨ c + 4 < s) (hwc : w + 77 ≤ c ∨ c + 5 ≤ w) (hst : ∀ j, 0 ≤ j → j < 36 → μ s j = σ 3 j) : Cn l G yX1_find cX1_find 5 none d 0 [aR c, aR w, aR s] γ μ (fun r γ' μ' => r = none ∧ γ' = γ ∧ μ' c 4 = rndF σ 0 ∧ μ' c 5 = rndF σ 1 ∧ ∀ y j, (y < c ∨ c + 4 < y) → μ' y j = μ y j) := by
  refine Cn.ofP hl (plainFor_of_name (by decide)) (noLc nlR (noLc nlR (noL1 nlR))) rfl (fun P hP o1 o3 X hX hC => B_X1_find_0 hC hc.o ?_)
  obtain ⟨-, g0, s1, g1, s2, g2, s3, g3, s4⟩ := id hc
  have hn := hW.1
  rw [g2]
  have main := rem_ind (n := 301) (P := fun k => fs (rdP σ) 301 k = fs (rdP σ) 301 0 → ∀ m : Mu, (∀ y j, (y < c ∨ c + 4 < y) → m y j = μ y j) → m c 4 = -1 → m c 5 = -1 → (∀ j, 0 ≤ j → j < 36 → m (c + 3) j = p36 σ k.toNat j) → (∀ i : Int, 0 ≤ i → i < k → m (c + 1) i = pk (p36 σ i.toNat) 0 18 ∧ m (c + 2) i = pk (p36 σ i.toNat) 18 18) → V X G (Qm X G 0 P) 0 24 [aR c, aR w, aD, aI k, aD] [] γ m) (fun k k0 k1 ih hk m fm m4 m5 m3 mp => ?_)
  · refine ⟨cpyI hs s3, by omega, main 0 (by omega) (by omega) rfl _ (fun y j z => ?_) ?_ ?_ (fun j z1 z2 => ?_) (fun i z1 z2 => by omega)⟩
    · rw [cpy_off (by omega), up_ne (by omega), up_ne (by omega)]
    · rw [cpy_off (by omega), up_ne (by omega), up_same]
    · rw [cpy_off (by omega), up_same]
    · rw [cpy_in ⟨z1, z2⟩, up_ne (by omega), up_ne (by omega), hst j z1 z2]
      unfold p36
      split
      · rfl
      · exact (hW.st j z1 z2).2 (by omega)
  · refine B_X1_find_24 hC hc.o ?_
    rw [g0]
    refine ⟨fun h => ⟨Nat.le_refl _, hP _ _ _ ⟨rfl, rfl, ?_, ?_, fm⟩⟩, fun h => ⟨0, 0, _, by omega, Nat.le_refl _, hX ▸ c_packed hl 0 hc (Or.inl rfl) m3 (fun j z => p36_b hW _ z), ?_⟩⟩
    · unfold rndF
      rw [← hk, fs_ge (by omega), if_pos rfl, m4]
    · unfold rndF
      rw [← hk, fs_ge (by omega), if_pos rfl, m5]
    rintro r γ m' ⟨rfl, rfl, rfl⟩
    refine B_X1_find_41 hC hc.o ?_
    rw [g1]
    refine ⟨ixO s1 (by omega), 0, 0, _, by omega, Nat.le_refl _, hX ▸ c_packed hl 0 hc (Or.inr rfl) (f := p36 σ k.toNat) (fun j z1 z2 => by rw [up_ne (by omega)]; exact m3 j z1 z2) (fun j z => p36_b hW _ z), ?_⟩
    rintro r γ m'' ⟨rfl, rfl, rfl⟩
    refine B_X1_find_53 hC hc.o ⟨ixO s2 (by omega), ?_⟩
    generalize hm2 : up (up m' (c + 1) k (pk (p36 σ k.toNat) 0 18)) (c + 2) k (pk (p36 σ k.toNat) 18 18) = m2
    have fm2 : ∀ y j, (y < c ∨ c + 4 < y) → m2 y j = μ y j := fun y j z => by rw [← hm2, up_ne (by omega), up_ne (by omega)]; exact fm y j z
    have m24 : m2 c 4 = -1 := by rw [← hm2, up_ne (by omega), up_ne (by omega)]; exact m4
    have m25 : m2 c 5 = -1 := by rw [← hm2, up_ne (by omega), up_ne (by omega)]; exact m5
    have m23 : ∀ j, 0 ≤ j → j < 36 → m2 (c + 3) j = p36 σ k.toNat j := fun j z1 z2 => by rw [← hm2, up_ne (by omega), up_ne (by omega)]; exact m3 j z1 z2
    have m2p : ∀ i : Int, 0 ≤ i → i < k + 1 → m2 (c + 1) i = pk (p36 σ i.toNat) 0 18 ∧ m2 (c + 2) i = pk (p36 σ i.toNat) 18 18 := fun i z1 z2 => by
      by_cases e : i = k
      · subst e
        rw [← hm2, up_ne (by omega), up_same, up_same]
        exact ⟨rfl, rfl⟩
      · rw [← hm2, up_ne (by omega), up_ne (by omega), up_ne (by omega), up_ne (by omega)]
        exact mp i z1 (by omega)
    have ek : fs (lkP (m2 (c + 1)) (m2 (c + 2)) k) k 0 = fs (eqK σ k) k 0 := fs_iff (fun i z1 z2 => by
      rw [lkP_0, (m2p i z1 (by omega)).1, (m2p i z1 (by omega)).2, (m2p k k0 (by omega)).1, (m2p k k0 (by omega)).2, pk36_eq hW, Int.toNat_of_nonneg z1, Int.toNat_of_nonneg k0]
      exact Decidable.not_not)
    refine ⟨0, 0, _, by omega, Nat.le_refl _, hX ▸ c_likeBefore hl 0 hc (by omega), PI.use ?_⟩
    rw [ek]
    refine B_X1_find_59 hC hc.o ?_
    rw [g2, g3]
    refine ⟨fun e => ⟨hw.o, 2, 0, _, hd, Nat.le_refl _, hX ▸ c_beat hl 2 (by omega) (f := pulN σ k.toNat) hw (hD.fr2 (fun y j z1 z2 => fm2 y j (by omega))) hW s3 s4 (by omega) (by omega) (by omega) (fun j z1 z2 => by rw [m23 j z1 (by omega)]; unfold p36; rw [if_pos z2]) (pulN_in hW _), ?_⟩, fun e => ?_⟩
    · rintro r γ m3 ⟨rfl, rfl, b1, b2, b3⟩
      refine B_X1_find_94 hC hc.o ⟨by constructor <;> omega, ih (by omega) ?_ m3 (fun y j z => by rw [b3 y j (by omega) (by omega)]; exact fm2 y j z) (by rw [b3 _ _ (by omega) (by omega)]; exact m24) (by rw [b3 _ _ (by omega) (by omega)]; exact m25) (fun j z1 z2 => ?_) (fun i z1 z2 => by rw [b3 _ _ (by omega) (by omega), b3 _ _ (by omega) (by omega)]; exact m2p i z1 z2)⟩
      · rw [← hk]
        exact (fs_1 (f := rdP σ) (by omega) (by unfold rdP; rw [if_pos e])).symm
      · rw [show (k + 1).toNat = k.toNat + 1 by omega]
        by_cases w : j < σ 0 0
        · rw [b1 j z1 w]
          unfold p36
          rw [if_pos w]
          rfl
        · rw [b2 j (by omega), m23 j z1 z2]
          unfold p36
          rw [if_neg w, if_neg w]
    · have ef : fs (rdP σ) 301 0 = k := by
        rw [← hk]
        exact fs_2 (f := rdP σ) (by omega) (by unfold rdP; rw [if_neg e]; decide)
      have hr := fs_rng (f := eqK σ k) k0
      refine ⟨by constructor <;> omega, Nat.le_refl _, hP _ _ _ ⟨rfl, rfl, ?_, ?_, fun y j z => by rw [up_ne (by omega), up_ne (by omega)]; exact fm2 y j z⟩⟩
      · rw [up_ne (by omega), up_same]
        unfold rndF
        rw [ef, if_neg (by omega), if_pos rfl]
      · rw [up_same]
        unfold rndF
        rw [ef, if_neg (by omega), if_neg (by decide)]
theorem c_round (hl : l.stackTraces = false) (d : Nat) (hd : 6 ≤ d) {x w p y : Int} (hH : HallAt G γ x w p) (hR : RepC μ x w σ) (hW : Wf σ) : Cnx l G yX8_round cX8_round 2 (some .int) d 1 [aR x, aI y] γ μ (PCo μ γ x w σ (if isSW y then rndF σ y else 0) (if isSW y then 0 else 1)) (PCx NSEx μ γ x w σ (if isSW y then 0 else 1)) := by
  refine Cnx.ofP hl (by decide) (noLc nlR (noL1 nlI)) rfl (fun P Y hP hY X hX hC hx => B_X8_round_0 hC hx hH.o ?_)
  have hwb := hH.wb
  have fin : ∀ m : Mu, isSW y → RepC m x w σ → frB μ m x (x + 518) → m x 19 ≠ 0 → m (x + 511) (if y = 0 then 4 else 5) = rndF σ y := fun m hy hm fm h19 => by
    obtain ⟨-, k⟩ := hm.2.2.2.2.2.2.2
    have := k h19
    rcases hy with rfl | rfl
    · exact this.1
    · exact this.2
  have go : isSW y → V X G (Qx X G 1 P Y) 0 19 [aR x, aI y] [] γ μ := fun hy => by
    rw [if_pos hy, if_pos hy] at hP
    refine B_X8_round_19 hC hx hH.o ?_
    rw [hH.g15, hH.g1, hH.g4]
    refine ⟨fun e => ⟨fun e2 => ⟨hH.cy.o, Nat.zero_le _, hP _ _ _ ⟨rfl, ?_, rfl, hR, frC_rf⟩⟩, fun e2 => ⟨hH.cy.o, Nat.zero_le _, hP _ _ _ ⟨rfl, ?_, rfl, hR, frC_rf⟩⟩⟩, fun e => ⟨hH.cy.o, 3, 0, _, by omega, by omega, hX ▸ c_find hl 3 (by omega) hH.cy hH.wr hR.2.1.1 hW hH.s473 (by omega) (by omega) (fun j z1 z2 => (hR.2.2.1 j z1 z2).1), ?_⟩⟩
    · have := fin μ hy hR frC_rf e
      rw [if_neg e2] at this
      rw [this]
    · have := fin μ hy hR frC_rf e
      rw [if_pos e2] at this
      rw [this]
    · rintro r γ m ⟨rfl, rfl, b4, b5, bf⟩
      have R2 : RepC (up m x 19 1) x w σ := hR.lt2 hwb (fun y j z1 z2 z3 => by rw [up_ne (by omega)]; exact bf y j (by omega)) ⟨fun z => by
          rw [up_ne (by omega), bf _ _ (by omega)] at z
          rw [up_ne (by omega), up_ne (by omega), up_ne (by omega), bf _ _ (by omega), bf _ _ (by omega), bf _ _ (by omega)]
          exact hR.2.2.2.2.2.2.2.1 z, fun _ => by rw [up_ne (by omega), up_ne (by omega)]; exact ⟨b4, b5⟩⟩
      have fr : frB μ (up m x 19 1) x (x + 518) := fun y j z => by rw [up_ne (by omega)]; exact bf y j (by omega)
      refine B_X8_round_41 hC hx hH.o ?_
      rw [hH.g15]
      have := fin _ hy R2 fr (by rw [up_same]; decide)
      refine ⟨fun e2 => ⟨hH.cy.o, Nat.zero_le _, hP _ _ _ ⟨rfl, ?_, rfl, R2, fr⟩⟩, fun e2 => ⟨hH.cy.o, Nat.zero_le _, hP _ _ _ ⟨rfl, ?_, rfl, R2, fr⟩⟩⟩
      · rw [if_neg e2, up_ne (by omega)] at this
        rw [this]
      · rw [if_pos e2, up_ne (by omega)] at this
        rw [this]
  exact ⟨fun e => go (Or.inl e), fun e => ⟨fun e2 => go (Or.inr e2), fun e2 => ⟨Nat.le_refl _, Nat.le_refl _, hd, hY _ _ _ ⟨rfl, by rw [if_neg (by omega)]; decide, rfl, hR, frC_rf⟩⟩⟩⟩
end CRound
