/-! the reference: knows -/
/-- what a run of the elimination keeps -/
theorem gStep_wf {q n id : Int} {S : GS} {f : Int → Int} (hq : 2 ≤ q) (hn : 0 ≤ n) (hf : inQ n q f) (h1 : ∀ i : Int, 0 ≤ i → i < S.c → (0 ≤ S.op i ∧ S.op i < n) ∧ inQ n q (S.ov i) ∧ inQ n q (S.om i)) (h2 : ∀ i : Int, 0 ≤ i → i < S.tc → inQ n q (S.tv i)) :
    (∀ i : Int, 0 ≤ i → i < (gStep q n S id f).c → (0 ≤ (gStep q n S id f).op i ∧ (gStep q n S id f).op i < n) ∧ inQ n q ((gStep q n S id f).ov i) ∧ inQ n q ((gStep q n S id f).om i)) ∧ ∀ i : Int, 0 ≤ i → i < (gStep q n S id f).tc → inQ n q ((gStep q n S id f).tv i) := by
  have hg := gv_in (n := n) (op := S.op) (ov := S.ov) (om := S.om) (show 0 < q by omega) hf (unitV_in (k := id) hq) S.c
  unfold gStep
  split
  · refine ⟨h1, fun i q1 q2 => ?_⟩
    have q2' : i < S.tc + 1 := q2
    show inQ n q (fup S.tv S.tc _ i)
    by_cases e : i = S.tc
    · rw [e, fup_s]; exact hg.2
    · rw [fup_n e]; exact h2 i q1 (by omega)
  · rename_i hne
    refine ⟨fun i q1 q2 => ?_, h2⟩
    have q2' : i < S.c + 1 := q2
    show (0 ≤ fup S.op S.c _ i ∧ fup S.op S.c _ i < n) ∧ inQ n q (fup S.ov S.c _ i) ∧ inQ n q (fup S.om S.c _ i)
    by_cases e : i = S.c
    · rw [e, fup_s, fup_s, fup_s]
      rcases ff_range (f := (gv q S.op S.ov S.om S.c f (unitV id)).1) hn with h9 | ⟨p1, p2, -⟩
      · exact absurd h9.1 hne
      · exact ⟨⟨p1, p2⟩, mulQ_in (by omega), mulQ_in (by omega)⟩
    · rw [fup_n e, fup_n e, fup_n e]; exact h1 i q1 (by omega)
theorem gRun_wf {q n : Int} {jm : Int → Int} {vec : Int → Int → Int} (hq : 2 ≤ q) (hn : 0 ≤ n) : ∀ k : Nat, k ≤ n → (∀ i : Int, 0 ≤ i → i < k → inQ n q (vec i)) → (∀ i : Int, 0 ≤ i → i < (gRun q n jm vec k).c → (0 ≤ (gRun q n jm vec k).op i ∧ (gRun q n jm vec k).op i < n) ∧ inQ n q ((gRun q n jm vec k).ov i) ∧ inQ n q ((gRun q n jm vec k).om i)) ∧ ∀ i : Int, 0 ≤ i → i < (gRun q n jm vec k).tc → inQ n q ((gRun q n jm vec k).tv i)
  | 0, _, _ => ⟨fun i h1 h2 => absurd h2 (by show ¬ i < ((0 : Nat) : Int); omega), fun i h1 h2 => absurd h2 (by show ¬ i < ((0 : Nat) : Int); omega)⟩
  | k + 1, hk, hv => by
    have ih := gRun_wf (jm := jm) hq hn k (by omega) (fun i h1 h2 => hv i h1 (by omega))
    unfold gRun
    split
    · exact gStep_wf hq hn (hv k (by omega) (by omega)) ih.1 ih.2
    · exact ih
theorem colV_in {n q : Int} {A : Int → Int → Int} {jm : Int → Int} (hq : 2 ≤ q) (hA : ∀ x, 0 ≤ x → x < n → inQ n q (A x)) (k : Int) (hk : 0 ≤ k ∧ k < n) : inQ n q (colV A jm k) := by
  intro j h1 h2
  unfold colV
  split
  · exact hA j h1 h2 k hk.1 hk.2
  · omega
/-- what the reference's fields tell of the hall -/
def MD (μ : Mu) (b n q : Int) (A : Int → Int → Int) (jm : Int → Int) : Prop := μ b 1 = n ∧ μ b 2 = q ∧ (0 ≤ n ∧ n ≤ 36) ∧ qP q ∧ (∀ x, 0 ≤ x → x < n → (∀ j, 0 ≤ j → j < n → μ (b + 1) (36 * x + j) = A x j) ∧ inQ n q (A x)) ∧ ∀ x, 0 ≤ x → x < n → μ (b + 2) x = jm x
theorem MD.fr {μ m : Mu} {b n q : Int} {A : Int → Int → Int} {jm : Int → Int} (h : MD μ b n q A jm) (h1 : m b 1 = μ b 1) (h2 : m b 2 = μ b 2) (h3 : ∀ j, m (b + 1) j = μ (b + 1) j) (h4 : ∀ j, m (b + 2) j = μ (b + 2) j) : MD m b n q A jm := by
  obtain ⟨a1, a2, a3, a4, a5, a6⟩ := h
  exact ⟨by rw [h1, a1], by rw [h2, a2], a3, a4, fun x q1 q2 => ⟨fun j q3 q4 => by rw [h3]; exact (a5 x q1 q2).1 j q3 q4, (a5 x q1 q2).2⟩, fun x q1 q2 => by rw [h4]; exact a6 x q1 q2⟩
/-- bound ones at t1 with their rows at t2 -/
def TdR (μ : Mu) (n : Int) (S : GS) (t1 t2 : Int) : Prop := ∀ i : Int, 0 ≤ i → i < S.tc → μ t1 i = S.td i ∧ ∀ j, 0 ≤ j → j < n → μ t2 (36 * i + j) = S.tv i j
abbrev Slm (n q : Int) (A : Int → Int → Int) (jm : Int → Int) : GS := gRun q n (fun _ => 0) (colV A jm) n.toNat
abbrev Sbt (n q : Int) (A : Int → Int → Int) (jm : Int → Int) : GS := gRun q n jm A n.toNat
/-- what stands in the reference once it knows -/
def KnR (μ : Mu) (b n q : Int) (A : Int → Int → Int) (jm : Int → Int) : Prop :=
  (μ b 40 = (Sbt n q A jm).c ∧ μ b 41 = (Sbt n q A jm).tc ∧ μ b 42 = (Slm n q A jm).tc) ∧ (∀ i : Int, 0 ≤ i → i < (Sbt n q A jm).c → μ (b + 16) i = (Sbt n q A jm).od i) ∧ TdR μ n (Sbt n q A jm) (b + 17) (b + 19) ∧ TdR μ n (Slm n q A jm) (b + 18) (b + 20) ∧ BsRep μ (b + 21) (b + 22) (b + 23) n q (Sbt n q A jm).c (Sbt n q A jm).op (Sbt n q A jm).ov (Sbt n q A jm).om
theorem BsRep.fr {μ m : Mu} {B L M B' L' M' n q : Int} {c : Nat} {op : Int → Int} {ov om : Int → Int → Int} (h : BsRep μ B L M n q c op ov om) (hn : n ≤ 36) (hc : c ≤ 36) (h1 : ∀ j, 0 ≤ j → j < 1296 → m B' j = μ B j) (h2 : ∀ j, 0 ≤ j → j < 36 → m L' j = μ L j) (h3 : ∀ j, 0 ≤ j → j < 1296 → m M' j = μ M j) : BsRep m B' L' M' n q c op ov om := by
  intro i q1 q2
  obtain ⟨w1, w2, w3, w4, w5, w6⟩ := h i q1 q2
  exact ⟨by rw [h2 _ (by omega) (by omega)]; exact w1, w2, fun j z1 z2 => by rw [h1 _ (by omega) (by omega)]; exact w3 j z1 z2, w4, fun j z1 z2 => by rw [h3 _ (by omega) (by omega)]; exact w5 j z1 z2, w6⟩
theorem KnR.fr {μ m : Mu} {b n q : Int} {A : Int → Int → Int} {jm : Int → Int} (h : KnR μ b n q A jm) (hn : n ≤ 36) (h1 : m b 40 = μ b 40 ∧ m b 41 = μ b 41 ∧ m b 42 = μ b 42) (h2 : ∀ x j, b + 16 ≤ x → x ≤ b + 23 → m x j = μ x j) : KnR m b n q A jm := by
  obtain ⟨⟨a1, a2, a3⟩, a4, a5, a6, a7⟩ := h
  have : (Sbt n q A jm).c + (Sbt n q A jm).tc ≤ n.toNat := (gRun_ids q n jm A n.toNat).2.2
  refine ⟨⟨by rw [h1.1, a1], by rw [h1.2.1, a2], by rw [h1.2.2, a3]⟩, fun i q1 q2 => by rw [h2 _ _ (by omega) (by omega)]; exact a4 i q1 q2, fun i q1 q2 => ⟨by rw [h2 _ _ (by omega) (by omega)]; exact (a5 i q1 q2).1, fun j q3 q4 => by rw [h2 _ _ (by omega) (by omega)]; exact (a5 i q1 q2).2 j q3 q4⟩, fun i q1 q2 => ⟨by rw [h2 _ _ (by omega) (by omega)]; exact (a6 i q1 q2).1, fun j q3 q4 => by rw [h2 _ _ (by omega) (by omega)]; exact (a6 i q1 q2).2 j q3 q4⟩, a7.fr hn (by omega) (fun j _ _ => h2 _ _ (by omega) (by omega)) (fun j _ _ => h2 _ _ (by omega) (by omega)) (fun j _ _ => h2 _ _ (by omega) (by omega))⟩
section MKnows2
variable {l : Launch} {G : Gx} {γ μ : Mu}
set_option maxHeartbeats 4000000 in
theorem m_knows (hl : l.stackTraces = false) (d : Nat) (hd : 1 < d) {b n q : Int} {A : Int → Int → Int} {jm : Int → Int} (hS : ModS G b) (hG : ModG γ b) (hD : MD μ b n q A jm) (hk0 : μ b 51 ≠ 0 → KnR μ b n q A jm) :
    Cn l G yX9_knows cX9_knows 3 none d 0 [aR b] γ μ (fun r γ' μ' => r = none ∧ γ' = γ ∧ μ' b 51 ≠ 0 ∧ KnR μ' b n q A jm ∧ KF μ μ' b) := by
  refine Cn.ofP hl (plainFor_of_name (by decide)) (noL1 nlR) rfl (fun P hP o1 o3 X hX hC => B_X9_knows_0 hC hS.o ⟨fun h51 => ?_, fun h51 => ⟨Nat.le_refl _, hP _ _ _ ⟨rfl, rfl, h51, hk0 h51, fun _ _ _ _ => rfl⟩⟩⟩)
  obtain ⟨en, eq, hn, hq, hA, hj⟩ := hD
  have hqb := hq.b
  have s1 := ms1 hS; have s2 := ms2 hS; have s11 := ms11 hS; have s12 := ms12 hS; have s13 := ms13 hS; have s14 := ms14 hS; have s15 := ms15 hS; have s16 := ms16 hS; have s17 := ms17 hS; have s18 := ms18 hS; have s19 := ms19 hS; have s20 := ms20 hS; have s21 := ms21 hS; have s22 := ms22 hS; have s23 := ms23 hS
  have mf : ∀ {m : Mu}, KF μ m b → m b 1 = n ∧ m b 2 = q ∧ (∀ x, 0 ≤ x → x < n → ∀ j, 0 ≤ j → j < n → m (b + 1) (36 * x + j) = A x j) ∧ ∀ x, 0 ≤ x → x < n → m (b + 2) x = jm x := fun {m} h => ⟨by rw [h _ _ (by omega) (by omega)]; exact en, by rw [h _ _ (by omega) (by omega)]; exact eq, fun x q1 q2 j q3 q4 => by rw [h _ _ (by omega) (by omega)]; exact (hA x q1 q2).1 j q3 q4, fun x q1 q2 => by rw [h _ _ (by omega) (by omega)]; exact hj x q1 q2⟩
  -- the third phase: copies
  have ph3b : ∀ (k : Nat) (i : Int) (m : Mu), 0 ≤ i → 36 - i = k → (∀ m', (∀ x j, x ≠ b + 22 → m' x j = m x j) → (∀ j, 0 ≤ j → j < i → m' (b + 22) j = m (b + 22) j) → (∀ j, i ≤ j → j < 36 → m' (b + 22) j = m (b + 12) j) → P none γ m') → V X G (Qm X G 0 P) 0 419 [aR b, aI i, aD] [] γ m := by
    intro k
    induction k with
    | zero =>
      intro i m h0 hk hp
      refine B_X9_knows_419 hC hS.o ?_
      (repeat' (first | (with_reducible exact ixO (by assumption) (by omega)) | with_reducible apply And.intro | with_reducible intro)) <;> (try first | omega | (with_reducible apply Nat.le_refl) | rfl | exact absurd trivial (by assumption))
      exact hp m (fun _ _ _ => rfl) (fun _ _ _ => rfl) (fun j _ _ => by omega)
    | succ k ih =>
      intro i m h0 hk hp
      refine B_X9_knows_419 hC hS.o ?_
      simp (disch := first | assumption | omega) only [row_off, row_in, row_out, up_same, up_ne, cpy_off, rwo_off, rwo_at, rwo_out, mg6, mg7, mg8, mg9, mg10, mg12, mg30, mg31, mg32, mg33, mg35, mg36, mg37, mg38, mg39, mg43, mg44, mg45, mg46, mg47, mg48, mg49, mg50, mg53, mg54, mg55, mg56, mg57, mg58, mg59, mg60, mg65, mg66, mg67, mg68, mg69, mg70, mg71, mg72]
      (repeat' (first | (with_reducible exact ixO (by assumption) (by omega)) | with_reducible apply And.intro | with_reducible intro)) <;> (try first | omega | (with_reducible apply Nat.le_refl) | rfl | exact absurd trivial (by assumption))
      refine ih (i + 1) _ (by omega) (by omega) (fun m' c1 c2 c3 => hp m' (fun x j hx => by rw [c1 x j hx]; simp (disch := first | assumption | omega) only [row_off, row_in, row_out, up_same, up_ne, cpy_off, rwo_off, rwo_at, rwo_out, mg6, mg7, mg8, mg9, mg10, mg12, mg30, mg31, mg32, mg33, mg35, mg36, mg37, mg38, mg39, mg43, mg44, mg45, mg46, mg47, mg48, mg49, mg50, mg53, mg54, mg55, mg56, mg57, mg58, mg59, mg60, mg65, mg66, mg67, mg68, mg69, mg70, mg71, mg72]) (fun j h1 h2 => by rw [c2 j h1 (by omega)]; simp (disch := first | assumption | omega) only [row_off, row_in, row_out, up_same, up_ne, cpy_off, rwo_off, rwo_at, rwo_out, mg6, mg7, mg8, mg9, mg10, mg12, mg30, mg31, mg32, mg33, mg35, mg36, mg37, mg38, mg39, mg43, mg44, mg45, mg46, mg47, mg48, mg49, mg50, mg53, mg54, mg55, mg56, mg57, mg58, mg59, mg60, mg65, mg66, mg67, mg68, mg69, mg70, mg71, mg72]) (fun j h1 h2 => ?_))
      by_cases e : j = i
      · subst e
        rw [c2 j h0 (by omega)]; simp (disch := first | assumption | omega) only [row_off, row_in, row_out, up_same, up_ne, cpy_off, rwo_off, rwo_at, rwo_out, mg6, mg7, mg8, mg9, mg10, mg12, mg30, mg31, mg32, mg33, mg35, mg36, mg37, mg38, mg39, mg43, mg44, mg45, mg46, mg47, mg48, mg49, mg50, mg53, mg54, mg55, mg56, mg57, mg58, mg59, mg60, mg65, mg66, mg67, mg68, mg69, mg70, mg71, mg72]
      · rw [c3 j (by omega) h2]; simp (disch := first | assumption | omega) only [row_off, row_in, row_out, up_same, up_ne, cpy_off, rwo_off, rwo_at, rwo_out, mg6, mg7, mg8, mg9, mg10, mg12, mg30, mg31, mg32, mg33, mg35, mg36, mg37, mg38, mg39, mg43, mg44, mg45, mg46, mg47, mg48, mg49, mg50, mg53, mg54, mg55, mg56, mg57, mg58, mg59, mg60, mg65, mg66, mg67, mg68, mg69, mg70, mg71, mg72]
  have ph3a : ∀ (k : Nat) (i : Int) (m : Mu), 0 ≤ i → 1296 - i = k → (∀ m', (∀ x j, x ≠ b + 21 → x ≠ b + 22 → x ≠ b + 23 → m' x j = m x j) → (∀ j, 0 ≤ j → j < i → m' (b + 21) j = m (b + 21) j ∧ m' (b + 23) j = m (b + 23) j) → (∀ j, i ≤ j → j < 1296 → m' (b + 21) j = m (b + 11) j ∧ m' (b + 23) j = m (b + 13) j) → (∀ j, 0 ≤ j → j < 36 → m' (b + 22) j = m (b + 12) j) → P none γ m') → V X G (Qm X G 0 P) 0 380 [aR b, aI i, aD] [] γ m := by
    intro k
    induction k with
    | zero =>
      intro i m h0 hk hp
      refine B_X9_knows_380 hC hS.o ?_
      (repeat' (first | (with_reducible exact ixO (by assumption) (by omega)) | with_reducible apply And.intro | with_reducible intro)) <;> (try first | omega | (with_reducible apply Nat.le_refl) | rfl | exact absurd trivial (by assumption))
      refine ph3b 36 0 m (by omega) (by omega) (fun m' c1 c2 c3 => hp m' (fun x j h1 h2 h3 => c1 x j h2) (fun j _ _ => ⟨c1 _ _ (by omega), c1 _ _ (by omega)⟩) (fun j _ _ => by omega) (fun j h1 h2 => c3 j h1 h2))
    | succ k ih =>
      intro i m h0 hk hp
      refine B_X9_knows_380 hC hS.o ?_
      simp (disch := first | assumption | omega) only [row_off, row_in, row_out, up_same, up_ne, cpy_off, rwo_off, rwo_at, rwo_out, mg6, mg7, mg8, mg9, mg10, mg12, mg30, mg31, mg32, mg33, mg35, mg36, mg37, mg38, mg39, mg43, mg44, mg45, mg46, mg47, mg48, mg49, mg50, mg53, mg54, mg55, mg56, mg57, mg58, mg59, mg60, mg65, mg66, mg67, mg68, mg69, mg70, mg71, mg72]
      (repeat' (first | (with_reducible exact ixO (by assumption) (by omega)) | with_reducible apply And.intro | with_reducible intro)) <;> (try first | omega | (with_reducible apply Nat.le_refl) | rfl | exact absurd trivial (by assumption))
      refine ih (i + 1) _ (by omega) (by omega) (fun m' c1 c2 c3 c4 => hp m' (fun x j h1 h2 h3 => by rw [c1 x j h1 h2 h3]; simp (disch := first | assumption | omega) only [row_off, row_in, row_out, up_same, up_ne, cpy_off, rwo_off, rwo_at, rwo_out, mg6, mg7, mg8, mg9, mg10, mg12, mg30, mg31, mg32, mg33, mg35, mg36, mg37, mg38, mg39, mg43, mg44, mg45, mg46, mg47, mg48, mg49, mg50, mg53, mg54, mg55, mg56, mg57, mg58, mg59, mg60, mg65, mg66, mg67, mg68, mg69, mg70, mg71, mg72]) (fun j h1 h2 => ?_) (fun j h1 h2 => ?_) (fun j h1 h2 => by rw [c4 j h1 h2]; simp (disch := first | assumption | omega) only [row_off, row_in, row_out, up_same, up_ne, cpy_off, rwo_off, rwo_at, rwo_out, mg6, mg7, mg8, mg9, mg10, mg12, mg30, mg31, mg32, mg33, mg35, mg36, mg37, mg38, mg39, mg43, mg44, mg45, mg46, mg47, mg48, mg49, mg50, mg53, mg54, mg55, mg56, mg57, mg58, mg59, mg60, mg65, mg66, mg67, mg68, mg69, mg70, mg71, mg72]))
      · obtain ⟨c5, c6⟩ := c2 j h1 (by omega)
        rw [c5, c6]
        exact ⟨by simp (disch := first | assumption | omega) only [row_off, row_in, row_out, up_same, up_ne, cpy_off, rwo_off, rwo_at, rwo_out, mg6, mg7, mg8, mg9, mg10, mg12, mg30, mg31, mg32, mg33, mg35, mg36, mg37, mg38, mg39, mg43, mg44, mg45, mg46, mg47, mg48, mg49, mg50, mg53, mg54, mg55, mg56, mg57, mg58, mg59, mg60, mg65, mg66, mg67, mg68, mg69, mg70, mg71, mg72], by simp (disch := first | assumption | omega) only [row_off, row_in, row_out, up_same, up_ne, cpy_off, rwo_off, rwo_at, rwo_out, mg6, mg7, mg8, mg9, mg10, mg12, mg30, mg31, mg32, mg33, mg35, mg36, mg37, mg38, mg39, mg43, mg44, mg45, mg46, mg47, mg48, mg49, mg50, mg53, mg54, mg55, mg56, mg57, mg58, mg59, mg60, mg65, mg66, mg67, mg68, mg69, mg70, mg71, mg72]⟩
      · by_cases e : j = i
        · subst e
          obtain ⟨c5, c6⟩ := c2 j h0 (by omega)
          rw [c5, c6]
          exact ⟨by simp (disch := first | assumption | omega) only [row_off, row_in, row_out, up_same, up_ne, cpy_off, rwo_off, rwo_at, rwo_out, mg6, mg7, mg8, mg9, mg10, mg12, mg30, mg31, mg32, mg33, mg35, mg36, mg37, mg38, mg39, mg43, mg44, mg45, mg46, mg47, mg48, mg49, mg50, mg53, mg54, mg55, mg56, mg57, mg58, mg59, mg60, mg65, mg66, mg67, mg68, mg69, mg70, mg71, mg72], by simp (disch := first | assumption | omega) only [row_off, row_in, row_out, up_same, up_ne, cpy_off, rwo_off, rwo_at, rwo_out, mg6, mg7, mg8, mg9, mg10, mg12, mg30, mg31, mg32, mg33, mg35, mg36, mg37, mg38, mg39, mg43, mg44, mg45, mg46, mg47, mg48, mg49, mg50, mg53, mg54, mg55, mg56, mg57, mg58, mg59, mg60, mg65, mg66, mg67, mg68, mg69, mg70, mg71, mg72]⟩
        · obtain ⟨c5, c6⟩ := c3 j (by omega) h2
          rw [c5, c6]
          exact ⟨by simp (disch := first | assumption | omega) only [row_off, row_in, row_out, up_same, up_ne, cpy_off, rwo_off, rwo_at, rwo_out, mg6, mg7, mg8, mg9, mg10, mg12, mg30, mg31, mg32, mg33, mg35, mg36, mg37, mg38, mg39, mg43, mg44, mg45, mg46, mg47, mg48, mg49, mg50, mg53, mg54, mg55, mg56, mg57, mg58, mg59, mg60, mg65, mg66, mg67, mg68, mg69, mg70, mg71, mg72], by simp (disch := first | assumption | omega) only [row_off, row_in, row_out, up_same, up_ne, cpy_off, rwo_off, rwo_at, rwo_out, mg6, mg7, mg8, mg9, mg10, mg12, mg30, mg31, mg32, mg33, mg35, mg36, mg37, mg38, mg39, mg43, mg44, mg45, mg46, mg47, mg48, mg49, mg50, mg53, mg54, mg55, mg56, mg57, mg58, mg59, mg60, mg65, mg66, mg67, mg68, mg69, mg70, mg71, mg72]⟩
  have ph2 : ∀ (k : Nat) (i : Nat) (m : Mu), i + k = n.toNat → KF μ m b → m b 51 ≠ 0 → KN m b n q (gRun q n jm A i) (b + 17) (b + 19) 41 → (∀ i2 : Int, 0 ≤ i2 → i2 < (gRun q n jm A i).c → m (b + 16) i2 = (gRun q n jm A i).od i2) → m b 42 = (Slm n q A jm).tc → TdR m n (Slm n q A jm) (b + 18) (b + 20) → V X G (Qm X G 0 P) 0 199 [aR b, aI i, aD] [] γ m := by
    intro k
    induction k with
    | zero =>
      intro i m hi hF h51 hK hOB h42 hTL
      obtain ⟨k1, k2, kA, kj⟩ := mf hF
      obtain rfl : i = n.toNat := by omega
      obtain ⟨K1, K2, K3, K4⟩ := hK
      refine B_X9_knows_199 hC hS.o ?_
      simp (disch := first | assumption | omega) only [row_off, row_in, row_out, up_same, up_ne, cpy_off, rwo_off, rwo_at, rwo_out, mg6, mg7, mg8, mg9, mg10, mg12, mg30, mg31, mg32, mg33, mg35, mg36, mg37, mg38, mg39, mg43, mg44, mg45, mg46, mg47, mg48, mg49, mg50, mg53, mg54, mg55, mg56, mg57, mg58, mg59, mg60, mg65, mg66, mg67, mg68, mg69, mg70, mg71, mg72, k1, K1]
      (repeat' (first | (with_reducible exact ixO (by assumption) (by omega)) | with_reducible apply And.intro | with_reducible intro)) <;> (try first | omega | (with_reducible apply Nat.le_refl) | rfl | exact absurd trivial (by assumption))
      have hsz : (gRun q n jm A n.toNat).c + (gRun q n jm A n.toNat).tc ≤ n.toNat := (gRun_ids q n jm A n.toNat).2.2
      refine ph3a 1296 0 _ (by omega) (by omega) (fun m' c1 c2 c3 c4 => hP _ _ _ ⟨rfl, rfl, ?_, ⟨⟨?_, ?_, ?_⟩, fun i2 q1 q2 => ?_, fun i2 q1 q2 => ⟨?_, fun j q3 q4 => ?_⟩, fun i2 q1 q2 => ⟨?_, fun j q3 q4 => ?_⟩, ?_⟩, fun x j h1 h2 => ?_⟩)
      · rw [c1 _ _ (by omega) (by omega) (by omega)]; simp (disch := first | assumption | omega) only [row_off, row_in, row_out, up_same, up_ne, cpy_off, rwo_off, rwo_at, rwo_out, mg6, mg7, mg8, mg9, mg10, mg12, mg30, mg31, mg32, mg33, mg35, mg36, mg37, mg38, mg39, mg43, mg44, mg45, mg46, mg47, mg48, mg49, mg50, mg53, mg54, mg55, mg56, mg57, mg58, mg59, mg60, mg65, mg66, mg67, mg68, mg69, mg70, mg71, mg72]; exact h51
      · rw [c1 _ _ (by omega) (by omega) (by omega)]; simp (disch := first | assumption | omega) only [row_off, row_in, row_out, up_same, up_ne, cpy_off, rwo_off, rwo_at, rwo_out, mg6, mg7, mg8, mg9, mg10, mg12, mg30, mg31, mg32, mg33, mg35, mg36, mg37, mg38, mg39, mg43, mg44, mg45, mg46, mg47, mg48, mg49, mg50, mg53, mg54, mg55, mg56, mg57, mg58, mg59, mg60, mg65, mg66, mg67, mg68, mg69, mg70, mg71, mg72]
      · rw [c1 _ _ (by omega) (by omega) (by omega)]; simp (disch := first | assumption | omega) only [row_off, row_in, row_out, up_same, up_ne, cpy_off, rwo_off, rwo_at, rwo_out, mg6, mg7, mg8, mg9, mg10, mg12, mg30, mg31, mg32, mg33, mg35, mg36, mg37, mg38, mg39, mg43, mg44, mg45, mg46, mg47, mg48, mg49, mg50, mg53, mg54, mg55, mg56, mg57, mg58, mg59, mg60, mg65, mg66, mg67, mg68, mg69, mg70, mg71, mg72]; exact K2
      · rw [c1 _ _ (by omega) (by omega) (by omega)]; simp (disch := first | assumption | omega) only [row_off, row_in, row_out, up_same, up_ne, cpy_off, rwo_off, rwo_at, rwo_out, mg6, mg7, mg8, mg9, mg10, mg12, mg30, mg31, mg32, mg33, mg35, mg36, mg37, mg38, mg39, mg43, mg44, mg45, mg46, mg47, mg48, mg49, mg50, mg53, mg54, mg55, mg56, mg57, mg58, mg59, mg60, mg65, mg66, mg67, mg68, mg69, mg70, mg71, mg72]; exact h42
      · rw [c1 _ _ (by omega) (by omega) (by omega)]; simp (disch := first | assumption | omega) only [row_off, row_in, row_out, up_same, up_ne, cpy_off, rwo_off, rwo_at, rwo_out, mg6, mg7, mg8, mg9, mg10, mg12, mg30, mg31, mg32, mg33, mg35, mg36, mg37, mg38, mg39, mg43, mg44, mg45, mg46, mg47, mg48, mg49, mg50, mg53, mg54, mg55, mg56, mg57, mg58, mg59, mg60, mg65, mg66, mg67, mg68, mg69, mg70, mg71, mg72]; exact hOB i2 q1 q2
      · rw [c1 _ _ (by omega) (by omega) (by omega)]; simp (disch := first | assumption | omega) only [row_off, row_in, row_out, up_same, up_ne, cpy_off, rwo_off, rwo_at, rwo_out, mg6, mg7, mg8, mg9, mg10, mg12, mg30, mg31, mg32, mg33, mg35, mg36, mg37, mg38, mg39, mg43, mg44, mg45, mg46, mg47, mg48, mg49, mg50, mg53, mg54, mg55, mg56, mg57, mg58, mg59, mg60, mg65, mg66, mg67, mg68, mg69, mg70, mg71, mg72]; exact (K4 i2 q1 q2).1
      · rw [c1 _ _ (by omega) (by omega) (by omega)]; simp (disch := first | assumption | omega) only [row_off, row_in, row_out, up_same, up_ne, cpy_off, rwo_off, rwo_at, rwo_out, mg6, mg7, mg8, mg9, mg10, mg12, mg30, mg31, mg32, mg33, mg35, mg36, mg37, mg38, mg39, mg43, mg44, mg45, mg46, mg47, mg48, mg49, mg50, mg53, mg54, mg55, mg56, mg57, mg58, mg59, mg60, mg65, mg66, mg67, mg68, mg69, mg70, mg71, mg72]; exact (K4 i2 q1 q2).2 j q3 q4
      · rw [c1 _ _ (by omega) (by omega) (by omega)]; simp (disch := first | assumption | omega) only [row_off, row_in, row_out, up_same, up_ne, cpy_off, rwo_off, rwo_at, rwo_out, mg6, mg7, mg8, mg9, mg10, mg12, mg30, mg31, mg32, mg33, mg35, mg36, mg37, mg38, mg39, mg43, mg44, mg45, mg46, mg47, mg48, mg49, mg50, mg53, mg54, mg55, mg56, mg57, mg58, mg59, mg60, mg65, mg66, mg67, mg68, mg69, mg70, mg71, mg72]; exact (hTL i2 q1 q2).1
      · rw [c1 _ _ (by omega) (by omega) (by omega)]; simp (disch := first | assumption | omega) only [row_off, row_in, row_out, up_same, up_ne, cpy_off, rwo_off, rwo_at, rwo_out, mg6, mg7, mg8, mg9, mg10, mg12, mg30, mg31, mg32, mg33, mg35, mg36, mg37, mg38, mg39, mg43, mg44, mg45, mg46, mg47, mg48, mg49, mg50, mg53, mg54, mg55, mg56, mg57, mg58, mg59, mg60, mg65, mg66, mg67, mg68, mg69, mg70, mg71, mg72]; exact (hTL i2 q1 q2).2 j q3 q4
      · exact K3.fr hn.2 (by omega) (fun j z1 z2 => by rw [(c3 j z1 z2).1]; simp (disch := first | assumption | omega) only [row_off, row_in, row_out, up_same, up_ne, cpy_off, rwo_off, rwo_at, rwo_out, mg6, mg7, mg8, mg9, mg10, mg12, mg30, mg31, mg32, mg33, mg35, mg36, mg37, mg38, mg39, mg43, mg44, mg45, mg46, mg47, mg48, mg49, mg50, mg53, mg54, mg55, mg56, mg57, mg58, mg59, mg60, mg65, mg66, mg67, mg68, mg69, mg70, mg71, mg72]) (fun j z1 z2 => by rw [c4 j z1 z2]; simp (disch := first | assumption | omega) only [row_off, row_in, row_out, up_same, up_ne, cpy_off, rwo_off, rwo_at, rwo_out, mg6, mg7, mg8, mg9, mg10, mg12, mg30, mg31, mg32, mg33, mg35, mg36, mg37, mg38, mg39, mg43, mg44, mg45, mg46, mg47, mg48, mg49, mg50, mg53, mg54, mg55, mg56, mg57, mg58, mg59, mg60, mg65, mg66, mg67, mg68, mg69, mg70, mg71, mg72]) (fun j z1 z2 => by rw [(c3 j z1 z2).2]; simp (disch := first | assumption | omega) only [row_off, row_in, row_out, up_same, up_ne, cpy_off, rwo_off, rwo_at, rwo_out, mg6, mg7, mg8, mg9, mg10, mg12, mg30, mg31, mg32, mg33, mg35, mg36, mg37, mg38, mg39, mg43, mg44, mg45, mg46, mg47, mg48, mg49, mg50, mg53, mg54, mg55, mg56, mg57, mg58, mg59, mg60, mg65, mg66, mg67, mg68, mg69, mg70, mg71, mg72])
      · rw [c1 _ _ (by omega) (by omega) (by omega)]; simp (disch := first | assumption | omega) only [row_off, row_in, row_out, up_same, up_ne, cpy_off, rwo_off, rwo_at, rwo_out, mg6, mg7, mg8, mg9, mg10, mg12, mg30, mg31, mg32, mg33, mg35, mg36, mg37, mg38, mg39, mg43, mg44, mg45, mg46, mg47, mg48, mg49, mg50, mg53, mg54, mg55, mg56, mg57, mg58, mg59, mg60, mg65, mg66, mg67, mg68, mg69, mg70, mg71, mg72]; exact hF x j h1 h2
    | succ k ih =>
      intro i m hi hF h51 hK hOB h42 hTL
      obtain ⟨k1, k2, kA, kj⟩ := mf hF
      have hids := gRun_ids q n jm A i
      have hih := ih (i + 1)
      rw [gRun] at hih
      generalize gRun q n jm A i = S at hids hK hih hOB
      have hcS := hids.2.2
      refine B_X9_knows_199 hC hS.o ?_
      simp (disch := first | assumption | omega) only [row_off, row_in, row_out, up_same, up_ne, cpy_off, rwo_off, rwo_at, rwo_out, mg6, mg7, mg8, mg9, mg10, mg12, mg30, mg31, mg32, mg33, mg35, mg36, mg37, mg38, mg39, mg43, mg44, mg45, mg46, mg47, mg48, mg49, mg50, mg53, mg54, mg55, mg56, mg57, mg58, mg59, mg60, mg65, mg66, mg67, mg68, mg69, mg70, mg71, mg72, k1, kj i (by omega) (by omega)]
      (repeat' (first | (with_reducible exact ixO (by assumption) (by omega)) | with_reducible apply And.intro | with_reducible intro)) <;> (try first | omega | (with_reducible apply Nat.le_refl) | rfl | exact absurd trivial (by assumption))
      rotate_left
      · rename_i hji
        rw [if_neg hji] at hih
        exact hih m (by omega) hF h51 hK hOB h42 hTL
      rename_i hji
      rw [if_pos hji] at hih
      have hvq : inQ n q (A i) := (hA i (by omega) (by omega)).2
      have huq : inQ n q (unitV i) := unitV_in hqb.1
      obtain ⟨K1, K2, K3, K4⟩ := id hK
      have aft : ∀ m1 : Mu, (∀ j, 0 ≤ j → j < n → m1 (b + 14) j = (gv q S.op S.ov S.om S.c (A i) (unitV i)).1 j) → (∀ j, 0 ≤ j → j < n → m1 (b + 15) j = (gv q S.op S.ov S.om S.c (A i) (unitV i)).2 j) → (∀ x j, x ≠ b + 14 → x ≠ b + 15 → m1 x j = m x j) → V X G (Qm X G 0 P) 0 288 [aR b, aI i, aD] [aI (if ff (gv q S.op S.ov S.om S.c (A i) (unitV i)).1 n = -1 then 0 else 1)] γ m1 := by
        intro m1 a1 a2 a3
        have hgi := gv_in (op := S.op) (ov := S.ov) (om := S.om) (show 0 < q by omega) hvq huq S.c
        have e34 : m1 b 34 = S.c := by rw [a3 _ _ (by omega) (by omega)]; exact K1
        have eT : m1 b 41 = S.tc := by rw [a3 _ _ (by omega) (by omega)]; exact K2
        have e1 : m1 b 1 = n := by rw [a3 _ _ (by omega) (by omega)]; exact k1
        have e2 : m1 b 2 = q := by rw [a3 _ _ (by omega) (by omega)]; exact k2
        refine B_X9_knows_288 hC hS.o ?_
        by_cases hz : ff (gv q S.op S.ov S.om S.c (A i) (unitV i)).1 n = -1
        · rw [if_pos hz]
          simp (disch := first | assumption | omega) only [row_off, row_in, row_out, up_same, up_ne, cpy_off, rwo_off, rwo_at, rwo_out, mg6, mg7, mg8, mg9, mg10, mg12, mg30, mg31, mg32, mg33, mg35, mg36, mg37, mg38, mg39, mg43, mg44, mg45, mg46, mg47, mg48, mg49, mg50, mg53, mg54, mg55, mg56, mg57, mg58, mg59, mg60, mg65, mg66, mg67, mg68, mg69, mg70, mg71, mg72, eT]
          (repeat' (first | (with_reducible exact ixO (by assumption) (by omega)) | with_reducible apply And.intro | with_reducible intro)) <;> (try first | omega | (with_reducible apply Nat.le_refl) | rfl | exact absurd trivial (by assumption))
          have cpl : ∀ (k2 : Nat) (j : Int), 0 ≤ j → n - j = k2 → V X G (Qm X G 0 P) 0 320 [aR b, aI i, aI j] [] γ (rwo (up m1 (b + 17) S.tc i) (b + 19) (36 * S.tc) j (gv q S.op S.ov S.om S.c (A i) (unitV i)).2) := by
            intro k2
            induction k2 with
            | zero =>
              intro j h0 hj2
              obtain rfl : j = n := by omega
              refine B_X9_knows_320 hC hS.o ?_
              simp (disch := first | assumption | omega) only [row_off, row_in, row_out, up_same, up_ne, cpy_off, rwo_off, rwo_at, rwo_out, mg6, mg7, mg8, mg9, mg10, mg12, mg30, mg31, mg32, mg33, mg35, mg36, mg37, mg38, mg39, mg43, mg44, mg45, mg46, mg47, mg48, mg49, mg50, mg53, mg54, mg55, mg56, mg57, mg58, mg59, mg60, mg65, mg66, mg67, mg68, mg69, mg70, mg71, mg72, e1, eT]
              (repeat' (first | (with_reducible exact ixO (by assumption) (by omega)) | with_reducible apply And.intro | with_reducible intro)) <;> (try first | omega | (with_reducible apply Nat.le_refl) | rfl | exact absurd trivial (by assumption))
              refine hih _ (by omega) (fun x j h1 h2 => by simp (disch := first | assumption | omega) only [row_off, row_in, row_out, up_same, up_ne, cpy_off, rwo_off, rwo_at, rwo_out, mg6, mg7, mg8, mg9, mg10, mg12, mg30, mg31, mg32, mg33, mg35, mg36, mg37, mg38, mg39, mg43, mg44, mg45, mg46, mg47, mg48, mg49, mg50, mg53, mg54, mg55, mg56, mg57, mg58, mg59, mg60, mg65, mg66, mg67, mg68, mg69, mg70, mg71, mg72]; rw [a3 _ _ (by omega) (by omega)]; exact hF x j h1 h2) (by simp (disch := first | assumption | omega) only [row_off, row_in, row_out, up_same, up_ne, cpy_off, rwo_off, rwo_at, rwo_out, mg6, mg7, mg8, mg9, mg10, mg12, mg30, mg31, mg32, mg33, mg35, mg36, mg37, mg38, mg39, mg43, mg44, mg45, mg46, mg47, mg48, mg49, mg50, mg53, mg54, mg55, mg56, mg57, mg58, mg59, mg60, mg65, mg66, mg67, mg68, mg69, mg70, mg71, mg72]; rw [a3 _ _ (by omega) (by omega)]; exact h51) (KN_tie hK hz (by omega) (by omega) (by omega) (by simp (disch := first | assumption | omega) only [row_off, row_in, row_out, up_same, up_ne, cpy_off, rwo_off, rwo_at, rwo_out, mg6, mg7, mg8, mg9, mg10, mg12, mg30, mg31, mg32, mg33, mg35, mg36, mg37, mg38, mg39, mg43, mg44, mg45, mg46, mg47, mg48, mg49, mg50, mg53, mg54, mg55, mg56, mg57, mg58, mg59, mg60, mg65, mg66, mg67, mg68, mg69, mg70, mg71, mg72]) (fun i2 => ?_) (fun j z1 z2 => by simp (disch := first | assumption | omega) only [row_off, row_in, row_out, up_same, up_ne, cpy_off, rwo_off, rwo_at, rwo_out, mg6, mg7, mg8, mg9, mg10, mg12, mg30, mg31, mg32, mg33, mg35, mg36, mg37, mg38, mg39, mg43, mg44, mg45, mg46, mg47, mg48, mg49, mg50, mg53, mg54, mg55, mg56, mg57, mg58, mg59, mg60, mg65, mg66, mg67, mg68, mg69, mg70, mg71, mg72]) (fun j z1 => by simp (disch := first | assumption | omega) only [row_off, row_in, row_out, up_same, up_ne, cpy_off, rwo_off, rwo_at, rwo_out, mg6, mg7, mg8, mg9, mg10, mg12, mg30, mg31, mg32, mg33, mg35, mg36, mg37, mg38, mg39, mg43, mg44, mg45, mg46, mg47, mg48, mg49, mg50, mg53, mg54, mg55, mg56, mg57, mg58, mg59, mg60, mg65, mg66, mg67, mg68, mg69, mg70, mg71, mg72]; rw [a3 _ _ (by omega) (by omega)]) hn.2 (fun x j hx => by simp (disch := first | assumption | omega) only [row_off, row_in, row_out, up_same, up_ne, cpy_off, rwo_off, rwo_at, rwo_out, mg6, mg7, mg8, mg9, mg10, mg12, mg30, mg31, mg32, mg33, mg35, mg36, mg37, mg38, mg39, mg43, mg44, mg45, mg46, mg47, mg48, mg49, mg50, mg53, mg54, mg55, mg56, mg57, mg58, mg59, mg60, mg65, mg66, mg67, mg68, mg69, mg70, mg71, mg72]; rw [a3 _ _ (by omega) (by omega)])) (fun i2 q1 q2 => ?_) (by simp (disch := first | assumption | omega) only [row_off, row_in, row_out, up_same, up_ne, cpy_off, rwo_off, rwo_at, rwo_out, mg6, mg7, mg8, mg9, mg10, mg12, mg30, mg31, mg32, mg33, mg35, mg36, mg37, mg38, mg39, mg43, mg44, mg45, mg46, mg47, mg48, mg49, mg50, mg53, mg54, mg55, mg56, mg57, mg58, mg59, mg60, mg65, mg66, mg67, mg68, mg69, mg70, mg71, mg72]; rw [a3 _ _ (by omega) (by omega)]; exact h42) (fun i2 q1 q2 => ⟨by simp (disch := first | assumption | omega) only [row_off, row_in, row_out, up_same, up_ne, cpy_off, rwo_off, rwo_at, rwo_out, mg6, mg7, mg8, mg9, mg10, mg12, mg30, mg31, mg32, mg33, mg35, mg36, mg37, mg38, mg39, mg43, mg44, mg45, mg46, mg47, mg48, mg49, mg50, mg53, mg54, mg55, mg56, mg57, mg58, mg59, mg60, mg65, mg66, mg67, mg68, mg69, mg70, mg71, mg72]; rw [a3 _ _ (by omega) (by omega)]; exact (hTL i2 q1 q2).1, fun j q3 q4 => by simp (disch := first | assumption | omega) only [row_off, row_in, row_out, up_same, up_ne, cpy_off, rwo_off, rwo_at, rwo_out, mg6, mg7, mg8, mg9, mg10, mg12, mg30, mg31, mg32, mg33, mg35, mg36, mg37, mg38, mg39, mg43, mg44, mg45, mg46, mg47, mg48, mg49, mg50, mg53, mg54, mg55, mg56, mg57, mg58, mg59, mg60, mg65, mg66, mg67, mg68, mg69, mg70, mg71, mg72]; rw [a3 _ _ (by omega) (by omega)]; exact (hTL i2 q1 q2).2 j q3 q4⟩)
              · by_cases e : i2 = S.tc
                · subst e
                  simp (disch := first | assumption | omega) only [row_off, row_in, row_out, up_same, up_ne, cpy_off, rwo_off, rwo_at, rwo_out, mg6, mg7, mg8, mg9, mg10, mg12, mg30, mg31, mg32, mg33, mg35, mg36, mg37, mg38, mg39, mg43, mg44, mg45, mg46, mg47, mg48, mg49, mg50, mg53, mg54, mg55, mg56, mg57, mg58, mg59, mg60, mg65, mg66, mg67, mg68, mg69, mg70, mg71, mg72]
                  exact (if_pos trivial).symm
                · simp (disch := first | assumption | omega) only [row_off, row_in, row_out, up_same, up_ne, cpy_off, rwo_off, rwo_at, rwo_out, mg6, mg7, mg8, mg9, mg10, mg12, mg30, mg31, mg32, mg33, mg35, mg36, mg37, mg38, mg39, mg43, mg44, mg45, mg46, mg47, mg48, mg49, mg50, mg53, mg54, mg55, mg56, mg57, mg58, mg59, mg60, mg65, mg66, mg67, mg68, mg69, mg70, mg71, mg72]
                  rw [if_neg e, a3 _ _ (by omega) (by omega)]
              · simp (disch := first | assumption | omega) only [row_off, row_in, row_out, up_same, up_ne, cpy_off, rwo_off, rwo_at, rwo_out, mg6, mg7, mg8, mg9, mg10, mg12, mg30, mg31, mg32, mg33, mg35, mg36, mg37, mg38, mg39, mg43, mg44, mg45, mg46, mg47, mg48, mg49, mg50, mg53, mg54, mg55, mg56, mg57, mg58, mg59, mg60, mg65, mg66, mg67, mg68, mg69, mg70, mg71, mg72]
                rw [a3 _ _ (by omega) (by omega)]
                unfold gStep at q2 ⊢
                rw [if_pos hz] at q2 ⊢
                exact hOB i2 q1 q2
            | succ k2 ih2 =>
              intro j h0 hj2
              have hih2 := ih2 (j + 1) (by omega) (by omega)
              rw [← rwo_s (f := (gv q S.op S.ov S.om S.c (A i) (unitV i)).2) h0] at hih2
              refine B_X9_knows_320 hC hS.o ?_
              simp (disch := first | assumption | omega) only [row_off, row_in, row_out, up_same, up_ne, cpy_off, rwo_off, rwo_at, rwo_out, mg6, mg7, mg8, mg9, mg10, mg12, mg30, mg31, mg32, mg33, mg35, mg36, mg37, mg38, mg39, mg43, mg44, mg45, mg46, mg47, mg48, mg49, mg50, mg53, mg54, mg55, mg56, mg57, mg58, mg59, mg60, mg65, mg66, mg67, mg68, mg69, mg70, mg71, mg72, e1, eT, a2 j h0 (by omega)]
              (repeat' (first | (with_reducible exact ixO (by assumption) (by omega)) | with_reducible apply And.intro | with_reducible intro)) <;> (try first | omega | (with_reducible apply Nat.le_refl) | rfl | exact absurd trivial (by assumption))
              all_goals exact hih2
          have h9 := cpl n.toNat 0 (by omega) (by omega)
          rw [rwo_0] at h9
          exact h9
        · rw [if_neg hz]
          have e3 : BsRep m1 (b + 11) (b + 12) (b + 13) n q S.c S.op S.ov S.om := K3.fr hn.2 (by omega) (fun j _ _ => a3 _ _ (by omega) (by omega)) (fun j _ _ => a3 _ _ (by omega) (by omega)) (fun j _ _ => a3 _ _ (by omega) (by omega))
          simp (disch := first | assumption | omega) only [row_off, row_in, row_out, up_same, up_ne, cpy_off, rwo_off, rwo_at, rwo_out, mg6, mg7, mg8, mg9, mg10, mg12, mg30, mg31, mg32, mg33, mg35, mg36, mg37, mg38, mg39, mg43, mg44, mg45, mg46, mg47, mg48, mg49, mg50, mg53, mg54, mg55, mg56, mg57, mg58, mg59, mg60, mg65, mg66, mg67, mg68, mg69, mg70, mg71, mg72, e34]
          (repeat' (first | (with_reducible exact ixO (by assumption) (by omega)) | with_reducible apply And.intro | with_reducible intro)) <;> (try first | omega | (with_reducible apply Nat.le_refl) | rfl | exact absurd trivial (by assumption))
          have e4 : BsRep (up m1 (b + 16) S.c i) (b + 11) (b + 12) (b + 13) n q S.c S.op S.ov S.om := e3.fr hn.2 (by omega) (fun j _ _ => by simp (disch := first | assumption | omega) only [row_off, row_in, row_out, up_same, up_ne, cpy_off, rwo_off, rwo_at, rwo_out, mg6, mg7, mg8, mg9, mg10, mg12, mg30, mg31, mg32, mg33, mg35, mg36, mg37, mg38, mg39, mg43, mg44, mg45, mg46, mg47, mg48, mg49, mg50, mg53, mg54, mg55, mg56, mg57, mg58, mg59, mg60, mg65, mg66, mg67, mg68, mg69, mg70, mg71, mg72]) (fun j _ _ => by simp (disch := first | assumption | omega) only [row_off, row_in, row_out, up_same, up_ne, cpy_off, rwo_off, rwo_at, rwo_out, mg6, mg7, mg8, mg9, mg10, mg12, mg30, mg31, mg32, mg33, mg35, mg36, mg37, mg38, mg39, mg43, mg44, mg45, mg46, mg47, mg48, mg49, mg50, mg53, mg54, mg55, mg56, mg57, mg58, mg59, mg60, mg65, mg66, mg67, mg68, mg69, mg70, mg71, mg72]) (fun j _ _ => by simp (disch := first | assumption | omega) only [row_off, row_in, row_out, up_same, up_ne, cpy_off, rwo_off, rwo_at, rwo_out, mg6, mg7, mg8, mg9, mg10, mg12, mg30, mg31, mg32, mg33, mg35, mg36, mg37, mg38, mg39, mg43, mg44, mg45, mg46, mg47, mg48, mg49, mg50, mg53, mg54, mg55, mg56, mg57, mg58, mg59, mg60, mg65, mg66, mg67, mg68, mg69, mg70, mg71, mg72])
          refine ⟨1, 0, _, hd, Nat.le_refl _, hX ▸ m_keepsRow hl 1 (by omega) hS hG (by simp (disch := first | assumption | omega) only [row_off, row_in, row_out, up_same, up_ne, cpy_off, rwo_off, rwo_at, rwo_out, mg6, mg7, mg8, mg9, mg10, mg12, mg30, mg31, mg32, mg33, mg35, mg36, mg37, mg38, mg39, mg43, mg44, mg45, mg46, mg47, mg48, mg49, mg50, mg53, mg54, mg55, mg56, mg57, mg58, mg59, mg60, mg65, mg66, mg67, mg68, mg69, mg70, mg71, mg72]; exact e1) (by simp (disch := first | assumption | omega) only [row_off, row_in, row_out, up_same, up_ne, cpy_off, rwo_off, rwo_at, rwo_out, mg6, mg7, mg8, mg9, mg10, mg12, mg30, mg31, mg32, mg33, mg35, mg36, mg37, mg38, mg39, mg43, mg44, mg45, mg46, mg47, mg48, mg49, mg50, mg53, mg54, mg55, mg56, mg57, mg58, mg59, mg60, mg65, mg66, mg67, mg68, mg69, mg70, mg71, mg72]; exact e2) (by simp (disch := first | assumption | omega) only [row_off, row_in, row_out, up_same, up_ne, cpy_off, rwo_off, rwo_at, rwo_out, mg6, mg7, mg8, mg9, mg10, mg12, mg30, mg31, mg32, mg33, mg35, mg36, mg37, mg38, mg39, mg43, mg44, mg45, mg46, mg47, mg48, mg49, mg50, mg53, mg54, mg55, mg56, mg57, mg58, mg59, mg60, mg65, mg66, mg67, mg68, mg69, mg70, mg71, mg72]; exact e34) hn hq (by omega) e4 (fun j z1 z2 => by simp (disch := first | assumption | omega) only [row_off, row_in, row_out, up_same, up_ne, cpy_off, rwo_off, rwo_at, rwo_out, mg6, mg7, mg8, mg9, mg10, mg12, mg30, mg31, mg32, mg33, mg35, mg36, mg37, mg38, mg39, mg43, mg44, mg45, mg46, mg47, mg48, mg49, mg50, mg53, mg54, mg55, mg56, mg57, mg58, mg59, mg60, mg65, mg66, mg67, mg68, mg69, mg70, mg71, mg72]; exact a1 j z1 z2) (fun j z1 z2 => by simp (disch := first | assumption | omega) only [row_off, row_in, row_out, up_same, up_ne, cpy_off, rwo_off, rwo_at, rwo_out, mg6, mg7, mg8, mg9, mg10, mg12, mg30, mg31, mg32, mg33, mg35, mg36, mg37, mg38, mg39, mg43, mg44, mg45, mg46, mg47, mg48, mg49, mg50, mg53, mg54, mg55, mg56, mg57, mg58, mg59, mg60, mg65, mg66, mg67, mg68, mg69, mg70, mg71, mg72]; exact a2 j z1 z2) hgi.1 hgi.2 hz, ?_⟩
          rintro r γ' m2 ⟨z1, z2, z3, z4, z5⟩
          rw [z1, z2]
          refine B_X9_knows_305 hC hS.o ⟨⟨by omega, by omega⟩, hih m2 (by omega) (fun x j h1 h2 => ?_) ?_ (KN_keep hK hz (by omega) (by omega) (by omega) z3 z4 (fun x j w1 w2 w3 w4 => ?_)) (fun i2 q1 q2 => ?_) ?_ (fun i2 q1 q2 => ⟨?_, fun j q3 q4 => ?_⟩)⟩
          · rw [z5 _ _ (by omega) (by omega) (by omega) (by omega)]; simp (disch := first | assumption | omega) only [row_off, row_in, row_out, up_same, up_ne, cpy_off, rwo_off, rwo_at, rwo_out, mg6, mg7, mg8, mg9, mg10, mg12, mg30, mg31, mg32, mg33, mg35, mg36, mg37, mg38, mg39, mg43, mg44, mg45, mg46, mg47, mg48, mg49, mg50, mg53, mg54, mg55, mg56, mg57, mg58, mg59, mg60, mg65, mg66, mg67, mg68, mg69, mg70, mg71, mg72]; rw [a3 _ _ (by omega) (by omega)]; exact hF x j h1 h2
          · rw [z5 _ _ (by omega) (by omega) (by omega) (by omega)]; simp (disch := first | assumption | omega) only [row_off, row_in, row_out, up_same, up_ne, cpy_off, rwo_off, rwo_at, rwo_out, mg6, mg7, mg8, mg9, mg10, mg12, mg30, mg31, mg32, mg33, mg35, mg36, mg37, mg38, mg39, mg43, mg44, mg45, mg46, mg47, mg48, mg49, mg50, mg53, mg54, mg55, mg56, mg57, mg58, mg59, mg60, mg65, mg66, mg67, mg68, mg69, mg70, mg71, mg72]; rw [a3 _ _ (by omega) (by omega)]; exact h51
          · rw [z5 _ _ w1 w2 w3 (by omega)]; simp (disch := first | assumption | omega) only [row_off, row_in, row_out, up_same, up_ne, cpy_off, rwo_off, rwo_at, rwo_out, mg6, mg7, mg8, mg9, mg10, mg12, mg30, mg31, mg32, mg33, mg35, mg36, mg37, mg38, mg39, mg43, mg44, mg45, mg46, mg47, mg48, mg49, mg50, mg53, mg54, mg55, mg56, mg57, mg58, mg59, mg60, mg65, mg66, mg67, mg68, mg69, mg70, mg71, mg72]; rw [a3 _ _ (by omega) (by omega)]
          · rw [z5 _ _ (by omega) (by omega) (by omega) (by omega)]
            unfold gStep at q2 ⊢
            rw [if_neg hz] at q2 ⊢
            have q2' : i2 < S.c + 1 := q2
            show _ = fup S.od S.c i i2
            by_cases e : i2 = S.c
            · subst e
              rw [fup_s]
              simp (disch := first | assumption | omega) only [row_off, row_in, row_out, up_same, up_ne, cpy_off, rwo_off, rwo_at, rwo_out, mg6, mg7, mg8, mg9, mg10, mg12, mg30, mg31, mg32, mg33, mg35, mg36, mg37, mg38, mg39, mg43, mg44, mg45, mg46, mg47, mg48, mg49, mg50, mg53, mg54, mg55, mg56, mg57, mg58, mg59, mg60, mg65, mg66, mg67, mg68, mg69, mg70, mg71, mg72]
            · rw [fup_n e]
              simp (disch := first | assumption | omega) only [row_off, row_in, row_out, up_same, up_ne, cpy_off, rwo_off, rwo_at, rwo_out, mg6, mg7, mg8, mg9, mg10, mg12, mg30, mg31, mg32, mg33, mg35, mg36, mg37, mg38, mg39, mg43, mg44, mg45, mg46, mg47, mg48, mg49, mg50, mg53, mg54, mg55, mg56, mg57, mg58, mg59, mg60, mg65, mg66, mg67, mg68, mg69, mg70, mg71, mg72]
              rw [a3 _ _ (by omega) (by omega)]
              exact hOB i2 q1 (by omega)
          · rw [z5 _ _ (by omega) (by omega) (by omega) (by omega)]; simp (disch := first | assumption | omega) only [row_off, row_in, row_out, up_same, up_ne, cpy_off, rwo_off, rwo_at, rwo_out, mg6, mg7, mg8, mg9, mg10, mg12, mg30, mg31, mg32, mg33, mg35, mg36, mg37, mg38, mg39, mg43, mg44, mg45, mg46, mg47, mg48, mg49, mg50, mg53, mg54, mg55, mg56, mg57, mg58, mg59, mg60, mg65, mg66, mg67, mg68, mg69, mg70, mg71, mg72]; rw [a3 _ _ (by omega) (by omega)]; exact h42
          · rw [z5 _ _ (by omega) (by omega) (by omega) (by omega)]; simp (disch := first | assumption | omega) only [row_off, row_in, row_out, up_same, up_ne, cpy_off, rwo_off, rwo_at, rwo_out, mg6, mg7, mg8, mg9, mg10, mg12, mg30, mg31, mg32, mg33, mg35, mg36, mg37, mg38, mg39, mg43, mg44, mg45, mg46, mg47, mg48, mg49, mg50, mg53, mg54, mg55, mg56, mg57, mg58, mg59, mg60, mg65, mg66, mg67, mg68, mg69, mg70, mg71, mg72]; rw [a3 _ _ (by omega) (by omega)]; exact (hTL i2 q1 q2).1
          · rw [z5 _ _ (by omega) (by omega) (by omega) (by omega)]; simp (disch := first | assumption | omega) only [row_off, row_in, row_out, up_same, up_ne, cpy_off, rwo_off, rwo_at, rwo_out, mg6, mg7, mg8, mg9, mg10, mg12, mg30, mg31, mg32, mg33, mg35, mg36, mg37, mg38, mg39, mg43, mg44, mg45, mg46, mg47, mg48, mg49, mg50, mg53, mg54, mg55, mg56, mg57, mg58, mg59, mg60, mg65, mg66, mg67, mg68, mg69, mg70, mg71, mg72]; rw [a3 _ _ (by omega) (by omega)]; exact (hTL i2 q1 q2).2 j q3 q4
      have inn : ∀ (k2 : Nat) (j : Int), 0 ≤ j → n - j = k2 → V X G (Qm X G 0 P) 0 221 [aR b, aI i, aI j] [] γ (row (row m (b + 14) j (A i)) (b + 15) j (unitV i)) := by
        intro k2
        induction k2 with
        | zero =>
          intro j h0 hj2
          obtain rfl : j = n := by omega
          refine B_X9_knows_221 hC hS.o ?_
          simp (disch := first | assumption | omega) only [row_off, row_in, row_out, up_same, up_ne, cpy_off, rwo_off, rwo_at, rwo_out, mg6, mg7, mg8, mg9, mg10, mg12, mg30, mg31, mg32, mg33, mg35, mg36, mg37, mg38, mg39, mg43, mg44, mg45, mg46, mg47, mg48, mg49, mg50, mg53, mg54, mg55, mg56, mg57, mg58, mg59, mg60, mg65, mg66, mg67, mg68, mg69, mg70, mg71, mg72, k1, K1]
          (repeat' (first | (with_reducible exact ixO (by assumption) (by omega)) | with_reducible apply And.intro | with_reducible intro)) <;> (try first | omega | (with_reducible apply Nat.le_refl) | rfl | exact absurd trivial (by assumption))
          refine ⟨0, 0, _, by omega, Nat.le_refl _, hX ▸ m_isLeft2 hl 0 (f := A i) (h := unitV i) hS hG (by simp (disch := first | assumption | omega) only [row_off, row_in, row_out, up_same, up_ne, cpy_off, rwo_off, rwo_at, rwo_out, mg6, mg7, mg8, mg9, mg10, mg12, mg30, mg31, mg32, mg33, mg35, mg36, mg37, mg38, mg39, mg43, mg44, mg45, mg46, mg47, mg48, mg49, mg50, mg53, mg54, mg55, mg56, mg57, mg58, mg59, mg60, mg65, mg66, mg67, mg68, mg69, mg70, mg71, mg72]; exact k1) (by simp (disch := first | assumption | omega) only [row_off, row_in, row_out, up_same, up_ne, cpy_off, rwo_off, rwo_at, rwo_out, mg6, mg7, mg8, mg9, mg10, mg12, mg30, mg31, mg32, mg33, mg35, mg36, mg37, mg38, mg39, mg43, mg44, mg45, mg46, mg47, mg48, mg49, mg50, mg53, mg54, mg55, mg56, mg57, mg58, mg59, mg60, mg65, mg66, mg67, mg68, mg69, mg70, mg71, mg72]; exact k2) hn hqb (by omega) s11 s12 s13 (by omega) (by omega) (by omega) (K3.fr hn.2 (by omega) (fun j _ _ => by simp (disch := first | assumption | omega) only [row_off, row_in, row_out, up_same, up_ne, cpy_off, rwo_off, rwo_at, rwo_out, mg6, mg7, mg8, mg9, mg10, mg12, mg30, mg31, mg32, mg33, mg35, mg36, mg37, mg38, mg39, mg43, mg44, mg45, mg46, mg47, mg48, mg49, mg50, mg53, mg54, mg55, mg56, mg57, mg58, mg59, mg60, mg65, mg66, mg67, mg68, mg69, mg70, mg71, mg72]) (fun j _ _ => by simp (disch := first | assumption | omega) only [row_off, row_in, row_out, up_same, up_ne, cpy_off, rwo_off, rwo_at, rwo_out, mg6, mg7, mg8, mg9, mg10, mg12, mg30, mg31, mg32, mg33, mg35, mg36, mg37, mg38, mg39, mg43, mg44, mg45, mg46, mg47, mg48, mg49, mg50, mg53, mg54, mg55, mg56, mg57, mg58, mg59, mg60, mg65, mg66, mg67, mg68, mg69, mg70, mg71, mg72]) (fun j _ _ => by simp (disch := first | assumption | omega) only [row_off, row_in, row_out, up_same, up_ne, cpy_off, rwo_off, rwo_at, rwo_out, mg6, mg7, mg8, mg9, mg10, mg12, mg30, mg31, mg32, mg33, mg35, mg36, mg37, mg38, mg39, mg43, mg44, mg45, mg46, mg47, mg48, mg49, mg50, mg53, mg54, mg55, mg56, mg57, mg58, mg59, mg60, mg65, mg66, mg67, mg68, mg69, mg70, mg71, mg72])) (fun j z1 z2 => by simp (disch := first | assumption | omega) only [row_off, row_in, row_out, up_same, up_ne, cpy_off, rwo_off, rwo_at, rwo_out, mg6, mg7, mg8, mg9, mg10, mg12, mg30, mg31, mg32, mg33, mg35, mg36, mg37, mg38, mg39, mg43, mg44, mg45, mg46, mg47, mg48, mg49, mg50, mg53, mg54, mg55, mg56, mg57, mg58, mg59, mg60, mg65, mg66, mg67, mg68, mg69, mg70, mg71, mg72]) (fun j z1 z2 => by simp (disch := first | assumption | omega) only [row_off, row_in, row_out, up_same, up_ne, cpy_off, rwo_off, rwo_at, rwo_out, mg6, mg7, mg8, mg9, mg10, mg12, mg30, mg31, mg32, mg33, mg35, mg36, mg37, mg38, mg39, mg43, mg44, mg45, mg46, mg47, mg48, mg49, mg50, mg53, mg54, mg55, mg56, mg57, mg58, mg59, mg60, mg65, mg66, mg67, mg68, mg69, mg70, mg71, mg72]) hvq huq, ?_⟩
          rintro r γ' m2 ⟨z1, z2, z3, z4, z5⟩
          rw [z1, z2]
          exact aft m2 z3 z4 (fun x j w1 w2 => by rw [z5 x j w1 w2]; simp (disch := first | assumption | omega) only [row_off, row_in, row_out, up_same, up_ne, cpy_off, rwo_off, rwo_at, rwo_out, mg6, mg7, mg8, mg9, mg10, mg12, mg30, mg31, mg32, mg33, mg35, mg36, mg37, mg38, mg39, mg43, mg44, mg45, mg46, mg47, mg48, mg49, mg50, mg53, mg54, mg55, mg56, mg57, mg58, mg59, mg60, mg65, mg66, mg67, mg68, mg69, mg70, mg71, mg72])
        | succ k2 ih2 =>
          intro j h0 hj2
          have hih2 := ih2 (j + 1) (by omega) (by omega)
          rw [← row_s (f := A i) h0, ← row_s (f := unitV i) h0, ← row_up (by omega)] at hih2
          refine B_X9_knows_221 hC hS.o ?_
          simp (disch := first | assumption | omega) only [row_off, row_in, row_out, up_same, up_ne, cpy_off, rwo_off, rwo_at, rwo_out, mg6, mg7, mg8, mg9, mg10, mg12, mg30, mg31, mg32, mg33, mg35, mg36, mg37, mg38, mg39, mg43, mg44, mg45, mg46, mg47, mg48, mg49, mg50, mg53, mg54, mg55, mg56, mg57, mg58, mg59, mg60, mg65, mg66, mg67, mg68, mg69, mg70, mg71, mg72, k1, kA i (by omega) (by omega) j h0 (by omega)]
          (repeat' (first | (with_reducible exact ixO (by assumption) (by omega)) | with_reducible apply And.intro | with_reducible intro)) <;> (try first | omega | (with_reducible apply Nat.le_refl) | rfl | exact absurd trivial (by assumption))
          · rename_i e
            rw [show unitV i j = 0 from if_neg (fun w => e w.symm)] at hih2
            exact hih2
          · rename_i e
            rw [show unitV i j = 1 from if_pos e.symm] at hih2
            exact hih2
      have h9 := inn n.toNat 0 (by omega) (by omega)
      rw [row_0, row_0] at h9
      exact h9
  have ph1 : ∀ (k : Nat) (i : Nat) (m : Mu), i + k = n.toNat → KF μ m b → m b 51 ≠ 0 → KN m b n q (gRun q n (fun _ => 0) (colV A jm) i) (b + 18) (b + 20) 42 → V X G (Qm X G 0 P) 0 25 [aR b, aI i, aD] [] γ m := by
    intro k
    induction k with
    | zero =>
      intro i m hi hF h51 hK
      obtain ⟨k1, k2, kA, kj⟩ := mf hF
      obtain rfl : i = n.toNat := by omega
      obtain ⟨K1, K2, K3, K4⟩ := hK
      refine B_X9_knows_25 hC hS.o ?_
      simp (disch := first | assumption | omega) only [row_off, row_in, row_out, up_same, up_ne, cpy_off, rwo_off, rwo_at, rwo_out, mg6, mg7, mg8, mg9, mg10, mg12, mg30, mg31, mg32, mg33, mg35, mg36, mg37, mg38, mg39, mg43, mg44, mg45, mg46, mg47, mg48, mg49, mg50, mg53, mg54, mg55, mg56, mg57, mg58, mg59, mg60, mg65, mg66, mg67, mg68, mg69, mg70, mg71, mg72, k1, K1]
      (repeat' (first | (with_reducible exact ixO (by assumption) (by omega)) | with_reducible apply And.intro | with_reducible intro)) <;> (try first | omega | (with_reducible apply Nat.le_refl) | rfl | exact absurd trivial (by assumption))
      refine ph2 n.toNat 0 _ (by omega) (fun x j h1 h2 => by simp (disch := first | assumption | omega) only [row_off, row_in, row_out, up_same, up_ne, cpy_off, rwo_off, rwo_at, rwo_out, mg6, mg7, mg8, mg9, mg10, mg12, mg30, mg31, mg32, mg33, mg35, mg36, mg37, mg38, mg39, mg43, mg44, mg45, mg46, mg47, mg48, mg49, mg50, mg53, mg54, mg55, mg56, mg57, mg58, mg59, mg60, mg65, mg66, mg67, mg68, mg69, mg70, mg71, mg72]; exact hF x j h1 h2) (by simp (disch := first | assumption | omega) only [row_off, row_in, row_out, up_same, up_ne, cpy_off, rwo_off, rwo_at, rwo_out, mg6, mg7, mg8, mg9, mg10, mg12, mg30, mg31, mg32, mg33, mg35, mg36, mg37, mg38, mg39, mg43, mg44, mg45, mg46, mg47, mg48, mg49, mg50, mg53, mg54, mg55, mg56, mg57, mg58, mg59, mg60, mg65, mg66, mg67, mg68, mg69, mg70, mg71, mg72]; exact h51) ⟨by simp (disch := first | assumption | omega) only [row_off, row_in, row_out, up_same, up_ne, cpy_off, rwo_off, rwo_at, rwo_out, mg6, mg7, mg8, mg9, mg10, mg12, mg30, mg31, mg32, mg33, mg35, mg36, mg37, mg38, mg39, mg43, mg44, mg45, mg46, mg47, mg48, mg49, mg50, mg53, mg54, mg55, mg56, mg57, mg58, mg59, mg60, mg65, mg66, mg67, mg68, mg69, mg70, mg71, mg72]; rfl, by simp (disch := first | assumption | omega) only [row_off, row_in, row_out, up_same, up_ne, cpy_off, rwo_off, rwo_at, rwo_out, mg6, mg7, mg8, mg9, mg10, mg12, mg30, mg31, mg32, mg33, mg35, mg36, mg37, mg38, mg39, mg43, mg44, mg45, mg46, mg47, mg48, mg49, mg50, mg53, mg54, mg55, mg56, mg57, mg58, mg59, mg60, mg65, mg66, mg67, mg68, mg69, mg70, mg71, mg72]; rfl, fun i q1 q2 => absurd q2 (by show ¬ i < ((0 : Nat) : Int); omega), fun i q1 q2 => absurd q2 (by show ¬ i < ((0 : Nat) : Int); omega)⟩ (fun i q1 q2 => absurd q2 (by show ¬ i < ((0 : Nat) : Int); omega)) (by simp (disch := first | assumption | omega) only [row_off, row_in, row_out, up_same, up_ne, cpy_off, rwo_off, rwo_at, rwo_out, mg6, mg7, mg8, mg9, mg10, mg12, mg30, mg31, mg32, mg33, mg35, mg36, mg37, mg38, mg39, mg43, mg44, mg45, mg46, mg47, mg48, mg49, mg50, mg53, mg54, mg55, mg56, mg57, mg58, mg59, mg60, mg65, mg66, mg67, mg68, mg69, mg70, mg71, mg72]; exact K2) (fun i2 q1 q2 => ⟨by simp (disch := first | assumption | omega) only [row_off, row_in, row_out, up_same, up_ne, cpy_off, rwo_off, rwo_at, rwo_out, mg6, mg7, mg8, mg9, mg10, mg12, mg30, mg31, mg32, mg33, mg35, mg36, mg37, mg38, mg39, mg43, mg44, mg45, mg46, mg47, mg48, mg49, mg50, mg53, mg54, mg55, mg56, mg57, mg58, mg59, mg60, mg65, mg66, mg67, mg68, mg69, mg70, mg71, mg72]; exact (K4 i2 q1 q2).1, fun j q3 q4 => by simp (disch := first | assumption | omega) only [row_off, row_in, row_out, up_same, up_ne, cpy_off, rwo_off, rwo_at, rwo_out, mg6, mg7, mg8, mg9, mg10, mg12, mg30, mg31, mg32, mg33, mg35, mg36, mg37, mg38, mg39, mg43, mg44, mg45, mg46, mg47, mg48, mg49, mg50, mg53, mg54, mg55, mg56, mg57, mg58, mg59, mg60, mg65, mg66, mg67, mg68, mg69, mg70, mg71, mg72]; exact (K4 i2 q1 q2).2 j q3 q4⟩)
    | succ k ih =>
      intro i m hi hF h51 hK
      obtain ⟨k1, k2, kA, kj⟩ := mf hF
      have hids := gRun_ids q n (fun _ => 0) (colV A jm) i
      have hih := ih (i + 1)
      rw [gRun] at hih
      generalize gRun q n (fun _ => 0) (colV A jm) i = S at hids hK hih
      have hcS := hids.2.2
      refine B_X9_knows_25 hC hS.o ?_
      simp (disch := first | assumption | omega) only [row_off, row_in, row_out, up_same, up_ne, cpy_off, rwo_off, rwo_at, rwo_out, mg6, mg7, mg8, mg9, mg10, mg12, mg30, mg31, mg32, mg33, mg35, mg36, mg37, mg38, mg39, mg43, mg44, mg45, mg46, mg47, mg48, mg49, mg50, mg53, mg54, mg55, mg56, mg57, mg58, mg59, mg60, mg65, mg66, mg67, mg68, mg69, mg70, mg71, mg72, k1]
      (repeat' (first | (with_reducible exact ixO (by assumption) (by omega)) | with_reducible apply And.intro | with_reducible intro)) <;> (try first | omega | (with_reducible apply Nat.le_refl) | rfl | exact absurd trivial (by assumption))
      rw [if_pos rfl] at hih
      have hvq : inQ n q (colV A jm i) := colV_in hqb.1 (fun x z1 z2 => (hA x z1 z2).2) i (by omega)
      have huq : inQ n q (unitV i) := unitV_in hqb.1
      obtain ⟨K1, K2, K3, K4⟩ := id hK
      have aft : ∀ m1 : Mu, (∀ j, 0 ≤ j → j < n → m1 (b + 14) j = (gv q S.op S.ov S.om S.c (colV A jm i) (unitV i)).1 j) → (∀ j, 0 ≤ j → j < n → m1 (b + 15) j = (gv q S.op S.ov S.om S.c (colV A jm i) (unitV i)).2 j) → (∀ x j, x ≠ b + 14 → x ≠ b + 15 → m1 x j = m x j) → V X G (Qm X G 0 P) 0 115 [aR b, aI i, aD] [aI (if ff (gv q S.op S.ov S.om S.c (colV A jm i) (unitV i)).1 n = -1 then 0 else 1)] γ m1 := by
        intro m1 a1 a2 a3
        have hgi := gv_in (op := S.op) (ov := S.ov) (om := S.om) (show 0 < q by omega) hvq huq S.c
        have e34 : m1 b 34 = S.c := by rw [a3 _ _ (by omega) (by omega)]; exact K1
        have eT : m1 b 42 = S.tc := by rw [a3 _ _ (by omega) (by omega)]; exact K2
        have e1 : m1 b 1 = n := by rw [a3 _ _ (by omega) (by omega)]; exact k1
        have e2 : m1 b 2 = q := by rw [a3 _ _ (by omega) (by omega)]; exact k2
        refine B_X9_knows_115 hC hS.o ?_
        by_cases hz : ff (gv q S.op S.ov S.om S.c (colV A jm i) (unitV i)).1 n = -1
        · rw [if_pos hz]
          simp (disch := first | assumption | omega) only [row_off, row_in, row_out, up_same, up_ne, cpy_off, rwo_off, rwo_at, rwo_out, mg6, mg7, mg8, mg9, mg10, mg12, mg30, mg31, mg32, mg33, mg35, mg36, mg37, mg38, mg39, mg43, mg44, mg45, mg46, mg47, mg48, mg49, mg50, mg53, mg54, mg55, mg56, mg57, mg58, mg59, mg60, mg65, mg66, mg67, mg68, mg69, mg70, mg71, mg72, eT]
          (repeat' (first | (with_reducible exact ixO (by assumption) (by omega)) | with_reducible apply And.intro | with_reducible intro)) <;> (try first | omega | (with_reducible apply Nat.le_refl) | rfl | exact absurd trivial (by assumption))
          have cpl : ∀ (k2 : Nat) (j : Int), 0 ≤ j → n - j = k2 → V X G (Qm X G 0 P) 0 137 [aR b, aI i, aI j] [] γ (rwo (up m1 (b + 18) S.tc i) (b + 20) (36 * S.tc) j (gv q S.op S.ov S.om S.c (colV A jm i) (unitV i)).2) := by
            intro k2
            induction k2 with
            | zero =>
              intro j h0 hj2
              obtain rfl : j = n := by omega
              refine B_X9_knows_137 hC hS.o ?_
              simp (disch := first | assumption | omega) only [row_off, row_in, row_out, up_same, up_ne, cpy_off, rwo_off, rwo_at, rwo_out, mg6, mg7, mg8, mg9, mg10, mg12, mg30, mg31, mg32, mg33, mg35, mg36, mg37, mg38, mg39, mg43, mg44, mg45, mg46, mg47, mg48, mg49, mg50, mg53, mg54, mg55, mg56, mg57, mg58, mg59, mg60, mg65, mg66, mg67, mg68, mg69, mg70, mg71, mg72, e1, eT]
              (repeat' (first | (with_reducible exact ixO (by assumption) (by omega)) | with_reducible apply And.intro | with_reducible intro)) <;> (try first | omega | (with_reducible apply Nat.le_refl) | rfl | exact absurd trivial (by assumption))
              refine hih _ (by omega) (fun x j h1 h2 => by simp (disch := first | assumption | omega) only [row_off, row_in, row_out, up_same, up_ne, cpy_off, rwo_off, rwo_at, rwo_out, mg6, mg7, mg8, mg9, mg10, mg12, mg30, mg31, mg32, mg33, mg35, mg36, mg37, mg38, mg39, mg43, mg44, mg45, mg46, mg47, mg48, mg49, mg50, mg53, mg54, mg55, mg56, mg57, mg58, mg59, mg60, mg65, mg66, mg67, mg68, mg69, mg70, mg71, mg72]; rw [a3 _ _ (by omega) (by omega)]; exact hF x j h1 h2) (by simp (disch := first | assumption | omega) only [row_off, row_in, row_out, up_same, up_ne, cpy_off, rwo_off, rwo_at, rwo_out, mg6, mg7, mg8, mg9, mg10, mg12, mg30, mg31, mg32, mg33, mg35, mg36, mg37, mg38, mg39, mg43, mg44, mg45, mg46, mg47, mg48, mg49, mg50, mg53, mg54, mg55, mg56, mg57, mg58, mg59, mg60, mg65, mg66, mg67, mg68, mg69, mg70, mg71, mg72]; rw [a3 _ _ (by omega) (by omega)]; exact h51) (KN_tie hK hz (by omega) (by omega) (by omega) (by simp (disch := first | assumption | omega) only [row_off, row_in, row_out, up_same, up_ne, cpy_off, rwo_off, rwo_at, rwo_out, mg6, mg7, mg8, mg9, mg10, mg12, mg30, mg31, mg32, mg33, mg35, mg36, mg37, mg38, mg39, mg43, mg44, mg45, mg46, mg47, mg48, mg49, mg50, mg53, mg54, mg55, mg56, mg57, mg58, mg59, mg60, mg65, mg66, mg67, mg68, mg69, mg70, mg71, mg72]) (fun i2 => ?_) (fun j z1 z2 => by simp (disch := first | assumption | omega) only [row_off, row_in, row_out, up_same, up_ne, cpy_off, rwo_off, rwo_at, rwo_out, mg6, mg7, mg8, mg9, mg10, mg12, mg30, mg31, mg32, mg33, mg35, mg36, mg37, mg38, mg39, mg43, mg44, mg45, mg46, mg47, mg48, mg49, mg50, mg53, mg54, mg55, mg56, mg57, mg58, mg59, mg60, mg65, mg66, mg67, mg68, mg69, mg70, mg71, mg72]) (fun j z1 => by simp (disch := first | assumption | omega) only [row_off, row_in, row_out, up_same, up_ne, cpy_off, rwo_off, rwo_at, rwo_out, mg6, mg7, mg8, mg9, mg10, mg12, mg30, mg31, mg32, mg33, mg35, mg36, mg37, mg38, mg39, mg43, mg44, mg45, mg46, mg47, mg48, mg49, mg50, mg53, mg54, mg55, mg56, mg57, mg58, mg59, mg60, mg65, mg66, mg67, mg68, mg69, mg70, mg71, mg72]; rw [a3 _ _ (by omega) (by omega)]) hn.2 (fun x j hx => by simp (disch := first | assumption | omega) only [row_off, row_in, row_out, up_same, up_ne, cpy_off, rwo_off, rwo_at, rwo_out, mg6, mg7, mg8, mg9, mg10, mg12, mg30, mg31, mg32, mg33, mg35, mg36, mg37, mg38, mg39, mg43, mg44, mg45, mg46, mg47, mg48, mg49, mg50, mg53, mg54, mg55, mg56, mg57, mg58, mg59, mg60, mg65, mg66, mg67, mg68, mg69, mg70, mg71, mg72]; rw [a3 _ _ (by omega) (by omega)]))
              · by_cases e : i2 = S.tc
                · subst e
                  simp (disch := first | assumption | omega) only [row_off, row_in, row_out, up_same, up_ne, cpy_off, rwo_off, rwo_at, rwo_out, mg6, mg7, mg8, mg9, mg10, mg12, mg30, mg31, mg32, mg33, mg35, mg36, mg37, mg38, mg39, mg43, mg44, mg45, mg46, mg47, mg48, mg49, mg50, mg53, mg54, mg55, mg56, mg57, mg58, mg59, mg60, mg65, mg66, mg67, mg68, mg69, mg70, mg71, mg72]
                  exact (if_pos trivial).symm
                · simp (disch := first | assumption | omega) only [row_off, row_in, row_out, up_same, up_ne, cpy_off, rwo_off, rwo_at, rwo_out, mg6, mg7, mg8, mg9, mg10, mg12, mg30, mg31, mg32, mg33, mg35, mg36, mg37, mg38, mg39, mg43, mg44, mg45, mg46, mg47, mg48, mg49, mg50, mg53, mg54, mg55, mg56, mg57, mg58, mg59, mg60, mg65, mg66, mg67, mg68, mg69, mg70, mg71, mg72]
                  rw [if_neg e, a3 _ _ (by omega) (by omega)]
            | succ k2 ih2 =>
              intro j h0 hj2
              have hih2 := ih2 (j + 1) (by omega) (by omega)
              rw [← rwo_s (f := (gv q S.op S.ov S.om S.c (colV A jm i) (unitV i)).2) h0] at hih2
              refine B_X9_knows_137 hC hS.o ?_
              simp (disch := first | assumption | omega) only [row_off, row_in, row_out, up_same, up_ne, cpy_off, rwo_off, rwo_at, rwo_out, mg6, mg7, mg8, mg9, mg10, mg12, mg30, mg31, mg32, mg33, mg35, mg36, mg37, mg38, mg39, mg43, mg44, mg45, mg46, mg47, mg48, mg49, mg50, mg53, mg54, mg55, mg56, mg57, mg58, mg59, mg60, mg65, mg66, mg67, mg68, mg69, mg70, mg71, mg72, e1, eT, a2 j h0 (by omega)]
              (repeat' (first | (with_reducible exact ixO (by assumption) (by omega)) | with_reducible apply And.intro | with_reducible intro)) <;> (try first | omega | (with_reducible apply Nat.le_refl) | rfl | exact absurd trivial (by assumption))
              all_goals exact hih2
          have h9 := cpl n.toNat 0 (by omega) (by omega)
          rw [rwo_0] at h9
          exact h9
        · rw [if_neg hz]
          have e3 : BsRep m1 (b + 11) (b + 12) (b + 13) n q S.c S.op S.ov S.om := K3.fr hn.2 (by omega) (fun j _ _ => a3 _ _ (by omega) (by omega)) (fun j _ _ => a3 _ _ (by omega) (by omega)) (fun j _ _ => a3 _ _ (by omega) (by omega))
          simp (disch := first | assumption | omega) only [row_off, row_in, row_out, up_same, up_ne, cpy_off, rwo_off, rwo_at, rwo_out, mg6, mg7, mg8, mg9, mg10, mg12, mg30, mg31, mg32, mg33, mg35, mg36, mg37, mg38, mg39, mg43, mg44, mg45, mg46, mg47, mg48, mg49, mg50, mg53, mg54, mg55, mg56, mg57, mg58, mg59, mg60, mg65, mg66, mg67, mg68, mg69, mg70, mg71, mg72, e34]
          (repeat' (first | (with_reducible exact ixO (by assumption) (by omega)) | with_reducible apply And.intro | with_reducible intro)) <;> (try first | omega | (with_reducible apply Nat.le_refl) | rfl | exact absurd trivial (by assumption))
          refine ⟨1, 0, _, hd, Nat.le_refl _, hX ▸ m_keepsRow hl 1 (by omega) hS hG e1 e2 e34 hn hq (by omega) e3 a1 a2 hgi.1 hgi.2 hz, ?_⟩
          rintro r γ' m2 ⟨z1, z2, z3, z4, z5⟩
          rw [z1, z2]
          refine B_X9_knows_122 hC hS.o ⟨⟨by omega, by omega⟩, hih m2 (by omega) (fun x j h1 h2 => ?_) ?_ (KN_keep hK hz (by omega) (by omega) (by omega) z3 z4 (fun x j w1 w2 w3 w4 => ?_))⟩
          · rw [z5 _ _ (by omega) (by omega) (by omega) (by omega), a3 _ _ (by omega) (by omega)]; exact hF x j h1 h2
          · rw [z5 _ _ (by omega) (by omega) (by omega) (by omega), a3 _ _ (by omega) (by omega)]; exact h51
          · rw [z5 _ _ w1 w2 w3 (by omega), a3 _ _ (by omega) (by omega)]
      have inn : ∀ (k2 : Nat) (j : Int), 0 ≤ j → n - j = k2 → V X G (Qm X G 0 P) 0 35 [aR b, aI i, aI j] [] γ (row (row m (b + 14) j (colV A jm i)) (b + 15) j (unitV i)) := by
        intro k2
        induction k2 with
        | zero =>
          intro j h0 hj2
          obtain rfl : j = n := by omega
          refine B_X9_knows_35 hC hS.o ?_
          simp (disch := first | assumption | omega) only [row_off, row_in, row_out, up_same, up_ne, cpy_off, rwo_off, rwo_at, rwo_out, mg6, mg7, mg8, mg9, mg10, mg12, mg30, mg31, mg32, mg33, mg35, mg36, mg37, mg38, mg39, mg43, mg44, mg45, mg46, mg47, mg48, mg49, mg50, mg53, mg54, mg55, mg56, mg57, mg58, mg59, mg60, mg65, mg66, mg67, mg68, mg69, mg70, mg71, mg72, k1, K1]
          (repeat' (first | (with_reducible exact ixO (by assumption) (by omega)) | with_reducible apply And.intro | with_reducible intro)) <;> (try first | omega | (with_reducible apply Nat.le_refl) | rfl | exact absurd trivial (by assumption))
          refine ⟨0, 0, _, by omega, Nat.le_refl _, hX ▸ m_isLeft2 hl 0 (f := colV A jm i) (h := unitV i) hS hG (by simp (disch := first | assumption | omega) only [row_off, row_in, row_out, up_same, up_ne, cpy_off, rwo_off, rwo_at, rwo_out, mg6, mg7, mg8, mg9, mg10, mg12, mg30, mg31, mg32, mg33, mg35, mg36, mg37, mg38, mg39, mg43, mg44, mg45, mg46, mg47, mg48, mg49, mg50, mg53, mg54, mg55, mg56, mg57, mg58, mg59, mg60, mg65, mg66, mg67, mg68, mg69, mg70, mg71, mg72]; exact k1) (by simp (disch := first | assumption | omega) only [row_off, row_in, row_out, up_same, up_ne, cpy_off, rwo_off, rwo_at, rwo_out, mg6, mg7, mg8, mg9, mg10, mg12, mg30, mg31, mg32, mg33, mg35, mg36, mg37, mg38, mg39, mg43, mg44, mg45, mg46, mg47, mg48, mg49, mg50, mg53, mg54, mg55, mg56, mg57, mg58, mg59, mg60, mg65, mg66, mg67, mg68, mg69, mg70, mg71, mg72]; exact k2) hn hqb (by omega) s11 s12 s13 (by omega) (by omega) (by omega) (K3.fr hn.2 (by omega) (fun j _ _ => by simp (disch := first | assumption | omega) only [row_off, row_in, row_out, up_same, up_ne, cpy_off, rwo_off, rwo_at, rwo_out, mg6, mg7, mg8, mg9, mg10, mg12, mg30, mg31, mg32, mg33, mg35, mg36, mg37, mg38, mg39, mg43, mg44, mg45, mg46, mg47, mg48, mg49, mg50, mg53, mg54, mg55, mg56, mg57, mg58, mg59, mg60, mg65, mg66, mg67, mg68, mg69, mg70, mg71, mg72]) (fun j _ _ => by simp (disch := first | assumption | omega) only [row_off, row_in, row_out, up_same, up_ne, cpy_off, rwo_off, rwo_at, rwo_out, mg6, mg7, mg8, mg9, mg10, mg12, mg30, mg31, mg32, mg33, mg35, mg36, mg37, mg38, mg39, mg43, mg44, mg45, mg46, mg47, mg48, mg49, mg50, mg53, mg54, mg55, mg56, mg57, mg58, mg59, mg60, mg65, mg66, mg67, mg68, mg69, mg70, mg71, mg72]) (fun j _ _ => by simp (disch := first | assumption | omega) only [row_off, row_in, row_out, up_same, up_ne, cpy_off, rwo_off, rwo_at, rwo_out, mg6, mg7, mg8, mg9, mg10, mg12, mg30, mg31, mg32, mg33, mg35, mg36, mg37, mg38, mg39, mg43, mg44, mg45, mg46, mg47, mg48, mg49, mg50, mg53, mg54, mg55, mg56, mg57, mg58, mg59, mg60, mg65, mg66, mg67, mg68, mg69, mg70, mg71, mg72])) (fun j z1 z2 => by simp (disch := first | assumption | omega) only [row_off, row_in, row_out, up_same, up_ne, cpy_off, rwo_off, rwo_at, rwo_out, mg6, mg7, mg8, mg9, mg10, mg12, mg30, mg31, mg32, mg33, mg35, mg36, mg37, mg38, mg39, mg43, mg44, mg45, mg46, mg47, mg48, mg49, mg50, mg53, mg54, mg55, mg56, mg57, mg58, mg59, mg60, mg65, mg66, mg67, mg68, mg69, mg70, mg71, mg72]) (fun j z1 z2 => by simp (disch := first | assumption | omega) only [row_off, row_in, row_out, up_same, up_ne, cpy_off, rwo_off, rwo_at, rwo_out, mg6, mg7, mg8, mg9, mg10, mg12, mg30, mg31, mg32, mg33, mg35, mg36, mg37, mg38, mg39, mg43, mg44, mg45, mg46, mg47, mg48, mg49, mg50, mg53, mg54, mg55, mg56, mg57, mg58, mg59, mg60, mg65, mg66, mg67, mg68, mg69, mg70, mg71, mg72]) hvq huq, ?_⟩
          rintro r γ' m2 ⟨z1, z2, z3, z4, z5⟩
          rw [z1, z2]
          exact aft m2 z3 z4 (fun x j w1 w2 => by rw [z5 x j w1 w2]; simp (disch := first | assumption | omega) only [row_off, row_in, row_out, up_same, up_ne, cpy_off, rwo_off, rwo_at, rwo_out, mg6, mg7, mg8, mg9, mg10, mg12, mg30, mg31, mg32, mg33, mg35, mg36, mg37, mg38, mg39, mg43, mg44, mg45, mg46, mg47, mg48, mg49, mg50, mg53, mg54, mg55, mg56, mg57, mg58, mg59, mg60, mg65, mg66, mg67, mg68, mg69, mg70, mg71, mg72])
        | succ k2 ih2 =>
          intro j h0 hj2
          have hih2 := ih2 (j + 1) (by omega) (by omega)
          rw [← row_s (f := colV A jm i) h0, ← row_s (f := unitV i) h0, ← row_up (by omega)] at hih2
          refine B_X9_knows_35 hC hS.o ?_
          have tail : V X G (Qm X G 0 P) 0 72 [aR b, aI i, aI j] [aI (colV A jm i j), aI j, aR (b + 14)] γ (row (row m (b + 14) j (colV A jm i)) (b + 15) j (unitV i)) := by
            refine B_X9_knows_72 hC hS.o ?_
            simp (disch := first | assumption | omega) only [row_off, row_in, row_out, up_same, up_ne, cpy_off, rwo_off, rwo_at, rwo_out, mg6, mg7, mg8, mg9, mg10, mg12, mg30, mg31, mg32, mg33, mg35, mg36, mg37, mg38, mg39, mg43, mg44, mg45, mg46, mg47, mg48, mg49, mg50, mg53, mg54, mg55, mg56, mg57, mg58, mg59, mg60, mg65, mg66, mg67, mg68, mg69, mg70, mg71, mg72]
            (repeat' (first | (with_reducible exact ixO (by assumption) (by omega)) | with_reducible apply And.intro | with_reducible intro)) <;> (try first | omega | (with_reducible apply Nat.le_refl) | rfl | exact absurd trivial (by assumption))
            · rename_i e
              rw [show unitV i j = 0 from if_neg e] at hih2
              exact hih2
            · rename_i e
              rw [show unitV i j = 1 from if_pos e] at hih2
              exact hih2
          simp (disch := first | assumption | omega) only [row_off, row_in, row_out, up_same, up_ne, cpy_off, rwo_off, rwo_at, rwo_out, mg6, mg7, mg8, mg9, mg10, mg12, mg30, mg31, mg32, mg33, mg35, mg36, mg37, mg38, mg39, mg43, mg44, mg45, mg46, mg47, mg48, mg49, mg50, mg53, mg54, mg55, mg56, mg57, mg58, mg59, mg60, mg65, mg66, mg67, mg68, mg69, mg70, mg71, mg72, k1, kj j h0 (by omega), kA j h0 (by omega) i (by omega) (by omega)]
          (repeat' (first | (with_reducible exact ixO (by assumption) (by omega)) | with_reducible apply And.intro | with_reducible intro)) <;> (try first | omega | (with_reducible apply Nat.le_refl) | rfl | exact absurd trivial (by assumption))
          · rename_i e
            rw [show colV A jm i j = A j i from if_pos e] at tail
            exact tail
          · rename_i e
            rw [show colV A jm i j = 0 from if_neg e] at tail
            exact tail
      have h9 := inn n.toNat 0 (by omega) (by omega)
      rw [row_0, row_0] at h9
      exact h9
  refine ph1 n.toNat 0 _ (by omega) (fun x j h1 h2 => by simp (disch := first | assumption | omega) only [row_off, row_in, row_out, up_same, up_ne, cpy_off, rwo_off, rwo_at, rwo_out, mg6, mg7, mg8, mg9, mg10, mg12, mg30, mg31, mg32, mg33, mg35, mg36, mg37, mg38, mg39, mg43, mg44, mg45, mg46, mg47, mg48, mg49, mg50, mg53, mg54, mg55, mg56, mg57, mg58, mg59, mg60, mg65, mg66, mg67, mg68, mg69, mg70, mg71, mg72]) (by simp (disch := first | assumption | omega) only [row_off, row_in, row_out, up_same, up_ne, cpy_off, rwo_off, rwo_at, rwo_out, mg6, mg7, mg8, mg9, mg10, mg12, mg30, mg31, mg32, mg33, mg35, mg36, mg37, mg38, mg39, mg43, mg44, mg45, mg46, mg47, mg48, mg49, mg50, mg53, mg54, mg55, mg56, mg57, mg58, mg59, mg60, mg65, mg66, mg67, mg68, mg69, mg70, mg71, mg72]; decide) ⟨by simp (disch := first | assumption | omega) only [row_off, row_in, row_out, up_same, up_ne, cpy_off, rwo_off, rwo_at, rwo_out, mg6, mg7, mg8, mg9, mg10, mg12, mg30, mg31, mg32, mg33, mg35, mg36, mg37, mg38, mg39, mg43, mg44, mg45, mg46, mg47, mg48, mg49, mg50, mg53, mg54, mg55, mg56, mg57, mg58, mg59, mg60, mg65, mg66, mg67, mg68, mg69, mg70, mg71, mg72]; rfl, by simp (disch := first | assumption | omega) only [row_off, row_in, row_out, up_same, up_ne, cpy_off, rwo_off, rwo_at, rwo_out, mg6, mg7, mg8, mg9, mg10, mg12, mg30, mg31, mg32, mg33, mg35, mg36, mg37, mg38, mg39, mg43, mg44, mg45, mg46, mg47, mg48, mg49, mg50, mg53, mg54, mg55, mg56, mg57, mg58, mg59, mg60, mg65, mg66, mg67, mg68, mg69, mg70, mg71, mg72]; rfl, fun i q1 q2 => absurd q2 (by show ¬ i < ((0 : Nat) : Int); omega), fun i q1 q2 => absurd q2 (by show ¬ i < ((0 : Nat) : Int); omega)⟩
end MKnows2
