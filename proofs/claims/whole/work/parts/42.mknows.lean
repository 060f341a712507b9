/-! the reference: inverse, keepsRow, knows -/
/-- f at the places o .. o + n - 1 -/
def rwo (μ : Mu) (a o n : Int) (f : Int → Int) : Mu := fun b j => if b = a ∧ o ≤ j ∧ j < o + n then f (j - o) else μ b j
theorem rwo_off {μ : Mu} {a o n b j : Int} {f : Int → Int} (h : b ≠ a) : rwo μ a o n f b j = μ b j := if_neg (fun q => h q.1)
theorem rwo_out {μ : Mu} {a o n b j : Int} {f : Int → Int} (h : ¬ (b = a ∧ o ≤ j ∧ j < o + n)) : rwo μ a o n f b j = μ b j := if_neg h
theorem rwo_at {μ : Mu} {a o n j : Int} {f : Int → Int} (h : 0 ≤ j ∧ j < n) : rwo μ a o n f a (o + j) = f j := by
  unfold rwo
  rw [if_pos ⟨rfl, by omega, by omega⟩]
  congr 1
  omega
theorem rwo_0 {μ : Mu} {a o : Int} {f : Int → Int} : rwo μ a o 0 f = μ := by
  funext b j
  exact rwo_out (by omega)
theorem rwo_s {μ : Mu} {a o n : Int} {f : Int → Int} (hn : 0 ≤ n) : up (rwo μ a o n f) a (o + n) (f n) = rwo μ a o (n + 1) f := by
  funext b j
  unfold rwo up
  by_cases h1 : b = a ∧ j = o + n
  · rw [if_pos h1, if_pos (by omega), h1.2]
    congr 1
    omega
  · rw [if_neg h1]
    show (if b = a ∧ o ≤ j ∧ j < o + n then f (j - o) else μ b j) = _
    by_cases h2 : b = a ∧ o ≤ j ∧ j < o + n
    · rw [if_pos h2, if_pos (by omega)]
    · rw [if_neg h2, if_neg (by omega)]
theorem rwo_up {μ : Mu} {a b o n i z : Int} {g : Int → Int} (h : b ≠ a) : up (rwo μ a o n g) b i z = rwo (up μ b i z) a o n g := by
  funext c j
  by_cases h1 : c = b ∧ j = i
  · obtain ⟨rfl, rfl⟩ := h1
    rw [up_same, rwo_off h, up_same]
  · rw [up_ne h1]
    unfold rwo
    split
    · rfl
    · rw [up_ne h1]
def qP (q : Int) : Prop := q = 2 ∨ q = 3 ∨ q = 5
theorem qP.b {q : Int} (h : qP q) : 2 ≤ q ∧ q ≤ 5 := by unfold qP at h; omega
theorem invQ_ok {v q : Int} (hq : qP q) (hv : 0 < v ∧ v < q) : (v * invQ v q) % q = 1 ∧ 0 < invQ v q ∧ invQ v q < q := by
  rcases hq with rfl | rfl | rfl
  · obtain rfl : v = 1 := by omega
    decide
  · rcases (show v = 1 ∨ v = 2 by omega) with rfl | rfl <;> decide
  · rcases (show v = 1 ∨ v = 2 ∨ v = 3 ∨ v = 4 by omega) with rfl | rfl | rfl | rfl <;> decide
section MKnows
variable {l : Launch} {G : Gx} {γ μ : Mu}
theorem m_inverse (hl : l.stackTraces = false) (d : Nat) {b v q : Int} (hS : ModS G b) (eq : μ b 2 = q) (hq : qP q) (hv : 0 < v ∧ v < q) : Cn l G yX9_inverse cX9_inverse 3 (some .int) d 0 [aR b, aI v] γ μ (PI (invQ v q) γ μ) := by
  refine Cn.ofP hl (plainFor_of_name (by decide)) (noLc nlR (noL1 nlI)) rfl (fun P hP o1 o3 X hX hC => B_X9_inverse_0 hC hS.o ?_)
  have hqb := hq.b
  have loop : ∀ (n : Nat) (i : Int), 1 ≤ i → q - i = n → invL v q n i ≠ 0 → P (some (aI (invL v q n i))) γ μ → V X G (Qm X G 0 P) 0 2 [aR b, aI v, aI i] [] γ μ := by
    intro n
    induction n with
    | zero => intro i h0 hn hne; exact absurd rfl hne
    | succ n ih =>
      intro i h0 hn hne hp
      have p1 := mulR (a := i) (b := v) (m := 5) (by omega) (by omega)
      refine B_X9_inverse_2 hC hS.o ?_
      simp (disch := first | assumption | omega) only [row_off, row_in, row_out, up_same, up_ne, cpy_off, mg6, mg7, mg8, mg9, mg10, mg12, mg30, mg31, mg32, mg33, mg35, mg36, mg37, mg38, mg39, mg43, mg44, mg45, mg46, mg47, mg48, mg49, mg50, mg53, mg54, mg55, mg56, mg57, mg58, mg59, mg60, mg65, mg66, mg67, mg68, mg69, mg70, mg71, mg72, eq]
      rw [Int.tmod_eq_emod_of_nonneg p1.1, Int.mul_comm i v]
      rw [Int.mul_comm i v] at p1
      unfold invL at hp hne
      (repeat' (first | (with_reducible exact ixO (by assumption) (by omega)) | with_reducible apply And.intro | with_reducible intro)) <;> (try first | omega | (with_reducible apply Nat.le_refl) | rfl | exact absurd trivial (by assumption))
      · rename_i h1
        rw [if_pos h1] at hp
        exact hp
      · rename_i h1
        rw [if_neg h1] at hp hne
        exact ih (i + 1) (by omega) (by omega) hne hp
  have hi := invQ_ok hq hv
  exact loop (q - 1).toNat 1 (by omega) (by omega) (by show invQ v q ≠ 0; omega) (hP _ _ _ ⟨rfl, rfl, rfl⟩)
set_option maxHeartbeats 4000000 in
theorem m_keepsRow (hl : l.stackTraces = false) (d : Nat) (hd : 0 < d) {b n q : Int} {c : Nat} {op F H : Int → Int} {ov om : Int → Int → Int} (hS : ModS G b) (hG : ModG γ b) (en : μ b 1 = n) (eq : μ b 2 = q) (ec : μ b 34 = c) (hn : 0 ≤ n ∧ n ≤ 36) (hq : qP q) (hc : c < 36) (hR : BsRep μ (b + 11) (b + 12) (b + 13) n q c op ov om) (hF : ∀ j, 0 ≤ j → j < n → μ (b + 14) j = F j) (hH : ∀ j, 0 ≤ j → j < n → μ (b + 15) j = H j) (hFq : inQ n q F) (hHq : inQ n q H) (hne : ff F n ≠ -1) :
    Cn l G yX9_keepsRow cX9_keepsRow 4 none d 0 [aR b] γ μ (fun r γ' μ' => r = none ∧ γ' = γ ∧ μ' b 34 = c + 1 ∧ BsRep μ' (b + 11) (b + 12) (b + 13) n q (c + 1) (fup op c (ff F n)) (fup ov c (fun j => (F j * invQ (F (ff F n)) q) % q)) (fup om c (fun j => (H j * invQ (F (ff F n)) q) % q)) ∧ ∀ x j, x ≠ b + 11 → x ≠ b + 12 → x ≠ b + 13 → (x = b → j ≠ 34) → μ' x j = μ x j) := by
  refine Cn.ofP hl (plainFor_of_name (by decide)) (noL1 nlR) rfl (fun P hP o1 o3 X hX hC => B_X9_keepsRow_0 hC hS.o ?_)
  have hqb := hq.b
  have s11 := ms11 hS; have s12 := ms12 hS; have s13 := ms13 hS; have s14 := ms14 hS; have s15 := ms15 hS
  rcases ff_range (f := F) hn.1 with h9 | ⟨p1, p2, p3, p4⟩
  · exact absurd h9.1 hne
  have hFp := hFq _ p1 p2
  have ht := invQ_ok hq (v := F (ff F n)) (by omega)
  generalize ff F n = p at *
  generalize ht0 : invQ (F p) q = t at *
  have loop2 : ∀ (k : Nat) (i : Int), 0 ≤ i → n - i = k → V X G (Qm X G 0 P) 0 30 [aR b, aI p, aI t, aI i] [] γ (rwo (rwo μ (b + 11) (36 * c) i (fun j => (F j * t) % q)) (b + 13) (36 * c) i (fun j => (H j * t) % q)) := by
    intro k
    induction k with
    | zero =>
      intro i h0 hk
      obtain rfl : i = n := by omega
      refine B_X9_keepsRow_30 hC hS.o ?_
      simp (disch := first | assumption | omega) only [row_off, row_in, row_out, up_same, up_ne, cpy_off, rwo_off, rwo_at, rwo_out, mg6, mg7, mg8, mg9, mg10, mg12, mg30, mg31, mg32, mg33, mg35, mg36, mg37, mg38, mg39, mg43, mg44, mg45, mg46, mg47, mg48, mg49, mg50, mg53, mg54, mg55, mg56, mg57, mg58, mg59, mg60, mg65, mg66, mg67, mg68, mg69, mg70, mg71, mg72, en, ec]
      (repeat' (first | (with_reducible exact ixO (by assumption) (by omega)) | with_reducible apply And.intro | with_reducible intro)) <;> (try first | omega | (with_reducible apply Nat.le_refl) | rfl | exact absurd trivial (by assumption))
      refine hP _ _ _ ⟨rfl, rfl, ?_, fun i h1 h2 => ?_, fun x j h1 h2 h3 h4 => ?_⟩
      · simp (disch := first | assumption | omega) only [row_off, row_in, row_out, up_same, up_ne, cpy_off, rwo_off, rwo_at, rwo_out, mg6, mg7, mg8, mg9, mg10, mg12, mg30, mg31, mg32, mg33, mg35, mg36, mg37, mg38, mg39, mg43, mg44, mg45, mg46, mg47, mg48, mg49, mg50, mg53, mg54, mg55, mg56, mg57, mg58, mg59, mg60, mg65, mg66, mg67, mg68, mg69, mg70, mg71, mg72]
      · by_cases e : i = c
        · subst e
          rw [fup_s, fup_s, fup_s]
          refine ⟨by simp (disch := first | assumption | omega) only [row_off, row_in, row_out, up_same, up_ne, cpy_off, rwo_off, rwo_at, rwo_out, mg6, mg7, mg8, mg9, mg10, mg12, mg30, mg31, mg32, mg33, mg35, mg36, mg37, mg38, mg39, mg43, mg44, mg45, mg46, mg47, mg48, mg49, mg50, mg53, mg54, mg55, mg56, mg57, mg58, mg59, mg60, mg65, mg66, mg67, mg68, mg69, mg70, mg71, mg72], ⟨p1, p2⟩, fun j q1 q2 => by simp (disch := first | assumption | omega) only [row_off, row_in, row_out, up_same, up_ne, cpy_off, rwo_off, rwo_at, rwo_out, mg6, mg7, mg8, mg9, mg10, mg12, mg30, mg31, mg32, mg33, mg35, mg36, mg37, mg38, mg39, mg43, mg44, mg45, mg46, mg47, mg48, mg49, mg50, mg53, mg54, mg55, mg56, mg57, mg58, mg59, mg60, mg65, mg66, mg67, mg68, mg69, mg70, mg71, mg72], mulQ_in (by omega), fun j q1 q2 => by simp (disch := first | assumption | omega) only [row_off, row_in, row_out, up_same, up_ne, cpy_off, rwo_off, rwo_at, rwo_out, mg6, mg7, mg8, mg9, mg10, mg12, mg30, mg31, mg32, mg33, mg35, mg36, mg37, mg38, mg39, mg43, mg44, mg45, mg46, mg47, mg48, mg49, mg50, mg53, mg54, mg55, mg56, mg57, mg58, mg59, mg60, mg65, mg66, mg67, mg68, mg69, mg70, mg71, mg72], mulQ_in (by omega)⟩
        · rw [fup_n e, fup_n e, fup_n e]
          obtain ⟨w1, w2, w3, w4, w5, w6⟩ := hR i h1 (by omega)
          refine ⟨by simp (disch := first | assumption | omega) only [row_off, row_in, row_out, up_same, up_ne, cpy_off, rwo_off, rwo_at, rwo_out, mg6, mg7, mg8, mg9, mg10, mg12, mg30, mg31, mg32, mg33, mg35, mg36, mg37, mg38, mg39, mg43, mg44, mg45, mg46, mg47, mg48, mg49, mg50, mg53, mg54, mg55, mg56, mg57, mg58, mg59, mg60, mg65, mg66, mg67, mg68, mg69, mg70, mg71, mg72, w1], w2, fun j q1 q2 => by simp (disch := first | assumption | omega) only [row_off, row_in, row_out, up_same, up_ne, cpy_off, rwo_off, rwo_at, rwo_out, mg6, mg7, mg8, mg9, mg10, mg12, mg30, mg31, mg32, mg33, mg35, mg36, mg37, mg38, mg39, mg43, mg44, mg45, mg46, mg47, mg48, mg49, mg50, mg53, mg54, mg55, mg56, mg57, mg58, mg59, mg60, mg65, mg66, mg67, mg68, mg69, mg70, mg71, mg72, w3 j q1 q2], w4, fun j q1 q2 => by simp (disch := first | assumption | omega) only [row_off, row_in, row_out, up_same, up_ne, cpy_off, rwo_off, rwo_at, rwo_out, mg6, mg7, mg8, mg9, mg10, mg12, mg30, mg31, mg32, mg33, mg35, mg36, mg37, mg38, mg39, mg43, mg44, mg45, mg46, mg47, mg48, mg49, mg50, mg53, mg54, mg55, mg56, mg57, mg58, mg59, mg60, mg65, mg66, mg67, mg68, mg69, mg70, mg71, mg72, w5 j q1 q2], w6⟩
      · simp (disch := first | assumption | omega) only [row_off, row_in, row_out, up_same, up_ne, cpy_off, rwo_off, rwo_at, rwo_out, mg6, mg7, mg8, mg9, mg10, mg12, mg30, mg31, mg32, mg33, mg35, mg36, mg37, mg38, mg39, mg43, mg44, mg45, mg46, mg47, mg48, mg49, mg50, mg53, mg54, mg55, mg56, mg57, mg58, mg59, mg60, mg65, mg66, mg67, mg68, mg69, mg70, mg71, mg72]
    | succ k ih =>
      intro i h0 hk
      have q1 := hFq i h0 (by omega)
      have q2 := hHq i h0 (by omega)
      have r1 := mulR (a := F i) (b := t) (m := 5) (by omega) (by omega)
      have r2 := mulR (a := H i) (b := t) (m := 5) (by omega) (by omega)
      have hih := ih (i + 1) (by omega) (by omega)
      rw [← rwo_s (f := fun j => (F j * t) % q) h0, ← rwo_s (f := fun j => (H j * t) % q) h0, ← rwo_up (by omega)] at hih
      refine B_X9_keepsRow_30 hC hS.o ?_
      simp (disch := first | assumption | omega) only [row_off, row_in, row_out, up_same, up_ne, cpy_off, rwo_off, rwo_at, rwo_out, mg6, mg7, mg8, mg9, mg10, mg12, mg30, mg31, mg32, mg33, mg35, mg36, mg37, mg38, mg39, mg43, mg44, mg45, mg46, mg47, mg48, mg49, mg50, mg53, mg54, mg55, mg56, mg57, mg58, mg59, mg60, mg65, mg66, mg67, mg68, mg69, mg70, mg71, mg72, en, ec, eq, hF i h0 (by omega), hH i h0 (by omega)]
      (repeat' (first | (with_reducible exact ixO (by assumption) (by omega)) | with_reducible apply And.intro | with_reducible intro)) <;> (try first | omega | (with_reducible apply Nat.le_refl) | rfl | exact absurd trivial (by assumption))
      rw [Int.tmod_eq_emod_of_nonneg r1.1, Int.tmod_eq_emod_of_nonneg r2.1]
      exact hih
  have loop1 : ∀ (k : Nat) (i : Int), 0 ≤ i → p - i = k → V X G (Qm X G 0 P) 0 2 [aR b, aI i, aD, aD] [] γ μ := by
    intro k
    induction k with
    | zero =>
      intro i h0 hk
      obtain rfl : i = p := by omega
      refine B_X9_keepsRow_2 hC hS.o ?_
      simp (disch := first | assumption | omega) only [row_off, row_in, row_out, up_same, up_ne, cpy_off, rwo_off, rwo_at, rwo_out, mg6, mg7, mg8, mg9, mg10, mg12, mg30, mg31, mg32, mg33, mg35, mg36, mg37, mg38, mg39, mg43, mg44, mg45, mg46, mg47, mg48, mg49, mg50, mg53, mg54, mg55, mg56, mg57, mg58, mg59, mg60, mg65, mg66, mg67, mg68, mg69, mg70, mg71, mg72, hF i h0 (by omega)]
      (repeat' (first | (with_reducible exact ixO (by assumption) (by omega)) | with_reducible apply And.intro | with_reducible intro)) <;> (try first | omega | (with_reducible apply Nat.le_refl) | rfl | exact absurd trivial (by assumption))
      refine ⟨0, 0, _, hd, Nat.le_refl _, hX ▸ m_inverse hl 0 hS eq hq (by omega), PI.use ?_⟩
      refine B_X9_keepsRow_27 hC hS.o ?_
      have h9 := loop2 n.toNat 0 (by omega) (by omega)
      rw [rwo_0, rwo_0] at h9
      rw [ht0]
      exact h9
    | succ k ih =>
      intro i h0 hk
      have hz := p4 i h0 (by omega)
      refine B_X9_keepsRow_2 hC hS.o ?_
      simp (disch := first | assumption | omega) only [row_off, row_in, row_out, up_same, up_ne, cpy_off, rwo_off, rwo_at, rwo_out, mg6, mg7, mg8, mg9, mg10, mg12, mg30, mg31, mg32, mg33, mg35, mg36, mg37, mg38, mg39, mg43, mg44, mg45, mg46, mg47, mg48, mg49, mg50, mg53, mg54, mg55, mg56, mg57, mg58, mg59, mg60, mg65, mg66, mg67, mg68, mg69, mg70, mg71, mg72, hF i h0 (by omega)]
      (repeat' (first | (with_reducible exact ixO (by assumption) (by omega)) | with_reducible apply And.intro | with_reducible intro)) <;> (try first | omega | (with_reducible apply Nat.le_refl) | rfl | exact absurd trivial (by assumption))
      exact ih (i + 1) (by omega) (by omega)
  exact loop1 p.toNat 0 (by omega) (by omega)
/-- the state of a phase of knows: rows kept, and those that are bound, told at t1 and t2, their count in field f -/
def KN (μ : Mu) (b n q : Int) (S : GS) (t1 t2 f : Int) : Prop := μ b 34 = S.c ∧ μ b f = S.tc ∧ BsRep μ (b + 11) (b + 12) (b + 13) n q S.c S.op S.ov S.om ∧ ∀ i : Int, 0 ≤ i → i < S.tc → μ t1 i = S.td i ∧ ∀ j, 0 ≤ j → j < n → μ t2 (36 * i + j) = S.tv i j
/-- all that knows leaves as it was -/
def KF (μ μ' : Mu) (b : Int) : Prop := ∀ x j, (x < b + 11 ∨ b + 23 < x) → (x = b → j ≠ 34 ∧ j ≠ 40 ∧ j ≠ 41 ∧ j ≠ 42 ∧ j ≠ 51) → μ' x j = μ x j
theorem KN_keep {μ m : Mu} {b n q id t1 t2 f : Int} {S : GS} {v : Int → Int} (hK : KN μ b n q S t1 t2 f) (hne : ff (gv q S.op S.ov S.om S.c v (unitV id)).1 n ≠ -1) (ht1 : t1 ≠ b + 11 ∧ t1 ≠ b + 12 ∧ t1 ≠ b + 13 ∧ t1 ≠ b) (ht2 : t2 ≠ b + 11 ∧ t2 ≠ b + 12 ∧ t2 ≠ b + 13 ∧ t2 ≠ b) (hf : f ≠ 34)
    (m34 : m b 34 = S.c + 1) (mB : BsRep m (b + 11) (b + 12) (b + 13) n q (S.c + 1) (fup S.op S.c (ff (gv q S.op S.ov S.om S.c v (unitV id)).1 n)) (fup S.ov S.c (fun j => ((gv q S.op S.ov S.om S.c v (unitV id)).1 j * invQ ((gv q S.op S.ov S.om S.c v (unitV id)).1 (ff (gv q S.op S.ov S.om S.c v (unitV id)).1 n)) q) % q)) (fup S.om S.c (fun j => ((gv q S.op S.ov S.om S.c v (unitV id)).2 j * invQ ((gv q S.op S.ov S.om S.c v (unitV id)).1 (ff (gv q S.op S.ov S.om S.c v (unitV id)).1 n)) q) % q)))
    (mf : ∀ x j, x ≠ b + 11 → x ≠ b + 12 → x ≠ b + 13 → x = t1 ∨ x = t2 ∨ (x = b ∧ j = f) → m x j = μ x j) : KN m b n q (gStep q n S id v) t1 t2 f := by
  obtain ⟨h1, h2, h3, h4⟩ := hK
  unfold gStep
  rw [if_neg hne]
  refine ⟨m34, ?_, mB, fun i q1 q2 => ⟨?_, fun j q3 q4 => ?_⟩⟩
  · rw [mf _ _ (by omega) (by omega) (by omega) (by omega)]
    exact h2
  · rw [mf _ _ (by omega) (by omega) (by omega) (by omega)]
    exact (h4 i q1 q2).1
  · rw [mf _ _ (by omega) (by omega) (by omega) (by omega)]
    exact (h4 i q1 q2).2 j q3 q4
theorem KN_tie {μ m : Mu} {b n q id t1 t2 f : Int} {S : GS} {v : Int → Int} (hK : KN μ b n q S t1 t2 f) (he : ff (gv q S.op S.ov S.om S.c v (unitV id)).1 n = -1) (ht1 : t1 ≠ b + 11 ∧ t1 ≠ b + 12 ∧ t1 ≠ b + 13) (ht2 : t2 ≠ b + 11 ∧ t2 ≠ b + 12 ∧ t2 ≠ b + 13) (hf : f ≠ 34)
    (m1 : m b f = S.tc + 1) (mt1 : ∀ i, m t1 i = if i = S.tc then id else μ t1 i) (mt2 : ∀ j, 0 ≤ j → j < n → m t2 (36 * S.tc + j) = (gv q S.op S.ov S.om S.c v (unitV id)).2 j) (mt3 : ∀ j : Int, j < 36 * S.tc → m t2 j = μ t2 j) (hn : n ≤ 36)
    (mf : ∀ x j, x = b + 11 ∨ x = b + 12 ∨ x = b + 13 ∨ (x = b ∧ j = 34) → m x j = μ x j) : KN m b n q (gStep q n S id v) t1 t2 f := by
  obtain ⟨h1, h2, h3, h4⟩ := hK
  unfold gStep
  rw [if_pos he]
  refine ⟨?_, m1, ?_, fun i q1 q2 => ?_⟩
  · rw [mf _ _ (by omega)]
    exact h1
  · intro i q1 q2
    obtain ⟨w1, w2, w3, w4, w5, w6⟩ := h3 i q1 q2
    exact ⟨by rw [mf _ _ (by omega)]; exact w1, w2, fun j z1 z2 => by rw [mf _ _ (by omega)]; exact w3 j z1 z2, w4, fun j z1 z2 => by rw [mf _ _ (by omega)]; exact w5 j z1 z2, w6⟩
  · have q2' : i < S.tc + 1 := q2
    show m t1 i = fup S.td S.tc id i ∧ ∀ j, 0 ≤ j → j < n → m t2 (36 * i + j) = fup S.tv S.tc (gv q S.op S.ov S.om S.c v (unitV id)).2 i j
    by_cases e : i = S.tc
    · subst e
      rw [fup_s, fup_s, mt1, if_pos rfl]
      exact ⟨rfl, mt2⟩
    · rw [fup_n e, fup_n e, mt1, if_neg e]
      exact ⟨(h4 i q1 (by omega)).1, fun j z1 z2 => by rw [mt3 _ (by omega)]; exact (h4 i q1 (by omega)).2 j z1 z2⟩
end MKnows
