/-! the reference: inverse, isLeft, keepsRow -/
theorem Cn.ofP {l : Launch} {G : Gx} {y : MethodName} {cc : ByteArray} {nL : Nat} {ret : Option FieldType} {d k : Nat} {as : List AV} {γ μ : Mu} {Po : Option AV → Mu → Mu → Prop} (hl : l.stackTraces = false) (hy : plainFor y = true) (h1 : ∀ v ∈ as, ∀ z, v ≠ aL z) (hn : Nat.ble as.length nL = true)
    (body : ∀ P' : Option AV → Mu → Mu → Prop, (∀ r γ' μ', Po r γ' μ' → P' r γ' μ') → (∀ v ∈ as, okV v) → okM G μ → ∀ X : Mx, X.l = l → Cx X G cc nL y.cls ret d k → V X G (Qm X G k P') 0 0 (lv0 as nL) [] γ μ) : Cn l G y cc nL ret d k as γ μ Po :=
  Cn.of2 hl hy h1 hn (body Po (fun _ _ _ h => h))
theorem rows2 {μ : Mu} {a c n : Int} {F H F' H' : Int → Int} : row (row (row (row μ a n F) c n H) a n F') c n H' = row (row μ a n F') c n H' := by
  by_cases h : a = c
  · subst h
    rw [row_row, row_row, row_row, row_row]
  · rw [row_comm (a := c) (b := a) (fun e => h e.symm), row_row, row_row]
section MLeft
variable {l : Launch} {G : Gx} {γ μ : Mu}
/-- a base of c rows at B, their leads at L, their makings at M -/
def BsRep (μ : Mu) (B L M n q : Int) (c : Nat) (op : Int → Int) (ov om : Int → Int → Int) : Prop :=
  ∀ i : Int, 0 ≤ i → i < c → μ L i = op i ∧ (0 ≤ op i ∧ op i < n) ∧ (∀ j, 0 ≤ j → j < n → μ B (36 * i + j) = ov i j) ∧ inQ n q (ov i) ∧ (∀ j, 0 ≤ j → j < n → μ M (36 * i + j) = om i j) ∧ inQ n q (om i)
set_option maxHeartbeats 4000000 in
theorem m_isLeft (hl : l.stackTraces = false) (d : Nat) {b n q B L M : Int} {c : Nat} {op : Int → Int} {ov om : Int → Int → Int} (hS : ModS G b) (hG : ModG γ b) (en : μ b 1 = n) (eq : μ b 2 = q) (hn : 0 ≤ n ∧ n ≤ 36) (hq : 2 ≤ q ∧ q ≤ 5) (hc : c ≤ 36) (hB : shO G B 11 1296) (hL : shO G L 11 36) (hM : shO G M 11 1296) (hBo : B ≠ b ∧ B ≠ b + 14 ∧ B ≠ b + 15) (hLo : L ≠ b ∧ L ≠ b + 14 ∧ L ≠ b + 15) (hMo : M ≠ b ∧ M ≠ b + 14 ∧ M ≠ b + 15) (hR : BsRep μ B L M n q c op ov om) (hf : inQ n q (μ (b + 14))) (hh : inQ n q (μ (b + 15))) :
    Cn l G yX9_isLeft cX9_isLeft 8 (some .boolean) d 0 [aR b, aI c, aR B, aR L, aR M] γ μ (PI (if ff (gv q op ov om c (μ (b + 14)) (μ (b + 15))).1 n = -1 then 0 else 1) γ (row (row μ (b + 14) n (gv q op ov om c (μ (b + 14)) (μ (b + 15))).1) (b + 15) n (gv q op ov om c (μ (b + 14)) (μ (b + 15))).2)) := by
  refine Cn.ofP hl (plainFor_of_name (by decide)) (noLc nlR (noLc nlI (noLc nlR (noLc nlR (noL1 nlR))))) rfl (fun P hP o1 o3 X hX hC => B_X9_isLeft_0 hC hS.o ?_)
  have s14 := ms14 hS; have s15 := ms15 hS
  have fin : ∀ (k : Nat) (i : Int) (m : Mu), m b 1 = n → 0 ≤ i → n - i = k → P (some (aI (if ffr (m (b + 14)) k i = -1 then 0 else 1))) γ m → V X G (Qm X G 0 P) 0 132 [aR b, aD, aD, aD, aD, aI i, aD, aD] [] γ m := by
    intro k
    induction k with
    | zero =>
      intro i m k1 h0 hk hp
      refine B_X9_isLeft_132 hC hS.o ?_
      simp (disch := first | assumption | omega) only [row_off, row_in, row_out, up_same, up_ne, cpy_off, mg6, mg7, mg8, mg9, mg10, mg12, mg30, mg31, mg32, mg33, mg35, mg36, mg37, mg38, mg39, mg43, mg44, mg45, mg46, mg47, mg48, mg49, mg50, mg53, mg54, mg55, mg56, mg57, mg58, mg59, mg60, mg65, mg66, mg67, mg68, mg69, mg70, mg71, mg72, k1]
      (repeat' (first | (with_reducible exact ixO (by assumption) (by omega)) | with_reducible apply And.intro | with_reducible intro)) <;> (try first | omega | (with_reducible apply Nat.le_refl) | rfl | exact absurd trivial (by assumption))
      exact hp
    | succ k ih =>
      intro i m k1 h0 hk hp
      refine B_X9_isLeft_132 hC hS.o ?_
      simp (disch := first | assumption | omega) only [row_off, row_in, row_out, up_same, up_ne, cpy_off, mg6, mg7, mg8, mg9, mg10, mg12, mg30, mg31, mg32, mg33, mg35, mg36, mg37, mg38, mg39, mg43, mg44, mg45, mg46, mg47, mg48, mg49, mg50, mg53, mg54, mg55, mg56, mg57, mg58, mg59, mg60, mg65, mg66, mg67, mg68, mg69, mg70, mg71, mg72, k1]
      unfold ffr at hp
      (repeat' (first | (with_reducible exact ixO (by assumption) (by omega)) | with_reducible apply And.intro | with_reducible intro)) <;> (try first | omega | (with_reducible apply Nat.le_refl) | rfl | exact absurd trivial (by assumption))
      · rename_i h1
        rw [if_pos h1] at hp
        exact ih (i + 1) m k1 (by omega) (by omega) hp
      · rename_i h1
        rw [if_neg h1, if_neg (by omega)] at hp
        exact hp
  have loop : ∀ (k : Nat) (i : Nat), i + k = c → V X G (Qm X G 0 P) 0 3 [aR b, aI c, aR B, aR L, aR M, aI i, aD, aD] [] γ (row (row μ (b + 14) n (gv q op ov om i (μ (b + 14)) (μ (b + 15))).1) (b + 15) n (gv q op ov om i (μ (b + 14)) (μ (b + 15))).2) := by
    intro k
    induction k with
    | zero =>
      intro i hk
      refine B_X9_isLeft_3 hC hS.o ⟨fun hz => ?_, fun hz => absurd ?_ hz⟩
      · have e : i = c := by omega
        subst e
        refine fin n.toNat 0 _ (by simp (disch := first | assumption | omega) only [row_off, row_in, row_out, up_same, up_ne, cpy_off, mg6, mg7, mg8, mg9, mg10, mg12, mg30, mg31, mg32, mg33, mg35, mg36, mg37, mg38, mg39, mg43, mg44, mg45, mg46, mg47, mg48, mg49, mg50, mg53, mg54, mg55, mg56, mg57, mg58, mg59, mg60, mg65, mg66, mg67, mg68, mg69, mg70, mg71, mg72, en]) (by omega) (by omega) (hP _ _ _ ⟨?_, rfl, rfl⟩)
        have e2 : ff (row (row μ (b + 14) n (gv q op ov om i (μ (b + 14)) (μ (b + 15))).1) (b + 15) n (gv q op ov om i (μ (b + 14)) (μ (b + 15))).2 (b + 14)) n = ff (gv q op ov om i (μ (b + 14)) (μ (b + 15))).1 n := ff_cong (fun j h1 h2 => by simp (disch := first | assumption | omega) only [row_off, row_in, row_out, up_same, up_ne, cpy_off, mg6, mg7, mg8, mg9, mg10, mg12, mg30, mg31, mg32, mg33, mg35, mg36, mg37, mg38, mg39, mg43, mg44, mg45, mg46, mg47, mg48, mg49, mg50, mg53, mg54, mg55, mg56, mg57, mg58, mg59, mg60, mg65, mg66, mg67, mg68, mg69, mg70, mg71, mg72])
        rw [← e2]
        rfl
      · omega
    | succ k ih =>
      intro i hk
      have hgi := gv_in (op := op) (ov := ov) (om := om) (show 0 < q by omega) hf hh i
      have hstep : gv q op ov om (i + 1) (μ (b + 14)) (μ (b + 15)) = if (gv q op ov om i (μ (b + 14)) (μ (b + 15))).1 (op i) = 0 then gv q op ov om i (μ (b + 14)) (μ (b + 15)) else (fun j => ((gv q op ov om i (μ (b + 14)) (μ (b + 15))).1 j + (q - (gv q op ov om i (μ (b + 14)) (μ (b + 15))).1 (op i)) * ov i j) % q, fun j => ((gv q op ov om i (μ (b + 14)) (μ (b + 15))).2 j + (q - (gv q op ov om i (μ (b + 14)) (μ (b + 15))).1 (op i)) * om i j) % q) := rfl
      have hih := ih (i + 1) (by omega)
      rw [hstep] at hih
      generalize gv q op ov om i (μ (b + 14)) (μ (b + 15)) = FH at hgi hih ⊢
      obtain ⟨F, H⟩ := FH
      dsimp only at hgi hih ⊢
      obtain ⟨w1, w2, w3, w4, w5, w6⟩ := hR i (by omega) (by omega)
      generalize hm : row (row μ (b + 14) n F) (b + 15) n H = m at hih ⊢
      have k1 : m b 1 = n := by rw [← hm]; simp (disch := first | assumption | omega) only [row_off, row_in, row_out, up_same, up_ne, cpy_off, mg6, mg7, mg8, mg9, mg10, mg12, mg30, mg31, mg32, mg33, mg35, mg36, mg37, mg38, mg39, mg43, mg44, mg45, mg46, mg47, mg48, mg49, mg50, mg53, mg54, mg55, mg56, mg57, mg58, mg59, mg60, mg65, mg66, mg67, mg68, mg69, mg70, mg71, mg72, en]
      have k2 : m b 2 = q := by rw [← hm]; simp (disch := first | assumption | omega) only [row_off, row_in, row_out, up_same, up_ne, cpy_off, mg6, mg7, mg8, mg9, mg10, mg12, mg30, mg31, mg32, mg33, mg35, mg36, mg37, mg38, mg39, mg43, mg44, mg45, mg46, mg47, mg48, mg49, mg50, mg53, mg54, mg55, mg56, mg57, mg58, mg59, mg60, mg65, mg66, mg67, mg68, mg69, mg70, mg71, mg72, eq]
      have kL : m L i = op i := by rw [← hm]; simp (disch := first | assumption | omega) only [row_off, row_in, row_out, up_same, up_ne, cpy_off, mg6, mg7, mg8, mg9, mg10, mg12, mg30, mg31, mg32, mg33, mg35, mg36, mg37, mg38, mg39, mg43, mg44, mg45, mg46, mg47, mg48, mg49, mg50, mg53, mg54, mg55, mg56, mg57, mg58, mg59, mg60, mg65, mg66, mg67, mg68, mg69, mg70, mg71, mg72, w1]
      have kF : ∀ j, 0 ≤ j → j < n → m (b + 14) j = F j := fun j h1 h2 => by rw [← hm]; simp (disch := first | assumption | omega) only [row_off, row_in, row_out, up_same, up_ne, cpy_off, mg6, mg7, mg8, mg9, mg10, mg12, mg30, mg31, mg32, mg33, mg35, mg36, mg37, mg38, mg39, mg43, mg44, mg45, mg46, mg47, mg48, mg49, mg50, mg53, mg54, mg55, mg56, mg57, mg58, mg59, mg60, mg65, mg66, mg67, mg68, mg69, mg70, mg71, mg72]
      have kH : ∀ j, 0 ≤ j → j < n → m (b + 15) j = H j := fun j h1 h2 => by rw [← hm]; simp (disch := first | assumption | omega) only [row_off, row_in, row_out, up_same, up_ne, cpy_off, mg6, mg7, mg8, mg9, mg10, mg12, mg30, mg31, mg32, mg33, mg35, mg36, mg37, mg38, mg39, mg43, mg44, mg45, mg46, mg47, mg48, mg49, mg50, mg53, mg54, mg55, mg56, mg57, mg58, mg59, mg60, mg65, mg66, mg67, mg68, mg69, mg70, mg71, mg72]
      have kB : ∀ j, 0 ≤ j → j < n → m B (36 * i + j) = ov i j := fun j h1 h2 => by rw [← hm]; simp (disch := first | assumption | omega) only [row_off, row_in, row_out, up_same, up_ne, cpy_off, mg6, mg7, mg8, mg9, mg10, mg12, mg30, mg31, mg32, mg33, mg35, mg36, mg37, mg38, mg39, mg43, mg44, mg45, mg46, mg47, mg48, mg49, mg50, mg53, mg54, mg55, mg56, mg57, mg58, mg59, mg60, mg65, mg66, mg67, mg68, mg69, mg70, mg71, mg72, w3 j h1 h2]
      have kM : ∀ j, 0 ≤ j → j < n → m M (36 * i + j) = om i j := fun j h1 h2 => by rw [← hm]; simp (disch := first | assumption | omega) only [row_off, row_in, row_out, up_same, up_ne, cpy_off, mg6, mg7, mg8, mg9, mg10, mg12, mg30, mg31, mg32, mg33, mg35, mg36, mg37, mg38, mg39, mg43, mg44, mg45, mg46, mg47, mg48, mg49, mg50, mg53, mg54, mg55, mg56, mg57, mg58, mg59, mg60, mg65, mg66, mg67, mg68, mg69, mg70, mg71, mg72, w5 j h1 h2]
      have hFp := hgi.1 (op i) w2.1 w2.2
      refine B_X9_isLeft_3 hC hS.o ?_
      simp (disch := first | assumption | omega) only [row_off, row_in, row_out, up_same, up_ne, cpy_off, mg6, mg7, mg8, mg9, mg10, mg12, mg30, mg31, mg32, mg33, mg35, mg36, mg37, mg38, mg39, mg43, mg44, mg45, mg46, mg47, mg48, mg49, mg50, mg53, mg54, mg55, mg56, mg57, mg58, mg59, mg60, mg65, mg66, mg67, mg68, mg69, mg70, mg71, mg72, kL, kF (op i) w2.1 w2.2]
      (repeat' (first | (with_reducible exact ixO (by assumption) (by omega)) | with_reducible apply And.intro | with_reducible intro)) <;> (try first | omega | (with_reducible apply Nat.le_refl) | rfl | exact absurd trivial (by assumption))
      · rename_i hv
        rw [if_neg hv] at hih
        dsimp only at hih
        have inner : ∀ (k : Nat) (j : Int), 0 ≤ j → n - j = k → V X G (Qm X G 0 P) 0 31 [aR b, aI c, aR B, aR L, aR M, aI i, aI (F (op i)), aI j] [] γ (row (row m (b + 14) j (fun j => (F j + (q - F (op i)) * ov i j) % q)) (b + 15) j (fun j => (H j + (q - F (op i)) * om i j) % q)) := by
          intro k
          induction k with
          | zero =>
            intro j h0 hj
            have e : j = n := by omega
            subst e
            refine B_X9_isLeft_31 hC hS.o ?_
            simp (disch := first | assumption | omega) only [row_off, row_in, row_out, up_same, up_ne, cpy_off, mg6, mg7, mg8, mg9, mg10, mg12, mg30, mg31, mg32, mg33, mg35, mg36, mg37, mg38, mg39, mg43, mg44, mg45, mg46, mg47, mg48, mg49, mg50, mg53, mg54, mg55, mg56, mg57, mg58, mg59, mg60, mg65, mg66, mg67, mg68, mg69, mg70, mg71, mg72, k1]
            (repeat' (first | (with_reducible exact ixO (by assumption) (by omega)) | with_reducible apply And.intro | with_reducible intro)) <;> (try first | omega | (with_reducible apply Nat.le_refl) | rfl | exact absurd trivial (by assumption))
            rw [← hm, rows2]
            exact hih
          | succ k ih2 =>
            intro j h0 hj
            have p1 := mulR (a := q - F (op i)) (b := ov i j) (m := 5) (by omega) (by have := w4 j h0 (by omega); omega)
            have p2 := mulR (a := q - F (op i)) (b := om i j) (m := 5) (by omega) (by have := w6 j h0 (by omega); omega)
            have q1 := hgi.1 j h0 (by omega)
            have q2 := hgi.2 j h0 (by omega)
            have hih2 := ih2 (j + 1) (by omega) (by omega)
            rw [← row_s (f := fun j => (F j + (q - F (op i)) * ov i j) % q) h0, ← row_s (f := fun j => (H j + (q - F (op i)) * om i j) % q) h0, ← row_up (by omega)] at hih2
            refine B_X9_isLeft_31 hC hS.o ?_
            simp (disch := first | assumption | omega) only [row_off, row_in, row_out, up_same, up_ne, cpy_off, mg6, mg7, mg8, mg9, mg10, mg12, mg30, mg31, mg32, mg33, mg35, mg36, mg37, mg38, mg39, mg43, mg44, mg45, mg46, mg47, mg48, mg49, mg50, mg53, mg54, mg55, mg56, mg57, mg58, mg59, mg60, mg65, mg66, mg67, mg68, mg69, mg70, mg71, mg72, k1, k2, kF j h0 (by omega), kH j h0 (by omega), kB j h0 (by omega), kM j h0 (by omega)]
            (repeat' (first | (with_reducible exact ixO (by assumption) (by omega)) | with_reducible apply And.intro | with_reducible intro)) <;> (try first | omega | (with_reducible apply Nat.le_refl) | rfl | exact absurd trivial (by assumption))
            rw [Int.tmod_eq_emod_of_nonneg (by omega), Int.tmod_eq_emod_of_nonneg (by omega)]
            exact hih2
        have h9 := inner n.toNat 0 (by omega) (by omega)
        rw [row_0, row_0] at h9
        exact h9
      · rename_i hv
        rw [if_pos hv] at hih
        dsimp only at hih
        rw [hm] at hih
        exact hih
  have h9 := loop c 0 (by omega)
  have e : row (row μ (b + 14) n (gv q op ov om 0 (μ (b + 14)) (μ (b + 15))).1) (b + 15) n (gv q op ov om 0 (μ (b + 14)) (μ (b + 15))).2 = μ := by
    unfold gv
    rw [row_same (a := b + 15), row_same (fun _ _ _ => rfl)]
    intro j _ _
    rw [row_off (by omega)]
  rw [e] at h9
  exact h9
/-- .. with what stands in the two rows told apart from where it stands -/
theorem m_isLeft2 (hl : l.stackTraces = false) (d : Nat) {b n q B L M : Int} {c : Nat} {op : Int → Int} {ov om : Int → Int → Int} {f h : Int → Int} (hS : ModS G b) (hG : ModG γ b) (en : μ b 1 = n) (eq : μ b 2 = q) (hn : 0 ≤ n ∧ n ≤ 36) (hq : 2 ≤ q ∧ q ≤ 5) (hc : c ≤ 36) (hB : shO G B 11 1296) (hL : shO G L 11 36) (hM : shO G M 11 1296) (hBo : B ≠ b ∧ B ≠ b + 14 ∧ B ≠ b + 15) (hLo : L ≠ b ∧ L ≠ b + 14 ∧ L ≠ b + 15) (hMo : M ≠ b ∧ M ≠ b + 14 ∧ M ≠ b + 15) (hR : BsRep μ B L M n q c op ov om) (hf : ∀ j, 0 ≤ j → j < n → μ (b + 14) j = f j) (hh : ∀ j, 0 ≤ j → j < n → μ (b + 15) j = h j) (hfq : inQ n q f) (hhq : inQ n q h) :
    Cn l G yX9_isLeft cX9_isLeft 8 (some .boolean) d 0 [aR b, aI c, aR B, aR L, aR M] γ μ (fun r γ' μ' => r = some (aI (if ff (gv q op ov om c f h).1 n = -1 then 0 else 1)) ∧ γ' = γ ∧ (∀ j, 0 ≤ j → j < n → μ' (b + 14) j = (gv q op ov om c f h).1 j) ∧ (∀ j, 0 ≤ j → j < n → μ' (b + 15) j = (gv q op ov om c f h).2 j) ∧ ∀ x j, x ≠ b + 14 → x ≠ b + 15 → μ' x j = μ x j) := by
  obtain ⟨g1, g2⟩ := gv_cong (q := q) (op := op) (ov := ov) (om := om) (c := c) (fun i hi => (hR i (by omega) (by omega)).2.1) hf hh c (Nat.le_refl _)
  refine Cn.mono (m_isLeft hl d hS hG en eq hn hq hc hB hL hM hBo hLo hMo hR (fun j h1 h2 => by rw [hf j h1 h2]; exact hfq j h1 h2) (fun j h1 h2 => by rw [hh j h1 h2]; exact hhq j h1 h2)) ?_
  rintro r γ' μ' ⟨r1, r2, r3⟩
  rw [ff_cong g1] at r1
  refine ⟨r1, r2, fun j h1 h2 => ?_, fun j h1 h2 => ?_, fun x j h1 h2 => ?_⟩
  · rw [r3, row_off (by omega), row_in ⟨h1, h2⟩, g1 j h1 h2]
  · rw [r3, row_in ⟨h1, h2⟩, g2 j h1 h2]
  · rw [r3, row_off h2, row_off h1]
end MLeft
