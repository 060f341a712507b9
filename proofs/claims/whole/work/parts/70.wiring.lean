/-! the class: Wiring -/
theorem WirAt.o {G : Gx} {γ : Mu} {a : Int} (h : WirAt G γ a) : shO G a 7 9 := h.1
theorem WirAt.g5 {G : Gx} {γ : Mu} {a : Int} (h : WirAt G γ a) : γ a 5 = a + 1 := h.2.1
theorem WirAt.s1 {G : Gx} {γ : Mu} {a : Int} (h : WirAt G γ a) : shO G (a + 1) 14 36 := h.2.2.1
theorem WirAt.g6 {G : Gx} {γ : Mu} {a : Int} (h : WirAt G γ a) : γ a 6 = a + 38 := h.2.2.2.1
theorem WirAt.s38 {G : Gx} {γ : Mu} {a : Int} (h : WirAt G γ a) : shO G (a + 38) 13 36 := h.2.2.2.2.1
theorem WirAt.g7 {G : Gx} {γ : Mu} {a : Int} (h : WirAt G γ a) : γ a 7 = a + 39 := h.2.2.2.2.2.1
theorem WirAt.s39 {G : Gx} {γ : Mu} {a : Int} (h : WirAt G γ a) : shO G (a + 39) 11 6 := h.2.2.2.2.2.2.1
theorem WirAt.g8 {G : Gx} {γ : Mu} {a : Int} (h : WirAt G γ a) : γ a 8 = a + 40 := h.2.2.2.2.2.2.2.1
theorem WirAt.s40 {G : Gx} {γ : Mu} {a : Int} (h : WirAt G γ a) : shO G (a + 40) 14 36 := h.2.2.2.2.2.2.2.2.1
theorem WirAt.gA {G : Gx} {γ : Mu} {a i : Int} (h : WirAt G γ a) (hi : 0 ≤ i ∧ i < 36) : γ (a + 1) i = a + 2 + i := (h.2.2.2.2.2.2.2.2.2 i hi.1 hi.2).1.1
theorem WirAt.sA {G : Gx} {γ : Mu} {a i : Int} (h : WirAt G γ a) (hi : 0 ≤ i ∧ i < 36) : shO G (a + 2 + i) 11 36 := (h.2.2.2.2.2.2.2.2.2 i hi.1 hi.2).1.2
theorem WirAt.gW {G : Gx} {γ : Mu} {a i : Int} (h : WirAt G γ a) (hi : 0 ≤ i ∧ i < 36) : γ (a + 40) i = a + 41 + i := (h.2.2.2.2.2.2.2.2.2 i hi.1 hi.2).2.1
theorem WirAt.sW {G : Gx} {γ : Mu} {a i : Int} (h : WirAt G γ a) (hi : 0 ≤ i ∧ i < 36) : shO G (a + 41 + i) 11 36 := (h.2.2.2.2.2.2.2.2.2 i hi.1 hi.2).2.2
abbrev WirS (μ : Mu) (w : Int) (σ : Mu) : Prop := WirD μ w (σ 0 0) (σ 0 1) (sA σ) (σ 2)
theorem cpyI {G : Gx} {s t : Int} (hs : shO G s 11 36) (ht : shO G t 11 36) : cpA G 11 s 0 t 0 36 := ⟨hs.1, hs.2.1, by rw [hs.2.2], ht.1, ht.2.1, by rw [ht.2.2], by decide, by decide, by decide, by rw [hs.2.2]; decide, by rw [ht.2.2]; decide⟩
theorem cpy_in {μ : Mu} {s t j : Int} (h : 0 ≤ j ∧ j < 36) : cpy μ s 0 t 0 36 t j = μ s j := by
  unfold cpy
  rw [if_pos ⟨rfl, by omega, by omega⟩]
  congr 1
  omega
theorem cpy_out {μ : Mu} {s t b j : Int} (h : ¬ (b = t ∧ 0 ≤ j ∧ j < 36)) : cpy μ s 0 t 0 36 b j = μ b j := if_neg (fun q => h ⟨q.1, q.2.1, by omega⟩)
section CWir
variable {l : Launch} {G : Gx} {γ μ σ : Mu}
theorem c_step (hl : l.stackTraces = false) (d : Nat) (hd : 0 < d) {w r x t : Int} {f : Int → Int} (hw : WirAt G γ w) (hD : WirS μ w σ) (hr : shO G r 11 36) (hrw : r < w ∨ w + 77 ≤ r) (hx : isL σ x) (ht : 0 ≤ t ∧ t < σ 0 1) (hf : ∀ j, 0 ≤ j → j < σ 0 0 → μ r j = f j) (hfq : inQ (σ 0 0) (σ 0 1) f) : Cn l G yX7_step cX7_step 4 none d 0 [aR w, aR r, aI x, aI t] γ μ (PV γ (row μ r (σ 0 0) (stpV σ f x t))) := by
  refine Cn.ofP hl (plainFor_of_name (by decide)) (noLc nlR (noLc nlR (noLc nlI (noL1 nlI)))) rfl (fun P hP o1 o3 X hX hC => B_X7_step_0 hC hw.o ?_)
  obtain ⟨d1, d2, d3, d4, d5, d6⟩ := hD
  rw [hw.g5, hw.gA (by omega), d1, d2]
  refine ⟨ixO hw.s1 (by omega), 0, 0, _, hd, Nat.le_refl _, hX ▸ c_addTimes hl 0 (lnO hr (by decide)) (lnO (hw.sA (i := x) (by omega)) (by decide)) (by omega) d4 ht ⟨d3.1, by rw [shLen hr]; exact d3.2, by rw [shLen (hw.sA (i := x) (by omega))]; exact d3.2⟩ (fun j z1 z2 => by rw [hf j z1 z2]; exact hfq j z1 z2) (fun j z1 z2 => by rw [(d5 x hx.1 hx.2).1 j z1 z2]; exact (d5 x hx.1 hx.2).2 j z1 z2), PV.use ?_⟩
  refine B_X7_step_19 hC ⟨Nat.le_refl _, hP _ _ _ ⟨rfl, rfl, row_cong (fun j z1 z2 => ?_)⟩⟩
  rw [hf j z1 z2, (d5 x hx.1 hx.2).1 j z1 z2]
  rfl
theorem WirD.fr2 {μ m : Mu} {w n q : Int} {A : Int → Int → Int} {jm : Int → Int} (h : WirD μ w n q A jm) (hf : ∀ y j, w ≤ y → y ≤ w + 38 → m y j = μ y j) : WirD m w n q A jm := by
  obtain ⟨d1, d2, d3, d4, d5, d6⟩ := h
  exact ⟨by rw [hf _ _ (by omega) (by omega)]; exact d1, by rw [hf _ _ (by omega) (by omega)]; exact d2, d3, d4, fun b z1 z2 => ⟨fun j z3 z4 => by rw [hf _ _ (by omega) (by omega)]; exact (d5 b z1 z2).1 j z3 z4, (d5 b z1 z2).2⟩, fun b z1 z2 => by rw [hf _ _ (by omega) (by omega)]; exact d6 b z1 z2⟩
theorem stpV_0 {f : Int → Int} {x n : Int} (hf : inQ n (σ 0 1) f) : ∀ j, 0 ≤ j → j < n → stpV σ f x 0 j = f j := fun j z1 z2 => by
  unfold stpV
  rw [Int.zero_mul, Int.add_zero]
  exact Int.emod_eq_of_lt (hf j z1 z2).1 (hf j z1 z2).2
theorem c_beat (hl : l.stackTraces = false) (d : Nat) (hd : 1 < d) {w r s : Int} {f : Int → Int} (hw : WirAt G γ w) (hD : WirS μ w σ) (hW : Wf σ) (hr : shO G r 11 36) (hs : shO G s 11 36) (hrw : r < w ∨ w + 77 ≤ r) (hsw : s < w ∨ w + 77 ≤ s) (hrs : r ≠ s) (hf : ∀ j, 0 ≤ j → j < σ 0 0 → μ r j = f j) (hfq : inQ (σ 0 0) (σ 0 1) f) : Cn l G yX7_beat cX7_beat 4 none d 0 [aR w, aR r, aR s] γ μ (fun rr γ' μ' => rr = none ∧ γ' = γ ∧ (∀ j, 0 ≤ j → j < σ 0 0 → μ' r j = pulF σ f j) ∧ (∀ j, σ 0 0 ≤ j → μ' r j = μ r j) ∧ ∀ y j, y ≠ r → y ≠ s → μ' y j = μ y j) := by
  refine Cn.ofP hl (plainFor_of_name (by decide)) (noLc nlR (noLc nlR (noL1 nlR))) rfl (fun P hP o1 o3 X hX hC => B_X7_beat_0 hC hw.o ⟨cpyI hr hs, by omega, ?_⟩)
  have hn := hW.1
  have hq := hW.2.1.b
  have loop := rem_ind (n := σ 0 0) (P := fun i => ∀ m : Mu, (∀ y j, y ≠ r → y ≠ s → m y j = μ y j) → (∀ j, σ 0 0 ≤ j → m r j = μ r j) → (∀ j, 0 ≤ j → j < σ 0 0 → m s j = f j) → (∀ j, 0 ≤ j → j < σ 0 0 → m r j = pulS σ f i j) → V X G (Qm X G 0 P) 0 11 [aR w, aR r, aR s, aI i] [] γ m) (fun i h0 h1 ih m fm mo ms mr => ?_)
  · exact loop 0 (by omega) (by omega) _ (fun y j z1 z2 => cpy_off z2) (fun j z1 => cpy_off hrs) (fun j z1 z2 => by rw [cpy_in ⟨z1, by omega⟩]; exact hf j z1 z2) (fun j z1 z2 => by rw [cpy_off hrs]; exact hf j z1 z2)
  · have mD : WirS m w σ := hD.fr2 (fun y j z1 z2 => fm y j (by omega) (by omega))
    refine B_X7_beat_11 hC hw.o ?_
    rw [mD.1, hw.g6]
    rcases Int.lt_or_le i (σ 0 0) with hi | hi
    · have es : pulS σ f (i + 1) = if σ 2 i = 0 then (if f i = 0 then pulS σ f i else stpV σ (pulS σ f i) i (f i)) else pulS σ f i := foldI_s h0
      have hpi := pulS_in hW hfq i h0 h1
      rw [mD.2.2.2.2.2 i h0 hi, ms i h0 hi]
      refine ⟨fun z => absurd z (by omega), fun _ => ⟨ixO hw.s38 (by omega), fun hj => ?_, fun hj => ⟨ixO hs (by omega), ?_⟩⟩⟩
      · exact B_X7_beat_37 hC hw.o ⟨by constructor <;> omega, ih hi m fm mo ms (by rw [es, if_neg hj]; exact mr)⟩
      · refine ⟨1, 0, _, hd, Nat.le_refl _, hX ▸ c_step hl 1 (by omega) hw mD hr hrw ⟨h0, hi⟩ (hfq i h0 hi) mr hpi, PV.use ?_⟩
        refine B_X7_beat_37 hC hw.o ⟨by constructor <;> omega, ih hi _ (fun y j z1 z2 => by rw [row_off z1, fm y j z1 z2]) (fun j z1 => by rw [row_out (by omega)]; exact mo j z1) (fun j z1 z2 => by rw [row_off (by omega)]; exact ms j z1 z2) (fun j z1 z2 => ?_)⟩
        rw [row_in ⟨z1, z2⟩, es, if_pos hj]
        by_cases e : f i = 0
        · rw [if_pos e, e]
          exact stpV_0 hpi j z1 z2
        · rw [if_neg e]
    · obtain rfl : i = σ 0 0 := by omega
      exact ⟨fun _ => ⟨Nat.le_refl _, hP _ _ _ ⟨rfl, rfl, mr, mo, fm⟩⟩, fun z => absurd hi z⟩
theorem c_doAlike (hl : l.stackTraces = false) (d : Nat) {w x y : Int} (hw : WirAt G γ w) (hD : WirS μ w σ) (hx : isL σ x) (hy : isL σ y) : Cn l G yX7_doAlike cX7_doAlike 4 (some .boolean) d 0 [aR w, aI x, aI y] γ μ (PI (allI (eqP (sA σ x) (sA σ y)) (σ 0 0)) γ μ) := by
  refine Cn.ofP hl (plainFor_of_name (by decide)) (noLc nlR (noLc nlI (noL1 nlI))) rfl (fun P hP o1 o3 X hX hC => B_X7_doAlike_0 hC hw.o ?_)
  obtain ⟨d1, d2, d3, d4, d5, d6⟩ := hD
  have loop := rem_ind (n := σ 0 0) (P := fun i => allI (eqP (sA σ x) (sA σ y)) i ≠ 0 → V X G (Qm X G 0 P) 0 2 [aR w, aI x, aI y, aI i] [] γ μ) (fun i h0 h1 ih ha => ?_)
  · exact loop 0 (by omega) (by omega) (show (1 : Int) ≠ 0 by decide)
  · refine B_X7_doAlike_2 hC hw.o ?_
    rw [d1, hw.g5, hw.gA (show 0 ≤ x ∧ x < 36 by omega), hw.gA (show 0 ≤ y ∧ y < 36 by omega)]
    rcases Int.lt_or_le i (σ 0 0) with hi | hi
    · rw [(d5 x hx.1 hx.2).1 i h0 hi, (d5 y hy.1 hy.2).1 i h0 hi]
      have ea : allI (eqP (sA σ x) (sA σ y)) (i + 1) = if allI (eqP (sA σ x) (sA σ y)) i = 0 then 0 else if eqP (sA σ x) (sA σ y) i = 0 then 0 else 1 := foldI_s h0
      refine ⟨fun z => absurd z (by omega), fun _ => ⟨ixO hw.s1 (by omega), ixO (hw.sA (by omega)) (by omega), ixO hw.s1 (by omega), ixO (hw.sA (by omega)) (by omega), fun e => ⟨by constructor <;> omega, ih hi ?_⟩, fun e => ⟨Nat.le_refl _, hP _ _ _ ⟨?_, rfl, rfl⟩⟩⟩⟩
      · rw [ea, if_neg ha, eqP_1 e, if_neg (by decide)]
        decide
      · have := allI_mono (p := eqP (sA σ x) (sA σ y)) (i := i + 1) (n := σ 0 0) (by omega) (by omega) (by rw [ea, if_neg ha, eqP_0 e, if_pos rfl])
        rw [this]
    · obtain rfl : i = σ 0 0 := by omega
      refine ⟨fun _ => ⟨Nat.le_refl _, hP _ _ _ ⟨?_, rfl, rfl⟩⟩, fun z => absurd hi z⟩
      rcases allI_01 (eqP (sA σ x) (sA σ y)) (σ 0 0) with h | h
      · exact absurd h ha
      · rw [h]
/-- what a wiring that is read has added up: amounts, shapes, wires, jams -/
def WcR (m : Mu) (w q : Int) (a : AC) : Prop := (∀ x y, 0 ≤ x → x < 36 → 0 ≤ y → y < 36 → m (w + 2 + x) y = a.dir x y % q) ∧ (∀ k, 0 ≤ k → k < 6 → m (w + 39) k = a.shp k % q) ∧ (∀ x y, 0 ≤ x → x < 36 → 0 ≤ y → y < 36 → m (w + 41 + x) y = wrC a a.wc x y) ∧ ∀ x, 0 ≤ x → x < 36 → m (w + 38) x = a.jm x
def WhR (m : Mu) (w n q c h ed : Int) : Prop := m w 0 = n ∧ m w 1 = q ∧ m w 2 = c ∧ m w 3 = h ∧ m w 4 = ed
theorem c_clear (hl : l.stackTraces = false) (d : Nat) (hd : 0 < d) {w : Int} (hw : WirAt G γ w) : Cn l G yX7_clear cX7_clear 2 none d 0 [aR w] γ μ (fun r γ' μ' => r = none ∧ γ' = γ ∧ WhR μ' w 0 2 0 0 (-1) ∧ (∀ q, WcR μ' w q ac0) ∧ ∀ y j, (y < w ∨ w + 77 ≤ y) → μ' y j = μ y j) := by
  refine Cn.ofP hl (plainFor_of_name (by decide)) (noL1 nlR) rfl (fun P hP o1 o3 X hX hC => B_X7_clear_0 hC hw.o ?_)
  rw [hw.g7]
  refine ⟨0, 0, _, hd, Nat.le_refl _, hX ▸ c_fill hl 0 (lnO hw.s39 (by decide)), PV.use ?_⟩
  rw [shLen hw.s39]
  generalize hm : row (up (up (up (up (up μ w 0 0) w 1 2) w 2 0) w 3 0) w 4 (-1)) (w + 39) ((6 : Nat) : Int) (fun _ => 0) = m0
  have h0 : WhR m0 w 0 2 0 0 (-1) := by
    rw [← hm]
    refine ⟨?_, ?_, ?_, ?_, ?_⟩
    all_goals simp (disch := first | assumption | omega) only [row_off, row_in, row_out, up_same, up_ne]
  have h39 : ∀ k, 0 ≤ k → k < 6 → m0 (w + 39) k = 0 := fun k z1 z2 => by rw [← hm, row_in ⟨z1, by omega⟩]
  have hf : ∀ y j, (y < w ∨ w + 77 ≤ y) → m0 y j = μ y j := fun y j h => by rw [← hm, row_off (by omega), up_ne (by omega), up_ne (by omega), up_ne (by omega), up_ne (by omega), up_ne (by omega)]
  have loop := rem_ind (n := 36) (P := fun i => ∀ m : Mu, (∀ j, m w j = m0 w j) → (∀ j, m (w + 39) j = m0 (w + 39) j) → (∀ y j, (y < w ∨ w + 77 ≤ y) → m y j = μ y j) → (∀ x, 0 ≤ x → x < i → m (w + 38) x = 0 ∧ ∀ y, 0 ≤ y → y < 36 → m (w + 2 + x) y = 0 ∧ m (w + 41 + x) y = 0) → V X G (Qm X G 0 P) 0 35 [aR w, aI i] [] γ m) (fun i i0 i1 ih m k1 k2 k3 k4 => ?_)
  · exact B_X7_clear_33 hC hw.o (loop 0 (by omega) (by omega) m0 (fun _ => rfl) (fun _ => rfl) hf (fun x z1 z2 => by omega))
  · refine B_X7_clear_35 hC hw.o ⟨fun hi => ⟨Nat.le_refl _, hP _ _ _ ⟨rfl, rfl, ?_, fun q => ⟨fun x y z1 z2 z3 z4 => ?_, fun k z1 z2 => ?_, fun x y z1 z2 z3 z4 => ?_, fun x z1 z2 => ?_⟩, k3⟩⟩, fun hi => ?_⟩
    · exact ⟨by rw [k1]; exact h0.1, by rw [k1]; exact h0.2.1, by rw [k1]; exact h0.2.2.1, by rw [k1]; exact h0.2.2.2.1, by rw [k1]; exact h0.2.2.2.2⟩
    · rw [((k4 x z1 (by omega)).2 y z3 z4).1]; exact (Int.zero_emod q).symm
    · rw [k2, h39 k z1 z2]; exact (Int.zero_emod q).symm
    · rw [((k4 x z1 (by omega)).2 y z3 z4).2]; rfl
    · rw [(k4 x z1 (by omega)).1]; rfl
    · rw [hw.g5, hw.gA ⟨i0, by omega⟩]
      refine ⟨ixO hw.s1 (by omega), 0, 0, _, hd, Nat.le_refl _, hX ▸ c_fill hl 0 (lnO (hw.sA (i := i) ⟨i0, by omega⟩) (by decide)), PV.use ?_⟩
      rw [shLen (hw.sA (i := i) ⟨i0, by omega⟩)]
      refine B_X7_clear_51 hC hw.o ?_
      rw [hw.g8, hw.gW ⟨i0, by omega⟩]
      refine ⟨ixO hw.s40 (by omega), 0, 0, _, hd, Nat.le_refl _, hX ▸ c_fill hl 0 (lnO (hw.sW (i := i) ⟨i0, by omega⟩) (by decide)), PV.use ?_⟩
      rw [shLen (hw.sW (i := i) ⟨i0, by omega⟩)]
      refine B_X7_clear_61 hC hw.o ?_
      rw [hw.g6]
      refine ⟨ixO hw.s38 (by omega), by constructor <;> omega, ih (by omega) _ (fun j => ?_) (fun j => ?_) (fun y j h => ?_) (fun x z1 z2 => ?_)⟩
      · rw [up_ne (by omega), row_off (by omega), row_off (by omega)]; exact k1 j
      · rw [up_ne (by omega), row_off (by omega), row_off (by omega)]; exact k2 j
      · rw [up_ne (by omega), row_off (by omega), row_off (by omega)]; exact k3 y j h
      · by_cases e : x = i
        · subst e
          refine ⟨up_same, fun y z3 z4 => ⟨?_, ?_⟩⟩
          · rw [up_ne (by omega), row_off (by omega), row_in ⟨z3, by omega⟩]
          · rw [up_ne (by omega), row_in ⟨z3, by omega⟩]
        · obtain ⟨q1, q2⟩ := k4 x z1 (by omega)
          refine ⟨by rw [up_ne (by omega), row_off (by omega), row_off (by omega)]; exact q1, fun y z3 z4 => ⟨?_, ?_⟩⟩
          · rw [up_ne (by omega), row_off (by omega), row_off (by omega)]; exact (q2 y z3 z4).1
          · rw [up_ne (by omega), row_off (by omega), row_off (by omega)]; exact (q2 y z3 z4).2
/-- amounts at w, modulo q -/
def WaR (m : Mu) (w q : Int) (D : Int → Int → Int) : Prop := ∀ x y, 0 ≤ x → x < 36 → 0 ≤ y → y < 36 → m (w + 2 + x) y = D x y % q
theorem WaR.cong {m : Mu} {w q : Int} {A B : Int → Int → Int} (h : WaR m w q A) (hf : ∀ x y, 0 ≤ x → x < 36 → 0 ≤ y → y < 36 → A x y = B x y) : WaR m w q B := fun x y z1 z2 z3 z4 => by rw [← hf x y z1 z2 z3 z4]; exact h x y z1 z2 z3 z4
/-- all but the amounts -/
def Fw (μ m : Mu) (w : Int) : Prop := ∀ y j, (y < w + 2 ∨ w + 37 < y) → m y j = μ y j
theorem Fw.t {μ m m2 : Mu} {w : Int} (h : Fw μ m w) (h2 : Fw m m2 w) : Fw μ m2 w := fun x j hx => by rw [h2 x j hx, h x j hx]
theorem WhR.fw {μ m : Mu} {w n q c h ed : Int} (H : WhR μ w n q c h ed) (hf : Fw μ m w) : WhR m w n q c h ed := by
  obtain ⟨h1, h2, h3, h4, h5⟩ := H
  exact ⟨by rw [hf _ _ (by omega)]; exact h1, by rw [hf _ _ (by omega)]; exact h2, by rw [hf _ _ (by omega)]; exact h3, by rw [hf _ _ (by omega)]; exact h4, by rw [hf _ _ (by omega)]; exact h5⟩
theorem c_addAmount (hl : l.stackTraces = false) (d : Nat) (hd : 1 < d) {w q x y v : Int} {D : Int → Int → Int} (hw : WirAt G γ w) (eq : μ w 1 = q) (hq : 2 ≤ q ∧ q ≤ 5) (hA : WaR μ w q D) (hx : 0 ≤ x ∧ x < 36) (hy : 0 ≤ y ∧ y < 36) (hv : 0 ≤ v ∧ v ≤ 100000) : Cn l G yX7_addAmount cX7_addAmount 4 none d 0 [aR w, aI x, aI y, aI v] γ μ (fun r γ' μ' => r = none ∧ γ' = γ ∧ WaR μ' w q (fun x' y' => D x' y' + (if x' = x ∧ y' = y then v else 0)) ∧ Fw μ μ' w) := by
  refine Cn.ofP hl (plainFor_of_name (by decide)) (noLc nlR (noLc nlI (noLc nlI (noL1 nlI)))) rfl (fun P hP o1 o3 X hX hC => B_X7_addAmount_0 hC hw.o ?_)
  have e1 := hA x y hx.1 hx.2 hy.1 hy.2
  have b1 := Int.emod_nonneg (D x y) (show q ≠ 0 by omega)
  have b2 := Int.emod_lt_of_pos (D x y) (show 0 < q by omega)
  rw [hw.g5, hw.gA hx, e1, eq]
  refine ⟨ixO hw.s1 (by omega), ixO (hw.sA hx) (by omega), by constructor <;> omega, 1, 0, _, hd, Nat.le_refl _, hX ▸ c_mod hl 1 (by omega), PI.use ?_⟩
  rw [if_pos hq.1]
  refine B_X7_addAmount_24 hC ⟨ixO (hw.sA hx) (by omega), Nat.le_refl _, hP _ _ _ ⟨rfl, rfl, fun x' y' z1 z2 z3 z4 => ?_, fun y' j h => up_ne (by omega)⟩⟩
  dsimp only
  by_cases e : x' = x ∧ y' = y
  · obtain ⟨rfl, rfl⟩ := e
    rw [up_same, if_pos ⟨rfl, rfl⟩, Int.emod_add_emod]
  · rw [up_ne (by omega), if_neg e, Int.add_zero]
    exact hA x' y' z1 z2 z3 z4
theorem c_addShape (hl : l.stackTraces = false) (d : Nat) (hd : 1 < d) {w q k v : Int} {s : Int → Int} (hw : WirAt G γ w) (eq : μ w 1 = q) (hq : 2 ≤ q ∧ q ≤ 5) (hA : ∀ k, 0 ≤ k → k < 6 → μ (w + 39) k = s k % q) (hk : 0 ≤ k ∧ k < 6) (hv : 0 ≤ v ∧ v ≤ 1000) : Cn l G yX7_addShape cX7_addShape 3 none d 0 [aR w, aI k, aI v] γ μ (fun r γ' μ' => r = none ∧ γ' = γ ∧ (∀ k', 0 ≤ k' → k' < 6 → μ' (w + 39) k' = fup s k (s k + v) k' % q) ∧ ∀ y j, y ≠ w + 39 → μ' y j = μ y j) := by
  refine Cn.ofP hl (plainFor_of_name (by decide)) (noLc nlR (noLc nlI (noL1 nlI))) rfl (fun P hP o1 o3 X hX hC => B_X7_addShape_0 hC hw.o ?_)
  have b1 := Int.emod_nonneg (s k) (show q ≠ 0 by omega)
  have b2 := Int.emod_lt_of_pos (s k) (show 0 < q by omega)
  rw [hw.g7, hA k hk.1 hk.2, eq]
  refine ⟨ixO hw.s39 (by omega), by constructor <;> omega, 1, 0, _, hd, Nat.le_refl _, hX ▸ c_mod hl 1 (by omega), PI.use ?_⟩
  rw [if_pos hq.1]
  refine B_X7_addShape_20 hC ⟨ixO hw.s39 (by omega), Nat.le_refl _, hP _ _ _ ⟨rfl, rfl, fun k' z1 z2 => ?_, fun y' j h => up_ne (by omega)⟩⟩
  by_cases e : k' = k
  · rw [e, up_same, fup_s, Int.emod_add_emod]
  · rw [up_ne (by omega), fup_n e]
    exact hA k' z1 z2
theorem c_addWire (hl : l.stackTraces = false) (d : Nat) {w x y : Int} {W : Int → Int → Int} (hw : WirAt G γ w) (hA : ∀ x y, 0 ≤ x → x < 36 → 0 ≤ y → y < 36 → μ (w + 41 + x) y = W x y) (hx : 0 ≤ x ∧ x < 36) (hy : 0 ≤ y ∧ y < 36) (hxy : x ≠ y) (hW : ∀ x y, 0 ≤ W x y ∧ W x y ≤ 1000) : Cn l G yX7_addWire cX7_addWire 3 none d 0 [aR w, aI x, aI y] γ μ (fun r γ' μ' => r = none ∧ γ' = γ ∧ (∀ x' y', 0 ≤ x' → x' < 36 → 0 ≤ y' → y' < 36 → μ' (w + 41 + x') y' = W x' y' + (if x' = x ∧ y' = y then 1 else 0) + (if x' = y ∧ y' = x then 1 else 0)) ∧ ∀ y' j, (y' < w + 41 ∨ w + 77 ≤ y') → μ' y' j = μ y' j) := by
  refine Cn.ofP hl (plainFor_of_name (by decide)) (noLc nlR (noLc nlI (noL1 nlI))) rfl (fun P hP o1 o3 X hX hC => B_X7_addWire_0 hC hw.o ?_)
  have h1 := hW x y
  have h2 := hW y x
  rw [hw.g8, hw.gW hx, hw.gW hy, hA x y hx.1 hx.2 hy.1 hy.2, up_ne (show ¬ (w + 41 + y = w + 41 + x ∧ x = y) by omega), hA y x hy.1 hy.2 hx.1 hx.2]
  refine ⟨ixO hw.s40 (by omega), ixO (hw.sW hx) (by omega), by constructor <;> omega, ixO hw.s40 (by omega), ixO (hw.sW hy) (by omega), by constructor <;> omega, Nat.le_refl _, hP _ _ _ ⟨rfl, rfl, fun x' y' z1 z2 z3 z4 => ?_, fun y' j h => by rw [up_ne (by omega), up_ne (by omega)]⟩⟩
  by_cases e1 : x' = y ∧ y' = x
  · obtain ⟨rfl, rfl⟩ := e1
    rw [up_same, if_neg (by omega), if_pos ⟨rfl, rfl⟩]
    omega
  · rw [up_ne (by omega), if_neg e1]
    by_cases e2 : x' = x ∧ y' = y
    · obtain ⟨rfl, rfl⟩ := e2
      rw [up_same, if_pos ⟨rfl, rfl⟩]
      omega
    · rw [up_ne (by omega), if_neg e2, hA x' y' z1 z2 z3 z4]
      omega
theorem c_within (hl : l.stackTraces = false) (d : Nat) (hd : 0 < d) {p s r : Int} (hs : 1 ≤ s) : Cn l G yX7_within cX7_within 3 (some .int) d 0 [aI p, aI s, aI r] γ μ (PI (if r = 0 then (if 0 ≤ p ∧ p < s then p else -1) else p % s) γ μ) := by
  refine Cn.ofP hl (plainFor_of_name (by decide)) (noLc nlI (noLc nlI (noL1 nlI))) rfl (fun P hP o1 o3 X hX hC => B_X7_within_0 hC ?_)
  refine ⟨fun h => ⟨fun h1 => ⟨Nat.le_refl _, hP _ _ _ ⟨by rw [if_pos h, if_neg (by omega)], rfl, rfl⟩⟩, fun h1 => ⟨fun h2 => ⟨Nat.le_refl _, hP _ _ _ ⟨by rw [if_pos h, if_neg (by omega)], rfl, rfl⟩⟩, fun h2 => ⟨Nat.le_refl _, hP _ _ _ ⟨by rw [if_pos h, if_pos (by omega)], rfl, rfl⟩⟩⟩⟩, fun h => ⟨fun h1 => absurd h1 (by omega), fun h1 => ?_⟩⟩
  refine ⟨0, 0, _, hd, Nat.le_refl _, hX ▸ c_floorMod hl 0 (by omega), PI.use ?_⟩
  exact B_X7_within_13 hC ⟨Nat.le_refl _, hP _ _ _ ⟨by rw [if_neg h], rfl, rfl⟩⟩
end CWir
