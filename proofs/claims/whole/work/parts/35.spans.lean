/-! buttonSpan, lateSpan, lampSpan: the whole runs -/
theorem gStep_all {q n id : Int} {S : GS} {f : Int → Int} {P : Int → Prop} (h1 : ∀ i : Int, 0 ≤ i → i < S.c → P (S.od i)) (h2 : ∀ i : Int, 0 ≤ i → i < S.tc → P (S.td i)) (h3 : P id) :
    (∀ i : Int, 0 ≤ i → i < (gStep q n S id f).c → P ((gStep q n S id f).od i)) ∧ (∀ i : Int, 0 ≤ i → i < (gStep q n S id f).tc → P ((gStep q n S id f).td i)) ∧ (gStep q n S id f).c + (gStep q n S id f).tc = S.c + S.tc + 1 := by
  unfold gStep
  split
  · refine ⟨h1, fun i q1 q2 => ?_, by show S.c + (S.tc + 1) = _; omega⟩
    have q2' : i < S.tc + 1 := q2
    show P (fup S.td S.tc id i)
    by_cases e : i = S.tc
    · rw [e, fup_s]; exact h3
    · rw [fup_n e]; exact h2 i q1 (by omega)
  · refine ⟨fun i q1 q2 => ?_, h2, by show S.c + 1 + S.tc = _; omega⟩
    have q2' : i < S.c + 1 := q2
    show P (fup S.od S.c id i)
    by_cases e : i = S.c
    · rw [e, fup_s]; exact h3
    · rw [fup_n e]; exact h1 i q1 (by omega)
theorem gRun_ids (q n : Int) (jm : Int → Int) (vec : Int → Int → Int) : ∀ k : Nat, (∀ i : Int, 0 ≤ i → i < (gRun q n jm vec k).c → 0 ≤ (gRun q n jm vec k).od i ∧ (gRun q n jm vec k).od i < k) ∧ (∀ i : Int, 0 ≤ i → i < (gRun q n jm vec k).tc → 0 ≤ (gRun q n jm vec k).td i ∧ (gRun q n jm vec k).td i < k) ∧ (gRun q n jm vec k).c + (gRun q n jm vec k).tc ≤ k
  | 0 => ⟨fun i h1 h2 => absurd h2 (by show ¬ i < ((0 : Nat) : Int); omega), fun i h1 h2 => absurd h2 (by show ¬ i < ((0 : Nat) : Int); omega), Nat.le_refl _⟩
  | k + 1 => by
    obtain ⟨h1, h2, h3⟩ := gRun_ids q n jm vec k
    unfold gRun
    split
    · obtain ⟨a1, a2, a3⟩ := gStep_all (q := q) (n := n) (id := k) (S := gRun q n jm vec k) (f := vec k) (P := fun z => 0 ≤ z ∧ z < (k + 1 : Nat)) (fun i q1 q2 => by have := h1 i q1 q2; omega) (fun i q1 q2 => by have := h2 i q1 q2; omega) (by omega)
      exact ⟨a1, a2, by omega⟩
    · exact ⟨fun i q1 q2 => by have := h1 i q1 q2; omega, fun i q1 q2 => by have := h2 i q1 q2; omega, by omega⟩
theorem gRunD_ids (q n : Int) (jm : Int → Int) (vec : Int → Int → Int) : ∀ k : Nat, (∀ i : Int, 0 ≤ i → i < (gRunD q n jm vec k).c → n - k ≤ (gRunD q n jm vec k).od i ∧ (gRunD q n jm vec k).od i < n) ∧ (∀ i : Int, 0 ≤ i → i < (gRunD q n jm vec k).tc → n - k ≤ (gRunD q n jm vec k).td i ∧ (gRunD q n jm vec k).td i < n) ∧ (gRunD q n jm vec k).c + (gRunD q n jm vec k).tc ≤ k
  | 0 => ⟨fun i h1 h2 => absurd h2 (by show ¬ i < ((0 : Nat) : Int); omega), fun i h1 h2 => absurd h2 (by show ¬ i < ((0 : Nat) : Int); omega), Nat.le_refl _⟩
  | k + 1 => by
    obtain ⟨h1, h2, h3⟩ := gRunD_ids q n jm vec k
    unfold gRunD
    split
    · obtain ⟨a1, a2, a3⟩ := gStep_all (q := q) (n := n) (id := n - 1 - k) (S := gRunD q n jm vec k) (f := vec (n - 1 - k)) (P := fun z => n - (k + 1 : Nat) ≤ z ∧ z < n) (fun i q1 q2 => by have := h1 i q1 q2; omega) (fun i q1 q2 => by have := h2 i q1 q2; omega) (by omega)
      exact ⟨a1, a2, by omega⟩
    · exact ⟨fun i q1 q2 => by have := h1 i q1 q2; omega, fun i q1 q2 => by have := h2 i q1 q2; omega, by omega⟩
/-- the wiring at w holds n lamps, q colours, the amounts A, the jams jm -/
def WirD (μ : Mu) (w n q : Int) (A : Int → Int → Int) (jm : Int → Int) : Prop := μ w 0 = n ∧ μ w 1 = q ∧ (0 ≤ n ∧ n ≤ 36) ∧ (2 ≤ q ∧ q ≤ 5) ∧ (∀ b, 0 ≤ b → b < n → (∀ j, 0 ≤ j → j < n → μ (w + 2 + b) j = A b j) ∧ inQ n q (A b)) ∧ ∀ b, 0 ≤ b → b < n → μ (w + 38) b = jm b
/-- nothing changed but in the cells lo .. hi - 1 -/
def frB (μ μ' : Mu) (lo hi : Int) : Prop := ∀ b j, (b < lo ∨ hi ≤ b) → μ' b j = μ b j
theorem WirD.fr {μ μ' : Mu} {w n q lo hi : Int} {A : Int → Int → Int} {jm : Int → Int} (h : WirD μ w n q A jm) (hf : frB μ μ' lo hi) (hw : w + 77 ≤ lo ∨ hi ≤ w) : WirD μ' w n q A jm := by
  obtain ⟨h1, h2, h3, h4, h5, h6⟩ := h
  refine ⟨by rw [hf _ _ (by omega)]; exact h1, by rw [hf _ _ (by omega)]; exact h2, h3, h4, fun b q1 q2 => ⟨fun j q3 q4 => by rw [hf _ _ (by omega)]; exact (h5 b q1 q2).1 j q3 q4, (h5 b q1 q2).2⟩, fun b q1 q2 => by rw [hf _ _ (by omega)]; exact h6 b q1 q2⟩
theorem SpS.fr {μ μ' : Mu} {a n q : Int} {S : GS} (hS : SpS μ a n q S) (h : ∀ b j, a ≤ b → b < a + 78 → μ' b j = μ b j) : SpS μ' a n q S := by
  obtain ⟨⟨a1, a2, a3, a4⟩, a5, a6⟩ := hS
  refine ⟨⟨by rw [h _ _ (by omega) (by omega)]; exact a1, by rw [h _ _ (by omega) (by omega)]; exact a2, by rw [h _ _ (by omega) (by omega)]; exact a3, fun i' q1 q2 => ?_⟩, by rw [h _ _ (by omega) (by omega)]; exact a5, fun i' q1 q2 => ?_⟩
  · obtain ⟨w1, w2, w3, w4, w5, w6, w7, w8⟩ := a4 i' q1 q2
    exact ⟨by rw [h _ _ (by omega) (by omega)]; exact w1, w2, by rw [h _ _ (by omega) (by omega)]; exact w3, w4, fun j q3 q4 => by rw [h _ _ (by omega) (by omega)]; exact w5 j q3 q4, w6, fun j q3 q4 => by rw [h _ _ (by omega) (by omega)]; exact w7 j q3 q4, w8⟩
  · obtain ⟨w1, w2, w3, w4, w5⟩ := a6 i' q1 q2
    exact ⟨by rw [h _ _ (by omega) (by omega)]; exact w1, w2, by rw [h _ _ (by omega) (by omega)]; exact w3, fun j q3 q4 => by rw [h _ _ (by omega) (by omega)]; exact w4 j q3 q4, w5⟩
theorem SpS_0 {μ : Mu} {a n q : Int} (h5 : μ a 5 = 0) (h6 : μ a 6 = 0) (h7 : μ a 7 = n) (h8 : μ a 8 = q) : SpS μ a n q gs0 :=
  ⟨⟨h5, h7, h8, fun i q1 q2 => absurd q2 (by show ¬ i < ((0 : Nat) : Int); omega)⟩, h6, fun i q1 q2 => absurd q2 (by show ¬ i < ((0 : Nat) : Int); omega)⟩
theorem Cn.mono {l : Launch} {G : Gx} {y : MethodName} {cc : ByteArray} {nL : Nat} {ret : Option FieldType} {d k : Nat} {as : List AV} {γ μ : Mu} {Po Po' : Option AV → Mu → Mu → Prop} (h : Cn l G y cc nL ret d k as γ μ Po) (hp : ∀ r γ' μ', Po r γ' μ' → Po' r γ' μ') : Cn l G y cc nL ret d k as γ μ Po' := fun ho => by
  refine MetFree.mono (h ho) (fun _ _ q => q) (fun _ _ _ _ _ q => q) (fun a s o t _ q => ?_)
  obtain ⟨⟨⟨r, γ', μ', o1, o2, o3, o4⟩, hF⟩, hL⟩ := q
  exact ⟨⟨⟨r, γ', μ', o1, o2, hp _ _ _ o3, o4⟩, hF⟩, hL⟩
/-- Algebra at g -/
def AlgAt (G : Gx) (γ : Mu) (g : Int) : Prop := shO G g 0 11 ∧ γ g 0 = g + 1 ∧ SpanAt G γ (g + 1) ∧ γ g 1 = g + 79 ∧ SpanAt G γ (g + 79) ∧ γ g 2 = g + 157 ∧ SpanAt G γ (g + 157) ∧ γ g 3 = g + 235 ∧ SpanAt G γ (g + 235) ∧ γ g 8 = g + 313 ∧ shO G (g + 313) 11 64 ∧ γ g 10 = g + 314 ∧ shO G (g + 314) 11 36
section SpanRuns
variable {l : Launch} {G : Gx} {γ μ : Mu}
/-- one step of the run at the machine: one vector let in, where the run's state stands -/
theorem c_admitS (hl : l.stackTraces = false) (d : Nat) (hd : 2 < d) {a id v n q : Int} {S : GS} {f : Int → Int} (ha : SpanAt G γ a) (hv : shO G v 11 36) (hvo : v < a ∨ a + 78 ≤ v) (hid : 0 ≤ id ∧ id < 36) (hn : 0 ≤ n ∧ n ≤ 36) (hq : 2 ≤ q ∧ q ≤ 5) (hS : SpS μ a n q S) (hF : idF S id) (hc : S.c + S.tc < 36) (hf : ∀ j, 0 ≤ j → j < n → μ v j = f j) (hfq : inQ n q f) :
    Cn l G yX5_admit cX5_admit 6 none d 0 [aR a, aI id, aR v] γ μ (fun r γ' μ' => r = none ∧ γ' = γ ∧ SpS μ' a n q (gStep q n S id f) ∧ frB μ μ' a (a + 78)) := by
  have h := c_admit (μ := μ) hl d hd ha hv hvo hid hn hq (c := S.c) (by omega) hS.1 hF.1 (by have := hS.2.1; omega) (fun j q1 q2 => by rw [hf j q1 q2]; exact hfq j q1 q2)
  have e : ((S.c : Int)).toNat = S.c := by omega
  rw [e] at h
  refine Cn.mono h ?_
  rintro r γ' μ' ⟨h1, h2, h3⟩
  refine ⟨h1, h2, ?_, ?_⟩
  · rw [h3]
    exact admit_rep hS hid hn.1 hq.1 hF hf hfq
  · intro b j hb
    rw [h3]
    exact admM_off hid hb
/-- what a span run leaves behind -/
abbrev PS (μ γ : Mu) (g a fl n q : Int) (S : GS) : Option AV → Mu → Mu → Prop := fun r γ' μ' => r = some (aR a) ∧ γ' = γ ∧ SpS μ' a n q S ∧ μ' g fl ≠ 0 ∧ (∀ j, j ≠ fl → μ' g j = μ g j) ∧ ∀ b j, b ≠ g → (b < a ∨ a + 78 ≤ b) → μ' b j = μ b j
theorem c_buttonSpan (hl : l.stackTraces = false) (d : Nat) (hd : 3 < d) {g w n q : Int} {A : Int → Int → Int} {jm : Int → Int} (hg : AlgAt G γ g) (hw : WirAt G γ w) (hwg : w + 77 ≤ g ∨ g + 315 ≤ w) (hD : WirD μ w n q A jm) (hfr : μ g 4 ≠ 0 → SpS μ (g + 1) n q (gRun q n jm A n.toNat)) :
    Cn l G yX0_buttonSpan cX0_buttonSpan 3 (some (.object "LampHall$Span")) d 0 [aR g, aR w] γ μ (PS μ γ g (g + 1) 4 n q (gRun q n jm A n.toNat)) := by
  refine Cn.of2 hl (plainFor_of_name (by decide)) (noLc nlR (noL1 nlR)) rfl (fun o1 o3 X hX hC => B_X0_buttonSpan_0 hC hg.1 ?_)
  obtain ⟨s0, g0, sp0, -⟩ := id hg
  obtain ⟨t0, t5, t1, t6, t38, -, -, -, -, trow⟩ := id hw
  obtain ⟨D0, D1, Dn, Dq, DA, Dj⟩ := id hD
  rw [g0]
  refine ⟨fun h => ⟨Nat.le_refl _, rfl, rfl, hfr h, h, fun _ _ => rfl, fun _ _ _ _ => rfl⟩, fun h => ⟨t0, sp0.1, 0, 0, _, by omega, Nat.le_refl _, hX ▸ c_spBegin hl 0 sp0, PV.use ?_⟩⟩
  rw [D0, D1]
  refine B_X0_buttonSpan_22 hC hg.1 ?_
  generalize hm0 : up (up (up (up μ (g + 1) 7 n) (g + 1) 8 q) (g + 1) 5 0) (g + 1) 6 0 = m0
  have fr0 : frB μ m0 (g + 1) (g + 79) := fun b j hb => by rw [← hm0, up_offA (by omega), up_offA (by omega), up_offA (by omega), up_offA (by omega)]
  have S0 : SpS m0 (g + 1) n q gs0 := SpS_0 (by rw [← hm0, up_ne (by omega), up_same]) (by rw [← hm0, up_same]) (by rw [← hm0, up_ne (by omega), up_ne (by omega), up_ne (by omega), up_same]) (by rw [← hm0, up_ne (by omega), up_ne (by omega), up_same])
  have loop : ∀ (k : Nat) (i : Nat) (m : Mu), n - i = k → frB μ m (g + 1) (g + 79) → SpS m (g + 1) n q (gRun q n jm A i) → V X G (Qm X G 0 (PS μ γ g (g + 1) 4 n q (gRun q n jm A n.toNat))) 0 24 [aR g, aR w, aI i] [] γ m := by
    intro k
    induction k with
    | zero =>
      intro i m hk hf hS
      have e : n.toNat = i := by omega
      have k0 : m w 0 = n := by rw [hf _ _ (by omega)]; exact D0
      refine B_X0_buttonSpan_24 hC hg.1 ⟨t0, ?_⟩
      rw [k0, g0]
      refine ⟨fun _ => ⟨Nat.le_refl _, rfl, rfl, ?_, ?_, fun j hj => ?_, fun b j h1 h2 => ?_⟩, fun z => absurd (by omega) z⟩
      · rw [e]
        exact hS.fr (fun b j _ _ => up_offA (by omega))
      · rw [up_same]; decide
      · rw [up_ne (fun z => hj z.2)]; exact hf _ _ (by omega)
      · rw [up_offA h1]; exact hf _ _ (by omega)
    | succ k ih =>
      intro i m hk hf hS
      have k0 : m w 0 = n := by rw [hf _ _ (by omega)]; exact D0
      have kj : m (w + 38) i = jm i := by rw [hf _ _ (by omega)]; exact Dj i (by omega) (by omega)
      obtain ⟨⟨b1, b2⟩, -⟩ := trow i (by omega) (by omega)
      obtain ⟨i1, i2, i3⟩ := gRun_ids q n jm A i
      refine B_X0_buttonSpan_24 hC hg.1 ⟨t0, ?_⟩
      rw [k0, t6, t5, kj, g0, b1]
      refine ⟨fun z => absurd z (by omega), fun z => ⟨ixO t38 (by omega), fun zj => ?_, fun zj => ⟨ixO t1 (by omega), sp0.1, 3, 0, _, by omega, Nat.le_refl _, hX ▸ c_admitS hl 3 (by omega) sp0 b2 (by omega) (by omega) Dn Dq hS ⟨fun i' q1 q2 => by have := i1 i' q1 q2; omega, fun i' q1 q2 => by have := i2 i' q1 q2; omega⟩ (by omega) (f := A i) (fun j q1 q2 => by rw [hf _ _ (by omega)]; exact (DA i (by omega) (by omega)).1 j q1 q2) (DA i (by omega) (by omega)).2, ?_⟩⟩⟩
      · refine B_X0_buttonSpan_55 hC hg.1 ⟨⟨by omega, by omega⟩, ih (i + 1) m (by omega) hf ?_⟩
        rw [gRun, if_neg zj]
        exact hS
      · rintro r γ' μ' ⟨h1, h2, h3, h4⟩
        rw [h1, h2]
        refine B_X0_buttonSpan_55 hC hg.1 ⟨⟨by omega, by omega⟩, ih (i + 1) μ' (by omega) (fun b j hb => by rw [h4 b j (by omega)]; exact hf b j hb) ?_⟩
        rw [gRun, if_pos zj]
        exact h3
  exact loop n.toNat 0 m0 (by omega) fr0 S0
theorem c_lateSpan (hl : l.stackTraces = false) (d : Nat) (hd : 3 < d) {g w n q : Int} {A : Int → Int → Int} {jm : Int → Int} (hg : AlgAt G γ g) (hw : WirAt G γ w) (hwg : w + 77 ≤ g ∨ g + 315 ≤ w) (hD : WirD μ w n q A jm) (hfr : μ g 6 ≠ 0 → SpS μ (g + 157) n q (gRunD q n jm A n.toNat)) :
    Cn l G yX0_lateSpan cX0_lateSpan 3 (some (.object "LampHall$Span")) d 0 [aR g, aR w] γ μ (PS μ γ g (g + 157) 6 n q (gRunD q n jm A n.toNat)) := by
  refine Cn.of2 hl (plainFor_of_name (by decide)) (noLc nlR (noL1 nlR)) rfl (fun o1 o3 X hX hC => B_X0_lateSpan_0 hC hg.1 ?_)
  obtain ⟨s0, -, -, -, -, g0, sp0, -⟩ := id hg
  obtain ⟨t0, t5, t1, t6, t38, -, -, -, -, trow⟩ := id hw
  obtain ⟨D0, D1, Dn, Dq, DA, Dj⟩ := id hD
  rw [g0]
  refine ⟨fun h => ⟨Nat.le_refl _, rfl, rfl, hfr h, h, fun _ _ => rfl, fun _ _ _ _ => rfl⟩, fun h => ⟨t0, sp0.1, 0, 0, _, by omega, Nat.le_refl _, hX ▸ c_spBegin hl 0 sp0, PV.use ?_⟩⟩
  rw [D0, D1]
  generalize hm0 : up (up (up (up μ (g + 157) 7 n) (g + 157) 8 q) (g + 157) 5 0) (g + 157) 6 0 = m0
  have fr0 : frB μ m0 (g + 157) (g + 235) := fun b j hb => by rw [← hm0, up_offA (by omega), up_offA (by omega), up_offA (by omega), up_offA (by omega)]
  have S0 : SpS m0 (g + 157) n q gs0 := SpS_0 (by rw [← hm0, up_ne (by omega), up_same]) (by rw [← hm0, up_same]) (by rw [← hm0, up_ne (by omega), up_ne (by omega), up_ne (by omega), up_same]) (by rw [← hm0, up_ne (by omega), up_ne (by omega), up_same])
  have loop : ∀ (k : Nat) (i : Nat) (m : Mu), n - i = k → frB μ m (g + 157) (g + 235) → SpS m (g + 157) n q (gRunD q n jm A i) → V X G (Qm X G 0 (PS μ γ g (g + 157) 6 n q (gRunD q n jm A n.toNat))) 0 29 [aR g, aR w, aI (n - 1 - i)] [] γ m := by
    intro k
    induction k with
    | zero =>
      intro i m hk hf hS
      have e : n.toNat = i := by omega
      refine B_X0_lateSpan_29 hC hg.1 ?_
      rw [g0]
      refine ⟨fun _ => ⟨Nat.le_refl _, rfl, rfl, ?_, ?_, fun j hj => ?_, fun b j h1 h2 => ?_⟩, fun z => absurd (by omega) z⟩
      · rw [e]
        exact hS.fr (fun b j _ _ => up_offA (by omega))
      · rw [up_same]; decide
      · rw [up_ne (fun z => hj z.2)]; exact hf _ _ (by omega)
      · rw [up_offA h1]; exact hf _ _ (by omega)
    | succ k ih =>
      intro i m hk hf hS
      have kj : m (w + 38) (n - 1 - i) = jm (n - 1 - i) := by rw [hf _ _ (by omega)]; exact Dj _ (by omega) (by omega)
      obtain ⟨⟨b1, b2⟩, -⟩ := trow (n - 1 - i) (by omega) (by omega)
      obtain ⟨i1, i2, i3⟩ := gRunD_ids q n jm A i
      refine B_X0_lateSpan_29 hC hg.1 ?_
      rw [t6, t5, kj, g0, b1]
      refine ⟨fun z => absurd z (by omega), fun z => ⟨t0, ixO t38 (by omega), fun zj => ?_, fun zj => ⟨ixO t1 (by omega), sp0.1, 3, 0, _, by omega, Nat.le_refl _, hX ▸ c_admitS hl 3 (by omega) sp0 b2 (by omega) (by omega) Dn Dq hS ⟨fun i' q1 q2 => by have := i1 i' q1 q2; omega, fun i' q1 q2 => by have := i2 i' q1 q2; omega⟩ (by omega) (f := A (n - 1 - i)) (fun j q1 q2 => by rw [hf _ _ (by omega)]; exact (DA _ (by omega) (by omega)).1 j q1 q2) (DA _ (by omega) (by omega)).2, ?_⟩⟩⟩
      · refine B_X0_lateSpan_56 hC hg.1 ⟨⟨by omega, by omega⟩, ?_⟩
        rw [show n - 1 - (i : Int) + (-1) = n - 1 - ((i + 1 : Nat) : Int) by omega]
        refine ih (i + 1) m (by omega) hf ?_
        rw [gRunD, if_neg zj]
        exact hS
      · rintro r γ' μ' ⟨h1, h2, h3, h4⟩
        rw [h1, h2]
        refine B_X0_lateSpan_56 hC hg.1 ⟨⟨by omega, by omega⟩, ?_⟩
        rw [show n - 1 - (i : Int) + (-1) = n - 1 - ((i + 1 : Nat) : Int) by omega]
        refine ih (i + 1) μ' (by omega) (fun b j hb => by rw [h4 b j (by omega)]; exact hf b j hb) ?_
        rw [gRunD, if_pos zj]
        exact h3
  refine B_X0_lateSpan_22 hC hg.1 ⟨t0, ?_⟩
  have k0 : m0 w 0 = n := by rw [fr0 _ _ (by omega)]; exact D0
  rw [k0]
  refine ⟨⟨by omega, by omega⟩, ?_⟩
  have h9 := loop n.toNat 0 m0 (by omega) fr0 S0
  rw [show n - 1 - ((0 : Nat) : Int) = n - 1 by omega] at h9
  exact h9
end SpanRuns
