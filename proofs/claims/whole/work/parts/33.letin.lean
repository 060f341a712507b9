/-! Span: one vector let in -/
theorem ffr_range (f : Int → Int) : ∀ (n : Nat) (i : Int), (ffr f n i = -1 ∧ ∀ j, i ≤ j → j < i + n → f j = 0) ∨ (i ≤ ffr f n i ∧ ffr f n i < i + n ∧ f (ffr f n i) ≠ 0 ∧ ∀ j, i ≤ j → j < ffr f n i → f j = 0)
  | 0, i => Or.inl ⟨rfl, fun j h1 h2 => by omega⟩
  | n + 1, i => by
    unfold ffr
    split
    · rename_i h0
      rcases ffr_range f n (i + 1) with ⟨h1, h2⟩ | ⟨h1, h2, h3, h4⟩
      · refine Or.inl ⟨h1, fun j q1 q2 => ?_⟩
        by_cases e : j = i
        · rw [e]; exact h0
        · exact h2 j (by omega) (by omega)
      · refine Or.inr ⟨by omega, by omega, h3, fun j q1 q2 => ?_⟩
        by_cases e : j = i
        · rw [e]; exact h0
        · exact h4 j (by omega) q2
    · rename_i h0
      exact Or.inr ⟨Int.le_refl _, by omega, h0, fun j q1 q2 => by omega⟩
theorem ff_range {f : Int → Int} {n : Int} (hn : 0 ≤ n) : (ff f n = -1 ∧ ∀ j, 0 ≤ j → j < n → f j = 0) ∨ (0 ≤ ff f n ∧ ff f n < n ∧ f (ff f n) ≠ 0 ∧ ∀ j, 0 ≤ j → j < ff f n → f j = 0) := by
  rcases ffr_range f n.toNat 0 with ⟨h1, h2⟩ | ⟨h1, h2, h3, h4⟩
  · exact Or.inl ⟨h1, fun j q1 q2 => h2 j q1 (by omega)⟩
  · exact Or.inr ⟨h1, by show ffr f n.toNat 0 < n; omega, h3, h4⟩
theorem ffr_cong {f g : Int → Int} : ∀ (n : Nat) (i : Int), (∀ j, i ≤ j → j < i + n → f j = g j) → ffr f n i = ffr g n i
  | 0, _, _ => rfl
  | n + 1, i, h => by
    unfold ffr
    rw [h i (Int.le_refl _) (by omega), ffr_cong n (i + 1) (fun j q1 q2 => h j (by omega) (by omega))]
theorem ff_cong {f g : Int → Int} {n : Int} (h : ∀ j, 0 ≤ j → j < n → f j = g j) : ff f n = ff g n := ffr_cong _ _ (fun j q1 q2 => h j q1 (by omega))
/-- a vector f, with its making h, less the own ones so that it is 0 at their pivots -/
def gv (q : Int) (op : Int → Int) (ov om : Int → Int → Int) : Nat → (Int → Int) → (Int → Int) → (Int → Int) × (Int → Int)
  | 0, f, h => (f, h)
  | i + 1, f, h => if (gv q op ov om i f h).1 (op i) = 0 then gv q op ov om i f h else (fun j => ((gv q op ov om i f h).1 j + (q - (gv q op ov om i f h).1 (op i)) * ov i j) % q, fun j => ((gv q op ov om i f h).2 j + (q - (gv q op ov om i f h).1 (op i)) * om i j) % q)
/-- numbers of 0 .. q - 1 at the first n places -/
def inQ (n q : Int) (f : Int → Int) : Prop := ∀ j, 0 ≤ j → j < n → 0 ≤ f j ∧ f j < q
theorem gv_in {n q : Int} {op : Int → Int} {ov om : Int → Int → Int} (hq : 0 < q) {f h : Int → Int} (hf : inQ n q f) (hh : inQ n q h) : ∀ i : Nat, inQ n q (gv q op ov om i f h).1 ∧ inQ n q (gv q op ov om i f h).2
  | 0 => ⟨hf, hh⟩
  | i + 1 => by
    unfold gv
    split
    · exact gv_in hq hf hh i
    · exact ⟨fun j _ _ => ⟨Int.emod_nonneg _ (by omega), Int.emod_lt_of_pos _ hq⟩, fun j _ _ => ⟨Int.emod_nonneg _ (by omega), Int.emod_lt_of_pos _ hq⟩⟩
/-- the span at a holds c own ones: their numbers, pivots, rows and makings -/
def SpRep (μ : Mu) (a n q c : Int) (od op : Int → Int) (ov om : Int → Int → Int) : Prop :=
  μ a 5 = c ∧ μ a 7 = n ∧ μ a 8 = q ∧ ∀ i, 0 ≤ i → i < c → μ (a + 76) i = od i ∧ (0 ≤ od i ∧ od i < 36) ∧ μ (a + 38) (od i) = op i ∧ (0 ≤ op i ∧ op i < n) ∧ (∀ j, 0 ≤ j → j < n → μ (a + 2 + od i) j = ov i j) ∧ inQ n q (ov i) ∧ (∀ j, 0 ≤ j → j < n → μ (a + 40 + od i) j = om i j) ∧ inQ n q (om i)
/-- 1 at one place, else 0 -/
def unitV (k : Int) : Int → Int := fun j => if j = k then 1 else 0
theorem unitV_in {n q k : Int} (hq : 2 ≤ q) : inQ n q (unitV k) := fun j _ _ => by
  unfold unitV
  split <;> omega
/-- the memory behind it: rows F and H as the reduction left them -/
def admM0 (μ : Mu) (a id v : Int) : Mu := up (row (cpy μ v 0 (a + 2 + id) 0 36) (a + 40 + id) 36 (fun _ => 0)) (a + 40 + id) id 1
def admM1 (μ : Mu) (a id v n : Int) (F H : Int → Int) : Mu := row (row (admM0 μ a id v) (a + 2 + id) n F) (a + 40 + id) n H
def admM (μ : Mu) (a id v n q : Int) (F H : Int → Int) : Mu :=
  if ff F n = -1 then up (up (up (admM1 μ a id v n F H) (a + 38) id (-1)) (a + 77) (μ a 6) id) a 6 (μ a 6 + 1)
  else row (row (up (up (up (admM1 μ a id v n F H) (a + 38) id (ff F n)) (a + 76) (μ a 5) id) a 5 (μ a 5 + 1)) (a + 2 + id) n (fun j => (F j * invQ (F (ff F n)) q) % q)) (a + 40 + id) n (fun j => (H j * invQ (F (ff F n)) q) % q)
theorem row_same {μ : Mu} {a n : Int} {f : Int → Int} (h : ∀ j, 0 ≤ j → j < n → μ a j = f j) : row μ a n f = μ := by
  funext c j
  by_cases q : c = a ∧ 0 ≤ j ∧ j < n
  · obtain ⟨rfl, q⟩ := q
    rw [row_in q, h j q.1 q.2]
  · rw [row_out q]
section Admit
variable {l : Launch} {G : Gx} {γ μ : Mu}
theorem admM0_off {a id v b j : Int} (h1 : b ≠ a + 2 + id) (h2 : b ≠ a + 40 + id) : admM0 μ a id v b j = μ b j := by
  unfold admM0
  rw [up_offA h2, row_off h2, cpy_off h1]
theorem admM1_off {a id v n b j : Int} {F H : Int → Int} (h1 : b ≠ a + 2 + id) (h2 : b ≠ a + 40 + id) : admM1 μ a id v n F H b j = μ b j := by
  unfold admM1
  rw [row_off h2, row_off h1, admM0_off h1 h2]
theorem admM1_R {a id v n j : Int} {F H : Int → Int} (h : 0 ≤ j ∧ j < n) : admM1 μ a id v n F H (a + 2 + id) j = F j := by
  unfold admM1
  rw [row_off (by omega), row_in h]
theorem admM1_M {a id v n j : Int} {F H : Int → Int} (h : 0 ≤ j ∧ j < n) : admM1 μ a id v n F H (a + 40 + id) j = H j := by
  unfold admM1
  rw [row_in h]
set_option maxHeartbeats 4000000 in
theorem c_admit (hl : l.stackTraces = false) (d : Nat) (hd : 2 < d) {a id v n q c : Int} {od op : Int → Int} {ov om : Int → Int → Int} (ha : SpanAt G γ a) (hv : shO G v 11 36) (hvo : v < a ∨ a + 78 ≤ v) (hid : 0 ≤ id ∧ id < 36) (hn : 0 ≤ n ∧ n ≤ 36) (hq : 2 ≤ q ∧ q ≤ 5) (hc : 0 ≤ c ∧ c < 36) (hr : SpRep μ a n q c od op ov om) (hnew : ∀ i, 0 ≤ i → i < c → od i ≠ id) (ht : 0 ≤ μ a 6 ∧ μ a 6 < 36) (hvq : inQ n q (μ v)) :
    Cn l G yX5_admit cX5_admit 6 none d 0 [aR a, aI id, aR v] γ μ (PV γ (admM μ a id v n q (gv q op ov om c.toNat (μ v) (unitV id)).1 (gv q op ov om c.toNat (μ v) (unitV id)).2)) := by
  refine Cn.of2 hl (plainFor_of_name (by decide)) (noLc nlR (noLc nlI (noL1 nlR))) rfl (fun o1 o3 X hX hC => B_X5_admit_0 hC ha.1 ?_)
  have ha0 := ha
  obtain ⟨s0, g0, s1, g1, s38, g2, s39, g3, s76, g4, s77, hrr⟩ := ha0
  obtain ⟨⟨r1, r2⟩, r3, r4⟩ := hrr id hid.1 hid.2
  obtain ⟨e5, e7, e8, hro⟩ := hr
  rw [g0, g2, r1, r3]
  refine ⟨ixO s1 (by omega), ⟨hv.1, hv.2.1, by rw [hv.2.2], r2.1, r2.2.1, by rw [r2.2.2], by omega, by omega, by omega, by rw [shLen hv]; omega, by rw [shLen r2]; omega⟩, by omega, ixO s39 (by omega), 0, 0, _, by omega, Nat.le_refl _, hX ▸ c_fill hl 0 (lnO r4 (by decide)), PV.use ?_⟩
  rw [shLen r4]
  refine B_X5_admit_24 hC ha.1 ?_
  rw [g2, r3]
  refine ⟨ixO s39 (by omega), ixO r4 (by omega), ?_⟩
  show V X G _ 0 35 _ _ γ (admM0 μ a id v)
  generalize hfin : admM μ a id v n q (gv q op ov om c.toNat (μ v) (unitV id)).1 (gv q op ov om c.toNat (μ v) (unitV id)).2 = mfin
  have e0 : admM1 μ a id v n (gv q op ov om 0 (μ v) (unitV id)).1 (gv q op ov om 0 (μ v) (unitV id)).2 = admM0 μ a id v := by
    unfold admM1 gv
    rw [row_same (μ := admM0 μ a id v) (a := a + 2 + id)]
    · apply row_same
      intro j h1 h2
      unfold admM0 unitV
      by_cases e : j = id
      · rw [e, up_same]
        exact (if_pos rfl).symm
      · rw [up_ne (fun w => e w.2), row_in (by omega)]
        exact (if_neg e).symm
    · intro j h1 h2
      unfold admM0
      rw [up_offA (by omega), row_off (by omega)]
      unfold cpy
      rw [if_pos ⟨rfl, by omega, by omega⟩]
      congr 1
      omega
  have loop : ∀ (k : Nat) (i : Nat), c - i = k → V X G (Qm X G 0 (PV γ mfin)) 0 35 [aR a, aI id, aD, aI i, aD, aD] [] γ (admM1 μ a id v n (gv q op ov om i (μ v) (unitV id)).1 (gv q op ov om i (μ v) (unitV id)).2) := by
    intro k
    induction k with
    | zero =>
      intro i hk
      have ei : c.toNat = i := by omega
      rw [ei] at hfin
      have hgi := gv_in (op := op) (ov := ov) (om := om) (show 0 < q by omega) hvq (unitV_in (k := id) hq.1) i
      generalize (gv q op ov om i (μ v) (unitV id)).1 = F at hfin hgi ⊢
      generalize (gv q op ov om i (μ v) (unitV id)).2 = H at hfin hgi ⊢
      have f5 : admM1 μ a id v n F H a 5 = c := by rw [admM1_off (by omega) (by omega), e5]
      have f6 : admM1 μ a id v n F H a 6 = μ a 6 := admM1_off (by omega) (by omega)
      have f7 : admM1 μ a id v n F H a 7 = n := by rw [admM1_off (by omega) (by omega), e7]
      have f8 : admM1 μ a id v n F H a 8 = q := by rw [admM1_off (by omega) (by omega), e8]
      refine B_X5_admit_35 hC ha.1 ?_
      rw [f5, g0, r1]
      refine ⟨fun _ => ⟨ixO s1 (by omega), 0, 0, _, by omega, Nat.le_refl _, hX ▸ c_firstUnlike0 hl 0 ha r2 (by rw [f7]; omega), PI.use ?_⟩, fun w => absurd (by omega) w⟩
      rw [f7, ff_cong (f := admM1 μ a id v n F H (a + 2 + id)) (g := F) (fun j h1 h2 => admM1_R ⟨h1, h2⟩)]
      refine B_X5_admit_154 hC ha.1 ?_
      rw [g1, g3, g4, up_same, f5, f6]
      refine ⟨ixO s38 (by omega), ixO s38 (by omega), fun w => ?_, fun w => ?_⟩
      · rcases ff_range (f := F) hn.1 with h9 | ⟨p1, p2, p3, p4⟩
        · exact absurd h9.1 w
        generalize hm3 : up (up (up (admM1 μ a id v n F H) (a + 38) id (ff F n)) (a + 76) c id) a 5 (c + 1) = m3
        have k7 : m3 a 7 = n := by rw [← hm3, up_ne (by omega), up_offA (by omega), up_offA (by omega), f7]
        have k8 : m3 a 8 = q := by rw [← hm3, up_ne (by omega), up_offA (by omega), up_offA (by omega), f8]
        have kp : m3 (a + 38) id = ff F n := by rw [← hm3, up_offA (by omega), up_offA (by omega), up_same]
        have kR : ∀ j, 0 ≤ j → j < n → m3 (a + 2 + id) j = F j := fun j h1 h2 => by rw [← hm3, up_offA (by omega), up_offA (by omega), up_offA (by omega), admM1_R ⟨h1, h2⟩]
        have kM : ∀ j, 0 ≤ j → j < n → m3 (a + 40 + id) j = H j := fun j h1 h2 => by rw [← hm3, up_offA (by omega), up_offA (by omega), up_offA (by omega), admM1_M ⟨h1, h2⟩]
        refine ⟨ixO s76 (by omega), ⟨by omega, by omega⟩, 2, 0, _, by omega, Nat.le_refl _, hX ▸ c_makePivotOne hl 2 (by omega) ha hid k7 k8 kp hn.2 ⟨p1, p2⟩ hq (fun j h1 h2 => by rw [kR j h1 h2]; exact hgi.1 j h1 h2) (fun j h1 h2 => by rw [kM j h1 h2]; exact hgi.2 j h1 h2), PV.use ?_⟩
        refine B_X5_admit_213 hC ⟨Nat.le_refl _, rfl, rfl, ?_⟩
        rw [← hfin]
        unfold admM
        rw [if_neg w, e5, hm3, kR _ p1 p2]
        rw [row_cong (μ := m3) (f := fun j => m3 (a + 2 + id) j * invQ (F (ff F n)) q % q) (g := fun j => F j * invQ (F (ff F n)) q % q) (fun j h1 h2 => by rw [kR j h1 h2])]
        rw [row_cong (f := fun j => m3 (a + 40 + id) j * invQ (F (ff F n)) q % q) (g := fun j => H j * invQ (F (ff F n)) q % q) (fun j h1 h2 => by rw [kM j h1 h2])]
      · refine ⟨ixO s77 (by omega), ⟨by omega, by omega⟩, ?_⟩
        refine B_X5_admit_213 hC ⟨Nat.le_refl _, rfl, rfl, ?_⟩
        rw [← hfin]
        unfold admM
        rw [if_pos w, w]
    | succ k ih =>
      intro i hk
      have hgi := gv_in (op := op) (ov := ov) (om := om) (show 0 < q by omega) hvq (unitV_in (k := id) hq.1) i
      have hstep : gv q op ov om (i + 1) (μ v) (unitV id) = if (gv q op ov om i (μ v) (unitV id)).1 (op i) = 0 then gv q op ov om i (μ v) (unitV id) else (fun j => ((gv q op ov om i (μ v) (unitV id)).1 j + (q - (gv q op ov om i (μ v) (unitV id)).1 (op i)) * ov i j) % q, fun j => ((gv q op ov om i (μ v) (unitV id)).2 j + (q - (gv q op ov om i (μ v) (unitV id)).1 (op i)) * om i j) % q) := rfl
      have hih := ih (i + 1) (by omega)
      rw [hstep] at hih
      generalize gv q op ov om i (μ v) (unitV id) = FH at hgi hih ⊢
      obtain ⟨F, H⟩ := FH
      dsimp only at hgi hih ⊢
      obtain ⟨w1, w2, w3, w4, w5, w6, w7, w8⟩ := hro i (by omega) (by omega)
      have hne : od i ≠ id := hnew i (by omega) (by omega)
      obtain ⟨⟨b1, b2⟩, b3, b4⟩ := hrr (od i) w2.1 w2.2
      have hm0 : admM1 μ a id v n F H = row (row (admM0 μ a id v) (a + 2 + id) n F) (a + 40 + id) n H := rfl
      have f5 : admM1 μ a id v n F H a 5 = c := by rw [admM1_off (by omega) (by omega), e5]
      have f7 : admM1 μ a id v n F H a 7 = n := by rw [admM1_off (by omega) (by omega), e7]
      have f8 : admM1 μ a id v n F H a 8 = q := by rw [admM1_off (by omega) (by omega), e8]
      have k76 : admM1 μ a id v n F H (a + 76) i = od i := by rw [admM1_off (by omega) (by omega), w1]
      have k38 : admM1 μ a id v n F H (a + 38) (od i) = op i := by rw [admM1_off (by omega) (by omega), w3]
      have kp : admM1 μ a id v n F H (a + 2 + id) (op i) = F (op i) := admM1_R w4
      have kB : ∀ j, 0 ≤ j → j < n → admM1 μ a id v n F H (a + 2 + od i) j = ov i j := fun j h1 h2 => by rw [admM1_off (by omega) (by omega), w5 j h1 h2]
      have kB2 : ∀ j, 0 ≤ j → j < n → admM1 μ a id v n F H (a + 40 + od i) j = om i j := fun j h1 h2 => by rw [admM1_off (by omega) (by omega), w7 j h1 h2]
      have hFp := hgi.1 (op i) w4.1 w4.2
      generalize hm : admM1 μ a id v n F H = m at *
      refine B_X5_admit_35 hC ha.1 ?_
      rw [f5, g0, r1, g3, k76, g1, k38, f8, f7, kp, b1]
      refine ⟨fun w => absurd w (by omega), fun w => ⟨ixO s76 (by omega), ixO s1 (by omega), ixO s38 (by omega), ixO r2 (by omega), ⟨by omega, by omega⟩, fun w0 => ?_, fun w0 => ⟨ixO s1 (by omega), 0, 0, _, by omega, Nat.le_refl _, hX ▸ c_addTimes hl 0 (lnO r2 (by decide)) (lnO b2 (by decide)) (by omega) hq ⟨by omega, by omega⟩ ⟨hn.1, by rw [shLen r2]; omega, by rw [shLen b2]; omega⟩ (fun j h1 h2 => by rw [← hm, admM1_R ⟨h1, h2⟩]; exact hgi.1 j h1 h2) (fun j h1 h2 => by rw [kB j h1 h2]; exact w6 j h1 h2), PV.use ?_⟩⟩⟩
      · refine B_X5_admit_133 hC ha.1 ⟨⟨by omega, by omega⟩, ?_⟩
        rw [if_pos (show F (op i) = 0 by omega)] at hih
        dsimp only at hih
        rw [hm] at hih
        exact hih
      · have c1 : row m (a + 2 + id) n (fun j => (m (a + 2 + id) j + (q - F (op i)) * m (a + 2 + od i) j) % q) = row m (a + 2 + id) n (fun j => (F j + (q - F (op i)) * ov i j) % q) := row_cong (fun j h1 h2 => by rw [kB j h1 h2, ← hm, admM1_R ⟨h1, h2⟩])
        rw [c1]
        generalize hm' : row m (a + 2 + id) n (fun j => (F j + (q - F (op i)) * ov i j) % q) = m'
        have k8 : m' a 8 = q := by rw [← hm', row_off (by omega), f8]
        have k7 : m' a 7 = n := by rw [← hm', row_off (by omega), f7]
        have kM : ∀ j, 0 ≤ j → j < n → m' (a + 40 + id) j = H j := fun j h1 h2 => by rw [← hm', row_off (by omega), ← hm, admM1_M ⟨h1, h2⟩]
        have kB3 : ∀ j, 0 ≤ j → j < n → m' (a + 40 + od i) j = om i j := fun j h1 h2 => by rw [← hm', row_off (by omega), kB2 j h1 h2]
        refine B_X5_admit_107 hC ha.1 ?_
        rw [g2, r3, b3, k8, k7]
        refine ⟨ixO s39 (by omega), ixO s39 (by omega), 0, 0, _, by omega, Nat.le_refl _, hX ▸ c_addTimes hl 0 (lnO r4 (by decide)) (lnO b4 (by decide)) (by omega) hq ⟨by omega, by omega⟩ ⟨hn.1, by rw [shLen r4]; omega, by rw [shLen b4]; omega⟩ (fun j h1 h2 => by rw [kM j h1 h2]; exact hgi.2 j h1 h2) (fun j h1 h2 => by rw [kB3 j h1 h2]; exact w8 j h1 h2), PV.use ?_⟩
        have c2 : row m' (a + 40 + id) n (fun j => (m' (a + 40 + id) j + (q - F (op i)) * m' (a + 40 + od i) j) % q) = row m' (a + 40 + id) n (fun j => (H j + (q - F (op i)) * om i j) % q) := row_cong (fun j h1 h2 => by rw [kM j h1 h2, kB3 j h1 h2])
        rw [c2]
        refine B_X5_admit_133 hC ha.1 ⟨⟨by omega, by omega⟩, ?_⟩
        rw [if_neg (show ¬ F (op i) = 0 by omega)] at hih
        dsimp only at hih
        have c3 : row m' (a + 40 + id) n (fun j => (H j + (q - F (op i)) * om i j) % q) = admM1 μ a id v n (fun j => (F j + (q - F (op i)) * ov i j) % q) (fun j => (H j + (q - F (op i)) * om i j) % q) := by
          rw [← hm', ← hm]
          unfold admM1
          rw [row_comm (a := a + 40 + id) (b := a + 2 + id) (by omega), row_row, row_row]
        rw [c3]
        exact hih
  have h := loop c.toNat 0 (by omega)
  rw [e0] at h
  exact h
end Admit
