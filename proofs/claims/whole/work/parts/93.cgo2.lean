/-! the class: Walk goes, level by level -/
section CGo2
variable {l : Launch} {G : Gx} {γ μ σ : Mu}
theorem c_expand (hl : l.stackTraces = false) (d : Nat) (hd : 0 < d) {u tg v lev : Int} {K N : Nat} {nm : Int → Int} {nx : Int → Int → Int} {Z : XF} (hu : WalkAt G γ u) (hS : WkS μ u K nm N nx) (hZ : WkR μ u tg Z) (hB : BInv N Z.w) (hf : fOk Z) (hN : N ≤ 20000) (hv : 0 ≤ v ∧ v < N) (hvis : Z.w.way v ≠ -1) (hlev : 0 ≤ lev ∧ lev < Z.w.last) (hx : ∀ k : Int, 0 ≤ k → k < K → nx v (nm k) = -1 ∨ (0 ≤ nx v (nm k) ∧ nx v (nm k) < N)) : Cn l G yX6_expand cX6_expand 10 none d 0 [aR u, aI v, aI lev] γ μ (fun r γ' μ' => r = none ∧ γ' = γ ∧ WkR μ' u tg (xRwM nx nm v lev (Z.f v) K Z) ∧ ∀ y j, (y = u → j < 13) → y ≠ u + 1 → y ≠ u + 2 → μ' y j = μ y j) := by
  refine Cn.ofP hl (plainFor_of_name (by decide)) (noLc nlR (noLc nlI (noL1 nlI))) rfl (fun P hP o1 o3 X hX hC => B_X6_expand_0 hC hu.o ?_)
  obtain ⟨-, g0, s1, g1, s2, g2, s3, g3, s4, g11, s5⟩ := id hu
  obtain ⟨L, H, ⟨L1, H1, LH⟩, ⟨e4, e8, e9⟩, hroom, hK, hk⟩ := id hS
  have hle := hB.le
  have hfv := hf v
  have m0 := Int.emod_nonneg v (show L ≠ 0 by omega)
  have m1 := Int.emod_lt_of_pos v (show 0 < L by omega)
  have d0 := Int.ediv_nonneg hv.1 (show 0 ≤ L by omega)
  have d1 : v / L < H := Int.ediv_lt_of_lt_mul (by omega) (by rw [Int.mul_comm, LH]; exact hv.2)
  have hLN : L ≤ N := by
    have : L * 1 ≤ L * H := Int.mul_le_mul_of_nonneg_left H1 (by omega)
    omega
  have hHN : H ≤ N := by
    have : 1 * H ≤ L * H := Int.mul_le_mul_of_nonneg_right L1 (by omega)
    omega
  have hb : ∀ k : Int, 0 ≤ k → k < K → 0 ≤ nm k ∧ nm k < 36 := fun k z1 z2 => (hk k z1 z2).1.2
  rw [e8, e9, g0, hZ.2.2.2.2.1 v hv.1 (by omega), if_neg hvis, Int.tmod_eq_emod_of_nonneg hv.1, Int.tdiv_eq_ediv_of_nonneg hv.1, show Z.f v + 2 - 2 = Z.f v by omega]
  refine ⟨fun _ => ⟨by omega, by constructor <;> omega, by constructor <;> omega, ixO s1 (by omega), by constructor <;> omega, ?_⟩, fun z => absurd L1 z⟩
  have loop : ∀ (j k : Nat) (m : Mu), k + j = K → WkR m u tg (xRwM nx nm v lev (Z.f v) k Z) → (∀ y j, (y = u → j < 13) → y ≠ u + 1 → y ≠ u + 2 → m y j = μ y j) → V X G (Qm X G 0 P) 0 53 [aR u, aD, aI lev, aI (v % L), aI (L + v / L), aI (L + H), aI (Z.f v), aI (k : Int), aD, aD] [] γ m := by
    intro j
    induction j with
    | zero =>
      intro k m hkK mZ fm
      obtain rfl : k = K := by omega
      refine B_X6_expand_53 hC hu.o ?_
      rw [fm u 4 (by omega) (by omega) (by omega), e4]
      exact ⟨fun _ => ⟨Nat.le_refl _, hP _ _ _ ⟨rfl, rfl, mZ, fm⟩⟩, fun z => absurd (Int.le_refl _) z⟩
    | succ j ih =>
      intro k m hkK mZ fm
      have hkk : (k : Int) < K := by omega
      obtain ⟨k1, k2⟩ := hk k (by omega) hkk
      have i1 := idx_lt (S := L + H) (k := k) (K := K) (e := v % L) hkk (by omega)
      have i2 := idx_lt (S := L + H) (k := k) (K := K) (e := L + v / L) hkk (by omega)
      have i0 : 0 ≤ (k : Int) * (L + H) := Int.mul_nonneg (by omega) (by omega)
      obtain ⟨a1, a2, a3⟩ := xRwM_inv (N := N) (K := K) (nx := nx) (nm := nm) (v := v) (lev := lev) (fv := Z.f v) hB hf hx hlev hb hfv k (by omega)
      refine B_X6_expand_53 hC hu.o ?_
      rw [fm u 4 (by omega) (by omega) (by omega), e4, g2, g3, fm (u + 3) _ (by omega) (by omega) (by omega), fm (u + 3) _ (by omega) (by omega) (by omega), fm (u + 4) _ (by omega) (by omega) (by omega), k1.1]
      have step : ∀ m2 : Mu, WkR m2 u tg (xRwM nx nm v lev (Z.f v) (k + 1) Z) → (∀ y j, (y = u → j < 13) → y ≠ u + 1 → y ≠ u + 2 → m2 y j = m y j) → V X G (Qm X G 0 P) 0 133 [aR u, aD, aI lev, aI (v % L), aI (L + v / L), aI (L + H), aI (Z.f v), aI (k : Int), aD, aD] [] γ m2 := fun m2 Z2 f2 => by
        have := ih (k + 1) m2 (by omega) Z2 (fun y j z1 z2 z3 => by rw [f2 y j z1 z2 z3]; exact fm y j z1 z2 z3)
        rw [show ((k + 1 : Nat) : Int) = (k : Int) + 1 by omega] at this
        exact B_X6_expand_133 hC hu.o ⟨by constructor <;> omega, this⟩
      have eX : xRwM nx nm v lev (Z.f v) (k + 1) Z = xMv (nx v (nm k)) (nm k) lev (Z.f v) (xRwM nx nm v lev (Z.f v) k Z) := rfl
      have skip : nx v (nm k) = -1 → V X G (Qm X G 0 P) 0 133 [aR u, aD, aI lev, aI (v % L), aI (L + v / L), aI (L + H), aI (Z.f v), aI (k : Int), aD, aD] [] γ m := fun e => step m (by rw [eX]; unfold xMv; rw [if_pos e]; exact mZ) (fun _ _ _ _ _ => rfl)
      have kv := k2 v hv.1 hv.2
      refine ⟨fun z => absurd z (by omega), fun _ => ⟨by constructor <;> omega, by constructor <;> omega, ixO s3 (by omega), by constructor <;> omega, ixO s3 (by omega), fun h => skip ?_, fun h => ⟨fun h2 => skip ?_, fun h2 => ?_⟩⟩⟩
      · rcases kv with w | w
        · exact w.2
        · omega
      · rcases kv with w | w
        · exact w.2
        · omega
      · have w : 0 ≤ nx v (nm k) ∧ nx v (nm k) < N ∧ μ (u + 3) ((k : Int) * (L + H) + v % L) + μ (u + 3) ((k : Int) * (L + H) + (L + v / L)) = nx v (nm k) := by
          rcases kv with ⟨w | w, -⟩ | ⟨w1, w2, w3⟩
          · exact absurd w h
          · exact absurd w h2
          · have := hx k (by omega) hkk
            omega
        rw [w.2.2]
        have go : ∀ fb, fb = (if Z.f v = -1 then nm k else Z.f v) → ∃ d9 k9 P9, d9 < d ∧ 0 + k9 ≤ 0 ∧ Cn X.l G yX6_comeTo cX6_comeTo 4 none d9 k9 [aR u, aI (nx v (nm k)), aI fb, aI (lev + 1)] γ m P9 ∧ ∀ r9 γ9 μ9, P9 r9 γ9 μ9 → V X G (Qm X G 0 P) (0 + k9) 133 [aR u, aD, aI lev, aI (v % L), aI (L + v / L), aI (L + H), aI (Z.f v), aI (k : Int), aD, aD] (r9.toList ++ []) γ9 μ9 := fun fb hfb => by
          refine ⟨0, 0, _, hd, Nat.le_refl _, hX ▸ c_comeTo hl 0 (fb := fb) (lv := lev + 1) hu mZ a2 (by omega) (fun e => by have := a1.room ⟨w.1, w.2.1⟩ e; omega) (by rw [hfb]; split <;> omega) (by omega), ?_⟩
          rintro r γ m2 ⟨rfl, rfl, b1, b2⟩
          refine step m2 ?_ b2
          rw [eX]
          unfold xMv
          rw [if_neg (by omega), ← hfb]
          exact b1
        refine ⟨by constructor <;> omega, fun h3 => ⟨by constructor <;> omega, go _ (by rw [if_neg h3])⟩, fun h3 => ⟨ixO s4 (by omega), by constructor <;> omega, go _ (by rw [if_pos h3])⟩⟩
  exact loop K 0 μ (by omega) hZ (fun _ _ _ _ _ => rfl)
/-- what the walk leaves behind -/
abbrev PGo (μ γ : Mu) (u tg : Int) (nx : Int → Int → Int) (n : Nat) (s : Int) : Option AV → Mu → Mu → Prop := fun r γ' μ' => r = none ∧ γ' = γ ∧ (∃ k : Nat, k < (xRun nx n s k).w.last ∧ (xRun nx n s (k + 1)).w.last = k + 1 ∧ μ' u 13 = (k : Int) + 1 ∧ μ' u 14 = (xRun nx n s (k + 1)).w.way tg ∧ μ' u 15 = (xRun nx n s (k + 1)).f tg ∧ μ' u 12 = (xRun nx n s (k + 1)).w.way ((xRun nx n s (k + 1)).w.que k) ∧ ∀ j, 0 ≤ j → j < 64 → μ' (u + 5) j = lvC (xRun nx n s (k + 1)).w j (k + 1)) ∧ ∀ y j, y ≠ u → y ≠ u + 1 → y ≠ u + 2 → y ≠ u + 5 → μ' y j = μ y j
theorem xRun_fOk {nx : Int → Int → Int} {n N : Nat} {s : Int} (hs : 0 ≤ s ∧ s < N) (hx : nxOk N n nx) (hn : n ≤ 36) {k : Nat} (hk : k < (xRun nx n s k).w.last) : fOk (xRun nx n s k) := by
  have key : ∀ (j : Nat) (v lev fv : Int) (Z : XF), j ≤ 36 → fOk Z → (-1 ≤ fv ∧ fv < 36) → fOk (xRw nx v lev fv j Z) := by
    intro j
    induction j with
    | zero => intro v lev fv Z _ h _; exact h
    | succ j ih =>
      intro v lev fv Z hj h hf
      have := ih v lev fv Z (by omega) h hf
      show fOk (xMv _ _ _ _ _)
      generalize xRw nx v lev fv j Z = Y at *
      unfold xMv xCm
      split
      · exact this
      · split
        · exact this
        · intro x
          show -1 ≤ fup Y.f _ _ x ∧ fup Y.f _ _ x < 36
          by_cases e : x = nx v j
          · rw [e, fup_s]
            split <;> omega
          · rw [fup_n e]; exact this x
  clear hk
  induction k with
  | zero => intro t; show (-1 : Int) ≤ -1 ∧ (-1 : Int) < 36; decide
  | succ k ih =>
    unfold xRun
    split
    · exact key n _ _ _ _ hn ih (ih _)
    · exact ih
theorem c_go (hl : l.stackTraces = false) (d : Nat) (hd : 1 < d) {u tg s : Int} {K N n : Nat} {nm : Int → Int} {nx : Int → Int → Int} (hu : WalkAt G γ u) (hS : WkS μ u K nm N nx) (hN : N ≤ 20000) (hs : 0 ≤ s ∧ s < N) (hn : n ≤ 36) (hx : nxOk N n nx) (hnm : ∀ k : Int, 0 ≤ k → k < K → nm k < n) (hrw : ∀ v lev fv Z, xRw nx v lev fv n Z = xRwM nx nm v lev fv K Z) : Cn l G yX6_go cX6_go 6 none d 0 [aR u, aI s, aI tg] γ μ (PGo μ γ u tg nx n s) := by
  refine Cn.ofP hl (plainFor_of_name (by decide)) (noLc nlR (noLc nlI (noL1 nlI))) rfl (fun P hP o1 o3 X hX hC => B_X6_go_0 hC hu.o ?_)
  obtain ⟨-, g0, s1, g1, s2, g2, s3, g3, s4, g11, s5⟩ := id hu
  rw [g0]
  refine ⟨0, 0, _, by omega, Nat.le_refl _, hX ▸ c_fill hl 0 (lnO s1 (by decide)), PV.use ?_⟩
  rw [shLen s1]
  refine B_X6_go_8 hC hu.o ?_
  rw [g11]
  refine ⟨0, 0, _, by omega, Nat.le_refl _, hX ▸ c_fill hl 0 (lnO s5 (by decide)), PV.use ?_⟩
  rw [shLen s5]
  refine B_X6_go_16 hC hu.o ?_
  generalize hm0 : up (up (up (up (up (row (row μ (u + 1) ((20000 : Nat) : Int) (fun _ => 0)) (u + 5) ((64 : Nat) : Int) (fun _ => 0)) u 10 tg) u 14 (-1)) u 15 (-1)) u 13 0) u 12 0 = m0
  have f0 : ∀ y j, y ≠ u → y ≠ u + 1 → y ≠ u + 5 → m0 y j = μ y j := fun y j z1 z2 z3 => by rw [← hm0, up_ne (by omega), up_ne (by omega), up_ne (by omega), up_ne (by omega), up_ne (by omega), row_off (by omega), row_off (by omega)]
  have f0u : ∀ j, 4 ≤ j → j ≤ 9 → m0 u j = μ u j := fun j z1 z2 => by rw [← hm0, up_ne (by omega), up_ne (by omega), up_ne (by omega), up_ne (by omega), up_ne (by omega), row_off (by omega), row_off (by omega)]
  have f012 : m0 u 12 = 0 := by rw [← hm0, up_same]
  have f05 : ∀ j, 0 ≤ j → j < 64 → m0 (u + 5) j = 0 := fun j z1 z2 => by rw [← hm0, up_ne (by omega), up_ne (by omega), up_ne (by omega), up_ne (by omega), up_ne (by omega), row_in ⟨z1, by omega⟩]
  have Z0 : WkR m0 u tg ((fun _ => -1, fun _ => 0, 0), fun _ => -1) := by
    refine ⟨?_, ?_, ?_, ?_, fun t z1 z2 => ?_, fun i z1 z2 => ?_⟩
    · show m0 u 13 = 0
      rw [← hm0, up_ne (by omega), up_same]
    · rw [← hm0, up_ne (by omega), up_ne (by omega), up_ne (by omega), up_ne (by omega), up_same]
    · show m0 u 14 = -1
      rw [← hm0, up_ne (by omega), up_ne (by omega), up_ne (by omega), up_same]
    · show m0 u 15 = -1
      rw [← hm0, up_ne (by omega), up_ne (by omega), up_same]
    · show m0 (u + 1) t = if (-1 : Int) = -1 then 0 else (-1 : Int) + 2
      rw [if_pos rfl, ← hm0, up_ne (by omega), up_ne (by omega), up_ne (by omega), up_ne (by omega), up_ne (by omega), row_off (by omega), row_in ⟨z1, by omega⟩]
    · have z2' : i < ((0 : Nat) : Int) := z2
      omega
  have eZ : xCm s (-1) 0 ((fun _ => -1, fun _ => 0, 0), fun _ => -1) = xf0 s := by
    unfold xCm
    rw [if_neg (fun z => z rfl)]
    show ((fup (fun _ => -1) s 0, fup (fun _ => 0) ((0 : Nat) : Int) s, 0 + 1), fup (fun _ => -1) s (-1)) = _
    have : fup (fun _ => (-1 : Int)) s (-1) = fun _ => -1 := by
      funext x
      by_cases e : x = s
      · rw [e, fup_s]
      · rw [fup_n e]
    rw [this]
    rfl
  refine ⟨0, 0, _, by omega, Nat.le_refl _, hX ▸ c_comeTo hl 0 (fb := -1) (lv := 0) hu Z0 (fun t => by show (-1 : Int) ≤ -1 ∧ (-1 : Int) < 36; decide) (by omega) (fun _ => by show 0 < 20000; decide) (by decide) (Int.le_refl _), ?_⟩
  rw [eZ]
  rintro r γ m1 ⟨rfl, rfl, Z1, f1⟩
  refine B_X6_go_48 hC hu.o ?_
  have S1 : WkS m1 u K nm N nx := hS.fr (fun y j z => by
    rw [f1 y j (by omega) (by omega) (by omega)]
    rcases z with ⟨rfl, z1, z2⟩ | z | z
    · exact f0u j z1 z2
    · exact f0 y j (by omega) (by omega) (by omega)
    · exact f0 y j (by omega) (by omega) (by omega))
  have q1 : ∀ y j, y ≠ u → y ≠ u + 1 → y ≠ u + 2 → y ≠ u + 5 → m1 y j = μ y j := fun y j z1 z2 z3 z4 => by rw [f1 y j (by omega) z2 z3]; exact f0 y j z1 z2 z4
  have main : ∀ (c k : Nat) (lv : Int) (m : Mu), k + c = N → WkS m u K nm N nx → WkR m u tg (xRun nx n s k) → k ≤ (xRun nx n s k).w.last → ((k = 0 ∧ lv = 0) ∨ (1 ≤ k ∧ 1 ≤ lv ∧ k ≤ (xRun nx n s k).w.last ∧ k - 1 < (xRun nx n s (k - 1)).w.last ∧ (xRun nx n s k).w.way ((xRun nx n s k).w.que ((k : Int) - 1)) = lv - 1)) → lv ≤ k → (∀ i : Int, 0 ≤ i → i < k → (xRun nx n s k).w.way ((xRun nx n s k).w.que i) < lv) → (∀ i : Int, k ≤ i → i < (xRun nx n s k).w.last → (xRun nx n s k).w.way ((xRun nx n s k).w.que i) = lv) → (∀ j, 0 ≤ j → j < 64 → m (u + 5) j = if j < lv then lvC (xRun nx n s k).w j k else 0) → (1 ≤ lv → m u 12 = lv - 1) → (∀ y j, y ≠ u → y ≠ u + 1 → y ≠ u + 2 → y ≠ u + 5 → m y j = μ y j) → V X G (Qm X G 0 P) 0 53 [aR u, aD, aD, aI (k : Int), aI lv, aD] [] γ m := by
    intro c
    induction c using Nat.strongRecOn with
    | ind c ihc =>
    intro k lv m hkc mS mZ hkl hprev hlv hlt heq hper h12 fm
    have fin : (xRun nx n s k).w.last ≤ k → P none γ m := fun h => by
      have hl1 : 1 ≤ (xRun nx n s k).w.last := by
        rcases hprev with ⟨rfl, -⟩ | w
        · exact Nat.le_refl 1
        · omega
      obtain ⟨k', rfl⟩ : ∃ k', k = k' + 1 := ⟨k - 1, by omega⟩
      rcases hprev with w | ⟨-, w1, -, w2, w3⟩
      · omega
      · refine hP _ _ _ ⟨rfl, rfl, ⟨k', w2, by omega, by rw [mZ.1]; omega, mZ.2.2.1, mZ.2.2.2.1, ?_, fun j z1 z2 => ?_⟩, fm⟩
        · rw [h12 w1, ← w3, show ((k' + 1 : Nat) : Int) - 1 = k' by omega]
        · rw [hper j z1 z2]
          split
          · rfl
          · exact (lvC_0 _ (fun i z3 z4 => by have := hlt i z3 z4; omega)).symm
    refine B_X6_go_53 hC hu.o ?_
    rw [mZ.1, g11]
    have hNle : k < (xRun nx n s k).w.last → (xRun nx n s k).w.last ≤ N := fun h => (xRun_XI hs hx k h).1.le
    refine ⟨fun h => ⟨Nat.le_refl _, fin ?_⟩, fun h => ⟨fun h2 => ⟨Nat.le_refl _, fin (by omega)⟩, fun h2 => ?_⟩⟩
    · rcases Nat.lt_or_ge k (xRun nx n s k).w.last with w | w
      · have := hNle w; omega
      · exact w
    · have hkl2 : k < (xRun nx n s k).w.last := by omega
      have hI := xRun_XI hs hx k hkl2
      have hLN := hI.1.le
      generalize hE : (xRun nx n s k).w.last = E at *
      have inner : ∀ (r k2 : Nat) (m2 : Mu), k2 + r = E → k ≤ k2 → WkS m2 u K nm N nx → WkR m2 u tg (xRun nx n s k2) → E ≤ (xRun nx n s k2).w.last → (k < k2 → k2 - 1 < (xRun nx n s (k2 - 1)).w.last) → (∀ i : Int, 0 ≤ i → i < E → (xRun nx n s k2).w.way ((xRun nx n s k2).w.que i) = (xRun nx n s k).w.way ((xRun nx n s k).w.que i)) → (∀ i : Int, E ≤ i → i < (xRun nx n s k2).w.last → (xRun nx n s k2).w.way ((xRun nx n s k2).w.que i) = lv + 1) → (∀ j, 0 ≤ j → j < 64 → m2 (u + 5) j = if j < lv + 1 then lvC (xRun nx n s k).w j E else 0) → m2 u 12 = lv → (∀ y j, y ≠ u → y ≠ u + 1 → y ≠ u + 2 → y ≠ u + 5 → m2 y j = μ y j) → V X G (Qm X G 0 P) 0 99 [aR u, aD, aD, aI (k2 : Int), aI lv, aI (E : Int)] [] γ m2 := by
        intro r
        induction r with
        | zero =>
          intro k2 m2 hr hk2 m2S m2Z hl2 hpk hst hnew hp2 h122 fm2
          obtain rfl : k2 = E := by omega
          refine B_X6_go_99 hC hu.o ⟨fun _ => ⟨by constructor <;> omega, ?_⟩, fun z => absurd (Int.le_refl _) z⟩
          refine ihc (N - k2) (by omega) k2 (lv + 1) m2 (by omega) m2S m2Z hl2 (Or.inr ⟨by omega, by omega, hl2, hpk (by omega), ?_⟩) (by omega) (fun i z1 z2 => ?_) hnew (fun j z1 z2 => ?_) (fun _ => by rw [h122]; omega) fm2
          · rw [hst _ (by omega) (by omega), heq _ (by omega) (by omega)]; omega
          · rw [hst i z1 z2]
            rcases Int.lt_or_le i k with w | w
            · have := hlt i z1 w; omega
            · rw [heq i w z2]; omega
          · rw [hp2 j z1 z2]
            split
            · exact lvC_cong _ (fun i z3 z4 => (hst i z3 z4).symm)
            · rfl
        | succ r ihr =>
          intro k2 m2 hr hk2 m2S m2Z hl2 hpk hst hnew hp2 h122 fm2
          have hk2l : k2 < (xRun nx n s k2).w.last := by omega
          have hI2 := xRun_XI hs hx k2 hk2l
          have hw2 : (xRun nx n s k2).w.way ((xRun nx n s k2).w.que k2) = lv := by rw [hst _ (by omega) (by omega)]; exact heq _ (by omega) (by omega)
          obtain ⟨v1, v2, v3⟩ := hI2.1.2.1 k2 (by omega) (by omega)
          obtain ⟨-, m2, m3, m4⟩ := hI2.moves hx n (Nat.le_refl _)
          have mfr := hI2.fresh hx n (Nat.le_refl _)
          have e : xRun nx n s (k2 + 1) = xRw nx ((xRun nx n s k2).w.que k2) ((xRun nx n s k2).w.way ((xRun nx n s k2).w.que k2)) ((xRun nx n s k2).f ((xRun nx n s k2).w.que k2)) n (xRun nx n s k2) := by
            conv => lhs; unfold xRun
            rw [if_pos hk2l]
          rw [← e] at m2 m3 m4 mfr
          rename_i m2'
          refine B_X6_go_99 hC hu.o ⟨fun z => absurd z (by omega), fun _ => ?_⟩
          rw [g1, m2Z.2.2.2.2.2 k2 (by omega) (by omega)]
          have e2 := hrw ((xRun nx n s k2).w.que k2) ((xRun nx n s k2).w.way ((xRun nx n s k2).w.que k2)) ((xRun nx n s k2).f ((xRun nx n s k2).w.que k2)) (xRun nx n s k2)
          rw [hw2] at e2 e mfr
          have hxv : ∀ i : Int, 0 ≤ i → i < K → nx ((xRun nx n s k2).w.que k2) (nm i) = -1 ∨ (0 ≤ nx ((xRun nx n s k2).w.que k2) (nm i) ∧ nx ((xRun nx n s k2).w.que k2) (nm i) < N) := fun i z1 z2 => by
            have z3 := hnm i z1 z2
            obtain ⟨L, H, -, -, -, -, hk9⟩ := m2S
            have z4 := (hk9 i z1 z2).1.2.1
            have := hx _ v1.1 v1.2 (nm i).toNat (by omega)
            rw [Int.toNat_of_nonneg z4] at this
            exact this
          refine ⟨ixO s2 (by have := hI2.1.le; omega), 1, 0, _, by omega, Nat.le_refl _, hX ▸ c_expand hl 1 (by omega) (lev := lv) hu m2S m2Z hI2.1 (xRun_fOk hs hx hn hk2l) hN v1 (by omega) (by omega) hxv, ?_⟩
          · rintro r γ m9 ⟨rfl, rfl, b1, b2⟩
            rw [← e2, ← e] at b1
            have := ihr (k2 + 1) m9 (by omega) (by omega) (m2S.fr (fun y j z => b2 y j (by omega) (by omega) (by omega))) b1 (by omega) (fun _ => by rw [Nat.add_sub_cancel]; exact hk2l) (fun i z1 z2 => ?_) (fun i z1 z2 => ?_) (fun j z1 z2 => by rw [b2 _ _ (by omega) (by omega) (by omega)]; exact hp2 j z1 z2) (by rw [b2 _ _ (by omega) (by omega) (by omega)]; exact h122) (fun y j z1 z2 z3 z4 => by rw [b2 y j (by omega) z2 z3]; exact fm2 y j z1 z2 z3 z4)
            · rw [show ((k2 + 1 : Nat) : Int) = (k2 : Int) + 1 by omega] at this
              exact B_X6_go_117 hC hu.o ⟨by constructor <;> omega, this⟩
            · have hv := (hI2.1.2.1 i z1 (by omega)).2.1
              rw [m2 i (by omega), (m3 _ (by omega)).1]
              exact hst i z1 z2
            · rcases Int.lt_or_le i (xRun nx n s k2).w.last with w | w
              · have hv := (hI2.1.2.1 i (by omega) w).2.1
                rw [m2 i w, (m3 _ (by omega)).1]
                exact hnew i z1 w
              · exact mfr i w z2
      have ext := fun j => lvC_ext (W := (xRun nx n s k).w) (j := j) (lv := lv) (k := k) (E - k) (fun i z1 z2 => heq i z1 (by omega))
      rw [show k + (E - k) = E by omega] at ext
      have start : ∀ m2 : Mu, m2 u 12 = lv → (∀ j, 0 ≤ j → j < 64 → m2 (u + 5) j = if j < lv + 1 then lvC (xRun nx n s k).w j E else 0) → (∀ y j, (y = u → j ≠ 12) → y ≠ u + 5 → m2 y j = m y j) → V X G (Qm X G 0 P) 0 99 [aR u, aD, aD, aI (k : Int), aI lv, aI (E : Int)] [] γ m2 := fun m2 a1 a2 a3 => inner (E - k) k m2 (by omega) (Nat.le_refl _) (mS.fr (fun y j z => a3 y j (by omega) (by omega))) (mZ.fr (fun y j z => a3 y j (by omega) (by omega))) (by omega) (fun w => absurd w (by omega)) (fun i _ _ => rfl) (fun i z1 z2 => by omega) a2 a1 (fun y j z1 z2 z3 z4 => by rw [a3 y j (by omega) z4]; exact fm y j z1 z2 z3 z4)
      have per : ∀ j, 0 ≤ j → j < 64 → j ≠ lv → m (u + 5) j = if j < lv + 1 then lvC (xRun nx n s k).w j E else 0 := fun j z1 z2 z3 => by
        rw [hper j z1 z2, ext j, if_neg z3, Int.add_zero]
        by_cases w : j < lv
        · rw [if_pos w, if_pos (by omega)]
        · rw [if_neg w, if_neg (by omega)]
      refine ⟨fun h3 => start _ up_same (fun j z1 z2 => ?_) (fun y j z1 z2 => up_ne (by omega)), fun h3 => ⟨by constructor <;> omega, ixO s5 (by omega), start _ (by rw [up_ne (by omega), up_same]) (fun j z1 z2 => ?_) (fun y j z1 z2 => by rw [up_ne (by omega), up_ne (by omega)])⟩⟩
      · rw [up_ne (by omega)]
        exact per j z1 z2 (by omega)
      · by_cases w : j = lv
        · rw [w, up_same, if_pos (by omega), ext lv, if_pos rfl, lvC_0 k (fun i z3 z4 => by have := hlt i z3 z4; omega)]
          omega
        · rw [up_ne (by omega), up_ne (by omega)]
          exact per j z1 z2 w
  have l1 : (xRun nx n s 0).w.last = 1 := rfl
  have := main N 0 0 m1 (by omega) S1 Z1 (by rw [l1]; omega) (Or.inl ⟨rfl, rfl⟩) (by omega) (fun i z1 z2 => by omega) (fun i z1 z2 => ?_) (fun j z1 z2 => ?_) (fun w => by omega) q1
  · exact this
  · rw [l1] at z2
    obtain rfl : i = 0 := by omega
    show fup (fun _ => -1) s 0 (fup (fun _ => 0) 0 s 0) = 0
    rw [fup_s, fup_s]
  · rw [f1 _ _ (by omega) (by omega) (by omega), f05 j z1 z2, if_neg (by omega)]
end CGo2
