/-! ways of lit states: forward and backward; the class: lit -/
theorem vlN_front {q : Int} {d : Int → Int} (b : Nat) : vlN q d (b + 1) = d 0 + q * vlN q (fun i => d (1 + i)) b := by
  have := vlN_split (q := q) (d := d) (a := 1) b
  rw [Nat.add_comm] at this
  rw [this]
  show 0 + d ((0 : Nat) : Int) * q ^ 0 + q ^ 1 * vlN q (fun i => d (((1 : Nat) : Int) + i)) b = _
  rw [Int.pow_zero, Int.mul_one, Int.zero_add, show q ^ 1 = q by rw [Int.pow_succ, Int.pow_zero, Int.one_mul]]
  rfl
theorem dg_vl {q : Int} (hq : 0 < q) {d : Int → Int} {n : Nat} (hd : dgs q n d) {j : Int} (h0 : 0 ≤ j) (h1 : j < n) : dgF q (vlN q d n) j = d j := by
  obtain ⟨i, rfl⟩ := Int.eq_ofNat_of_zero_le h0
  have hp := pw_pos hq i
  have hb := vlN_b hq i (d := d) (fun k z1 z2 => hd k z1 (by omega))
  have hj := hd i (by omega) h1
  obtain ⟨e, he⟩ : ∃ e : Nat, n = i + (e + 1) := ⟨n - i - 1, by omega⟩
  rw [dgF_eq hq, he, vlN_split (e + 1), vlN_front, Int.add_mul_ediv_left _ _ (by omega), Int.ediv_eq_zero_of_lt hb.1 hb.2, Int.zero_add, Int.add_mul_emod_self_left]
  show d ((i : Int) + 0) % q = d (i : Int)
  rw [Int.add_zero]
  exact Int.emod_eq_of_lt hj.1 hj.2
theorem vl_dg {q : Int} (hq : 0 < q) : ∀ (n : Nat) (v : Int), 0 ≤ v → v < q ^ n → vlN q (dgF q v) n = v
  | 0, v, h0, h1 => by
    rw [Int.pow_zero] at h1
    show 0 = v
    omega
  | n + 1, v, h0, h1 => by
    have hp := pw_pos hq n
    have m0 := Int.emod_nonneg v (show q ^ n ≠ 0 by omega)
    have m1 := Int.emod_lt_of_pos v hp
    have ih := vl_dg hq n (v % q ^ n) m0 m1
    have d0 := Int.ediv_nonneg h0 (show 0 ≤ q ^ n by omega)
    have d1 : v / q ^ n < q := Int.ediv_lt_of_lt_mul hp (by rw [Int.mul_comm, ← Int.pow_succ]; exact h1)
    show vlN q (dgF q v) n + dgF q v n * q ^ n = v
    rw [← vlN_cong (d := dgF q (v % q ^ n)) n (fun i z1 z2 => by
      have := dgF_lo (q := q) (v := v) hq (a := n) (i := i.toNat) (by omega)
      rw [Int.toNat_of_nonneg z1] at this
      exact this), ih, dgF_eq hq, Int.emod_eq_of_lt d0 d1]
    have := Int.mul_ediv_add_emod v (q ^ n)
    rw [Int.mul_comm] at this
    omega
theorem PF_in {nx : Int → Int → Int} {n N : Nat} (hx : nxOk N n nx) {s : Int} (hs : 0 ≤ s ∧ s < N) : ∀ (m : Nat) (t : Int), PF nx n m s t → 0 ≤ t ∧ t < N
  | 0, t, h => by
    have e : s = t := h
    rw [← e]; exact hs
  | m + 1, t, h => by
    obtain ⟨p, p1, b, p2, p3, p4⟩ := h
    have hp := PF_in hx hs m p p1
    have := hx p hp.1 hp.2 b p2
    rw [p3] at this
    omega
theorem PF_rev {nx ny : Int → Int → Int} {n N : Nat} (hx : nxOk N n nx) (hr : ∀ v t : Int, 0 ≤ v → v < N → 0 ≤ t → t < N → ∀ b : Nat, b < n → nx v b = t → ny t b = v) {s : Int} (hs : 0 ≤ s ∧ s < N) : ∀ (m : Nat) (t : Int), PF nx n m s t → PF ny n m t s
  | 0, t, h => by
    have e : s = t := h
    exact e.symm
  | m + 1, t, h => by
    have ht := PF_in hx hs (m + 1) t h
    obtain ⟨p, p1, b, p2, p3, p4⟩ := h
    have hp := PF_in hx hs m p p1
    exact PF_front p2 (hr p t hp.1 hp.2 ht.1 ht.2 b p2 p3) (by omega) m s (PF_rev hx hr hs m p p1)
theorem litRev {σ : Mu} (hW : Wf σ) : (∀ v t : Int, 0 ≤ v → v < lnN σ → 0 ≤ t → t < lnN σ → ∀ b : Nat, b < (σ 0 0).toNat → litN σ 0 v b = t → litN σ 1 t b = v) ∧ (∀ v t : Int, 0 ≤ v → v < lnN σ → 0 ≤ t → t < lnN σ → ∀ b : Nat, b < (σ 0 0).toNat → litN σ 1 v b = t → litN σ 0 t b = v) := by
  have hn := hW.1
  have hq := hW.2.1.b
  have q0 : 0 < σ 0 1 := by omega
  have hp := pw_pos (q := σ 0 1) (by omega) (σ 0 0).toNat
  have eN : (lnN σ : Int) = σ 0 1 ^ (σ 0 0).toNat := by unfold lnN; omega
  have ll : ∀ v x bk, inQ (σ 0 0) (σ 0 1) (litG σ v x bk) := fun v x bk => litG_in hW
  constructor
  · intro v t v0 v1 t0 t1 b hb h
    have hbI : 0 ≤ (b : Int) ∧ (b : Int) < σ 0 0 := by omega
    unfold litN at h
    by_cases c1 : σ 2 b ≠ 0 ∨ ((0 : Int) = 0 ∧ dgF (σ 0 1) v b = 0)
    · rw [if_pos c1] at h; omega
    · rw [if_neg c1, if_neg (fun w => w.1 rfl)] at h
      have dg : ∀ j, 0 ≤ j → j < σ 0 0 → dgF (σ 0 1) t j = litG σ v b 0 j := fun j z1 z2 => by rw [← h]; exact dg_vl q0 (fun i z1 z2 => ll v b 0 i z1 (by omega)) z1 (by omega)
      have key : ∀ j, 0 ≤ j → j < σ 0 0 → litG σ t b 1 j = dgF (σ 0 1) v j := fun j z1 z2 => by
        have hd := dgF_in (q := σ 0 1) (v := v) q0 j
        show (dgF (σ 0 1) t j + (if (1 : Int) = 0 then sA σ b j else σ 0 1 - sA σ b j)) % σ 0 1 = _
        rw [if_neg (by decide), dg j z1 z2]
        show ((dgF (σ 0 1) v j + (if (0 : Int) = 0 then sA σ b j else σ 0 1 - sA σ b j)) % σ 0 1 + _) % σ 0 1 = _
        rw [if_pos rfl, Int.emod_add_emod, show dgF (σ 0 1) v j + sA σ b j + (σ 0 1 - sA σ b j) = dgF (σ 0 1) v j + σ 0 1 by omega, Int.add_emod_right]
        exact Int.emod_eq_of_lt hd.1 hd.2
      unfold litN
      rw [if_neg (fun w => w.elim (fun w => c1 (Or.inl w)) (fun w => absurd w.1 (by decide))), if_neg (fun w => c1 (Or.inr ⟨rfl, by rw [← key b hbI.1 hbI.2]; exact w.2⟩)), vlN_cong (e := dgF (σ 0 1) v) _ (fun i z1 z2 => key i z1 (by omega))]
      exact vl_dg q0 _ v v0 (by omega)
  · intro v t v0 v1 t0 t1 b hb h
    have hbI : 0 ≤ (b : Int) ∧ (b : Int) < σ 0 0 := by omega
    unfold litN at h
    by_cases c1 : σ 2 b ≠ 0 ∨ ((1 : Int) = 0 ∧ dgF (σ 0 1) v b = 0)
    · rw [if_pos c1] at h; omega
    · rw [if_neg c1] at h
      by_cases c2 : (1 : Int) ≠ 0 ∧ litG σ v b 1 b = 0
      · rw [if_pos c2] at h; omega
      · rw [if_neg c2] at h
        have dg : ∀ j, 0 ≤ j → j < σ 0 0 → dgF (σ 0 1) t j = litG σ v b 1 j := fun j z1 z2 => by rw [← h]; exact dg_vl q0 (fun i z1 z2 => ll v b 1 i z1 (by omega)) z1 (by omega)
        have key : ∀ j, 0 ≤ j → j < σ 0 0 → litG σ t b 0 j = dgF (σ 0 1) v j := fun j z1 z2 => by
          have hd := dgF_in (q := σ 0 1) (v := v) q0 j
          show (dgF (σ 0 1) t j + (if (0 : Int) = 0 then sA σ b j else σ 0 1 - sA σ b j)) % σ 0 1 = _
          rw [if_pos rfl, dg j z1 z2]
          show ((dgF (σ 0 1) v j + (if (1 : Int) = 0 then sA σ b j else σ 0 1 - sA σ b j)) % σ 0 1 + _) % σ 0 1 = _
          rw [if_neg (by decide), Int.emod_add_emod, show dgF (σ 0 1) v j + (σ 0 1 - sA σ b j) + sA σ b j = dgF (σ 0 1) v j + σ 0 1 by omega, Int.add_emod_right]
          exact Int.emod_eq_of_lt hd.1 hd.2
        unfold litN
        rw [if_neg (fun w => w.elim (fun w => c1 (Or.inl w)) (fun w => c2 ⟨by decide, by rw [← dg b hbI.1 hbI.2]; exact w.2⟩)), if_neg (fun w => w.1 rfl), vlN_cong (e := dgF (σ 0 1) v) _ (fun i z1 z2 => key i z1 (by omega))]
        exact vl_dg q0 _ v v0 (by omega)
theorem xRun_def {nx : Int → Int → Int} {n : Nat} {s : Int} {k : Nat} (hk : k < (xRun nx n s k).w.last) : xRun nx n s (k + 1) = xRw nx ((xRun nx n s k).w.que k) ((xRun nx n s k).w.way ((xRun nx n s k).w.que k)) ((xRun nx n s k).f ((xRun nx n s k).w.que k)) n (xRun nx n s k) := by
  conv => lhs; unfold xRun
  rw [if_pos hk]
theorem xRun_N {nx : Int → Int → Int} {n N : Nat} {s : Int} (hs : 0 ≤ s ∧ s < N) (hx : nxOk N n nx) {k : Nat} (h1 : k < (xRun nx n s k).w.last) (h2 : (xRun nx n s (k + 1)).w.last = k + 1) : bRun nx n s N = (xRun nx n s (k + 1)).w := by
  have hle := (xRun_fin hs hx h1 h2).1.le
  have e := xRun_1 (nx := nx) (n := n) (s := s) (k + 1)
  show _ = (xRun nx n s (k + 1)).1
  rw [e]
  refine bRun_end2 ?_ (by omega)
  rw [← e]
  exact Nat.le_of_eq h2
/-- no first move where there is no way -/
theorem xRun_f {nx : Int → Int → Int} {n N : Nat} {s : Int} (hs : 0 ≤ s ∧ s < N) (hx : nxOk N n nx) : ∀ k : Nat, k ≤ (xRun nx n s k).w.last → ∀ t, (xRun nx n s k).w.way t = -1 → (xRun nx n s k).f t = -1 := by
  have key : ∀ (j : Nat) (v lev fv : Int) (Z : XF), 0 ≤ lev → (∀ t, Z.w.way t = -1 → Z.f t = -1) → ∀ t, (xRw nx v lev fv j Z).w.way t = -1 → (xRw nx v lev fv j Z).f t = -1 := by
    intro j
    induction j with
    | zero => intro v lev fv Z _ h; exact h
    | succ j ih =>
      intro v lev fv Z hl h t
      have := ih v lev fv Z hl h
      show (xMv _ _ _ _ _).w.way t = -1 → (xMv _ _ _ _ _).f t = -1
      generalize xRw nx v lev fv j Z = Y at *
      unfold xMv xCm
      split
      · exact this t
      · split
        · exact this t
        · show fup Y.w.way _ _ t = -1 → fup Y.f _ _ t = -1
          by_cases e : t = nx v j
          · rw [e, fup_s]
            intro w
            omega
          · rw [fup_n e, fup_n e]
            exact this t
  intro k
  induction k with
  | zero => intro _ t _; rfl
  | succ k ih =>
    intro hk
    rcases Nat.lt_or_ge k (xRun nx n s k).w.last with w | w
    · rw [xRun_def w]
      have hv := ((xRun_XI hs hx k w).1.2.1 k (by omega) (by omega)).2.1
      exact key n _ _ _ _ hv (ih (by omega))
    · have e : xRun nx n s (k + 1) = xRun nx n s k := by
        conv => lhs; unfold xRun
        rw [if_neg (by omega)]
      rw [e] at hk ⊢
      omega
theorem lit_math {σ : Mu} (hW : Wf σ) (h20 : σ 0 1 ^ (σ 0 0).toNat ≤ 20000) {k : Nat} (h1 : k < (xRun (litN σ 0) (σ 0 0).toNat (nmb σ (σ 3)) k).w.last) (h2 : (xRun (litN σ 0) (σ 0 0).toNat (nmb σ (σ 3)) (k + 1)).w.last = k + 1) : (xRun (litN σ 0) (σ 0 0).toNat (nmb σ (σ 3)) (k + 1)).w.way (nmb σ (σ 4)) = litF σ 0 ∧ (xRun (litN σ 0) (σ 0 0).toNat (nmb σ (σ 3)) (k + 1)).f (nmb σ (σ 4)) = litF σ 1 ∧ (k : Int) + 1 = litF σ 2 := by
  have hn := hW.1
  have hq := hW.2.1.b
  have q0 : 0 < σ 0 1 := by omega
  have hp := pw_pos (q := σ 0 1) (by omega) (σ 0 0).toNat
  have eN : (lnN σ : Int) = σ 0 1 ^ (σ 0 0).toNat := by unfold lnN; omega
  have hs : 0 ≤ nmb σ (σ 3) ∧ nmb σ (σ 3) < lnN σ := by rw [eN]; exact vlN_b q0 _ (fun i z1 z2 => (hW.st i z1 (by omega)).1)
  have ht : 0 ≤ nmb σ (σ 4) ∧ nmb σ (σ 4) < lnN σ := by rw [eN]; exact vlN_b q0 _ (fun i z1 z2 => (hW.wi i z1 (by omega)).1)
  have ok0 : nxOk (lnN σ) (σ 0 0).toNat (litN σ 0) := litN_ok hW 0
  have ok1 : nxOk (lnN σ) (σ 0 0).toNat (litN σ 1) := litN_ok hW 1
  obtain ⟨r0, r1⟩ := litRev hW
  obtain ⟨kb, b1, b2, b3, b4⟩ := xRun_stop ht ok1
  have eF : bRun (litN σ 0) (σ 0 0).toNat (nmb σ (σ 3)) (lnN σ) = (xRun (litN σ 0) (σ 0 0).toNat (nmb σ (σ 3)) (k + 1)).w := xRun_N hs ok0 h1 h2
  have XF := xRun_fin hs ok0 h1 h2
  have XB := xRun_fin ht ok1 b1 b2
  have hfd := xRun_f hs ok0 (k + 1) (by rw [h2]; exact Nat.le_refl _)
  obtain ⟨f1, f2, f3, f4⟩ := XF.fin (by rw [h2])
  obtain ⟨g1, g2, g3, g4⟩ := XB.fin (by rw [b2])
  have fs0 := XF.2.2.1.2.2
  have wb : ∀ t, (litW σ 1 (nmb σ (σ 4))).way t = (xRun (litN σ 1) (σ 0 0).toNat (nmb σ (σ 4)) (kb + 1)).w.way t := fun t => by unfold litW; rw [b4]
  have wl : (litW σ 0 (nmb σ (σ 3))).last = k + 1 := by unfold litW; rw [eF]; exact h2
  have neg1 := XF.1.2.2.2
  have negb := XB.1.2.2.2
  generalize xRun (litN σ 0) (σ 0 0).toNat (nmb σ (σ 3)) (k + 1) = Z at *
  generalize xRun (litN σ 1) (σ 0 0).toNat (nmb σ (σ 4)) (kb + 1) = Y at *
  have dist : Z.w.way (nmb σ (σ 4)) = Y.w.way (nmb σ (σ 3)) := by
    have a1 := neg1 (nmb σ (σ 4))
    have a2 := negb (nmb σ (σ 3))
    have c1 : Z.w.way (nmb σ (σ 4)) ≠ -1 → 0 ≤ Y.w.way (nmb σ (σ 3)) ∧ Y.w.way (nmb σ (σ 3)) ≤ Z.w.way (nmb σ (σ 4)) := fun w => by
      have := g1 _ _ (PF_rev ok0 r0 hs _ _ (f2 _ w))
      omega
    have c2 : Y.w.way (nmb σ (σ 3)) ≠ -1 → 0 ≤ Z.w.way (nmb σ (σ 4)) ∧ Z.w.way (nmb σ (σ 4)) ≤ Y.w.way (nmb σ (σ 3)) := fun w => by
      have := f1 _ _ (PF_rev ok1 r1 ht _ _ (g2 _ w))
      omega
    by_cases w : Z.w.way (nmb σ (σ 4)) = -1
    · by_cases w2 : Y.w.way (nmb σ (σ 3)) = -1
      · omega
      · have := c2 w2; omega
    · have := c1 w
      have := c2 (by omega)
      omega
  refine ⟨?_, ?_, ?_⟩
  · unfold litF
    rw [if_neg (by omega), if_neg (by decide), if_pos rfl, wb]
    exact dist
  · unfold litF
    rw [if_neg (by omega), if_neg (by decide), if_neg (by decide), wb, ← dist]
    by_cases w : Z.w.way (nmb σ (σ 4)) ≤ 0
    · rw [if_pos w]
      rcases neg1 (nmb σ (σ 4)) with a | a
      · exact hfd _ a
      · have e0 : Z.w.way (nmb σ (σ 4)) = 0 := by omega
        rw [f4 _ e0]
        exact fs0
    · rw [if_neg w]
      obtain ⟨c1, c2, c3⟩ := f3 (nmb σ (σ 4)) (by omega)
      have lp : ∀ b : Nat, b < (σ 0 0).toNat → (litP σ b ≠ 0 ↔ FMp (litN σ 0) (σ 0 0).toNat (nmb σ (σ 3)) (nmb σ (σ 4)) (Z.w.way (nmb σ (σ 4))) b) := fun b hb => by
        unfold litP FMp
        by_cases e : litN σ 0 (nmb σ (σ 3)) b = -1
        · rw [if_pos e]
          exact ⟨fun z => absurd rfl z, fun z => absurd e z.1⟩
        · rw [if_neg e, wb, wb, ← dist]
          have ht' : 0 ≤ litN σ 0 (nmb σ (σ 3)) b ∧ litN σ 0 (nmb σ (σ 3)) b < lnN σ := by
            have := ok0 _ hs.1 hs.2 b hb
            omega
          have back := r0 _ _ hs.1 hs.2 ht'.1 ht'.2 b hb rfl
          have hY := negb (litN σ 0 (nmb σ (σ 3)) b)
          constructor
          · intro z
            have hw : Y.w.way (litN σ 0 (nmb σ (σ 3)) b) = Z.w.way (nmb σ (σ 4)) - 1 := by
              by_cases w2 : Y.w.way (litN σ 0 (nmb σ (σ 3)) b) = Z.w.way (nmb σ (σ 4)) - 1
              · exact w2
              · rw [if_neg w2] at z; exact absurd rfl z
            have := g2 _ (show Y.w.way (litN σ 0 (nmb σ (σ 3)) b) ≠ -1 by omega)
            rw [hw] at this
            exact ⟨e, PF_rev ok1 r1 ht _ _ this⟩
          · rintro ⟨-, z⟩
            have p1 := g1 _ _ (PF_rev ok0 r0 ht' _ _ z)
            have p2 := g2 _ (show Y.w.way (litN σ 0 (nmb σ (σ 3)) b) ≠ -1 by omega)
            have p3 := g1 _ _ (show PF (litN σ 1) (σ 0 0).toNat ((Y.w.way (litN σ 0 (nmb σ (σ 3)) b)).toNat + 1) (nmb σ (σ 4)) (nmb σ (σ 3)) from ⟨_, p2, b, hb, back, by omega⟩)
            rw [if_pos (by omega)]
            decide
      have cl := (lp (Z.f (nmb σ (σ 4))).toNat (by omega)).mpr (by rw [Int.toNat_of_nonneg c1.1]; exact c2)
      rw [Int.toNat_of_nonneg c1.1] at cl
      rcases fs_rng (f := litP σ) hn.1 with ⟨a1, a2⟩ | ⟨a1, a2, a3, a4⟩
      · exact absurd (a2 _ c1.1 (by omega)) cl
      · have m1 := (lp (fs (litP σ) (σ 0 0) 0).toNat (by omega)).mp (by rw [Int.toNat_of_nonneg a1]; exact a3)
        have m2 := c3 _ (by omega) m1
        rcases Int.lt_or_le (Z.f (nmb σ (σ 4))) (fs (litP σ) (σ 0 0) 0) with w2 | w2
        · exact absurd (a4 _ c1.1 w2) cl
        · omega
  · unfold litF
    rw [if_neg (by omega), if_pos rfl, wl]
    omega
theorem lit_room {q : Int} {c : Nat} (hq : qP q) (h : q ^ c ≤ 20000) : c ≤ 14 ∧ (c : Int) * (q ^ hlf c + q ^ (c - hlf c)) ≤ 7200 := by
  have hc : c ≤ 14 := by
    rcases Nat.lt_or_ge 14 c with w | w
    · have h1 : (2 : Int) ^ 15 ≤ q ^ c := by
        have a1 := pw_mono (q := q) (by rcases hq with rfl | rfl | rfl <;> decide) (show 15 ≤ c by omega)
        have a2 : (2 : Int) ^ 15 ≤ q ^ 15 := by rcases hq with rfl | rfl | rfl <;> decide
        omega
      have : (2 : Int) ^ 15 = 32768 := by decide
      omega
    · exact w
  refine ⟨hc, ?_⟩
  rcases (show c = 0 ∨ c = 1 ∨ c = 2 ∨ c = 3 ∨ c = 4 ∨ c = 5 ∨ c = 6 ∨ c = 7 ∨ c = 8 ∨ c = 9 ∨ c = 10 ∨ c = 11 ∨ c = 12 ∨ c = 13 ∨ c = 14 by omega) with rfl | rfl | rfl | rfl | rfl | rfl | rfl | rfl | rfl | rfl | rfl | rfl | rfl | rfl | rfl <;> rcases hq with rfl | rfl | rfl <;> first | decide | exact absurd h (by decide)
section CLit
variable {l : Launch} {G : Gx} {γ μ σ : Mu}
theorem c_walkLit (hl : l.stackTraces = false) (d : Nat) (hd : 3 < d) {x w p : Int} (hH : HallAt G γ x w p) (hR : RepC μ x w σ) (hW : Wf σ) (h20 : σ 0 1 ^ (σ 0 0).toNat ≤ 20000) : Cn l G yX8_walkLit cX8_walkLit 2 none d 0 [aR x] γ μ (fun r γ' μ' => r = none ∧ γ' = γ ∧ (μ' (x + 505) 14 = litF σ 0 ∧ μ' (x + 505) 15 = litF σ 1 ∧ μ' (x + 505) 13 = litF σ 2) ∧ ∀ y j, (y < x + 505 ∨ x + 510 < y) → μ' y j = μ y j) := by
  refine Cn.ofP hl (plainFor_of_name (by decide)) (noL1 nlR) rfl (fun P hP o1 o3 X hX hC => B_X8_walkLit_0 hC hH.o ?_)
  have hn := hW.1
  have hq := hW.2.1.b
  have q0 : 0 < σ 0 1 := by omega
  have hwb := hH.wb
  have hD := hR.2.1.1
  obtain ⟨c14, room⟩ := lit_room hW.2.1 h20
  have en : ((σ 0 0).toNat : Int) = σ 0 0 := by omega
  have hp := pw_pos (q := σ 0 1) (by omega) (σ 0 0).toNat
  have eN : σ 0 1 ^ (σ 0 0).toNat = (lnN σ : Int) := by unfold lnN; omega
  have N20 : lnN σ ≤ 20000 := by omega
  have ok0 : nxOk (lnN σ) (σ 0 0).toNat (litN σ 0) := litN_ok hW 0
  have hs : 0 ≤ nmb σ (σ 3) ∧ nmb σ (σ 3) < lnN σ := by rw [← eN]; exact vlN_b q0 _ (fun i z1 z2 => (hW.st i z1 (by omega)).1)
  have cb := c_wkBegin (μ := μ) hl 1 (by omega) (c := (σ 0 0).toNat) hH.wk hq h20 (by omega)
  rw [en] at cb
  rw [hH.g1, hH.g14, hD.1, hD.2.1]
  refine ⟨hH.wr.o, hH.wk.o, 1, 0, _, by omega, Nat.le_refl _, hX ▸ cb, PV.use ?_⟩
  refine B_X8_walkLit_21 hC hH.o ?_
  generalize hm1 : up (up (up (up (up (up μ (x + 505) 4 0) (x + 505) 5 (σ 0 0)) (x + 505) 6 (σ 0 1)) (x + 505) 7 (hlf (σ 0 0).toNat)) (x + 505) 8 (σ 0 1 ^ hlf (σ 0 0).toNat)) (x + 505) 9 (σ 0 1 ^ ((σ 0 0).toNat - hlf (σ 0 0).toNat)) = m1
  have f1 : ∀ y j, (y < x + 505 ∨ x + 510 < y) → m1 y j = μ y j := fun y j z => by rw [← hm1, up_ne (by omega), up_ne (by omega), up_ne (by omega), up_ne (by omega), up_ne (by omega), up_ne (by omega)]
  have C1 : CelS m1 (x + 505) (σ 0 1) (σ 0 0).toNat 0 (fun _ => 0) (fun _ => sA σ 0) (fun _ => 0) := by
    refine ⟨⟨?_, ?_, ?_, ?_, ?_, ?_⟩, fun k z1 z2 => by omega⟩
    · rw [← hm1, up_ne (by omega), up_ne (by omega), up_ne (by omega), up_ne (by omega), up_ne (by omega), up_same]; rfl
    · rw [← hm1, up_ne (by omega), up_ne (by omega), up_ne (by omega), up_ne (by omega), up_same, en]
    · rw [← hm1, up_ne (by omega), up_ne (by omega), up_ne (by omega), up_same]
    · rw [← hm1, up_ne (by omega), up_ne (by omega), up_same]
    · rw [← hm1, up_ne (by omega), up_same]
    · rw [← hm1, up_same]
  have loop := rem_ind (n := σ 0 0) (P := fun i => ∀ (K : Nat) (nm : Int → Int) (m : Mu), (K : Int) ≤ i → (∀ k : Int, 0 ≤ k → k < K → 0 ≤ nm k ∧ nm k < i ∧ σ 2 (nm k) = 0) → (∀ v lev fv Z, xRw (litN σ 0) v lev fv i.toNat Z = xRwM (litN σ 0) nm v lev fv K Z) → CelS m (x + 505) (σ 0 1) (σ 0 0).toNat K nm (fun k => sA σ (nm k)) nm → (∀ y j, (y < x + 505 ∨ x + 510 < y) → m y j = μ y j) → V X G (Qm X G 0 P) 0 23 [aR x, aI i] [] γ m) (fun i i0 i1 ih K nm m hK hnm hrw mC fm => ?_)
  · exact loop 0 (by omega) hn.1 0 (fun _ => 0) m1 (by omega) (fun k z1 z2 => by omega) (fun _ _ _ _ => rfl) C1 f1
  · have mR : RepC m x w σ → True := fun _ => trivial
    have mD : WirS m w σ := hD.fr2 (fun y j z1 z2 => fm y j (by omega))
    have hroomK : (K : Int) * (σ 0 1 ^ hlf (σ 0 0).toNat + σ 0 1 ^ ((σ 0 0).toNat - hlf (σ 0 0).toNat)) ≤ 7200 := by
      have p1 := pw_pos q0 (hlf (σ 0 0).toNat)
      have p2 := pw_pos q0 ((σ 0 0).toNat - hlf (σ 0 0).toNat)
      have := Int.mul_le_mul_of_nonneg_right (show (K : Int) ≤ ((σ 0 0).toNat : Int) by omega) (show 0 ≤ σ 0 1 ^ hlf (σ 0 0).toNat + σ 0 1 ^ ((σ 0 0).toNat - hlf (σ 0 0).toNat) by omega)
      omega
    refine B_X8_walkLit_23 hC hH.o ?_
    rw [hH.g1, hH.g14, hH.g4, mD.1, hH.wr.2.1, hH.wr.2.2.2.1]
    refine ⟨hH.wr.o, fun h => ?_, fun h => ?_⟩
    · obtain rfl : i = σ 0 0 := by omega
      have c1 := c_codeOf (G := G) (γ := γ) (μ := m) hl 1 (u := x + 505) (r := x + 473) (q := σ 0 1) (c := (σ 0 0).toNat) (f := σ 3) hH.wk hH.s473 mC.1.2.1 mC.1.2.2.1 hq (by omega) h20 (fun j z1 z2 => by rw [fm _ _ (by omega)]; exact (hR.2.2.1 j z1 (by omega)).1) (fun j z1 z2 => (hW.st j z1 (by omega)).1)
      refine ⟨hH.wk.o, 1, 0, _, by omega, Nat.le_refl _, hX ▸ c1, PI.use ?_⟩
      refine B_X8_walkLit_85 hC hH.o ?_
      rw [hH.g14, hH.g5]
      have c2 := c_codeOf (G := G) (γ := γ) (μ := m) hl 1 (u := x + 505) (r := x + 474) (q := σ 0 1) (c := (σ 0 0).toNat) (f := σ 4) hH.wk hH.s474 mC.1.2.1 mC.1.2.2.1 hq (by omega) h20 (fun j z1 z2 => by rw [fm _ _ (by omega)]; exact (hR.2.2.1 j z1 (by omega)).2) (fun j z1 z2 => (hW.wi j z1 (by omega)).1)
      refine ⟨hH.wk.o, 1, 0, _, by omega, Nat.le_refl _, hX ▸ c2, PI.use ?_⟩
      have SS : WkS m (x + 505) K nm (lnN σ) (litN σ 0) := mC.wk hq eN (by omega) hroomK (fun k z1 z2 => by have := hnm k z1 z2; omega) (fun k z1 z2 v z3 z4 => by
        obtain ⟨a1, a2, a3⟩ := hnm k z1 z2
        unfold litN mvd
        by_cases e : dgF (σ 0 1) v (nm k) = 0
        · rw [if_pos (Or.inr ⟨rfl, e⟩), if_pos ⟨a1, by omega, by rw [Int.sub_zero]; exact e⟩]
        · rw [if_neg (fun z => z.elim (fun z => z a3) (fun z => e z.2)), if_neg (fun z => z.1 rfl), if_neg (fun z => e (by have := z.2.2; rw [Int.sub_zero] at this; exact this))]
          refine vlN_cong _ (fun j _ _ => ?_)
          show (dgF (σ 0 1) v j + (if (0 : Int) = 0 then sA σ (nm k) j else σ 0 1 - sA σ (nm k) j)) % σ 0 1 = _
          rw [if_pos rfl, Int.zero_add])
      refine B_X8_walkLit_96 hC ⟨hH.wk.o, 2, 0, _, by omega, Nat.le_refl _, hX ▸ c_go hl 2 (by omega) (n := (σ 0 0).toNat) hH.wk SS N20 hs (by omega) ok0 (fun k z1 z2 => by have := hnm k z1 z2; omega) hrw, ?_⟩
      rintro r γ m2 ⟨rfl, rfl, ⟨k, k1, k2, k3, k4, k5, -, -⟩, k6⟩
      have lm := lit_math hW h20 k1 k2
      refine B_X8_walkLit_99 hC ⟨Nat.le_refl _, hP _ _ _ ⟨rfl, rfl, ⟨by rw [k4]; exact lm.1, by rw [k5]; exact lm.2.1, by rw [k3]; exact lm.2.2⟩, fun y j z => by rw [k6 y j (by omega) (by omega) (by omega) (by omega)]; exact fm y j z⟩⟩
    · have hlt : i < σ 0 0 := by omega
      have ei : (i + 1).toNat = i.toNat + 1 := by omega
      have hww := hH.wr.2.2.2.2.2.2.2.2.2 i i0 (by omega)
      rw [mD.2.2.2.2.2 i i0 hlt, hww.1.1]
      refine ⟨ixO hH.wr.2.2.2.2.1 (by omega), fun e => ?_, fun e => ⟨ixO hH.wr.2.2.1 (by omega), hH.wk.o, ?_⟩⟩
      · refine B_X8_walkLit_64 hC hH.o ⟨by constructor <;> omega, ih hlt K nm m (by omega) (fun k z1 z2 => by have := hnm k z1 z2; exact ⟨this.1, by omega, this.2.2⟩) (fun v lev fv Z => ?_) mC fm⟩
        rw [ei]
        show xMv (litN σ 0 v i.toNat) _ _ _ _ = _
        have : litN σ 0 v (i.toNat : Nat) = -1 := by
          rw [Int.toNat_of_nonneg i0]
          unfold litN
          rw [if_pos (Or.inl e)]
        unfold xMv
        rw [if_pos this]
        exact hrw v lev fv Z
      · have hA := mD.2.2.2.2.1 i i0 hlt
        have hrm : ((K : Int) + 1) * (σ 0 1 ^ hlf (σ 0 0).toNat + σ 0 1 ^ ((σ 0 0).toNat - hlf (σ 0 0).toNat)) ≤ 7200 := by
          have p1 := pw_pos q0 (hlf (σ 0 0).toNat)
          have p2 := pw_pos q0 ((σ 0 0).toNat - hlf (σ 0 0).toNat)
          have := Int.mul_le_mul_of_nonneg_right (show (K : Int) + 1 ≤ ((σ 0 0).toNat : Int) by omega) (show 0 ≤ σ 0 1 ^ hlf (σ 0 0).toNat + σ 0 1 ^ ((σ 0 0).toNat - hlf (σ 0 0).toNat) by omega)
          omega
        refine ⟨3, 0, _, hd, Nat.le_refl _, hX ▸ c_addMove hl 3 (by omega) (st0 := sA σ i) hH.wk hww.1.2 (by omega) hq h20 (by omega) mC (by omega) hrm (fun j z1 z2 => ⟨hA.1 j z1 (by omega), (hA.2 j z1 (by omega)).1, (hA.2 j z1 (by omega)).2⟩), ?_⟩
        · rintro r γ m2 ⟨rfl, rfl, b1, b2⟩
          have est : fup (fun k => sA σ (nm k)) K (sA σ i) = fun k => sA σ (fup nm K i k) := by
            funext k
            by_cases e2 : k = K
            · rw [e2, fup_s, fup_s]
            · rw [fup_n e2, fup_n e2]
          rw [est] at b1
          refine B_X8_walkLit_64 hC hH.o ⟨by constructor <;> omega, ih hlt (K + 1) (fup nm K i) m2 (by omega) (fun k z1 z2 => ?_) (fun v lev fv Z => ?_) b1 (fun y j z => by rw [b2 y j (by omega) (by omega) (by omega)]; exact fm y j z)⟩
          · by_cases e2 : k = K
            · rw [e2, fup_s]
              exact ⟨i0, by omega, e⟩
            · rw [fup_n e2]
              have := hnm k z1 (by omega)
              exact ⟨this.1, by omega, this.2.2⟩
          · rw [ei]
            show xMv (litN σ 0 v (i.toNat : Nat)) (i.toNat : Nat) lev fv (xRw (litN σ 0) v lev fv i.toNat Z) = xMv (litN σ 0 v (fup nm K i K)) (fup nm K i K) lev fv (xRwM (litN σ 0) (fup nm K i) v lev fv K Z)
            rw [fup_s, Int.toNat_of_nonneg i0, hrw, xRwM_cong (nm' := fup nm K i) K (fun k z1 z2 => (fup_n (by omega)).symm)]
theorem c_lit (hl : l.stackTraces = false) (d : Nat) (hd : 6 ≤ d) {x w p y : Int} (hH : HallAt G γ x w p) (hR : RepC μ x w σ) (hW : Wf σ) : Cnx l G yX8_lit cX8_lit 2 (some .int) d 1 [aR x, aI y] γ μ (PCo μ γ x w σ (if 0 ≤ y ∧ y ≤ 2 then litF σ y else 0) (if 0 ≤ y ∧ y ≤ 2 then 0 else 1)) (PCx NSEx μ γ x w σ (if 0 ≤ y ∧ y ≤ 2 then 0 else 1)) := by
  refine Cnx.ofP hl (by decide) (noLc nlR (noL1 nlI)) rfl (fun P Y hP hY X hX hC hx => B_X8_lit_0 hC hx hH.o ?_)
  have hwb := hH.wb
  have hn := hW.1
  have hq := hW.2.1.b
  have bad : ¬ (0 ≤ y ∧ y ≤ 2) → Y NSEx γ μ := fun h => hY _ _ _ ⟨rfl, by rw [if_neg h]; decide, rfl, hR, frC_rf⟩
  rw [hH.g1, hR.2.1.1.1, hR.2.1.1.2.1]
  have ce := c_exceeds (G := G) (γ := γ) (μ := μ) hl 0 (q := σ 0 1) (most := 20000) (many := (σ 0 0).toNat) hq (by omega) (by omega)
  rw [show ((σ 0 0).toNat : Int) = σ 0 0 by omega] at ce
  refine ⟨fun h => ⟨Nat.le_refl _, Nat.le_refl _, hd, bad (by omega)⟩, fun h => ⟨fun h2 => ⟨hH.wr.o, 0, 0, _, by omega, by omega, hX ▸ ce, PI.use ?_⟩, fun h2 => ⟨Nat.le_refl _, Nat.le_refl _, hd, bad (by omega)⟩⟩⟩
  have hy : 0 ≤ y ∧ y ≤ 2 := by omega
  rw [if_pos hy, if_pos hy] at hP
  refine B_X8_lit_39 hC hx hH.o ⟨fun h3 => ?_, fun h3 => ⟨Nat.zero_le _, hP _ _ _ ⟨rfl, ?_, rfl, hR, frC_rf⟩⟩⟩
  · have h20 : σ 0 1 ^ (σ 0 0).toNat ≤ 20000 := by
      rcases Int.lt_or_le 20000 (σ 0 1 ^ (σ 0 0).toNat) with z | z
      · rw [if_pos z] at h3; exact absurd h3 (by decide)
      · exact z
    have fin : ∀ m : Mu, RepC m x w σ → frB μ m x (x + 518) → m x 18 ≠ 0 → V X G (Qx X G 1 P Y) (0 + 0) 61 [aR x, aI y] [] γ m := fun m mR mf m18 => by
      obtain ⟨a1, a2, a3⟩ := mR.2.2.2.2.2.2.2.1 m18
      refine B_X8_lit_61 hC hx hH.o ?_
      rw [hH.g14, a1, a2, a3]
      refine ⟨fun e => ⟨fun e2 => ⟨hH.wk.o, Nat.zero_le _, hP _ _ _ ⟨rfl, ?_, rfl, mR, mf⟩⟩, fun e2 => ⟨hH.wk.o, Nat.zero_le _, hP _ _ _ ⟨rfl, by rw [e2], rfl, mR, mf⟩⟩⟩, fun e => ⟨hH.wk.o, Nat.zero_le _, hP _ _ _ ⟨rfl, by rw [e], rfl, mR, mf⟩⟩⟩
      rw [show y = 2 by omega]
    refine ⟨fun h4 => fin μ hR frC_rf h4, fun h4 => ⟨4, 0, _, by omega, by omega, hX ▸ c_walkLit hl 4 (by omega) hH hR hW h20, ?_⟩⟩
    rintro r γ m ⟨rfl, rfl, b1, b2⟩
    refine B_X8_lit_56 hC hx hH.o (fin _ (hR.lt2 hwb (fun y j z1 z2 z3 => by rw [up_ne (by omega)]; exact b2 y j (by omega)) ⟨fun _ => by rw [up_ne (by omega), up_ne (by omega), up_ne (by omega)]; exact b1, fun z => ?_⟩) (fun y j z => by rw [up_ne (by omega)]; exact b2 y j (by omega)) (by rw [up_same]; decide))
    rw [up_ne (by omega), b2 _ _ (by omega)] at z
    rw [up_ne (by omega), up_ne (by omega), b2 _ _ (by omega), b2 _ _ (by omega)]
    exact hR.2.2.2.2.2.2.2.2 z
  · have : 20000 < σ 0 1 ^ (σ 0 0).toNat := by
      rcases Int.lt_or_le 20000 (σ 0 1 ^ (σ 0 0).toNat) with z | z
      · exact z
      · rw [if_neg (by omega)] at h3; exact absurd rfl h3
    unfold litF
    rw [if_pos this]
end CLit
