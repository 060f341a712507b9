/-! the reference: hall -/
def hS0 : PT := (0, 0, -1)
def hl1 (τ : Int → Int) (N : Int) : PT := pNd τ N hS0 (if tN τ N 0 = 9 then 1 else 0)
def hlq (τ : Int → Int) (N : Int) : Int := vlP τ N (hl1 τ N)
def hl2 (τ : Int → Int) (N : Int) : PT := pNm τ N (hl1 τ N) 2 5
def hl3 (τ : Int → Int) (N : Int) : PT := if (hl2 τ N).fk = 0 ∧ hlq τ N = 4 then ((hl2 τ N).p, 2, tS τ N (hl1 τ N).p) else hl2 τ N
def hl4 (τ : Int → Int) (N : Int) : PT := sg τ N (hl3 τ N)
def hlB (τ : Int → Int) (N : Int) : PT × Int × Int × Int × Int := bgF τ N (hl4 τ N)
def hl6 (τ : Int → Int) (N : Int) : PT := sg τ N (hlB τ N).1
def clN (τ : Int → Int) (N n q w : Int) (s : PT) : Nat → PT × AC
  | 0 => (s, ac0)
  | k + 1 => if (clN τ N n q w s k).1.fk = 0 ∧ tK τ N (clN τ N n q w s k).1.p ≠ 0 then clF τ N n q w k (clN τ N n q w s k).1 (clN τ N n q w s k).2 else clN τ N n q w s k
theorem clN_s {τ : Int → Int} {N n q w : Int} {s : PT} {k : Nat} : clN τ N n q w s (k + 1) = if (clN τ N n q w s k).1.fk = 0 ∧ tK τ N (clN τ N n q w s k).1.p ≠ 0 then clF τ N n q w k (clN τ N n q w s k).1 (clN τ N n q w s k).2 else clN τ N n q w s k := rfl
def hlR (τ : Int → Int) (N : Int) : PT × AC := clN τ N (hlB τ N).2.1 (hlq τ N) (hlB τ N).2.2.1 (hl6 τ N) 41
def halF (σ : Mu) (N : Int) : Mu := if (hlR (σ 6) N).1.fk = 0 then halT (hlB (σ 6) N).2.1 (hlq (σ 6) N) (hlB (σ 6) N).2.2.1 (hlB (σ 6) N).2.2.2.1 (hlB (σ 6) N).2.2.2.2 (hlR (σ 6) N).2 σ else up (up σ 0 6 0) 0 7 (hlR (σ 6) N).1.fp
theorem hl3_q {τ : Int → Int} {N : Int} (h : (hl3 τ N).fk = 0) : qP (hlq τ N) ∧ (hl2 τ N).fk = 0 ∧ hl3 τ N = hl2 τ N := by
  unfold hl3 at h ⊢
  split at h
  · exact absurd h (show ¬ (2 : Int) = 0 by decide)
  · rename_i e
    rw [if_neg e]
    obtain ⟨h1, h2, h3, -⟩ := pNm_ok (show (pNm τ N (hl1 τ N) 2 5).fk = 0 from h)
    have h4 : ¬ hlq τ N = 4 := fun w => e ⟨h, w⟩
    unfold hlq at h4 ⊢
    exact ⟨by unfold qP; omega, h, rfl⟩
theorem bgF_fk {τ : Int → Int} {N : Int} {s : PT} (h : (bgF τ N s).1.fk = 0) : s.fk = 0 := by
  unfold bgF at h
  split at h
  · assumption
  · exact h
theorem hl6_ok {τ : Int → Int} {N : Int} (h : (hl6 τ N).fk = 0) : hdO (hlB τ N).2.1 (hlq τ N) (hlB τ N).2.2.1 (hlB τ N).2.2.2.1 (hlB τ N).2.2.2.2 := by
  have h1 := (pNd_ok (show (pNd τ N (hlB τ N).1 _).fk = 0 from h)).1
  have h2 := bgF_fk (show (bgF τ N (hl4 τ N)).1.fk = 0 from h1)
  have h3 := (pNd_ok (show (pNd τ N (hl3 τ N) _).fk = 0 from h2)).1
  exact bgF_ok (hl3_q h3).1 h1 h2
theorem pIn_sg {τ : Int → Int} {N : Int} {s : PT} (h : pIn N s) : pIn N (sg τ N s) := pIn_nd h
theorem pIn_cl {τ : Int → Int} {N n q w c : Int} {s : PT} {a : AC} (h : pIn N s) : pIn N (clF τ N n q w c s a).1 := by
  have c0 : pIn N (cl0 τ N w c s) := by
    unfold cl0
    split
    · refine pIn_wr ?_
      split
      · refine pIn_wr ?_
        split
        · exact pIn_wr h
        · exact h
      · split
        · exact pIn_wr h
        · exact h
    · split
      · refine pIn_wr ?_
        split
        · exact pIn_wr h
        · exact h
      · split
        · exact pIn_wr h
        · exact h
  unfold clF
  split
  · split
    · exact pIn_sg (pIn_by (pIn_go h))
    · split
      · exact pIn_sg (pIn_lm (pIn_lm (pIn_go h)))
      · split
        · exact pIn_sg (pIn_by (pIn_lm (pIn_nd (pIn_lm (pIn_go h)))))
        · exact pIn_sg (pIn_lm (pIn_go h))
  · exact c0
theorem pIn_bg {τ : Int → Int} {N : Int} {s : PT} (h : pIn N s) : pIn N (bgF τ N s).1 := by
  unfold bgF
  split
  · split
    · dsimp only
      split
      · exact pIn_nm (pIn_nm (pIn_nd h))
      · exact pIn_go (pIn_nm (pIn_nm (pIn_nd h)))
    · exact pIn_nm (pIn_nd h)
  · exact h
theorem pIn_6 {τ : Int → Int} {N : Int} (hN : 0 ≤ N) : pIn N (hl6 τ N) := by
  refine pIn_sg (pIn_bg (pIn_sg ?_))
  unfold hl3
  split
  · exact pIn_nm (s := hl1 τ N) (τ := τ) (lo := 2) (hi := 5) (pIn_nd ⟨Int.le_refl _, hN⟩)
  · exact pIn_nm (pIn_nd ⟨Int.le_refl _, hN⟩)
theorem clN_ok {τ : Int → Int} {N n q w : Int} {s : PT} (hs : pIn N s) (hq : qP q) : ∀ k : Nat, AcO n k (clN τ N n q w s k).2 ∧ pIn N (clN τ N n q w s k).1 ∧ noW w (clN τ N n q w s k).2
  | 0 => ⟨⟨fun k _ _ => ⟨Int.le_refl _, by show (0 : Int) ≤ 5 * 0; decide⟩, ⟨Int.le_refl _, Int.le_refl _⟩, fun i z1 z2 => by have : i < (0 : Int) := z2; omega, fun _ _ _ => Or.inl rfl, fun _ _ => Or.inr rfl⟩, hs, Or.inr rfl⟩
  | k + 1 => by
    obtain ⟨h1, h2, h3⟩ := clN_ok hs hq k
    rw [clN_s]
    split
    · exact ⟨clF_ok h2 hq h1 (by omega), pIn_cl h2, clF_wc h3⟩
    · exact ⟨h1.mono (by omega), h2, h3⟩
theorem clN_stop {τ : Int → Int} {N n q w : Int} {s : PT} {k : Nat} (h : ¬ ((clN τ N n q w s k).1.fk = 0 ∧ tK τ N (clN τ N n q w s k).1.p ≠ 0)) : ∀ j : Nat, clN τ N n q w s (k + j) = clN τ N n q w s k
  | 0 => rfl
  | j + 1 => by
    have ih := clN_stop h j
    show clN τ N n q w s ((k + j) + 1) = _
    rw [clN_s, ih, if_neg h]
theorem clN_41 {τ : Int → Int} {N n q w : Int} {s : PT} : ¬ ((clN τ N n q w s 41).1.fk = 0 ∧ tK τ N (clN τ N n q w s 41).1.p ≠ 0) := by
  rw [show (41 : Nat) = 40 + 1 from rfl, clN_s]
  split
  · exact fun z => clF_40 z.1
  · assumption
/-- without a fault there is no place of one -/
def fpI (s : PT) : Prop := s.fk = 0 → s.fp = -1
theorem fpI_nd {τ : Int → Int} {N c : Int} {s : PT} (h : fpI s) : fpI (pNd τ N s c) := fun e => by
  obtain ⟨h1, -, h3⟩ := pNd_ok e
  rw [h3]
  exact h h1
theorem fpI_nm {τ : Int → Int} {N lo hi : Int} {s : PT} (h : fpI s) : fpI (pNm τ N s lo hi) := fun e => by
  obtain ⟨h1, -, -, h3⟩ := pNm_ok e
  rw [h3]
  exact h h1
theorem fpI_lm {τ : Int → Int} {N n ot : Int} {s : PT} (h : fpI s) : fpI (pLm τ N n s ot) := fun e => by
  obtain ⟨h1, -, -, -, h3⟩ := pLm_ok e
  rw [h3]
  exact h h1
theorem fpI_by {τ : Int → Int} {N q : Int} {s : PT} (h : fpI s) : fpI (pBy τ N q s) := by
  unfold pBy
  split
  · exact fpI_nm (show fpI (pGo τ N s) from h)
  · exact h
theorem fpI_cl {τ : Int → Int} {N n q w c : Int} {s : PT} {a : AC} (h : fpI s) : fpI (clF τ N n q w c s a).1 := by
  have hg : fpI (pGo τ N s) := h
  unfold clF
  split
  · split
    · exact fpI_nd (fpI_by hg)
    · split
      · exact fpI_nd (fpI_lm (fpI_lm hg))
      · split
        · exact fpI_nd (fpI_by (fpI_lm (fpI_nd (fpI_lm hg))))
        · exact fpI_nd (fpI_lm hg)
  · rename_i e
    exact fun w => absurd w e
theorem fpI_bg {τ : Int → Int} {N : Int} {s : PT} (h : fpI s) : fpI (bgF τ N s).1 := by
  unfold bgF
  split
  · split
    · dsimp only
      have h3 : fpI (bg3 τ N s) := fpI_nm (fpI_nm (fpI_nd h))
      split
      · exact h3
      · exact h3
    · exact fpI_nm (fpI_nd h)
  · exact h
theorem fpI_R {τ : Int → Int} {N : Int} : fpI (hlR τ N).1 := by
  have h6 : fpI (hl6 τ N) := by
    refine fpI_nd (fpI_bg (fpI_nd ?_))
    intro e
    obtain ⟨-, h2, h3⟩ := hl3_q e
    rw [h3]
    exact fpI_nm (fpI_nd (fun _ => rfl)) h2
  have key : ∀ k : Nat, fpI (clN τ N (hlB τ N).2.1 (hlq τ N) (hlB τ N).2.2.1 (hl6 τ N) k).1 := by
    intro k
    induction k with
    | zero => exact h6
    | succ k ih =>
      rw [clN_s]
      split
      · exact fpI_cl ih
      · exact ih
  exact key 41
theorem halT_0 {n q w h ed : Int} {a : AC} {σ : Mu} : (halT n q w h ed a σ 0 0 = n ∧ halT n q w h ed a σ 0 1 = q ∧ halT n q w h ed a σ 0 2 = w ∧ halT n q w h ed a σ 0 3 = h ∧ halT n q w h ed a σ 0 4 = ed) ∧ (halT n q w h ed a σ 0 5 = 0 ∧ halT n q w h ed a σ 0 6 = 0 ∧ halT n q w h ed a σ 0 7 = -1 ∧ halT n q w h ed a σ 0 8 = 0 ∧ halT n q w h ed a σ 0 9 = 0) := by
  unfold halT
  simp
theorem halT_1 {n q w h ed j : Int} {a : AC} {σ : Mu} : halT n q w h ed a σ 1 j = finA n q w h ed a (j / 36) (j % 36) % q ∧ halT n q w h ed a σ 2 j = a.jm j ∧ halT n q w h ed a σ 3 j = 0 ∧ halT n q w h ed a σ 4 j = 0 ∧ halT n q w h ed a σ 7 j = 0 ∧ halT n q w h ed a σ 8 j = σ 8 j := by
  unfold halT
  simp
theorem halT_sA {n q w h ed x y : Int} {a : AC} {σ : Mu} (hy : 0 ≤ y ∧ y < 36) : sA (halT n q w h ed a σ) x y = finA n q w h ed a x y % q := by
  show halT n q w h ed a σ 1 (36 * x + y) = _
  rw [halT_1.1, show (36 * x + y) / 36 = x by omega, show (36 * x + y) % 36 = y by omega]
theorem Wf_hal {n q w h ed c : Int} {a : AC} {σ : Mu} (hO : hdO n q w h ed) (hA : AcO n c a) : Wf (halT n q w h ed a σ) := by
  have hn := hO.n
  have hq := hO.1.b
  obtain ⟨⟨z0, z1, z2, z3, z4⟩, z5, z6, z7, z8, z9⟩ := halT_0 (n := n) (q := q) (w := w) (h := h) (ed := ed) (a := a) (σ := σ)
  unfold Wf
  rw [z0, z1, z2, z3, z4, z5, z6, z8, z9]
  refine ⟨by omega, hO.1, ?_, by omega, by omega, fun x k1 k2 j k3 k4 => ?_, fun x k1 k2 => ?_, fun j k1 k2 => ?_, fun j k1 k2 => ?_, fun j k1 k2 => by omega, fun j k1 k2 => by omega, fun s k1 k2 => ?_, fun z => absurd rfl z, fun z => absurd rfl z⟩
  · rcases hO.2 with ⟨a1, a2, a3, a4⟩ | ⟨a1, a2, a3, a4⟩
    · exact Or.inl ⟨a1, a4, a3⟩
    · exact Or.inr ⟨a1.1, a1.2, a2.1, a2.2, a3, a4.1, a4.2⟩
  · rw [halT_sA (by omega)]
    exact ⟨Int.emod_nonneg _ (by omega), Int.emod_lt_of_pos _ (by omega)⟩
  · rw [halT_1.2.1]
    exact hA.2.2.2.1 x k1 k2
  · rw [halT_1.2.2.1]
    omega
  · rw [halT_1.2.2.2.1]
    omega
  · rw [halT_1.2.2.2.2.1]
    exact ⟨Or.inl rfl, fun z => absurd rfl z⟩
section MHall
variable {l : Launch} {G : Gx} {γ μ σ : Mu}
set_option maxHeartbeats 2000000 in
theorem m_hall (hl : l.stackTraces = false) (d : Nat) (hd : 4 < d) {b x : Int} (hS : ModS G b) (hG : ModG γ b) (hR : RepR μ b σ) (hW : Wf σ) : Cn l G yX9_hall cX9_hall 4 (some .int) d 0 [aR b, aI x] γ μ (PR μ γ b (if 0 ≤ x ∧ x ≤ σ 0 6 then halF σ x else σ) (if 0 ≤ x ∧ x ≤ σ 0 6 then (hlR (σ 6) x).1.fk else 0) (if 0 ≤ x ∧ x ≤ σ 0 6 then 0 else 1)) := by
  refine Cn.ofP hl (plainFor_of_name (by decide)) (noLc nlR (noL1 nlI)) rfl (fun P hP o1 o3 X hX hC => B_X9_hall_0 hC hS.o ?_)
  have htp := hW.tp
  rw [hR.2.2.2.2.2.2.1]
  have bad : ¬ (0 ≤ x ∧ x ≤ σ 0 6) → V X G (Qm X G 0 P) 0 27 [aR b, aI x, aD, aD] [aI 0] γ (up (up μ b 0 0) b 0 1) := fun hx => by
    simp only [if_neg hx] at hP
    refine B_X9_hall_27 hC hS.o ?_
    (repeat' (first | (with_reducible exact ixO (by assumption) (by omega)) | with_reducible apply And.intro | with_reducible intro)) <;> (try first | omega | (with_reducible apply Nat.le_refl) | rfl | exact absurd trivial (by assumption))
    exact hP _ _ _ ⟨rfl, rfl, up_same, (hR.t hW).t hW, frB_up (frB_up frB_rf (by omega)) (by omega)⟩
  refine ⟨fun h => ?_, fun h => ⟨fun h2 => ?_, fun h2 => ?_⟩⟩
  · refine ⟨0, 0, _, by omega, Nat.le_refl _, hX ▸ m_right hl 0 hS (by first | exact up_same | assumption | (simp (disch := first | assumption | omega) only [row_off, row_in, row_out, up_same, up_ne, cpy_off, rwo_off, rwo_at, rwo_out, mg6, mg7, mg8, mg9, mg10, mg12, mg30, mg31, mg32, mg33, mg35, mg36, mg37, mg38, mg39, mg43, mg44, mg45, mg46, mg47, mg48, mg49, mg50, mg53, mg54, mg55, mg56, mg57, mg58, mg59, mg60, mg65, mg66, mg67, mg68, mg69, mg70, mg71, mg72] ; done)), PI.use ?_⟩
    rw [if_pos rfl, if_pos rfl]
    exact bad (by omega)
  · refine ⟨0, 0, _, by omega, Nat.le_refl _, hX ▸ m_right hl 0 hS (by first | exact up_same | assumption | (simp (disch := first | assumption | omega) only [row_off, row_in, row_out, up_same, up_ne, cpy_off, rwo_off, rwo_at, rwo_out, mg6, mg7, mg8, mg9, mg10, mg12, mg30, mg31, mg32, mg33, mg35, mg36, mg37, mg38, mg39, mg43, mg44, mg45, mg46, mg47, mg48, mg49, mg50, mg53, mg54, mg55, mg56, mg57, mg58, mg59, mg60, mg65, mg66, mg67, mg68, mg69, mg70, mg71, mg72] ; done)), PI.use ?_⟩
    rw [if_pos rfl, if_pos rfl]
    exact bad (by omega)
  refine ⟨0, 0, _, by omega, Nat.le_refl _, hX ▸ m_right hl 0 hS (by first | exact up_same | assumption | (simp (disch := first | assumption | omega) only [row_off, row_in, row_out, up_same, up_ne, cpy_off, rwo_off, rwo_at, rwo_out, mg6, mg7, mg8, mg9, mg10, mg12, mg30, mg31, mg32, mg33, mg35, mg36, mg37, mg38, mg39, mg43, mg44, mg45, mg46, mg47, mg48, mg49, mg50, mg53, mg54, mg55, mg56, mg57, mg58, mg59, mg60, mg65, mg66, mg67, mg68, mg69, mg70, mg71, mg72] ; done)), PI.use ?_⟩
  rw [if_neg (by decide), if_neg (by decide)]
  have hx : 0 ≤ x ∧ x ≤ σ 0 6 := by omega
  simp only [if_pos hx] at hP
  have mR := hR.t (z := 0) hW
  have m0 : up μ b 0 0 b 0 = 0 := up_same
  have mf : frB μ (up μ b 0 0) b (b + 40) := frB_up frB_rf (by omega)
  generalize up μ b 0 0 = m at *
  refine B_X9_hall_27 hC hS.o ⟨fun _ => ?_, fun w => absurd w (by decide)⟩
  generalize hm1 : up (up (up (up (up (up (up (up (up (up (up m b 13 0) b 15 (-1)) b 14 0) b 16 x) b 17 0) b 23 0) b 25 0) b 26 0) b 27 (-1)) b 28 0) b 29 0 = m1
  have F1 : ∀ y j, (y = b → j < 13 ∨ 29 < j) → m1 y j = m y j := fun y j h => by
    rw [← hm1, up_ne (by omega), up_ne (by omega), up_ne (by omega), up_ne (by omega), up_ne (by omega), up_ne (by omega), up_ne (by omega), up_ne (by omega), up_ne (by omega), up_ne (by omega), up_ne (by omega)]
  have v13 : m1 b 13 = 0 := by rw [← hm1]; simp (disch := first | assumption | omega) only [row_off, row_in, row_out, up_same, up_ne]
  have v14 : m1 b 14 = 0 := by rw [← hm1]; simp (disch := first | assumption | omega) only [row_off, row_in, row_out, up_same, up_ne]
  have v15 : m1 b 15 = -1 := by rw [← hm1]; simp (disch := first | assumption | omega) only [row_off, row_in, row_out, up_same, up_ne]
  have v16 : m1 b 16 = x := by rw [← hm1]; simp (disch := first | assumption | omega) only [row_off, row_in, row_out, up_same, up_ne]
  have v17 : m1 b 17 = 0 := by rw [← hm1]; simp (disch := first | assumption | omega) only [row_off, row_in, row_out, up_same, up_ne]
  have v23 : m1 b 23 = 0 := by rw [← hm1]; simp (disch := first | assumption | omega) only [row_off, row_in, row_out, up_same, up_ne]
  have v25 : m1 b 25 = 0 := by rw [← hm1]; simp (disch := first | assumption | omega) only [row_off, row_in, row_out, up_same, up_ne]
  have v26 : m1 b 26 = 0 := by rw [← hm1]; simp (disch := first | assumption | omega) only [row_off, row_in, row_out, up_same, up_ne]
  have v27 : m1 b 27 = -1 := by rw [← hm1]; simp (disch := first | assumption | omega) only [row_off, row_in, row_out, up_same, up_ne]
  have v28 : m1 b 28 = 0 := by rw [← hm1]; simp (disch := first | assumption | omega) only [row_off, row_in, row_out, up_same, up_ne]
  have v29 : m1 b 29 = 0 := by rw [← hm1]; simp (disch := first | assumption | omega) only [row_off, row_in, row_out, up_same, up_ne]
  clear hm1
  have s7 := ms7 hS; have s10 := ms10 hS
  generalize hτ : σ 6 = τ at *
  have hT : txt τ x := ⟨by have := htp.1; omega, fun j z1 z2 => htp.2 j z1 (by omega)⟩
  have X1 : TxR m1 b τ x := fun j z1 z2 => by
    rw [F1 _ _ (by omega), ← hτ]
    exact mR.2.2.2.2.2.2.2.2.2.2.2.2.2.2.2.1 j z1 (by omega)
  -- the end: faults
  have bads : ∀ m2 : Mu, (hlR τ x).1.fk ≠ 0 → m2 b 15 = (hlR τ x).1.fp → FH m1 m2 b → P (some (aI (hlR τ x).1.fk)) γ m2 := fun m2 hne e15 f2 => by
    unfold halF at hP
    rw [hτ] at hP
    simp only [if_neg hne] at hP
    have ff : ∀ y j, (y < b + 7 ∨ b + 10 < y) → (y = b → j < 13 ∨ 29 < j) → m2 y j = m y j := fun y j z1 z2 => by rw [f2 y j z1 (by omega), F1 y j (by omega)]
    have hR := mR
    obtain ⟨r1, r2, r3, r4, r5, r6, r7, r8, r9, r10, ra1, ra2, ra3, ra4, ra5, ra6, ra7, ra8, ra9, ra10, rk, rh⟩ := id hR
    refine hP _ _ _ ⟨rfl, rfl, by rw [ff _ _ (by omega) (by omega)]; exact m0, ?_, fun y j h => by rw [ff _ _ (by omega) (by omega)]; exact mf y j h⟩
    refine RepR.mk2 hR hW ⟨by simp (disch := first | assumption | omega) only [row_off, row_in, row_out, up_same, up_ne, cpy_off, rwo_off, rwo_at, rwo_out, mg6, mg7, mg8, mg9, mg10, mg12, mg30, mg31, mg32, mg33, mg35, mg36, mg37, mg38, mg39, mg43, mg44, mg45, mg46, mg47, mg48, mg49, mg50, mg53, mg54, mg55, mg56, mg57, mg58, mg59, mg60, mg65, mg66, mg67, mg68, mg69, mg70, mg71, mg72], by simp (disch := first | assumption | omega) only [row_off, row_in, row_out, up_same, up_ne, cpy_off, rwo_off, rwo_at, rwo_out, mg6, mg7, mg8, mg9, mg10, mg12, mg30, mg31, mg32, mg33, mg35, mg36, mg37, mg38, mg39, mg43, mg44, mg45, mg46, mg47, mg48, mg49, mg50, mg53, mg54, mg55, mg56, mg57, mg58, mg59, mg60, mg65, mg66, mg67, mg68, mg69, mg70, mg71, mg72], by simp (disch := decide) only [up_off, row_offF, rwo_offF], by simp (disch := decide) only [up_off, row_offF, rwo_offF]⟩ (fun y j h => by unfold keepK at h; exact ff y j (by omega) (by omega)) ⟨?_, ?_, ?_, ?_, ?_, ?_, ?_, ?_, fun j z1 z2 => ?_, fun j z1 z2 => ?_, fun j z1 z2 => ?_, fun j z1 z2 => ?_, fun j z1 z2 => ?_, fun j z1 z2 => ?_, fun w j z1 z2 => ?_, fun w j z1 z2 => ?_⟩
    case refine_5 => rw [f2 _ _ (by omega) (by omega), v13, up_ne (by omega), up_same]
    case refine_6 => rw [e15, up_same]
    case refine_12 => rw [up_ne (by omega), up_same] at z2; omega
    case refine_11 =>
      rw [up_ne (by omega), up_ne (by omega)] at z2
      rw [ff _ _ (by omega) (by omega), up_ne (by omega), up_ne (by omega)]
      exact ra5 j z1 z2
    case refine_15 =>
      rw [up_ne (by omega), up_ne (by omega)] at w z2
      rw [ff _ _ (by omega) (by omega), up_ne (by omega), up_ne (by omega)]
      exact ra9 w j z1 z2
    case refine_16 =>
      rw [up_ne (by omega), up_ne (by omega)] at w z2
      rw [ff _ _ (by omega) (by omega), up_ne (by omega), up_ne (by omega)]
      exact ra10 w j z1 z2
    all_goals rw [ff _ _ (by omega) (by omega), up_ne (by omega), up_ne (by omega)]
    all_goals first | assumption | (apply_assumption <;> assumption)
  -- the clauses
  have clauses : ∀ m2 : Mu, PsR m2 b τ x (hl6 τ x) → ((hl6 τ x).fk = 0 → HdM m2 b (hlB τ x).2.1 (hlq τ x) (hlB τ x).2.2.1 (hlB τ x).2.2.2.1 (hlB τ x).2.2.2.2 ∧ AcR m2 b (hlB τ x).2.1 (hlq τ x) (hlB τ x).2.2.1 (hlB τ x).2.2.2.1 (hlB τ x).2.2.2.2 ac0) → FH m1 m2 b → V X G (Qm X G 0 P) 0 230 [aR b, aD, aD, aD] [] γ m2 := fun m2 R2 A2 F2 => by
    refine B_X9_hall_230 hC hS.o ?_
    have hp6 := pIn_6 (τ := τ) (show 0 ≤ x by omega)
    by_cases e6 : (hl6 τ x).fk = 0
    case neg =>
      -- no clause is read
      have e41 : hlR τ x = (hl6 τ x, ac0) := clN_stop (k := 0) (fun z => e6 z.1) 41
      refine B_X9_hall_232 hC hS.o ?_
      refine ⟨0, 0, _, by omega, Nat.le_refl _, hX ▸ m_isGood hl 0 hS, PI.use ?_⟩
      rw [R2.2.1, if_neg e6]
      refine B_X9_hall_236 hC hS.o ⟨fun _ => ?_, fun w => absurd rfl w⟩
      refine ⟨0, 0, _, by omega, Nat.le_refl _, hX ▸ m_isGood hl 0 hS, PI.use ?_⟩
      rw [R2.2.1, if_neg e6]
      have h9 := bads m2 (by rw [e41]; exact e6) (by rw [e41]; exact R2.2.2.1) F2
      rw [e41] at h9
      refine B_X9_hall_261 hC hS.o ⟨fun w => absurd rfl w, fun _ => ⟨Nat.le_refl _, ?_⟩⟩
      rw [R2.2.1]
      exact h9
    obtain ⟨H2, AA2⟩ := A2 e6
    have hO := hl6_ok e6
    have eR : hlR τ x = clN τ x (hlB τ x).2.1 (hlq τ x) (hlB τ x).2.2.1 (hl6 τ x) 41 := rfl
    have eH : halF σ x = if (hlR τ x).1.fk = 0 then halT (hlB τ x).2.1 (hlq τ x) (hlB τ x).2.2.1 (hlB τ x).2.2.2.1 (hlB τ x).2.2.2.2 (hlR τ x).2 σ else up (up σ 0 6 0) 0 7 (hlR τ x).1.fp := by unfold halF; rw [hτ]
    have hfp := fpI_R (τ := τ) (N := x)
    rw [eH] at hP
    generalize hlR τ x = rr at *
    generalize (hlB τ x).2.1 = n at *
    generalize (hlB τ x).2.2.1 = w at *
    generalize (hlB τ x).2.2.2.1 = h9 at *
    generalize (hlB τ x).2.2.2.2 = ed at *
    generalize hlq τ x = q at *
    generalize hl6 τ x = s6 at *
    have hcl := fun k => clN_ok (τ := τ) (N := x) (n := n) (q := q) (w := w) hp6 hO.1 k
    -- behind the last clause
    have final : ∀ m3 : Mu, PsR m3 b τ x rr.1 → HdM m3 b n q w h9 ed → (rr.1.fk = 0 → AcR m3 b n q w h9 ed rr.2) → FH m1 m3 b → ∃ (d9 k9 : Nat) (P9 : Option AV → Mu → Mu → Prop), d9 < d ∧ 0 + k9 ≤ 0 ∧ Cn X.l G yX9_isGood cX9_isGood 1 (some .boolean) d9 k9 [aR b] γ m3 P9 ∧ ∀ r9 γ9 μ9, P9 r9 γ9 μ9 → V X G (Qm X G 0 P) (0 + k9) 261 [aR b, aD, aD, aD] (r9.toList ++ []) γ9 μ9 := fun m3 R3 H3 A3 F3 => by
      refine ⟨0, 0, _, by omega, Nat.le_refl _, hX ▸ m_isGood hl 0 hS, PI.use ?_⟩
      rw [R3.2.1]
      by_cases e3 : rr.1.fk = 0
      case neg =>
        rw [if_neg e3]
        refine B_X9_hall_261 hC hS.o ⟨fun w => absurd rfl w, fun _ => ⟨Nat.le_refl _, ?_⟩⟩
        rw [R3.2.1]
        exact bads m3 e3 R3.2.2.1 F3
      rw [if_pos e3]
      have hfp2 := hfp e3
      simp only [if_pos e3] at hP
      refine B_X9_hall_261 hC hS.o ⟨fun _ => ?_, fun w => absurd w (by decide)⟩
      have hAo := (hcl 40).1
      have hAo2 : AcO n 40 rr.2 := by
        have e40 : rr = clN τ x n q w s6 40 := by
          rw [eR] at e3 ⊢
          by_cases z : (clN τ x n q w s6 40).1.fk = 0 ∧ tK τ x (clN τ x n q w s6 40).1.p ≠ 0
          · exfalso
            rw [show (41 : Nat) = 40 + 1 from rfl, clN_s, if_pos z] at e3
            exact clF_40 e3
          · exact clN_stop z 1
        rw [e40]
        exact hAo
      refine ⟨1, 0, _, by omega, Nat.le_refl _, hX ▸ m_takes hl 1 (by omega) hS hG H3 hO (A3 e3) hAo2 (Int.le_refl _), ?_⟩
      rintro r γ m4 ⟨rfl, rfl, ⟨t1, t2, t3, t4, t5, t11, t52, t64, t51, t61⟩, ta, tr, ts, tf⟩
      have ff : ∀ y j, (y < b + 1 ∨ b + 4 < y) → (y < b + 7 ∨ b + 10 < y) → y ≠ b + 38 → (y = b → (j < 1 ∨ 5 < j) ∧ j ≠ 11 ∧ j ≠ 52 ∧ j ≠ 64 ∧ j ≠ 51 ∧ j ≠ 61 ∧ (j < 13 ∨ 29 < j)) → m4 y j = m y j := fun y j z1 z2 z3 z4 => by rw [tf y j z1 (by omega) z3 (by omega), F3 y j z2 (by omega), F1 y j (by omega)]
      refine B_X9_hall_273 hC ⟨Nat.le_refl _, hP _ _ _ ⟨by rw [e3], rfl, by rw [ff _ _ (by omega) (by omega) (by omega) (by omega)]; exact m0, ?_, fun y j z => by rw [ff _ _ (by omega) (by omega) (by omega) (by omega)]; exact mf y j z⟩⟩
      obtain ⟨⟨k0, k1, k2, k3, k4⟩, k5, k6, k7, k8, k9⟩ := halT_0 (n := n) (q := q) (w := w) (h := h9) (ed := ed) (a := rr.2) (σ := σ)
      unfold RepR
      rw [k0, k1, k2, k3, k4, k5, k6, k7, k8, k9]
      refine ⟨t1, t2, t3, t4, t5, t11, ?_, ?_, t52, t64, fun j z1 z2 => ?_, fun j z1 z2 => ?_, fun j z1 z2 => ?_, fun j z1 z2 => ?_, fun j z1 z2 => by omega, fun j z1 z2 => by omega, fun j z1 z2 => ?_, fun j z1 z2 => ?_, fun z => absurd rfl z, fun z => absurd rfl z, fun z => absurd t51 z, fun z => absurd t61 z⟩
      · rw [tf _ _ (by omega) (by omega) (by omega) (by omega), F3 _ _ (by omega) (by omega)]; exact v13
      · rw [tf _ _ (by omega) (by omega) (by omega) (by omega), R3.2.2.1, hfp2]
      · rw [halT_1.1, ← ta (j / 36) (j % 36) (by omega) (by omega) (by omega) (by omega), show 36 * (j / 36) + j % 36 = j by omega]
      · rw [halT_1.2.1]; exact (tr j z1 z2).1
      · rw [halT_1.2.2.1]; exact (tr j z1 z2).2.1
      · rw [halT_1.2.2.2.1]; exact (tr j z1 z2).2.2
      · rw [halT_1.2.2.2.2.1]; exact ts j z1 z2
      · rw [halT_1.2.2.2.2.2, ff _ _ (by omega) (by omega) (by omega) (by omega)]
        exact mR.2.2.2.2.2.2.2.2.2.2.2.2.2.2.2.2.2.1 j z1 z2
    have loop : ∀ (k c : Nat) (m3 : Mu), c + k = 41 → PsR m3 b τ x (clN τ x n q w s6 c).1 → HdM m3 b n q w h9 ed → ((clN τ x n q w s6 c).1.fk = 0 → AcR m3 b n q w h9 ed (clN τ x n q w s6 c).2) → FH m1 m3 b → V X G (Qm X G 0 P) 0 232 [aR b, aD, aD, aI c] [] γ m3 := by
      intro k
      induction k with
      | zero =>
        intro c m3 hc R3 H3 A3 F3
        obtain rfl : c = 41 := by omega
        have hst := clN_41 (τ := τ) (N := x) (n := n) (q := q) (w := w) (s := s6)
        rw [← eR] at R3 A3 hst
        refine B_X9_hall_232 hC hS.o ?_
        refine ⟨0, 0, _, by omega, Nat.le_refl _, hX ▸ m_isGood hl 0 hS, PI.use ?_⟩
        rw [R3.2.1]
        refine B_X9_hall_236 hC hS.o ⟨fun _ => final m3 R3 H3 A3 F3, fun hz => ?_⟩
        rw [R3.1.2.2.1]
        refine ⟨fun _ => final m3 R3 H3 A3 F3, fun hz2 => absurd ⟨?_, hz2⟩ hst⟩
        by_cases e : rr.1.fk = 0
        · exact e
        · rw [if_neg e] at hz; exact absurd rfl hz
      | succ k ih =>
        intro c m3 hc R3 H3 A3 F3
        obtain ⟨h1, h2, h3⟩ := hcl c
        have stop : ¬ ((clN τ x n q w s6 c).1.fk = 0 ∧ tK τ x (clN τ x n q w s6 c).1.p ≠ 0) → clN τ x n q w s6 c = rr := fun hz => by
          rw [eR, show (41 : Nat) = c + (k + 1) by omega]
          exact (clN_stop hz (k + 1)).symm
        refine B_X9_hall_232 hC hS.o ?_
        refine ⟨0, 0, _, by omega, Nat.le_refl _, hX ▸ m_isGood hl 0 hS, PI.use ?_⟩
        rw [R3.2.1]
        by_cases e : (clN τ x n q w s6 c).1.fk = 0
        · rw [if_pos e]
          refine B_X9_hall_236 hC hS.o ⟨fun w => absurd w (by decide), fun _ => ?_⟩
          rw [R3.1.2.2.1]
          refine ⟨fun hz => ?_, fun hz => ?_⟩
          · have es := stop (fun z => z.2 hz)
            rw [es] at R3 A3
            exact final m3 R3 H3 A3 F3
          · refine ⟨4, 0, _, hd, Nat.le_refl _, hX ▸ m_clause hl 4 (by omega) hS hG R3 hT (X1.fh F3) H3 hO (A3 e) h1 (by omega), ?_⟩
            rintro r γ m4 ⟨rfl, rfl, R4, A4, F4⟩
            have ec : clN τ x n q w s6 (c + 1) = clF τ x n q w c (clN τ x n q w s6 c).1 (clN τ x n q w s6 c).2 := by rw [clN_s, if_pos ⟨e, hz⟩]
            refine B_X9_hall_251 hC hS.o ⟨by constructor <;> omega, ?_⟩
            exact ih (c + 1) m4 (by omega) (by rw [ec]; exact R4) (H3.fc F4) (by rw [ec]; exact A4) (F3.t F4.fh)
        · rw [if_neg e]
          have es := stop (fun z => e z.1)
          rw [es] at R3 A3
          exact B_X9_hall_236 hC hS.o ⟨fun _ => final m3 R3 H3 A3 F3, fun w => absurd rfl w⟩
    exact loop 41 0 m2 (by omega) R2 H2 (fun _ => AA2) F2
  -- the head
  have head : ∀ m2 : Mu, (∀ j, 0 ≤ j → j < 1296 → m2 (b + 7) j = 0) → (∀ j, 0 ≤ j → j < 36 → m2 (b + 10) j = 0) → (∀ y j, y ≠ b + 7 → y ≠ b + 10 → m2 y j = m1 y j) → ∃ (d9 k9 : Nat) (P9 : Option AV → Mu → Mu → Prop), d9 < d ∧ 0 + k9 ≤ 0 ∧ Cn X.l G yX9_goes cX9_goes 2 none d9 k9 [aR b] γ m2 P9 ∧ ∀ r9 γ9 μ9, P9 r9 γ9 μ9 → V X G (Qm X G 0 P) (0 + k9) 134 [aR b, aD, aD, aD] (r9.toList ++ []) γ9 μ9 := fun m2 z7 z10 f2 => by
    have X2 : TxR m2 b τ x := fun j z1 z2 => by rw [f2 _ _ (by omega) (by omega)]; exact X1 j z1 z2
    refine ⟨1, 0, _, by omega, Nat.le_refl _, hX ▸ m_goes hl 1 (by omega) hS hG (by rw [f2 _ _ (by omega) (by omega)]; exact v16) (by rw [f2 _ _ (by omega) (by omega)]; exact v17) (show 0 ≤ (0 : Int) ∧ 0 ≤ x by omega) hT X2, ?_⟩
    rintro r γ m3 ⟨rfl, rfl, T3, g3⟩
    have F23 : FT m2 m3 b := g3.ft
    have R3 : PsR m3 b τ x hS0 := ⟨T3, by rw [g3 _ _ (by omega), f2 _ _ (by omega) (by omega)]; exact v14, by rw [g3 _ _ (by omega), f2 _ _ (by omega) (by omega)]; exact v15, by show 0 ≤ (0 : Int) ∧ 0 ≤ x; omega⟩
    have rd : ∀ m4 : Mu, PsR m4 b τ x (hl1 τ x) → FT m2 m4 b → V X G (Qm X G 0 P) 0 152 [aR b, aD, aD, aD] [] γ m4 := fun m4 R4 F4 => by
      refine B_X9_hall_152 hC hS.o ?_
      refine ⟨2, 0, _, by omega, Nat.le_refl _, hX ▸ m_number hl 2 (by omega) hS hG R4 hT (X2.ft F4), ?_⟩
      rintro r γ m5 ⟨rfl, rfl, R5, g5⟩
      have F5 := F4.t g5
      refine B_X9_hall_164 hC hS.o ⟨hS.o, ?_⟩
      generalize hm6 : up m5 b 24 (vlP τ x (hl1 τ x)) = m6
      have R6 : PsR m6 b τ x (hl2 τ x) := by rw [← hm6]; exact R5.up (by omega)
      have F6 : ∀ y j, (y = b → j ≠ 14 ∧ j ≠ 15 ∧ (j < 17 ∨ 22 < j) ∧ j ≠ 24) → m6 y j = m2 y j := fun y j h => by rw [← hm6, up_ne (by omega), F5 y j (by omega)]
      have q6 : m6 b 24 = hlq τ x := by rw [← hm6, up_same]; rfl
      have e19 : m4 b 19 = tS τ x (hl1 τ x).p := R4.1.2.2.2.1
      refine ⟨0, 0, _, by omega, Nat.le_refl _, hX ▸ m_isGood hl 0 hS, PI.use ?_⟩
      rw [R6.2.1, e19]
      -- behind the colours
      have s209 : ∀ m7 : Mu, PsR m7 b τ x (hl4 τ x) → FT m6 m7 b → V X G (Qm X G 0 P) 0 209 [aR b, aD, aD, aD] [] γ m7 := fun m7 R7 F7 => by
        have FF : ∀ y j, (y = b → j ≠ 14 ∧ j ≠ 15 ∧ (j < 17 ∨ 22 < j) ∧ j ≠ 24) → m7 y j = m2 y j := fun y j h => by rw [F7 y j (by omega), F6 y j h]
        have X7 : TxR m7 b τ x := fun j z1 z2 => by rw [FF _ _ (by omega)]; exact X2 j z1 z2
        have H7 : HdM m7 b 0 (hlq τ x) 0 0 (-1) := ⟨by rw [FF _ _ (by omega), f2 _ _ (by omega) (by omega)]; exact v23, by rw [F7 _ _ (by omega)]; exact q6, by rw [FF _ _ (by omega), f2 _ _ (by omega) (by omega)]; exact v25, by rw [FF _ _ (by omega), f2 _ _ (by omega) (by omega)]; exact v26, by rw [FF _ _ (by omega), f2 _ _ (by omega) (by omega)]; exact v27⟩
        refine B_X9_hall_209 hC hS.o ?_
        refine ⟨3, 0, _, by omega, Nat.le_refl _, hX ▸ m_begins hl 3 (by omega) hS hG R7 hT X7 H7, ?_⟩
        rintro r γ m8 ⟨rfl, rfl, R8, H8, F8⟩
        have X8 : TxR m8 b τ x := fun j z1 z2 => by rw [F8 _ _ (by omega)]; exact X7 j z1 z2
        have fin8 : ∀ m9 : Mu, PsR m9 b τ x (hl6 τ x) → FT m8 m9 b → V X G (Qm X G 0 P) 0 230 [aR b, aD, aD, aD] [] γ m9 := fun m9 R9 F9 => by
          have G9 : ∀ y j, (y = b → j ≠ 14 ∧ j ≠ 15 ∧ (j < 17 ∨ 29 < j ∨ j = 28 ∨ j = 29)) → m9 y j = m2 y j := fun y j h => by rw [F9 y j (by omega), F8 y j (by omega), FF y j (by omega)]
          refine clauses m9 R9 (fun _ => ⟨H8.ft F9, ⟨fun u v z1 z2 z3 z4 => ?_, ?_, ?_, fun i z1 z2 => ?_, fun u z1 z2 => ?_⟩⟩) (fun y j z1 z2 => ?_)
          · rw [G9 _ _ (by omega), z7 _ (by omega) (by omega)]
            have : amS (hlB τ x).2.1 (hlB τ x).2.2.1 (hlB τ x).2.2.2.1 (hlB τ x).2.2.2.2 ac0 u v = 0 := by
              unfold amS
              show 0 + 0 * _ + (if _ then 0 else 0 * _ + 0 * _ + 0 * _ + 0 * _ + 0 * _) = (0 : Int)
              simp
            rw [this, Int.zero_emod]
          · rw [G9 _ _ (by omega), f2 _ _ (by omega) (by omega)]; exact v28
          · rw [G9 _ _ (by omega), f2 _ _ (by omega) (by omega), v29]
            split <;> rfl
          · have : i < (0 : Int) := z2
            omega
          · rw [G9 _ _ (by omega)]; exact z10 u z1 z2
          · rw [G9 _ _ (by omega), f2 _ _ (by omega) (by omega)]
        refine B_X9_hall_213 hC hS.o ?_
        rw [R8.1.2.2.1]
        have e6 : ∀ c, c = (if tK τ x (hlB τ x).1.p = 3 then (1 : Int) else 0) → pNd τ x (hlB τ x).1 c = hl6 τ x := fun c hc => by rw [hc]; rfl
        refine ⟨fun h9 => ?_, fun h9 => ?_⟩
        · refine ⟨2, 0, _, by omega, Nat.le_refl _, hX ▸ m_need hl 2 (by omega) hS hG R8 hT X8, ?_⟩
          rintro r γ m9 ⟨rfl, rfl, R9, F9⟩
          exact fin8 m9 (by rw [← e6 0 (if_neg h9).symm]; exact R9) F9
        · refine ⟨2, 0, _, by omega, Nat.le_refl _, hX ▸ m_need hl 2 (by omega) hS hG R8 hT X8, ?_⟩
          rintro r γ m9 ⟨rfl, rfl, R9, F9⟩
          exact fin8 m9 (by rw [← e6 1 (if_pos h9).symm]; exact R9) F9
      have snd : ∀ m7 : Mu, PsR m7 b τ x (hl3 τ x) → FT m6 m7 b → (¬ m7 b 18 = 3 → ∃ (d9 k9 : Nat) (P9 : Option AV → Mu → Mu → Prop), d9 < d ∧ 0 + k9 ≤ 0 ∧ Cn X.l G yX9_need cX9_need 2 none d9 k9 [aR b, aI 0] γ m7 P9 ∧ ∀ r9 γ9 μ9, P9 r9 γ9 μ9 → V X G (Qm X G 0 P) (0 + k9) 209 [aR b, aD, aD, aD] (r9.toList ++ []) γ9 μ9) ∧ (m7 b 18 = 3 → ∃ (d9 k9 : Nat) (P9 : Option AV → Mu → Mu → Prop), d9 < d ∧ 0 + k9 ≤ 0 ∧ Cn X.l G yX9_need cX9_need 2 none d9 k9 [aR b, aI 1] γ m7 P9 ∧ ∀ r9 γ9 μ9, P9 r9 γ9 μ9 → V X G (Qm X G 0 P) (0 + k9) 209 [aR b, aD, aD, aD] (r9.toList ++ []) γ9 μ9) := fun m7 R7 F7 => by
        have X7 : TxR m7 b τ x := fun j z1 z2 => by rw [F7 _ _ (by omega), F6 _ _ (by omega)]; exact X2 j z1 z2
        have e4 : ∀ c, c = (if tK τ x (hl3 τ x).p = 3 then (1 : Int) else 0) → pNd τ x (hl3 τ x) c = hl4 τ x := fun c hc => by rw [hc]; rfl
        rw [R7.1.2.2.1]
        refine ⟨fun h9 => ?_, fun h9 => ?_⟩
        · refine ⟨2, 0, _, by omega, Nat.le_refl _, hX ▸ m_need hl 2 (by omega) hS hG R7 hT X7, ?_⟩
          rintro r γ m9 ⟨rfl, rfl, R9, F9⟩
          exact s209 m9 (by rw [← e4 0 (by rw [if_neg h9])]; exact R9) (F7.t F9)
        · refine ⟨2, 0, _, by omega, Nat.le_refl _, hX ▸ m_need hl 2 (by omega) hS hG R7 hT X7, ?_⟩
          rintro r γ m9 ⟨rfl, rfl, R9, F9⟩
          exact s209 m9 (by rw [← e4 1 (by rw [if_pos h9])]; exact R9) (F7.t F9)
      by_cases e2 : (hl2 τ x).fk = 0
      · rw [if_pos e2]
        refine B_X9_hall_171 hC hS.o ⟨fun w => absurd w (by decide), fun _ => ?_⟩
        rw [q6]
        refine ⟨fun h4 => snd m6 (by unfold hl3; rw [if_neg (fun z => h4 z.2)]; exact R6) FT.rf, fun h4 => ?_⟩
        have R7 : PsR (up (up m6 b 14 2) b 15 (tS τ x (hl1 τ x).p)) b τ x (hl3 τ x) := by
          unfold hl3
          rw [if_pos ⟨e2, h4⟩]
          obtain ⟨⟨t1, t2, t3, t4, t5, t6, t7⟩, -, -, hp⟩ := R6
          refine ⟨⟨?_, ?_, ?_, ?_, ?_, ?_, ?_⟩, ?_, ?_, hp⟩
          all_goals simp (disch := first | assumption | omega) only [row_off, row_in, row_out, up_same, up_ne]
          all_goals first | assumption | rfl
        have h9 := snd (up (up m6 b 14 2) b 15 (tS τ x (hl1 τ x).p)) R7 (fun y j h => by rw [up_ne (by omega), up_ne (by omega)])
        rw [up_ne (by omega), up_ne (by omega)] at h9
        exact h9
      · rw [if_neg e2]
        exact B_X9_hall_171 hC hS.o ⟨fun _ => snd m6 (by unfold hl3; rw [if_neg (fun z => e2 z.1)]; exact R6) FT.rf, fun w => absurd rfl w⟩
    refine B_X9_hall_134 hC hS.o ?_
    refine ⟨2, 0, _, by omega, Nat.le_refl _, hX ▸ m_knownWord hl 2 (by omega) hS R3.1, PI.use ?_⟩
    have X3 := X2.ft F23
    refine B_X9_hall_139 hC hS.o ⟨fun h9 => ⟨hS.o, ?_⟩, fun h9 => ⟨hS.o, ?_⟩⟩
    · refine ⟨2, 0, _, by omega, Nat.le_refl _, hX ▸ m_need hl 2 (by omega) hS hG R3 hT X3, ?_⟩
      rintro r γ m4 ⟨rfl, rfl, R4, F4⟩
      refine rd m4 ?_ (F23.t F4)
      unfold hl1
      rw [if_neg (show ¬ tN τ x 0 = 9 from h9)]
      exact R4
    · refine ⟨2, 0, _, by omega, Nat.le_refl _, hX ▸ m_need hl 2 (by omega) hS hG R3 hT X3, ?_⟩
      rintro r γ m4 ⟨rfl, rfl, R4, F4⟩
      refine rd m4 ?_ (F23.t F4)
      unfold hl1
      rw [if_pos (show tN τ x 0 = 9 from h9)]
      exact R4
  have z2 := rem_ind (n := 36) (P := fun i => V X G (Qm X G 0 P) 0 111 [aR b, aD, aI i, aD] [] γ (row (row m1 (b + 7) 1296 (fun _ => 0)) (b + 10) i (fun _ => 0))) (fun i h0 h1 ih => ?_)
  · have z1 := rem_ind (n := 1296) (P := fun i => V X G (Qm X G 0 P) 0 89 [aR b, aD, aI i, aD] [] γ (row m1 (b + 7) i (fun _ => 0))) (fun i h0 h1 ih => ?_)
    · have h9 := z1 0 (by omega) (by omega)
      rw [row_0] at h9
      exact h9
    · refine B_X9_hall_89 hC hS.o ?_
      rcases Int.lt_or_le i 1296 with hi | hi
      · have hih := ih hi
        rw [← row_s h0] at hih
        simp (disch := first | assumption | omega) only [row_off, row_in, row_out, up_same, up_ne, cpy_off, rwo_off, rwo_at, rwo_out, mg6, mg7, mg8, mg9, mg10, mg12, mg30, mg31, mg32, mg33, mg35, mg36, mg37, mg38, mg39, mg43, mg44, mg45, mg46, mg47, mg48, mg49, mg50, mg53, mg54, mg55, mg56, mg57, mg58, mg59, mg60, mg65, mg66, mg67, mg68, mg69, mg70, mg71, mg72]
        (repeat' (first | (with_reducible exact ixO (by assumption) (by omega)) | with_reducible apply And.intro | with_reducible intro)) <;> (try first | omega | (with_reducible apply Nat.le_refl) | rfl | exact absurd trivial (by assumption))
        all_goals exact hih
      · obtain rfl : i = 1296 := by omega
        have h9 := z2 0 (by omega) (by omega)
        rw [row_0] at h9
        exact ⟨fun _ => h9, fun w => absurd hi w⟩
  · refine B_X9_hall_111 hC hS.o ?_
    rcases Int.lt_or_le i 36 with hi | hi
    · have hih := ih hi
      rw [← row_s h0] at hih
      simp (disch := first | assumption | omega) only [row_off, row_in, row_out, up_same, up_ne, cpy_off, rwo_off, rwo_at, rwo_out, mg6, mg7, mg8, mg9, mg10, mg12, mg30, mg31, mg32, mg33, mg35, mg36, mg37, mg38, mg39, mg43, mg44, mg45, mg46, mg47, mg48, mg49, mg50, mg53, mg54, mg55, mg56, mg57, mg58, mg59, mg60, mg65, mg66, mg67, mg68, mg69, mg70, mg71, mg72]
      (repeat' (first | (with_reducible exact ixO (by assumption) (by omega)) | with_reducible apply And.intro | with_reducible intro)) <;> (try first | omega | (with_reducible apply Nat.le_refl) | rfl | exact absurd trivial (by assumption))
      all_goals exact hih
    · obtain rfl : i = 36 := by omega
      exact ⟨fun _ => head _ (fun j k1 k2 => by rw [row_off (by omega), row_in ⟨k1, k2⟩]) (fun j k1 k2 => row_in ⟨k1, k2⟩) (fun y j k1 k2 => by rw [row_off k2, row_off k1]), fun w => absurd hi w⟩
end MHall
