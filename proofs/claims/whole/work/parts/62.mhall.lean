/-! a text as a hall; the reference: clause -/
def sg (τ : Int → Int) (N : Int) (s : PT) : PT := pNd τ N s (if tK τ N s.p = 3 then 1 else 0)
def cl0 (τ : Int → Int) (N w c : Int) (s : PT) : PT :=
  if (w = 0 ∧ 2 ≤ tN τ N s.p ∧ tN τ N s.p ≤ 5) ∨ (w ≠ 0 ∧ tN τ N s.p = 6) then pWr τ N (if c = 40 then pWr τ N (if tN τ N s.p < 0 ∨ 8 < tN τ N s.p then pWr τ N s 1 else s) 2 else (if tN τ N s.p < 0 ∨ 8 < tN τ N s.p then pWr τ N s 1 else s)) 3 else (if c = 40 then pWr τ N (if tN τ N s.p < 0 ∨ 8 < tN τ N s.p then pWr τ N s 1 else s) 2 else (if tN τ N s.p < 0 ∨ 8 < tN τ N s.p then pWr τ N s 1 else s))
def cl5 (τ : Int → Int) (N q k : Int) (s : PT) (a : AC) : PT × AC := (sg τ N (pBy τ N q s), if (pBy τ N q s).fk = 0 then aShp a k (vBy τ N s) else a)
def cl6 (τ : Int → Int) (N n : Int) (s : PT) (a : AC) : PT × AC := (sg τ N (pLm τ N n (pLm τ N n s (-1)) (vlP τ N s)), if (pLm τ N n (pLm τ N n s (-1)) (vlP τ N s)).fk = 0 then aWir a (vlP τ N s) (vlP τ N (pLm τ N n s (-1))) else a)
def at7 (τ : Int → Int) (N n : Int) (s : PT) : PT := pNd τ N (pLm τ N n s (-1)) (if tN τ N (pLm τ N n s (-1)).p = 15 then 1 else 0)
def cl7 (τ : Int → Int) (N n q : Int) (s : PT) (a : AC) : PT × AC := (sg τ N (pBy τ N q (pLm τ N n (at7 τ N n s) (-1))), if (pBy τ N q (pLm τ N n (at7 τ N n s) (-1))).fk = 0 then aDir a (vlP τ N s) (vlP τ N (at7 τ N n s)) (vBy τ N (pLm τ N n (at7 τ N n s) (-1))) else a)
def cl8 (τ : Int → Int) (N n : Int) (s : PT) (a : AC) : PT × AC := (sg τ N (pLm τ N n s (-1)), if (pLm τ N n s (-1)).fk = 0 then aJam a (vlP τ N s) else a)
def clF (τ : Int → Int) (N n q w c : Int) (s : PT) (a : AC) : PT × AC :=
  if (cl0 τ N w c s).fk = 0 then (if tN τ N s.p ≤ 5 then cl5 τ N q (tN τ N s.p) (pGo τ N s) a else if tN τ N s.p = 6 then cl6 τ N n (pGo τ N s) a else if tN τ N s.p = 7 then cl7 τ N n q (pGo τ N s) a else cl8 τ N n (pGo τ N s) a) else (cl0 τ N w c s, a)
theorem amS_dir {n w h ed u v t x y : Int} {a : AC} : amS n w h ed (aDir a u v t) x y = amS n w h ed a x y + (if x = u ∧ y = v then t else 0) := by
  unfold amS
  have e1 : (aDir a u v t).dir x y = a.dir x y + (if x = u ∧ y = v then t else 0) := rfl
  have e2 : (aDir a u v t).shp = a.shp := rfl
  rw [e1, e2]
  omega
theorem pWr_fk {τ : Int → Int} {N k : Int} {s : PT} (hk : k ≠ 0) : (pWr τ N s k).fk ≠ 0 := by
  unfold pWr
  split
  · exact hk
  · assumption
theorem pNd_ok {τ : Int → Int} {N c : Int} {s : PT} (h : (pNd τ N s c).fk = 0) : s.fk = 0 ∧ c ≠ 0 ∧ pNd τ N s c = pGo τ N s := by
  unfold pNd at h ⊢
  split at h
  · rename_i e
    rw [if_pos e]
    split at h
    · exact absurd h (pWr_fk (by decide))
    · rename_i e2
      exact ⟨e, e2, by rw [if_neg e2]⟩
  · rename_i e; exact absurd h e
theorem pNm_ok {τ : Int → Int} {N lo hi : Int} {s : PT} (h : (pNm τ N s lo hi).fk = 0) : s.fk = 0 ∧ lo ≤ vlP τ N s ∧ vlP τ N s ≤ hi ∧ pNm τ N s lo hi = pGo τ N s := by
  unfold pNm at h ⊢
  split at h
  · rename_i e
    rw [if_pos e]
    have ev : vlP τ N s = tV τ N s.p := by unfold vlP; rw [if_pos e]
    split at h
    · rename_i e2
      rw [if_pos e2]
      split at h
      · exact absurd h (pWr_fk (by decide))
      · rename_i e3
        rw [if_neg e3]
        exact ⟨e, by omega, by omega, rfl⟩
    · exact absurd h (pWr_fk (by decide))
  · rename_i e; exact absurd h e
theorem pLm_ok {τ : Int → Int} {N n ot : Int} {s : PT} (h : (pLm τ N n s ot).fk = 0) : s.fk = 0 ∧ vlP τ N s = tV τ N s.p ∧ vlP τ N s < n ∧ vlP τ N s ≠ ot ∧ pLm τ N n s ot = pGo τ N s := by
  unfold pLm at h ⊢
  split at h
  · rename_i e
    rw [if_pos e]
    have ev : vlP τ N s = tV τ N s.p := by unfold vlP; rw [if_pos e]
    split at h
    · rename_i e2
      rw [if_pos e2]
      split at h
      · exact absurd h (pWr_fk (by decide))
      · rename_i e3
        rw [if_neg e3]
        split at h
        · exact absurd h (pWr_fk (by decide))
        · rename_i e4
          rw [if_neg e4]
          split at h
          · exact absurd h (pWr_fk (by decide))
          · rename_i e5
            rw [if_neg e5]
            exact ⟨e, ev, by omega, by rw [ev]; exact e5, rfl⟩
    · exact absurd h (pWr_fk (by decide))
  · rename_i e; exact absurd h e
theorem pBy_ok {τ : Int → Int} {N q : Int} {s : PT} (hq : 2 ≤ q) (h : (pBy τ N q s).fk = 0) : s.fk = 0 ∧ 1 ≤ vBy τ N s ∧ vBy τ N s ≤ q - 1 := by
  unfold pBy at h
  unfold vBy
  split at h
  · rename_i e
    rw [if_pos e]
    obtain ⟨h1, h2, h3, -⟩ := pNm_ok h
    exact ⟨e.1, h2, h3⟩
  · rename_i e
    rw [if_neg e]
    exact ⟨h, by omega, by omega⟩
theorem cl0_ok {τ : Int → Int} {N w c : Int} {s : PT} (h : (cl0 τ N w c s).fk = 0) : s.fk = 0 ∧ cl0 τ N w c s = s ∧ c ≠ 40 ∧ (0 ≤ tN τ N s.p ∧ tN τ N s.p ≤ 8) ∧ ¬ ((w = 0 ∧ 2 ≤ tN τ N s.p ∧ tN τ N s.p ≤ 5) ∨ (w ≠ 0 ∧ tN τ N s.p = 6)) := by
  unfold cl0 at h ⊢
  by_cases e3 : (w = 0 ∧ 2 ≤ tN τ N s.p ∧ tN τ N s.p ≤ 5) ∨ (w ≠ 0 ∧ tN τ N s.p = 6)
  · rw [if_pos e3] at h; exact absurd h (pWr_fk (by decide))
  · rw [if_neg e3] at h ⊢
    by_cases e2 : c = 40
    · rw [if_pos e2] at h; exact absurd h (pWr_fk (by decide))
    · rw [if_neg e2] at h ⊢
      by_cases e1 : tN τ N s.p < 0 ∨ 8 < tN τ N s.p
      · rw [if_pos e1] at h; exact absurd h (pWr_fk (by decide))
      · rw [if_neg e1] at h ⊢
        exact ⟨h, rfl, e2, by omega, e3⟩
theorem vBy_b {τ : Int → Int} {N : Int} {s : PT} (hp : 0 ≤ s.p ∧ s.p ≤ N) : 0 ≤ vBy τ N s ∧ vBy τ N s ≤ 999 := by
  unfold vBy
  split
  · have hb := tok_b (τ := τ) hp
    unfold vlP
    split
    · exact tV_b (τ := τ) (show 0 ≤ tE τ N s.p ∧ tE τ N s.p ≤ N by omega)
    · omega
  · omega
theorem vlP_b {τ : Int → Int} {N : Int} {s : PT} (hp : 0 ≤ s.p ∧ s.p ≤ N) : 0 ≤ vlP τ N s ∧ vlP τ N s ≤ 999 := by
  unfold vlP
  split
  · exact tV_b hp
  · omega
theorem AcO.mono {n c d : Int} {a : AC} (h : AcO n c a) (hd : c ≤ d) : AcO n d a := ⟨fun k z1 z2 => by have := h.1 k z1 z2; omega, by have := h.2.1; omega, h.2.2⟩
theorem AcO.shp {n c k v : Int} {a : AC} (h : AcO n c a) (hv : 0 ≤ v ∧ v ≤ 5) : AcO n (c + 1) (aShp a k v) := by
  refine ⟨fun k' z1 z2 => ?_, by have := h.2.1; show 0 ≤ a.wc ∧ a.wc ≤ c + 1; omega, h.2.2⟩
  show 0 ≤ fup a.shp k (a.shp k + v) k' ∧ fup a.shp k (a.shp k + v) k' ≤ 5 * (c + 1)
  have := h.1 k' z1 z2
  by_cases e : k' = k
  · rw [e, fup_s]; rw [e] at this; omega
  · rw [fup_n e]; omega
theorem AcO.wir {n c x y : Int} {a : AC} (h : AcO n c a) (hx : 0 ≤ x ∧ x < n) (hy : 0 ≤ y ∧ y < n) : AcO n (c + 1) (aWir a x y) := by
  refine ⟨fun k z1 z2 => by have := h.1 k z1 z2; show 0 ≤ a.shp k ∧ a.shp k ≤ _; omega, by have := h.2.1; show 0 ≤ a.wc + 1 ∧ a.wc + 1 ≤ c + 1; omega, fun i z1 z2 => ?_, h.2.2.2⟩
  have z3 : i < a.wc + 1 := z2
  show (0 ≤ fup a.wA a.wc x i ∧ fup a.wA a.wc x i < n) ∧ (0 ≤ fup a.wB a.wc y i ∧ fup a.wB a.wc y i < n)
  by_cases e : i = a.wc
  · rw [e, fup_s, fup_s]; exact ⟨hx, hy⟩
  · rw [fup_n e, fup_n e]; exact h.2.2.1 i z1 (by omega)
theorem AcO.dir {n c x y v : Int} {a : AC} (h : AcO n c a) (hx : 0 ≤ x ∧ x < n) (hy : 0 ≤ y ∧ y < n) : AcO n (c + 1) (aDir a x y v) := by
  refine ⟨fun k z1 z2 => by have := h.1 k z1 z2; show 0 ≤ a.shp k ∧ a.shp k ≤ _; omega, by have := h.2.1; show 0 ≤ a.wc ∧ a.wc ≤ c + 1; omega, h.2.2.1, h.2.2.2.1, fun x' y' => ?_⟩
  rcases h.2.2.2.2 x' y' with w | w
  · exact Or.inl w
  · by_cases e : x' = x ∧ y' = y
    · exact Or.inl (by omega)
    · refine Or.inr ?_
      show a.dir x' y' + (if x' = x ∧ y' = y then v else 0) = 0
      rw [if_neg e, w]
      rfl
theorem AcO.jam {n c x : Int} {a : AC} (h : AcO n c a) : AcO n (c + 1) (aJam a x) := by
  refine ⟨fun k z1 z2 => by have := h.1 k z1 z2; show 0 ≤ a.shp k ∧ a.shp k ≤ _; omega, by have := h.2.1; show 0 ≤ a.wc ∧ a.wc ≤ c + 1; omega, h.2.2.1, fun i z1 z2 => ?_, h.2.2.2.2⟩
  show fup a.jm x 1 i = 0 ∨ fup a.jm x 1 i = 1
  by_cases e : i = x
  · rw [e, fup_s]; exact Or.inr rfl
  · rw [fup_n e]; exact h.2.2.2.1 i z1 z2
/-- positions stay within the text -/
def pIn (N : Int) (s : PT) : Prop := 0 ≤ s.p ∧ s.p ≤ N
theorem pIn_go {τ : Int → Int} {N : Int} {s : PT} (h : pIn N s) : pIn N (pGo τ N s) := by
  have hb := tok_b (τ := τ) h
  unfold pIn at h
  show 0 ≤ tE τ N s.p ∧ tE τ N s.p ≤ N
  omega
theorem pIn_wr {τ : Int → Int} {N k : Int} {s : PT} (h : pIn N s) : pIn N (pWr τ N s k) := by unfold pWr; split <;> exact h
theorem pIn_nd {τ : Int → Int} {N c : Int} {s : PT} (h : pIn N s) : pIn N (pNd τ N s c) := by
  unfold pNd
  split
  · split
    · exact pIn_wr h
    · exact pIn_go h
  · exact h
theorem pIn_nm {τ : Int → Int} {N lo hi : Int} {s : PT} (h : pIn N s) : pIn N (pNm τ N s lo hi) := by
  unfold pNm
  split
  · split
    · split
      · exact pIn_wr h
      · exact pIn_go h
    · exact pIn_wr h
  · exact h
theorem pIn_lm {τ : Int → Int} {N n ot : Int} {s : PT} (h : pIn N s) : pIn N (pLm τ N n s ot) := by
  unfold pLm
  split
  · split
    · split
      · exact pIn_wr h
      · split
        · exact pIn_wr h
        · split
          · exact pIn_wr h
          · exact pIn_go h
    · exact pIn_wr h
  · exact h
theorem pIn_by {τ : Int → Int} {N q : Int} {s : PT} (h : pIn N s) : pIn N (pBy τ N q s) := by
  unfold pBy
  split
  · exact pIn_nm (pIn_go h)
  · exact h
theorem clF_ok {τ : Int → Int} {N n q w c : Int} {s : PT} {a : AC} (hs : pIn N s) (hq : qP q) (ha : AcO n c a) (hc : 0 ≤ c) : AcO n (c + 1) (clF τ N n q w c s a).2 := by
  have hqb := hq.b
  have ha1 := ha.mono (d := c + 1) (by omega)
  unfold clF
  split
  · split
    · unfold cl5
      dsimp only
      split
      · rename_i h
        have := pBy_ok hqb.1 h
        exact ha.shp (by omega)
      · exact ha1
    · split
      · unfold cl6
        dsimp only
        split
        · rename_i h
          obtain ⟨h1, h2, h3, h4, h5⟩ := pLm_ok h
          obtain ⟨k1, k2, k3, k4, k5⟩ := pLm_ok h1
          exact ha.wir ⟨(vlP_b (pIn_go hs)).1, k3⟩ ⟨(vlP_b (pIn_lm (pIn_go hs))).1, h3⟩
        · exact ha1
      · split
        · unfold cl7
          dsimp only
          split
          · rename_i h
            obtain ⟨h1, -⟩ := pBy_ok hqb.1 h
            obtain ⟨k1, k2, k3, k4, k5⟩ := pLm_ok h1
            obtain ⟨j1, j2, j3⟩ := pNd_ok (show (at7 τ N n (pGo τ N s)).fk = 0 from k1)
            obtain ⟨i1, i2, i3, i4, i5⟩ := pLm_ok j1
            exact ha.dir ⟨(vlP_b (pIn_go hs)).1, i3⟩ ⟨(vlP_b (pIn_nd (pIn_lm (pIn_go hs)))).1, k3⟩
          · exact ha1
        · unfold cl8
          dsimp only
          split
          · exact ha.jam
          · exact ha1
  · exact ha1
/-- of a board there are no wires -/
def noW (w : Int) (a : AC) : Prop := w = 0 ∨ a.wc = 0
theorem clF_wc {τ : Int → Int} {N n q w c : Int} {s : PT} {a : AC} (hw : noW w a) : noW w (clF τ N n q w c s a).2 := by
  unfold clF
  split
  · rename_i h0
    obtain ⟨-, -, -, -, h5⟩ := cl0_ok h0
    split
    · unfold cl5; dsimp only; split
      · exact hw
      · exact hw
    · split
      · rename_i h6
        exact Or.inl (by omega)
      · split
        · unfold cl7; dsimp only; split
          · exact hw
          · exact hw
        · unfold cl8; dsimp only; split
          · exact hw
          · exact hw
  · exact hw
theorem clF_40 {τ : Int → Int} {N n q w : Int} {s : PT} {a : AC} : (clF τ N n q w 40 s a).1.fk ≠ 0 := by
  unfold clF
  split
  · rename_i h
    exact absurd rfl (cl0_ok h).2.2.1
  · assumption
section MClause
variable {l : Launch} {G : Gx} {γ μ : Mu}
/-- the sign behind a clause -/
theorem m_sg (hl : l.stackTraces = false) {X : Mx} {d : Nat} (hX : X.l = l) (hd : 2 < d) {P : Option AV → Mu → Mu → Prop} {b N : Int} {τ : Int → Int} {s : PT} {m : Mu} {pc : Nat} (hS : ModS G b) (hG : ModG γ b) (hR : PsR m b τ N s) (hT : txt τ N) (hX2 : TxR m b τ N)
    (k1 : ∀ m2, PsR m2 b τ N (sg τ N s) → FT m m2 b → V X G (Qm X G 0 P) 0 pc [aD, aD, aD, aD, aD, aD] [] γ m2) :
    (¬ m b 18 = 3 → ∃ (d9 k9 : Nat) (P9 : Option AV → Mu → Mu → Prop), d9 < d ∧ 0 + k9 ≤ 0 ∧ Cn X.l G yX9_need cX9_need 2 none d9 k9 [aR b, aI 0] γ m P9 ∧ ∀ r9 γ9 μ9, P9 r9 γ9 μ9 → V X G (Qm X G 0 P) (0 + k9) pc [aD, aD, aD, aD, aD, aD] (r9.toList ++ []) γ9 μ9) ∧ (m b 18 = 3 → ∃ (d9 k9 : Nat) (P9 : Option AV → Mu → Mu → Prop), d9 < d ∧ 0 + k9 ≤ 0 ∧ Cn X.l G yX9_need cX9_need 2 none d9 k9 [aR b, aI 1] γ m P9 ∧ ∀ r9 γ9 μ9, P9 r9 γ9 μ9 → V X G (Qm X G 0 P) (0 + k9) pc [aD, aD, aD, aD, aD, aD] (r9.toList ++ []) γ9 μ9) := by
  have e18 : m b 18 = tK τ N s.p := hR.1.2.2.1
  unfold sg at k1
  rw [e18]
  refine ⟨fun h => ?_, fun h => ?_⟩
  · rw [if_neg h] at k1
    refine ⟨2, 0, _, hd, Nat.le_refl _, hX ▸ m_need hl 2 (by omega) hS hG hR hT hX2, ?_⟩
    rintro r γ m2 ⟨rfl, rfl, h3, h4⟩
    exact k1 m2 h3 h4
  · rw [if_pos h] at k1
    refine ⟨2, 0, _, hd, Nat.le_refl _, hX ▸ m_need hl 2 (by omega) hS hG hR hT hX2, ?_⟩
    rintro r γ m2 ⟨rfl, rfl, h3, h4⟩
    exact k1 m2 h3 h4
set_option maxHeartbeats 1000000 in
theorem m_clause (hl : l.stackTraces = false) (d : Nat) (hd : 3 < d) {b N n q w h ed c : Int} {τ : Int → Int} {s : PT} {a : AC} (hS : ModS G b) (hG : ModG γ b) (hR : PsR μ b τ N s) (hT : txt τ N) (hX : TxR μ b τ N) (hH : HdM μ b n q w h ed) (hO : hdO n q w h ed) (hA : AcR μ b n q w h ed a) (hAo : AcO n c a) (hc : 0 ≤ c ∧ c ≤ 40) :
    Cn l G yX9_clause cX9_clause 6 none d 0 [aR b, aI c] γ μ (fun r γ' μ' => r = none ∧ γ' = γ ∧ PsR μ' b τ N (clF τ N n q w c s a).1 ∧ ((clF τ N n q w c s a).1.fk = 0 → AcR μ' b n q w h ed (clF τ N n q w c s a).2) ∧ FC μ μ' b) := by
  refine Cn.ofP hl (plainFor_of_name (by decide)) (noLc nlR (noL1 nlI)) rfl (fun P hP o1 o3 X hX' hC => B_X9_clause_0 hC hS.o ?_)
  have hn := hO.n
  have hq := hO.1.b
  have s8 := ms8 hS; have s9 := ms9 hS; have s10 := ms10 hS
  refine ⟨2, 0, _, by omega, Nat.le_refl _, hX' ▸ m_knownWord hl 2 (by omega) hS hR.1, PI.use ?_⟩
  generalize hk : tN τ N s.p = k
  -- behind the three tests
  have s62 : ∀ m : Mu, PsR m b τ N (cl0 τ N w c s) → FT μ m b → V X G (Qm X G 0 P) 0 62 [aR b, aD, aI k, aD, aD, aD] [] γ m := fun m mR mf => by
    refine B_X9_clause_62 hC hS.o ?_
    refine ⟨0, 0, _, by omega, Nat.le_refl _, hX' ▸ m_isGood hl 0 hS, PI.use ?_⟩
    rw [mR.2.1]
    unfold clF at hP
    by_cases e0 : (cl0 τ N w c s).fk = 0
    case neg =>
      simp only [if_neg e0] at hP
      rw [if_neg e0]
      exact B_X9_clause_66 hC hS.o ⟨fun w => absurd rfl w, fun _ => ⟨Nat.le_refl _, hP _ _ _ ⟨rfl, rfl, mR, fun w => absurd w e0, mf.fc⟩⟩⟩
    simp only [if_pos e0] at hP
    rw [if_pos e0]
    obtain ⟨f0, f1, f2, f3, f4⟩ := cl0_ok e0
    rw [f1] at mR
    refine B_X9_clause_66 hC hS.o ⟨fun _ => ?_, fun w => absurd w (by decide)⟩
    refine ⟨1, 0, _, by omega, Nat.le_refl _, hX' ▸ m_goP hl 1 (by omega) hS hG mR hT (hX.ft mf), ?_⟩
    rintro r γ m1 ⟨rfl, rfl, R1, g1⟩
    have fg := mf.t g1
    have X1 := hX.ft fg
    have H1 := hH.fc fg.fc
    have A1 := hA.ft fg
    have hp1 := R1.2.2.2
    generalize hs1 : pGo τ N s = s1 at *
    rw [hk] at hP f3 f4
    have fin : ∀ (s' : PT) (a' : AC) (m2 m3 : Mu), (if k ≤ 5 then cl5 τ N q k s1 a else if k = 6 then cl6 τ N n s1 a else if k = 7 then cl7 τ N n q s1 a else cl8 τ N n s1 a) = (sg τ N s', a') → PsR m3 b τ N (sg τ N s') → (s'.fk = 0 → AcR m2 b n q w h ed a') → FC μ m2 b → FT m2 m3 b → P none γ m3 := fun s' a' m2 m3 he h1 h2 h3 h4 => by
      rw [he] at hP
      exact hP _ _ _ ⟨rfl, rfl, h1, fun w => (h2 (pNd_ok w).1).ft h4, h3.t h4.fc⟩
    refine B_X9_clause_74 hC hS.o ⟨fun h5 => ⟨fun h6 => ⟨fun h7 => ?_, fun h7 => ?_⟩, fun h6 => ?_⟩, fun h5 => ?_⟩
    · -- jam
      refine ⟨2, 0, _, by omega, Nat.le_refl _, hX' ▸ m_lamp hl 2 (by omega) hS hG R1 hT X1 H1.1, ?_⟩
      rintro r γ m2 ⟨rfl, rfl, R2, g2⟩
      have X2 := X1.ft g2
      have A2 := A1.ft g2
      have F2 : FC μ m2 b := (fg.t g2).fc
      refine B_X9_clause_218 hC hS.o ?_
      refine ⟨0, 0, _, by omega, Nat.le_refl _, hX' ▸ m_isGood hl 0 hS, PI.use ?_⟩
      rw [R2.2.1]
      have ek : (if k ≤ 5 then cl5 τ N q k s1 a else if k = 6 then cl6 τ N n s1 a else if k = 7 then cl7 τ N n q s1 a else cl8 τ N n s1 a) = cl8 τ N n s1 a := by rw [if_neg (by omega), if_neg h6, if_neg h7]
      by_cases e1 : (pLm τ N n s1 (-1)).fk = 0
      · rw [if_pos e1]
        obtain ⟨i1, i2, i3, i4, i5⟩ := pLm_ok e1
        have i0 := (vlP_b (τ := τ) hp1).1
        refine B_X9_clause_223 hC hS.o ⟨fun w => absurd w (by decide), fun _ => ?_⟩
        rw [mg33 hG]
        refine ⟨ixO s10 (by omega), ?_⟩
        have R3 : PsR (up m2 (b + 10) (vlP τ N s1) 1) b τ N (pLm τ N n s1 (-1)) := R2.fr (fun j _ _ => up_ne (by omega))
        have h9 := m_sg hl (d := d) hX' (by omega) (pc := 250) (P := P) hS hG R3 hT (fun j z1 z2 => by rw [up_ne (by omega)]; exact X2 j z1 z2) (fun m4 R4 g4 => B_X9_clause_250 hC ⟨Nat.le_refl _, fin (pLm τ N n s1 (-1)) (aJam a (vlP τ N s1)) (up m2 (b + 10) (vlP τ N s1) 1) m4 (by rw [ek]; unfold cl8; rw [if_pos e1]) R4 (fun _ => ⟨A2.1.fr (fun j => up_ne (by omega)), by rw [up_ne (by omega)]; exact A2.2.1, by rw [up_ne (by omega)]; exact A2.2.2.1, fun i z1 z2 => by rw [up_ne (by omega), up_ne (by omega)]; exact A2.2.2.2.1 i z1 z2, fun x z1 z2 => ?_⟩) (fun x j z1 z2 => by rw [up_ne (by omega)]; exact F2 x j z1 z2) g4⟩)
        · rw [up_ne (by omega)] at h9
          rw [R2.1.2.2.1]
          rw [R2.1.2.2.1] at h9
          exact h9
        · show _ = fup a.jm (vlP τ N s1) 1 x
          by_cases e9 : x = vlP τ N s1
          · rw [e9, fup_s, up_same]
          · rw [fup_n e9, up_ne (by omega)]; exact A2.2.2.2.2 x z1 z2
      · rw [if_neg e1]
        refine B_X9_clause_223 hC hS.o ⟨fun _ => ?_, fun w => absurd rfl w⟩
        exact m_sg hl (d := d) hX' (by omega) (pc := 250) (P := P) hS hG R2 hT X2 (fun m4 R4 g4 => B_X9_clause_250 hC ⟨Nat.le_refl _, fin (pLm τ N n s1 (-1)) a m2 m4 (by rw [ek]; unfold cl8; rw [if_neg e1]) R4 (fun w => absurd w e1) F2 g4⟩)
    · -- button
      refine ⟨2, 0, _, by omega, Nat.le_refl _, hX' ▸ m_lamp hl 2 (by omega) hS hG R1 hT X1 H1.1, ?_⟩
      rintro r γ m2 ⟨rfl, rfl, R2, g2⟩
      have X2 := X1.ft g2
      have F2 := fg.t g2
      have ek : (if k ≤ 5 then cl5 τ N q k s1 a else if k = 6 then cl6 τ N n s1 a else if k = 7 then cl7 τ N n q s1 a else cl8 τ N n s1 a) = cl7 τ N n q s1 a := by rw [if_neg (by omega), if_neg h6, if_pos h7]
      refine B_X9_clause_162 hC hS.o ?_
      refine ⟨2, 0, _, by omega, Nat.le_refl _, hX' ▸ m_knownWord hl 2 (by omega) hS R2.1, PI.use ?_⟩
      have s181 : ∀ m3 : Mu, PsR m3 b τ N (at7 τ N n s1) → FT μ m3 b → V X G (Qm X G 0 P) 0 181 [aR b, aD, aD, aI (vlP τ N s1), aD, aD] [] γ m3 := fun m3 R3 F3 => by
        have X3 := hX.ft F3
        refine B_X9_clause_181 hC hS.o ?_
        refine ⟨2, 0, _, by omega, Nat.le_refl _, hX' ▸ m_lamp hl 2 (by omega) hS hG R3 hT X3 (hH.fc F3.fc).1, ?_⟩
        rintro r γ m4 ⟨rfl, rfl, R4, g4⟩
        have F4 := F3.t g4
        refine B_X9_clause_186 hC hS.o ?_
        refine ⟨3, 0, _, hd, Nat.le_refl _, hX' ▸ m_by hl 3 (by omega) hS hG R4 hT (hX.ft F4) (hH.fc F4.fc).2.1 hq, ?_⟩
        rintro r γ m5 ⟨rfl, rfl, R5, g5⟩
        have F5 := F4.t g5
        refine B_X9_clause_192 hC hS.o ?_
        refine ⟨0, 0, _, by omega, Nat.le_refl _, hX' ▸ m_isGood hl 0 hS, PI.use ?_⟩
        rw [R5.2.1]
        have A5 := hA.ft F5
        have tail : ∀ (a' : AC) (m6 : Mu), PsR m6 b τ N (pBy τ N q (pLm τ N n (at7 τ N n s1) (-1))) → TxR m6 b τ N → cl7 τ N n q s1 a = (sg τ N (pBy τ N q (pLm τ N n (at7 τ N n s1) (-1))), a') → ((pBy τ N q (pLm τ N n (at7 τ N n s1) (-1))).fk = 0 → AcR m6 b n q w h ed a') → FC μ m6 b → V X G (Qm X G 0 P) 0 210 [aR b, aD, aD, aD, aD, aD] [] γ m6 := fun a' m6 R6 X6 ea A6 F6 => by
          refine B_X9_clause_210 hC hS.o ?_
          exact m_sg hl (d := d) hX' (by omega) (pc := 250) (P := P) hS hG R6 hT X6 (fun m7 R7 g7 => B_X9_clause_250 hC ⟨Nat.le_refl _, fin _ a' m6 m7 (by rw [ek, ea]) R7 A6 F6 g7⟩)
        by_cases e1 : (pBy τ N q (pLm τ N n (at7 τ N n s1) (-1))).fk = 0
        · rw [if_pos e1]
          obtain ⟨j1, j2, j3⟩ := pBy_ok hq.1 e1
          obtain ⟨k1, k2, k3, k4, k5⟩ := pLm_ok j1
          obtain ⟨m1', m2', m3'⟩ := pNd_ok (show (at7 τ N n s1).fk = 0 from k1)
          obtain ⟨i1, i2, i3, i4, i5⟩ := pLm_ok m1'
          have i0 := (vlP_b (τ := τ) hp1).1
          have i9 := (vlP_b (τ := τ) R3.2.2.2).1
          refine B_X9_clause_198 hC hS.o ⟨fun w => absurd w (by decide), fun _ => ?_⟩
          refine ⟨0, 0, _, by omega, Nat.le_refl _, hX' ▸ m_adds hl 0 hS hG (hH.fc F5.fc).2.1 hq A5.1 (by omega) (by omega) (by omega), ?_⟩
          rintro r γ m6 ⟨rfl, rfl, a6, f6⟩
          refine tail (aDir a (vlP τ N s1) (vlP τ N (at7 τ N n s1)) (vBy τ N (pLm τ N n (at7 τ N n s1) (-1)))) m6 (R5.fr (fun j _ _ => f6 _ _ (by omega))) (fun j z1 z2 => by rw [f6 _ _ (by omega)]; exact (hX.ft F5) j z1 z2) (by unfold cl7; rw [if_pos e1]) (fun _ => ⟨a6.cong (fun x y _ _ _ _ => ?_), by rw [f6 _ _ (by omega)]; exact A5.2.1, by rw [f6 _ _ (by omega)]; exact A5.2.2.1, fun i z1 z2 => by rw [f6 _ _ (by omega), f6 _ _ (by omega)]; exact A5.2.2.2.1 i z1 z2, fun x z1 z2 => by rw [f6 _ _ (by omega)]; exact A5.2.2.2.2 x z1 z2⟩) (fun x j z1 z2 => by rw [f6 _ _ (by omega)]; exact F5.fc x j z1 z2)
          exact amS_dir.symm
        · rw [if_neg e1]
          exact B_X9_clause_198 hC hS.o ⟨fun _ => tail a m5 R5 (hX.ft F5) (by unfold cl7; rw [if_neg e1]) (fun w => absurd w e1) F5.fc, fun w => absurd rfl w⟩
      refine B_X9_clause_168 hC hS.o ⟨fun h15 => ⟨hS.o, ?_⟩, fun h15 => ⟨hS.o, ?_⟩⟩
      · refine ⟨2, 0, _, by omega, Nat.le_refl _, hX' ▸ m_need hl 2 (by omega) hS hG R2 hT X2, ?_⟩
        rintro r γ m3 ⟨rfl, rfl, R3, g3⟩
        exact s181 m3 (by unfold at7; rw [if_neg h15]; exact R3) (F2.t g3)
      · refine ⟨2, 0, _, by omega, Nat.le_refl _, hX' ▸ m_need hl 2 (by omega) hS hG R2 hT X2, ?_⟩
        rintro r γ m3 ⟨rfl, rfl, R3, g3⟩
        exact s181 m3 (by unfold at7; rw [if_pos h15]; exact R3) (F2.t g3)
    · -- wire
      refine ⟨2, 0, _, by omega, Nat.le_refl _, hX' ▸ m_lamp hl 2 (by omega) hS hG R1 hT X1 H1.1, ?_⟩
      rintro r γ m2 ⟨rfl, rfl, R2, g2⟩
      have X2 := X1.ft g2
      have F2 := fg.t g2
      have ek : (if k ≤ 5 then cl5 τ N q k s1 a else if k = 6 then cl6 τ N n s1 a else if k = 7 then cl7 τ N n q s1 a else cl8 τ N n s1 a) = cl6 τ N n s1 a := by rw [if_neg (by omega), if_pos h6]
      refine B_X9_clause_102 hC hS.o ?_
      refine ⟨2, 0, _, by omega, Nat.le_refl _, hX' ▸ m_lamp hl 2 (by omega) hS hG R2 hT X2 (hH.fc F2.fc).1, ?_⟩
      rintro r γ m3 ⟨rfl, rfl, R3, g3⟩
      have F3 := F2.t g3
      have X3 := hX.ft F3
      have A3 := hA.ft F3
      refine B_X9_clause_108 hC hS.o ?_
      refine ⟨0, 0, _, by omega, Nat.le_refl _, hX' ▸ m_isGood hl 0 hS, PI.use ?_⟩
      rw [R3.2.1]
      by_cases e1 : (pLm τ N n (pLm τ N n s1 (-1)) (vlP τ N s1)).fk = 0
      · rw [if_pos e1]
        have hwc := hAo.2.1
        refine B_X9_clause_114 hC hS.o ⟨fun w => absurd w (by decide), fun _ => ?_⟩
        rw [mg31 hG, mg32 hG, A3.2.1]
        refine ⟨ixO s8 (by omega), ixO s9 (by omega), by constructor <;> omega, ?_⟩
        generalize hm4 : up (up (up m3 (b + 8) a.wc (vlP τ N s1)) (b + 9) a.wc (vlP τ N (pLm τ N n s1 (-1)))) b 28 (a.wc + 1) = m4
        have R4 : PsR m4 b τ N (pLm τ N n (pLm τ N n s1 (-1)) (vlP τ N s1)) := R3.fr (fun j z1 z2 => by rw [← hm4, up_ne (by omega), up_ne (by omega), up_ne (by omega)])
        have h9 := m_sg hl (d := d) hX' (by omega) (pc := 250) (P := P) hS hG R4 hT (fun j z1 z2 => by rw [← hm4, up_ne (by omega), up_ne (by omega), up_ne (by omega)]; exact X3 j z1 z2) (fun m5 R5 g5 => B_X9_clause_250 hC ⟨Nat.le_refl _, fin _ (aWir a (vlP τ N s1) (vlP τ N (pLm τ N n s1 (-1)))) m4 m5 (by rw [ek]; unfold cl6; rw [if_pos e1]) R5 (fun _ => ⟨A3.1.fr (fun j => by rw [← hm4, up_ne (by omega), up_ne (by omega), up_ne (by omega)]), by rw [← hm4, up_same]; rfl, by rw [← hm4, up_ne (by omega), up_ne (by omega), up_ne (by omega)]; exact A3.2.2.1, fun i z1 z2 => ?_, fun x z1 z2 => by rw [← hm4, up_ne (by omega), up_ne (by omega), up_ne (by omega)]; exact A3.2.2.2.2 x z1 z2⟩) (fun x j z1 z2 => by rw [← hm4, up_ne (by omega), up_ne (by omega), up_ne (by omega)]; exact F3.fc x j z1 z2) g5⟩)
        · have e18 : m3 b 18 = m4 b 18 := by rw [← hm4, up_ne (by omega), up_ne (by omega), up_ne (by omega)]
          rw [e18]
          exact h9
        · have z3 : i < a.wc + 1 := z2
          show _ = fup a.wA a.wc (vlP τ N s1) i ∧ _ = fup a.wB a.wc (vlP τ N (pLm τ N n s1 (-1))) i
          by_cases e9 : i = a.wc
          · rw [e9, fup_s, fup_s, ← hm4]
            exact ⟨by simp (disch := first | assumption | omega) only [row_off, row_in, row_out, up_same, up_ne], by simp (disch := first | assumption | omega) only [row_off, row_in, row_out, up_same, up_ne]⟩
          · rw [fup_n e9, fup_n e9, ← hm4, up_ne (by omega), up_ne (by omega), up_ne (by omega), up_ne (by omega), up_ne (by omega), up_ne (by omega)]
            exact A3.2.2.2.1 i z1 (by omega)
      · rw [if_neg e1]
        refine B_X9_clause_114 hC hS.o ⟨fun _ => ?_, fun w => absurd rfl w⟩
        exact m_sg hl (d := d) hX' (by omega) (pc := 250) (P := P) hS hG R3 hT X3 (fun m4 R4 g4 => B_X9_clause_250 hC ⟨Nat.le_refl _, fin _ a m3 m4 (by rw [ek]; unfold cl6; rw [if_neg e1]) R4 (fun w => absurd w e1) F3.fc g4⟩)
    · -- shapes
      refine ⟨3, 0, _, hd, Nat.le_refl _, hX' ▸ m_by hl 3 (by omega) hS hG R1 hT X1 H1.2.1 hq, ?_⟩
      rintro r γ m2 ⟨rfl, rfl, R2, g2⟩
      have F2 := fg.t g2
      have X2 := hX.ft F2
      have A2 := hA.ft F2
      have hv := vBy_b (τ := τ) hp1
      have hsh := hAo.1
      have ek : (if k ≤ 5 then cl5 τ N q k s1 a else if k = 6 then cl6 τ N n s1 a else if k = 7 then cl7 τ N n q s1 a else cl8 τ N n s1 a) = cl5 τ N q k s1 a := by rw [if_pos (by omega)]
      refine B_X9_clause_85 hC hS.o ⟨hS.o, ?_⟩
      refine ⟨3, 0, _, hd, Nat.le_refl _, hX' ▸ m_pattern hl 3 (by omega) hS hG (hH.fc F2.fc) hO A2.1 A2.2.2.1 (by split; have := hsh 1 (by decide) (by decide); omega; omega) (by omega) (by omega) (by omega), ?_⟩
      rintro r γ m3 ⟨rfl, rfl, p1, p2, p3⟩
      refine B_X9_clause_88 hC hS.o ?_
      by_cases e1 : (pBy τ N q s1).fk = 0
      · obtain ⟨q1, q2⟩ := p1 (by rw [R2.2.1]; exact e1)
        have R3 : PsR m3 b τ N (pBy τ N q s1) := R2.fr (fun j z1 z2 => p3 _ _ (by omega) (by omega))
        refine m_sg hl (d := d) hX' (by omega) (pc := 250) (P := P) hS hG R3 hT (fun j z1 z2 => by rw [p3 _ _ (by omega) (by omega)]; exact X2 j z1 z2) (fun m4 R4 g4 => B_X9_clause_250 hC ⟨Nat.le_refl _, fin _ (aShp a k (vBy τ N s1)) m3 m4 (by rw [ek]; unfold cl5; rw [if_pos e1]) R4 (fun _ => ⟨q1.cong (fun x y _ _ _ _ => ?_), by rw [p3 _ _ (by omega) (by omega)]; exact A2.2.1, ?_, fun i z1 z2 => by rw [p3 _ _ (by omega) (by omega), p3 _ _ (by omega) (by omega)]; exact A2.2.2.2.1 i z1 z2, fun x z1 z2 => by rw [p3 _ _ (by omega) (by omega)]; exact A2.2.2.2.2 x z1 z2⟩) (fun x j z1 z2 => by rw [p3 _ _ (by omega) (by omega)]; exact F2.fc x j z1 z2) g4⟩)
        · by_cases e9 : w = 0 ∧ k = 1
          · rw [if_pos e9, Int.add_zero]
            unfold amS
            rw [aShp_d, aShp_s, if_pos e9.1, if_pos e9.1, fup_n (by omega)]
          · rw [if_neg e9, amS_shp (by omega)]
        · rw [q2, aShp_s]
          by_cases e9 : w = 0
          · rw [if_pos e9, if_pos e9]
            by_cases e8 : k = 1
            · rw [if_pos ⟨e9, e8⟩, e8, fup_s]
            · rw [if_neg (fun z => e8 z.2), fup_n (fun z => e8 z.symm), Int.add_zero]
          · rw [if_neg e9, if_neg e9, if_neg (fun z => e9 z.1)]
            rfl
      · have e3 : m3 = m2 := p2 (by rw [R2.2.1]; exact e1)
        rw [e3]
        exact m_sg hl (d := d) hX' (by omega) (pc := 250) (P := P) hS hG R2 hT X2 (fun m4 R4 g4 => B_X9_clause_250 hC ⟨Nat.le_refl _, fin _ a m2 m4 (by rw [ek]; unfold cl5; rw [if_neg e1]) R4 (fun w => absurd w e1) F2.fc g4⟩)
  -- the three tests
  have s31 : ∀ m : Mu, PsR m b τ N (if c = 40 then pWr τ N (if k < 0 ∨ 8 < k then pWr τ N s 1 else s) 2 else (if k < 0 ∨ 8 < k then pWr τ N s 1 else s)) → FT μ m b → V X G (Qm X G 0 P) 0 31 [aR b, aD, aI k, aD, aD, aD] [] γ m := fun m mR mf => by
    unfold cl0 at s62
    rw [hk] at s62
    have wr3 : ((w = 0 ∧ 2 ≤ k ∧ k ≤ 5) ∨ (w ≠ 0 ∧ k = 6)) → ∃ (d9 k9 : Nat) (P9 : Option AV → Mu → Mu → Prop), d9 < d ∧ 0 + k9 ≤ 0 ∧ Cn X.l G yX9_wrong cX9_wrong 2 none d9 k9 [aR b, aI 3] γ m P9 ∧ ∀ r9 γ9 μ9, P9 r9 γ9 μ9 → V X G (Qm X G 0 P) (0 + k9) 62 [aR b, aD, aI k, aD, aD, aD] (r9.toList ++ []) γ9 μ9 := fun h9 => by
      refine ⟨0, 0, _, by omega, Nat.le_refl _, hX' ▸ m_wrong hl 0 hS, PV.use ?_⟩
      exact s62 _ (by rw [if_pos h9]; exact mR.wr) (mf.t FT.wr)
    have ok3 : ¬ ((w = 0 ∧ 2 ≤ k ∧ k ≤ 5) ∨ (w ≠ 0 ∧ k = 6)) → V X G (Qm X G 0 P) 0 62 [aR b, aD, aI k, aD, aD, aD] [] γ m := fun h9 => s62 m (by rw [if_neg h9]; exact mR) mf
    refine B_X9_clause_31 hC hS.o ?_
    rw [(hH.fc mf.fc).2.2.1]
    exact ⟨fun w0 => ⟨fun k6 => ok3 (by omega), fun k6 => wr3 (Or.inr ⟨w0, k6⟩)⟩, fun w0 => ⟨fun k2 => ok3 (by omega), fun k2 => ⟨fun k5 => ok3 (by omega), fun k5 => wr3 (Or.inl ⟨w0, by omega, by omega⟩)⟩⟩⟩
  have s20 : ∀ m : Mu, PsR m b τ N (if k < 0 ∨ 8 < k then pWr τ N s 1 else s) → FT μ m b → V X G (Qm X G 0 P) 0 20 [aR b, aI c, aI k, aD, aD, aD] [] γ m := fun m mR mf => by
    refine B_X9_clause_20 hC hS.o ⟨fun h9 => s31 m (by rw [if_neg h9]; exact mR) mf, fun h9 => ?_⟩
    refine ⟨0, 0, _, by omega, Nat.le_refl _, hX' ▸ m_wrong hl 0 hS, PV.use ?_⟩
    exact s31 _ (by rw [if_pos h9]; exact mR.wr) (mf.t FT.wr)
  refine B_X9_clause_4 hC hS.o ⟨fun h9 => ?_, fun h9 => ⟨fun h8 => s20 μ (by rw [if_neg (by omega)]; exact hR) FT.rf, fun h8 => ?_⟩⟩
  · refine ⟨0, 0, _, by omega, Nat.le_refl _, hX' ▸ m_wrong hl 0 hS, PV.use ?_⟩
    exact s20 _ (by rw [if_pos (Or.inl h9)]; exact hR.wr) FT.wr
  · refine ⟨0, 0, _, by omega, Nat.le_refl _, hX' ▸ m_wrong hl 0 hS, PV.use ?_⟩
    exact s20 _ (by rw [if_pos (Or.inr (by omega))]; exact hR.wr) FT.wr
end MClause
