/-! reading: the state of it; the reference: need, number, lamp, by, adds, steps, pattern -/
/-- where the token is sought from, the fault, its place -/
abbrev PT : Type := Int × Int × Int
abbrev PT.p (s : PT) : Int := s.1
abbrev PT.fk (s : PT) : Int := s.2.1
abbrev PT.fp (s : PT) : Int := s.2.2
def pGo (τ : Int → Int) (N : Int) (s : PT) : PT := (tE τ N s.p, s.fk, s.fp)
def pWr (τ : Int → Int) (N : Int) (s : PT) (k : Int) : PT := if s.fk = 0 then (s.p, k, tS τ N s.p) else s
def pNd (τ : Int → Int) (N : Int) (s : PT) (c : Int) : PT := if s.fk = 0 then (if c = 0 then pWr τ N s 1 else pGo τ N s) else s
def pNm (τ : Int → Int) (N : Int) (s : PT) (lo hi : Int) : PT := if s.fk = 0 then (if tK τ N s.p = 2 then (if 3 < tL τ N s.p ∨ tV τ N s.p < lo ∨ hi < tV τ N s.p then pWr τ N s 2 else pGo τ N s) else pWr τ N s 1) else s
def pLm (τ : Int → Int) (N n : Int) (s : PT) (ot : Int) : PT := if s.fk = 0 then (if tK τ N s.p = 2 then (if 3 < tL τ N s.p then pWr τ N s 2 else if n ≤ tV τ N s.p then pWr τ N s 4 else if tV τ N s.p = ot then pWr τ N s 5 else pGo τ N s) else pWr τ N s 1) else s
def vlP (τ : Int → Int) (N : Int) (s : PT) : Int := if s.fk = 0 then tV τ N s.p else 0
def byQ (τ : Int → Int) (N : Int) (s : PT) : Prop := s.fk = 0 ∧ tN τ N s.p = 14
def pBy (τ : Int → Int) (N q : Int) (s : PT) : PT := if s.fk = 0 ∧ tN τ N s.p = 14 then pNm τ N (pGo τ N s) 1 (q - 1) else s
def vBy (τ : Int → Int) (N : Int) (s : PT) : Int := if s.fk = 0 ∧ tN τ N s.p = 14 then vlP τ N (pGo τ N s) else 1
def PsR (m : Mu) (b : Int) (τ : Int → Int) (N : Int) (s : PT) : Prop := TokR m b τ N s.p ∧ m b 14 = s.fk ∧ m b 15 = s.fp ∧ (0 ≤ s.p ∧ s.p ≤ N)
theorem FT.rf {μ : Mu} {b : Int} : FT μ μ b := fun _ _ _ => rfl
theorem PsR.wr {m : Mu} {b k N : Int} {τ : Int → Int} {s : PT} (h : PsR m b τ N s) : PsR (if m b 14 = 0 then up (up m b 14 k) b 15 (m b 19) else m) b τ N (pWr τ N s k) := by
  obtain ⟨h1, h2, h3, h4⟩ := h
  unfold pWr
  by_cases e : s.fk = 0
  · rw [if_pos e, if_pos (by rw [h2]; exact e)]
    obtain ⟨t1, t2, t3, t4, t5, t6, t7⟩ := h1
    refine ⟨⟨?_, ?_, ?_, ?_, ?_, ?_, ?_⟩, ?_, ?_, h4⟩
    all_goals simp (disch := first | assumption | omega) only [row_off, row_in, row_out, up_same, up_ne]
    all_goals first | assumption | rfl
  · rw [if_neg e, if_neg (by rw [h2]; exact e)]
    exact ⟨h1, h2, h3, h4⟩
theorem FT.wr {m : Mu} {b k : Int} : FT m (if m b 14 = 0 then up (up m b 14 k) b 15 (m b 19) else m) b := by
  intro x j h
  split
  · rw [up_ne (by omega), up_ne (by omega)]
  · rfl
theorem TxR.ft {μ m : Mu} {b N : Int} {τ : Int → Int} (h : TxR μ b τ N) (hf : FT μ m b) : TxR m b τ N := fun j z1 z2 => by rw [hf _ _ (by omega)]; exact h j z1 z2
section MParse
variable {l : Launch} {G : Gx} {γ μ : Mu}
theorem m_goP (hl : l.stackTraces = false) (d : Nat) (hd : 0 < d) {b N : Int} {τ : Int → Int} {s : PT} (hS : ModS G b) (hG : ModG γ b) (hR : PsR μ b τ N s) (hT : txt τ N) (hX : TxR μ b τ N) : Cn l G yX9_goes cX9_goes 2 none d 0 [aR b] γ μ (fun r γ' μ' => r = none ∧ γ' = γ ∧ PsR μ' b τ N (pGo τ N s) ∧ FT μ μ' b) := by
  have hp := hR.2.2.2
  have hb := tok_b (τ := τ) hp
  refine Cn.mono (m_goes hl d hd hS hG hR.1.1 hR.1.2.1 (by omega) hT hX) ?_
  rintro r γ' μ' ⟨h1, h2, h3, h4⟩
  exact ⟨h1, h2, ⟨h3, by rw [h4 _ _ (by omega)]; exact hR.2.1, by rw [h4 _ _ (by omega)]; exact hR.2.2.1, by show 0 ≤ tE τ N s.p ∧ tE τ N s.p ≤ N; omega⟩, h4.ft⟩
theorem m_need (hl : l.stackTraces = false) (d : Nat) (hd : 1 < d) {b N c : Int} {τ : Int → Int} {s : PT} (hS : ModS G b) (hG : ModG γ b) (hR : PsR μ b τ N s) (hT : txt τ N) (hX : TxR μ b τ N) : Cn l G yX9_need cX9_need 2 none d 0 [aR b, aI c] γ μ (fun r γ' μ' => r = none ∧ γ' = γ ∧ PsR μ' b τ N (pNd τ N s c) ∧ FT μ μ' b) := by
  refine Cn.ofP hl (plainFor_of_name (by decide)) (noLc nlR (noL1 nlI)) rfl (fun P hP o1 o3 X hX' hC => B_X9_need_0 hC hS.o ?_)
  refine ⟨0, 0, _, by omega, Nat.le_refl _, hX' ▸ m_isGood hl 0 hS, PI.use ?_⟩
  rw [hR.2.1]
  unfold pNd at hP
  by_cases e : s.fk = 0
  · simp only [if_pos e] at hP ⊢
    refine B_X9_need_4 hC hS.o ⟨fun _ => ⟨fun h => ?_, fun h => ?_⟩, fun w => absurd w (by decide)⟩
    · refine ⟨0, 0, _, by omega, Nat.le_refl _, hX' ▸ m_wrong hl 0 hS, PV.use ?_⟩
      exact B_X9_need_24 hC ⟨Nat.le_refl _, hP _ _ _ ⟨rfl, rfl, by rw [if_pos h]; exact hR.wr, FT.wr⟩⟩
    · refine ⟨1, 0, _, hd, Nat.le_refl _, hX' ▸ m_goP hl 1 (by omega) hS hG hR hT hX, ?_⟩
      rintro r γ m ⟨rfl, rfl, h3, h4⟩
      exact B_X9_need_16 hC (B_X9_need_24 hC ⟨Nat.le_refl _, hP _ _ _ ⟨rfl, rfl, by rw [if_neg h]; exact h3, h4⟩⟩)
  · simp only [if_neg e] at hP ⊢
    exact B_X9_need_4 hC hS.o ⟨fun w => absurd rfl w, fun _ => ⟨Nat.le_refl _, hP _ _ _ ⟨rfl, rfl, hR, FT.rf⟩⟩⟩
theorem m_number (hl : l.stackTraces = false) (d : Nat) (hd : 1 < d) {b N lo hi : Int} {τ : Int → Int} {s : PT} (hS : ModS G b) (hG : ModG γ b) (hR : PsR μ b τ N s) (hT : txt τ N) (hX : TxR μ b τ N) : Cn l G yX9_number cX9_number 4 (some .int) d 0 [aR b, aI lo, aI hi] γ μ (fun r γ' μ' => r = some (aI (vlP τ N s)) ∧ γ' = γ ∧ PsR μ' b τ N (pNm τ N s lo hi) ∧ FT μ μ' b) := by
  refine Cn.ofP hl (plainFor_of_name (by decide)) (noLc nlR (noLc nlI (noL1 nlI))) rfl (fun P hP o1 o3 X hX' hC => B_X9_number_0 hC hS.o ?_)
  refine ⟨0, 0, _, by omega, Nat.le_refl _, hX' ▸ m_isGood hl 0 hS, PI.use ?_⟩
  rw [hR.2.1]
  unfold pNm vlP at hP
  by_cases e : s.fk = 0
  case neg =>
    simp only [if_neg e] at hP ⊢
    exact B_X9_number_4 hC hS.o ⟨fun w => absurd rfl w, fun _ => ⟨Nat.le_refl _, hP _ _ _ ⟨rfl, rfl, hR, FT.rf⟩⟩⟩
  simp only [if_pos e] at hP ⊢
  obtain ⟨⟨t1, t2, t3, t4, t5, t6, t7⟩, h14, h15, hp⟩ := id hR
  have bad : ∀ k, k ≠ 0 → pNm τ N s lo hi = pWr τ N s k → V X G (Qm X G 0 P) 0 54 [aR b, aD, aD, aD] [] γ (if μ b 14 = 0 then up (up μ b 14 k) b 15 (μ b 19) else μ) := fun k hk0 hk => by
    have e14 : (if μ b 14 = 0 then up (up μ b 14 k) b 15 (μ b 19) else μ) b 14 ≠ 0 := by
      rw [if_pos (by rw [h14]; exact e), up_ne (by omega), up_same]; exact hk0
    have hR2 := hR.wr (k := k)
    have hf := FT.wr (m := μ) (b := b) (k := k)
    have e21 : (if μ b 14 = 0 then up (up μ b 14 k) b 15 (μ b 19) else μ) b 21 = tV τ N s.p := by
      rw [if_pos (by rw [h14]; exact e), up_ne (by omega), up_ne (by omega)]
      exact t6
    generalize (if μ b 14 = 0 then up (up μ b 14 k) b 15 (μ b 19) else μ) = m at *
    refine B_X9_number_54 hC hS.o ?_
    refine ⟨0, 0, _, by omega, Nat.le_refl _, hX' ▸ m_isGood hl 0 hS, PI.use ?_⟩
    rw [if_neg e14, e21]
    refine B_X9_number_63 hC hS.o ⟨fun _ => B_X9_number_70 hC ⟨Nat.le_refl _, hP _ _ _ ⟨rfl, rfl, ?_, hf⟩⟩, fun w => absurd rfl w⟩
    have h9 : pNm τ N s lo hi = (if tK τ N s.p = 2 then (if 3 < tL τ N s.p ∨ tV τ N s.p < lo ∨ hi < tV τ N s.p then pWr τ N s 2 else pGo τ N s) else pWr τ N s 1) := by unfold pNm; rw [if_pos e]
    rw [← h9, hk]
    exact hR2
  have bad2 : tK τ N s.p = 2 → (3 < tL τ N s.p ∨ tV τ N s.p < lo ∨ hi < tV τ N s.p) → pNm τ N s lo hi = pWr τ N s 2 := fun h1 h2 => by unfold pNm; rw [if_pos e, if_pos h1, if_pos h2]
  refine B_X9_number_4 hC hS.o ⟨fun _ => ?_, fun w => absurd w (by decide)⟩
  rw [t3, t5, t6]
  refine ⟨fun h2 => ⟨fun h3 => ?_, fun h3 => ⟨fun h4 => ?_, fun h4 => ⟨fun h5 => ?_, fun h5 => ?_⟩⟩⟩, fun h2 => ?_⟩
  · refine ⟨0, 0, _, by omega, Nat.le_refl _, hX' ▸ m_wrong hl 0 hS, PV.use ?_⟩
    exact bad 2 (by decide) (bad2 h2 (Or.inl h3))
  · refine ⟨0, 0, _, by omega, Nat.le_refl _, hX' ▸ m_wrong hl 0 hS, PV.use ?_⟩
    exact bad 2 (by decide) (bad2 h2 (Or.inr (Or.inl h4)))
  · refine B_X9_number_54 hC hS.o ?_
    refine ⟨0, 0, _, by omega, Nat.le_refl _, hX' ▸ m_isGood hl 0 hS, PI.use ?_⟩
    rw [if_pos (by rw [h14]; exact e), t6]
    refine B_X9_number_63 hC hS.o ⟨fun w => absurd w (by decide), fun _ => ?_⟩
    refine ⟨1, 0, _, hd, Nat.le_refl _, hX' ▸ m_goP hl 1 (by omega) hS hG hR hT hX, ?_⟩
    rintro r γ m ⟨rfl, rfl, h6, h7⟩
    exact B_X9_number_70 hC ⟨Nat.le_refl _, hP _ _ _ ⟨rfl, rfl, by rw [if_pos h2, if_neg (by omega)]; exact h6, h7⟩⟩
  · refine ⟨0, 0, _, by omega, Nat.le_refl _, hX' ▸ m_wrong hl 0 hS, PV.use ?_⟩
    exact bad 2 (by decide) (bad2 h2 (Or.inr (Or.inr (by omega))))
  · refine ⟨0, 0, _, by omega, Nat.le_refl _, hX' ▸ m_wrong hl 0 hS, PV.use ?_⟩
    exact B_X9_number_22 hC hS.o (bad 1 (by decide) (by unfold pNm; rw [if_pos e, if_neg h2]))
theorem m_lamp (hl : l.stackTraces = false) (d : Nat) (hd : 1 < d) {b N n ot : Int} {τ : Int → Int} {s : PT} (hS : ModS G b) (hG : ModG γ b) (hR : PsR μ b τ N s) (hT : txt τ N) (hX : TxR μ b τ N) (en : μ b 23 = n) : Cn l G yX9_lamp cX9_lamp 3 (some .int) d 0 [aR b, aI ot] γ μ (fun r γ' μ' => r = some (aI (vlP τ N s)) ∧ γ' = γ ∧ PsR μ' b τ N (pLm τ N n s ot) ∧ FT μ μ' b) := by
  refine Cn.ofP hl (plainFor_of_name (by decide)) (noLc nlR (noL1 nlI)) rfl (fun P hP o1 o3 X hX' hC => B_X9_lamp_0 hC hS.o ?_)
  refine ⟨0, 0, _, by omega, Nat.le_refl _, hX' ▸ m_isGood hl 0 hS, PI.use ?_⟩
  rw [hR.2.1]
  unfold vlP at hP
  by_cases e : s.fk = 0
  case neg =>
    have h9 : pLm τ N n s ot = s := by unfold pLm; rw [if_neg e]
    rw [h9] at hP
    simp only [if_neg e] at hP ⊢
    exact B_X9_lamp_4 hC hS.o ⟨fun w => absurd rfl w, fun _ => ⟨Nat.le_refl _, hP _ _ _ ⟨rfl, rfl, hR, FT.rf⟩⟩⟩
  simp only [if_pos e] at hP ⊢
  obtain ⟨⟨t1, t2, t3, t4, t5, t6, t7⟩, h14, h15, hp⟩ := id hR
  have bad : ∀ k, k ≠ 0 → pLm τ N n s ot = pWr τ N s k → V X G (Qm X G 0 P) 0 73 [aR b, aD, aD] [] γ (if μ b 14 = 0 then up (up μ b 14 k) b 15 (μ b 19) else μ) := fun k hk0 hk => by
    have e14 : (if μ b 14 = 0 then up (up μ b 14 k) b 15 (μ b 19) else μ) b 14 ≠ 0 := by
      rw [if_pos (by rw [h14]; exact e), up_ne (by omega), up_same]; exact hk0
    have hR2 := hR.wr (k := k)
    have hf := FT.wr (m := μ) (b := b) (k := k)
    have e21 : (if μ b 14 = 0 then up (up μ b 14 k) b 15 (μ b 19) else μ) b 21 = tV τ N s.p := by
      rw [if_pos (by rw [h14]; exact e), up_ne (by omega), up_ne (by omega)]
      exact t6
    generalize (if μ b 14 = 0 then up (up μ b 14 k) b 15 (μ b 19) else μ) = m at *
    refine B_X9_lamp_73 hC hS.o ?_
    refine ⟨0, 0, _, by omega, Nat.le_refl _, hX' ▸ m_isGood hl 0 hS, PI.use ?_⟩
    rw [if_neg e14, e21]
    exact B_X9_lamp_82 hC hS.o ⟨fun _ => B_X9_lamp_89 hC ⟨Nat.le_refl _, hP _ _ _ ⟨rfl, rfl, by rw [hk]; exact hR2, hf⟩⟩, fun w => absurd rfl w⟩
  refine B_X9_lamp_4 hC hS.o ⟨fun _ => ?_, fun w => absurd w (by decide)⟩
  rw [t3, t5, t6, en]
  refine ⟨fun h2 => ⟨fun h3 => ⟨fun h4 => ⟨fun h5 => ?_, fun h5 => ?_⟩, fun h4 => ?_⟩, fun h3 => ?_⟩, fun h2 => ?_⟩
  · refine B_X9_lamp_73 hC hS.o ?_
    refine ⟨0, 0, _, by omega, Nat.le_refl _, hX' ▸ m_isGood hl 0 hS, PI.use ?_⟩
    rw [if_pos (by rw [h14]; exact e), t6]
    refine B_X9_lamp_82 hC hS.o ⟨fun w => absurd w (by decide), fun _ => ?_⟩
    refine ⟨1, 0, _, hd, Nat.le_refl _, hX' ▸ m_goP hl 1 (by omega) hS hG hR hT hX, ?_⟩
    rintro r γ m ⟨rfl, rfl, h6, h7⟩
    exact B_X9_lamp_89 hC ⟨Nat.le_refl _, hP _ _ _ ⟨rfl, rfl, by unfold pLm; rw [if_pos e, if_pos h2, if_neg (by omega), if_neg (by omega), if_neg h5]; exact h6, h7⟩⟩
  · refine ⟨0, 0, _, by omega, Nat.le_refl _, hX' ▸ m_wrong hl 0 hS, PV.use ?_⟩
    exact bad 5 (by decide) (by unfold pLm; rw [if_pos e, if_pos h2, if_neg (by omega), if_neg (by omega), if_pos h5])
  · refine ⟨0, 0, _, by omega, Nat.le_refl _, hX' ▸ m_wrong hl 0 hS, PV.use ?_⟩
    exact B_X9_lamp_57 hC hS.o (bad 4 (by decide) (by unfold pLm; rw [if_pos e, if_pos h2, if_neg (by omega), if_pos (by omega)]))
  · refine ⟨0, 0, _, by omega, Nat.le_refl _, hX' ▸ m_wrong hl 0 hS, PV.use ?_⟩
    exact B_X9_lamp_38 hC hS.o (bad 2 (by decide) (by unfold pLm; rw [if_pos e, if_pos h2, if_pos (by omega)]))
  · refine ⟨0, 0, _, by omega, Nat.le_refl _, hX' ▸ m_wrong hl 0 hS, PV.use ?_⟩
    exact B_X9_lamp_22 hC hS.o (bad 1 (by decide) (by unfold pLm; rw [if_pos e, if_neg h2]))
theorem m_by (hl : l.stackTraces = false) (d : Nat) (hd : 2 < d) {b N q : Int} {τ : Int → Int} {s : PT} (hS : ModS G b) (hG : ModG γ b) (hR : PsR μ b τ N s) (hT : txt τ N) (hX : TxR μ b τ N) (eq : μ b 24 = q) (hq : 2 ≤ q ∧ q ≤ 5) : Cn l G yX9_by cX9_by 1 (some .int) d 0 [aR b] γ μ (fun r γ' μ' => r = some (aI (vBy τ N s)) ∧ γ' = γ ∧ PsR μ' b τ N (pBy τ N q s) ∧ FT μ μ' b) := by
  refine Cn.ofP hl (plainFor_of_name (by decide)) (noL1 nlR) rfl (fun P hP o1 o3 X hX' hC => B_X9_by_0 hC hS.o ?_)
  refine ⟨0, 0, _, by omega, Nat.le_refl _, hX' ▸ m_isGood hl 0 hS, PI.use ?_⟩
  rw [hR.2.1]
  unfold pBy vBy at hP
  by_cases e : s.fk = 0
  case neg =>
    simp only [if_neg (show ¬ (s.fk = 0 ∧ tN τ N s.p = 14) from fun w => e w.1)] at hP
    rw [if_neg e]
    exact B_X9_by_4 hC hS.o ⟨fun _ => ⟨Nat.le_refl _, hP _ _ _ ⟨rfl, rfl, hR, FT.rf⟩⟩, fun w => absurd rfl w⟩
  rw [if_pos e]
  refine B_X9_by_4 hC hS.o ⟨fun w => absurd w (by decide), fun _ => ?_⟩
  refine ⟨2, 0, _, hd, Nat.le_refl _, hX' ▸ m_knownWord hl 2 (by omega) hS hR.1, PI.use ?_⟩
  refine B_X9_by_11 hC hS.o ⟨fun h => ?_, fun h => ?_⟩
  · simp only [if_pos (show s.fk = 0 ∧ tN τ N s.p = 14 from ⟨e, h⟩)] at hP
    refine ⟨1, 0, _, by omega, Nat.le_refl _, hX' ▸ m_goP hl 1 (by omega) hS hG hR hT hX, ?_⟩
    rintro r γ m ⟨rfl, rfl, h3, h4⟩
    refine B_X9_by_22 hC hS.o ?_
    rw [h4 b 24 (by omega), eq]
    refine ⟨by constructor <;> omega, 2, 0, _, hd, Nat.le_refl _, hX' ▸ m_number hl 2 (by omega) hS hG h3 hT (hX.ft h4), ?_⟩
    rintro r γ m2 ⟨rfl, rfl, h5, h6⟩
    exact B_X9_by_33 hC ⟨Nat.le_refl _, hP _ _ _ ⟨rfl, rfl, h5, h4.t h6⟩⟩
  · simp only [if_neg (show ¬ (s.fk = 0 ∧ tN τ N s.p = 14) from fun w => h w.2)] at hP
    exact ⟨Nat.le_refl _, hP _ _ _ ⟨rfl, rfl, hR, FT.rf⟩⟩
end MParse
/-! amounts that clauses add up -/
def AmR (m : Mu) (b q : Int) (A : Int → Int → Int) : Prop := ∀ x y, 0 ≤ x → x < 36 → 0 ≤ y → y < 36 → m (b + 7) (36 * x + y) = A x y % q
theorem AmR.fr {μ m : Mu} {b q : Int} {A : Int → Int → Int} (h : AmR μ b q A) (hf : ∀ j, m (b + 7) j = μ (b + 7) j) : AmR m b q A := fun x y z1 z2 z3 z4 => by rw [hf]; exact h x y z1 z2 z3 z4
theorem AmR.cong {m : Mu} {b q : Int} {A B : Int → Int → Int} (h : AmR m b q A) (hf : ∀ x y, 0 ≤ x → x < 36 → 0 ≤ y → y < 36 → A x y = B x y) : AmR m b q B := fun x y z1 z2 z3 z4 => by rw [← hf x y z1 z2 z3 z4]; exact h x y z1 z2 z3 z4
/-- the lamp so many columns and rows off; -1: none -/
def tgX (w ed dx x : Int) : Int := if 1 ≤ ed then (x % w + dx) % w else x % w + dx
def tgY (w h ed dy x : Int) : Int := if ed = 2 then (x / w + dy) % h else x / w + dy
def tg (w h ed dx dy x : Int) : Int := if (0 ≤ tgX w ed dx x ∧ tgX w ed dx x < w) ∧ (0 ≤ tgY w h ed dy x ∧ tgY w h ed dy x < h) then tgX w ed dx x + w * tgY w h ed dy x else -1
def c1 (n w h ed dx dy x y : Int) : Int := if (0 ≤ x ∧ x < n) ∧ tg w h ed dx dy x = y then 1 else 0
/-- by how many ways a clause of the shape k comes from button x to lamp y -/
def shC (n w h ed k x y : Int) : Int :=
  if k = 0 then (if (0 ≤ x ∧ x < n) ∧ x = y then 1 else 0)
  else if k = 1 then c1 n w h ed 1 0 x y + c1 n w h ed (-1) 0 x y + c1 n w h ed 0 1 x y + c1 n w h ed 0 (-1) x y
  else if k = 2 then c1 n w h ed 1 1 x y + c1 n w h ed (-1) 1 x y + c1 n w h ed 1 (-1) x y + c1 n w h ed (-1) (-1) x y
  else if k = 3 then (c1 n w h ed 1 2 x y + c1 n w h ed (-1) 2 x y + c1 n w h ed 1 (-2) x y + c1 n w h ed (-1) (-2) x y) + (c1 n w h ed 2 1 x y + c1 n w h ed (-2) 1 x y + c1 n w h ed 2 (-1) x y + c1 n w h ed (-2) (-1) x y)
  else if k = 4 then (if ((0 ≤ x ∧ x < n) ∧ (0 ≤ y ∧ y < n)) ∧ x / w = y / w then 1 else 0)
  else (if ((0 ≤ x ∧ x < n) ∧ (0 ≤ y ∧ y < n)) ∧ x % w = y % w then 1 else 0)
/-- what the text has told of the hall -/
def HdM (m : Mu) (b n q w h ed : Int) : Prop := m b 23 = n ∧ m b 24 = q ∧ m b 25 = w ∧ m b 26 = h ∧ m b 27 = ed
def hdO (n q w h ed : Int) : Prop := qP q ∧ ((w = 0 ∧ (1 ≤ n ∧ n ≤ 36) ∧ ed = -1 ∧ h = 0) ∨ ((1 ≤ w ∧ w ≤ 6) ∧ (1 ≤ h ∧ h ≤ 6) ∧ n = w * h ∧ (0 ≤ ed ∧ ed ≤ 2)))
theorem hdO.n {n q w h ed : Int} (H : hdO n q w h ed) : 1 ≤ n ∧ n ≤ 36 := by
  rcases H.2 with ⟨-, h, -⟩ | ⟨h1, h2, h3, -⟩
  · exact h
  · have a1 : 1 * 1 ≤ w * h := Int.mul_le_mul h1.1 h2.1 (by decide) (by omega)
    have a2 : w * h ≤ 6 * 6 := Int.mul_le_mul h1.2 h2.2 (by omega) (by omega)
    omega
/-- all but the amounts that are added up -/
def FA (μ m : Mu) (b : Int) : Prop := ∀ x j, x ≠ b + 7 → m x j = μ x j
theorem HdM.fa {μ m : Mu} {b n q w h ed : Int} (H : HdM μ b n q w h ed) (hf : FA μ m b) : HdM m b n q w h ed := by
  obtain ⟨h1, h2, h3, h4, h5⟩ := H
  exact ⟨by rw [hf _ _ (by omega)]; exact h1, by rw [hf _ _ (by omega)]; exact h2, by rw [hf _ _ (by omega)]; exact h3, by rw [hf _ _ (by omega)]; exact h4, by rw [hf _ _ (by omega)]; exact h5⟩
theorem FA.t {μ m m2 : Mu} {b : Int} (h : FA μ m b) (h2 : FA m m2 b) : FA μ m2 b := fun x j hx => by rw [h2 x j hx, h x j hx]
section MAdds
variable {l : Launch} {G : Gx} {γ μ : Mu}
theorem m_adds (hl : l.stackTraces = false) (d : Nat) {b q x y v : Int} {A : Int → Int → Int} (hS : ModS G b) (hG : ModG γ b) (eq : μ b 24 = q) (hq : 2 ≤ q ∧ q ≤ 5) (hA : AmR μ b q A) (hx : 0 ≤ x ∧ x < 36) (hy : 0 ≤ y ∧ y < 36) (hv : 0 ≤ v ∧ v ≤ 1000) : Cn l G yX9_adds cX9_adds 4 none d 0 [aR b, aI x, aI y, aI v] γ μ (fun r γ' μ' => r = none ∧ γ' = γ ∧ AmR μ' b q (fun x' y' => A x' y' + (if x' = x ∧ y' = y then v else 0)) ∧ FA μ μ' b) := by
  refine Cn.ofP hl (plainFor_of_name (by decide)) (noLc nlR (noLc nlI (noLc nlI (noL1 nlI)))) rfl (fun P hP o1 o3 X hX' hC => B_X9_adds_0 hC hS.o ?_)
  have s7 := ms7 hS
  have e1 := hA x y hx.1 hx.2 hy.1 hy.2
  have b1 := Int.emod_nonneg (A x y) (show q ≠ 0 by omega)
  have b2 := Int.emod_lt_of_pos (A x y) (show 0 < q by omega)
  simp (disch := first | assumption | omega) only [row_off, row_in, row_out, up_same, up_ne, cpy_off, rwo_off, rwo_at, rwo_out, mg6, mg7, mg8, mg9, mg10, mg12, mg30, mg31, mg32, mg33, mg35, mg36, mg37, mg38, mg39, mg43, mg44, mg45, mg46, mg47, mg48, mg49, mg50, mg53, mg54, mg55, mg56, mg57, mg58, mg59, mg60, mg65, mg66, mg67, mg68, mg69, mg70, mg71, mg72, eq, e1]
  refine ⟨by constructor <;> omega, by constructor <;> omega, ixO s7 (by omega), by constructor <;> omega, by omega, Nat.le_refl _, hP _ _ _ ⟨rfl, rfl, fun x' y' z1 z2 z3 z4 => ?_, fun x' j h => up_ne (by omega)⟩⟩
  dsimp only
  by_cases e : x' = x ∧ y' = y
  · obtain ⟨rfl, rfl⟩ := e
    rw [up_same, if_pos ⟨rfl, rfl⟩, Int.tmod_eq_emod_of_nonneg (by omega), Int.emod_add_emod]
  · rw [up_ne (by omega), if_neg e, Int.add_zero]
    exact hA x' y' z1 z2 z3 z4
theorem m_steps (hl : l.stackTraces = false) (d : Nat) (hd : 0 < d) {b n q w h ed dx dy v : Int} {A : Int → Int → Int} (hS : ModS G b) (hG : ModG γ b) (hH : HdM μ b n q w h ed) (hO : hdO n q w h ed) (hw : 1 ≤ w) (hA : AmR μ b q A) (hdx : -2 ≤ dx ∧ dx ≤ 2) (hdy : -2 ≤ dy ∧ dy ≤ 2) (hv : 0 ≤ v ∧ v ≤ 1000) : Cn l G yX9_steps cX9_steps 7 none d 0 [aR b, aI dx, aI dy, aI v] γ μ (fun r γ' μ' => r = none ∧ γ' = γ ∧ AmR μ' b q (fun x y => A x y + v * c1 n w h ed dx dy x y) ∧ FA μ μ' b) := by
  refine Cn.ofP hl (plainFor_of_name (by decide)) (noLc nlR (noLc nlI (noLc nlI (noL1 nlI)))) rfl (fun P hP o1 o3 X hX' hC => B_X9_steps_0 hC hS.o ?_)
  have hn := hO.n
  have hq := hO.1.b
  rcases hO.2 with ⟨w0, -⟩ | ⟨hw2, hh2, hnw, hed⟩
  · omega
  have loop := rem_ind (n := n) (P := fun i => ∀ m : Mu, FA μ m b → AmR m b q (fun x y => A x y + (if (0 ≤ x ∧ x < i) ∧ tg w h ed dx dy x = y then v else 0)) → V X G (Qm X G 0 P) 0 3 [aR b, aI dx, aI dy, aI v, aI i, aD, aD] [] γ m) (fun i h0 h1 ih m fm mA => ?_)
  · exact loop 0 (by omega) (by omega) μ (fun _ _ _ => rfl) (hA.cong (fun x y _ _ _ _ => by rw [if_neg (by omega), Int.add_zero]))
  · obtain ⟨g1, g2, g3, g4, g5⟩ := hH.fa fm
    rcases Int.lt_or_le i n with hi | hi
    · have e1 : i.tmod w = i % w := Int.tmod_eq_emod_of_nonneg h0
      have e2 : i.tdiv w = i / w := Int.tdiv_eq_ediv_of_nonneg h0
      have b1 := Int.emod_nonneg i (show w ≠ 0 by omega)
      have b2 := Int.emod_lt_of_pos i (show 0 < w by omega)
      have b3 := Int.ediv_nonneg h0 (show 0 ≤ w by omega)
      have b4 := Int.ediv_le_self w h0
      have nxt : ∀ m2 : Mu, FA μ m2 b → AmR m2 b q (fun x y => A x y + (if (0 ≤ x ∧ x < i + 1) ∧ tg w h ed dx dy x = y then v else 0)) → V X G (Qm X G 0 P) 0 127 [aR b, aI dx, aI dy, aI v, aI i, aD, aD] [] γ m2 := fun m2 f2 a2 => B_X9_steps_127 hC hS.o ⟨by constructor <;> omega, ih hi m2 f2 a2⟩
      have nxt0 : tg w h ed dx dy i = -1 → V X G (Qm X G 0 P) 0 127 [aR b, aI dx, aI dy, aI v, aI i, aD, aD] [] γ m := fun ht => nxt m fm (mA.cong (fun x y z1 z2 z3 z4 => by
        by_cases e : x = i
        · subst e; rw [if_neg (by omega), if_neg (by omega)]
        · by_cases e2 : (0 ≤ x ∧ x < i) ∧ tg w h ed dx dy x = y
          · rw [if_pos e2, if_pos ⟨by omega, e2.2⟩]
          · rw [if_neg e2, if_neg (fun k => e2 ⟨by omega, k.2⟩)]))
      have s82 : V X G (Qm X G 0 P) 0 82 [aR b, aI dx, aI dy, aI v, aI i, aI (tgX w ed dx i), aI (tgY w h ed dy i)] [] γ m := by
        refine B_X9_steps_82 hC hS.o ?_
        rw [g3, g4]
        refine ⟨fun k1 => nxt0 ?_, fun k1 => ⟨fun k2 => nxt0 ?_, fun k2 => ⟨fun k3 => nxt0 ?_, fun k3 => ⟨fun k4 => nxt0 ?_, fun k4 => ?_⟩⟩⟩⟩
        · unfold tg; rw [if_neg (by omega)]
        · unfold tg; rw [if_neg (by omega)]
        · unfold tg; rw [if_neg (by omega)]
        · unfold tg; rw [if_neg (by omega)]
        · have ht : tg w h ed dx dy i = tgX w ed dx i + w * tgY w h ed dy i := by unfold tg; rw [if_pos (by omega)]
          generalize tgX w ed dx i = u at *
          generalize tgY w h ed dy i = v2 at *
          have p1 : w * v2 ≤ w * (h - 1) := Int.mul_le_mul_of_nonneg_left (by omega) (by omega)
          have p2 : 0 ≤ w * v2 := Int.mul_nonneg (by omega) (by omega)
          rw [Int.mul_sub, Int.mul_one, ← hnw] at p1
          refine ⟨by constructor <;> omega, by constructor <;> omega, 0, 0, _, hd, Nat.le_refl _, hX' ▸ m_adds hl 0 hS hG g2 hq mA ⟨h0, by omega⟩ (by omega) hv, ?_⟩
          rintro r γ m2 ⟨rfl, rfl, a2, f2⟩
          refine nxt m2 (fm.t f2) (a2.cong (fun x y z1 z2 z3 z4 => ?_))
          by_cases e : x = i
          · subst e
            rw [if_neg (by omega), Int.add_zero]
            by_cases e2 : y = u + w * v2
            · rw [if_pos ⟨rfl, e2⟩, if_pos ⟨by omega, by rw [ht, e2]⟩]
            · rw [if_neg (fun k => e2 k.2), if_neg (fun k => e2 (by rw [← k.2, ht]))]
          · rw [if_neg (show ¬ (x = i ∧ y = u + w * v2) from fun k => e k.1), Int.add_zero]
            by_cases e2 : (0 ≤ x ∧ x < i) ∧ tg w h ed dx dy x = y
            · rw [if_pos e2, if_pos ⟨by omega, e2.2⟩]
            · rw [if_neg e2, if_neg (fun k => e2 ⟨by omega, k.2⟩)]
      have s58 : V X G (Qm X G 0 P) 0 58 [aR b, aI dx, aI dy, aI v, aI i, aI (tgX w ed dx i), aI (i / w + dy)] [] γ m := by
        refine B_X9_steps_58 hC hS.o ?_
        rw [g4, g5]
        unfold tgY at s82
        refine ⟨fun k => ?_, fun k => ⟨by constructor <;> omega, by constructor <;> omega, by omega, ?_⟩⟩
        · rw [if_neg k] at s82
          exact s82
        · rw [if_pos k] at s82
          rw [Int.tmod_eq_emod_of_nonneg (by omega), Int.add_mul_emod_self_right]
          exact s82
      refine B_X9_steps_3 hC hS.o ?_
      rw [g1, g3, g5, e1, e2]
      unfold tgX at s58
      refine ⟨fun k => absurd k (by omega), fun _ => ⟨by omega, by constructor <;> omega, by constructor <;> omega, fun k => ?_, fun k => ⟨by constructor <;> omega, by constructor <;> omega, ?_⟩⟩⟩
      · rw [if_neg (by omega)] at s58
        exact s58
      · rw [if_pos (by omega)] at s58
        rw [Int.tmod_eq_emod_of_nonneg (by omega), Int.add_mul_emod_self_right]
        exact s58
    · obtain rfl : i = n := by omega
      refine B_X9_steps_3 hC hS.o ⟨fun _ => ⟨Nat.le_refl _, hP _ _ _ ⟨rfl, rfl, mA.cong (fun x y _ _ _ _ => ?_), fm⟩⟩, fun k => absurd (by rw [g1]; exact hi) k⟩
      unfold c1
      split <;> simp
theorem m_steps4 (hl : l.stackTraces = false) (d : Nat) (hd : 1 < d) {b n q w h ed dx dy v : Int} {A : Int → Int → Int} (hS : ModS G b) (hG : ModG γ b) (hH : HdM μ b n q w h ed) (hO : hdO n q w h ed) (hw : 1 ≤ w) (hA : AmR μ b q A) (hdx : -2 ≤ dx ∧ dx ≤ 2) (hdy : -2 ≤ dy ∧ dy ≤ 2) (hv : 0 ≤ v ∧ v ≤ 1000) : Cn l G yX9_steps4 cX9_steps4 4 none d 0 [aR b, aI dx, aI dy, aI v] γ μ (fun r γ' μ' => r = none ∧ γ' = γ ∧ AmR μ' b q (fun x y => A x y + v * (c1 n w h ed dx dy x y + c1 n w h ed (-dx) dy x y + c1 n w h ed dx (-dy) x y + c1 n w h ed (-dx) (-dy) x y)) ∧ FA μ μ' b) := by
  refine Cn.ofP hl (plainFor_of_name (by decide)) (noLc nlR (noLc nlI (noLc nlI (noL1 nlI)))) rfl (fun P hP o1 o3 X hX' hC => B_X9_steps4_0 hC hS.o ?_)
  refine ⟨1, 0, _, hd, Nat.le_refl _, hX' ▸ m_steps hl 1 (by omega) hS hG hH hO hw hA hdx hdy hv, ?_⟩
  rintro r γ m1 ⟨rfl, rfl, a1, f1⟩
  refine B_X9_steps4_7 hC hS.o ⟨by constructor <;> omega, 1, 0, _, hd, Nat.le_refl _, hX' ▸ m_steps hl 1 (by omega) hS hG (hH.fa f1) hO hw a1 (by omega) hdy hv, ?_⟩
  rintro r γ m2 ⟨rfl, rfl, a2, f2⟩
  refine B_X9_steps4_15 hC hS.o ⟨by constructor <;> omega, 1, 0, _, hd, Nat.le_refl _, hX' ▸ m_steps hl 1 (by omega) hS hG ((hH.fa f1).fa f2) hO hw a2 hdx (by omega) hv, ?_⟩
  rintro r γ m3 ⟨rfl, rfl, a3, f3⟩
  refine B_X9_steps4_23 hC hS.o ⟨by constructor <;> omega, by constructor <;> omega, 1, 0, _, hd, Nat.le_refl _, hX' ▸ m_steps hl 1 (by omega) hS hG (((hH.fa f1).fa f2).fa f3) hO hw a3 (by omega) (by omega) hv, ?_⟩
  rintro r γ m4 ⟨rfl, rfl, a4, f4⟩
  exact B_X9_steps4_32 hC ⟨Nat.le_refl _, hP _ _ _ ⟨rfl, rfl, a4.cong (fun x y _ _ _ _ => by rw [Int.mul_add, Int.mul_add, Int.mul_add]; omega), ((f1.t f2).t f3).t f4⟩⟩
end MAdds
