/-! the class: Reader's numbers, words, clauses -/
def okI (s : PT) : Int := if s.fk = 0 then 1 else 0
theorem okI_1 {s : PT} (h : s.fk = 0) : okI s = 1 := if_pos h
theorem okI_0 {s : PT} (h : s.fk ≠ 0) : okI s = 0 := if_neg h
theorem okI_b (s : PT) : 0 ≤ okI s ∧ okI s ≤ 1 := by unfold okI; split <;> omega
theorem okI_z {s : PT} (h : okI s = 0) : s.fk ≠ 0 := fun e => by rw [okI_1 e] at h; exact absurd h (by decide)
theorem okI_n {s : PT} (h : ¬ okI s = 0) : s.fk = 0 := by
  by_cases e : s.fk = 0
  · exact e
  · exact absurd (okI_0 e) h
def RdP (μ γ : Mu) (r : Int) (τ : Int → Int) (N : Int) (s' : PT) (v : Int) : Option AV → Mu → Mu → Prop := fun rr γ' μ' => rr = some (aI (okI s')) ∧ γ' = γ ∧ PcR μ' r τ N s' ∧ FRd μ μ' r ∧ (s'.fk = 0 → μ' r 9 = v)
def RdQ (μ γ : Mu) (r : Int) (τ : Int → Int) (N : Int) (s' : PT) : Option AV → Mu → Mu → Prop := fun rr γ' μ' => rr = some (aI (okI s')) ∧ γ' = γ ∧ PcR μ' r τ N s' ∧ FRd μ μ' r
def pNx (τ : Int → Int) (N : Int) (s : PT) (lo hi ot : Int) : PT := if tK τ N s.p = 2 then (if 3 < tL τ N s.p then pWr τ N s 2 else if tV τ N s.p < lo ∨ hi < tV τ N s.p then pWr τ N s ot else pGo τ N s) else pWr τ N s 1
theorem pNx_nm {τ : Int → Int} {N lo hi : Int} {s : PT} (h : s.fk = 0) : pNx τ N s lo hi 2 = pNm τ N s lo hi := by
  unfold pNx pNm
  rw [if_pos h]
  by_cases e : tK τ N s.p = 2
  · rw [if_pos e, if_pos e]
    by_cases e2 : 3 < tL τ N s.p
    · rw [if_pos e2, if_pos (Or.inl e2)]
    · rw [if_neg e2]
      by_cases e3 : tV τ N s.p < lo ∨ hi < tV τ N s.p
      · rw [if_pos e3, if_pos (Or.inr e3)]
      · rw [if_neg e3, if_neg (by omega)]
  · rw [if_neg e, if_neg e]
theorem pNx_lm {τ : Int → Int} {N n : Int} {s : PT} (h : s.fk = 0) (hp : 0 ≤ s.p ∧ s.p ≤ N) : pNx τ N s 0 (n - 1) 4 = pLm τ N n s (-1) := by
  have hb := tV_b (τ := τ) hp
  unfold pNx pLm
  rw [if_pos h]
  by_cases e : tK τ N s.p = 2
  · rw [if_pos e, if_pos e]
    by_cases e2 : 3 < tL τ N s.p
    · rw [if_pos e2, if_pos e2]
    · rw [if_neg e2, if_neg e2]
      by_cases e3 : n ≤ tV τ N s.p
      · rw [if_pos (by omega), if_pos e3]
      · rw [if_neg (by omega), if_neg e3, if_neg (by omega)]
  · rw [if_neg e, if_neg e]
theorem PcR.bad {m : Mu} {r N k : Int} {τ : Int → Int} {s : PT} (h : PcR m r τ N s) (h0 : s.fk = 0) (hk : k ≠ 0) : PcR (up (up m r 4 k) r 3 (tS τ N s.p)) r τ N (pWr τ N s k) := by
  obtain ⟨h1, h2, h3, h4, h5⟩ := h
  unfold pWr
  rw [if_pos h0]
  refine ⟨fun w => absurd w hk, ?_, up_same, h4, ?_⟩
  · rw [up_ne (by omega), up_same]
  · rw [up_ne (by omega), up_ne (by omega)]; exact h5
theorem FRd.bad {m : Mu} {r k a : Int} : FRd m (up (up m r 4 k) r 3 a) r := fun y j h => by rw [up_ne (by omega), up_ne (by omega)]
theorem PcR.fr {m m' : Mu} {r N : Int} {τ : Int → Int} {s : PT} (h : PcR m r τ N s) (hf : ∀ j, j ≠ 9 → m' r j = m r j) : PcR m' r τ N s := by
  obtain ⟨h1, h2, h3, h4, h5⟩ := h
  refine ⟨fun w => ?_, by rw [hf _ (by decide)]; exact h2, by rw [hf _ (by decide)]; exact h3, h4, by rw [hf _ (by decide)]; exact h5⟩
  obtain ⟨t1, t2, t3, t4⟩ := h1 w
  exact ⟨by rw [hf _ (by decide)]; exact t1, by rw [hf _ (by decide)]; exact t2, by rw [hf _ (by decide)]; exact t3, by rw [hf _ (by decide)]; exact t4⟩
theorem TxC.f2 {μ m : Mu} {r N : Int} {τ : Int → Int} (h : TxC μ r τ N) (hf : ∀ y j, r < y → y < r + 3 → m y j = μ y j) : TxC m r τ N := fun j z1 z2 => by rw [hf _ _ (by omega) (by omega), hf _ _ (by omega) (by omega)]; exact h j z1 z2
theorem sg8_id {c : Int} (h : c < 128) : sg8 c = c := if_pos h
theorem pGo_fk {τ : Int → Int} {N : Int} {s : PT} : (pGo τ N s).fk = s.fk := rfl
section CRead2
variable {l : Launch} {G : Gx} {γ μ : Mu}
theorem c_adv (hl : l.stackTraces = false) (d : Nat) {r N : Int} {τ : Int → Int} {s : PT} (hr : ReadAt G γ r) (hR : PcR μ r τ N s) (h0 : s.fk = 0) (hT : txt τ N) (hx : TxC μ r τ N) : Cn l G yX3_advance cX3_advance 1 none d 0 [aR r] γ μ (fun rr γ' μ' => rr = none ∧ γ' = γ ∧ PcR μ' r τ N (pGo τ N s) ∧ ∀ y j, (y = r → j < 6 ∨ 8 < j) → μ' y j = μ y j) := by
  obtain ⟨t1, t2, t3, t4⟩ := hR.1 h0
  have hp : 0 ≤ s.p ∧ s.p ≤ N := hR.2.2.2.1
  have hb := tok_b (τ := τ) hp
  refine Cn.mono (c_advance hl d hr t1 t3 (by omega) hT hx) ?_
  rintro rr γ' μ' ⟨h1, h2, h3, h4⟩
  exact ⟨h1, h2, ⟨fun _ => h3, by rw [h4 _ _ (by omega)]; exact hR.2.1, by rw [h4 _ _ (by omega)]; exact hR.2.2.1, show 0 ≤ tE τ N s.p ∧ tE τ N s.p ≤ N by omega, by rw [h4 _ _ (by omega)]; exact hR.2.2.2.2⟩, h4⟩
theorem c_readNumber (hl : l.stackTraces = false) (d : Nat) (hd : 0 < d) {r N lo hi ot : Int} {τ : Int → Int} {s : PT} (hr : ReadAt G γ r) (hR : PcR μ r τ N s) (h0 : s.fk = 0) (hT : txt τ N) (hx : TxC μ r τ N) (hot : ot ≠ 0) : Cn l G yX3_readNumber cX3_readNumber 6 (some .boolean) d 0 [aR r, aI lo, aI hi, aI ot] γ μ (RdP μ γ r τ N (pNx τ N s lo hi ot) (tV τ N s.p)) := by
  refine Cn.ofP hl (plainFor_of_name (by decide)) (noLc nlR (noLc nlI (noLc nlI (noL1 nlI)))) rfl (fun P hP o1 o3 X hX hC => B_X3_readNumber_0 hC hr.o ?_)
  have hp : 0 ≤ s.p ∧ s.p ≤ N := hR.2.2.2.1
  have hb := tok_b (τ := τ) hp
  obtain ⟨t5, t6, t7, t8⟩ := hR.1 h0
  have hN := hT.1
  have eL : tL τ N s.p = tE τ N s.p - tS τ N s.p := rfl
  have bad : ∀ k, k ≠ 0 → pNx τ N s lo hi ot = pWr τ N s k → P (some (aI 0)) γ (up (up μ r 4 k) r 3 (tS τ N s.p)) := fun k hk e => hP _ _ _ ⟨by rw [e, okI_0 (pWr_fk hk)], rfl, by rw [e]; exact hR.bad h0 hk, FRd.bad, fun w => by rw [e] at w; exact absurd w (pWr_fk hk)⟩
  rw [t8, t7, t6]
  refine ⟨fun h2 => ⟨by constructor <;> omega, fun h3 => ?_, fun h3 => ⟨0, 0, _, hd, Nat.le_refl _, hX ▸ c_failAt hl 0 hr, PI.use (B_X3_readNumber_40 hC ⟨Nat.le_refl _, by decide, bad 2 (by decide) ?_⟩)⟩⟩, fun h2 => ⟨0, 0, _, hd, Nat.le_refl _, hX ▸ c_failAt hl 0 hr, PI.use (B_X3_readNumber_17 hC ⟨Nat.le_refl _, by decide, bad 1 (by decide) ?_⟩)⟩⟩
  rotate_left
  · unfold pNx; rw [if_pos h2, if_pos (by omega)]
  · unfold pNx; rw [if_neg h2]
  obtain ⟨r1, r2, r3⟩ := tk_run hp h2 (Or.inr rfl)
  have dg : ∀ j, tS τ N s.p ≤ j → j < tE τ N s.p → 48 ≤ τ j ∧ τ j ≤ 57 := fun j z1 z2 => kd_2.mp (r3 j z1 z2)
  have loop := rem_ind (n := tE τ N s.p) (P := fun i => tS τ N s.p ≤ i → V X G (Qm X G 0 P) 0 50 [aR r, aI lo, aI hi, aI ot, aI (dgV τ (tS τ N s.p) (i - tS τ N s.p)), aI i] [] γ μ) (fun i i0 i1 ih hsi => ?_)
  · have h9 := loop (tS τ N s.p) (by omega) (by omega) (Int.le_refl _)
    rw [Int.sub_self] at h9
    exact h9
  · refine B_X3_readNumber_50 hC hr.o ?_
    rw [t7, t6, hr.g0]
    have hv := dgV_b (τ := τ) (s := tS τ N s.p) (i - tS τ N s.p) (by omega) (by omega) (fun j z1 z2 => dg _ (by omega) (by omega))
    rcases Int.lt_or_le i (tE τ N s.p) with hi' | hi'
    · have hih := ih hi' (by omega)
      have e1 : dgV τ (tS τ N s.p) (i + 1 - tS τ N s.p) = dgV τ (tS τ N s.p) (i - tS τ N s.p) * 10 + τ i - 48 := by
        rw [show i + 1 - tS τ N s.p = (i - tS τ N s.p) + 1 by omega]
        unfold dgV
        rw [foldI_s (by omega), show tS τ N s.p + (i - tS τ N s.p) = i by omega]
        omega
      have hdi := dg i hsi hi'
      rw [(hx i (by omega) (by omega)).1, sg8_id (by omega)]
      rw [e1] at hih
      exact ⟨fun z => absurd z (by omega), fun _ => ⟨by constructor <;> omega, ixO hr.s1 (by omega), by constructor <;> omega, by constructor <;> omega, by constructor <;> omega, hih⟩⟩
    · have ev : dgV τ (tS τ N s.p) (i - tS τ N s.p) = tV τ N s.p := by
        unfold tV
        rw [if_pos h2, show min (tL τ N s.p) 3 = i - tS τ N s.p by omega]
      rw [ev]
      have fl : (tV τ N s.p < lo ∨ hi < tV τ N s.p) → pNx τ N s lo hi ot = pWr τ N s ot := fun h => by unfold pNx; rw [if_pos h2, if_neg (by omega), if_pos h]
      refine ⟨fun _ => ⟨fun h4 => ⟨0, 0, _, hd, Nat.le_refl _, hX ▸ c_failAt hl 0 hr, PI.use (B_X3_readNumber_104 hC ⟨Nat.le_refl _, by decide, bad ot hot (fl (Or.inl h4))⟩)⟩, fun h4 => ⟨fun h5 => ?_, fun h5 => ⟨0, 0, _, hd, Nat.le_refl _, hX ▸ c_failAt hl 0 hr, PI.use (B_X3_readNumber_104 hC ⟨Nat.le_refl _, by decide, bad ot hot (fl (Or.inr (by omega)))⟩)⟩⟩⟩, fun z => absurd hi' z⟩
      refine ⟨0, 0, _, hd, Nat.le_refl _, hX ▸ c_adv hl 0 (s := s) hr (hR.fr (fun j hj => up_ne (by omega))) h0 hT (hx.f2 (fun y j z1 z2 => up_ne (by omega))), ?_⟩
      rintro rr γ m ⟨rfl, rfl, h6, h7⟩
      have eg : pNx τ N s lo hi ot = pGo τ N s := by unfold pNx; rw [if_pos h2, if_neg (by omega), if_neg (by omega)]
      exact B_X3_readNumber_115 hC ⟨Nat.le_refl _, hP _ _ _ ⟨by rw [eg, okI_1 (by exact h0)], rfl, by rw [eg]; exact h6, fun y j h => by rw [h7 y j (by omega), up_ne (by omega)], fun _ => by rw [h7 r 9 (by omega), up_same]⟩⟩
theorem c_readSign (hl : l.stackTraces = false) (d : Nat) (hd : 0 < d) {r N : Int} {τ : Int → Int} {s : PT} (hr : ReadAt G γ r) (hR : PcR μ r τ N s) (h0 : s.fk = 0) (hT : txt τ N) (hx : TxC μ r τ N) : Cn l G yX3_readSign cX3_readSign 1 (some .boolean) d 0 [aR r] γ μ (RdQ μ γ r τ N (sg τ N s)) := by
  refine Cn.ofP hl (plainFor_of_name (by decide)) (noL1 nlR) rfl (fun P hP o1 o3 X hX hC => B_X3_readSign_0 hC hr.o ?_)
  obtain ⟨t5, t6, t7, t8⟩ := hR.1 h0
  rw [t8, t6]
  refine ⟨fun h => ?_, fun h => ?_⟩
  · have eg : sg τ N s = pGo τ N s := by unfold sg pNd; rw [if_pos h0, if_pos h, if_neg (by decide)]
    refine ⟨0, 0, _, hd, Nat.le_refl _, hX ▸ c_adv hl 0 hr hR h0 hT hx, ?_⟩
    rintro rr γ m ⟨rfl, rfl, h6, h7⟩
    exact B_X3_readSign_22 hC ⟨Nat.le_refl _, hP _ _ _ ⟨by rw [eg, okI_1 (by exact h0)], rfl, by rw [eg]; exact h6, fun y j h => h7 y j (by omega)⟩⟩
  · have eg : sg τ N s = pWr τ N s 1 := by unfold sg pNd; rw [if_pos h0, if_neg h, if_pos rfl]
    exact ⟨0, 0, _, hd, Nat.le_refl _, hX ▸ c_failAt hl 0 hr, PI.use (B_X3_readSign_17 hC ⟨Nat.le_refl _, by decide, hP _ _ _ ⟨by rw [eg, okI_0 (pWr_fk (by decide))], rfl, by rw [eg]; exact hR.bad h0 (by decide), FRd.bad⟩⟩)⟩
theorem c_readWord (hl : l.stackTraces = false) (d : Nat) (hd : 4 < d) {r N : Int} {i : Nat} {τ : Int → Int} {s : PT} (hr : ReadAt G γ r) (hR : PcR μ r τ N s) (h0 : s.fk = 0) (hT : txt τ N) (hx : TxC μ r τ N) (hi : 8 ≤ i ∧ i < 24) : Cn l G yX3_readWord cX3_readWord 2 (some .boolean) d 0 [aR r, aS (i : Int)] γ μ (RdQ μ γ r τ N (pNd τ N s (if tN τ N s.p = wix i then 1 else 0))) := by
  refine Cn.ofP hl (plainFor_of_name (by decide)) (noLc nlR (noL1 nlS)) rfl (fun P hP o1 o3 X hX hC => B_X3_readWord_0 hC (Int.natCast_nonneg i) hr.o ?_)
  have hp : 0 ≤ s.p ∧ s.p ≤ N := hR.2.2.2.1
  refine ⟨4, 0, _, hd, Nat.le_refl _, hX ▸ c_isWord hl 4 (by omega) hr (hR.1 h0) hp hT hx hi, PI.use ?_⟩
  obtain ⟨t5, t6, t7, t8⟩ := hR.1 h0
  refine B_X3_readWord_5 hC hr.o ?_
  rw [t6]
  refine ⟨fun h => ?_, fun h => ?_⟩
  · have h' : tN τ N s.p = wix i := by
      by_cases e : tN τ N s.p = wix i
      · exact e
      · exact absurd (if_neg e) h
    have eg : pNd τ N s (if tN τ N s.p = wix i then 1 else 0) = pGo τ N s := by unfold pNd; rw [if_pos h0, if_pos h', if_neg (by decide)]
    rw [eg] at hP
    refine ⟨0, 0, _, by omega, Nat.le_refl _, hX ▸ c_adv hl 0 hr hR h0 hT hx, ?_⟩
    rintro rr γ m ⟨rfl, rfl, h6, h7⟩
    exact B_X3_readWord_22 hC ⟨Nat.le_refl _, hP _ _ _ ⟨by rw [okI_1 (by exact h0)], rfl, h6, fun y j h => h7 y j (by omega)⟩⟩
  · have eg : pNd τ N s (if tN τ N s.p = wix i then 1 else 0) = pWr τ N s 1 := by unfold pNd; rw [if_pos h0, if_pos h]
    rw [eg] at hP
    exact ⟨0, 0, _, by omega, Nat.le_refl _, hX ▸ c_failAt hl 0 hr, PI.use (B_X3_readWord_17 hC ⟨Nat.le_refl _, by decide, hP _ _ _ ⟨by rw [okI_0 (pWr_fk (by decide))], rfl, hR.bad h0 (by decide), FRd.bad⟩⟩)⟩
theorem c_readLamp (hl : l.stackTraces = false) (d : Nat) (hd : 1 < d) {r w N n : Int} {τ : Int → Int} {s : PT} (hr : ReadAt G γ r) (hw : shO G w 7 9) (en : μ w 0 = n) (hn : 1 ≤ n ∧ n ≤ 36) (hR : PcR μ r τ N s) (h0 : s.fk = 0) (hT : txt τ N) (hx : TxC μ r τ N) : Cn l G yX3_readLamp cX3_readLamp 2 (some .boolean) d 0 [aR r, aR w] γ μ (RdP μ γ r τ N (pLm τ N n s (-1)) (vlP τ N s)) := by
  refine Cn.ofP hl (plainFor_of_name (by decide)) (noLc nlR (noL1 nlR)) rfl (fun P hP o1 o3 X hX hC => B_X3_readLamp_0 hC hr.o ?_)
  rw [en]
  refine ⟨hw, by constructor <;> omega, 1, 0, _, hd, Nat.le_refl _, hX ▸ c_readNumber hl 1 (by omega) hr hR h0 hT hx (by decide), ?_⟩
  rw [pNx_lm h0 hR.2.2.2.1]
  rintro rr γ m ⟨rfl, rfl, h3, h4, h5⟩
  exact B_X3_readLamp_12 hC ⟨Nat.le_refl _, okI_b _, hP _ _ _ ⟨rfl, rfl, h3, h4, fun h => by rw [h5 h]; unfold vlP; rw [if_pos h0]⟩⟩
theorem c_readBy (hl : l.stackTraces = false) (d : Nat) (hd : 4 < d) {r w N q : Int} {τ : Int → Int} {s : PT} (hr : ReadAt G γ r) (hw : shO G w 7 9) (hrw : r + 3 ≤ w) (eq : μ w 1 = q) (hq : 2 ≤ q ∧ q ≤ 5) (hR : PcR μ r τ N s) (h0 : s.fk = 0) (hT : txt τ N) (hx : TxC μ r τ N) : Cn l G yX3_readBy cX3_readBy 2 (some .boolean) d 0 [aR r, aR w] γ μ (RdP μ γ r τ N (pBy τ N q s) (vBy τ N s)) := by
  refine Cn.ofP hl (plainFor_of_name (by decide)) (noLc nlR (noL1 nlR)) rfl (fun P hP o1 o3 X hX hC => B_X3_readBy_0 hC hr.o ?_)
  have hp : 0 ≤ s.p ∧ s.p ≤ N := hR.2.2.2.1
  refine ⟨4, 0, _, hd, Nat.le_refl _, hX ▸ c_isWord hl 4 (by omega) (i := 22) hr (hR.1 h0) hp hT hx (by decide), PI.use ?_⟩
  have e14 : wix 22 = 14 := rfl
  rw [e14]
  refine B_X3_readBy_6 hC hr.o ⟨fun h => ?_, fun h => ?_⟩
  · have h' : ¬ tN τ N s.p = 14 := fun e => by rw [if_pos e] at h; exact absurd h (by decide)
    have eg : pBy τ N q s = s := by unfold pBy; rw [if_neg (fun z => h' z.2)]
    rw [eg] at hP
    exact ⟨Nat.le_refl _, hP _ _ _ ⟨by rw [okI_1 h0], rfl, hR.fr (fun j hj => up_ne (by omega)), fun y j h => up_ne (by omega), fun _ => by rw [up_same]; unfold vBy; rw [if_neg (fun z => h' z.2)]⟩⟩
  · have h' : tN τ N s.p = 14 := by
      by_cases e : tN τ N s.p = 14
      · exact e
      · exact absurd (if_neg e) h
    have eg : pBy τ N q s = pNm τ N (pGo τ N s) 1 (q - 1) := by unfold pBy; rw [if_pos ⟨h0, h'⟩]
    have ev : vBy τ N s = tV τ N (pGo τ N s).p := by unfold vBy vlP; rw [if_pos ⟨h0, h'⟩, if_pos (by exact h0)]
    rw [eg, ev] at hP
    refine ⟨0, 0, _, by omega, Nat.le_refl _, hX ▸ c_adv hl 0 hr hR h0 hT hx, ?_⟩
    rintro rr γ m ⟨rfl, rfl, h6, h7⟩
    refine B_X3_readBy_13 hC hr.o ?_
    rw [h7 w 1 (by omega), eq]
    refine ⟨hw, by constructor <;> omega, 1, 0, _, by omega, Nat.le_refl _, hX ▸ c_readNumber hl 1 (by omega) hr h6 h0 hT (hx.f2 (fun y j z1 z2 => h7 y j (by omega))) (by decide), ?_⟩
    rw [pNx_nm (by exact h0)]
    rintro rr γ m2 ⟨rfl, rfl, h8, h9, h10⟩
    exact B_X3_readBy_25 hC ⟨Nat.le_refl _, okI_b _, hP _ _ _ ⟨rfl, rfl, h8, FRd.t (fun y j h => h7 y j (by omega)) h9, h10⟩⟩
theorem c_suits (hl : l.stackTraces = false) (d : Nat) {c w : Int} (hw : 0 ≤ w ∧ w ≤ 1) : Cn l G yX3_suits cX3_suits 2 (some .boolean) d 0 [aI c, aI w] γ μ (PI (if (w = 1 ∧ 2 ≤ c ∧ c ≤ 5) ∨ (w = 0 ∧ c = 6) then 0 else 1) γ μ) := by
  refine Cn.ofP hl (plainFor_of_name (by decide)) (noLc nlI (noL1 nlI)) rfl (fun P hP o1 o3 X hX hC => B_X3_suits_0 hC ?_)
  have fin : ∀ z, z = (if (w = 1 ∧ 2 ≤ c ∧ c ≤ 5) ∨ (w = 0 ∧ c = 6) then (0 : Int) else 1) → P (some (aI z)) γ μ := fun z hz => hP _ _ _ ⟨by rw [hz], rfl, rfl⟩
  refine ⟨fun h1 => ⟨fun h2 => ⟨Nat.le_refl _, fin _ (by rw [if_neg (by omega)])⟩, fun h2 => ⟨fun h3 => ⟨Nat.le_refl _, fin _ (by rw [if_neg (by omega)])⟩, fun h3 => ⟨fun h4 => ⟨Nat.le_refl _, fin _ (by rw [if_pos (by omega)])⟩, fun h4 => ⟨Nat.le_refl _, fin _ (by rw [if_neg (by omega)])⟩⟩⟩⟩, fun h1 => ⟨Nat.le_refl _, hw, fin _ ?_⟩⟩
  split <;> omega
theorem c_clauseHere (hl : l.stackTraces = false) (d : Nat) (hd : 4 < d) {r N : Int} {τ : Int → Int} {s : PT} (hr : ReadAt G γ r) (hR : PcR μ r τ N s) (h0 : s.fk = 0) (hT : txt τ N) (hx : TxC μ r τ N) : Cn l G yX3_clauseHere cX3_clauseHere 1 (some .int) d 0 [aR r] γ μ (PI (if 0 ≤ tN τ N s.p ∧ tN τ N s.p ≤ 8 then tN τ N s.p else -1) γ μ) := by
  refine Cn.ofP hl (plainFor_of_name (by decide)) (noL1 nlR) rfl (fun P hP o1 o3 X hX hC => B_X3_clauseHere_0 hC hr.o ?_)
  have hp : 0 ≤ s.p ∧ s.p ≤ N := hR.2.2.2.1
  have is : ∀ i : Nat, 8 ≤ i ∧ i < 24 → Cn l G yX3_isWord cX3_isWord 3 (some .boolean) 4 0 [aR r, aS (i : Int)] γ μ (PI (if tN τ N s.p = wix i then 1 else 0) γ μ) := fun i hi => c_isWord hl 4 (by omega) hr (hR.1 h0) hp hT hx hi
  have no : ∀ k : Int, (if tN τ N s.p = k then (1 : Int) else 0) = 0 → tN τ N s.p ≠ k := fun k h e => by rw [if_pos e] at h; exact absurd h (by decide)
  have yes : ∀ k : Int, ¬ (if tN τ N s.p = k then (1 : Int) else 0) = 0 → tN τ N s.p = k := fun k h => by
    by_cases e : tN τ N s.p = k
    · exact e
    · exact absurd (if_neg e) h
  have fin : ∀ k : Int, 0 ≤ k ∧ k ≤ 8 → tN τ N s.p = k → P (some (aI k)) γ μ := fun k hk e => hP _ _ _ ⟨by rw [e, if_pos hk], rfl, rfl⟩
  refine ⟨4, 0, _, hd, Nat.le_refl _, hX ▸ is 12 (by decide), PI.use (B_X3_clauseHere_6 hC hr.o ⟨fun a0 => ?_, fun a0 => ⟨Nat.le_refl _, fin 0 (by decide) (yes _ a0)⟩⟩)⟩
  refine ⟨4, 0, _, hd, Nat.le_refl _, hX ▸ is 13 (by decide), PI.use (B_X3_clauseHere_17 hC hr.o ⟨fun a1 => ?_, fun a0 => ⟨Nat.le_refl _, fin 1 (by decide) (yes _ a0)⟩⟩)⟩
  refine ⟨4, 0, _, hd, Nat.le_refl _, hX ▸ is 14 (by decide), PI.use (B_X3_clauseHere_28 hC hr.o ⟨fun a2 => ?_, fun a0 => ⟨Nat.le_refl _, fin 2 (by decide) (yes _ a0)⟩⟩)⟩
  refine ⟨4, 0, _, hd, Nat.le_refl _, hX ▸ is 15 (by decide), PI.use (B_X3_clauseHere_39 hC hr.o ⟨fun a3 => ?_, fun a0 => ⟨Nat.le_refl _, fin 3 (by decide) (yes _ a0)⟩⟩)⟩
  refine ⟨4, 0, _, hd, Nat.le_refl _, hX ▸ is 16 (by decide), PI.use (B_X3_clauseHere_50 hC hr.o ⟨fun a4 => ?_, fun a0 => ⟨Nat.le_refl _, fin 4 (by decide) (yes _ a0)⟩⟩)⟩
  refine ⟨4, 0, _, hd, Nat.le_refl _, hX ▸ is 17 (by decide), PI.use (B_X3_clauseHere_61 hC hr.o ⟨fun a5 => ?_, fun a0 => ⟨Nat.le_refl _, fin 5 (by decide) (yes _ a0)⟩⟩)⟩
  refine ⟨4, 0, _, hd, Nat.le_refl _, hX ▸ is 18 (by decide), PI.use (B_X3_clauseHere_72 hC hr.o ⟨fun a6 => ?_, fun a0 => ⟨Nat.le_refl _, fin 6 (by decide) (yes _ a0)⟩⟩)⟩
  refine ⟨4, 0, _, hd, Nat.le_refl _, hX ▸ is 19 (by decide), PI.use (B_X3_clauseHere_84 hC hr.o ⟨fun a7 => ?_, fun a0 => ⟨Nat.le_refl _, fin 7 (by decide) (yes _ a0)⟩⟩)⟩
  refine ⟨4, 0, _, hd, Nat.le_refl _, hX ▸ is 20 (by decide), PI.use (B_X3_clauseHere_96 hC ⟨fun a8 => ⟨Nat.le_refl _, hP _ _ _ ⟨?_, rfl, rfl⟩⟩, fun a0 => ⟨Nat.le_refl _, fin 8 (by decide) (yes _ a0)⟩⟩)⟩
  have b0 : tN τ N s.p ≠ 0 := no _ a0
  have b1 : tN τ N s.p ≠ 1 := no _ a1
  have b2 : tN τ N s.p ≠ 2 := no _ a2
  have b3 : tN τ N s.p ≠ 3 := no _ a3
  have b4 : tN τ N s.p ≠ 4 := no _ a4
  have b5 : tN τ N s.p ≠ 5 := no _ a5
  have b6 : tN τ N s.p ≠ 6 := no _ a6
  have b7 : tN τ N s.p ≠ 7 := no _ a7
  have b8 : tN τ N s.p ≠ 8 := no _ a8
  rw [if_neg (by omega)]
end CRead2
