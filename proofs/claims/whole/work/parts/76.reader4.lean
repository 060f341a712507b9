/-! the class: Reader's head, and the whole of a text -/
def FRh (μ m : Mu) (r w : Int) : Prop := ∀ y j, y ≠ w → (y = r → j ≠ 3 ∧ j ≠ 4 ∧ (j < 6 ∨ 9 < j)) → m y j = μ y j
theorem FRd.h {μ m : Mu} {r w : Int} (h : FRd μ m r) : FRh μ m r w := fun y j _ z2 => h y j z2
theorem FRh.t {μ m m2 : Mu} {r w : Int} (h : FRh μ m r w) (h2 : FRh m m2 r w) : FRh μ m2 r w := fun y j z1 z2 => by rw [h2 y j z1 z2, h y j z1 z2]
theorem FRh.up {μ m : Mu} {r w i z : Int} (h : FRh μ m r w) : FRh μ (up m w i z) r w := fun y j z1 z2 => by rw [up_ne (by omega)]; exact h y j z1 z2
theorem TxC.fh {μ m : Mu} {r w N : Int} {τ : Int → Int} (h : TxC μ r τ N) (hf : FRh μ m r w) (hrw : r + 3 ≤ w) : TxC m r τ N := h.f2 (fun y j z1 z2 => hf y j (by omega) (by omega))
theorem pNm_p {τ : Int → Int} {N lo hi : Int} {s : PT} (h : (pNm τ N s lo hi).fk = 0) : vlP τ N s = tV τ N s.p := by
  unfold vlP; rw [if_pos (pNm_ok h).1]
/-- colours other than 4 -/
def pQ (τ : Int → Int) (N : Int) (s : PT) : PT := if (pNm τ N s 2 5).fk = 0 ∧ vlP τ N s = 4 then ((pNm τ N s 2 5).p, 2, tS τ N s.p) else pNm τ N s 2 5
def bgS (τ : Int → Int) (N : Int) (s : PT) : PT := if tN τ N s.p = 12 ∨ tN τ N s.p = 13 then pGo τ N s else s
def bgV (τ : Int → Int) (N : Int) (s : PT) : Int := if tN τ N s.p = 12 then 1 else if tN τ N s.p = 13 then 2 else 0
section CRead4
variable {l : Launch} {G : Gx} {γ μ : Mu}
theorem c_readColours (hl : l.stackTraces = false) (d : Nat) (hd : 1 < d) {r w N : Int} {τ : Int → Int} {s : PT} (hr : ReadAt G γ r) (hw : shO G w 7 9) (hrw : r + 3 ≤ w) (hR : PcR μ r τ N s) (h0 : s.fk = 0) (hT : txt τ N) (hx : TxC μ r τ N) : Cn l G yX3_readColours cX3_readColours 3 (some .boolean) d 0 [aR r, aR w] γ μ (fun rr γ' μ' => rr = some (aI (okI (pQ τ N s))) ∧ γ' = γ ∧ PcR μ' r τ N (pQ τ N s) ∧ FRh μ μ' r w ∧ (∀ j, j ≠ 1 → μ' w j = μ w j) ∧ ((pQ τ N s).fk = 0 → μ' w 1 = vlP τ N s)) := by
  refine Cn.ofP hl (plainFor_of_name (by decide)) (noLc nlR (noL1 nlR)) rfl (fun P hP o1 o3 X hX hC => B_X3_readColours_0 hC hr.o ?_)
  have hp : 0 ≤ s.p ∧ s.p ≤ N := hR.2.2.2.1
  obtain ⟨t5, t6, t7, t8⟩ := hR.1 h0
  rw [t6]
  refine ⟨1, 0, _, hd, Nat.le_refl _, hX ▸ c_readNumber hl 1 (by omega) hr hR h0 hT hx (by decide), ?_⟩
  rw [pNx_nm h0]
  rintro rr γ m ⟨rfl, rfl, h3, h4, h5⟩
  unfold pQ at hP
  refine B_X3_readColours_12 hC hr.o ⟨fun h => ?_, fun h => ?_⟩
  · have h' := okI_n h
    rw [h5 h', ← pNm_p h']
    refine ⟨fun e => ?_, fun e => ?_⟩
    · rw [if_neg (fun z => e z.2)] at hP
      exact ⟨hw, Nat.le_refl _, hP _ _ _ ⟨by rw [okI_1 h'], rfl, h3.fr (fun j _ => up_ne (by omega)), h4.h.up, fun j hj => by rw [up_ne (by omega)]; exact h4 w j (by omega), fun _ => up_same⟩⟩
    · rw [if_pos ⟨h', e⟩] at hP
      refine ⟨0, 0, _, by omega, Nat.le_refl _, hX ▸ c_failAt hl 0 hr, PI.use (B_X3_readColours_31 hC ⟨Nat.le_refl _, by decide, hP _ _ _ ⟨by rw [okI_0 (show (2 : Int) ≠ 0 by decide)], rfl, ⟨fun w => absurd w (show (2 : Int) ≠ 0 by decide), by rw [up_ne (by omega), up_same], up_same, h3.2.2.2.1, by rw [up_ne (by omega), up_ne (by omega)]; exact h3.2.2.2.2⟩, (h4.t FRd.bad).h, fun j _ => (h4.t FRd.bad) w j (by omega), fun w => absurd w (show (2 : Int) ≠ 0 by decide)⟩⟩)⟩
  · rw [if_neg (fun z => okI_z h z.1)] at hP
    exact ⟨Nat.le_refl _, hP _ _ _ ⟨by rw [h], rfl, h3, h4.h, fun j _ => h4 w j (by omega), fun e => absurd e (okI_z h)⟩⟩
theorem c_readSides (hl : l.stackTraces = false) (d : Nat) (hd : 1 < d) {r w N : Int} {τ : Int → Int} {s : PT} (hr : ReadAt G γ r) (hw : shO G w 7 9) (hrw : r + 3 ≤ w) (hR : PcR μ r τ N s) (h0 : s.fk = 0) (hT : txt τ N) (hx : TxC μ r τ N) : Cn l G yX3_readSides cX3_readSides 2 (some .boolean) d 0 [aR r, aR w] γ μ (fun rr γ' μ' => rr = some (aI (okI (pNm τ N (pNm τ N s 1 6) 1 6))) ∧ γ' = γ ∧ PcR μ' r τ N (pNm τ N (pNm τ N s 1 6) 1 6) ∧ FRh μ μ' r w ∧ (∀ j, j = 1 ∨ 4 ≤ j → μ' w j = μ w j) ∧ ((pNm τ N (pNm τ N s 1 6) 1 6).fk = 0 → μ' w 0 = vlP τ N s * vlP τ N (pNm τ N s 1 6) ∧ μ' w 2 = vlP τ N s ∧ μ' w 3 = vlP τ N (pNm τ N s 1 6))) := by
  refine Cn.ofP hl (plainFor_of_name (by decide)) (noLc nlR (noL1 nlR)) rfl (fun P hP o1 o3 X hX hC => B_X3_readSides_0 hC hr.o ?_)
  refine ⟨1, 0, _, hd, Nat.le_refl _, hX ▸ c_readNumber hl 1 (by omega) hr hR h0 hT hx (by decide), ?_⟩
  rw [pNx_nm h0]
  rintro rr γ m ⟨rfl, rfl, h3, h4, h5⟩
  refine B_X3_readSides_8 hC hr.o ⟨fun h => ?_, fun h => ?_⟩
  rotate_left
  · have b := okI_z h
    rw [pNm_bad b] at hP
    exact ⟨Nat.le_refl _, hP _ _ _ ⟨by rw [h], rfl, h3, h4.h, fun j _ => h4 w j (by omega), fun e => absurd e b⟩⟩
  have h1 := okI_n h
  obtain ⟨-, v1, v2, -⟩ := pNm_ok h1
  rw [h5 h1, ← pNm_p h1]
  generalize vlP τ N s = x at *
  generalize pNm τ N s 1 6 = s1 at *
  have F1 : FRh μ (up m w 2 x) r w := h4.h.up
  refine ⟨hw, 1, 0, _, hd, Nat.le_refl _, hX ▸ c_readNumber hl 1 (by omega) hr (h3.fr (fun j _ => up_ne (by omega))) h1 hT (hx.fh F1 hrw) (by decide), ?_⟩
  rw [pNx_nm h1]
  rintro rr γ m2 ⟨rfl, rfl, k3, k4, k5⟩
  refine B_X3_readSides_29 hC hr.o ⟨fun h => ?_, fun h => ?_⟩
  · have h2 := okI_n h
    obtain ⟨-, v3, v4, -⟩ := pNm_ok h2
    have e2 : m2 w 2 = x := by rw [k4 w 2 (by omega), up_same]
    rw [k5 h2, ← pNm_p h2, e2]
    have hm : 0 ≤ x * vlP τ N s1 ∧ x * vlP τ N s1 ≤ 36 := ⟨Int.mul_nonneg (by omega) (by omega), by have := Int.mul_le_mul v2 v4 (by omega) (by decide); omega⟩
    exact ⟨hw, by constructor <;> omega, Nat.le_refl _, hP _ _ _ ⟨by rw [okI_1 h2], rfl, k3.fr (fun j _ => by rw [up_ne (by omega), up_ne (by omega)]), (F1.t k4.h).up.up, fun j hj => by rw [up_ne (by omega), up_ne (by omega), k4 w j (by omega), up_ne (by omega)]; exact h4 w j (by omega), fun _ => ⟨up_same, by rw [up_ne (by omega), up_ne (by omega)]; exact e2, by rw [up_ne (by omega), up_same]⟩⟩⟩
  · have b := okI_z h
    exact ⟨Nat.le_refl _, hP _ _ _ ⟨by rw [h], rfl, k3, F1.t k4.h, fun j hj => by rw [k4 w j (by omega), up_ne (by omega)]; exact h4 w j (by omega), fun e => absurd e b⟩⟩
theorem c_readEdges (hl : l.stackTraces = false) (d : Nat) (hd : 4 < d) {r w N : Int} {τ : Int → Int} {s : PT} (hr : ReadAt G γ r) (hw : shO G w 7 9) (hrw : r + 3 ≤ w) (hR : PcR μ r τ N s) (h0 : s.fk = 0) (hT : txt τ N) (hx : TxC μ r τ N) : Cn l G yX3_readEdges cX3_readEdges 2 (some .boolean) d 0 [aR r, aR w] γ μ (fun rr γ' μ' => rr = some (aI 1) ∧ γ' = γ ∧ PcR μ' r τ N (bgS τ N s) ∧ FRh μ μ' r w ∧ (∀ j, j ≠ 4 → μ' w j = μ w j) ∧ μ' w 4 = bgV τ N s) := by
  refine Cn.ofP hl (plainFor_of_name (by decide)) (noLc nlR (noL1 nlR)) rfl (fun P hP o1 o3 X hX hC => B_X3_readEdges_0 hC hr.o ?_)
  have hp : 0 ≤ s.p ∧ s.p ≤ N := hR.2.2.2.1
  have up0 : ∀ z, PcR (up μ w 4 z) r τ N s := fun z => hR.fr (fun j _ => up_ne (by omega))
  have tx0 : ∀ z, TxC (up μ w 4 z) r τ N := fun z => hx.f2 (fun y j z1 z2 => up_ne (by omega))
  refine ⟨hw, 4, 0, _, hd, Nat.le_refl _, hX ▸ c_isWord hl 4 (by omega) (i := 10) hr ((up0 0).1 h0) hp hT (tx0 0) (by decide), PI.use ?_⟩
  rw [show wix 10 = 12 from rfl]
  have uu : ∀ z, up (up μ w 4 0) w 4 z = up μ w 4 z := fun z => by
    funext y j
    by_cases e : y = w ∧ j = 4
    · obtain ⟨rfl, rfl⟩ := e; rw [up_same, up_same]
    · rw [up_ne e, up_ne e, up_ne e]
  have fr0 : ∀ z, FRh μ (up μ w 4 z) r w := fun z => fun y j z1 z2 => up_ne (by omega)
  refine B_X3_readEdges_11 hC hr.o ⟨fun h => ?_, fun h => ?_⟩
  · have n1 : ¬ tN τ N s.p = 12 := fun e => by rw [if_pos e] at h; exact absurd h (by decide)
    refine ⟨4, 0, _, hd, Nat.le_refl _, hX ▸ c_isWord hl 4 (by omega) (i := 11) hr ((up0 0).1 h0) hp hT (tx0 0) (by decide), PI.use ?_⟩
    rw [show wix 11 = 13 from rfl]
    refine B_X3_readEdges_32 hC hr.o ⟨fun h => ?_, fun h => ?_⟩
    · have n2 : ¬ tN τ N s.p = 13 := fun e => by rw [if_pos e] at h; exact absurd h (by decide)
      have e1 : bgS τ N s = s := if_neg (by omega)
      have e2 : bgV τ N s = 0 := by unfold bgV; rw [if_neg n1, if_neg n2]
      exact B_X3_readEdges_44 hC ⟨Nat.le_refl _, hP _ _ _ ⟨rfl, rfl, by rw [e1]; exact up0 0, fr0 0, fun j hj => up_ne (by omega), by rw [e2]; exact up_same⟩⟩
    · have n2 : tN τ N s.p = 13 := by
        by_cases e : tN τ N s.p = 13
        · exact e
        · exact absurd (if_neg e) h
      have e1 : bgS τ N s = pGo τ N s := if_pos (by omega)
      have e2 : bgV τ N s = 2 := by unfold bgV; rw [if_neg n1, if_pos n2]
      rw [uu]
      refine ⟨hw, 0, 0, _, by omega, Nat.le_refl _, hX ▸ c_adv hl 0 hr (up0 2) h0 hT (tx0 2), ?_⟩
      rintro rr γ m ⟨rfl, rfl, h6, h7⟩
      exact B_X3_readEdges_44 hC ⟨Nat.le_refl _, hP _ _ _ ⟨rfl, rfl, by rw [e1]; exact h6, fun y j z1 z2 => by rw [h7 y j (by omega)]; exact fr0 2 y j z1 z2, fun j hj => by rw [h7 w j (by omega), up_ne (by omega)], by rw [h7 w 4 (by omega), up_same, e2]⟩⟩
  · have n1 : tN τ N s.p = 12 := by
      by_cases e : tN τ N s.p = 12
      · exact e
      · exact absurd (if_neg e) h
    have e1 : bgS τ N s = pGo τ N s := if_pos (by omega)
    have e2 : bgV τ N s = 1 := by unfold bgV; rw [if_pos n1]
    rw [uu]
    refine ⟨hw, 0, 0, _, by omega, Nat.le_refl _, hX ▸ c_adv hl 0 hr (up0 1) h0 hT (tx0 1), ?_⟩
    rintro rr γ m ⟨rfl, rfl, h6, h7⟩
    exact B_X3_readEdges_23 hC (B_X3_readEdges_44 hC ⟨Nat.le_refl _, hP _ _ _ ⟨rfl, rfl, by rw [e1]; exact h6, fun y j z1 z2 => by rw [h7 y j (by omega)]; exact fr0 1 y j z1 z2, fun j hj => by rw [h7 w j (by omega), up_ne (by omega)], by rw [h7 w 4 (by omega), up_same, e2]⟩⟩)
theorem c_readKind (hl : l.stackTraces = false) (d : Nat) (hd : 5 < d) {r w N q : Int} {τ : Int → Int} {s : PT} (hr : ReadAt G γ r) (hw : shO G w 7 9) (hrw : r + 3 ≤ w) (hR : PcR μ r τ N s) (h0 : s.fk = 0) (hT : txt τ N) (hx : TxC μ r τ N) (hH : WhR μ w 0 q 0 0 (-1)) : Cn l G yX3_readKind cX3_readKind 2 (some .boolean) d 0 [aR r, aR w] γ μ (fun rr γ' μ' => rr = some (aI (okI (bgF τ N s).1)) ∧ γ' = γ ∧ PcR μ' r τ N (bgF τ N s).1 ∧ FRh μ μ' r w ∧ ((bgF τ N s).1.fk = 0 → WhR μ' w (bgF τ N s).2.1 q (bgF τ N s).2.2.1 (bgF τ N s).2.2.2.1 (bgF τ N s).2.2.2.2)) := by
  refine Cn.ofP hl (plainFor_of_name (by decide)) (noLc nlR (noL1 nlR)) rfl (fun P hP o1 o3 X hX hC => B_X3_readKind_0 hC hr.o ?_)
  have hp : 0 ≤ s.p ∧ s.p ≤ N := hR.2.2.2.1
  obtain ⟨H0, H1, H2, H3, H4⟩ := hH
  refine ⟨4, 0, _, by omega, Nat.le_refl _, hX ▸ c_isWord hl 4 (by omega) (i := 8) hr (hR.1 h0) hp hT hx (by decide), PI.use ?_⟩
  rw [show wix 8 = 11 from rfl]
  refine B_X3_readKind_6 hC hr.o ⟨fun h => ?_, fun h => ?_⟩
  rotate_left
  · have n1 : tN τ N s.p = 11 := by
      by_cases e : tN τ N s.p = 11
      · exact e
      · exact absurd (if_neg e) h
    have b1 : bg1 τ N s = pGo τ N s := by unfold bg1 pNd; rw [if_pos h0, if_pos (Or.inr n1), if_neg (by decide)]
    have eb : bgF τ N s = (pNm τ N (pGo τ N s) 1 36, vlP τ N (pGo τ N s), 0, 0, -1) := by unfold bgF; rw [if_pos h0, if_neg (by omega), b1]
    rw [eb] at hP
    refine ⟨0, 0, _, by omega, Nat.le_refl _, hX ▸ c_adv hl 0 hr hR h0 hT hx, ?_⟩
    rintro rr γ m ⟨rfl, rfl, h6, h7⟩
    have F1 : FRd μ m r := fun y j h => h7 y j (by omega)
    have g0 : (pGo τ N s).fk = 0 := h0
    refine B_X3_readKind_13 hC hr.o ⟨1, 0, _, by omega, Nat.le_refl _, hX ▸ c_readNumber hl 1 (by omega) hr h6 g0 hT (hx.fr F1) (by decide), ?_⟩
    rw [pNx_nm g0]
    rintro rr γ m2 ⟨rfl, rfl, k3, k4, k5⟩
    refine B_X3_readKind_21 hC hr.o ⟨fun h => ?_, fun h => ⟨Nat.le_refl _, hP _ _ _ ⟨by rw [h], rfl, k3, (F1.t k4).h, fun e => absurd e (okI_z h)⟩⟩⟩
    have h1 := okI_n h
    rw [k5 h1, ← pNm_p h1]
    have fw : ∀ j, m2 w j = μ w j := fun j => (F1.t k4) w j (by omega)
    exact ⟨hw, Nat.le_refl _, hP _ _ _ ⟨by rw [okI_1 h1], rfl, k3.fr (fun j _ => up_ne (by omega)), (F1.t k4).h.up, fun _ => ⟨up_same, by rw [up_ne (by omega), fw]; exact H1, by rw [up_ne (by omega), fw]; exact H2, by rw [up_ne (by omega), fw]; exact H3, by rw [up_ne (by omega), fw]; exact H4⟩⟩⟩
  have n1 : ¬ tN τ N s.p = 11 := fun e => by rw [if_pos e] at h; exact absurd h (by decide)
  refine ⟨5, 0, _, hd, Nat.le_refl _, hX ▸ c_readWord hl 5 (by omega) (i := 9) hr hR h0 hT hx (by decide), ?_⟩
  rw [show wix 9 = 10 from rfl]
  have b1 : bg1 τ N s = pNd τ N s (if tN τ N s.p = 10 then 1 else 0) := by
    unfold bg1
    by_cases e : tN τ N s.p = 10
    · rw [if_pos e, if_pos (Or.inl e)]
    · rw [if_neg e, if_neg (by omega)]
  rw [← b1]
  rintro rr γ m ⟨rfl, rfl, h3, h4⟩
  refine B_X3_readKind_42 hC hr.o ⟨fun h => ?_, fun h => ?_⟩
  · have b := okI_z h
    have n2 : ¬ tN τ N s.p = 10 := fun e => by
      rw [b1, if_pos e] at b
      unfold pNd at b
      rw [if_pos h0, if_neg (by decide)] at b
      exact b h0
    have eb : bgF τ N s = (bg1 τ N s, vlP τ N (bg1 τ N s), 0, 0, -1) := by unfold bgF; rw [if_pos h0, if_neg n2, pNm_bad b]
    rw [eb] at hP
    exact ⟨Nat.le_refl _, hP _ _ _ ⟨by rw [h], rfl, h3, h4.h, fun e => absurd e b⟩⟩
  have h1 := okI_n h
  have n2 : tN τ N s.p = 10 := by
    by_cases e : tN τ N s.p = 10
    · exact e
    · rw [b1, if_neg e] at h1
      exact absurd rfl (pNd_ok h1).2.1
  refine ⟨2, 0, _, by omega, Nat.le_refl _, hX ▸ c_readSides hl 2 (by omega) hr hw hrw h3 h1 hT (hx.fr h4), ?_⟩
  have e3 : pNm τ N (pNm τ N (bg1 τ N s) 1 6) 1 6 = bg3 τ N s := rfl
  have e2 : pNm τ N (bg1 τ N s) 1 6 = bg2 τ N s := rfl
  rw [e3, e2]
  rintro rr γ m2 ⟨rfl, rfl, k3, k4, k5, k6⟩
  have F2 := h4.h.t k4
  unfold bgF at hP
  rw [if_pos h0, if_pos n2] at hP
  refine B_X3_readKind_50 hC hr.o ⟨fun h => ?_, fun h => ?_⟩
  · have b := okI_z h
    have eE : bgE τ N s = 0 := by unfold bgE; rw [if_neg b]
    rw [if_pos eE] at hP
    exact ⟨Nat.le_refl _, hP _ _ _ ⟨by rw [h], rfl, k3, F2, fun e => absurd e b⟩⟩
  have h2 := okI_n h
  have eE : bgE τ N s = bgV τ N (bg3 τ N s) := by unfold bgE; rw [if_pos h2]; rfl
  have eS : (if bgE τ N s = 0 then bg3 τ N s else pGo τ N (bg3 τ N s)) = bgS τ N (bg3 τ N s) := by
    rw [eE]
    unfold bgV bgS
    by_cases c1 : tN τ N (bg3 τ N s).p = 12
    · rw [if_pos c1, if_neg (by decide), if_pos (Or.inl c1)]
    · rw [if_neg c1]
      by_cases c2 : tN τ N (bg3 τ N s).p = 13
      · rw [if_pos c2, if_neg (by decide), if_pos (Or.inr c2)]
      · rw [if_neg c2, if_pos rfl, if_neg (by omega)]
  rw [eS, eE] at hP
  have eB : (bgS τ N (bg3 τ N s)).fk = 0 := by unfold bgS; split <;> exact h2
  refine ⟨5, 0, _, by omega, Nat.le_refl _, hX ▸ c_readEdges hl 5 (by omega) hr hw hrw k3 h2 hT (hx.fh F2 hrw), ?_⟩
  rintro rr γ m3 ⟨rfl, rfl, g3, g4, g5, g6⟩
  obtain ⟨k7, k8, k9⟩ := k6 h2
  refine B_X3_readKind_58 hC ⟨fun z => absurd z (by decide), fun _ => ⟨Nat.le_refl _, hP _ _ _ ⟨by rw [okI_1 eB], rfl, g3, F2.t g4, fun _ => ⟨?_, ?_, ?_, ?_, g6⟩⟩⟩⟩
  · rw [g5 0 (by decide)]; exact k7
  · rw [g5 1 (by decide), k5 1 (by omega), h4 w 1 (by omega)]; exact H1
  · rw [g5 2 (by decide)]; exact k8
  · rw [g5 3 (by decide)]; exact k9
theorem c_readHead (hl : l.stackTraces = false) (d : Nat) (hd : 6 < d) {r w N : Int} {τ : Int → Int} (hr : ReadAt G γ r) (hw : shO G w 7 9) (hrw : r + 3 ≤ w) (hR : PcR μ r τ N hS0) (hT : txt τ N) (hx : TxC μ r τ N) (hH : WhR μ w 0 2 0 0 (-1)) : Cn l G yX3_readHead cX3_readHead 2 (some .boolean) d 0 [aR r, aR w] γ μ (fun rr γ' μ' => rr = some (aI (okI (hl6 τ N))) ∧ γ' = γ ∧ PcR μ' r τ N (hl6 τ N) ∧ FRh μ μ' r w ∧ ((hl6 τ N).fk = 0 → WhR μ' w (hlB τ N).2.1 (hlq τ N) (hlB τ N).2.2.1 (hlB τ N).2.2.2.1 (hlB τ N).2.2.2.2)) := by
  refine Cn.ofP hl (plainFor_of_name (by decide)) (noLc nlR (noL1 nlR)) rfl (fun P hP o1 o3 X hX hC => B_X3_readHead_0 hC hr.o ?_)
  obtain ⟨H0, H1, H2, H3, H4⟩ := hH
  refine ⟨6, 0, _, hd, Nat.le_refl _, hX ▸ c_readWord hl 6 (by omega) (i := 23) hr hR rfl hT hx (by decide), ?_⟩
  rw [show wix 23 = 9 from rfl, show pNd τ N hS0 (if tN τ N hS0.p = 9 then 1 else 0) = hl1 τ N from rfl]
  rintro rr γ m ⟨rfl, rfl, h3, h4⟩
  have e3 : pQ τ N (hl1 τ N) = hl3 τ N := rfl
  have bad3 : ∀ s : PT, s.fk ≠ 0 → hl4 τ N = s → hl6 τ N = s := fun s b e => by unfold hl6 hlB; rw [e]; unfold bgF; rw [if_neg b]; exact sg_bad b
  refine B_X3_readHead_6 hC hr.o ⟨fun h => ?_, fun h => ?_⟩
  · have b := okI_z h
    have e6 : hl6 τ N = hl1 τ N := bad3 _ b (by unfold hl4; rw [← e3]; unfold pQ; rw [pNm_bad b, if_neg (fun z => b z.1), sg_bad b])
    rw [e6] at hP
    exact ⟨Nat.le_refl _, hP _ _ _ ⟨by rw [h], rfl, h3, h4.h, fun e => absurd e b⟩⟩
  have h1 := okI_n h
  refine ⟨2, 0, _, by omega, Nat.le_refl _, hX ▸ c_readColours hl 2 (by omega) hr hw hrw h3 h1 hT (hx.fr h4), ?_⟩
  rw [e3]
  rintro rr γ m2 ⟨rfl, rfl, k3, k4, k5, k6⟩
  have F2 := h4.h.t k4
  refine B_X3_readHead_14 hC hr.o ⟨fun h => ?_, fun h => ?_⟩
  · have b := okI_z h
    have e6 : hl6 τ N = hl3 τ N := bad3 _ b (by unfold hl4; rw [sg_bad b])
    rw [e6] at hP
    exact ⟨Nat.le_refl _, hP _ _ _ ⟨by rw [h], rfl, k3, F2, fun e => absurd e b⟩⟩
  have h2 := okI_n h
  refine ⟨1, 0, _, by omega, Nat.le_refl _, hX ▸ c_readSign hl 1 (by omega) hr k3 h2 hT (hx.fh F2 hrw), ?_⟩
  rw [show sg τ N (hl3 τ N) = hl4 τ N from rfl]
  rintro rr γ m3 ⟨rfl, rfl, g3, g4⟩
  have F3 := F2.t g4.h
  refine B_X3_readHead_21 hC hr.o ⟨fun h => ?_, fun h => ?_⟩
  · have b := okI_z h
    have e6 : hl6 τ N = hl4 τ N := bad3 _ b rfl
    rw [e6] at hP
    exact ⟨Nat.le_refl _, hP _ _ _ ⟨by rw [h], rfl, g3, F3, fun e => absurd e b⟩⟩
  have h3' := okI_n h
  have hw3 : ∀ j, j ≠ 1 → m3 w j = μ w j := fun j hj => by rw [g4 w j (by omega), k5 j hj, h4 w j (by omega)]
  refine ⟨6, 0, _, hd, Nat.le_refl _, hX ▸ c_readKind hl 6 (by omega) (q := hlq τ N) hr hw hrw g3 h3' hT (hx.fh F3 hrw) ⟨by rw [hw3 0 (by decide)]; exact H0, by rw [g4 w 1 (by omega)]; exact k6 h2, by rw [hw3 2 (by decide)]; exact H2, by rw [hw3 3 (by decide)]; exact H3, by rw [hw3 4 (by decide)]; exact H4⟩, ?_⟩
  rw [show bgF τ N (hl4 τ N) = hlB τ N from rfl]
  rintro rr γ m4 ⟨rfl, rfl, f3, f4, f5⟩
  have F4 := F3.t f4
  refine B_X3_readHead_29 hC hr.o ⟨fun h => ?_, fun h => ?_⟩
  · have b := okI_z h
    have e6 : hl6 τ N = (hlB τ N).1 := sg_bad b
    rw [e6] at hP
    exact ⟨Nat.le_refl _, hP _ _ _ ⟨by rw [h], rfl, f3, F4, fun e => absurd e b⟩⟩
  have h4' := okI_n h
  refine ⟨1, 0, _, by omega, Nat.le_refl _, hX ▸ c_readSign hl 1 (by omega) hr f3 h4' hT (hx.fh F4 hrw), ?_⟩
  rw [show sg τ N (hlB τ N).1 = hl6 τ N from rfl]
  rintro rr γ m5 ⟨rfl, rfl, p3, p4⟩
  have k7 : P (some (aI (okI (hl6 τ N)))) γ m5 := hP _ _ _ ⟨rfl, rfl, p3, F4.t p4.h, fun _ => (f5 h4').fr (fun j => p4 w j (by omega))⟩
  exact B_X3_readHead_36 hC ⟨fun e => ⟨Nat.le_refl _, e ▸ k7⟩, fun e => ⟨Nat.le_refl _, by rw [okI_1 (okI_n e)] at k7; exact k7⟩⟩
/-- the whole of a text -/
theorem c_read (hl : l.stackTraces = false) (d : Nat) (hd : 7 < d) {r w N : Int} {τ : Int → Int} (hr : ReadAt G γ r) (hw : WirAt G γ w) (hrw : r + 3 ≤ w) (hT : txt τ N) (hN : N ≤ μ r 2) (hx : ∀ j, 0 ≤ j → j < N → μ (r + 1) j = sg8 (τ j)) : Cn l G yX3_read cX3_read 5 (some .int) d 0 [aR r, aI N, aR w] γ μ (fun rr γ' μ' => rr = some (aI (hlR τ N).1.fk) ∧ γ' = γ ∧ μ' r 3 = (hlR τ N).1.fp ∧ μ' r 2 = 0 ∧ ((hlR τ N).1.fk = 0 → WhR μ' w (hlB τ N).2.1 (hlq τ N) (hlB τ N).2.2.1 (hlB τ N).2.2.2.1 (hlB τ N).2.2.2.2 ∧ WaR μ' w (hlq τ N) (finC (hlB τ N).2.1 (hlq τ N) (hlB τ N).2.2.1 (hlB τ N).2.2.2.1 (hlB τ N).2.2.2.2 (hlR τ N).2) ∧ ∀ x, 0 ≤ x → x < 36 → μ' (w + 38) x = (hlR τ N).2.jm x) ∧ ∀ y j, (y < w ∨ w + 77 ≤ y) → y ≠ r → y ≠ r + 2 → μ' y j = μ y j) := by
  refine Cn.ofP hl (plainFor_of_name (by decide)) (noLc nlR (noLc nlI (noL1 nlR))) rfl (fun P hP o1 o3 X hX hC => B_X3_read_0 hC hr.o ?_)
  have hN0 := hT.1
  refine ⟨0, 0, _, by omega, Nat.le_refl _, hX ▸ c_max hl 0, PI.use ?_⟩
  refine B_X3_read_6 hC hr.o ⟨0, 0, _, by omega, Nat.le_refl _, hX ▸ c_min hl 0, PI.use ?_⟩
  rw [show min (max N 0) (μ r 2) = N by omega]
  refine B_X3_read_13 hC hr.o ⟨hr.o, hw.o, ?_⟩
  generalize hm0 : up (up (up (up (up μ r 5 N) r 2 0) r 4 0) r 3 (-1)) r 7 0 = m0
  have f0 : ∀ y j, y ≠ r → m0 y j = μ y j := fun y j h => by rw [← hm0, up_ne (by omega), up_ne (by omega), up_ne (by omega), up_ne (by omega), up_ne (by omega)]
  have a2 : m0 r 2 = 0 := by rw [← hm0, up_ne (by omega), up_ne (by omega), up_ne (by omega), up_same]
  have a3 : m0 r 3 = -1 := by rw [← hm0, up_ne (by omega), up_same]
  have a4 : m0 r 4 = 0 := by rw [← hm0, up_ne (by omega), up_ne (by omega), up_same]
  have a5 : m0 r 5 = N := by rw [← hm0, up_ne (by omega), up_ne (by omega), up_ne (by omega), up_ne (by omega), up_same]
  have a7 : m0 r 7 = 0 := by rw [← hm0, up_same]
  refine ⟨1, 0, _, by omega, Nat.le_refl _, hX ▸ c_clear hl 1 (by omega) hw, ?_⟩
  rintro rr γ m1 ⟨rfl, rfl, hH, hWc, f1⟩
  have f1r : ∀ j, m1 r j = m0 r j := fun j => f1 r j (by omega)
  refine B_X3_read_40 hC hr.o ⟨1, 0, _, by omega, Nat.le_refl _, hX ▸ c_findKinds hl 1 (by omega) hr (by rw [f1r]; exact a5) hT (fun j z1 z2 => by rw [f1 _ _ (by omega), f0 _ _ (by omega)]; exact hx j z1 z2), PV.use ?_⟩
  have f2 : ∀ y j, y ≠ r + 2 → row m1 (r + 2) N (fun j => kdF (τ j)) y j = m1 y j := fun y j h => row_off h
  have tx2 : TxC (row m1 (r + 2) N (fun j => kdF (τ j))) r τ N := fun j z1 z2 => ⟨by rw [f2 _ _ (by omega), f1 _ _ (by omega), f0 _ _ (by omega)]; exact hx j z1 z2, row_in ⟨z1, z2⟩⟩
  generalize row m1 (r + 2) N (fun j => kdF (τ j)) = m2 at *
  refine B_X3_read_44 hC hr.o ⟨0, 0, _, by omega, Nat.le_refl _, hX ▸ c_advance hl 0 (p := 0) hr (by rw [f2 _ _ (by omega), f1r]; exact a5) (by rw [f2 _ _ (by omega), f1r]; exact a7) (by omega) hT tx2, ?_⟩
  rintro rr γ m3 ⟨rfl, rfl, hK, f3⟩
  have g3 : ∀ y j, y ≠ r → y ≠ r + 2 → m3 y j = m1 y j := fun y j h1 h2 => by rw [f3 y j (by omega), f2 y j h2]
  have tx3 : TxC m3 r τ N := tx2.f2 (fun y j z1 z2 => f3 y j (by omega))
  have R3 : PcR m3 r τ N hS0 := ⟨fun _ => hK, by rw [f3 _ _ (by omega), f2 _ _ (by omega), f1r]; exact a4, by rw [f3 _ _ (by omega), f2 _ _ (by omega), f1r]; exact a3, ⟨by decide, hN0.1⟩, by rw [f3 _ _ (by omega), f2 _ _ (by omega), f1r]; exact a5⟩
  refine B_X3_read_48 hC hr.o ⟨7, 0, _, hd, Nat.le_refl _, hX ▸ c_readHead hl 7 (by omega) hr hw.o hrw R3 hT tx3 (hH.fr (fun j => g3 w j (by omega) (by omega))), ?_⟩
  rintro rr γ m4 ⟨rfl, rfl, R4, f4, H4⟩
  have r2 : m4 r 2 = 0 := by rw [f4 r 2 (by omega) (by omega), f3 _ _ (by omega), f2 _ _ (by omega), f1r]; exact a2
  have W4 : WcR m4 w (hlq τ N) ac0 := (hWc _).fr (fun y j z1 z2 => by rw [f4 y j (by omega) (by omega), g3 y j (by omega) (by omega)])
  have tx4 := tx3.fh f4 hrw
  have F4 : ∀ y j, (y < w ∨ w + 77 ≤ y) → y ≠ r → y ≠ r + 2 → m4 y j = μ y j := fun y j z1 z2 z3 => by rw [f4 y j (by omega) (by omega), g3 y j z2 z3, f1 y j z1, f0 y j z2]
  refine B_X3_read_53 hC hr.o ?_
  have out : ∀ m : Mu, PcR m r τ N (hlR τ N).1 → m r 2 = 0 → ((hlR τ N).1.fk = 0 → WhR m w (hlB τ N).2.1 (hlq τ N) (hlB τ N).2.2.1 (hlB τ N).2.2.2.1 (hlB τ N).2.2.2.2 ∧ WaR m w (hlq τ N) (finC (hlB τ N).2.1 (hlq τ N) (hlB τ N).2.2.1 (hlB τ N).2.2.2.1 (hlB τ N).2.2.2.2 (hlR τ N).2) ∧ ∀ x, 0 ≤ x → x < 36 → m (w + 38) x = (hlR τ N).2.jm x) → (∀ y j, (y < w ∨ w + 77 ≤ y) → y ≠ r → y ≠ r + 2 → m y j = μ y j) → V X G (Qm X G 0 P) 0 97 [aR r, aD, aD, aD, aD] [] γ m := fun m h1 h2 h3 h4 => by
    refine B_X3_read_97 hC hr.o ⟨Nat.le_refl _, ?_⟩
    rw [h1.2.1]
    exact hP _ _ _ ⟨rfl, rfl, h1.2.2.1, h2, h3, h4⟩
  by_cases e6 : (hl6 τ N).fk = 0
  rotate_left
  · have eR : hlR τ N = clN τ N (hlB τ N).2.1 (hlq τ N) (hlB τ N).2.2.1 (hl6 τ N) 0 := by
      have := clN_stop (τ := τ) (N := N) (n := (hlB τ N).2.1) (q := hlq τ N) (w := (hlB τ N).2.2.1) (s := hl6 τ N) (k := 0) (fun z => e6 z.1) 41
      rw [Nat.zero_add] at this
      exact this
    have e1 : (hlR τ N).1 = hl6 τ N := by rw [eR]; rfl
    rw [okI_0 e6]
    refine B_X3_read_57 hC hr.o ⟨fun _ => ⟨fun _ => out m4 (by rw [e1]; exact R4) r2 (fun z => absurd z (by rw [e1]; exact e6)) F4, fun z => absurd rfl z⟩, fun z => absurd rfl z⟩
  have hO := hl6_ok e6
  have hH4 := H4 e6
  have eR : hlR τ N = clN τ N (hlB τ N).2.1 (hlq τ N) (hlB τ N).2.2.1 (hl6 τ N) 41 := rfl
  have h6p : pIn N (hl6 τ N) := R4.2.2.2.1
  generalize (hlB τ N).2.1 = n at *
  generalize hlq τ N = q at *
  generalize (hlB τ N).2.2.1 = cw at *
  generalize (hlB τ N).2.2.2.1 = h at *
  generalize (hlB τ N).2.2.2.2 = ed at *
  generalize hl6 τ N = s6 at *
  have lay : ∀ m : Mu, PcR m r τ N (hlR τ N).1 → m r 2 = 0 → WhR m w n q cw h ed → WcR m w q (hlR τ N).2 → (∀ y j, (y < w ∨ w + 77 ≤ y) → y ≠ r → y ≠ r + 2 → m y j = μ y j) → shO G w 7 9 ∧ ∃ (d9 k9 : Nat) (P9 : Option AV → Mu → Mu → Prop), d9 < d ∧ 0 + k9 ≤ 0 ∧ Cn X.l G yX7_layShapes cX7_layShapes 2 none d9 k9 [aR w] γ m P9 ∧ ∀ r9 γ9 μ9, P9 r9 γ9 μ9 → V X G (Qm X G 0 P) (0 + k9) 97 [aR r, aD, aD, aD, aD] (r9.toList ++ []) γ9 μ9 := fun m h1 h2 h3 h4 h5 => by
    have ok := (clN_ok (τ := τ) (N := N) (n := n) (q := q) (w := cw) h6p hO.1 41).1
    rw [← eR] at ok
    refine ⟨hw.o, 4, 0, _, by omega, Nat.le_refl _, hX ▸ c_layShapes hl 4 (by omega) hw h3 hO h4 ok, ?_⟩
    rintro rr γ m2 ⟨rfl, rfl, k1, k2⟩
    exact out m2 (h1.fr (fun j _ => k2 r j (by omega))) (by rw [k2 r 2 (by omega)]; exact h2) (fun _ => ⟨h3.fw k2, k1, fun x z1 z2 => by rw [k2 _ _ (by omega)]; exact h4.2.2.2 x z1 z2⟩) (fun y j z1 z2 z3 => by rw [k2 y j (by omega)]; exact h5 y j z1 z2 z3)
  have loop : ∀ (j k : Nat) (m : Mu), k + j = 41 → PcR m r τ N (clN τ N n q cw s6 k).1 → m r 2 = 0 → ((clN τ N n q cw s6 k).1.fk = 0 → WcR m w q (clN τ N n q cw s6 k).2) → WhR m w n q cw h ed → TxC m r τ N → (∀ y j, (y < w ∨ w + 77 ≤ y) → y ≠ r → y ≠ r + 2 → m y j = μ y j) → V X G (Qm X G 0 P) 0 57 [aR r, aD, aR w, aI (okI (clN τ N n q cw s6 k).1), aI (k : Int)] [] γ m := by
    intro j
    induction j with
    | zero =>
      intro k m hk R r2 hW hH hX2 F
      obtain rfl : k = 41 := by omega
      rw [← eR] at R hW ⊢
      have ns := clN_41 (τ := τ) (N := N) (n := n) (q := q) (w := cw) (s := s6)
      rw [← eR] at ns
      refine B_X3_read_57 hC hr.o ⟨fun z0 => ⟨fun _ => out m R r2 (fun z => absurd z (okI_z z0)) F, fun z => absurd z0 z⟩, fun z0 => ⟨fun z1 => ⟨fun z => absurd z z0, fun _ => lay m R r2 hH (hW (okI_n z0)) F⟩, fun z1 => ⟨fun _ => ⟨fun z => absurd z z0, fun _ => lay m R r2 hH (hW (okI_n z0)) F⟩, fun z2 => absurd (by decide) z2⟩⟩⟩
    | succ j ih =>
      intro k m hk R r2 hW hH hX2 F
      have stop : ¬ ((clN τ N n q cw s6 k).1.fk = 0 ∧ tK τ N (clN τ N n q cw s6 k).1.p ≠ 0) → hlR τ N = clN τ N n q cw s6 k := fun h => by
        have := clN_stop h (j + 1)
        rw [hk, ← eR] at this
        exact this
      refine B_X3_read_57 hC hr.o ⟨fun z0 => ⟨fun _ => ?_, fun z => absurd z0 z⟩, fun z0 => ⟨fun z1 => ⟨fun z => absurd z z0, fun _ => ?_⟩, fun z1 => ⟨fun z => by omega, fun z2 => ?_⟩⟩⟩
      · have e := stop (fun z => okI_z z0 z.1)
        rw [← e] at R z0
        exact out m R r2 (fun z => absurd z (okI_z z0)) F
      · have g := okI_n z0
        rw [(R.1 g).2.2.2] at z1
        have e := stop (fun z => z.2 z1)
        rw [← e] at R hW g
        exact lay m R r2 hH (hW g) F
      · have g := okI_n z0
        rw [(R.1 g).2.2.2] at z1
        have ok := clN_ok (τ := τ) (N := N) (n := n) (q := q) (w := cw) h6p hO.1 k
        refine ⟨7, 0, _, hd, Nat.le_refl _, hX ▸ c_readClause hl 7 (by omega) hr hw hrw hH hO R g hT hX2 (hW g) ⟨ok.1.2.1.1, by have := ok.1.2.1.2; omega⟩ (by omega), ?_⟩
        have es : clN τ N n q cw s6 (k + 1) = clF τ N n q cw k (clN τ N n q cw s6 k).1 (clN τ N n q cw s6 k).2 := by rw [clN_s, if_pos ⟨g, z1⟩]
        rw [← es]
        rintro rr γ m2 ⟨rfl, rfl, k3, k4, k5⟩
        refine B_X3_read_82 hC hr.o ⟨by constructor <;> omega, ?_⟩
        have ek : ((k + 1 : Nat) : Int) = (k : Int) + 1 := by omega
        have := ih (k + 1) m2 (by omega) k3 (by rw [k4 r 2 (by omega) (by omega)]; exact r2) k5 (hH.fr (fun j => k4 w j (by omega) (by omega))) (hX2.fw k4 hrw) (fun y j z1 z2 z3 => by rw [k4 y j (by omega) (by omega)]; exact F y j z1 z2 z3)
        rw [ek] at this
        exact this
  exact loop 41 0 m4 (by omega) R4 r2 (fun _ => W4) hH4 tx4 F4
theorem c_hasRoom (hl : l.stackTraces = false) (d : Nat) {r x : Int} (hr : shO G r 3 10) (hb : iR (μ r 2 + x)) : Cn l G yX3_hasRoom cX3_hasRoom 2 (some .boolean) d 0 [aR r, aI x] γ μ (PI (if μ r 2 + x ≤ 500 then 1 else 0) γ μ) := by
  refine Cn.ofP hl (plainFor_of_name (by decide)) (noLc nlR (noL1 nlI)) rfl (fun P hP o1 o3 X hX hC => B_X3_hasRoom_0 hC hr ⟨hb, fun h => ⟨Nat.le_refl _, hP _ _ _ ⟨by rw [if_neg (by omega)], rfl, rfl⟩⟩, fun h => ⟨Nat.le_refl _, hP _ _ _ ⟨by rw [if_pos (by omega)], rfl, rfl⟩⟩⟩)
end CRead4
