/-! the class: Reader's clauses -/
def FRw (μ m : Mu) (r w : Int) : Prop := ∀ y j, (y < w + 1 ∨ w + 77 ≤ y) → (y = r → j ≠ 3 ∧ j ≠ 4 ∧ (j < 6 ∨ 9 < j)) → m y j = μ y j
theorem FRd.w {μ m : Mu} {r w : Int} (h : FRd μ m r) : FRw μ m r w := fun y j _ z2 => h y j z2
theorem FRw.t {μ m m2 : Mu} {r w : Int} (h : FRw μ m r w) (h2 : FRw m m2 r w) : FRw μ m2 r w := fun y j z1 z2 => by rw [h2 y j z1 z2, h y j z1 z2]
theorem TxC.fw {μ m : Mu} {r w N : Int} {τ : Int → Int} (h : TxC μ r τ N) (hf : FRw μ m r w) (hrw : r + 3 ≤ w) : TxC m r τ N := h.f2 (fun y j z1 z2 => hf y j (by omega) (by omega))
theorem WcR.fr {μ m : Mu} {w q : Int} {a : AC} (h : WcR μ w q a) (hf : ∀ y j, w < y → y < w + 77 → m y j = μ y j) : WcR m w q a := ⟨fun x y z1 z2 z3 z4 => by rw [hf _ _ (by omega) (by omega)]; exact h.1 x y z1 z2 z3 z4, fun k z1 z2 => by rw [hf _ _ (by omega) (by omega)]; exact h.2.1 k z1 z2, fun x y z1 z2 z3 z4 => by rw [hf _ _ (by omega) (by omega)]; exact h.2.2.1 x y z1 z2 z3 z4, fun x z1 z2 => by rw [hf _ _ (by omega) (by omega)]; exact h.2.2.2 x z1 z2⟩
theorem WcR.rd {μ m : Mu} {r w q : Int} {a : AC} (h : WcR μ w q a) (hf : FRd μ m r) (hrw : r + 3 ≤ w) : WcR m w q a := h.fr (fun y j z1 z2 => hf y j (by omega))
theorem WhR.fr {μ m : Mu} {w n q c h ed : Int} (H : WhR μ w n q c h ed) (hf : ∀ j, m w j = μ w j) : WhR m w n q c h ed := by
  obtain ⟨h1, h2, h3, h4, h5⟩ := H
  exact ⟨by rw [hf]; exact h1, by rw [hf]; exact h2, by rw [hf]; exact h3, by rw [hf]; exact h4, by rw [hf]; exact h5⟩
theorem pNd_bad {τ : Int → Int} {N c : Int} {s : PT} (h : s.fk ≠ 0) : pNd τ N s c = s := if_neg h
theorem pNm_bad {τ : Int → Int} {N lo hi : Int} {s : PT} (h : s.fk ≠ 0) : pNm τ N s lo hi = s := if_neg h
theorem pLm_bad {τ : Int → Int} {N n ot : Int} {s : PT} (h : s.fk ≠ 0) : pLm τ N n s ot = s := if_neg h
theorem pBy_bad {τ : Int → Int} {N q : Int} {s : PT} (h : s.fk ≠ 0) : pBy τ N q s = s := if_neg (fun z => h z.1)
theorem pWr_bad {τ : Int → Int} {N k : Int} {s : PT} (h : s.fk ≠ 0) : pWr τ N s k = s := if_neg h
theorem sg_bad {τ : Int → Int} {N : Int} {s : PT} (h : s.fk ≠ 0) : sg τ N s = s := pNd_bad h
def RcP (μ γ : Mu) (r w q : Int) (τ : Int → Int) (N : Int) (sa : PT × AC) : Option AV → Mu → Mu → Prop := fun rr γ' μ' => rr = some (aI (okI sa.1)) ∧ γ' = γ ∧ PcR μ' r τ N sa.1 ∧ FRw μ μ' r w ∧ (sa.1.fk = 0 → WcR μ' w q sa.2)
/-- the second lamp of a wire -/
theorem pLm_2 {τ : Int → Int} {N n ot : Int} {s : PT} (h0 : s.fk = 0) (hp : 0 ≤ s.p ∧ s.p ≤ N) : pLm τ N n s ot = if (pLm τ N n s (-1)).fk = 0 ∧ vlP τ N s = ot then pWr τ N s 5 else pLm τ N n s (-1) := by
  have hb := tV_b (τ := τ) hp
  have ev : vlP τ N s = tV τ N s.p := by unfold vlP; rw [if_pos h0]
  by_cases e : (pLm τ N n s (-1)).fk = 0
  · obtain ⟨-, h2, h3, h4, h5⟩ := pLm_ok e
    by_cases e2 : vlP τ N s = ot
    · rw [if_pos ⟨e, e2⟩]
      unfold pLm at e ⊢
      rw [if_pos h0] at e ⊢
      split at e
      · rename_i k2
        rw [if_pos k2]
        split at e
        · exact absurd e (pWr_fk (by decide))
        · rename_i k3
          rw [if_neg k3, if_neg (by omega), if_pos (by rw [← ev]; exact e2)]
      · exact absurd e (pWr_fk (by decide))
    · rw [if_neg (fun z => e2 z.2), h5]
      unfold pLm at e ⊢
      rw [if_pos h0] at e ⊢
      split at e
      · rename_i k2
        rw [if_pos k2]
        split at e
        · exact absurd e (pWr_fk (by decide))
        · rename_i k3
          rw [if_neg k3, if_neg (by omega), if_neg (by rw [← ev]; exact e2)]
      · exact absurd e (pWr_fk (by decide))
  · rw [if_neg (fun z => e z.1)]
    unfold pLm at e ⊢
    rw [if_pos h0] at e ⊢
    rw [if_pos h0]
    split
    · rename_i k2
      rw [if_pos k2] at e
      split
      · rfl
      · rename_i k3
        rw [if_neg k3] at e
        split
        · rfl
        · rename_i k4
          rw [if_neg k4, if_neg (by omega)] at e
          exact absurd h0 e
    · rfl
theorem wrC_wir {a : AC} {u v x y : Int} : ∀ i, 0 ≤ i → i ≤ a.wc → wrC (aWir a u v) i x y = wrC a i x y := by
  refine foldI_cong (fun j z z1 z2 => ?_)
  have e1 : (aWir a u v).wA j = a.wA j := fup_n (by omega)
  have e2 : (aWir a u v).wB j = a.wB j := fup_n (by omega)
  rw [e1, e2]
theorem wrC_add {a : AC} {u v x y : Int} (h : 0 ≤ a.wc) : wrC (aWir a u v) (aWir a u v).wc x y = wrC a a.wc x y + (if x = u ∧ y = v then 1 else 0) + (if x = v ∧ y = u then 1 else 0) := by
  have e0 : (aWir a u v).wc = a.wc + 1 := rfl
  have e1 : wrC (aWir a u v) (a.wc + 1) x y = wrC (aWir a u v) a.wc x y + (if x = (aWir a u v).wA a.wc ∧ y = (aWir a u v).wB a.wc then 1 else 0) + (if x = (aWir a u v).wB a.wc ∧ y = (aWir a u v).wA a.wc then 1 else 0) := foldI_s h
  have e2 : (aWir a u v).wA a.wc = u := fup_s
  have e3 : (aWir a u v).wB a.wc = v := fup_s
  rw [e0, e1, wrC_wir _ h (Int.le_refl _), e2, e3]
section CRead3
variable {l : Launch} {G : Gx} {γ μ : Mu}
theorem c_readJam (hl : l.stackTraces = false) (d : Nat) (hd : 2 < d) {r w N n q : Int} {τ : Int → Int} {s : PT} {a : AC} (hr : ReadAt G γ r) (hw : WirAt G γ w) (hrw : r + 3 ≤ w) (en : μ w 0 = n) (hn : 1 ≤ n ∧ n ≤ 36) (hR : PcR μ r τ N s) (h0 : s.fk = 0) (hT : txt τ N) (hx : TxC μ r τ N) (hA : WcR μ w q a) : Cn l G yX3_readJam cX3_readJam 2 (some .boolean) d 0 [aR r, aR w] γ μ (RcP μ γ r w q τ N (pLm τ N n s (-1), aJam a (vlP τ N s))) := by
  refine Cn.ofP hl (plainFor_of_name (by decide)) (noLc nlR (noL1 nlR)) rfl (fun P hP o1 o3 X hX hC => B_X3_readJam_0 hC hr.o ?_)
  have hvb := vlP_b (τ := τ) (s := s) hR.2.2.2.1
  refine ⟨2, 0, _, hd, Nat.le_refl _, hX ▸ c_readLamp hl 2 (by omega) hr hw.o en hn hR h0 hT hx, ?_⟩
  rintro rr γ m ⟨rfl, rfl, h3, h4, h5⟩
  refine B_X3_readJam_5 hC hr.o ⟨fun h => ?_, fun h => ⟨Nat.le_refl _, hP _ _ _ ⟨by rw [h], rfl, h3, h4.w, fun e => absurd e (okI_z h)⟩⟩⟩
  have h' := okI_n h
  have hlm := pLm_ok h'
  rw [h5 h', hw.g6]
  refine ⟨hw.o, ixO hw.s38 (by omega), Nat.le_refl _, hP _ _ _ ⟨by rw [okI_1 h'], rfl, h3.fr (fun j _ => up_ne (by omega)), fun y j z1 z2 => by rw [up_ne (by omega)]; exact h4 y j z2, fun _ => ?_⟩⟩
  have hA2 := hA.rd h4 hrw
  refine ⟨fun x y z1 z2 z3 z4 => by rw [up_ne (by omega)]; exact hA2.1 x y z1 z2 z3 z4, fun k z1 z2 => by rw [up_ne (by omega)]; exact hA2.2.1 k z1 z2, fun x y z1 z2 z3 z4 => by rw [up_ne (by omega)]; exact hA2.2.2.1 x y z1 z2 z3 z4, fun x z1 z2 => ?_⟩
  show _ = fup a.jm (vlP τ N s) 1 x
  by_cases e : x = vlP τ N s
  · rw [e, up_same, fup_s]
  · rw [up_ne (by omega), fup_n e]; exact hA2.2.2.2 x z1 z2
theorem c_readShape (hl : l.stackTraces = false) (d : Nat) (hd : 5 < d) {r w N q k : Int} {τ : Int → Int} {s : PT} {a : AC} (hr : ReadAt G γ r) (hw : WirAt G γ w) (hrw : r + 3 ≤ w) (eq : μ w 1 = q) (hq : 2 ≤ q ∧ q ≤ 5) (hk : 0 ≤ k ∧ k < 6) (hR : PcR μ r τ N s) (h0 : s.fk = 0) (hT : txt τ N) (hx : TxC μ r τ N) (hA : WcR μ w q a) : Cn l G yX3_readShape cX3_readShape 3 (some .boolean) d 0 [aR r, aI k, aR w] γ μ (RcP μ γ r w q τ N (pBy τ N q s, aShp a k (vBy τ N s))) := by
  refine Cn.ofP hl (plainFor_of_name (by decide)) (noLc nlR (noLc nlI (noL1 nlR))) rfl (fun P hP o1 o3 X hX hC => B_X3_readShape_0 hC hr.o ?_)
  have hvb := vBy_b (τ := τ) (s := s) hR.2.2.2.1
  refine ⟨5, 0, _, hd, Nat.le_refl _, hX ▸ c_readBy hl 5 (by omega) hr hw.o hrw eq hq hR h0 hT hx, ?_⟩
  rintro rr γ m ⟨rfl, rfl, h3, h4, h5⟩
  refine B_X3_readShape_5 hC hr.o ⟨fun h => ?_, fun h => ⟨Nat.le_refl _, hP _ _ _ ⟨by rw [h], rfl, h3, h4.w, fun e => absurd e (okI_z h)⟩⟩⟩
  have h' := okI_n h
  have hA2 := hA.rd h4 hrw
  rw [h5 h']
  refine ⟨hw.o, 2, 0, _, by omega, Nat.le_refl _, hX ▸ c_addShape hl 2 (by omega) (s := a.shp) hw (by rw [h4 w 1 (by omega)]; exact eq) hq hA2.2.1 hk (by omega), ?_⟩
  rintro rr γ m2 ⟨rfl, rfl, h6, h7⟩
  exact B_X3_readShape_19 hC ⟨Nat.le_refl _, hP _ _ _ ⟨by rw [okI_1 h'], rfl, h3.fr (fun j _ => h7 _ _ (by omega)), fun y j z1 z2 => by rw [h7 y j (by omega)]; exact h4 y j z2, fun _ => ⟨fun x y z1 z2 z3 z4 => by rw [h7 _ _ (by omega)]; exact hA2.1 x y z1 z2 z3 z4, h6, fun x y z1 z2 z3 z4 => by rw [h7 _ _ (by omega)]; exact hA2.2.2.1 x y z1 z2 z3 z4, fun x z1 z2 => by rw [h7 _ _ (by omega)]; exact hA2.2.2.2 x z1 z2⟩⟩⟩
theorem c_readWire (hl : l.stackTraces = false) (d : Nat) (hd : 2 < d) {r w N n q : Int} {τ : Int → Int} {s : PT} {a : AC} (hr : ReadAt G γ r) (hw : WirAt G γ w) (hrw : r + 3 ≤ w) (en : μ w 0 = n) (hn : 1 ≤ n ∧ n ≤ 36) (hR : PcR μ r τ N s) (h0 : s.fk = 0) (hT : txt τ N) (hx : TxC μ r τ N) (hA : WcR μ w q a) (hwc : 0 ≤ a.wc ∧ a.wc ≤ 41) : Cn l G yX3_readWire cX3_readWire 4 (some .boolean) d 0 [aR r, aR w] γ μ (RcP μ γ r w q τ N (pLm τ N n (pLm τ N n s (-1)) (vlP τ N s), aWir a (vlP τ N s) (vlP τ N (pLm τ N n s (-1))))) := by
  refine Cn.ofP hl (plainFor_of_name (by decide)) (noLc nlR (noL1 nlR)) rfl (fun P hP o1 o3 X hX hC => B_X3_readWire_0 hC hr.o ?_)
  have hvb := vlP_b (τ := τ) (s := s) hR.2.2.2.1
  refine ⟨2, 0, _, hd, Nat.le_refl _, hX ▸ c_readLamp hl 2 (by omega) hr hw.o en hn hR h0 hT hx, ?_⟩
  rintro rr γ m ⟨rfl, rfl, h3, h4, h5⟩
  refine B_X3_readWire_5 hC hr.o ⟨fun h => ?_, fun h => ?_⟩
  rotate_left
  · rw [pLm_bad (okI_z h)] at hP
    exact ⟨Nat.le_refl _, hP _ _ _ ⟨by rw [h], rfl, h3, h4.w, fun e => absurd e (okI_z h)⟩⟩
  have h1 := okI_n h
  obtain ⟨-, -, v1, -, -⟩ := pLm_ok h1
  have hp1 : 0 ≤ (pLm τ N n s (-1)).p ∧ (pLm τ N n s (-1)).p ≤ N := h3.2.2.2.1
  rw [pLm_2 h1 hp1] at hP
  have hvb2 := vlP_b (τ := τ) (s := pLm τ N n s (-1)) hp1
  obtain ⟨t5, t6, t7, t8⟩ := h3.1 h1
  rw [h5 h1, t6]
  generalize pLm τ N n s (-1) = s1 at *
  generalize vlP τ N s = x at *
  refine ⟨2, 0, _, hd, Nat.le_refl _, hX ▸ c_readLamp hl 2 (by omega) hr hw.o (by rw [h4 w 0 (by omega)]; exact en) hn h3 h1 hT (hx.fr h4), ?_⟩
  rintro rr γ m2 ⟨rfl, rfl, k3, k4, k5⟩
  have hA2 := hA.rd (h4.t k4) hrw
  refine B_X3_readWire_25 hC hr.o ⟨fun h => ?_, fun h => ?_⟩
  rotate_left
  · rw [if_neg (fun z => okI_z h z.1)] at hP
    exact ⟨Nat.le_refl _, hP _ _ _ ⟨by rw [h], rfl, k3, (h4.t k4).w, fun e => absurd e (okI_z h)⟩⟩
  have h2 := okI_n h
  obtain ⟨-, -, v2, -, -⟩ := pLm_ok h2
  rw [k5 h2]
  refine ⟨fun e => ?_, fun e => ?_⟩
  · rw [if_neg (fun z => e z.2)] at hP
    have hWb : ∀ x y, 0 ≤ wrC a a.wc x y ∧ wrC a a.wc x y ≤ 1000 := fun x y => by
      have := wrC_b (a := a) x y a.wc hwc.1 (Int.le_refl _)
      omega
    refine ⟨hw.o, 0, 0, _, by omega, Nat.le_refl _, hX ▸ c_addWire hl 0 hw hA2.2.2.1 (by omega) (by omega) (fun z => e z.symm) hWb, ?_⟩
    rintro rr γ m3 ⟨rfl, rfl, h6, h7⟩
    refine B_X3_readWire_54 hC ⟨Nat.le_refl _, hP _ _ _ ⟨by rw [okI_1 h2], rfl, k3.fr (fun j _ => h7 _ _ (by omega)), fun y j z1 z2 => by rw [h7 y j (by omega)]; exact (h4.t k4) y j z2, fun _ => ⟨fun x y z1 z2 z3 z4 => by rw [h7 _ _ (by omega)]; exact hA2.1 x y z1 z2 z3 z4, fun k z1 z2 => by rw [h7 _ _ (by omega)]; exact hA2.2.1 k z1 z2, fun x y z1 z2 z3 z4 => ?_, fun x z1 z2 => by rw [h7 _ _ (by omega)]; exact hA2.2.2.2 x z1 z2⟩⟩⟩
    rw [wrC_add hwc.1]
    exact h6 x y z1 z2 z3 z4
  · rw [if_pos ⟨h2, e⟩] at hP
    refine ⟨0, 0, _, by omega, Nat.le_refl _, hX ▸ c_failAt hl 0 hr, PI.use (B_X3_readWire_44 hC ⟨Nat.le_refl _, by decide, hP _ _ _ ⟨by rw [okI_0 (pWr_fk (by decide))], rfl, ?_, ((h4.t k4).t FRd.bad).w, fun w => absurd w (pWr_fk (by decide))⟩⟩)⟩
    unfold pWr
    rw [if_pos h1]
    exact ⟨fun w => absurd w (show (5 : Int) ≠ 0 by decide), by rw [up_ne (by omega), up_same], up_same, hp1, by rw [up_ne (by omega), up_ne (by omega)]; exact k3.2.2.2.2⟩
theorem c_readButton (hl : l.stackTraces = false) (d : Nat) (hd : 5 < d) {r w N n q : Int} {τ : Int → Int} {s : PT} {a : AC} (hr : ReadAt G γ r) (hw : WirAt G γ w) (hrw : r + 3 ≤ w) (en : μ w 0 = n) (hn : 1 ≤ n ∧ n ≤ 36) (eq : μ w 1 = q) (hq : 2 ≤ q ∧ q ≤ 5) (hR : PcR μ r τ N s) (h0 : s.fk = 0) (hT : txt τ N) (hx : TxC μ r τ N) (hA : WcR μ w q a) : Cn l G yX3_readButton cX3_readButton 4 (some .boolean) d 0 [aR r, aR w] γ μ (RcP μ γ r w q τ N (pBy τ N q (pLm τ N n (at7 τ N n s) (-1)), aDir a (vlP τ N s) (vlP τ N (at7 τ N n s)) (vBy τ N (pLm τ N n (at7 τ N n s) (-1))))) := by
  refine Cn.ofP hl (plainFor_of_name (by decide)) (noLc nlR (noL1 nlR)) rfl (fun P hP o1 o3 X hX hC => B_X3_readButton_0 hC hr.o ?_)
  have hvb := vlP_b (τ := τ) (s := s) hR.2.2.2.1
  refine ⟨2, 0, _, by omega, Nat.le_refl _, hX ▸ c_readLamp hl 2 (by omega) hr hw.o en hn hR h0 hT hx, ?_⟩
  rintro rr γ m ⟨rfl, rfl, h3, h4, h5⟩
  have e7 : at7 τ N n s = pNd τ N (pLm τ N n s (-1)) (if tN τ N (pLm τ N n s (-1)).p = 15 then 1 else 0) := rfl
  refine B_X3_readButton_5 hC hr.o ⟨fun h => ?_, fun h => ?_⟩
  rotate_left
  · have b := okI_z h
    rw [e7, pNd_bad b, pLm_bad b, pBy_bad b] at hP
    exact ⟨Nat.le_refl _, hP _ _ _ ⟨by rw [h], rfl, h3, h4.w, fun e => absurd e b⟩⟩
  have h1 := okI_n h
  obtain ⟨-, -, v1, -, -⟩ := pLm_ok h1
  rw [h5 h1]
  refine ⟨5, 0, _, hd, Nat.le_refl _, hX ▸ c_readWord hl 5 (by omega) (i := 21) hr h3 h1 hT (hx.fr h4) (by decide), ?_⟩
  rw [show wix 21 = 15 from rfl, ← e7]
  rintro rr γ m2 ⟨rfl, rfl, k3, k4⟩
  have hvb2 := vlP_b (τ := τ) (s := at7 τ N n s) k3.2.2.2.1
  generalize at7 τ N n s = s2 at *
  generalize vlP τ N s = x at *
  refine B_X3_readButton_21 hC hr.o ⟨fun h => ?_, fun h => ?_⟩
  · have b := okI_z h
    rw [pLm_bad b, pBy_bad b] at hP
    exact ⟨Nat.le_refl _, hP _ _ _ ⟨by rw [h], rfl, k3, (h4.t k4).w, fun e => absurd e b⟩⟩
  have h2 := okI_n h
  have F2 := h4.t k4
  refine ⟨2, 0, _, by omega, Nat.le_refl _, hX ▸ c_readLamp hl 2 (by omega) hr hw.o (by rw [F2 w 0 (by omega)]; exact en) hn k3 h2 hT (hx.fr F2), ?_⟩
  rintro rr γ m3 ⟨rfl, rfl, g3, g4, g5⟩
  have F3 := F2.t g4
  refine B_X3_readButton_29 hC hr.o ⟨fun h => ?_, fun h => ?_⟩
  rotate_left
  · have b := okI_z h
    rw [pBy_bad b] at hP
    exact ⟨Nat.le_refl _, hP _ _ _ ⟨by rw [h], rfl, g3, F3.w, fun e => absurd e b⟩⟩
  have h3' := okI_n h
  obtain ⟨-, -, v2, -, -⟩ := pLm_ok h3'
  have hvb3 := vBy_b (τ := τ) (s := pLm τ N n s2 (-1)) g3.2.2.2.1
  rw [g5 h3']
  generalize pLm τ N n s2 (-1) = s3 at *
  generalize vlP τ N s2 = y at *
  refine ⟨5, 0, _, hd, Nat.le_refl _, hX ▸ c_readBy hl 5 (by omega) hr hw.o hrw (by rw [F3 w 1 (by omega)]; exact eq) hq g3 h3' hT (hx.fr F3), ?_⟩
  rintro rr γ m4 ⟨rfl, rfl, f3, f4, f5⟩
  have F4 := F3.t f4
  have hA2 := hA.rd F4 hrw
  refine B_X3_readButton_44 hC hr.o ⟨fun h => ?_, fun h => ⟨Nat.le_refl _, hP _ _ _ ⟨by rw [h], rfl, f3, F4.w, fun e => absurd e (okI_z h)⟩⟩⟩
  have h4' := okI_n h
  rw [f5 h4']
  refine ⟨hw.o, 2, 0, _, by omega, Nat.le_refl _, hX ▸ c_addAmount hl 2 (by omega) (D := a.dir) hw (by rw [F4 w 1 (by omega)]; exact eq) hq hA2.1 (by omega) (by omega) (by omega), ?_⟩
  rintro rr γ m5 ⟨rfl, rfl, h6, h7⟩
  exact B_X3_readButton_59 hC ⟨Nat.le_refl _, hP _ _ _ ⟨by rw [okI_1 h4'], rfl, f3.fr (fun j _ => h7 _ _ (by omega)), fun y j z1 z2 => by rw [h7 y j (by omega)]; exact F4 y j z2, fun _ => ⟨h6, fun k z1 z2 => by rw [h7 _ _ (by omega)]; exact hA2.2.1 k z1 z2, fun x y z1 z2 z3 z4 => by rw [h7 _ _ (by omega)]; exact hA2.2.2.1 x y z1 z2 z3 z4, fun x z1 z2 => by rw [h7 _ _ (by omega)]; exact hA2.2.2.2 x z1 z2⟩⟩⟩
theorem cl0_eq {τ : Int → Int} {N w c : Int} {s : PT} (h0 : s.fk = 0) : cl0 τ N w c s = if tN τ N s.p < 0 ∨ 8 < tN τ N s.p then pWr τ N s 1 else if c = 40 then pWr τ N s 2 else if (w = 0 ∧ 2 ≤ tN τ N s.p ∧ tN τ N s.p ≤ 5) ∨ (w ≠ 0 ∧ tN τ N s.p = 6) then pWr τ N s 3 else s := by
  unfold cl0
  by_cases e1 : tN τ N s.p < 0 ∨ 8 < tN τ N s.p
  · rw [if_pos e1, if_pos e1]
    have b : (pWr τ N s 1).fk ≠ 0 := pWr_fk (by decide)
    rw [pWr_bad b, ite_self, pWr_bad b, ite_self]
  · rw [if_neg e1, if_neg e1]
    by_cases e2 : c = 40
    · rw [if_pos e2, if_pos e2]
      have b : (pWr τ N s 2).fk ≠ 0 := pWr_fk (by decide)
      rw [pWr_bad b, ite_self]
    · rw [if_neg e2, if_neg e2]
theorem c_readClause (hl : l.stackTraces = false) (d : Nat) (hd : 6 < d) {r w N n q cw h ed c : Int} {τ : Int → Int} {s : PT} {a : AC} (hr : ReadAt G γ r) (hw : WirAt G γ w) (hrw : r + 3 ≤ w) (hH : WhR μ w n q cw h ed) (hO : hdO n q cw h ed) (hR : PcR μ r τ N s) (h0 : s.fk = 0) (hT : txt τ N) (hx : TxC μ r τ N) (hA : WcR μ w q a) (hwc : 0 ≤ a.wc ∧ a.wc ≤ 41) (hc : 0 ≤ c ∧ c ≤ 40) : Cn l G yX3_readClause cX3_readClause 4 (some .boolean) d 0 [aR r, aR w, aI c] γ μ (RcP μ γ r w q τ N (clF τ N n q cw c s a)) := by
  refine Cn.ofP hl (plainFor_of_name (by decide)) (noLc nlR (noLc nlR (noL1 nlI))) rfl (fun P hP o1 o3 X hX hC => B_X3_readClause_0 hC hr.o ?_)
  have hn := hO.n
  have hq := hO.1.b
  have hnet : (if ed = -1 then (1 : Int) else 0) = if cw = 0 then 1 else 0 := by
    rcases hO.2 with ⟨e, -, e2, -⟩ | ⟨e, -, -, e2⟩
    · rw [if_pos e2, if_pos e]
    · rw [if_neg (by omega), if_neg (by omega)]
  obtain ⟨H0, H1, -, -, H4⟩ := id hH
  obtain ⟨t5, t6, t7, t8⟩ := hR.1 h0
  have bad : ∀ k, k ≠ 0 → cl0 τ N cw c s = pWr τ N s k → P (some (aI 0)) γ (up (up μ r 4 k) r 3 (tS τ N s.p)) := fun k hk e => by
    have b : (pWr τ N s k).fk ≠ 0 := pWr_fk hk
    have ec : clF τ N n q cw c s a = (pWr τ N s k, a) := by unfold clF; rw [e, if_neg b]
    rw [ec] at hP
    exact hP _ _ _ ⟨by rw [okI_0 b], rfl, hR.bad h0 hk, FRd.bad.w, fun w => absurd w b⟩
  have fin : ∀ (s' : PT) (a' : AC) (m : Mu), clF τ N n q cw c s a = (sg τ N s', if s'.fk = 0 then a' else a) → PcR m r τ N s' → FRw μ m r w → (s'.fk = 0 → WcR m w q a') → (okI s' = 0 → P (some (aI 0)) γ m) ∧ (¬ okI s' = 0 → Cn l G yX3_readSign cX3_readSign 1 (some .boolean) 1 0 [aR r] γ m (RdQ m γ r τ N (sg τ N s')) ∧ ∀ m2, PcR m2 r τ N (sg τ N s') → FRd m m2 r → (okI (sg τ N s') = 0 → P (some (aI 0)) γ m2) ∧ (¬ okI (sg τ N s') = 0 → P (some (aI 1)) γ m2)) := fun s' a' m ec h3 h4 h5 => by
    rw [ec] at hP
    refine ⟨fun h => ?_, fun h => ⟨c_readSign hl 1 (by omega) hr h3 (okI_n h) hT (hx.fw h4 hrw), fun m2 k3 k4 => ?_⟩⟩
    · have b := okI_z h
      rw [sg_bad b] at hP
      exact hP _ _ _ ⟨by rw [h], rfl, h3, h4, fun e => absurd e b⟩
    · have g := okI_n h
      rw [if_pos g] at hP
      have k5 : P (some (aI (okI (sg τ N s')))) γ m2 := hP _ _ _ ⟨rfl, rfl, k3, h4.t k4.w, fun _ => (h5 g).rd k4 hrw⟩
      exact ⟨fun e => e ▸ k5, fun e => by rw [okI_1 (okI_n e)] at k5; exact k5⟩
  refine ⟨5, 0, _, by omega, Nat.le_refl _, hX ▸ c_clauseHere hl 5 (by omega) hr hR h0 hT hx, PI.use ?_⟩
  have cl := cl0_eq (τ := τ) (N := N) (w := cw) (c := c) h0
  have ecl : ∀ x, (cl0 τ N cw c s = s) → (clF τ N n q cw c s a = x ↔ (if tN τ N s.p ≤ 5 then cl5 τ N q (tN τ N s.p) (pGo τ N s) a else if tN τ N s.p = 6 then cl6 τ N n (pGo τ N s) a else if tN τ N s.p = 7 then cl7 τ N n q (pGo τ N s) a else cl8 τ N n (pGo τ N s) a) = x) := fun x e => by unfold clF; rw [e, if_pos h0]
  generalize tN τ N s.p = k at *
  refine B_X3_readClause_4 hC hr.o ?_
  rw [t6]
  by_cases e1 : k < 0 ∨ 8 < k
  · rw [if_neg (show ¬ (0 ≤ k ∧ k ≤ 8) by omega)]
    rw [if_pos e1] at cl
    exact ⟨fun z => absurd rfl z, fun _ => ⟨0, 0, _, by omega, Nat.le_refl _, hX ▸ c_failAt hl 0 hr, PI.use (B_X3_readClause_19 hC ⟨Nat.le_refl _, by decide, bad 1 (by decide) cl⟩)⟩⟩
  rw [if_pos (show 0 ≤ k ∧ k ≤ 8 by omega)]
  rw [if_neg e1] at cl
  refine ⟨fun _ => ⟨fun e2 => ⟨hw.o, 0, 0, _, by omega, Nat.le_refl _, hX ▸ c_isNet hl 0 hw, PI.use ?_⟩, fun e2 => ?_⟩, fun z => by omega⟩
  rotate_left
  · rw [if_pos (show c = 40 by omega)] at cl
    exact ⟨0, 0, _, by omega, Nat.le_refl _, hX ▸ c_failAt hl 0 hr, PI.use (B_X3_readClause_35 hC ⟨Nat.le_refl _, by decide, bad 2 (by decide) cl⟩)⟩
  rw [if_neg (show ¬ c = 40 by omega)] at cl
  rw [H4, hnet]
  refine B_X3_readClause_41 hC hr.o ⟨0, 0, _, by omega, Nat.le_refl _, hX ▸ c_suits hl 0 (by split <;> omega), PI.use ?_⟩
  refine B_X3_readClause_44 hC hr.o ?_
  rw [t6]
  by_cases e3 : (cw = 0 ∧ 2 ≤ k ∧ k ≤ 5) ∨ (cw ≠ 0 ∧ k = 6)
  · rw [if_pos e3] at cl
    rw [if_pos (by split <;> omega)]
    exact ⟨fun z => absurd rfl z, fun _ => ⟨0, 0, _, by omega, Nat.le_refl _, hX ▸ c_failAt hl 0 hr, PI.use (B_X3_readClause_56 hC ⟨Nat.le_refl _, by decide, bad 3 (by decide) cl⟩)⟩⟩
  rw [if_neg e3] at cl
  rw [if_neg (by split <;> omega)]
  refine ⟨fun _ => ⟨0, 0, _, by omega, Nat.le_refl _, hX ▸ c_adv hl 0 hr hR h0 hT hx, ?_⟩, fun z => absurd z (by decide)⟩
  rintro rr γ m ⟨rfl, rfl, h6, h7⟩
  have F1 : FRd μ m r := fun y j h => h7 y j (by omega)
  have hA2 := hA.rd F1 hrw
  have hx2 := hx.fr F1
  have ecl' := fun x => ecl x cl
  have g0 : (pGo τ N s).fk = 0 := h0
  refine B_X3_readClause_61 hC hr.o ⟨fun e => ?_, fun e => ?_, fun e => ?_, fun e => ?_⟩
  · rw [if_pos (show k ≤ 5 by omega)] at ecl'
    refine ⟨6, 0, _, hd, Nat.le_refl _, hX ▸ c_readShape hl 6 (by omega) hr hw hrw (by rw [F1 w 1 (by omega)]; exact H1) hq (by omega) h6 g0 hT hx2 hA2, ?_⟩
    rintro rr γ m2 ⟨rfl, rfl, k3, k4, k5⟩
    have k3' : PcR m2 r τ N (pBy τ N q (pGo τ N s)) := k3
    have f := fin (pBy τ N q (pGo τ N s)) _ m2 ((ecl' _).mpr rfl) k3' (F1.w.t k4) k5
    refine B_X3_readClause_157 hC hr.o ⟨fun h => ⟨Nat.le_refl _, f.1 h⟩, fun h => ⟨1, 0, _, by omega, Nat.le_refl _, hX ▸ (f.2 h).1, ?_⟩⟩
    rintro rr γ m3 ⟨rfl, rfl, g3, g4⟩
    have f2 := (f.2 h).2 m3 g3 g4
    exact B_X3_readClause_164 hC ⟨fun h => ⟨Nat.le_refl _, f2.1 h⟩, fun h => ⟨Nat.le_refl _, f2.2 h⟩⟩
  · rw [if_neg (show ¬ k ≤ 5 by omega), if_pos e] at ecl'
    refine ⟨6, 0, _, hd, Nat.le_refl _, hX ▸ c_readWire hl 6 (by omega) hr hw hrw (by rw [F1 w 0 (by omega)]; exact H0) hn h6 g0 hT hx2 hA2 hwc, ?_⟩
    rintro rr γ m2 ⟨rfl, rfl, k3, k4, k5⟩
    have k3' : PcR m2 r τ N (pLm τ N n (pLm τ N n (pGo τ N s) (-1)) (vlP τ N (pGo τ N s))) := k3
    have f := fin _ _ m2 ((ecl' _).mpr rfl) k3' (F1.w.t k4) k5
    refine B_X3_readClause_93 hC hr.o ⟨fun h => ⟨Nat.le_refl _, f.1 h⟩, fun h => ⟨1, 0, _, by omega, Nat.le_refl _, hX ▸ (f.2 h).1, ?_⟩⟩
    rintro rr γ m3 ⟨rfl, rfl, g3, g4⟩
    have f2 := (f.2 h).2 m3 g3 g4
    exact B_X3_readClause_100 hC ⟨fun h => ⟨Nat.le_refl _, f2.1 h⟩, fun h => ⟨Nat.le_refl _, f2.2 h⟩⟩
  · rw [if_neg (show ¬ k ≤ 5 by omega), if_neg (show ¬ k = 6 by omega), if_pos e] at ecl'
    refine ⟨6, 0, _, hd, Nat.le_refl _, hX ▸ c_readButton hl 6 (by omega) hr hw hrw (by rw [F1 w 0 (by omega)]; exact H0) hn (by rw [F1 w 1 (by omega)]; exact H1) hq h6 g0 hT hx2 hA2, ?_⟩
    rintro rr γ m2 ⟨rfl, rfl, k3, k4, k5⟩
    have k3' : PcR m2 r τ N (pBy τ N q (pLm τ N n (at7 τ N n (pGo τ N s)) (-1))) := k3
    have f := fin _ _ m2 ((ecl' _).mpr rfl) k3' (F1.w.t k4) k5
    refine B_X3_readClause_114 hC hr.o ⟨fun h => ⟨Nat.le_refl _, f.1 h⟩, fun h => ⟨1, 0, _, by omega, Nat.le_refl _, hX ▸ (f.2 h).1, ?_⟩⟩
    rintro rr γ m3 ⟨rfl, rfl, g3, g4⟩
    have f2 := (f.2 h).2 m3 g3 g4
    exact B_X3_readClause_121 hC ⟨fun h => ⟨Nat.le_refl _, f2.1 h⟩, fun h => ⟨Nat.le_refl _, f2.2 h⟩⟩
  · rw [if_neg (show ¬ k ≤ 5 by omega), if_neg (show ¬ k = 6 by omega), if_neg (show ¬ k = 7 by omega)] at ecl'
    refine ⟨6, 0, _, hd, Nat.le_refl _, hX ▸ c_readJam hl 6 (by omega) hr hw hrw (by rw [F1 w 0 (by omega)]; exact H0) hn h6 g0 hT hx2 hA2, ?_⟩
    rintro rr γ m2 ⟨rfl, rfl, k3, k4, k5⟩
    have k3' : PcR m2 r τ N (pLm τ N n (pGo τ N s) (-1)) := k3
    have f := fin _ _ m2 ((ecl' _).mpr rfl) k3' (F1.w.t k4) k5
    refine B_X3_readClause_135 hC hr.o ⟨fun h => ⟨Nat.le_refl _, f.1 h⟩, fun h => ⟨1, 0, _, by omega, Nat.le_refl _, hX ▸ (f.2 h).1, ?_⟩⟩
    rintro rr γ m3 ⟨rfl, rfl, g3, g4⟩
    have f2 := (f.2 h).2 m3 g3 g4
    exact B_X3_readClause_142 hC ⟨fun h => ⟨Nat.le_refl _, f2.1 h⟩, fun h => ⟨Nat.le_refl _, f2.2 h⟩⟩
end CRead3
