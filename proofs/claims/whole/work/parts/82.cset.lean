/-! the class: count, set, fill, draw, jam, twin, keep, take, pulse -/
theorem hrdF_c {σ σ' : Mu} (h0 : σ' 0 0 = σ 0 0) (h1 : σ' 0 1 = σ 0 1) (ha : σ' 1 = σ 1) (hj : σ' 2 = σ 2) : hrdF σ' = hrdF σ := by
  funext k
  unfold hrdF SbF
  rw [h0, h1, sA_c ha, hj]
theorem litN_c {σ σ' : Mu} (h0 : σ' 0 0 = σ 0 0) (h1 : σ' 0 1 = σ 0 1) (ha : σ' 1 = σ 1) (hj : σ' 2 = σ 2) : litN σ' = litN σ := by
  funext bk v x
  unfold litN litG
  rw [h0, h1, sA_c ha, hj]
theorem litF_c {σ σ' : Mu} (h0 : σ' 0 0 = σ 0 0) (h1 : σ' 0 1 = σ 0 1) (ha : σ' 1 = σ 1) (hj : σ' 2 = σ 2) (h3 : σ' 3 = σ 3) (h4 : σ' 4 = σ 4) : litF σ' = litF σ := by
  funext x
  unfold litF litP litW nmb lnN
  rw [h0, h1, h3, h4, litN_c h0 h1 ha hj]
theorem pulF_c {σ σ' : Mu} (h0 : σ' 0 0 = σ 0 0) (h1 : σ' 0 1 = σ 0 1) (ha : σ' 1 = σ 1) (hj : σ' 2 = σ 2) : pulF σ' = pulF σ := by
  funext f
  unfold pulF pulS stpV
  rw [h0, h1, sA_c ha, hj]
theorem pulN_c {σ σ' : Mu} (h0 : σ' 0 0 = σ 0 0) (h1 : σ' 0 1 = σ 0 1) (ha : σ' 1 = σ 1) (hj : σ' 2 = σ 2) (h3 : σ' 3 = σ 3) : ∀ k, pulN σ' k = pulN σ k
  | 0 => h3
  | k + 1 => by
    show pulF σ' (pulN σ' k) = pulF σ (pulN σ k)
    rw [pulN_c h0 h1 ha hj h3 k, pulF_c h0 h1 ha hj]
theorem rndF_c {σ σ' : Mu} (h0 : σ' 0 0 = σ 0 0) (h1 : σ' 0 1 = σ 0 1) (ha : σ' 1 = σ 1) (hj : σ' 2 = σ 2) (h3 : σ' 3 = σ 3) : rndF σ' = rndF σ := by
  have e : eqK σ' = eqK σ := by
    funext k j
    unfold eqK
    rw [h0, pulN_c h0 h1 ha hj h3, pulN_c h0 h1 ha hj h3]
  have e2 : rdP σ' = rdP σ := by
    funext k
    unfold rdP
    rw [e]
  funext x
  unfold rndF
  rw [e, e2]
theorem AlC.c {μ σ σ' : Mu} {g : Int} (h : AlC μ g σ) (h0 : σ' 0 0 = σ 0 0) (h1 : σ' 0 1 = σ 0 1) (ha : σ' 1 = σ 1) (hj : σ' 2 = σ 2) : AlC μ g σ' := by
  unfold AlC SbF SlF SdF at h ⊢
  rw [h0, h1, sA_c ha, hj, hrdF_c h0 h1 ha hj]
  exact h
theorem WrC.c {μ σ σ' : Mu} {w : Int} (h : WrC μ w σ) (h0 : ∀ k, 0 ≤ k → k ≤ 4 → σ' 0 k = σ 0 k) (ha : σ' 1 = σ 1) (hj : σ' 2 = σ 2) : WrC μ w σ' := by
  unfold WrC WirS at h ⊢
  rw [h0 0 (by decide) (by decide), h0 1 (by decide) (by decide), h0 2 (by decide) (by decide), h0 3 (by decide) (by decide), h0 4 (by decide) (by decide), sA_c ha, hj]
  exact h
theorem LtC.c {μ σ σ' : Mu} {x : Int} (h : LtC μ x σ) (h0 : σ' 0 0 = σ 0 0) (h1 : σ' 0 1 = σ 0 1) (ha : σ' 1 = σ 1) (hj : σ' 2 = σ 2) (h3 : σ' 3 = σ 3) (h4 : σ' 4 = σ 4) : LtC μ x σ' := by
  unfold LtC at h ⊢
  rw [litF_c h0 h1 ha hj h3 h4, rndF_c h0 h1 ha hj h3]
  exact h
theorem LtC.n {μ σ : Mu} {x : Int} (h1 : μ x 18 = 0) (h2 : μ x 19 = 0) : LtC μ x σ := ⟨fun w => absurd h1 w, fun w => absurd h2 w⟩
theorem KpC.c {μ σ σ' : Mu} {x : Int} (h : KpC μ x σ) (h0 : σ' 0 0 = σ 0 0) (h8 : σ' 0 8 = σ 0 8) (h9 : σ' 0 9 = σ 0 9) (a9 : σ' 9 = σ 9) (a10 : σ' 10 = σ 10) : KpC μ x σ' := by
  unfold KpC at h ⊢
  rw [h0, h8, h9, a9, a10]
  exact h
theorem SlC.c {μ σ σ' : Mu} {x : Int} (h : SlC μ x σ) (a7 : σ' 7 = σ 7) (a8 : σ' 8 = σ 8) : SlC μ x σ' := by
  unfold SlC at h ⊢
  rw [a7, a8]
  exact h
theorem RdC.c {μ σ σ' : Mu} {x : Int} (h : RdC μ x σ) (h6 : σ' 0 6 = σ 0 6) (h7 : σ' 0 7 = σ 0 7) (a6 : σ' 6 = σ 6) : RdC μ x σ' := by
  unfold RdC at h ⊢
  rw [h6, h7, a6]
  exact h
theorem PrC.z {μ σ : Mu} {a : Int} (h1 : 0 ≤ μ a 1 ∧ μ a 1 < 100) (h2 : μ a 2 = 0) (h5 : σ 0 5 = 0) : PrC μ a σ := ⟨h1, by rw [h2, h5], fun i z1 z2 => by omega⟩
theorem PrC.c {μ σ σ' : Mu} {a : Int} (h : PrC μ a σ) (h5 : σ' 0 5 = σ 0 5) (a5 : σ' 5 = σ 5) : PrC μ a σ' := by
  unfold PrC at h ⊢
  rw [h5, a5]
  exact h
/-- the state of lamps or the wish is another -/
theorem RepC.rw2 {μ m σ σ' : Mu} {x w : Int} (h : RepC μ x w σ) (hw : x + 4 ≤ w ∧ w ≤ x + 81) (hf : ∀ y j, x ≤ y → y < x + 485 → (y < x + 473 ∨ x + 476 < y) → (y = x → j < 18) → m y j = μ y j) (h3 : RwC m x σ') (hp : PrC m (x + 475) σ') (h18 : m x 18 = 0) (h19 : m x 19 = 0) (e0 : ∀ k, k ≠ 5 → σ' 0 k = σ 0 k) (ek : ∀ k, k ≠ 0 → k ≠ 3 → k ≠ 4 → k ≠ 5 → σ' k = σ k) : RepC m x w σ' := by
  obtain ⟨h1, h2, -, -, h5, h6, h7, -⟩ := h
  exact ⟨(h1.fr (fun y j z1 z2 => hf y j (by omega) (by omega) (by omega) (by omega))).c (e0 6 (by decide)) (e0 7 (by decide)) (ek 6 (by decide) (by decide) (by decide) (by decide)),
    (h2.fr (fun y j z1 z2 => hf y j (by omega) (by omega) (by omega) (by omega))).c (fun k z1 z2 => e0 k (by omega)) (ek 1 (by decide) (by decide) (by decide) (by decide)) (ek 2 (by decide) (by decide) (by decide) (by decide)),
    h3, hp, (h5.fr (fun y j z1 z2 => hf y j (by omega) (by omega) (by omega) (by omega))).c (ek 7 (by decide) (by decide) (by decide) (by decide)) (ek 8 (by decide) (by decide) (by decide) (by decide)),
    (h6.fr (hf _ _ (by omega) (by omega) (by omega) (by omega)) (hf _ _ (by omega) (by omega) (by omega) (by omega)) (fun y j z1 z2 => hf y j (by omega) (by omega) (by omega) (by omega))).c (e0 0 (by decide)) (e0 8 (by decide)) (e0 9 (by decide)) (ek 9 (by decide) (by decide) (by decide) (by decide)) (ek 10 (by decide) (by decide) (by decide) (by decide)),
    (h7.fr (fun y j z1 z2 => hf y j (by omega) (by omega) (by omega) (by omega))).c (e0 0 (by decide)) (e0 1 (by decide)) (ek 1 (by decide) (by decide) (by decide) (by decide)) (ek 2 (by decide) (by decide) (by decide) (by decide)), LtC.n h18 h19⟩
def tldM (μ : Mu) (x y : Int) : Mu := up (up (if y = 0 then up μ (x + 475) 2 0 else μ) x 18 0) x 19 0
theorem and32k {v : Int} (h : iR v) : o_and v 32767 = v % 32768 := by
  unfold o_and
  have hv := ofI_to h
  generalize Int32.ofInt v = x at *
  have h1 : (x.toBitVec &&& (Int32.ofInt 32767).toBitVec).toNat = x.toBitVec.toNat % 32768 := by
    rw [BitVec.toNat_and]
    exact Nat.and_two_pow_sub_one_eq_mod _ 15
  have e : (x &&& Int32.ofInt 32767).toInt = ((x.toBitVec.toNat % 32768 : Nat) : Int) := by
    rw [← Int32.toInt_toBitVec, Int32.toBitVec_and, BitVec.toInt_eq_toNat_of_lt (by rw [h1]; omega), h1]
  rw [e, ← hv, ← Int32.toInt_toBitVec, BitVec.toInt_eq_toNat_cond]
  split <;> omega
theorem drw_eq {s : Int} (h : iR s) : o_and (o_ushr s 16) 32767 = o_and (o_shr s 16) 32767 := by
  obtain ⟨h1, h2⟩ := id h
  rw [(shr_ok h).2.2.1, (ushr_ok h).2.2.1, and32k (by constructor <;> omega), and32k (by constructor <;> omega)]
  omega
theorem o_wrap_R (v : Int) : iR (o_wrap v) := by
  unfold o_wrap
  exact ⟨Int32.le_toInt _, Int32.toInt_lt _⟩
section CSet
variable {l : Launch} {G : Gx} {γ μ σ : Mu}
theorem c_row (hl : l.stackTraces = false) (d : Nat) {x w p y : Int} (hH : HallAt G γ x w p) : Cn l G yX8_row cX8_row 2 (some (.array .int)) d 0 [aR x, aI y] γ μ (fun r γ' μ' => r = some (aR (if y = 0 then x + 473 else x + 474)) ∧ γ' = γ ∧ μ' = μ) := by
  refine Cn.ofP hl (plainFor_of_name (by decide)) (noLc nlR (noL1 nlI)) rfl (fun P hP o1 o3 X hX hC => B_X8_row_0 hC hH.o ?_)
  rw [hH.g4, hH.g5]
  exact ⟨fun h => ⟨Nat.le_refl _, hP _ _ _ ⟨by rw [if_neg h], rfl, rfl⟩⟩, fun h => ⟨Nat.le_refl _, hP _ _ _ ⟨by rw [if_pos h], rfl, rfl⟩⟩⟩
theorem c_forgetWays (hl : l.stackTraces = false) (d : Nat) {x w p : Int} (hH : HallAt G γ x w p) : Cn l G yX8_forgetWays cX8_forgetWays 1 none d 0 [aR x] γ μ (PV γ (up (up μ x 18 0) x 19 0)) :=
  Cn.ofP hl (plainFor_of_name (by decide)) (noL1 nlR) rfl (fun P hP o1 o3 X hX hC => B_X8_forgetWays_0 hC hH.o ⟨Nat.le_refl _, hP _ _ _ ⟨rfl, rfl, rfl⟩⟩)
theorem c_told (hl : l.stackTraces = false) (d : Nat) (hd : 0 < d) {x w p y : Int} (hH : HallAt G γ x w p) : Cn l G yX8_told cX8_told 2 none d 0 [aR x, aI y] γ μ (PV γ (tldM μ x y)) := by
  refine Cn.ofP hl (plainFor_of_name (by decide)) (noLc nlR (noL1 nlI)) rfl (fun P hP o1 o3 X hX hC => B_X8_told_0 hC hH.o ?_)
  have fin : ∀ m : Mu, up (up m x 18 0) x 19 0 = tldM μ x y → V X G (Qm X G 0 P) 0 11 [aR x, aD] [] γ m := fun m e => by
    refine B_X8_told_11 hC hH.o ⟨0, 0, _, hd, Nat.le_refl _, hX ▸ c_forgetWays hl 0 hH, PV.use (B_X8_told_15 hC ⟨Nat.le_refl _, hP _ _ _ ⟨rfl, rfl, e⟩⟩)⟩
  rw [hH.g6]
  refine ⟨fun h => fin _ (by unfold tldM; rw [if_neg h]), fun h => ⟨hH.pr.1, 0, 0, _, hd, Nat.le_refl _, hX ▸ c_prClear hl 0 hH.pr, PV.use (fin _ (by unfold tldM; rw [if_pos h]))⟩⟩
theorem c_count (hl : l.stackTraces = false) (d : Nat) (hd : 6 ≤ d) {x w p y : Int} (hH : HallAt G γ x w p) (hR : RepC μ x w σ) (hW : Wf σ) : Cnx l G yX8_count cX8_count 2 (some .int) d 1 [aR x, aI y] γ μ (PCo μ γ x w σ (if 0 ≤ y ∧ y ≤ 7 then cntF σ y else 0) (if 0 ≤ y ∧ y ≤ 7 then 0 else 1)) (PCx NSEx μ γ x w σ (if 0 ≤ y ∧ y ≤ 7 then 0 else 1)) := by
  refine Cnx.ofP hl (by decide) (noLc nlR (noL1 nlI)) rfl (fun P Y hP hY X hX hC hx => B_X8_count_0 hC hx hH.o ?_)
  obtain ⟨⟨D1, D2, D3, D4, D5, D6⟩, D7, D8, D9⟩ := hR.2.1
  have fin : ∀ z, (0 ≤ y ∧ y ≤ 7) → z = cntF σ y → P (some (aI z)) γ μ := fun z h e => hP _ _ _ ⟨by rw [if_pos h], by rw [if_pos h, e], rfl, hR, frC_rf⟩
  rw [hH.g1, hH.g6, hH.g0, D1, D2, D7, D8, D9, hR.2.2.2.1.2.1, hR.1.1]
  refine ⟨fun h => ⟨Nat.le_refl _, Nat.le_refl _, hd, hY _ _ _ ⟨rfl, by rw [if_neg (by omega)]; decide, rfl, hR, frC_rf⟩⟩, fun h => ⟨hH.wr.o, Nat.zero_le _, fin _ (by omega) ?_⟩, fun h => ⟨hH.wr.o, Nat.zero_le _, fin _ (by omega) ?_⟩, fun h => ⟨hH.wr.o, Nat.zero_le _, fin _ (by omega) ?_⟩, fun h => ⟨hH.wr.o, Nat.zero_le _, fin _ (by omega) ?_⟩, fun h => ⟨hH.wr.o, Nat.zero_le _, fin _ (by omega) ?_⟩, fun h => ⟨hH.pr.1, Nat.zero_le _, fin _ (by omega) ?_⟩, fun h => ⟨hH.rd.o, Nat.zero_le _, fin _ (by omega) ?_⟩, fun h => ⟨hH.wr.o, 0, 0, _, by omega, by omega, hX ▸ c_jammedCount hl 0 hH.wr (by rw [D1]; exact hW.1), PI.use ?_⟩⟩
  · rw [h]; rfl
  · rw [h]; rfl
  · rw [h]; rfl
  · rw [h]; rfl
  · rw [h]; rfl
  · rw [h]; rfl
  · rw [h]; rfl
  · refine B_X8_count_111 hC hx ⟨Nat.zero_le _, fin _ (by omega) ?_⟩
    unfold cntF
    rw [if_pos h, D1]
    exact cntL_cong _ (fun j z1 z2 => by rw [D6 j z1 (by omega)])
theorem RwC.set {σ : Mu} {x i c : Int} (h : RwC μ x σ) : RwC (up μ (x + 473) i c) x (up σ 3 i c) := fun j z1 z2 => by
  have := h j z1 z2
  by_cases e : j = i
  · rw [e, up_same, up_same, up_ne (by omega), up_ne (by omega), ← e]; exact ⟨rfl, this.2⟩
  · rw [up_ne (by omega), up_ne (by omega), up_ne (by omega), up_ne (by omega)]; exact this
theorem RwC.setW {σ : Mu} {x i c : Int} (h : RwC μ x σ) : RwC (up μ (x + 474) i c) x (up σ 4 i c) := fun j z1 z2 => by
  have := h j z1 z2
  by_cases e : j = i
  · rw [e, up_same, up_same, up_ne (by omega), up_ne (by omega), ← e]; exact ⟨this.1, rfl⟩
  · rw [up_ne (by omega), up_ne (by omega), up_ne (by omega), up_ne (by omega)]; exact this
theorem tldM_ne {x y a j : Int} (h : (a = x → j < 18 ∨ 19 < j)) (h2 : a ≠ x + 475) : tldM μ x y a j = μ a j := by
  unfold tldM
  rw [up_ne (by omega), up_ne (by omega)]
  split
  · rw [up_ne (by omega)]
  · rfl
theorem tldM_18 {x y : Int} : tldM μ x y x 18 = 0 ∧ tldM μ x y x 19 = 0 := by
  unfold tldM
  exact ⟨by rw [up_ne (by omega), up_same], up_same⟩
theorem tldM_p {x y : Int} : tldM μ x y (x + 475) 1 = μ (x + 475) 1 ∧ tldM μ x y (x + 475) 2 = if y = 0 then 0 else μ (x + 475) 2 := by
  unfold tldM
  rw [up_ne (by omega), up_ne (by omega), up_ne (by omega), up_ne (by omega)]
  constructor
  · split
    · rw [up_ne (by omega)]
    · rfl
  · split
    · rw [up_same]
    · rfl
/-- a row was told: what stands behind it -/
theorem RepC.tld {m σ' : Mu} {x w y : Int} (h : RepC μ x w σ) (hw : x + 4 ≤ w ∧ w ≤ x + 81) (hy : isSW y) (hf : ∀ a j, x ≤ a → a < x + 485 → a ≠ x + 473 + y → m a j = μ a j) (h3 : RwC m x σ') (e0 : ∀ k, k ≠ 5 → σ' 0 k = σ 0 k) (e5 : σ' 0 5 = if y = 0 then 0 else σ 0 5) (ek : ∀ k, k ≠ 0 → k ≠ 3 → k ≠ 4 → σ' k = σ k) : RepC (tldM m x y) x w σ' := by
  have hp := h.2.2.2.1
  have hpm : PrC m (x + 475) σ := hp.fr (fun a j z1 z2 => hf a j (by omega) (by omega) (by omega))
  refine h.rw2 hw (fun a j z1 z2 z3 z4 => by rw [tldM_ne (by omega) (by omega)]; exact hf a j z1 z2 (by omega)) (h3.fr (fun a j z1 z2 => tldM_ne (by omega) (by omega))) ?_ tldM_18.1 tldM_18.2 e0 (fun k z1 z2 z3 _ => ek k z1 z2 z3)
  by_cases e : y = 0
  · rw [if_pos e] at e5
    exact PrC.z (by rw [tldM_p.1]; exact hpm.1) (by rw [tldM_p.2, if_pos e]) e5
  · rw [if_neg e] at e5
    have hc := hpm.c e5 (ek 5 (by decide) (by decide) (by decide))
    refine ⟨by rw [tldM_p.1]; exact hc.1, by rw [tldM_p.2, if_neg e]; exact hc.2.1, fun i z1 z2 => ?_⟩
    rw [tldM_ne (by omega) (by omega), tldM_p.1]
    exact hc.2.2 i z1 z2
theorem frC.tld {m : Mu} {x y : Int} (h : frB μ m x (x + 518)) : frB μ (tldM m x y) x (x + 518) := fun a j z => by rw [tldM_ne (by omega) (by omega)]; exact h a j z
theorem frC.up {m : Mu} {x a i c : Int} (h : frB μ m x (x + 518)) (ha : x ≤ a ∧ a < x + 518) : frB μ (up m a i c) x (x + 518) := fun y j z => by rw [up_ne (by omega)]; exact h y j z
theorem frC.row {m : Mu} {x a n : Int} {f : Int → Int} (h : frB μ m x (x + 518)) (ha : x ≤ a ∧ a < x + 518) : frB μ (row m a n f) x (x + 518) := fun y j z => by rw [row_off (by omega)]; exact h y j z
theorem c_set (hl : l.stackTraces = false) (d : Nat) (hd : 6 < d) {x w p i y c : Int} (hH : HallAt G γ x w p) (hR : RepC μ x w σ) (hW : Wf σ) : Cnx l G yX8_set cX8_set 4 (some .boolean) d 2 [aR x, aI i, aI y, aI c] γ μ (PCo μ γ x w (if isL σ i ∧ isSW y then setF σ i y c else σ) (if isL σ i ∧ isSW y then (if 0 ≤ c ∧ c < σ 0 1 then 1 else 0) else 0) (if isL σ i ∧ isSW y then 0 else 1)) (PCx NSEx μ γ x w (if isL σ i ∧ isSW y then setF σ i y c else σ) (if isL σ i ∧ isSW y then 0 else 1)) := by
  refine Cnx.ofP hl (by decide) (noLc nlR (noLc nlI (noLc nlI (noL1 nlI)))) rfl (fun P Y hP hY X hX hC hx => B_X8_set_0 hC hx hH.o ?_)
  have hn := hW.1
  have hwb := hH.wb
  have bad : ¬ (isL σ i ∧ isSW y) → Y NSEx γ μ := fun h => hY _ _ _ ⟨rfl, by rw [if_neg h]; decide, rfl, by rw [if_neg h]; exact hR, frC_rf⟩
  refine ⟨6, 1, _, _, hd, by omega, Nat.le_refl _, hX ▸ c_requireLamp hl 6 (Nat.le_refl _) hH hR, ?_, ?_⟩
  rotate_left
  · rintro E γ m ⟨h, rfl, rfl, rfl⟩
    exact bad (fun z => h z.1)
  rintro r γ m ⟨h1, rfl, rfl, rfl⟩
  refine B_X8_set_5 hC hx hH.o ⟨6, 1, _, _, hd, Nat.le_refl _, Nat.le_refl _, hX ▸ c_requireSW hl 6 (Nat.le_refl _), ?_, ?_⟩
  rotate_left
  · rintro E γ m ⟨h, rfl, rfl, rfl⟩
    exact bad (fun z => h z.2)
  rintro r γ m ⟨h2, rfl, rfl, rfl⟩
  have hc : isL σ i ∧ isSW y := ⟨h1, h2⟩
  rw [if_pos hc, if_pos hc, if_pos hc] at hP
  refine B_X8_set_9 hC hx hH.o ?_
  rw [hH.g1, hR.2.1.1.2.1]
  have no : ¬ (0 ≤ c ∧ c < σ 0 1) → P (some (aI 0)) γ m := fun h => hP _ _ _ ⟨rfl, by rw [if_neg h], rfl, by unfold setF; rw [if_neg h]; exact hR, frC_rf⟩
  refine ⟨fun h => ⟨Nat.le_refl _, no (by omega)⟩, fun h => ⟨hH.wr.o, fun h3 => ⟨0, 0, _, by omega, by omega, hX ▸ c_row hl 0 hH, ?_⟩, fun h3 => ⟨Nat.le_refl _, no (by omega)⟩⟩⟩
  rintro r γ m ⟨rfl, rfl, rfl⟩
  have hcc : 0 ≤ c ∧ c < σ 0 1 := by omega
  refine B_X8_set_31 hC hx hH.o ?_
  have fin : ∀ m', m' = tldM (up m (if y = 0 then x + 473 else x + 474) i c) x y → P (some (aI 1)) γ m' := fun m' e => by
    subst e
    refine hP _ _ _ ⟨rfl, by rw [if_pos hcc], rfl, ?_, ?_⟩
    · unfold setF
      rw [if_pos hcc]
      by_cases e : y = 0
      · rw [if_pos e, if_pos e]
        refine hR.tld hwb h2 (fun a j z1 z2 z3 => up_ne (by omega)) ?_ (fun k hk => by rw [up_ne (by omega), up_ne (by omega)]) (by rw [if_pos e, up_same]) (fun k z1 z2 z3 => by rw [up_off (by omega), up_off (by omega)])
        exact fun j z1 z2 => by rw [up_ne (a := 0) (by omega), up_ne (a := 0) (by omega)]; exact hR.2.2.1.set j z1 z2
      · rw [if_neg e, if_neg e]
        refine hR.tld hwb h2 (fun a j z1 z2 z3 => up_ne (by omega)) hR.2.2.1.setW (fun k hk => up_ne (by omega)) (by rw [if_neg e, up_ne (by omega)]) (fun k z1 z2 z3 => up_off (by omega))
    · split <;> exact frC.tld (frC.up frC_rf (by omega))
  refine ⟨by split <;> first | exact ixO hH.s473 (by omega) | exact ixO hH.s474 (by omega), 1, 0, _, by omega, by omega, hX ▸ c_told hl 1 (by omega) hH, PV.use (B_X8_set_39 hC hx ⟨Nat.le_refl _, fin _ rfl⟩)⟩
end CSet
