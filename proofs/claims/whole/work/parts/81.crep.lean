/-! the class: how LampHall lies in memory, and how it holds the state of a hall -/
def SrchAt (G : Gx) (γ : Mu) (s : Int) : Prop := shO G s 4 9 ∧ γ s 0 = s + 1 ∧ shO G (s + 1) 11 14 ∧ γ s 1 = s + 2 ∧ shO G (s + 2) 14 14 ∧ γ s 2 = s + 17 ∧ shO G (s + 17) 11 180 ∧ γ s 3 = s + 18 ∧ shO G (s + 18) 11 36 ∧ γ s 4 = s + 19 ∧ shO G (s + 19) 11 36 ∧ ∀ i, 0 ≤ i → i < 14 → γ (s + 2) i = s + 3 + i ∧ shO G (s + 3 + i) 11 36
def WalkAt (G : Gx) (γ : Mu) (u : Int) : Prop := shO G u 6 16 ∧ γ u 0 = u + 1 ∧ shO G (u + 1) 11 20000 ∧ γ u 1 = u + 2 ∧ shO G (u + 2) 11 20000 ∧ γ u 2 = u + 3 ∧ shO G (u + 3) 11 7200 ∧ γ u 3 = u + 4 ∧ shO G (u + 4) 11 36 ∧ γ u 11 = u + 5 ∧ shO G (u + 5) 11 64
def CycAt (G : Gx) (γ : Mu) (c : Int) : Prop := shO G c 1 6 ∧ γ c 0 = c + 1 ∧ shO G (c + 1) 12 301 ∧ γ c 1 = c + 2 ∧ shO G (c + 2) 12 301 ∧ γ c 2 = c + 3 ∧ shO G (c + 3) 11 36 ∧ γ c 3 = c + 4 ∧ shO G (c + 4) 11 36
def HallAt (G : Gx) (γ : Mu) (x w p : Int) : Prop := shO G x 8 20 ∧ γ x 0 = x + 1 ∧ ReadAt G γ (x + 1) ∧ γ x 1 = w ∧ γ x 2 = p ∧ ((w = x + 4 ∧ p = x + 81) ∨ (w = x + 81 ∧ p = x + 4)) ∧ WirAt G γ (x + 4) ∧ WirAt G γ (x + 81) ∧ γ x 3 = x + 158 ∧ AlgAt G γ (x + 158) ∧ γ x 4 = x + 473 ∧ shO G (x + 473) 11 36 ∧ γ x 5 = x + 474 ∧ shO G (x + 474) 11 36 ∧ γ x 6 = x + 475 ∧ PressAt G γ (x + 475) ∧ γ x 7 = x + 477 ∧ shO G (x + 477) 14 4 ∧ (∀ s, 0 ≤ s → s < 4 → γ (x + 477) s = x + 478 + s ∧ shO G (x + 478 + s) 11 36) ∧ γ x 8 = x + 482 ∧ shO G (x + 482) 13 4 ∧ γ x 9 = x + 483 ∧ shO G (x + 483) 11 36 ∧ γ x 11 = x + 484 ∧ shO G (x + 484) 11 36 ∧ γ x 13 = x + 485 ∧ SrchAt G γ (x + 485) ∧ γ x 14 = x + 505 ∧ WalkAt G γ (x + 505) ∧ γ x 15 = x + 511 ∧ CycAt G γ (x + 511) ∧ γ x 16 = x + 516 ∧ shO G (x + 516) 11 36 ∧ γ x 17 = x + 517 ∧ shO G (x + 517) 11 36
section HallAcc
variable {G : Gx} {γ : Mu} {x w p : Int}
theorem HallAt.o (h : HallAt G γ x w p) : shO G x 8 20 := h.1
theorem HallAt.g0 (h : HallAt G γ x w p) : γ x 0 = x + 1 := h.2.1
theorem HallAt.rd (h : HallAt G γ x w p) : ReadAt G γ (x + 1) := h.2.2.1
theorem HallAt.g1 (h : HallAt G γ x w p) : γ x 1 = w := h.2.2.2.1
theorem HallAt.g2 (h : HallAt G γ x w p) : γ x 2 = p := h.2.2.2.2.1
theorem HallAt.wp (h : HallAt G γ x w p) : (w = x + 4 ∧ p = x + 81) ∨ (w = x + 81 ∧ p = x + 4) := h.2.2.2.2.2.1
theorem HallAt.wr (h : HallAt G γ x w p) : WirAt G γ w := by rcases h.wp with ⟨rfl, -⟩ | ⟨rfl, -⟩; exact h.2.2.2.2.2.2.1; exact h.2.2.2.2.2.2.2.1
theorem HallAt.sp (h : HallAt G γ x w p) : WirAt G γ p := by rcases h.wp with ⟨-, rfl⟩ | ⟨-, rfl⟩; exact h.2.2.2.2.2.2.2.1; exact h.2.2.2.2.2.2.1
theorem HallAt.g3 (h : HallAt G γ x w p) : γ x 3 = x + 158 := h.2.2.2.2.2.2.2.2.1
theorem HallAt.al (h : HallAt G γ x w p) : AlgAt G γ (x + 158) := h.2.2.2.2.2.2.2.2.2.1
theorem HallAt.g4 (h : HallAt G γ x w p) : γ x 4 = x + 473 := h.2.2.2.2.2.2.2.2.2.2.1
theorem HallAt.s473 (h : HallAt G γ x w p) : shO G (x + 473) 11 36 := h.2.2.2.2.2.2.2.2.2.2.2.1
theorem HallAt.g5 (h : HallAt G γ x w p) : γ x 5 = x + 474 := h.2.2.2.2.2.2.2.2.2.2.2.2.1
theorem HallAt.s474 (h : HallAt G γ x w p) : shO G (x + 474) 11 36 := h.2.2.2.2.2.2.2.2.2.2.2.2.2.1
theorem HallAt.g6 (h : HallAt G γ x w p) : γ x 6 = x + 475 := h.2.2.2.2.2.2.2.2.2.2.2.2.2.2.1
theorem HallAt.pr (h : HallAt G γ x w p) : PressAt G γ (x + 475) := h.2.2.2.2.2.2.2.2.2.2.2.2.2.2.2.1
theorem HallAt.g7 (h : HallAt G γ x w p) : γ x 7 = x + 477 := h.2.2.2.2.2.2.2.2.2.2.2.2.2.2.2.2.1
theorem HallAt.s477 (h : HallAt G γ x w p) : shO G (x + 477) 14 4 := h.2.2.2.2.2.2.2.2.2.2.2.2.2.2.2.2.2.1
theorem HallAt.sl (h : HallAt G γ x w p) : ∀ s, 0 ≤ s → s < 4 → γ (x + 477) s = x + 478 + s ∧ shO G (x + 478 + s) 11 36 := h.2.2.2.2.2.2.2.2.2.2.2.2.2.2.2.2.2.2.1
theorem HallAt.g8 (h : HallAt G γ x w p) : γ x 8 = x + 482 := h.2.2.2.2.2.2.2.2.2.2.2.2.2.2.2.2.2.2.2.1
theorem HallAt.s482 (h : HallAt G γ x w p) : shO G (x + 482) 13 4 := h.2.2.2.2.2.2.2.2.2.2.2.2.2.2.2.2.2.2.2.2.1
theorem HallAt.g9 (h : HallAt G γ x w p) : γ x 9 = x + 483 := h.2.2.2.2.2.2.2.2.2.2.2.2.2.2.2.2.2.2.2.2.2.1
theorem HallAt.s483 (h : HallAt G γ x w p) : shO G (x + 483) 11 36 := h.2.2.2.2.2.2.2.2.2.2.2.2.2.2.2.2.2.2.2.2.2.2.1
theorem HallAt.g11 (h : HallAt G γ x w p) : γ x 11 = x + 484 := h.2.2.2.2.2.2.2.2.2.2.2.2.2.2.2.2.2.2.2.2.2.2.2.1
theorem HallAt.s484 (h : HallAt G γ x w p) : shO G (x + 484) 11 36 := h.2.2.2.2.2.2.2.2.2.2.2.2.2.2.2.2.2.2.2.2.2.2.2.2.1
theorem HallAt.g13 (h : HallAt G γ x w p) : γ x 13 = x + 485 := h.2.2.2.2.2.2.2.2.2.2.2.2.2.2.2.2.2.2.2.2.2.2.2.2.2.1
theorem HallAt.se (h : HallAt G γ x w p) : SrchAt G γ (x + 485) := h.2.2.2.2.2.2.2.2.2.2.2.2.2.2.2.2.2.2.2.2.2.2.2.2.2.2.1
theorem HallAt.g14 (h : HallAt G γ x w p) : γ x 14 = x + 505 := h.2.2.2.2.2.2.2.2.2.2.2.2.2.2.2.2.2.2.2.2.2.2.2.2.2.2.2.1
theorem HallAt.wk (h : HallAt G γ x w p) : WalkAt G γ (x + 505) := h.2.2.2.2.2.2.2.2.2.2.2.2.2.2.2.2.2.2.2.2.2.2.2.2.2.2.2.2.1
theorem HallAt.g15 (h : HallAt G γ x w p) : γ x 15 = x + 511 := h.2.2.2.2.2.2.2.2.2.2.2.2.2.2.2.2.2.2.2.2.2.2.2.2.2.2.2.2.2.1
theorem HallAt.cy (h : HallAt G γ x w p) : CycAt G γ (x + 511) := h.2.2.2.2.2.2.2.2.2.2.2.2.2.2.2.2.2.2.2.2.2.2.2.2.2.2.2.2.2.2.1
theorem HallAt.g16 (h : HallAt G γ x w p) : γ x 16 = x + 516 := h.2.2.2.2.2.2.2.2.2.2.2.2.2.2.2.2.2.2.2.2.2.2.2.2.2.2.2.2.2.2.2.1
theorem HallAt.s516 (h : HallAt G γ x w p) : shO G (x + 516) 11 36 := h.2.2.2.2.2.2.2.2.2.2.2.2.2.2.2.2.2.2.2.2.2.2.2.2.2.2.2.2.2.2.2.2.1
theorem HallAt.g17 (h : HallAt G γ x w p) : γ x 17 = x + 517 := h.2.2.2.2.2.2.2.2.2.2.2.2.2.2.2.2.2.2.2.2.2.2.2.2.2.2.2.2.2.2.2.2.2.1
theorem HallAt.s517 (h : HallAt G γ x w p) : shO G (x + 517) 11 36 := h.2.2.2.2.2.2.2.2.2.2.2.2.2.2.2.2.2.2.2.2.2.2.2.2.2.2.2.2.2.2.2.2.2.2
theorem HallAt.wb (h : HallAt G γ x w p) : x + 4 ≤ w ∧ w ≤ x + 81 := by rcases h.wp with ⟨rfl, -⟩ | ⟨rfl, -⟩ <;> omega
theorem HallAt.pb (h : HallAt G γ x w p) : x + 4 ≤ p ∧ p ≤ x + 81 ∧ (p + 77 ≤ w ∨ w + 77 ≤ p) := by rcases h.wp with ⟨rfl, rfl⟩ | ⟨rfl, rfl⟩ <;> omega
end HallAcc
abbrev SdF (σ : Mu) : GS := gRunD (σ 0 1) (σ 0 0) (σ 2) (sA σ) (σ 0 0).toNat
def RdC (μ : Mu) (x : Int) (σ : Mu) : Prop := μ (x + 1) 2 = σ 0 6 ∧ μ (x + 1) 3 = σ 0 7 ∧ ∀ j, 0 ≤ j → j < σ 0 6 → μ (x + 2) j = sg8 (σ 6 j)
def WrC (μ : Mu) (w : Int) (σ : Mu) : Prop := WirS μ w σ ∧ μ w 2 = σ 0 2 ∧ μ w 3 = σ 0 3 ∧ μ w 4 = σ 0 4
def RwC (μ : Mu) (x : Int) (σ : Mu) : Prop := ∀ j, 0 ≤ j → j < 36 → μ (x + 473) j = σ 3 j ∧ μ (x + 474) j = σ 4 j
def PrC (μ : Mu) (a : Int) (σ : Mu) : Prop := (0 ≤ μ a 1 ∧ μ a 1 < 100) ∧ μ a 2 = σ 0 5 ∧ ∀ i, 0 ≤ i → i < σ 0 5 → μ (a + 1) ((μ a 1 + 100 - σ 0 5 + i) % 100) = σ 5 i
def SlC (μ : Mu) (x : Int) (σ : Mu) : Prop := ∀ s, 0 ≤ s → s < 4 → μ (x + 482) s = σ 7 s ∧ (σ 7 s ≠ 0 → ∀ j, 0 ≤ j → j < 36 → μ (x + 478 + s) j = σ 8 (36 * s + j))
def KpC (μ : Mu) (x : Int) (σ : Mu) : Prop := (μ x 10 = 0 ↔ σ 0 8 = 0) ∧ (σ 0 8 ≠ 0 → ∀ j, 0 ≤ j → j < σ 0 0 → μ (x + 483) j = σ 9 j) ∧ (μ x 12 = 0 ↔ σ 0 9 = 0) ∧ (σ 0 9 ≠ 0 → ∀ j, 0 ≤ j → j < σ 0 0 → μ (x + 484) j = σ 10 j)
def AlC (μ : Mu) (g : Int) (σ : Mu) : Prop := (μ g 4 ≠ 0 → SpS μ (g + 1) (σ 0 0) (σ 0 1) (SbF σ)) ∧ (μ g 5 ≠ 0 → SpS μ (g + 79) (σ 0 0) (σ 0 1) (SlF σ)) ∧ (μ g 6 ≠ 0 → SpS μ (g + 157) (σ 0 0) (σ 0 1) (SdF σ)) ∧ (μ g 7 ≠ 0 → μ g 9 = hrdF σ (-1) ∧ ∀ k, 0 ≤ k → k < 64 → μ (g + 313) k = hrdF σ k)
def LtC (μ : Mu) (x : Int) (σ : Mu) : Prop := (μ x 18 ≠ 0 → μ (x + 505) 14 = litF σ 0 ∧ μ (x + 505) 15 = litF σ 1 ∧ μ (x + 505) 13 = litF σ 2) ∧ (μ x 19 ≠ 0 → μ (x + 511) 4 = rndF σ 0 ∧ μ (x + 511) 5 = rndF σ 1)
def RepC (μ : Mu) (x w : Int) (σ : Mu) : Prop := RdC μ x σ ∧ WrC μ w σ ∧ RwC μ x σ ∧ PrC μ (x + 475) σ ∧ SlC μ x σ ∧ KpC μ x σ ∧ AlC μ (x + 158) σ ∧ LtC μ x σ
section RepCF
variable {μ m σ : Mu} {x w : Int}
theorem RdC.fr (h : RdC μ x σ) (hf : ∀ y j, x + 1 ≤ y → y ≤ x + 2 → m y j = μ y j) : RdC m x σ := ⟨by rw [hf _ _ (by omega) (by omega)]; exact h.1, by rw [hf _ _ (by omega) (by omega)]; exact h.2.1, fun j z1 z2 => by rw [hf _ _ (by omega) (by omega)]; exact h.2.2 j z1 z2⟩
theorem WrC.fr (h : WrC μ w σ) (hf : ∀ y j, w ≤ y → y ≤ w + 38 → m y j = μ y j) : WrC m w σ := ⟨h.1.fr2 hf, by rw [hf _ _ (by omega) (by omega)]; exact h.2.1, by rw [hf _ _ (by omega) (by omega)]; exact h.2.2.1, by rw [hf _ _ (by omega) (by omega)]; exact h.2.2.2⟩
theorem RwC.fr (h : RwC μ x σ) (hf : ∀ y j, x + 473 ≤ y → y ≤ x + 474 → m y j = μ y j) : RwC m x σ := fun j z1 z2 => by rw [hf _ _ (by omega) (by omega), hf _ _ (by omega) (by omega)]; exact h j z1 z2
theorem PrC.fr {a : Int} (h : PrC μ a σ) (hf : ∀ y j, a ≤ y → y ≤ a + 1 → m y j = μ y j) : PrC m a σ := ⟨by rw [hf _ _ (by omega) (by omega)]; exact h.1, by rw [hf _ _ (by omega) (by omega)]; exact h.2.1, fun i z1 z2 => by rw [hf _ _ (by omega) (by omega), hf _ _ (by omega) (by omega)]; exact h.2.2 i z1 z2⟩
theorem SlC.fr (h : SlC μ x σ) (hf : ∀ y j, x + 478 ≤ y → y ≤ x + 482 → m y j = μ y j) : SlC m x σ := fun s z1 z2 => ⟨by rw [hf _ _ (by omega) (by omega)]; exact (h s z1 z2).1, fun w j z3 z4 => by rw [hf _ _ (by omega) (by omega)]; exact (h s z1 z2).2 w j z3 z4⟩
theorem KpC.fr (h : KpC μ x σ) (h1 : m x 10 = μ x 10) (h2 : m x 12 = μ x 12) (hf : ∀ y j, x + 483 ≤ y → y ≤ x + 484 → m y j = μ y j) : KpC m x σ := ⟨by rw [h1]; exact h.1, fun w j z1 z2 => by rw [hf _ _ (by omega) (by omega)]; exact h.2.1 w j z1 z2, by rw [h2]; exact h.2.2.1, fun w j z1 z2 => by rw [hf _ _ (by omega) (by omega)]; exact h.2.2.2 w j z1 z2⟩
theorem AlC.fr {g : Int} (h : AlC μ g σ) (hf : ∀ y j, g ≤ y → y ≤ g + 313 → m y j = μ y j) : AlC m g σ := ⟨fun w => by rw [hf _ _ (by omega) (by omega)] at w; exact (h.1 w).fr (fun y j z1 z2 => hf y j (by omega) (by omega)), fun w => by rw [hf _ _ (by omega) (by omega)] at w; exact (h.2.1 w).fr (fun y j z1 z2 => hf y j (by omega) (by omega)), fun w => by rw [hf _ _ (by omega) (by omega)] at w; exact (h.2.2.1 w).fr (fun y j z1 z2 => hf y j (by omega) (by omega)), fun w => by rw [hf _ _ (by omega) (by omega)] at w ⊢; exact ⟨(h.2.2.2 w).1, fun k z1 z2 => by rw [hf _ _ (by omega) (by omega)]; exact (h.2.2.2 w).2 k z1 z2⟩⟩
theorem LtC.fr (h : LtC μ x σ) (h1 : m x 18 = μ x 18) (h2 : m x 19 = μ x 19) (h3 : ∀ j, m (x + 505) j = μ (x + 505) j) (h4 : ∀ j, m (x + 511) j = μ (x + 511) j) : LtC m x σ := ⟨fun w => by rw [h1] at w; rw [h3, h3, h3]; exact h.1 w, fun w => by rw [h2] at w; rw [h4, h4]; exact h.2 w⟩
theorem RepC.fr (h : RepC μ x w σ) (hw : x + 4 ≤ w ∧ w ≤ x + 81) (hf : ∀ y j, x ≤ y → y < x + 518 → m y j = μ y j) : RepC m x w σ := by
  obtain ⟨h1, h2, h3, h4, h5, h6, h7, h8⟩ := h
  exact ⟨h1.fr (fun y j z1 z2 => hf y j (by omega) (by omega)), h2.fr (fun y j z1 z2 => hf y j (by omega) (by omega)), h3.fr (fun y j z1 z2 => hf y j (by omega) (by omega)), h4.fr (fun y j z1 z2 => hf y j (by omega) (by omega)), h5.fr (fun y j z1 z2 => hf y j (by omega) (by omega)), h6.fr (hf _ _ (by omega) (by omega)) (hf _ _ (by omega) (by omega)) (fun y j z1 z2 => hf y j (by omega) (by omega)), h7.fr (fun y j z1 z2 => hf y j (by omega) (by omega)), h8.fr (hf _ _ (by omega) (by omega)) (hf _ _ (by omega) (by omega)) (fun j => hf _ _ (by omega) (by omega)) (fun j => hf _ _ (by omega) (by omega))⟩
end RepCF
/-- what a method of the class leaves: its answer (t 0), or what it throws (t not 0); the state -/
abbrev PCo (μ γ : Mu) (x w : Int) (σ' : Mu) (z t : Int) : Option AV → Mu → Mu → Prop := fun r γ' μ' => t = 0 ∧ r = some (aI z) ∧ γ' = γ ∧ RepC μ' x w σ' ∧ frB μ μ' x (x + 518)
abbrev PCx (E : String) (μ γ : Mu) (x w : Int) (σ' : Mu) (t : Int) : String → Mu → Mu → Prop := fun e γ' μ' => e = E ∧ t ≠ 0 ∧ γ' = γ ∧ RepC μ' x w σ' ∧ frB μ μ' x (x + 518)
abbrev PC (μ γ : Mu) (x w : Int) (σ' : Mu) (z : Int) : Option AV → Mu → Mu → Prop := fun r γ' μ' => r = some (aI z) ∧ γ' = γ ∧ RepC μ' x w σ' ∧ frB μ μ' x (x + 518)
abbrev NSEx : String := "java/util/NoSuchElementException"
theorem frC_rf {μ : Mu} {lo hi : Int} : frB μ μ lo hi := fun _ _ _ => rfl
section CSmall
variable {l : Launch} {G : Gx} {γ μ σ : Mu}
theorem c_requireLamp (hl : l.stackTraces = false) (d : Nat) (hd : 6 ≤ d) {x w p i : Int} (hH : HallAt G γ x w p) (hR : RepC μ x w σ) : Cnx l G yX8_requireLamp cX8_requireLamp 2 none d 1 [aR x, aI i] γ μ (fun r γ' μ' => isL σ i ∧ r = none ∧ γ' = γ ∧ μ' = μ) (fun e γ' μ' => ¬ isL σ i ∧ e = NSEx ∧ γ' = γ ∧ μ' = μ) := by
  refine Cnx.ofP hl (by decide) (noLc nlR (noL1 nlI)) rfl (fun P Y hP hY X hX hC hx => ?_)
  have en : μ w 0 = σ 0 0 := hR.2.1.1.1
  refine B_X8_requireLamp_0 hC hx hH.o ?_
  rw [hH.g1, en]
  refine ⟨fun h => ⟨Nat.le_refl _, Nat.le_refl _, hd, hY _ _ _ ⟨by omega, rfl, rfl, rfl⟩⟩, fun h => ⟨hH.wr.o, fun h2 => ⟨Nat.zero_le _, hP _ _ _ ⟨by omega, rfl, rfl, rfl⟩⟩, fun h2 => ⟨Nat.le_refl _, Nat.le_refl _, hd, hY _ _ _ ⟨by omega, rfl, rfl, rfl⟩⟩⟩⟩
theorem c_requireSW (hl : l.stackTraces = false) (d : Nat) (hd : 6 ≤ d) {i : Int} : Cnx l G yX8_requireStateOrWish cX8_requireStateOrWish 1 none d 1 [aI i] γ μ (fun r γ' μ' => isSW i ∧ r = none ∧ γ' = γ ∧ μ' = μ) (fun e γ' μ' => ¬ isSW i ∧ e = NSEx ∧ γ' = γ ∧ μ' = μ) := by
  refine Cnx.ofP hl (by decide) (noL1 nlI) rfl (fun P Y hP hY X hX hC hx => ?_)
  refine B_X8_requireStateOrWish_0 hC hx ?_
  refine ⟨fun h => ⟨Nat.zero_le _, hP _ _ _ ⟨by omega, rfl, rfl, rfl⟩⟩, fun h => ⟨fun h2 => ⟨Nat.zero_le _, hP _ _ _ ⟨by omega, rfl, rfl, rfl⟩⟩, fun h2 => ⟨Nat.le_refl _, Nat.le_refl _, hd, hY _ _ _ ⟨by omega, rfl, rfl, rfl⟩⟩⟩⟩
theorem c_requireTied (hl : l.stackTraces = false) (d : Nat) (hd : 6 ≤ d) {a i : Int} {k : Nat} (ha : shO G a 5 9) (e6 : μ a 6 = k) : Cnx l G yX8_requireTied cX8_requireTied 2 none d 1 [aR a, aI i] γ μ (fun r γ' μ' => (0 ≤ i ∧ i < k) ∧ r = none ∧ γ' = γ ∧ μ' = μ) (fun e γ' μ' => ¬ (0 ≤ i ∧ i < k) ∧ e = NSEx ∧ γ' = γ ∧ μ' = μ) := by
  refine Cnx.ofP hl (by decide) (noLc nlR (noL1 nlI)) rfl (fun P Y hP hY X hX hC hx => ?_)
  refine B_X8_requireTied_0 hC hx ?_
  rw [e6]
  refine ⟨fun h => ⟨Nat.le_refl _, Nat.le_refl _, hd, hY _ _ _ ⟨by omega, rfl, rfl, rfl⟩⟩, fun h => ⟨ha, fun h2 => ⟨Nat.zero_le _, hP _ _ _ ⟨by omega, rfl, rfl, rfl⟩⟩, fun h2 => ⟨Nat.le_refl _, Nat.le_refl _, hd, hY _ _ _ ⟨by omega, rfl, rfl, rfl⟩⟩⟩⟩
theorem c_fault (hl : l.stackTraces = false) (d : Nat) {x w p : Int} (hH : HallAt G γ x w p) (hR : RepC μ x w σ) : Cn l G yX8_fault cX8_fault 1 (some .int) d 0 [aR x] γ μ (PC μ γ x w σ (σ 0 7)) := by
  refine Cn.ofP hl (plainFor_of_name (by decide)) (noL1 nlR) rfl (fun P hP o1 o3 X hX hC => B_X8_fault_0 hC hH.o ?_)
  rw [hH.g0]
  exact ⟨hH.rd.o, Nat.le_refl _, hP _ _ _ ⟨by rw [hR.1.2.1], rfl, hR, frC_rf⟩⟩
theorem c_amount (hl : l.stackTraces = false) (d : Nat) (hd : 6 < d) {x w p y z : Int} (hH : HallAt G γ x w p) (hR : RepC μ x w σ) (hW : Wf σ) : Cnx l G yX8_amount cX8_amount 3 (some .int) d 2 [aR x, aI y, aI z] γ μ (PCo μ γ x w σ (if isL σ y ∧ isL σ z then sA σ y z else 0) (if isL σ y ∧ isL σ z then 0 else 1)) (PCx NSEx μ γ x w σ (if isL σ y ∧ isL σ z then 0 else 1)) := by
  refine Cnx.ofP hl (by decide) (noLc nlR (noLc nlI (noL1 nlI))) rfl (fun P Y hP hY X hX hC hx => B_X8_amount_0 hC hx hH.o ?_)
  refine ⟨6, 1, _, _, hd, by omega, Nat.le_refl _, hX ▸ c_requireLamp hl 6 (Nat.le_refl _) hH hR, ?_, ?_⟩
  rotate_left
  · rintro E γ m ⟨h, rfl, rfl, rfl⟩
    exact hY _ _ _ ⟨rfl, by rw [if_neg (fun z => h z.1)]; decide, rfl, hR, frC_rf⟩
  rintro r γ m ⟨h1, rfl, rfl, rfl⟩
  refine B_X8_amount_5 hC hx hH.o ⟨6, 1, _, _, hd, Nat.le_refl _, Nat.le_refl _, hX ▸ c_requireLamp hl 6 (Nat.le_refl _) hH hR, ?_, ?_⟩
  rotate_left
  · rintro E γ m ⟨h, rfl, rfl, rfl⟩
    exact hY _ _ _ ⟨rfl, by rw [if_neg (fun z => h z.2)]; decide, rfl, hR, frC_rf⟩
  rintro r γ m ⟨h2, rfl, rfl, rfl⟩
  refine B_X8_amount_10 hC hx hH.o ?_
  obtain ⟨D1, D2, D3, D4, D5, D6⟩ := hR.2.1.1
  rw [hH.g1, hH.wr.g5, hH.wr.gA (by omega)]
  refine ⟨hH.wr.o, ixO hH.wr.s1 (by omega), ixO (hH.wr.sA (by omega)) (by omega), Nat.le_refl _, hP _ _ _ ⟨by rw [if_pos ⟨h1, h2⟩], by rw [if_pos ⟨h1, h2⟩, (D5 y h1.1 h1.2).1 z h2.1 h2.2], rfl, hR, frC_rf⟩⟩
theorem c_colour (hl : l.stackTraces = false) (d : Nat) (hd : 6 < d) {x w p y z : Int} (hH : HallAt G γ x w p) (hR : RepC μ x w σ) (hW : Wf σ) : Cnx l G yX8_colour cX8_colour 3 (some .int) d 2 [aR x, aI y, aI z] γ μ (PCo μ γ x w σ (if isL σ y ∧ isSW z then (if z = 0 then σ 3 y else σ 4 y) else 0) (if isL σ y ∧ isSW z then 0 else 1)) (PCx NSEx μ γ x w σ (if isL σ y ∧ isSW z then 0 else 1)) := by
  refine Cnx.ofP hl (by decide) (noLc nlR (noLc nlI (noL1 nlI))) rfl (fun P Y hP hY X hX hC hx => B_X8_colour_0 hC hx hH.o ?_)
  have hn := hW.1
  refine ⟨6, 1, _, _, hd, by omega, Nat.le_refl _, hX ▸ c_requireLamp hl 6 (Nat.le_refl _) hH hR, ?_, ?_⟩
  rotate_left
  · rintro E γ m ⟨h, rfl, rfl, rfl⟩
    exact hY _ _ _ ⟨rfl, by rw [if_neg (fun z => h z.1)]; decide, rfl, hR, frC_rf⟩
  rintro r γ m ⟨h1, rfl, rfl, rfl⟩
  refine B_X8_colour_5 hC hx hH.o ⟨6, 1, _, _, hd, Nat.le_refl _, Nat.le_refl _, hX ▸ c_requireSW hl 6 (Nat.le_refl _), ?_, ?_⟩
  rotate_left
  · rintro E γ m ⟨h, rfl, rfl, rfl⟩
    exact hY _ _ _ ⟨rfl, by rw [if_neg (fun z => h z.2)]; decide, rfl, hR, frC_rf⟩
  rintro r γ m ⟨h2, rfl, rfl, rfl⟩
  refine B_X8_colour_9 hC hx hH.o ?_
  rw [hH.g5, hH.g4, (hR.2.2.1 y h1.1 (by omega)).1, (hR.2.2.1 y h1.1 (by omega)).2]
  refine ⟨fun e => ⟨ixO hH.s474 (by omega), Nat.le_refl _, hP _ _ _ ⟨by rw [if_pos ⟨h1, h2⟩], by rw [if_pos ⟨h1, h2⟩, if_neg e], rfl, hR, frC_rf⟩⟩, fun e => ⟨ixO hH.s473 (by omega), Nat.le_refl _, hP _ _ _ ⟨by rw [if_pos ⟨h1, h2⟩], by rw [if_pos ⟨h1, h2⟩, if_pos e], rfl, hR, frC_rf⟩⟩⟩
end CSmall
