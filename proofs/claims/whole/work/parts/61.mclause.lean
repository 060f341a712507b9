/-! what clauses add up; the reference: pattern, clause -/
/-- amounts told one by one, sums of each shape, wires, how many, jams -/
abbrev AC : Type := (Int → Int → Int) × (Int → Int) × (Int → Int) × (Int → Int) × Int × (Int → Int)
abbrev AC.dir (a : AC) : Int → Int → Int := a.1
abbrev AC.shp (a : AC) : Int → Int := a.2.1
abbrev AC.wA (a : AC) : Int → Int := a.2.2.1
abbrev AC.wB (a : AC) : Int → Int := a.2.2.2.1
abbrev AC.wc (a : AC) : Int := a.2.2.2.2.1
abbrev AC.jm (a : AC) : Int → Int := a.2.2.2.2.2
def aShp (a : AC) (k v : Int) : AC := (a.dir, fup a.shp k (a.shp k + v), a.wA, a.wB, a.wc, a.jm)
def aWir (a : AC) (x y : Int) : AC := (a.dir, a.shp, fup a.wA a.wc x, fup a.wB a.wc y, a.wc + 1, a.jm)
def aDir (a : AC) (x y v : Int) : AC := (fun x' y' => a.dir x' y' + (if x' = x ∧ y' = y then v else 0), a.shp, a.wA, a.wB, a.wc, a.jm)
def aJam (a : AC) (x : Int) : AC := (a.dir, a.shp, a.wA, a.wB, a.wc, fup a.jm x 1)
def ac0 : AC := (fun _ _ => 0, fun _ => 0, fun _ => 0, fun _ => 0, 0, fun _ => 0)
/-- what the reference has added up of it -/
def amS (n w h ed : Int) (a : AC) (x y : Int) : Int := a.dir x y + a.shp 0 * shC n w h ed 0 x y + (if w = 0 then 0 else a.shp 1 * shC n w h ed 1 x y + a.shp 2 * shC n w h ed 2 x y + a.shp 3 * shC n w h ed 3 x y + a.shp 4 * shC n w h ed 4 x y + a.shp 5 * shC n w h ed 5 x y)
theorem aShp_d {a : AC} {k v : Int} : (aShp a k v).dir = a.dir := rfl
theorem aShp_s {a : AC} {k v : Int} : (aShp a k v).shp = fup a.shp k (a.shp k + v) := rfl
theorem amS_shp {n w h ed k v x y : Int} {a : AC} (hk : k = 0 ∨ (w ≠ 0 ∧ 1 ≤ k ∧ k ≤ 5)) : amS n w h ed (aShp a k v) x y = amS n w h ed a x y + v * shC n w h ed k x y := by
  unfold amS
  rw [aShp_d, aShp_s]
  rcases hk with rfl | ⟨hw, h1, h5⟩
  · rw [fup_s, fup_n (by decide), fup_n (by decide), fup_n (by decide), fup_n (by decide), fup_n (by decide), Int.add_mul]
    omega
  · rw [if_neg hw, if_neg hw]
    rcases (show k = 1 ∨ k = 2 ∨ k = 3 ∨ k = 4 ∨ k = 5 by omega) with rfl | rfl | rfl | rfl | rfl
    all_goals (rw [fup_s]; repeat rw [fup_n (by decide)])
    all_goals rw [Int.add_mul]
    all_goals omega
def AcR (m : Mu) (b n q w h ed : Int) (a : AC) : Prop := AmR m b q (amS n w h ed a) ∧ m b 28 = a.wc ∧ m b 29 = (if w = 0 then a.shp 1 else 0) ∧ (∀ i, 0 ≤ i → i < a.wc → m (b + 8) i = a.wA i ∧ m (b + 9) i = a.wB i) ∧ ∀ x, 0 ≤ x → x < 36 → m (b + 10) x = a.jm x
/-- sums that so many clauses can have made -/
def AcO (n c : Int) (a : AC) : Prop := (∀ k, 0 ≤ k → k < 6 → 0 ≤ a.shp k ∧ a.shp k ≤ 5 * c) ∧ (0 ≤ a.wc ∧ a.wc ≤ c) ∧ (∀ i, 0 ≤ i → i < a.wc → (0 ≤ a.wA i ∧ a.wA i < n) ∧ (0 ≤ a.wB i ∧ a.wB i < n)) ∧ (∀ x, 0 ≤ x → x < 36 → (a.jm x = 0 ∨ a.jm x = 1)) ∧ ∀ x y, (0 ≤ x ∧ x < n) ∧ (0 ≤ y ∧ y < n) ∨ a.dir x y = 0
/-- what a clause may change -/
def FC (μ m : Mu) (b : Int) : Prop := ∀ x j, (x < b + 7 ∨ b + 10 < x) → (x = b → j ≠ 14 ∧ j ≠ 15 ∧ (j < 17 ∨ 22 < j) ∧ j ≠ 28 ∧ j ≠ 29) → m x j = μ x j
theorem FT.fc {μ m : Mu} {b : Int} (h : FT μ m b) : FC μ m b := fun x j _ h2 => h x j (fun e => ⟨(h2 e).1, (h2 e).2.1, (h2 e).2.2.1⟩)
theorem FC.t {μ m m2 : Mu} {b : Int} (h : FC μ m b) (h2 : FC m m2 b) : FC μ m2 b := fun x j z1 z2 => by rw [h2 x j z1 z2, h x j z1 z2]
theorem HdM.fc {μ m : Mu} {b n q w h ed : Int} (H : HdM μ b n q w h ed) (hf : FC μ m b) : HdM m b n q w h ed := by
  obtain ⟨h1, h2, h3, h4, h5⟩ := H
  exact ⟨by rw [hf _ _ (by omega) (by omega)]; exact h1, by rw [hf _ _ (by omega) (by omega)]; exact h2, by rw [hf _ _ (by omega) (by omega)]; exact h3, by rw [hf _ _ (by omega) (by omega)]; exact h4, by rw [hf _ _ (by omega) (by omega)]; exact h5⟩
theorem TxR.fc {μ m : Mu} {b N : Int} {τ : Int → Int} (h : TxR μ b τ N) (hf : FC μ m b) : TxR m b τ N := fun j z1 z2 => by rw [hf _ _ (by omega) (by omega)]; exact h j z1 z2
theorem AcR.ft {μ m : Mu} {b n q w h ed : Int} {a : AC} (H : AcR μ b n q w h ed a) (hf : FT μ m b) : AcR m b n q w h ed a := by
  obtain ⟨h1, h2, h3, h4, h5⟩ := H
  exact ⟨h1.fr (fun j => hf _ _ (by omega)), by rw [hf _ _ (by omega)]; exact h2, by rw [hf _ _ (by omega)]; exact h3, fun i z1 z2 => by rw [hf _ _ (by omega), hf _ _ (by omega)]; exact h4 i z1 z2, fun x z1 z2 => by rw [hf _ _ (by omega)]; exact h5 x z1 z2⟩
/-- a token's fields stay -/
theorem PsR.fr {μ m : Mu} {b N : Int} {τ : Int → Int} {s : PT} (H : PsR μ b τ N s) (hf : ∀ j, 14 ≤ j → j ≤ 22 → m b j = μ b j) : PsR m b τ N s := by
  obtain ⟨⟨t1, t2, t3, t4, t5, t6, t7⟩, h1, h2, h3⟩ := H
  exact ⟨⟨by rw [hf _ (by decide) (by decide)]; exact t1, by rw [hf _ (by decide) (by decide)]; exact t2, by rw [hf _ (by decide) (by decide)]; exact t3, by rw [hf _ (by decide) (by decide)]; exact t4, by rw [hf _ (by decide) (by decide)]; exact t5, by rw [hf _ (by decide) (by decide)]; exact t6, by rw [hf _ (by decide) (by decide)]; exact t7⟩, by rw [hf _ (by decide) (by decide)]; exact h1, by rw [hf _ (by decide) (by decide)]; exact h2, h3⟩
section MPat
variable {l : Launch} {G : Gx} {γ μ : Mu}
set_option maxHeartbeats 1000000 in
theorem m_pattern (hl : l.stackTraces = false) (d : Nat) (hd : 2 < d) {b n q w h ed k v bs : Int} {A : Int → Int → Int} (hS : ModS G b) (hG : ModG γ b) (hH : HdM μ b n q w h ed) (hO : hdO n q w h ed) (hA : AmR μ b q A) (e29 : μ b 29 = bs) (hbs : 0 ≤ bs ∧ bs ≤ 1000) (hk : 0 ≤ k ∧ k ≤ 5) (hkw : w = 0 → k ≤ 1) (hv : 0 ≤ v ∧ v ≤ 1000) :
    Cn l G yX9_pattern cX9_pattern 5 none d 0 [aR b, aI k, aI v] γ μ (fun r γ' μ' => r = none ∧ γ' = γ ∧ (μ b 14 = 0 → AmR μ' b q (fun x y => A x y + (if w = 0 ∧ k = 1 then 0 else v * shC n w h ed k x y)) ∧ μ' b 29 = bs + (if w = 0 ∧ k = 1 then v else 0)) ∧ (μ b 14 ≠ 0 → μ' = μ) ∧ ∀ x j, x ≠ b + 7 → (x = b → j ≠ 29) → μ' x j = μ x j) := by
  refine Cn.ofP hl (plainFor_of_name (by decide)) (noLc nlR (noLc nlI (noL1 nlI))) rfl (fun P hP o1 o3 X hX' hC => B_X9_pattern_0 hC hS.o ?_)
  have hn := hO.n
  have hq := hO.1.b
  refine ⟨0, 0, _, by omega, Nat.le_refl _, hX' ▸ m_isGood hl 0 hS, PI.use ?_⟩
  by_cases e : μ b 14 = 0
  case neg =>
    rw [if_neg e]
    exact B_X9_pattern_4 hC hS.o ⟨fun w => absurd rfl w, fun _ => ⟨Nat.le_refl _, hP _ _ _ ⟨rfl, rfl, fun w => absurd w e, fun _ => rfl, fun _ _ _ _ => rfl⟩⟩⟩
  rw [if_pos e]
  have fin : ∀ m : Mu, AmR m b q (fun x y => A x y + (if w = 0 ∧ k = 1 then 0 else v * shC n w h ed k x y)) → m b 29 = bs + (if w = 0 ∧ k = 1 then v else 0) → (∀ x j, x ≠ b + 7 → (x = b → j ≠ 29) → m x j = μ x j) → P none γ m := fun m h1 h2 h3 => hP _ _ _ ⟨rfl, rfl, fun _ => ⟨h1, h2⟩, fun w => absurd e w, h3⟩
  have hH2 : ∀ m : Mu, (∀ x j, x ≠ b + 7 → (x = b → j ≠ 29) → m x j = μ x j) → HdM m b n q w h ed := fun m fm => ⟨by rw [fm _ _ (by omega) (by omega)]; exact hH.1, by rw [fm _ _ (by omega) (by omega)]; exact hH.2.1, by rw [fm _ _ (by omega) (by omega)]; exact hH.2.2.1, by rw [fm _ _ (by omega) (by omega)]; exact hH.2.2.2.1, by rw [fm _ _ (by omega) (by omega)]; exact hH.2.2.2.2⟩
  have fa : ∀ m m2 : Mu, (∀ x j, x ≠ b + 7 → (x = b → j ≠ 29) → m x j = μ x j) → FA m m2 b → ∀ x j, x ≠ b + 7 → (x = b → j ≠ 29) → m2 x j = μ x j := fun m m2 f1 f2 x j z1 z2 => by rw [f2 x j z1, f1 x j z1 z2]
  -- what comes behind for the other shapes
  have e128 : (k ≠ 4 ∧ k ≠ 5) → ∀ m : Mu, AmR m b q (fun x y => A x y + (if w = 0 ∧ k = 1 then 0 else v * shC n w h ed k x y)) → m b 29 = bs + (if w = 0 ∧ k = 1 then v else 0) → (∀ x j, x ≠ b + 7 → (x = b → j ≠ 29) → m x j = μ x j) → V X G (Qm X G 0 P) 0 128 [aR b, aI k, aI v, aD, aD] [] γ m := fun hk4 m h1 h2 h3 => by
    refine B_X9_pattern_128 hC hS.o (B_X9_pattern_130 hC hS.o ?_)
    refine ⟨fun _ => ⟨Nat.le_refl _, fin m h1 h2 h3⟩, fun _ => ⟨fun w => absurd w hk4.1, fun _ => ⟨fun _ => ⟨Nat.le_refl _, fin m h1 h2 h3⟩, fun w => absurd w hk4.2⟩⟩⟩
  have e109 : (k ≠ 3 ∧ k ≠ 4 ∧ k ≠ 5) → ∀ m : Mu, AmR m b q (fun x y => A x y + (if w = 0 ∧ k = 1 then 0 else v * shC n w h ed k x y)) → m b 29 = bs + (if w = 0 ∧ k = 1 then v else 0) → (∀ x j, x ≠ b + 7 → (x = b → j ≠ 29) → m x j = μ x j) → V X G (Qm X G 0 P) 0 109 [aR b, aI k, aI v, aD, aD] [] γ m := fun hk4 m h1 h2 h3 => B_X9_pattern_109 hC hS.o ⟨fun _ => e128 hk4.2 m h1 h2 h3, fun w => absurd w hk4.1⟩
  have e97 : (k ≠ 2 ∧ k ≠ 3 ∧ k ≠ 4 ∧ k ≠ 5) → ∀ m : Mu, AmR m b q (fun x y => A x y + (if w = 0 ∧ k = 1 then 0 else v * shC n w h ed k x y)) → m b 29 = bs + (if w = 0 ∧ k = 1 then v else 0) → (∀ x j, x ≠ b + 7 → (x = b → j ≠ 29) → m x j = μ x j) → V X G (Qm X G 0 P) 0 97 [aR b, aI k, aI v, aD, aD] [] γ m := fun hk4 m h1 h2 h3 => B_X9_pattern_97 hC hS.o ⟨fun _ => e109 hk4.2 m h1 h2 h3, fun w => absurd w hk4.1⟩
  have p29 : ¬ (w = 0 ∧ k = 1) → ∀ m : Mu, (∀ x j, x ≠ b + 7 → m x j = μ x j) → m b 29 = bs + (if w = 0 ∧ k = 1 then v else 0) := fun hc m hm => by rw [if_neg hc, Int.add_zero, hm _ _ (by omega), e29]
  refine B_X9_pattern_4 hC hS.o ⟨fun _ => ?_, fun w => absurd w (by decide)⟩
  -- from 35 on, nothing done yet
  have e35 : k ≠ 0 → V X G (Qm X G 0 P) 0 35 [aR b, aI k, aI v, aD, aD] [] γ μ := fun hk0 => by
    refine B_X9_pattern_35 hC hS.o ?_
    rw [hH.2.2.1, e29]
    refine ⟨fun k1 => ?_, fun k1 => ⟨fun w0 => ?_, fun w0 => ⟨by constructor <;> omega, ?_⟩⟩⟩
    · refine B_X9_pattern_57 hC hS.o ⟨fun _ => ?_, fun w => absurd w k1⟩
      have hc : ¬ (w = 0 ∧ k = 1) := fun z => k1 z.2
      have hw1 : 1 ≤ w := by rcases hO.2 with ⟨z, -⟩ | ⟨z, -⟩ <;> omega
      refine B_X9_pattern_97 hC hS.o ⟨fun k2 => ?_, fun k2 => ?_⟩
      · refine B_X9_pattern_109 hC hS.o ⟨fun k3 => ?_, fun k3 => ?_⟩
        · -- rows and columns
          have hk45 : k = 4 ∨ k = 5 := by omega
          have loop := rem_ind (n := n) (P := fun i => ∀ m : Mu, FA μ m b → AmR m b q (fun x y => A x y + (if 0 ≤ x ∧ x < i then v * shC n w h ed k x y else 0)) → V X G (Qm X G 0 P) 0 130 [aR b, aI k, aI v, aI i, aD] [] γ m) (fun i i0 i1 ih m fm mA => ?_)
          · exact B_X9_pattern_128 hC hS.o (loop 0 (by omega) (by omega) μ (fun _ _ _ => rfl) (hA.cong (fun x y _ _ _ _ => by rw [if_neg (by omega), Int.add_zero])))
          · obtain ⟨g1, g2, g3, g4, g5⟩ := hH.fa fm
            refine B_X9_pattern_130 hC hS.o ?_
            rw [g1]
            refine ⟨fun hni => ⟨Nat.le_refl _, fin m (mA.cong (fun x y z1 z2 z3 z4 => ?_)) (p29 hc m fm) (fun x j z1 _ => fm x j z1)⟩, fun hni => ?_⟩
            · rw [if_neg hc]
              by_cases e9 : x < i
              · rw [if_pos ⟨z1, e9⟩]
              · rw [if_neg (by omega)]
                have : shC n w h ed k x y = 0 := by
                  unfold shC
                  rcases hk45 with rfl | rfl
                  · rw [if_neg (by decide), if_neg (by decide), if_neg (by decide), if_neg (by decide), if_pos rfl, if_neg (by omega)]
                  · rw [if_neg (by decide), if_neg (by decide), if_neg (by decide), if_neg (by decide), if_neg (by decide), if_neg (by omega)]
                rw [this, Int.mul_zero]
            · have inner := rem_ind (n := n) (P := fun j => ∀ m : Mu, FA μ m b → AmR m b q (fun x y => A x y + (if (0 ≤ x ∧ x < i) ∨ (x = i ∧ y < j) then v * shC n w h ed k x y else 0)) → V X G (Qm X G 0 P) 0 151 [aR b, aI k, aI v, aI i, aI j] [] γ m) (fun j j0 j1 ihj m fm mA => ?_)
              · have st := inner 0 (by omega) (by omega) m fm (mA.cong (fun x y z1 z2 z3 z4 => by
                  by_cases e9 : 0 ≤ x ∧ x < i
                  · rw [if_pos e9, if_pos (Or.inl e9)]
                  · rw [if_neg e9, if_neg (by omega)]))
                exact ⟨fun _ => st, fun k4 => ⟨fun k5 => absurd (by omega) k5, fun _ => st⟩⟩
              · obtain ⟨g1, g2, g3, g4, g5⟩ := hH.fa fm
                refine B_X9_pattern_151 hC hS.o ?_
                rw [g1, g3]
                refine ⟨fun hnj => ⟨by constructor <;> omega, ih (by omega) m fm (mA.cong (fun x y z1 z2 z3 z4 => ?_))⟩, fun hnj => ?_⟩
                · by_cases e9 : x < i
                  · rw [if_pos (Or.inl ⟨z1, e9⟩), if_pos (by omega)]
                  · by_cases e8 : x = i
                    · by_cases e7 : y < j
                      · rw [if_pos (Or.inr ⟨e8, e7⟩), if_pos (by omega)]
                      · rw [if_neg (by omega), if_pos (by omega)]
                        have : shC n w h ed k x y = 0 := by
                          unfold shC
                          rcases hk45 with rfl | rfl
                          · rw [if_neg (by decide), if_neg (by decide), if_neg (by decide), if_neg (by decide), if_pos rfl, if_neg (by omega)]
                          · rw [if_neg (by decide), if_neg (by decide), if_neg (by decide), if_neg (by decide), if_neg (by decide), if_neg (by omega)]
                        rw [this, Int.mul_zero]
                    · rw [if_neg (by omega), if_neg (by omega)]
                · have same : shC n w h ed k i j = 0 → V X G (Qm X G 0 P) 0 208 [aR b, aI k, aI v, aI i, aI j] [] γ m := fun hz => B_X9_pattern_208 hC hS.o ⟨by constructor <;> omega, ihj (by omega) m fm (mA.cong (fun x y z1 z2 z3 z4 => by
                    by_cases e8 : x = i ∧ y = j
                    · obtain ⟨rfl, rfl⟩ := e8
                      rw [if_neg (by omega), if_pos (by omega), hz, Int.mul_zero]
                    · by_cases e7 : (0 ≤ x ∧ x < i) ∨ (x = i ∧ y < j)
                      · rw [if_pos e7, if_pos (by omega)]
                      · rw [if_neg e7, if_neg (by omega)]))⟩
                  have add : shC n w h ed k i j = 1 → ∃ (d9 k9 : Nat) (P9 : Option AV → Mu → Mu → Prop), d9 < d ∧ 0 + k9 ≤ 0 ∧ Cn X.l G yX9_adds cX9_adds 4 none d9 k9 [aR b, aI i, aI j, aI v] γ m P9 ∧ ∀ r9 γ9 μ9, P9 r9 γ9 μ9 → V X G (Qm X G 0 P) (0 + k9) 208 [aR b, aI k, aI v, aI i, aI j] (r9.toList ++ []) γ9 μ9 := fun hz => by
                    refine ⟨0, 0, _, by omega, Nat.le_refl _, hX' ▸ m_adds hl 0 hS hG g2 hq mA (by omega) (by omega) hv, ?_⟩
                    rintro r γ m2 ⟨rfl, rfl, a2, f2⟩
                    refine B_X9_pattern_208 hC hS.o ⟨by constructor <;> omega, ihj (by omega) m2 (fm.t f2) (a2.cong (fun x y z1 z2 z3 z4 => ?_))⟩
                    by_cases e8 : x = i ∧ y = j
                    · obtain ⟨rfl, rfl⟩ := e8
                      rw [if_neg (by omega), if_pos ⟨rfl, rfl⟩, if_pos (by omega), hz, Int.mul_one]
                      omega
                    · rw [if_neg e8, Int.add_zero]
                      by_cases e7 : (0 ≤ x ∧ x < i) ∨ (x = i ∧ y < j)
                      · rw [if_pos e7, if_pos (by omega)]
                      · rw [if_neg e7, if_neg (by omega)]
                  rw [Int.tmod_eq_emod_of_nonneg i0, Int.tmod_eq_emod_of_nonneg j0, Int.tdiv_eq_ediv_of_nonneg i0, Int.tdiv_eq_ediv_of_nonneg j0]
                  refine ⟨fun k4 => ⟨by omega, fun hne => same ?_, fun heq => add ?_⟩, fun k4 => ⟨by omega, fun hne => same ?_, fun heq => add ?_⟩⟩
                  · unfold shC; rw [if_neg hk0, if_neg k1, if_neg k2, if_neg k3, if_neg k4, if_neg (fun z => hne z.2)]
                  · unfold shC; rw [if_neg hk0, if_neg k1, if_neg k2, if_neg k3, if_neg k4, if_pos ⟨by omega, heq⟩]
                  · unfold shC; rw [if_neg hk0, if_neg k1, if_neg k2, if_neg k3, if_pos k4, if_neg (fun z => hne z.2)]
                  · unfold shC; rw [if_neg hk0, if_neg k1, if_neg k2, if_neg k3, if_pos k4, if_pos ⟨by omega, heq⟩]
        · refine ⟨2, 0, _, hd, Nat.le_refl _, hX' ▸ m_steps4 hl 2 (by omega) hS hG hH hO hw1 hA (by decide) (by decide) hv, ?_⟩
          rintro r γ m1 ⟨rfl, rfl, a1, f1⟩
          refine B_X9_pattern_121 hC hS.o ⟨2, 0, _, hd, Nat.le_refl _, hX' ▸ m_steps4 hl 2 (by omega) hS hG (hH.fa f1) hO hw1 a1 (by decide) (by decide) hv, ?_⟩
          rintro r γ m2 ⟨rfl, rfl, a2, f2⟩
          refine e128 (by omega) m2 (a2.cong (fun x y _ _ _ _ => ?_)) (p29 hc m2 (f1.t f2)) (fun x j z1 _ => (f1.t f2) x j z1)
          rw [if_neg hc]
          unfold shC
          rw [if_neg hk0, if_neg k1, if_neg k2, if_pos k3]
          have key : ∀ p r : Int, A x y + v * p + v * r = A x y + v * (p + r) := fun p r => by rw [Int.mul_add]; omega
          exact key _ _
      · refine ⟨2, 0, _, hd, Nat.le_refl _, hX' ▸ m_steps4 hl 2 (by omega) hS hG hH hO hw1 hA (by decide) (by decide) hv, ?_⟩
        rintro r γ m1 ⟨rfl, rfl, a1, f1⟩
        refine e109 (by omega) m1 (a1.cong (fun x y _ _ _ _ => ?_)) (p29 hc m1 f1) (fun x j z1 _ => f1 x j z1)
        rw [if_neg hc]
        unfold shC
        rw [if_neg hk0, if_neg k1, if_pos k2]
    · -- sides of a board
      have hc : ¬ (w = 0 ∧ k = 1) := fun z => w0 z.1
      have hw1 : 1 ≤ w := by rcases hO.2 with ⟨z, -⟩ | ⟨z, -⟩ <;> omega
      refine B_X9_pattern_57 hC hS.o ?_
      rw [hH.2.2.1]
      refine ⟨fun z => absurd k1 z, fun _ => ⟨fun z => absurd z (by omega), fun _ => ?_⟩⟩
      refine ⟨2, 0, _, hd, Nat.le_refl _, hX' ▸ m_steps hl 2 (by omega) hS hG hH hO hw1 hA (by decide) (by decide) hv, ?_⟩
      rintro r γ m1 ⟨rfl, rfl, a1, f1⟩
      refine B_X9_pattern_76 hC hS.o ⟨2, 0, _, hd, Nat.le_refl _, hX' ▸ m_steps hl 2 (by omega) hS hG (hH.fa f1) hO hw1 a1 (by decide) (by decide) hv, ?_⟩
      rintro r γ m2 ⟨rfl, rfl, a2, f2⟩
      refine B_X9_pattern_83 hC hS.o ⟨2, 0, _, hd, Nat.le_refl _, hX' ▸ m_steps hl 2 (by omega) hS hG ((hH.fa f1).fa f2) hO hw1 a2 (by decide) (by decide) hv, ?_⟩
      rintro r γ m3 ⟨rfl, rfl, a3, f3⟩
      refine B_X9_pattern_90 hC hS.o ⟨2, 0, _, hd, Nat.le_refl _, hX' ▸ m_steps hl 2 (by omega) hS hG (((hH.fa f1).fa f2).fa f3) hO hw1 a3 (by decide) (by decide) hv, ?_⟩
      rintro r γ m4 ⟨rfl, rfl, a4, f4⟩
      have f := ((f1.t f2).t f3).t f4
      refine e97 (by omega) m4 (a4.cong (fun x y _ _ _ _ => ?_)) (p29 hc m4 f) (fun x j z1 _ => f x j z1)
      rw [if_neg hc]
      unfold shC
      rw [if_neg hk0, if_pos k1, Int.mul_add, Int.mul_add, Int.mul_add]
      omega
    · -- sides of a net
      have hc : w = 0 ∧ k = 1 := ⟨w0, k1⟩
      have h3 : ∀ x j, x ≠ b + 7 → (x = b → j ≠ 29) → up μ b 29 (bs + v) x j = μ x j := fun x j z1 z2 => up_ne (by omega)
      have h1 : AmR (up μ b 29 (bs + v)) b q (fun x y => A x y + (if w = 0 ∧ k = 1 then 0 else v * shC n w h ed k x y)) := (hA.fr (fun j => up_ne (by omega))).cong (fun x y _ _ _ _ => by rw [if_pos hc, Int.add_zero])
      have h2 : up μ b 29 (bs + v) b 29 = bs + (if w = 0 ∧ k = 1 then v else 0) := by rw [up_same, if_pos hc]
      refine B_X9_pattern_57 hC hS.o ?_
      rw [(hH2 _ h3).2.2.1]
      exact ⟨fun z => absurd k1 z, fun _ => ⟨fun _ => e97 (by omega) _ h1 h2 h3, fun z => absurd w0 (by omega)⟩⟩
  refine ⟨e35, fun hk0 => ?_⟩
  have hc : ¬ (w = 0 ∧ k = 1) := fun z => by omega
  have loop := rem_ind (n := n) (P := fun i => ∀ m : Mu, FA μ m b → AmR m b q (fun x y => A x y + (if (0 ≤ x ∧ x < i) ∧ x = y then v else 0)) → V X G (Qm X G 0 P) 0 14 [aR b, aI k, aI v, aI i, aD] [] γ m) (fun i i0 i1 ih m fm mA => ?_)
  · exact loop 0 (by omega) (by omega) μ (fun _ _ _ => rfl) (hA.cong (fun x y _ _ _ _ => by rw [if_neg (by omega), Int.add_zero]))
  · obtain ⟨g1, g2, g3, g4, g5⟩ := hH.fa fm
    refine B_X9_pattern_14 hC hS.o ?_
    rw [g1]
    refine ⟨fun hni => ?_, fun hni => ?_⟩
    · obtain rfl : i = n := by omega
      have h1 : AmR m b q (fun x y => A x y + (if w = 0 ∧ k = 1 then 0 else v * shC i w h ed k x y)) := mA.cong (fun x y _ _ _ _ => by
        rw [if_neg hc]
        unfold shC
        rw [if_pos hk0]
        split <;> simp)
      refine B_X9_pattern_35 hC hS.o ⟨fun _ => ?_, fun z => absurd z (by omega)⟩
      refine B_X9_pattern_57 hC hS.o ⟨fun _ => ?_, fun z => absurd z (by omega)⟩
      exact e97 (by omega) m h1 (p29 hc m fm) (fun x j z1 _ => fm x j z1)
    · refine ⟨0, 0, _, by omega, Nat.le_refl _, hX' ▸ m_adds hl 0 hS hG g2 hq mA (by omega) (by omega) hv, ?_⟩
      rintro r γ m2 ⟨rfl, rfl, a2, f2⟩
      refine B_X9_pattern_29 hC hS.o ⟨by constructor <;> omega, ih (by omega) m2 (fm.t f2) (a2.cong (fun x y z1 z2 z3 z4 => ?_))⟩
      by_cases e8 : x = i ∧ y = i
      · obtain ⟨rfl, rfl⟩ := e8
        rw [if_neg (by omega), if_pos ⟨rfl, rfl⟩, if_pos (by omega)]
        omega
      · rw [if_neg e8, Int.add_zero]
        by_cases e7 : (0 ≤ x ∧ x < i) ∧ x = y
        · rw [if_pos e7, if_pos (by omega)]
        · rw [if_neg e7, if_neg (by omega)]
end MPat
