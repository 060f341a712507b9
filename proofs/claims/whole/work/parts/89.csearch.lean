/-! the class: Search -/
abbrev gsR (F : Nat) (st : Int → Int → Int) : GS := (0, fun _ => 0, fun _ => 0, fun _ _ => 0, fun _ _ => 0, F, fun _ => 0, st)
def SrW (n q : Int) (F : Nat) (fa : Int → Int) (st cs : Int → Int → Int) (r : Int → Int) : Prop := (0 ≤ n ∧ n ≤ 36) ∧ (2 ≤ q ∧ q ≤ 5) ∧ F ≤ 14 ∧ (∀ i : Int, 0 ≤ i → i < F → (0 ≤ fa i ∧ fa i < n) ∧ inQ n q (st i) ∧ (∀ j, 0 ≤ j → j < fa i → st i j = 0) ∧ st i (fa i) = 1 ∧ r (fa i) = 0) ∧ (∀ i k : Int, 0 ≤ i → i < k → k < F → fa i < fa k ∧ st i (fa k) = 0) ∧ (∀ j v, 0 ≤ j → j < n → 0 ≤ v → v < q → 0 ≤ cs j v ∧ cs j v ≤ 1000) ∧ inQ n q r
def SrS (μ : Mu) (s n q : Int) (F : Nat) (fa : Int → Int) (st cs : Int → Int → Int) : Prop := μ s 5 = F ∧ μ s 6 = n ∧ μ s 7 = q ∧ (∀ i : Int, 0 ≤ i → i < F → μ (s + 1) i = fa i ∧ ∀ j, 0 ≤ j → j < n → μ (s + 3 + i) j = st i j) ∧ ∀ j v, 0 ≤ j → j < n → 0 ≤ v → v < q → μ (s + 17) (j * 5 + v) = cs j v
theorem SrS.fr {μ m : Mu} {s n q : Int} {F : Nat} {fa : Int → Int} {st cs : Int → Int → Int} (h : SrS μ s n q F fa st cs) (hF : F ≤ 14) (hf : ∀ y j, s ≤ y → y ≤ s + 17 → (y = s → j ≠ 8) → m y j = μ y j) : SrS m s n q F fa st cs := by
  obtain ⟨h1, h2, h3, h4, h5⟩ := h
  refine ⟨by rw [hf _ _ (by omega) (by omega) (by omega)]; exact h1, by rw [hf _ _ (by omega) (by omega) (by omega)]; exact h2, by rw [hf _ _ (by omega) (by omega) (by omega)]; exact h3, fun i z1 z2 => ⟨by rw [hf _ _ (by omega) (by omega) (by omega)]; exact (h4 i z1 z2).1, fun j z3 z4 => by rw [hf _ _ (by omega) (by omega) (by omega)]; exact (h4 i z1 z2).2 j z3 z4⟩, fun j v z1 z2 z3 z4 => by rw [hf _ _ (by omega) (by omega) (by omega)]; exact h5 j v z1 z2 z3 z4⟩
def ctS (cs : Int → Int → Int) (f : Int → Int) (i : Int) : Int := sumI (fun j => cs j (f j)) i
theorem ctS_cong {cs : Int → Int → Int} {f g : Int → Int} {n : Int} (hn : 0 ≤ n) (h : ∀ j, 0 ≤ j → j < n → f j = g j) : ctS cs f n = ctS cs g n := sumI_cong hn (fun j z1 z2 => by rw [h j z1 z2])
theorem sumI_mono {f : Int → Int} {p : Int} (hp : 0 ≤ p) : ∀ k : Nat, (∀ j, p ≤ j → j < p + k → 0 ≤ f j) → sumI f p ≤ sumI f (p + k)
  | 0, _ => by rw [show p + ((0 : Nat) : Int) = p by omega]; exact Int.le_refl _
  | k + 1, h => by
    have ih := sumI_mono hp k (fun j z1 z2 => h j z1 (by omega))
    rw [show p + ((k + 1 : Nat) : Int) = p + k + 1 by omega, sumI_s (by omega)]
    have := h (p + k) (by omega) (by omega)
    omega
theorem sumI_mono2 {f : Int → Int} {p n : Int} (hp : 0 ≤ p) (hn : p ≤ n) (h : ∀ j, p ≤ j → j < n → 0 ≤ f j) : sumI f p ≤ sumI f n := by
  have := sumI_mono hp (n - p).toNat (fun j z1 z2 => h j z1 (by omega))
  rw [show p + ((n - p).toNat : Int) = n by omega] at this
  exact this
theorem Lx_irr {n : Int} {f g : Int → Int} (h : ∀ j, 0 ≤ j → j < n → f j = g j) : ¬ Lx n f g := fun ⟨p, p0, p1, _, p3⟩ => by have := h p p0 p1; omega
/-- the best so far, by costs of which 1000 and more is forbidden -/
def BstC (n : Int) (cs : Int → Int → Int) (D : (Int → Int) → Prop) (L : Int) (B : Int → Int) : Prop := (L = 1000 ∧ ∀ x, D x → 1000 ≤ ctS cs x n) ∨ ((0 ≤ L ∧ L < 1000) ∧ (∃ x, D x ∧ ∀ j, 0 ≤ j → j < n → B j = x j) ∧ ctS cs B n = L ∧ ∀ x, D x → L < ctS cs x n ∨ (L = ctS cs x n ∧ ¬ Lx n x B))
theorem BstC.skip {n L : Int} {cs : Int → Int → Int} {D E : (Int → Int) → Prop} {B : Int → Int} (h : BstC n cs D L B) (h1 : ∀ y, E y → L ≤ ctS cs y n) (h2 : ∀ x y, D x → E y → Lx n x y) : BstC n cs (fun x => D x ∨ E x) L B := by
  rcases h with ⟨a1, a2⟩ | ⟨a1, ⟨x, a2, a3⟩, a4, a5⟩
  · refine Or.inl ⟨a1, fun y hy => ?_⟩
    rcases hy with w | w
    · exact a2 y w
    · have := h1 y w; omega
  · refine Or.inr ⟨a1, ⟨x, Or.inl a2, a3⟩, a4, fun y hy => ?_⟩
    rcases hy with w | w
    · exact a5 y w
    · have := h1 y w
      rcases Int.lt_or_le L (ctS cs y n) with z | z
      · exact Or.inl z
      · exact Or.inr ⟨by omega, fun k => Lx_irr (fun _ _ _ => rfl) (Lx_trans (h2 x y a2 w) (Lx_cong (fun _ _ _ => rfl) a3 k))⟩
theorem BstC.take {n L : Int} {cs : Int → Int → Int} {D : (Int → Int) → Prop} {B B' y : Int → Int} (h : BstC n cs D L B) (hn : 0 ≤ n) (h0 : 0 ≤ ctS cs y n) (h1 : ctS cs y n < L) (hB : ∀ j, 0 ≤ j → j < n → B' j = y j) : BstC n cs (fun x => D x ∨ x = y) (ctS cs y n) B' := by
  have hL : L ≤ 1000 ∧ ∀ x, D x → L ≤ ctS cs x n := by
    rcases h with ⟨a1, a2⟩ | ⟨a1, -, -, a5⟩
    · exact ⟨by omega, fun x hx => by rw [a1]; exact a2 x hx⟩
    · exact ⟨by omega, fun x hx => by rcases a5 x hx with w | w <;> omega⟩
  refine Or.inr ⟨⟨h0, by omega⟩, ⟨y, Or.inr rfl, hB⟩, ctS_cong hn hB, fun x hx => ?_⟩
  rcases hx with w | w
  · have := hL.2 x w
    exact Or.inl (by omega)
  · subst w
    exact Or.inr ⟨rfl, Lx_irr (fun j z1 z2 => (hB j z1 z2).symm)⟩
theorem BstC.iff {n L : Int} {cs : Int → Int → Int} {D D' : (Int → Int) → Prop} {B : Int → Int} (h : BstC n cs D L B) (he : ∀ x, D x ↔ D' x) : BstC n cs D' L B := by
  have : D = D' := funext (fun x => propext (he x))
  rw [← this]
  exact h
def ExtD (q : Int) (F : Nat) (st : Int → Int → Int) (r d : Int → Int) (lv : Int) (x : Int → Int) : Prop := ∃ e, dgs q F e ∧ (∀ i, 0 ≤ i → i < lv → e i = d i) ∧ x = mixI q (gsR F st) r e
def plF (n : Int) (F : Nat) (fa : Int → Int) (i : Int) : Int := if i < F then fa i else n
section SrPure
variable {n q : Int} {F : Nat} {fa r d : Int → Int} {st cs : Int → Int → Int}
theorem plF_b (hS : SrW n q F fa st cs r) {i : Int} (h0 : 0 ≤ i) : 0 ≤ plF n F fa i ∧ plF n F fa i ≤ n := by
  obtain ⟨h1, -, -, h4, -⟩ := hS
  unfold plF
  split
  · have := (h4 i h0 (by assumption)).1
    omega
  · omega
theorem plF_s (hS : SrW n q F fa st cs r) {i : Int} (h0 : 0 ≤ i) (h1 : i < F) : plF n F fa i = fa i ∧ fa i < plF n F fa (i + 1) := by
  obtain ⟨-, -, -, h4, h5, -⟩ := hS
  unfold plF
  rw [if_pos h1]
  refine ⟨rfl, ?_⟩
  split
  · exact (h5 i (i + 1) h0 (by omega) (by assumption)).1
  · exact (h4 i h0 h1).1.2
theorem ext_split {lv : Int} (h0 : 0 ≤ lv) (h1 : lv < F) {x : Int → Int} : ExtD q F st r d lv x ↔ ∃ v, 0 ≤ v ∧ v < q ∧ ExtD q F st r (fup d lv v) (lv + 1) x := by
  constructor
  · rintro ⟨e, e1, e2, e3⟩
    refine ⟨e lv, (e1 lv h0 h1).1, (e1 lv h0 h1).2, e, e1, fun i z1 z2 => ?_, e3⟩
    by_cases w : i = lv
    · rw [w, fup_s]
    · rw [fup_n w]; exact e2 i z1 (by omega)
  · rintro ⟨v, v0, v1, e, e1, e2, e3⟩
    exact ⟨e, e1, fun i z1 z2 => by rw [e2 i z1 (by omega), fup_n (by omega)], e3⟩
theorem ext_val (hS : SrW n q F fa st cs r) {lv : Int} (h0 : 0 ≤ lv) {x : Int → Int} (h : ExtD q F st r d lv x) {j : Int} (j0 : 0 ≤ j) (j1 : j < plF n F fa lv) : x j = mixI q (gsR F st) r d j := by
  obtain ⟨-, -, -, h4, h5, -⟩ := hS
  obtain ⟨e, e1, e2, rfl⟩ := h
  unfold mixI
  congr 2
  refine sumI_cong (by omega) (fun i z1 z2 => ?_)
  by_cases w : i < lv
  · rw [e2 i z1 w]
  · have : (gsR F st).tv i j = 0 := by
      refine (h4 i z1 z2).2.2.1 j j0 ?_
      have z2' : i < F := z2
      unfold plF at j1
      rw [if_pos (by omega)] at j1
      by_cases w2 : i = lv
      · rw [w2]; exact j1
      · have := (h5 lv i h0 (by omega) z2).1
        omega
    rw [this, Int.mul_zero, Int.mul_zero]
theorem mix_at (hS : SrW n q F fa st cs r) {e : Int → Int} (he : dgs q F e) {i : Int} (h0 : 0 ≤ i) (h1 : i < F) : mixI q (gsR F st) r e (fa i) = e i := by
  obtain ⟨-, -, -, h4, h5, -⟩ := hS
  unfold mixI
  rw [(h4 i h0 h1).2.2.2.2, sumI_single (k := i) ⟨h0, h1⟩ (fun k z1 z2 z3 => ?_)]
  · have h3 : (gsR F st).tv i (fa i) = 1 := (h4 i h0 h1).2.2.2.1
    have := he i h0 h1
    rw [h3, Int.mul_one, Int.zero_add]
    exact Int.emod_eq_of_lt this.1 this.2
  · have : (gsR F st).tv k (fa i) = 0 := by
      rcases Int.lt_trichotomy k i with w | w | w
      · exact (h5 k i z1 w h1).2
      · omega
      · exact (h4 k z1 z2).2.2.1 _ (h4 i h0 h1).1.1 (h5 i k h0 w z2).1
    rw [this, Int.mul_zero]
theorem ext_at (hS : SrW n q F fa st cs r) {lv i : Int} {x : Int → Int} (h : ExtD q F st r d lv x) (h0 : 0 ≤ i) (h1 : i < F) (h2 : i < lv) : x (fa i) = d i := by
  obtain ⟨e, e1, e2, rfl⟩ := h
  rw [mix_at hS e1 h0 h1, e2 i h0 h2]
theorem ext_in (hS : SrW n q F fa st cs r) {lv : Int} {x : Int → Int} (h : ExtD q F st r d lv x) : inQ n q x := by
  obtain ⟨e, e1, e2, rfl⟩ := h
  exact mixI_in (by have := hS.2.1; omega)
theorem ctS_nn (hS : SrW n q F fa st cs r) {x : Int → Int} (hx : inQ n q x) {p : Int} (h0 : 0 ≤ p) (h1 : p ≤ n) : ctS cs x p ≤ ctS cs x n ∧ 0 ≤ ctS cs x p ∧ ctS cs x p ≤ 1000 * p := by
  have h6 := hS.2.2.2.2.2.1
  have hb : ∀ j, 0 ≤ j → j < n → 0 ≤ cs j (x j) ∧ cs j (x j) ≤ 1000 := fun j z1 z2 => h6 j (x j) z1 z2 (hx j z1 z2).1 (hx j z1 z2).2
  exact ⟨sumI_mono2 h0 h1 (fun j z1 z2 => (hb j (by omega) z2).1), sumI_nonneg h0 (fun j z1 z2 => (hb j z1 (by omega)).1), sumI_le h0 (fun j z1 z2 => (hb j z1 (by omega)).2)⟩
theorem ext_cost (hS : SrW n q F fa st cs r) {lv : Int} (h0 : 0 ≤ lv) {x : Int → Int} (h : ExtD q F st r d lv x) : ctS cs (mixI q (gsR F st) r d) (plF n F fa lv) ≤ ctS cs x n := by
  have hb := plF_b hS h0
  rw [← ctS_cong (f := x) hb.1 (fun j z1 z2 => ext_val hS h0 h z1 z2)]
  exact (ctS_nn hS (ext_in hS h) hb.1 hb.2).1
theorem ext_order (hS : SrW n q F fa st cs r) {lv u v : Int} (h0 : 0 ≤ lv) (h1 : lv < F) (hu : 0 ≤ u ∧ u < q) (hv : 0 ≤ v ∧ v < q) (huv : u < v) {x y : Int → Int} (hx : ExtD q F st r (fup d lv u) (lv + 1) x) (hy : ExtD q F st r (fup d lv v) (lv + 1) y) : Lx n x y := by
  have hb := (hS.2.2.2.1 lv h0 h1).1
  refine ⟨fa lv, hb.1, hb.2, fun j z1 z2 => ?_, ?_⟩
  · rw [ext_val hS h0 ((ext_split h0 h1).mpr ⟨u, hu.1, hu.2, hx⟩) z1 (by rw [(plF_s hS h0 h1).1]; exact z2), ext_val hS h0 ((ext_split h0 h1).mpr ⟨v, hv.1, hv.2, hy⟩) z1 (by rw [(plF_s hS h0 h1).1]; exact z2)]
  · rw [ext_at hS hx h0 h1 (by omega), ext_at hS hy h0 h1 (by omega), fup_s, fup_s]
    exact huv
theorem dgs_fup {k z : Int} (hd : dgs q F d) (hz : 0 ≤ z ∧ z < q) : dgs q F (fup d k z) := fun i z1 z2 => by
  by_cases w : i = k
  · rw [w, fup_s]; exact hz
  · rw [fup_n w]; exact hd i z1 z2
theorem mix_step {lv v j : Int} (h0 : 0 ≤ lv) (h1 : lv < F) : (mixI q (gsR F st) r (fup d lv v) j + st lv j) % q = mixI q (gsR F st) r (fup d lv (v + 1)) j := by
  rw [mixI_fup (S := gsR F st) ⟨h0, h1⟩, mixI_fup (S := gsR F st) ⟨h0, h1⟩, Int.emod_add_emod]
  congr 1
  rw [show v + 1 - d lv = (v - d lv) + 1 by omega, Int.add_mul, Int.one_mul]
  show r j + (_ + (v - d lv) * st lv j) + st lv j = r j + (_ + ((v - d lv) * st lv j + st lv j))
  omega
theorem mix_0 {lv j : Int} (h0 : 0 ≤ lv) (h1 : lv < F) (hd : d lv = 0) : mixI q (gsR F st) r (fup d lv 0) j = mixI q (gsR F st) r d j := by
  rw [mixI_fup (S := gsR F st) ⟨h0, h1⟩, hd, Int.sub_zero, Int.zero_mul, Int.add_zero]
  rfl
theorem mix_q {lv j : Int} (h0 : 0 ≤ lv) (h1 : lv < F) (hd : d lv = 0) : mixI q (gsR F st) r (fup d lv q) j = mixI q (gsR F st) r d j := by
  rw [mixI_fup (S := gsR F st) ⟨h0, h1⟩, hd, Int.sub_zero, ← Int.add_assoc, Int.add_mul_emod_self_left]
  rfl
end SrPure
section CSearch
variable {l : Launch} {G : Gx} {γ μ σ : Mu}
theorem SrchAt.o {s : Int} (h : SrchAt G γ s) : shO G s 4 9 := h.1
theorem c_seBegin (hl : l.stackTraces = false) (d : Nat) (hd : 1 ≤ d) {s n q a : Int} (hs : SrchAt G γ s) (ha : shO G a 11 36) : Cn l G yX4_begin cX4_begin 4 none d 0 [aR s, aI n, aI q, aR a] γ μ (PV γ (cpy (up (up (up μ s 6 n) s 7 q) s 5 0) a 0 (s + 18) 0 36)) := by
  refine Cn.ofP hl (plainFor_of_name (by decide)) (noLc nlR (noLc nlI (noLc nlI (noL1 nlR)))) rfl (fun P hP o1 o3 X hX hC => B_X4_begin_0 hC hs.o ?_)
  obtain ⟨-, g0, s1, g1, s2, g2, s17, g3, s18, g4, s19, hr⟩ := id hs
  rw [g3]
  exact ⟨cpyI ha s18, hd, Nat.le_refl _, hP _ _ _ ⟨rfl, rfl, rfl⟩⟩
def csP (kind v : Int) : Int := if kind = 2 ∧ 1 < v then 1000 else if kind = 1 then min v 1 else v
theorem idx5 {j v i u q : Int} (hv : 0 ≤ v ∧ v < q) (hu : 0 ≤ u ∧ u < q) (hq : q ≤ 5) : j * 5 + v = i * 5 + u ↔ j = i ∧ v = u := by omega
theorem c_countPresses (hl : l.stackTraces = false) (d : Nat) (hd : 0 < d) {s n q kind : Int} (hs : SrchAt G γ s) (en : μ s 6 = n) (eq : μ s 7 = q) (hn : 0 ≤ n ∧ n ≤ 36) (hq : 2 ≤ q ∧ q ≤ 5) : Cn l G yX4_countPresses cX4_countPresses 5 none d 0 [aR s, aI kind] γ μ (fun r γ' μ' => r = none ∧ γ' = γ ∧ (∀ j v, 0 ≤ j → j < n → 0 ≤ v → v < q → μ' (s + 17) (j * 5 + v) = csP kind v) ∧ ∀ y j, y ≠ s + 17 → μ' y j = μ y j) := by
  refine Cn.ofP hl (plainFor_of_name (by decide)) (noLc nlR (noL1 nlI)) rfl (fun P hP o1 o3 X hX hC => B_X4_countPresses_0 hC hs.o ?_)
  obtain ⟨-, g0, s1, g1, s2, g2, s17, g3, s18, g4, s19, hr⟩ := id hs
  have loop := rem_ind (n := n) (P := fun i => ∀ m : Mu, (∀ y j, y ≠ s + 17 → m y j = μ y j) → (∀ j v, 0 ≤ j → j < i → 0 ≤ v → v < q → m (s + 17) (j * 5 + v) = csP kind v) → V X G (Qm X G 0 P) 0 2 [aR s, aI kind, aI i, aD, aD] [] γ m) (fun i i0 i1 ih m fm mc => ?_)
  · exact loop 0 (by omega) hn.1 μ (fun _ _ _ => rfl) (fun j v z1 z2 => by omega)
  · refine B_X4_countPresses_2 hC hs.o ?_
    rw [fm s 6 (by omega), en]
    refine ⟨fun h => ⟨Nat.le_refl _, hP _ _ _ ⟨rfl, rfl, fun j v z1 z2 z3 z4 => mc j v z1 (by omega) z3 z4, fm⟩⟩, fun h => ?_⟩
    have inner := rem_ind (n := q) (P := fun u => ∀ m : Mu, (∀ y j, y ≠ s + 17 → m y j = μ y j) → (∀ j v, 0 ≤ j → (j < i ∨ (j = i ∧ v < u)) → 0 ≤ v → v < q → m (s + 17) (j * 5 + v) = csP kind v) → V X G (Qm X G 0 P) 0 12 [aR s, aI kind, aI i, aI u, aD] [] γ m) (fun u u0 u1 ihu m fm mc => ?_)
    · exact inner 0 (by omega) (by omega) m fm (fun j v z1 z2 z3 z4 => mc j v z1 (by omega) z3 z4)
    · refine B_X4_countPresses_12 hC hs.o ?_
      rw [fm s 7 (by omega), eq]
      refine ⟨fun h2 => ⟨by constructor <;> omega, ih (by omega) m fm (fun j v z1 z2 z3 z4 => mc j v z1 (by omega) z3 z4)⟩, fun h2 => ?_⟩
      have go : ∀ z, z = csP kind u → ixA G 11 (γ s 2) (i * 5 + u) ∧ iR (u + 1) ∧ V X G (Qm X G 0 P) 0 12 [aR s, aI kind, aI i, aI (u + 1), aD] [] γ (up m (γ s 2) (i * 5 + u) z) := fun z hz => by
        rw [g2]
        refine ⟨ixO s17 (by omega), by constructor <;> omega, ihu (by omega) _ (fun y j z1 => by rw [up_ne (by omega)]; exact fm y j z1) (fun j v z1 z2 z3 z4 => ?_)⟩
        by_cases e : j = i ∧ v = u
        · rw [e.1, e.2, up_same, hz]
        · rw [up_ne (by omega)]
          exact mc j v z1 (by omega) z3 z4
      have c34 : ∀ c, (¬ (kind = 2 ∧ 1 < u) → c = csP kind u) → V X G (Qm X G 0 P) 0 34 [aR s, aI kind, aI i, aI u, aD] [aI c] γ m := fun c hc => by
        refine B_X4_countPresses_34 hC hs.o ⟨by constructor <;> omega, by constructor <;> omega, fun h3 => go _ (hc (fun z => h3 z.1)), fun h3 => ⟨fun h4 => go _ (hc (by omega)), fun h4 => go _ ?_⟩⟩
        unfold csP
        rw [if_pos ⟨h3, by omega⟩]
      refine ⟨fun h3 => c34 _ (fun h4 => ?_), fun h3 => ⟨0, 0, _, hd, Nat.le_refl _, hX ▸ c_min hl 0, PI.use (B_X4_countPresses_30 hC hs.o (c34 _ (fun h4 => ?_)))⟩⟩
      · unfold csP
        rw [if_neg h4, if_neg h3]
      · unfold csP
        rw [if_neg h4, if_pos h3]
def csU (g : Int → Int) (j v : Int) : Int := if v = g j then 0 else 1
theorem c_countUnlike (hl : l.stackTraces = false) (d : Nat) {s n q a : Int} {g : Int → Int} (hs : SrchAt G γ s) (ha : shO G a 11 36) (has : a ≠ s + 17) (en : μ s 6 = n) (eq : μ s 7 = q) (hn : 0 ≤ n ∧ n ≤ 36) (hq : 2 ≤ q ∧ q ≤ 5) (hg : ∀ j, 0 ≤ j → j < n → μ a j = g j) : Cn l G yX4_countUnlike cX4_countUnlike 4 none d 0 [aR s, aR a] γ μ (fun r γ' μ' => r = none ∧ γ' = γ ∧ (∀ j v, 0 ≤ j → j < n → 0 ≤ v → v < q → μ' (s + 17) (j * 5 + v) = csU g j v) ∧ ∀ y j, y ≠ s + 17 → μ' y j = μ y j) := by
  refine Cn.ofP hl (plainFor_of_name (by decide)) (noLc nlR (noL1 nlR)) rfl (fun P hP o1 o3 X hX hC => B_X4_countUnlike_0 hC hs.o ?_)
  obtain ⟨-, g0, s1, g1, s2, g2, s17, g3, s18, g4, s19, hr⟩ := id hs
  have loop := rem_ind (n := n) (P := fun i => ∀ m : Mu, (∀ y j, y ≠ s + 17 → m y j = μ y j) → (∀ j v, 0 ≤ j → j < i → 0 ≤ v → v < q → m (s + 17) (j * 5 + v) = csU g j v) → V X G (Qm X G 0 P) 0 2 [aR s, aR a, aI i, aD] [] γ m) (fun i i0 i1 ih m fm mc => ?_)
  · exact loop 0 (by omega) hn.1 μ (fun _ _ _ => rfl) (fun j v z1 z2 => by omega)
  · refine B_X4_countUnlike_2 hC hs.o ?_
    rw [fm s 6 (by omega), en]
    refine ⟨fun h => ⟨Nat.le_refl _, hP _ _ _ ⟨rfl, rfl, fun j v z1 z2 z3 z4 => mc j v z1 (by omega) z3 z4, fm⟩⟩, fun h => ?_⟩
    have inner := rem_ind (n := q) (P := fun u => ∀ m : Mu, (∀ y j, y ≠ s + 17 → m y j = μ y j) → (∀ j v, 0 ≤ j → (j < i ∨ (j = i ∧ v < u)) → 0 ≤ v → v < q → m (s + 17) (j * 5 + v) = csU g j v) → V X G (Qm X G 0 P) 0 12 [aR s, aR a, aI i, aI u] [] γ m) (fun u u0 u1 ihu m fm mc => ?_)
    · exact inner 0 (by omega) (by omega) m fm (fun j v z1 z2 z3 z4 => mc j v z1 (by omega) z3 z4)
    · refine B_X4_countUnlike_12 hC hs.o ?_
      rw [fm s 7 (by omega), eq, fm a i has, hg i i0 (by omega)]
      refine ⟨fun h2 => ⟨by constructor <;> omega, ih (by omega) m fm (fun j v z1 z2 z3 z4 => mc j v z1 (by omega) z3 z4)⟩, fun h2 => ?_⟩
      have go : ∀ z, z = csU g i u → ixA G 11 (γ s 2) (i * 5 + u) ∧ iR (u + 1) ∧ V X G (Qm X G 0 P) 0 12 [aR s, aR a, aI i, aI (u + 1)] [] γ (up m (γ s 2) (i * 5 + u) z) := fun z hz => by
        rw [g2]
        refine ⟨ixO s17 (by omega), by constructor <;> omega, ihu (by omega) _ (fun y j z1 => by rw [up_ne (by omega)]; exact fm y j z1) (fun j v z1 z2 z3 z4 => ?_)⟩
        by_cases e : j = i ∧ v = u
        · rw [e.1, e.2, up_same, hz]
        · rw [up_ne (by omega)]
          exact mc j v z1 (by omega) z3 z4
      exact ⟨by constructor <;> omega, by constructor <;> omega, ixO ha (by omega), fun h3 => go _ (by unfold csU; rw [if_neg h3]), fun h3 => go _ (by unfold csU; rw [if_pos h3])⟩
theorem c_addFree (hl : l.stackTraces = false) (d : Nat) (hd : 1 ≤ d) {s p a F : Int} (hs : SrchAt G γ s) (ha : shO G a 11 36) (hF : μ s 5 = F) (h14 : 0 ≤ F ∧ F < 14) : Cn l G yX4_addFree cX4_addFree 3 none d 0 [aR s, aI p, aR a] γ μ (PV γ (up (cpy (up μ (s + 1) F p) a 0 (s + 3 + F) 0 36) s 5 (F + 1))) := by
  refine Cn.ofP hl (plainFor_of_name (by decide)) (noLc nlR (noLc nlI (noL1 nlR))) rfl (fun P hP o1 o3 X hX hC => B_X4_addFree_0 hC hs.o ?_)
  obtain ⟨-, g0, s1, g1, s2, g2, s17, g3, s18, g4, s19, hr⟩ := id hs
  rw [hF, g0, g1, (hr F h14.1 h14.2).1]
  exact ⟨fun _ => ⟨ixO s1 (by omega), ixO s2 (by omega), cpyI ha (hr F h14.1 h14.2).2, hd, by constructor <;> omega, Nat.le_refl _, hP _ _ _ ⟨rfl, rfl, rfl⟩⟩, fun h => absurd h14.2 h⟩
theorem c_placeOfFree (hl : l.stackTraces = false) (d : Nat) {s n q i : Int} {F : Nat} {fa : Int → Int} {st cs : Int → Int → Int} (hs : SrchAt G γ s) (hM : SrS μ s n q F fa st cs) (hF : F ≤ 14) (h0 : 0 ≤ i) : Cn l G yX4_placeOfFree cX4_placeOfFree 2 (some .int) d 0 [aR s, aI i] γ μ (PI (plF n F fa i) γ μ) := by
  refine Cn.ofP hl (plainFor_of_name (by decide)) (noLc nlR (noL1 nlI)) rfl (fun P hP o1 o3 X hX hC => B_X4_placeOfFree_0 hC hs.o ?_)
  obtain ⟨-, g0, s1, -⟩ := id hs
  rw [hM.1, g0]
  refine ⟨fun h => ⟨Nat.le_refl _, hP _ _ _ ⟨?_, rfl, rfl⟩⟩, fun h => ⟨ixO s1 (by omega), Nat.le_refl _, hP _ _ _ ⟨?_, rfl, rfl⟩⟩⟩
  · unfold plF
    rw [if_neg (by omega), hM.2.1]
  · unfold plF
    rw [if_pos (by omega), (hM.2.2.2.1 i h0 (by omega)).1]
theorem c_costOf (hl : l.stackTraces = false) (d : Nat) {s n q a b : Int} {F : Nat} {fa f r : Int → Int} {st cs : Int → Int → Int} (hs : SrchAt G γ s) (hM : SrS μ s n q F fa st cs) (hS : SrW n q F fa st cs r) (hf : ∀ j, 0 ≤ j → j < n → μ (s + 18) j = f j) (hfq : inQ n q f) (h0 : 0 ≤ a) (h1 : a ≤ b) (h2 : b ≤ n) : Cn l G yX4_costOf cX4_costOf 5 (some .int) d 0 [aR s, aI a, aI b] γ μ (PI (ctS cs f b - ctS cs f a) γ μ) := by
  refine Cn.ofP hl (plainFor_of_name (by decide)) (noLc nlR (noLc nlI (noL1 nlI))) rfl (fun P hP o1 o3 X hX hC => B_X4_costOf_0 hC hs.o ?_)
  obtain ⟨-, g0, s1, g1, s2, g2, s17, g3, s18, g4, s19, hr⟩ := id hs
  have hn := hS.1
  have hq := hS.2.1
  have loop := rem_ind (n := b) (P := fun i => a ≤ i → V X G (Qm X G 0 P) 0 5 [aR s, aD, aI b, aI (ctS cs f i - ctS cs f a), aI i] [] γ μ) (fun i i0 i1 ih hai => ?_)
  · have := loop a h0 h1 (Int.le_refl _)
    rw [Int.sub_self] at this
    exact this
  · refine B_X4_costOf_5 hC hs.o ?_
    rw [g2, g3]
    refine ⟨fun h => ⟨Nat.le_refl _, hP _ _ _ ⟨?_, rfl, rfl⟩⟩, fun h => ?_⟩
    · obtain rfl : i = b := by omega
      rfl
    · have hfi := hfq i i0 (by omega)
      have hc := hS.2.2.2.2.2.1 i (f i) i0 (by omega) hfi.1 hfi.2
      have k1 := ctS_nn hS hfq (p := i) i0 (by omega)
      have k2 := ctS_nn hS hfq (p := a) h0 (by omega)
      have hih := ih (by omega) (by omega)
      rw [show ctS cs f (i + 1) = ctS cs f i + cs i (f i) from sumI_s i0, show ctS cs f i + cs i (f i) - ctS cs f a = ctS cs f i - ctS cs f a + cs i (f i) by omega] at hih
      rw [hf i i0 (by omega), hM.2.2.2.2 i (f i) i0 (by omega) hfi.1 hfi.2]
      exact ⟨by constructor <;> omega, ixO s18 (by omega), by constructor <;> omega, ixO s17 (by omega), by constructor <;> omega, by constructor <;> omega, hih⟩
theorem c_stepRow (hl : l.stackTraces = false) (d : Nat) {s n q lv : Int} {F : Nat} {fa f r : Int → Int} {st cs : Int → Int → Int} (hs : SrchAt G γ s) (hM : SrS μ s n q F fa st cs) (hS : SrW n q F fa st cs r) (h0 : 0 ≤ lv) (h1 : lv < F) (hf : ∀ j, 0 ≤ j → j < n → μ (s + 18) j = f j) (hfq : inQ n q f) : Cn l G yX4_stepRow cX4_stepRow 6 none d 0 [aR s, aI lv, aI (fa lv)] γ μ (fun rr γ' μ' => rr = none ∧ γ' = γ ∧ (∀ j, 0 ≤ j → j < n → μ' (s + 18) j = (f j + st lv j) % q) ∧ ∀ y j, y ≠ s + 18 → μ' y j = μ y j) := by
  refine Cn.ofP hl (plainFor_of_name (by decide)) (noLc nlR (noLc nlI (noL1 nlI))) rfl (fun P hP o1 o3 X hX hC => B_X4_stepRow_0 hC hs.o ?_)
  obtain ⟨-, g0, s1, g1, s2, g2, s17, g3, s18, g4, s19, hr⟩ := id hs
  have hn := hS.1
  have hq := hS.2.1
  have h14 := hS.2.2.1
  obtain ⟨w1, w2, w3, w4, w5⟩ := hS.2.2.2.1 lv h0 h1
  have hrl := hr lv h0 (by omega)
  rw [g1, hrl.1]
  refine ⟨ixO s2 (by omega), ?_⟩
  have loop := rem_ind (n := n) (P := fun i => fa lv ≤ i → ∀ m : Mu, (∀ y j, y ≠ s + 18 → m y j = μ y j) → (∀ j, 0 ≤ j → j < n → m (s + 18) j = if j < i then (f j + st lv j) % q else f j) → V X G (Qm X G 0 P) 0 10 [aR s, aD, aD, aR (s + 3 + lv), aI i, aD] [] γ m) (fun i i0 i1 ih hai m fm mr => ?_)
  · refine loop (fa lv) w1.1 (by omega) (Int.le_refl _) μ (fun _ _ _ => rfl) (fun j z1 z2 => ?_)
    split
    · have := hfq j z1 z2
      rw [w3 j z1 (by assumption), Int.add_zero, Int.emod_eq_of_lt this.1 this.2]
      exact hf j z1 z2
    · exact hf j z1 z2
  · refine B_X4_stepRow_10 hC hs.o ?_
    rw [g3, fm s 6 (by omega), fm s 7 (by omega), hM.2.1, hM.2.2.1]
    refine ⟨fun h => ⟨Nat.le_refl _, hP _ _ _ ⟨rfl, rfl, fun j z1 z2 => by rw [mr j z1 z2, if_pos (by omega)], fm⟩⟩, fun h => ?_⟩
    have hfi := hfq i i0 (by omega)
    have hsi := w2 i i0 (by omega)
    rw [fm (s + 3 + lv) i (by omega), (hM.2.2.2.1 lv h0 h1).2 i i0 (by omega), mr i i0 (by omega), if_neg (by omega)]
    have go : ∀ z, z = (f i + st lv i) % q → V X G (Qm X G 0 P) 0 10 [aR s, aD, aD, aR (s + 3 + lv), aI (i + 1), aD] [] γ (up m (s + 18) i z) := fun z hz => by
      refine ih (by omega) (by omega) _ (fun y j z1 => by rw [up_ne (by omega)]; exact fm y j z1) (fun j z1 z2 => ?_)
      by_cases e : j = i
      · rw [e, up_same, if_pos (by omega), hz]
      · rw [up_ne (by omega), mr j z1 z2]
        by_cases e2 : j < i
        · rw [if_pos e2, if_pos (by omega)]
        · rw [if_neg e2, if_neg (by omega)]
    refine ⟨ixO hrl.2 (by omega), fun h2 => ⟨by constructor <;> omega, ih (by omega) (by omega) m fm (fun j z1 z2 => ?_)⟩, fun h2 => ⟨ixO s18 (by omega), by constructor <;> omega, fun h3 => ⟨by constructor <;> omega, go _ ?_⟩, fun h3 => ⟨by constructor <;> omega, by constructor <;> omega, go _ ?_⟩⟩⟩
    · rw [mr j z1 z2]
      by_cases e : j = i
      · rw [e, if_neg (by omega), if_pos (by omega), h2, Int.add_zero, Int.emod_eq_of_lt hfi.1 hfi.2]
      · by_cases e2 : j < i
        · rw [if_pos e2, if_pos (by omega)]
        · rw [if_neg e2, if_neg (by omega)]
    · rw [Int.emod_eq_of_lt (by omega) h3]
    · rw [← Int.sub_emod_right, Int.emod_eq_of_lt (by omega) (by omega)]
/-- the search goes through all rows that the free digits from a level on make -/
theorem c_seek (hl : l.stackTraces = false) {s n q : Int} {F : Nat} {fa r : Int → Int} {st cs : Int → Int → Int} (hs : SrchAt G γ s) (hS : SrW n q F fa st cs r) : ∀ (k : Nat) (dp : Nat) (lv : Int) (cost : Int) (μ : Mu) (d : Int → Int) (D : (Int → Int) → Prop), k + 1 ≤ dp → 0 ≤ lv → lv + k = F → SrS μ s n q F fa st cs → dgs q F d → (∀ i : Int, lv ≤ i → i < F → d i = 0) → (∀ j, 0 ≤ j → j < n → μ (s + 18) j = mixI q (gsR F st) r d j) → cost = ctS cs (mixI q (gsR F st) r d) (plF n F fa lv) → cost < μ s 8 → BstC n cs D (μ s 8) (μ (s + 19)) → (∀ x y, D x → ExtD q F st r d lv y → Lx n x y) →
    Cn l G yX4_seek cX4_seek 7 none dp 0 [aR s, aI lv, aI cost] γ μ (fun rr γ' μ' => rr = none ∧ γ' = γ ∧ (∀ j, 0 ≤ j → j < n → μ' (s + 18) j = mixI q (gsR F st) r d j) ∧ BstC n cs (fun x => D x ∨ ExtD q F st r d lv x) (μ' s 8) (μ' (s + 19)) ∧ ∀ y j, y ≠ s + 18 → y ≠ s + 19 → (y = s → j ≠ 8) → μ' y j = μ y j) := by
  have hn := hS.1
  have hq := hS.2.1
  have h14 := hS.2.2.1
  obtain ⟨-, g0, s1, g1, s2, g2, s17, g3, s18, g4, s19, hr⟩ := id hs
  intro k
  induction k with
  | zero =>
    intro dp lv cost μ d D hdp h0 hk hM hd hdz hrow hcost hlt hB hord
    refine Cn.ofP hl (plainFor_of_name (by decide)) (noLc nlR (noLc nlI (noL1 nlI))) rfl (fun P hP o1 o3 X hX hC => B_X4_seek_0 hC ?_)
    rw [hM.1, g3, g4]
    refine ⟨hs.o, fun h => absurd h (by omega), fun _ => ⟨cpyI s18 s19, by omega, Nat.le_refl _, hP _ _ _ ⟨rfl, rfl, fun j z1 z2 => ?_, ?_, fun y j z1 z2 z3 => ?_⟩⟩⟩
    · rw [cpy_off (by omega), up_ne (by omega)]
      exact hrow j z1 z2
    · rw [cpy_off (by omega), up_same]
      have hpl : plF n F fa lv = n := by unfold plF; rw [if_neg (by omega)]
      rw [hpl] at hcost
      rw [hcost]
      rw [hcost] at hlt
      refine (hB.take hn.1 (ctS_nn hS (mixI_in (by omega)) hn.1 (Int.le_refl _)).2.1 hlt (B' := cpy (up μ s 8 (ctS cs (mixI q (gsR F st) r d) n)) (s + 18) 0 (s + 19) 0 36 (s + 19)) (fun j z1 z2 => ?_)).iff (fun x => ?_)
      · rw [cpy_in ⟨z1, by omega⟩, up_ne (by omega)]
        exact hrow j z1 z2
      · constructor
        · rintro (w | w)
          · exact Or.inl w
          · exact Or.inr ⟨d, hd, fun _ _ _ => rfl, w⟩
        · rintro (w | ⟨e, e1, e2, e3⟩)
          · exact Or.inl w
          · refine Or.inr (e3.trans (mixI_cong (fun i z1 z2 => e2 i z1 ?_)))
            have z2' : i < F := z2
            omega
    · rw [cpy_off z2, up_ne (by omega)]
  | succ k ih =>
    intro dp lv cost μ d D hdp h0 hk hM hd hdz hrow hcost hlt hB hord
    have hlv : lv < F := by omega
    obtain ⟨pl1, pl2⟩ := plF_s hS h0 hlv
    have plb := plF_b hS (show 0 ≤ lv + 1 by omega)
    have dl0 := hdz lv (Int.le_refl _) hlv
    obtain ⟨w1, w2, w3, w4, w5⟩ := hS.2.2.2.1 lv h0 hlv
    refine Cn.ofP hl (plainFor_of_name (by decide)) (noLc nlR (noLc nlI (noL1 nlI))) rfl (fun P hP o1 o3 X hX hC => B_X4_seek_0 hC ?_)
    rw [hM.1]
    refine ⟨hs.o, fun _ => ⟨0, 0, _, by omega, Nat.le_refl _, hX ▸ c_placeOfFree hl 0 hs hM h14 h0, PI.use ?_⟩, fun h => absurd hlv h⟩
    rw [pl1]
    refine B_X4_seek_34 hC ⟨by constructor <;> omega, hs.o, 0, 0, _, by omega, Nat.le_refl _, hX ▸ c_placeOfFree hl 0 hs hM h14 (by omega), PI.use ?_⟩
    refine B_X4_seek_42 hC ?_
    have loop := rem_ind (n := q) (P := fun v => ∀ m : Mu, (∀ y j, y ≠ s + 18 → y ≠ s + 19 → (y = s → j ≠ 8) → m y j = μ y j) → (∀ j, 0 ≤ j → j < n → m (s + 18) j = mixI q (gsR F st) r (fup d lv v) j) → BstC n cs (fun x => D x ∨ ∃ u, 0 ≤ u ∧ u < v ∧ ExtD q F st r (fup d lv u) (lv + 1) x) (m s 8) (m (s + 19)) → V X G (Qm X G 0 P) 0 47 [aR s, aI lv, aI cost, aI (fa lv), aI (plF n F fa (lv + 1)), aI v, aD] [] γ m) (fun v v0 v1 ihv m fm mr mB => ?_)
    · exact loop 0 (by omega) (by omega) μ (fun _ _ _ _ _ => rfl) (fun j z1 z2 => by rw [mix_0 h0 hlv dl0]; exact hrow j z1 z2) (hB.iff (fun x => ⟨Or.inl, fun z => z.elim id (fun ⟨u, u0, u1, _⟩ => by omega)⟩))
    · have mM : SrS m s n q F fa st cs := hM.fr h14 (fun y j z1 z2 z3 => fm y j (by omega) (by omega) z3)
      refine B_X4_seek_47 hC ?_
      rw [mM.2.2.1]
      refine ⟨hs.o, fun h => ⟨Nat.le_refl _, hP _ _ _ ⟨rfl, rfl, fun j z1 z2 => ?_, mB.iff (fun x => ?_), fm⟩⟩, fun h => ?_⟩
      · obtain rfl : v = q := by omega
        rw [mr j z1 z2, mix_q h0 hlv dl0]
      · obtain rfl : v = q := by omega
        rw [ext_split h0 hlv]
      · have hv : 0 ≤ v ∧ v < q := ⟨v0, by omega⟩
        have dv : dgs q F (fup d lv v) := dgs_fup hd hv
        have mq : inQ n q (mixI q (gsR F st) r (fup d lv v)) := mixI_in (by omega)
        have ec : cost = ctS cs (mixI q (gsR F st) r (fup d lv v)) (fa lv) := by
          rw [hcost, pl1]
          refine ctS_cong w1.1 (fun j z1 z2 => ?_)
          exact (ext_val hS h0 (d := d) (lv := lv) (x := mixI q (gsR F st) r (fup d lv v)) ⟨fup d lv v, dv, fun i z1 z2 => fup_n (by omega), rfl⟩ z1 (by rw [pl1]; exact z2)).symm
        have b1 := ctS_nn hS mq (p := fa lv) w1.1 (by omega)
        have b2 := ctS_nn hS mq (p := plF n F fa (lv + 1)) plb.1 plb.2
        refine ⟨0, 0, _, by omega, Nat.le_refl _, hX ▸ c_costOf hl 0 hs mM hS mr mq w1.1 (by omega) plb.2, PI.use ?_⟩
        refine B_X4_seek_64 hC ?_
        rw [show cost + (ctS cs (mixI q (gsR F st) r (fup d lv v)) (plF n F fa (lv + 1)) - ctS cs (mixI q (gsR F st) r (fup d lv v)) (fa lv)) = ctS cs (mixI q (gsR F st) r (fup d lv v)) (plF n F fa (lv + 1)) by omega]
        have ord : ∀ x y, (D x ∨ ∃ u, 0 ≤ u ∧ u < v ∧ ExtD q F st r (fup d lv u) (lv + 1) x) → ExtD q F st r (fup d lv v) (lv + 1) y → Lx n x y := fun x y hx hy => by
          rcases hx with w | ⟨u, u0, u1, w⟩
          · exact hord x y w ((ext_split h0 hlv).mpr ⟨v, hv.1, hv.2, hy⟩)
          · exact ext_order hS h0 hlv ⟨u0, by omega⟩ hv u1 w hy
        have fin : ∀ m2 : Mu, (∀ y j, y ≠ s + 18 → y ≠ s + 19 → (y = s → j ≠ 8) → m2 y j = m y j) → (∀ j, 0 ≤ j → j < n → m2 (s + 18) j = mixI q (gsR F st) r (fup d lv v) j) → BstC n cs (fun x => (D x ∨ ∃ u, 0 ≤ u ∧ u < v ∧ ExtD q F st r (fup d lv u) (lv + 1) x) ∨ ExtD q F st r (fup d lv v) (lv + 1) x) (m2 s 8) (m2 (s + 19)) → V X G (Qm X G 0 P) 0 85 [aR s, aI lv, aI cost, aI (fa lv), aI (plF n F fa (lv + 1)), aI v, aD] [] γ m2 := fun m2 f2 r2 B2 => by
          refine B_X4_seek_85 hC ⟨hs.o, 0, 0, _, by omega, Nat.le_refl _, hX ▸ c_stepRow hl 0 hs (mM.fr h14 (fun y j z1 z2 z3 => f2 y j (by omega) (by omega) z3)) hS h0 hlv r2 mq, ?_⟩
          rintro rr γ m3 ⟨rfl, rfl, c1, c2⟩
          refine B_X4_seek_91 hC ⟨by constructor <;> omega, ihv (by omega) m3 (fun y j z1 z2 z3 => by rw [c2 y j z1, f2 y j z1 z2 z3]; exact fm y j z1 z2 z3) (fun j z1 z2 => by rw [c1 j z1 z2, mix_step h0 hlv]) ?_⟩
          rw [c2 s 8 (by omega), show m3 (s + 19) = m2 (s + 19) from funext (fun j => c2 _ j (by omega))]
          refine B2.iff (fun x => ⟨?_, ?_⟩)
          · rintro ((w | ⟨u, u0, u1, w⟩) | w)
            · exact Or.inl w
            · exact Or.inr ⟨u, u0, by omega, w⟩
            · exact Or.inr ⟨v, v0, by omega, w⟩
          · rintro (w | ⟨u, u0, u1, w⟩)
            · exact Or.inl (Or.inl w)
            · by_cases e : u = v
              · rw [e] at w; exact Or.inr w
              · exact Or.inl (Or.inr ⟨u, u0, by omega, w⟩)
        refine ⟨by constructor <;> omega, hs.o, fun h2 => fin m (fun _ _ _ _ _ => rfl) mr (mB.skip (fun y hy => ?_) ord), fun h2 => ⟨by constructor <;> omega, k + 1, 0, _, by omega, Nat.le_refl _, hX ▸ ih (k + 1) (lv + 1) _ m (fup d lv v) _ (Nat.le_refl _) (by omega) (by omega) mM dv (fun i z1 z2 => by rw [fup_n (by omega)]; exact hdz i (by omega) z2) mr rfl (by omega) mB ord, ?_⟩⟩
        · have := ext_cost hS (show 0 ≤ lv + 1 by omega) hy
          omega
        · rintro rr γ m2 ⟨rfl, rfl, c1, c2, c3⟩
          exact fin m2 c3 c1 c2
theorem BstC.best {n L : Int} {cs : Int → Int → Int} {D : (Int → Int) → Prop} {B : Int → Int} (h : BstC n cs D L B) : BestD n (fun f => if ctS cs f n < 1000 then ctS cs f n else -1) D (if L < 1000 then L else -1) B := by
  rcases h with ⟨a1, a2⟩ | ⟨a1, ⟨x, a2, a3⟩, a4, a5⟩
  · refine Or.inl ⟨by rw [if_neg (by omega)], fun x hx => ?_⟩
    have := a2 x hx
    show (if ctS cs x n < 1000 then ctS cs x n else -1) = -1
    rw [if_neg (by omega)]
  · rw [if_pos a1.2]
    refine Or.inr ⟨a1.1, ⟨x, a2, a3⟩, by show (if ctS cs B n < 1000 then ctS cs B n else -1) = L; rw [a4, if_pos a1.2], fun y hy => ?_⟩
    show (if ctS cs y n < 1000 then ctS cs y n else -1) = -1 ∨ L < (if ctS cs y n < 1000 then ctS cs y n else -1) ∨ (L = (if ctS cs y n < 1000 then ctS cs y n else -1) ∧ _)
    split
    · exact Or.inr (a5 y hy)
    · exact Or.inl rfl
theorem c_run (hl : l.stackTraces = false) (dp : Nat) (hdp : 16 ≤ dp) {s n q : Int} {F : Nat} {fa r : Int → Int} {st cs : Int → Int → Int} (hs : SrchAt G γ s) (hS : SrW n q F fa st cs r) (hM : SrS μ s n q F fa st cs) (hrow : ∀ j, 0 ≤ j → j < n → μ (s + 18) j = r j) : Cn l G yX4_run cX4_run 2 (some .int) dp 0 [aR s] γ μ (fun rr γ' μ' => ∃ z, rr = some (aI z) ∧ γ' = γ ∧ BestD n (fun f => if ctS cs f n < 1000 then ctS cs f n else -1) (fun x => ∃ e, dgs q F e ∧ x = mixI q (gsR F st) r e) z (μ' (s + 19)) ∧ ∀ y j, y ≠ s + 18 → y ≠ s + 19 → (y = s → j ≠ 8) → μ' y j = μ y j) := by
  refine Cn.ofP hl (plainFor_of_name (by decide)) (noL1 nlR) rfl (fun P hP o1 o3 X hX hC => B_X4_run_0 hC hs.o ?_)
  have hn := hS.1
  have hq := hS.2.1
  have h14 := hS.2.2.1
  have plb := plF_b hS (Int.le_refl 0)
  have M1 : SrS (up μ s 8 1000) s n q F fa st cs := hM.fr h14 (fun y j z1 z2 z3 => up_ne (by omega))
  have dz : dgs q F (fun _ => 0) := fun i _ _ => ⟨Int.le_refl _, by show (0 : Int) < q; omega⟩
  have m0 : ∀ j, 0 ≤ j → j < n → mixI q (gsR F st) r (fun _ => 0) j = r j := fun j z1 z2 => by
    have := hS.2.2.2.2.2.2 j z1 z2
    unfold mixI
    rw [sumI_zero (by omega) (fun i _ _ => Int.zero_mul _), Int.add_zero]
    exact Int.emod_eq_of_lt this.1 this.2
  refine ⟨0, 0, _, by omega, Nat.le_refl _, hX ▸ c_placeOfFree hl 0 hs M1 h14 (Int.le_refl _), PI.use ?_⟩
  have R1 : ∀ j, 0 ≤ j → j < n → up μ s 8 1000 (s + 18) j = mixI q (gsR F st) r (fun _ => 0) j := fun j z1 z2 => by rw [up_ne (by omega), hrow j z1 z2, m0 j z1 z2]
  refine B_X4_run_14 hC hs.o ⟨hs.o, 0, 0, _, by omega, Nat.le_refl _, hX ▸ c_costOf hl 0 hs M1 hS R1 (mixI_in (by omega)) (Int.le_refl _) plb.1 plb.2, PI.use ?_⟩
  rw [show ctS cs (mixI q (gsR F st) r (fun _ => 0)) 0 = 0 from rfl, Int.sub_zero]
  have B0 : BstC n cs (fun _ => False) (up μ s 8 1000 s 8) (up μ s 8 1000 (s + 19)) := Or.inl ⟨up_same, fun _ h => h.elim⟩
  have fin : ∀ m : Mu, BstC n cs (fun x => False ∨ ExtD q F st r (fun _ => 0) 0 x) (m s 8) (m (s + 19)) → (∀ y j, y ≠ s + 18 → y ≠ s + 19 → (y = s → j ≠ 8) → m y j = up μ s 8 1000 y j) → V X G (Qm X G 0 P) 0 32 [aR s, aD] [] γ m := fun m hB fm => by
    have hb := (hB.iff (D' := fun x => ∃ e, dgs q F e ∧ x = mixI q (gsR F st) r e) (fun x => ⟨fun z => z.elim False.elim (fun ⟨e, e1, _, e3⟩ => ⟨e, e1, e3⟩), fun ⟨e, e1, e3⟩ => Or.inr ⟨e, e1, fun i z1 z2 => by omega, e3⟩⟩)).best
    have fm2 : ∀ y j, y ≠ s + 18 → y ≠ s + 19 → (y = s → j ≠ 8) → m y j = μ y j := fun y j z1 z2 z3 => by rw [fm y j z1 z2 z3, up_ne (by omega)]
    refine B_X4_run_32 hC hs.o ⟨fun h => ⟨Nat.le_refl _, hP _ _ _ ⟨-1, rfl, rfl, ?_, fm2⟩⟩, fun h => ⟨Nat.le_refl _, hP _ _ _ ⟨m s 8, rfl, rfl, ?_, fm2⟩⟩⟩
    · rw [if_neg (by omega)] at hb; exact hb
    · rw [if_pos (by omega)] at hb; exact hb
  refine B_X4_run_17 hC hs.o ⟨fun h => fin _ (B0.skip (fun y hy => ?_) (fun x y hx => hx.elim)) (fun _ _ _ _ _ => rfl), fun h => ⟨15, 0, _, by omega, Nat.le_refl _, hX ▸ c_seek hl hs hS F 15 0 _ (up μ s 8 1000) (fun _ => 0) (fun _ => False) (by omega) (Int.le_refl _) (by omega) M1 dz (fun _ _ _ => rfl) R1 rfl (by omega) B0 (fun x y hx => hx.elim), ?_⟩⟩
  · have := ext_cost hS (Int.le_refl 0) hy
    omega
  · rintro rr γ m ⟨rfl, rfl, c1, c2, c3⟩
    exact fin m c2 c3
end CSearch
