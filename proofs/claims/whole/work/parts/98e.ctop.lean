/-! chases are linear; top rows by which all goes out; the class: top -/
def kapV (σ : Mu) (x y : Int) : Int := if σ 2 x ≠ 0 ∨ sA σ x y = 0 then 0 else invQ (sA σ x y) (σ 0 1)
def chG (σ : Mu) (g f : Int → Int) (t : Int) : Int → Int := foldI (fun f t => stpV σ f (σ 0 2 + t) (chsG σ g f (σ 0 2 + t) t)) f t
theorem chF_G {σ : Mu} {f : Int → Int} {t : Int} : chF σ f t = chG σ (σ 4) f t := rfl
theorem chG_s {σ : Mu} {g f : Int → Int} {t : Int} (h : 0 ≤ t) : chG σ g f (t + 1) = stpV σ (chG σ g f t) (σ 0 2 + t) (chsG σ g (chG σ g f t) (σ 0 2 + t) t) := foldI_s h
theorem chG_in {σ : Mu} (hW : Wf σ) {g f : Int → Int} {n : Int} (hf : inQ n (σ 0 1) f) {m : Int} : ∀ t, 0 ≤ t → t ≤ m → inQ n (σ 0 1) (chG σ g f t) := foldI_ind (P := fun _ h => inQ n (σ 0 1) h) hf (fun _ _ _ _ _ => stpV_in hW)
theorem chs_cg {σ : Mu} (hW : Wf σ) {g f : Int → Int} {x y : Int} : cg (σ 0 1) (chsG σ g f x y) (kapV σ x y * (g y - f y)) := by
  unfold chsG kapV
  split
  · rw [Int.zero_mul]
  · refine Eq.trans cg_mod ?_
    rw [Int.mul_comm (invQ _ _)]
    refine cg_mul ?_ rfl
    refine Eq.trans cg_mod ?_
    show (g y - f y + σ 0 1) % σ 0 1 = (g y - f y) % σ 0 1
    rw [Int.add_emod_right]
theorem chG_cg {σ : Mu} (hW : Wf σ) {g f : Int → Int} {t j : Int} (h : 0 ≤ t) : cg (σ 0 1) (chG σ g f (t + 1) j) (chG σ g f t j + kapV σ (σ 0 2 + t) t * (g t - chG σ g f t t) * sA σ (σ 0 2 + t) j) := by
  rw [chG_s h]
  refine Eq.trans cg_mod ?_
  exact cg_add rfl (cg_mul (chs_cg hW) rfl)
/-- a chase of a sum is the sum of chases -/
theorem chG_lin {σ : Mu} (hW : Wf σ) {g u f0 d : Int → Int} (hw : 0 ≤ σ 0 2 ∧ σ 0 2 ≤ σ 0 0) (hu : ∀ j, 0 ≤ j → j < σ 0 0 → cg (σ 0 1) (u j) (f0 j + sumI (fun x => d x * sA σ x j) (σ 0 2))) : ∀ t, 0 ≤ t → t ≤ σ 0 0 - σ 0 2 → ∀ j, 0 ≤ j → j < σ 0 0 → cg (σ 0 1) (chG σ g u t j) (chG σ g f0 t j + sumI (fun x => d x * chG σ (fun _ => 0) (sA σ x) t j) (σ 0 2)) :=
  int_ind (P := fun t => t ≤ σ 0 0 - σ 0 2 → ∀ j, 0 ≤ j → j < σ 0 0 → cg (σ 0 1) (chG σ g u t j) (chG σ g f0 t j + sumI (fun x => d x * chG σ (fun _ => 0) (sA σ x) t j) (σ 0 2))) (fun _ => hu) (fun t t0 ih h j j0 j1 => by
    have i1 := ih (by omega) j j0 j1
    have i2 := ih (by omega) t t0 (by omega)
    generalize hk : kapV σ (σ 0 2 + t) t = κ
    generalize ha : sA σ (σ 0 2 + t) j = a
    have e1 := chG_cg hW (g := g) (f := u) (j := j) t0
    have e2 := chG_cg hW (g := g) (f := f0) (j := j) t0
    rw [hk, ha] at e1 e2
    have e3 : cg (σ 0 1) (sumI (fun x => d x * chG σ (fun _ => 0) (sA σ x) (t + 1) j) (σ 0 2)) (sumI (fun x => d x * chG σ (fun _ => 0) (sA σ x) t j) (σ 0 2) + -(κ * a) * sumI (fun x => d x * chG σ (fun _ => 0) (sA σ x) t t) (σ 0 2)) := by
      rw [← sumI_mul hw.1, ← sumI_add hw.1]
      refine cg_sum hw.1 (fun x _ _ => ?_)
      have e4 := chG_cg hW (g := fun _ => 0) (f := sA σ x) (j := j) t0
      rw [hk, ha] at e4
      refine (cg_mul (q := σ 0 1) (a := d x) (b := d x) rfl e4).trans ?_
      rw [Int.mul_add, Int.zero_sub, Int.mul_neg, Int.neg_mul, Int.mul_neg, Int.neg_mul]
      show (_ + -(d x * (κ * chG σ (fun _ => 0) (sA σ x) t t * a))) % σ 0 1 = (_ + -(κ * a * (d x * chG σ (fun _ => 0) (sA σ x) t t))) % σ 0 1
      rw [show d x * (κ * chG σ (fun _ => 0) (sA σ x) t t * a) = κ * a * (d x * chG σ (fun _ => 0) (sA σ x) t t) by ac_rfl]
    refine e1.trans ?_
    have e5 : cg (σ 0 1) (chG σ g u t j + κ * (g t - chG σ g u t t) * a) (chG σ g f0 t j + sumI (fun x => d x * chG σ (fun _ => 0) (sA σ x) t j) (σ 0 2) + κ * (g t - (chG σ g f0 t t + sumI (fun x => d x * chG σ (fun _ => 0) (sA σ x) t t) (σ 0 2))) * a) := cg_add i1 (cg_mul (cg_mul rfl (cg_sub rfl i2)) rfl)
    refine e5.trans ?_
    have e6 := cg_add e2 e3
    refine Eq.trans ?_ e6.symm
    generalize sumI (fun x => d x * chG σ (fun _ => 0) (sA σ x) t j) (σ 0 2) = A1
    generalize sumI (fun x => d x * chG σ (fun _ => 0) (sA σ x) t t) (σ 0 2) = A2
    generalize chG σ g f0 t j = P1
    have e7 : κ * (g t - (chG σ g f0 t t + A2)) * a = κ * (g t - chG σ g f0 t t) * a + -(κ * a) * A2 := by
      rw [show g t - (chG σ g f0 t t + A2) = (g t - chG σ g f0 t t) + -A2 by omega, Int.mul_add, Int.add_mul, Int.mul_neg, Int.neg_mul, Int.neg_mul, show κ * A2 * a = κ * a * A2 by ac_rfl]
    rw [e7]
    congr 1
    omega)
theorem tp_lin {σ : Mu} {dg : Int → Int} {j : Int} : ∀ m, 0 ≤ m → cg (σ 0 1) (tpF σ dg m j) (σ 3 j + sumI (fun x => dg x * sA σ x j) m) :=
  int_ind (P := fun m => cg (σ 0 1) (tpF σ dg m j) (σ 3 j + sumI (fun x => dg x * sA σ x j) m)) (by show cg (σ 0 1) (σ 3 j) (σ 3 j + 0); rw [Int.add_zero]) (fun i i0 ih => by
    have e : tpF σ dg (i + 1) = stpV σ (tpF σ dg i) i (dg i) := foldI_s i0
    rw [e, sumI_s i0]
    refine Eq.trans cg_mod ?_
    rw [← Int.add_assoc]
    exact cg_add ih rfl)
/-- what a press of a top button does, when it is chased -/
def tvF (σ : Mu) (x : Int) : Int → Int := chG σ (fun _ => 0) (sA σ x) (σ 0 0 - σ 0 2)
def cwF (σ : Mu) : Int → Int := chG σ (σ 4) (σ 3) (σ 0 0 - σ 0 2)
def tgF (σ : Mu) : Int → Int := fun j => (σ 4 j - cwF σ j + σ 0 1) % σ 0 1
theorem out_iff {σ : Mu} (hW : Wf σ) (hw : 1 ≤ σ 0 2 ∧ σ 0 2 ≤ σ 0 0) {dg : Int → Int} : allI (eqP (outV σ dg) (σ 4)) (σ 0 0) ≠ 0 ↔ ∀ j, 0 ≤ j → j < σ 0 0 → cg (σ 0 1) (sumI (fun x => dg x * tvF σ x j) (σ 0 2)) (tgF σ j) := by
  have hn := hW.1
  have hq := hW.2.1.b
  have lin : ∀ j, 0 ≤ j → j < σ 0 0 → cg (σ 0 1) (outV σ dg j) (cwF σ j + sumI (fun x => dg x * tvF σ x j) (σ 0 2)) := fun j j0 j1 => chG_lin hW (g := σ 4) (u := tpF σ dg (σ 0 2)) (f0 := σ 3) (d := dg) (by omega) (fun j _ _ => tp_lin _ (by omega)) (σ 0 0 - σ 0 2) (by omega) (Int.le_refl _) j j0 j1
  have oq : inQ (σ 0 0) (σ 0 1) (outV σ dg) := by
    refine chG_in hW ?_ (m := σ 0 0 - σ 0 2) _ (by omega) (Int.le_refl _)
    have : ∀ m, 0 ≤ m → m ≤ σ 0 2 → inQ (σ 0 0) (σ 0 1) (tpF σ dg m) := foldI_ind (P := fun _ h => inQ (σ 0 0) (σ 0 1) h) (fun j z1 z2 => (hW.st j z1 (by omega)).1) (fun _ _ _ _ _ => stpV_in hW)
    exact this _ (by omega) (Int.le_refl _)
  rw [allI_iff hn.1]
  have tg : ∀ j, cg (σ 0 1) (tgF σ j) (σ 4 j - cwF σ j) := fun j => by
    refine Eq.trans cg_mod ?_
    show (σ 4 j - cwF σ j + σ 0 1) % σ 0 1 = (σ 4 j - cwF σ j) % σ 0 1
    rw [Int.add_emod_right]
  constructor
  · intro h j j0 j1
    have e : outV σ dg j = σ 4 j := by
      have := h j j0 j1
      unfold eqP at this
      by_cases w : outV σ dg j = σ 4 j
      · exact w
      · rw [if_neg w] at this; exact absurd rfl this
    have l1 := lin j j0 j1
    rw [e] at l1
    refine Eq.trans ?_ (tg j).symm
    have := cg_sub l1.symm (rfl : cg (σ 0 1) (cwF σ j) (cwF σ j))
    rw [show cwF σ j + sumI (fun x => dg x * tvF σ x j) (σ 0 2) - cwF σ j = sumI (fun x => dg x * tvF σ x j) (σ 0 2) by omega] at this
    exact this
  · intro h j j0 j1
    have e : outV σ dg j = σ 4 j := by
      refine cg_eq ((lin j j0 j1).trans ?_) (oq j j0 j1) (hW.wi j j0 (by omega)).1
      have := cg_add (rfl : cg (σ 0 1) (cwF σ j) (cwF σ j)) ((h j j0 j1).trans (tg j))
      rw [show cwF σ j + (σ 4 j - cwF σ j) = σ 4 j by omega] at this
      exact this
    unfold eqP
    rw [if_pos e]
    decide
/-- top buttons let in from the last on -/
def gRunT (q n w : Int) (jm : Int → Int) (vec : Int → Int → Int) : Nat → GS
  | 0 => gs0
  | k + 1 => if jm (w - 1 - k) = 0 then gStep q n (gRunT q n w jm vec k) (w - 1 - k) (vec (w - 1 - k)) else gRunT q n w jm vec k
theorem gRunT_GInv {n q w : Int} {jm : Int → Int} {vec : Int → Int → Int} (hq : qP q) (hw : w ≤ n) (hv : ∀ k, 0 ≤ k → k < w → inQ n q (vec k)) : ∀ k : Nat, (k : Int) ≤ w → GInv n q vec (fun a b => b < a) (gRunT q n w jm vec k) (fun b => (w - k ≤ b ∧ b < w) ∧ jm b = 0)
  | 0, _ => GInv_0.iff (fun b => ⟨False.elim, fun w => by omega⟩)
  | k + 1, hk => by
    have ih := gRunT_GInv (jm := jm) hq hw hv k (by omega)
    unfold gRunT
    split
    · rename_i hj
      refine (ih.step hq (by omega) (fun w => by omega) (fun a w => by omega) (hv _ (by omega) (by omega))).iff (fun b => ?_)
      constructor
      · rintro (w | w)
        · exact ⟨by omega, w.2⟩
        · rw [w]; exact ⟨by omega, hj⟩
      · rintro ⟨w1, w2⟩
        by_cases e : b = w - 1 - k
        · exact Or.inr e
        · exact Or.inl ⟨by omega, w2⟩
    · rename_i hj
      refine ih.iff (fun b => ⟨fun v => ⟨by omega, v.2⟩, fun v => ⟨⟨?_, v.1.2⟩, v.2⟩⟩)
      by_cases e : b = w - 1 - k
      · rw [e] at v; exact absurd v.2 hj
      · omega
theorem gRunT_ids (q n w : Int) (jm : Int → Int) (vec : Int → Int → Int) : ∀ k : Nat, (∀ i : Int, 0 ≤ i → i < (gRunT q n w jm vec k).c → w - k ≤ (gRunT q n w jm vec k).od i ∧ (gRunT q n w jm vec k).od i < w) ∧ (∀ i : Int, 0 ≤ i → i < (gRunT q n w jm vec k).tc → w - k ≤ (gRunT q n w jm vec k).td i ∧ (gRunT q n w jm vec k).td i < w) ∧ (gRunT q n w jm vec k).c + (gRunT q n w jm vec k).tc ≤ k
  | 0 => ⟨fun i z1 z2 => by have z2' : i < ((0 : Nat) : Int) := z2; omega, fun i z1 z2 => by have z2' : i < ((0 : Nat) : Int) := z2; omega, Nat.le_refl _⟩
  | k + 1 => by
    obtain ⟨h1, h2, h3⟩ := gRunT_ids q n w jm vec k
    have e : gRunT q n w jm vec (k + 1) = if jm (w - 1 - k) = 0 then gStep q n (gRunT q n w jm vec k) (w - 1 - k) (vec (w - 1 - k)) else gRunT q n w jm vec k := rfl
    rw [e]
    by_cases hj : jm (w - 1 - k) = 0
    · rw [if_pos hj]
      have hc := gStep_ct (q := q) (n := n) (id := w - 1 - k) (S := gRunT q n w jm vec k) (f := vec (w - 1 - k))
      have ha := gStep_all (q := q) (n := n) (id := w - 1 - k) (S := gRunT q n w jm vec k) (f := vec (w - 1 - k)) (P := fun b => w - ((k + 1 : Nat) : Int) ≤ b ∧ b < w) (fun i z1 z2 => by have := h1 i z1 z2; omega) (fun i z1 z2 => by have := h2 i z1 z2; omega) (by omega)
      exact ⟨ha.1, ha.2.1, by omega⟩
    · rw [if_neg hj]
      exact ⟨fun i z1 z2 => by have := h1 i z1 z2; omega, fun i z1 z2 => by have := h2 i z1 z2; omega, by omega⟩
abbrev StF (σ : Mu) : GS := gRunT (σ 0 1) (σ 0 0) (σ 0 2) (σ 2) (tvF σ) (σ 0 2).toNat
abbrev AdT (σ : Mu) (b : Int) : Prop := (0 ≤ b ∧ b < σ 0 2) ∧ σ 2 b = 0
theorem tvF_in {σ : Mu} (hW : Wf σ) (hw : 1 ≤ σ 0 2 ∧ σ 0 2 ≤ σ 0 0) {k : Int} (k0 : 0 ≤ k) (k1 : k < σ 0 0) : inQ (σ 0 0) (σ 0 1) (tvF σ k) := chG_in hW (hW.am k k0 k1) (m := σ 0 0 - σ 0 2) _ (by omega) (Int.le_refl _)
theorem Wf.GT {σ : Mu} (hW : Wf σ) (hw : 1 ≤ σ 0 2 ∧ σ 0 2 ≤ σ 0 0) : GInv (σ 0 0) (σ 0 1) (tvF σ) (fun a b => b < a) (StF σ) (AdT σ) := by
  refine (gRunT_GInv (jm := σ 2) hW.2.1 hw.2 (fun k k0 k1 => tvF_in hW hw k0 (by omega)) (σ 0 2).toNat (by omega)).iff (fun b => ?_)
  rw [show σ 0 2 - ((σ 0 2).toNat : Int) = 0 by omega]
theorem sumI_cut {f : Int → Int} {w n : Int} (hw : 0 ≤ w ∧ w ≤ n) (h : ∀ k, w ≤ k → k < n → f k = 0) : sumI f n = sumI f w := by
  have key : ∀ e : Nat, w + e ≤ n → sumI f (w + e) = sumI f w := by
    intro e
    induction e with
    | zero => intro _; rw [show w + ((0 : Nat) : Int) = w by omega]
    | succ e ih => intro he; rw [show w + ((e + 1 : Nat) : Int) = w + e + 1 by omega, sumI_s (by omega), ih (by omega), h _ (by omega) (by omega), Int.add_zero]
  have := key (n - w).toNat (by omega)
  rw [show w + ((n - w).toNat : Int) = n by omega] at this
  exact this
def dgc (σ : Mu) (t : Int) : Int → Int := fun x => if x < σ 0 2 then digT (σ 0 1) (σ 0 2) t x else 0
theorem okT_iff {σ : Mu} (hW : Wf σ) (hw : 1 ≤ σ 0 2 ∧ σ 0 2 ≤ σ 0 0) {t : Int} : okT σ t ≠ 0 ↔ Sol (σ 0 0) (σ 0 1) (tvF σ) (AdT σ) (tgF σ) (dgc σ t) := by
  have hq := hW.2.1.b
  have q0 : 0 < σ 0 1 := by omega
  have e1 : allI (grd σ t) (σ 0 2) ≠ 0 ↔ ∀ x, 0 ≤ x → x < σ 0 2 → digT (σ 0 1) (σ 0 2) t x = 0 ∨ σ 2 x = 0 := by
    rw [allI_iff (by omega)]
    constructor
    · intro h x x0 x1
      have := h (σ 0 2 - 1 - x) (by omega) (by omega)
      unfold grd at this
      rw [show σ 0 2 - 1 - (σ 0 2 - 1 - x) = x by omega] at this
      by_cases w : digT (σ 0 1) (σ 0 2) t x = 0
      · exact Or.inl w
      · have w' : ¬ rst (σ 0 1) t (σ 0 2 - 1 - x).toNat % σ 0 1 = 0 := w
        rw [if_neg w'] at this
        by_cases w2 : σ 2 x = 0
        · exact Or.inr w2
        · rw [if_neg w2] at this; exact absurd rfl this
    · intro h k k0 k1
      have := h (σ 0 2 - 1 - k) (by omega) (by omega)
      unfold digT at this
      rw [show σ 0 2 - 1 - (σ 0 2 - 1 - k) = k by omega] at this
      unfold grd
      rcases this with w | w
      · rw [if_pos w]; decide
      · rw [if_pos w]
        split <;> decide
  have e2 : ∀ j, LC (σ 0 0) (tvF σ) (dgc σ t) j = sumI (fun x => digT (σ 0 1) (σ 0 2) t x * tvF σ x j) (σ 0 2) := fun j => by
    unfold LC
    rw [sumI_cut (w := σ 0 2) (by omega) (fun k k0 k1 => by unfold dgc; rw [if_neg (by omega), Int.zero_mul])]
    exact sumI_cong (by omega) (fun x x0 x1 => by unfold dgc; rw [if_pos x1])
  unfold okT
  constructor
  · intro h
    have g1 : allI (grd σ t) (σ 0 2) ≠ 0 := fun w => h (by rw [if_pos w])
    rw [if_neg g1] at h
    have g2 := e1.mp g1
    refine ⟨fun k k0 k1 k2 => ?_, fun k _ _ => ?_, fun j j0 j1 => ?_⟩
    · unfold dgc
      split
      · rename_i w
        exact (g2 k k0 w).resolve_right (fun z => k2 ⟨⟨k0, w⟩, z⟩)
      · rfl
    · unfold dgc
      split
      · exact ⟨Int.emod_nonneg _ (by omega), Int.emod_lt_of_pos _ q0⟩
      · omega
    · rw [e2]
      exact (out_iff hW hw).mp h j j0 j1
  · rintro ⟨s1, s2, s3⟩
    have g1 : allI (grd σ t) (σ 0 2) ≠ 0 := e1.mpr (fun x x0 x1 => by
      by_cases w : σ 2 x = 0
      · exact Or.inr w
      · have := s1 x x0 (by omega) (fun z => w z.2)
        unfold dgc at this
        rw [if_pos x1] at this
        exact Or.inl this)
    rw [if_neg g1]
    exact (out_iff hW hw).mpr (fun j j0 j1 => by rw [← e2]; exact s3 j j0 j1)
theorem vlN_lt {q : Int} (hq : 0 < q) {D E : Int → Int} : ∀ w : Nat, dgs q w D → dgs q w E → vlN q D w < vlN q E w → ∃ i : Int, 0 ≤ i ∧ i < w ∧ D i < E i ∧ ∀ k, i < k → k < w → D k = E k
  | 0, _, _, h => by
    have h' : (0 : Int) < 0 := h
    omega
  | w + 1, hD, hE, h => by
    have h' : vlN q D w + D w * q ^ w < vlN q E w + E w * q ^ w := h
    have hD' : dgs q w D := fun i z1 z2 => hD i z1 (by omega)
    have hE' : dgs q w E := fun i z1 z2 => hE i z1 (by omega)
    have b1 := vlN_b hq w hD'
    have b2 := vlN_b hq w hE'
    rcases Int.lt_trichotomy (D w) (E w) with c | c | c
    · exact ⟨w, by omega, by omega, c, fun k z1 z2 => by omega⟩
    · rw [c] at h'
      obtain ⟨i, i0, i1, i2, i3⟩ := vlN_lt hq w hD' hE' (by omega)
      refine ⟨i, i0, by omega, i2, fun k z1 z2 => ?_⟩
      by_cases e : k = w
      · rw [e]; exact c
      · exact i3 k z1 (by omega)
    · exfalso
      have : (E w + 1) * q ^ w ≤ D w * q ^ w := Int.mul_le_mul_of_nonneg_right (by omega) (by omega)
      rw [Int.add_mul, Int.one_mul] at this
      omega
theorem dig_of {q w : Int} (hq : 0 < q) (hw : 0 ≤ w) {y : Int → Int} (hy : inQ w q y) {x : Int} (x0 : 0 ≤ x) (x1 : x < w) : digT q w (vlN q (fun i => y (w - 1 - i)) w.toNat) x = y x := by
  have : digT q w (vlN q (fun i => y (w - 1 - i)) w.toNat) x = dgF q (vlN q (fun i => y (w - 1 - i)) w.toNat) (w - 1 - x) := rfl
  rw [this, dg_vl hq (fun i z1 z2 => hy _ (by omega) (by omega)) (by omega) (by omega), show w - 1 - (w - 1 - x) = x by omega]
abbrev ntF (σ : Mu) : Int → Int := exN (σ 0 1) (StF σ) (tgF σ) (StF σ).c
theorem top_math {σ : Mu} (hW : Wf σ) (hw : 1 ≤ σ 0 2 ∧ σ 0 2 ≤ σ 0 0) : topF σ = if ff (gvR (σ 0 1) (StF σ) (tgF σ)) (σ 0 0) = -1 then vlN (σ 0 1) (ntF σ) (σ 0 2).toNat else -1 := by
  have hn := hW.1
  have hq := hW.2.1.b
  have q0 : 0 < σ 0 1 := by omega
  have hG := hW.GT hw
  have tq : inQ (σ 0 0) (σ 0 1) (tgF σ) := fun j _ _ => ⟨Int.emod_nonneg _ (by omega), Int.emod_lt_of_pos _ q0⟩
  have ld := hG.lead hq.1 hn.1 tq
  have hp := pw_pos q0 (σ 0 2).toNat
  unfold topF
  rw [if_neg (by omega)]
  by_cases h : ff (gvR (σ 0 1) (StF σ) (tgF σ)) (σ 0 0) = -1
  · rw [if_pos h]
    obtain ⟨s1, s2⟩ := ld.1 h
    have en : ∀ k, 0 ≤ k → k < σ 0 0 → ntF σ k = (σ 0 1 - (gv (σ 0 1) (StF σ).op (StF σ).ov (StF σ).om (StF σ).c (tgF σ) (fun _ => 0)).2 k) % σ 0 1 := fun k k0 k1 => exN_eq2 hq.1 tq k0 k1
    have nS := s1.cong (y' := ntF σ) hn.1 en
    have nO : ∀ k, 0 ≤ k → k < σ 0 0 → ¬ OwnD (StF σ) k → ntF σ k = 0 := fun k k0 k1 k2 => by rw [en k k0 k1]; exact s2 k k0 k1 k2
    have nq : inQ (σ 0 2) (σ 0 1) (ntF σ) := fun k k0 k1 => nS.2.1 k k0 (by omega)
    generalize hT : vlN (σ 0 1) (fun i => ntF σ (σ 0 2 - 1 - i)) (σ 0 2).toNat = T
    have hTb := vlN_b q0 (σ 0 2).toNat (d := fun i => ntF σ (σ 0 2 - 1 - i)) (fun i z1 z2 => nq _ (by omega) (by omega))
    rw [hT] at hTb
    have dT : ∀ x, 0 ≤ x → x < σ 0 2 → digT (σ 0 1) (σ 0 2) T x = ntF σ x := fun x x0 x1 => by rw [← hT]; exact dig_of q0 (by omega) nq x0 x1
    have okTT : okT σ T ≠ 0 := (okT_iff hW hw).mpr (nS.cong hn.1 (fun k k0 k1 => by
      unfold dgc
      by_cases e : k < σ 0 2
      · rw [if_pos e]; exact dT k k0 e
      · rw [if_neg e]; exact (nS.1 k k0 k1 (fun z => e z.1.2)).symm))
    have least : ∀ t, 0 ≤ t → t < T → okT σ t = 0 := fun t t0 t1 => by
      refine Decidable.byContradiction (fun hne => ?_)
      have sS := (okT_iff hW hw).mp hne
      obtain ⟨d, d1, d2⟩ := hG.mix_sol hq.1 hn.1 nS sS
      have e1 : vlN (σ 0 1) (dgF (σ 0 1) t) (σ 0 2).toNat = t := vl_dg q0 _ t t0 (by omega)
      have e2 : vlN (σ 0 1) (dgF (σ 0 1) T) (σ 0 2).toNat = T := vl_dg q0 _ T hTb.1 hTb.2
      obtain ⟨i, i0, i1, i2, i3⟩ := vlN_lt q0 (σ 0 2).toNat (D := dgF (σ 0 1) t) (E := dgF (σ 0 1) T) (fun i _ _ => dgF_in q0 i) (fun i _ _ => dgF_in q0 i) (by rw [e1, e2]; exact t1)
      have lx1 : ∀ x, 0 ≤ x → x < σ 0 2 - 1 - i → dgc σ t x = ntF σ x := fun x x0 x1 => by
        rw [← dT x x0 (by omega)]
        unfold dgc
        rw [if_pos (by omega)]
        exact i3 (σ 0 2 - 1 - x) (by omega) (by omega)
      have lx2 : dgc σ t (σ 0 2 - 1 - i) < ntF σ (σ 0 2 - 1 - i) := by
        rw [← dT _ (by omega) (by omega)]
        unfold dgc
        rw [if_pos (by omega)]
        have : (σ 0 2 - 1 - (σ 0 2 - 1 - i)) = i := by omega
        show rst (σ 0 1) t (σ 0 2 - 1 - (σ 0 2 - 1 - i)).toNat % σ 0 1 < rst (σ 0 1) T (σ 0 2 - 1 - (σ 0 2 - 1 - i)).toNat % σ 0 1
        rw [this]
        exact i2
      generalize hP : σ 0 2 - 1 - i = P at *
      -- every tied digit is 0
      have dz : ∀ r : Int, 0 ≤ r → r < (StF σ).tc → (StF σ).td r ≤ P → d r = 0 := by
        have key : ∀ m : Nat, ∀ r : Int, 0 ≤ r → r < (StF σ).tc → (StF σ).td r < m → (StF σ).td r ≤ P → d r = 0 := by
          intro m
          induction m with
          | zero =>
            intro r r0 r1 r2 _
            have := (hG.2.2.2.2.1 r r0 r1).1.2.1
            omega
          | succ m ihm =>
            intro r r0 r1 r2 r3
            obtain ⟨w1, -⟩ := hG.2.2.2.2.1 r r0 r1
            have v1 := d2 _ w1.2.1.1 w1.2.1.2
            have hdr := d1 r r0 r1
            have mv : mixI (σ 0 1) (StF σ) (ntF σ) d ((StF σ).td r) = d r := by
              unfold mixI
              rw [nO _ w1.2.1.1 w1.2.1.2 w1.2.2, sumI_single (k := r) ⟨r0, r1⟩ (fun k k0 k1 k2 => by rw [hG.tvtd k0 k1 r0 r1, if_neg k2, Int.mul_zero]), hG.tvtd r0 r1 r0 r1, if_pos rfl, Int.mul_one, Int.zero_add]
              exact Int.emod_eq_of_lt hdr.1 hdr.2
            rw [mv] at v1
            have nz := nO _ w1.2.1.1 w1.2.1.2 w1.2.2
            by_cases e : (StF σ).td r < P
            · have := lx1 _ w1.2.1.1 e
              omega
            · have e2 : (StF σ).td r = P := by omega
              rw [e2] at v1 nz
              omega
        exact fun r r0 r1 r2 => key ((StF σ).td r + 1).toNat r r0 r1 (by have := (hG.2.2.2.2.1 r r0 r1).1.2.1; omega) r2
      have vP := d2 P (by omega) (by omega)
      have mP : mixI (σ 0 1) (StF σ) (ntF σ) d P = ntF σ P := by
        have hb := nS.2.1 P (by omega) (by omega)
        unfold mixI
        rw [sumI_zero (by omega) (fun r r0 r1 => ?_), Int.add_zero, Int.emod_eq_of_lt hb.1 hb.2]
        by_cases e : (StF σ).td r ≤ P
        · rw [dz r r0 r1 e, Int.zero_mul]
        · have := (hG.2.2.2.2.1 r r0 r1).2.2.2.2 P (by omega) (by omega) (by omega) (fun z => by have := z.2; omega)
          rw [this, Int.mul_zero]
      rw [mP] at vP
      omega
    have hfs : fs (okT σ) (σ 0 1 ^ (σ 0 2).toNat) 0 = T := by
      rcases fs_rng (f := okT σ) (n := σ 0 1 ^ (σ 0 2).toNat) (by omega) with ⟨w1, w2⟩ | ⟨w1, w2, w3, w4⟩
      · exact absurd (w2 T hTb.1 hTb.2) okTT
      · rcases Int.lt_trichotomy (fs (okT σ) (σ 0 1 ^ (σ 0 2).toNat) 0) T with c | c | c
        · exact absurd (least _ w1 c) w3
        · exact c
        · exact absurd (w4 T hTb.1 c) okTT
    rw [hfs, if_neg (by omega)]
    have e1 : nmT (σ 0 1) T (σ 0 2) = nbF (σ 0 1) (digT (σ 0 1) (σ 0 2) T) (σ 0 2) (σ 0 2) := foldI_cong (n := σ 0 2) (fun k v k0 k1 => by
      show v * σ 0 1 + rst (σ 0 1) T k.toNat % σ 0 1 = v * σ 0 1 + rst (σ 0 1) T (σ 0 2 - 1 - (σ 0 2 - 1 - k)).toNat % σ 0 1
      rw [show σ 0 2 - 1 - (σ 0 2 - 1 - k) = k by omega]) (σ 0 2) (by omega) (Int.le_refl _)
    rw [e1, nbF_eq (by omega)]
    exact vlN_cong _ (fun i z1 z2 => dT i z1 (by omega))
  · rw [if_neg h]
    have : fs (okT σ) (σ 0 1 ^ (σ 0 2).toNat) 0 = -1 := by
      rcases fs_rng (f := okT σ) (n := σ 0 1 ^ (σ 0 2).toNat) (by omega) with ⟨w1, w2⟩ | ⟨w1, w2, w3, w4⟩
      · exact w1
      · exfalso
        have sS := (okT_iff hW hw).mp w3
        exact h (ld.2 ⟨_, fun k k0 k1 k2 => congrArg (· % σ 0 1) (sS.1 k k0 k1 k2), sS.2.2⟩)
    rw [if_pos this]
theorem RepC.scr2 {μ m σ : Mu} {x w : Int} (h : RepC μ x w σ) (hw : x + 4 ≤ w ∧ w ≤ x + 81) (hf : ∀ y j, x ≤ y → (y < x + 393 ∨ (x + 471 ≤ y ∧ y < x + 516)) → m y j = μ y j) : RepC m x w σ := by
  obtain ⟨h1, h2, h3, h4, h5, h6, ⟨a1, a2, a3, a4⟩, h8⟩ := h
  refine ⟨h1.fr (fun y j z1 z2 => hf y j (by omega) (by omega)), h2.fr (fun y j z1 z2 => hf y j (by omega) (by omega)), h3.fr (fun y j z1 z2 => hf y j (by omega) (by omega)), h4.fr (fun y j z1 z2 => hf y j (by omega) (by omega)), h5.fr (fun y j z1 z2 => hf y j (by omega) (by omega)), h6.fr (hf _ _ (by omega) (by omega)) (hf _ _ (by omega) (by omega)) (fun y j z1 z2 => hf y j (by omega) (by omega)), ⟨fun z => ?_, fun z => ?_, fun z => ?_, fun z => ?_⟩, h8.fr (hf _ _ (by omega) (by omega)) (hf _ _ (by omega) (by omega)) (fun j => hf _ _ (by omega) (by omega)) (fun j => hf _ _ (by omega) (by omega))⟩
  · rw [hf _ _ (by omega) (by omega)] at z
    exact (a1 z).fr (fun y j z1 z2 => hf y j (by omega) (by omega))
  · rw [hf _ _ (by omega) (by omega)] at z
    exact (a2 z).fr (fun y j z1 z2 => hf y j (by omega) (by omega))
  · rw [hf _ _ (by omega) (by omega)] at z
    exact (a3 z).fr (fun y j z1 z2 => hf y j (by omega) (by omega))
  · rw [hf _ _ (by omega) (by omega)] at z
    rw [hf _ _ (by omega) (by omega)]
    exact ⟨(a4 z).1, fun k z1 z2 => by rw [hf _ _ (by omega) (by omega)]; exact (a4 z).2 k z1 z2⟩
section CTop
variable {l : Launch} {G : Gx} {γ μ σ : Mu}
theorem c_chaseUnlogged (hl : l.stackTraces = false) (d : Nat) (hd : 2 < d) {x w p a b : Int} {f g : Int → Int} (hH : HallAt G γ x w p) (hD : WrC μ w σ) (hW : Wf σ) (hw : 1 ≤ σ 0 2 ∧ σ 0 2 ≤ σ 0 0) (ha : shO G a 11 36) (hb : shO G b 11 36) (hab : a ≠ b) (haw : a < w ∨ w + 77 ≤ a) (hf : ∀ j, 0 ≤ j → j < σ 0 0 → μ a j = f j) (hg : ∀ j, 0 ≤ j → j < σ 0 0 → μ b j = g j) (hfq : inQ (σ 0 0) (σ 0 1) f) (hgq : inQ (σ 0 0) (σ 0 1) g) : Cn l G yX8_chaseUnlogged cX8_chaseUnlogged 4 none d 0 [aR x, aR a, aR b] γ μ (fun r γ' μ' => r = none ∧ γ' = γ ∧ (∀ j, 0 ≤ j → j < σ 0 0 → μ' a j = chG σ g f (σ 0 0 - σ 0 2) j) ∧ ∀ y j, y ≠ a → μ' y j = μ y j) := by
  refine Cn.ofP hl (plainFor_of_name (by decide)) (noLc nlR (noLc nlR (noL1 nlR))) rfl (fun P hP o1 o3 X hX hC => B_X8_chaseUnlogged_0 hC hH.o ?_)
  have hn := hW.1
  rw [hH.g1, hD.2.1]
  refine ⟨hH.wr.o, ?_⟩
  have loop := rem_ind (n := σ 0 0 - σ 0 2) (P := fun t => ∀ m : Mu, (∀ y j, y ≠ a → m y j = μ y j) → (∀ j, 0 ≤ j → j < σ 0 0 → m a j = chG σ g f t j) → V X G (Qm X G 0 P) 0 8 [aR x, aR a, aR b, aI (σ 0 2 + t)] [] γ m) (fun t t0 t1 ih m fm ma => ?_)
  · have := loop 0 (by omega) (by omega) μ (fun _ _ _ => rfl) hf
    rw [Int.add_zero] at this
    exact this
  · have mD : WrC m w σ := hD.fr (fun y j z1 z2 => fm y j (by omega))
    refine B_X8_chaseUnlogged_8 hC hH.o ?_
    rw [hH.g1, mD.1.1]
    refine ⟨hH.wr.o, fun h => ⟨Nat.le_refl _, hP _ _ _ ⟨rfl, rfl, ?_, fm⟩⟩, fun h => ?_⟩
    · obtain rfl : t = σ 0 0 - σ 0 2 := by omega
      exact ma
    · have cq := chG_in hW (g := g) hfq (m := t) t t0 (Int.le_refl _)
      refine ⟨2, 0, _, hd, Nat.le_refl _, hX ▸ c_chasing hl 2 (by omega) (g := g) hH mD hW ha hb (by omega) hw.1 ma (fun j z1 z2 => by rw [fm _ _ (fun e => hab e.symm)]; exact hg j z1 z2) cq hgq, PI.use ?_⟩
      rw [show σ 0 2 + t - σ 0 2 = t by omega]
      refine B_X8_chaseUnlogged_32 hC hH.o ⟨hH.wr.o, 1, 0, _, by omega, Nat.le_refl _, hX ▸ c_step hl 1 (by omega) hH.wr mD.1 ha haw ⟨by omega, by omega⟩ (chsG_b hW) ma cq, PV.use ?_⟩
      have hih := ih (by omega) (row m a (σ 0 0) (stpV σ (chG σ g f t) (σ 0 2 + t) (chsG σ g (chG σ g f t) (σ 0 2 + t) t))) (fun y j z => by rw [row_off z]; exact fm y j z) (fun j z1 z2 => by rw [row_in ⟨z1, z2⟩, chG_s t0])
      rw [show σ 0 2 + (t + 1) = σ 0 2 + t + 1 by omega] at hih
      exact B_X8_chaseUnlogged_35 hC hH.o ⟨by constructor <;> omega, hih⟩
theorem c_topNumber (hl : l.stackTraces = false) (d : Nat) {x w p : Int} {f : Int → Int} (hH : HallAt G γ x w p) (hD : WrC μ w σ) (hW : Wf σ) (hw : 1 ≤ σ 0 2 ∧ σ 0 2 ≤ 6) (hf : ∀ j, 0 ≤ j → j < σ 0 2 → μ (x + 517) j = f j) (hfq : inQ (σ 0 2) (σ 0 1) f) : Cn l G yX8_topNumber cX8_topNumber 3 (some .int) d 0 [aR x] γ μ (PI (vlN (σ 0 1) f (σ 0 2).toNat) γ μ) := by
  refine Cn.ofP hl (plainFor_of_name (by decide)) (noL1 nlR) rfl (fun P hP o1 o3 X hX hC => B_X8_topNumber_0 hC hH.o ?_)
  have hq := hW.2.1.b
  rw [hH.g1, hD.2.1]
  refine ⟨hH.wr.o, by constructor <;> omega, ?_⟩
  have loop := rem_ind (n := σ 0 2) (P := fun k => V X G (Qm X G 0 P) 0 12 [aR x, aI (nbF (σ 0 1) f (σ 0 2) k), aI (σ 0 2 - 1 - k)] [] γ μ) (fun k k0 k1 ih => ?_)
  · have := loop 0 (by omega) (by omega)
    rw [Int.sub_zero] at this
    exact this
  · have hb := nbF_b (q := σ 0 1) (n := σ 0 2) (f := f) (by omega) hfq k k0 k1
    have hm := pw_mono (q := σ 0 1) (by omega) (show k.toNat ≤ 6 by omega)
    have h6 := q6_le hW.2.1 (w := 6) (Nat.le_refl _)
    refine B_X8_topNumber_12 hC hH.o ⟨fun h => ⟨Nat.le_refl _, hP _ _ _ ⟨?_, rfl, rfl⟩⟩, fun h => ?_⟩
    · obtain rfl : k = σ 0 2 := by omega
      rw [nbF_eq (by omega)]
    · have hfi := hfq (σ 0 2 - 1 - k) (by omega) (by omega)
      have h5 : 0 ≤ nbF (σ 0 1) f (σ 0 2) k * σ 0 1 ∧ nbF (σ 0 1) f (σ 0 2) k * σ 0 1 ≤ 20000 * 5 := ⟨Int.mul_nonneg hb.1 (by omega), Int.mul_le_mul (by omega) hq.2 (by omega) (by decide)⟩
      have hih := ih (by omega)
      rw [show nbF (σ 0 1) f (σ 0 2) (k + 1) = nbF (σ 0 1) f (σ 0 2) k * σ 0 1 + f (σ 0 2 - 1 - k) from foldI_s k0, show σ 0 2 - 1 - (k + 1) = σ 0 2 - 1 - k + -1 by omega] at hih
      rw [hH.g1, hD.1.2.1, hH.g17, hf _ (by omega) (by omega)]
      exact ⟨hH.wr.o, by constructor <;> omega, ixO hH.s517 (by omega), by constructor <;> omega, by constructor <;> omega, hih⟩
theorem c_top (hl : l.stackTraces = false) (d : Nat) (hd : 3 < d) {x w p : Int} (hH : HallAt G γ x w p) (hR : RepC μ x w σ) (hW : Wf σ) : Cn l G yX8_top cX8_top 3 (some .int) d 0 [aR x] γ μ (PC μ γ x w σ (topF σ)) := by
  refine Cn.ofP hl (plainFor_of_name (by decide)) (noL1 nlR) rfl (fun P hP o1 o3 X hX hC => B_X8_top_0 hC hH.o ?_)
  have hn := hW.1
  have hq := hW.2.1.b
  have hwb := hH.wb
  have g393 : γ (x + 158) 3 = x + 393 := by have := hH.al.2.2.2.2.2.2.2.1; rw [show x + 158 + 235 = x + 393 by omega] at this; exact this
  rw [hH.g1]
  refine ⟨hH.wr.o, 0, 0, _, by omega, Nat.le_refl _, hX ▸ c_isNet hl 0 hH.wr, PI.use ?_⟩
  rw [hR.2.1.2.2.2]
  refine B_X8_top_7 hC hH.o ?_
  rw [hH.g3, hH.g1, g393, hR.2.1.1.1, hR.2.1.1.2.1]
  have hww := hW.w
  refine ⟨fun h => ⟨hH.al.1, hH.wr.o, hH.sT.o, ?_⟩, fun h => ⟨Nat.le_refl _, hP _ _ _ ⟨?_, rfl, hR, frC_rf⟩⟩⟩
  rotate_left
  · have : σ 0 2 = 0 := by
      rcases hww with w | w
      · exact w.1
      · rw [if_neg (by omega)] at h; exact absurd rfl h
    unfold topF
    rw [if_pos this]
  have hw6 : 1 ≤ σ 0 2 ∧ σ 0 2 ≤ 6 ∧ σ 0 2 ≤ σ 0 0 := by
    rcases hww with w | w
    · rw [if_pos w.2.2] at h; exact absurd h (by decide)
    · exact ⟨w.1, w.2.1, w.2.2.1⟩
  have hw : 1 ≤ σ 0 2 ∧ σ 0 2 ≤ σ 0 0 := ⟨hw6.1, hw6.2.2⟩
  refine ⟨0, 0, _, by omega, Nat.le_refl _, hX ▸ c_spBegin hl 0 hH.sT, PV.use ?_⟩
  generalize hm1 : up (up (up (up μ (x + 393) 7 (σ 0 0)) (x + 393) 8 (σ 0 1)) (x + 393) 5 0) (x + 393) 6 0 = m1
  have F1 : ∀ y j, y ≠ x + 393 → m1 y j = μ y j := fun y j z => by rw [← hm1, up_ne (by omega), up_ne (by omega), up_ne (by omega), up_ne (by omega)]
  have S1 : SpS m1 (x + 393) (σ 0 0) (σ 0 1) gs0 := SpS_0 (by rw [← hm1, up_ne (by omega), up_same]) (by rw [← hm1, up_same]) (by rw [← hm1, up_ne (by omega), up_ne (by omega), up_ne (by omega), up_same]) (by rw [← hm1, up_ne (by omega), up_ne (by omega), up_same])
  refine B_X8_top_38 hC hH.o ?_
  rw [hH.g1, F1 _ _ (by omega), hR.2.1.2.1]
  refine ⟨hH.wr.o, by constructor <;> omega, ?_⟩
  have FR : ∀ m : Mu, (∀ y j, (y < x + 393 ∨ (x + 471 ≤ y ∧ y < x + 516) ∨ x + 518 ≤ y) → m y j = μ y j) → RepC m x w σ ∧ frB μ m x (x + 518) := fun m fm => ⟨hR.scr2 hwb (fun y j z1 z2 => fm y j (by omega)), fun y j z => fm y j (by omega)⟩
  have loop : ∀ (r k : Nat) (m : Mu), k + r = (σ 0 2).toNat → (∀ y j, (y < x + 393 ∨ (x + 471 ≤ y ∧ y < x + 516) ∨ x + 518 ≤ y) → m y j = μ y j) → SpS m (x + 393) (σ 0 0) (σ 0 1) (gRunT (σ 0 1) (σ 0 0) (σ 0 2) (σ 2) (tvF σ) k) → V X G (Qm X G 0 P) 0 48 [aR x, aR (x + 393), aI (σ 0 2 - 1 - k)] [] γ m := by
    intro r
    induction r with
    | zero =>
      intro k m hk fm mS
      obtain rfl : k = (σ 0 2).toNat := by omega
      obtain ⟨mR, mf⟩ := FR m fm
      refine B_X8_top_48 hC hH.o ⟨fun _ => ?_, fun z => absurd (by omega) z⟩
      rw [hH.g4, hH.g16, hH.g5]
      have D2 : WrC (cpy m (x + 473) 0 (x + 516) 0 36) w σ := mR.2.1.fr (fun y j z1 z2 => cpy_off (by omega))
      refine ⟨cpyI hH.s473 hH.s516, by omega, 3, 0, _, by omega, Nat.le_refl _, hX ▸ c_chaseUnlogged hl 3 (by omega) (f := σ 3) (g := σ 4) hH D2 hW hw hH.s516 hH.s474 (by omega) (by omega) (fun j z1 z2 => by rw [cpy_in ⟨z1, by omega⟩]; exact (mR.2.2.1 j z1 (by omega)).1) (fun j z1 z2 => by rw [cpy_off (by omega)]; exact (mR.2.2.1 j z1 (by omega)).2) (fun j z1 z2 => (hW.st j z1 (by omega)).1) (fun j z1 z2 => (hW.wi j z1 (by omega)).1), ?_⟩
      rintro r γ m2 ⟨rfl, rfl, b1, b2⟩
      have F2 : ∀ y j, y ≠ x + 516 → m2 y j = m y j := fun y j z => by rw [b2 y j z, cpy_off z]
      refine B_X8_top_146 hC hH.o ?_
      rw [hH.g16]
      have cq : inQ (σ 0 0) (σ 0 1) (cwF σ) := chG_in hW (fun j z1 z2 => (hW.st j z1 (by omega)).1) (m := σ 0 0 - σ 0 2) _ (by omega) (Int.le_refl _)
      refine ⟨2, 0, _, by omega, Nat.le_refl _, hX ▸ c_subtract hl 2 (by omega) (f := cwF σ) hH (mR.2.1.1.fr2 (fun y j z1 z2 => F2 y j (by omega))) hW (fun j z1 z2 => by rw [F2 _ _ (by omega)]; exact (mR.2.2.1 j z1 z2).2) hH.s516 (by omega) b1 cq, PV.use ?_⟩
      generalize hm3 : row m2 (x + 516) (σ 0 0) (fun j => (σ 4 j - cwF σ j + σ 0 1) % σ 0 1) = m3
      have F3 : ∀ y j, y ≠ x + 516 → m3 y j = m y j := fun y j z => by rw [← hm3, row_off z]; exact F2 y j z
      refine B_X8_top_154 hC hH.o ?_
      rw [hH.g16, hH.g17]
      have tq : inQ (σ 0 0) (σ 0 1) (tgF σ) := fun j _ _ => ⟨Int.emod_nonneg _ (by omega), Int.emod_lt_of_pos _ (by omega)⟩
      have ids := gRunT_ids (σ 0 1) (σ 0 0) (σ 0 2) (σ 2) (tvF σ) (σ 0 2).toNat
      refine ⟨hH.sT.o, 1, 0, _, by omega, Nat.le_refl _, hX ▸ c_express hl 1 (by omega) (f := tgF σ) hH.sT hH.s516 hH.s517 (by omega) (by omega) (by omega) hn hq (mS.fr (fun y j z1 z2 => F3 y j (by omega))) (by omega) (fun j z1 z2 => by rw [← hm3, row_in ⟨z1, z2⟩]; rfl) tq, ?_⟩
      rintro r γ m4 ⟨rfl, rfl, e1, e2⟩
      have F4 : ∀ y j, y ≠ x + 516 → y ≠ x + 517 → m4 y j = m y j := fun y j z1 z2 => by rw [e2 y j z1 z2]; exact F3 y j z1
      obtain ⟨R4, f4⟩ := FR m4 (fun y j z => by rw [F4 y j (by omega) (by omega)]; exact fm y j z)
      have tm := top_math hW hw
      refine B_X8_top_166 hC hH.o ⟨fun h2 => ⟨Nat.le_refl _, hP _ _ _ ⟨?_, rfl, R4, f4⟩⟩, fun h2 => ?_⟩
      · rw [tm, if_neg]
        intro z
        rw [if_pos z] at h2
        exact absurd h2 (by decide)
      · have hff : ff (gvR (σ 0 1) (StF σ) (tgF σ)) (σ 0 0) = -1 := by
          by_cases z : ff (gvR (σ 0 1) (StF σ) (tgF σ)) (σ 0 0) = -1
          · exact z
          · rw [if_neg z] at h2; exact absurd rfl h2
        refine ⟨0, 0, _, by omega, Nat.le_refl _, hX ▸ c_topNumber hl 0 (f := ntF σ) hH R4.2.1 hW ⟨hw6.1, hw6.2.1⟩ (fun j z1 z2 => e1 j z1 (by omega)) (exN_in (by omega) _), PI.use ?_⟩
        exact B_X8_top_173 hC ⟨Nat.le_refl _, hP _ _ _ ⟨by rw [tm, if_pos hff], rfl, R4, f4⟩⟩
    | succ r ih =>
      intro k m hk fm mS
      obtain ⟨mR, mf⟩ := FR m fm
      have mD := mR.2.1.1
      have hi0 : 0 ≤ σ 0 2 - 1 - (k : Int) := by omega
      have hi1 : σ 0 2 - 1 - (k : Int) < σ 0 0 := by omega
      have eT : gRunT (σ 0 1) (σ 0 0) (σ 0 2) (σ 2) (tvF σ) (k + 1) = if σ 2 (σ 0 2 - 1 - k) = 0 then gStep (σ 0 1) (σ 0 0) (gRunT (σ 0 1) (σ 0 0) (σ 0 2) (σ 2) (tvF σ) k) (σ 0 2 - 1 - k) (tvF σ (σ 0 2 - 1 - k)) else gRunT (σ 0 1) (σ 0 0) (σ 0 2) (σ 2) (tvF σ) k := rfl
      have hww := hH.wr.2.2.2.2.2.2.2.2.2 (σ 0 2 - 1 - k) hi0 (by omega)
      refine B_X8_top_48 hC hH.o ⟨fun z => absurd z (by omega), fun _ => ?_⟩
      rw [hH.g1, hH.wr.2.2.2.1, hH.wr.2.1, mD.2.2.2.2.2 _ hi0 hi1, hww.1.1, hH.g16, hH.g17]
      have nxt : ∀ m2 : Mu, (∀ y j, (y < x + 393 ∨ (x + 471 ≤ y ∧ y < x + 516) ∨ x + 518 ≤ y) → m2 y j = μ y j) → SpS m2 (x + 393) (σ 0 0) (σ 0 1) (gRunT (σ 0 1) (σ 0 0) (σ 0 2) (σ 2) (tvF σ) (k + 1)) → V X G (Qm X G 0 P) 0 113 [aR x, aR (x + 393), aI (σ 0 2 - 1 - k)] [] γ m2 := fun m2 f2 s2 => by
        have := ih (k + 1) m2 (by omega) f2 s2
        rw [show σ 0 2 - 1 - ((k + 1 : Nat) : Int) = σ 0 2 - 1 - k + -1 by omega] at this
        exact B_X8_top_113 hC hH.o ⟨by constructor <;> omega, this⟩
      refine ⟨hH.wr.o, ixO hH.wr.2.2.2.2.1 (by omega), fun e => nxt m fm (by rw [eT, if_neg e]; exact mS), fun e => ⟨ixO hH.wr.2.2.1 (by omega), cpyI hww.1.2 hH.s516, by omega, 0, 0, _, by omega, Nat.le_refl _, hX ▸ c_fill hl 0 (lnO hH.s517 (by decide)), PV.use ?_⟩⟩
      rw [shLen hH.s517]
      generalize hm2 : row (cpy m (w + 2 + (σ 0 2 - 1 - k)) 0 (x + 516) 0 36) (x + 517) ((36 : Nat) : Int) (fun _ => 0) = m2
      have F2 : ∀ y j, y ≠ x + 516 → y ≠ x + 517 → m2 y j = m y j := fun y j z1 z2 => by rw [← hm2, row_off z2, cpy_off z1]
      refine B_X8_top_92 hC hH.o ?_
      rw [hH.g16, hH.g17]
      have hA := mD.2.2.2.2.1 _ hi0 hi1
      refine ⟨3, 0, _, by omega, Nat.le_refl _, hX ▸ c_chaseUnlogged hl 3 (by omega) (f := sA σ (σ 0 2 - 1 - k)) (g := fun _ => 0) hH (mR.2.1.fr (fun y j z1 z2 => F2 y j (by omega) (by omega))) hW hw hH.s516 hH.s517 (by omega) (by omega) (fun j z1 z2 => by rw [← hm2, row_off (by omega), cpy_in ⟨z1, by omega⟩]; exact hA.1 j z1 z2) (fun j z1 z2 => by rw [← hm2, row_in ⟨z1, by omega⟩]) hA.2 (fun j _ _ => ⟨Int.le_refl _, by show (0 : Int) < σ 0 1; omega⟩), ?_⟩
      rintro r γ m3 ⟨rfl, rfl, b1, b2⟩
      have F3 : ∀ y j, y ≠ x + 516 → y ≠ x + 517 → m3 y j = m y j := fun y j z1 z2 => by rw [b2 y j z1]; exact F2 y j z1 z2
      refine B_X8_top_104 hC hH.o ?_
      rw [hH.g16]
      have ids := gRunT_ids (σ 0 1) (σ 0 0) (σ 0 2) (σ 2) (tvF σ) k
      have hF : idF (gRunT (σ 0 1) (σ 0 0) (σ 0 2) (σ 2) (tvF σ) k) (σ 0 2 - 1 - k) := ⟨fun i z1 z2 => by have := ids.1 i z1 z2; omega, fun i z1 z2 => by have := ids.2.1 i z1 z2; omega⟩
      refine ⟨hH.sT.o, 3, 0, _, by omega, Nat.le_refl _, hX ▸ c_admitS hl 3 (by omega) (f := tvF σ (σ 0 2 - 1 - k)) hH.sT hH.s516 (by omega) (by omega) hn hq (mS.fr (fun y j z1 z2 => F3 y j (by omega) (by omega))) hF (by omega) b1 (tvF_in hW hw hi0 hi1), ?_⟩
      rintro r γ m4 ⟨rfl, rfl, c1, c2⟩
      refine nxt m4 (fun y j z => by rw [c2 y j (by omega), F3 y j (by omega) (by omega)]; exact fm y j z) (by rw [eT, if_pos e]; exact c1)
  have := loop (σ 0 2).toNat 0 m1 (by omega) (fun y j z => F1 y j (by omega)) S1
  rw [show σ 0 2 - 1 - ((0 : Nat) : Int) = σ 0 2 - 1 by omega] at this
  exact this
end CTop
