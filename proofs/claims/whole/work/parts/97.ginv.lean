/-! what the elimination holds: own vectors, tied ones, and what they make -/
theorem gv_spec {n q : Int} {op : Int → Int} {ov om : Int → Int → Int} {c : Nat} {f h : Int → Int} (hq : 2 ≤ q) (hop : ∀ i : Int, 0 ≤ i → i < c → 0 ≤ op i ∧ op i < n) (h1 : ∀ i : Int, 0 ≤ i → i < c → ov i (op i) = 1) (h2 : ∀ i i' : Int, 0 ≤ i → i < i' → i' < c → ov i' (op i) = 0) (hf : inQ n q f) (hh : inQ n q h) : ∀ i : Nat, i ≤ c → ∃ a : Int → Int, (∀ j, 0 ≤ j → j < n → cg q ((gv q op ov om i f h).1 j) (f j + sumI (fun k => a k * ov k j) i)) ∧ (∀ j, 0 ≤ j → j < n → cg q ((gv q op ov om i f h).2 j) (h j + sumI (fun k => a k * om k j) i)) ∧ ∀ k : Int, 0 ≤ k → k < i → (gv q op ov om i f h).1 (op k) = 0
  | 0, _ => ⟨fun _ => 0, fun j _ _ => by show cg q (f j) (f j + 0); rw [Int.add_zero], fun j _ _ => by show cg q (h j) (h j + 0); rw [Int.add_zero], fun k z1 z2 => by omega⟩
  | i + 1, hi => by
    obtain ⟨a, a1, a2, a3⟩ := gv_spec hq hop h1 h2 hf hh i (by omega)
    have hin := gv_in (n := n) (op := op) (ov := ov) (om := om) (show 0 < q by omega) hf hh i
    have ei : ((i + 1 : Nat) : Int) = (i : Int) + 1 := by omega
    have hpi := hop i (by omega) (by omega)
    unfold gv
    by_cases e : (gv q op ov om i f h).1 (op i) = 0
    · rw [if_pos e]
      refine ⟨fup a i 0, fun j z1 z2 => ?_, fun j z1 z2 => ?_, fun k z1 z2 => ?_⟩
      · rw [ei, sumI_s (by omega), fup_s, Int.zero_mul, Int.add_zero, sumI_cong (g := fun k => a k * ov k j) (by omega) (fun k z3 z4 => by rw [fup_n (by omega)])]
        exact a1 j z1 z2
      · rw [ei, sumI_s (by omega), fup_s, Int.zero_mul, Int.add_zero, sumI_cong (g := fun k => a k * om k j) (by omega) (fun k z3 z4 => by rw [fup_n (by omega)])]
        exact a2 j z1 z2
      · by_cases w : k = i
        · rw [w]; exact e
        · exact a3 k z1 (by omega)
    · rw [if_neg e]
      generalize ht : (gv q op ov om i f h).1 (op i) = t at *
      refine ⟨fup a i (q - t), fun j z1 z2 => ?_, fun j z1 z2 => ?_, fun k z1 z2 => ?_⟩
      · rw [ei, sumI_s (by omega), fup_s, sumI_cong (g := fun k => a k * ov k j) (by omega) (fun k z3 z4 => by rw [fup_n (by omega)])]
        refine Eq.trans cg_mod ?_
        rw [← Int.add_assoc]
        exact cg_add (a1 j z1 z2) rfl
      · rw [ei, sumI_s (by omega), fup_s, sumI_cong (g := fun k => a k * om k j) (by omega) (fun k z3 z4 => by rw [fup_n (by omega)])]
        refine Eq.trans cg_mod ?_
        rw [← Int.add_assoc]
        exact cg_add (a2 j z1 z2) rfl
      · show ((gv q op ov om i f h).1 (op k) + (q - t) * ov i (op k)) % q = 0
        by_cases w : k = i
        · rw [w, ht, h1 i (by omega) (by omega), Int.mul_one, show t + (q - t) = q by omega, Int.emod_self]
        · rw [a3 k z1 (by omega), h2 k i z1 (by omega) (by omega), Int.mul_zero, Int.add_zero, Int.zero_emod]
/-- made of own ones, and 0 at their pivots: 0 -/
theorem piv_zero {n q : Int} {c : Nat} {op v a : Int → Int} {ov : Int → Int → Int} (hop : ∀ i : Int, 0 ≤ i → i < c → 0 ≤ op i ∧ op i < n) (h1 : ∀ i : Int, 0 ≤ i → i < c → ov i (op i) = 1) (h2 : ∀ i i' : Int, 0 ≤ i → i < i' → i' < c → ov i' (op i) = 0) (hs : ∀ j, 0 ≤ j → j < n → cg q (v j) (sumI (fun i => a i * ov i j) c)) (hz : ∀ i : Int, 0 ≤ i → i < c → cg q (v (op i)) 0) : ∀ j, 0 ≤ j → j < n → cg q (v j) 0 := by
  have key : ∀ m : Nat, m ≤ c → ∀ i : Int, 0 ≤ i → i < m → cg q (a i) 0 := by
    intro m
    induction m with
    | zero => intro _ i z1 z2; omega
    | succ m ih =>
      intro hm i z1 z2
      by_cases e : i = m
      · have hp := hop m (by omega) (by omega)
        have e1 := hs (op m) hp.1 hp.2
        have e2 : cg q (sumI (fun i => a i * ov i (op m)) c) (sumI (fun i => if i = m then a m else 0) c) := cg_sum (by omega) (fun i z3 z4 => by
          show cg q (a i * ov i (op m)) (if i = m then a m else 0)
          by_cases w : i = m
          · rw [if_pos w, w, h1 m (by omega) (by omega), Int.mul_one]
          · rw [if_neg w]
            rcases Int.lt_or_le i m with w2 | w2
            · have := cg_mul (c := ov i (op m)) (d := ov i (op m)) (ih (by omega) i z3 w2) rfl
              rw [Int.zero_mul] at this
              exact this
            · rw [h2 m i (by omega) (by omega) z4, Int.mul_zero])
        rw [sumI_single (k := (m : Int)) (by omega) (fun i _ _ z => if_neg z), if_pos rfl] at e2
        have hv := hz m (by omega) (by omega)
        rw [e]
        exact (e2.symm.trans e1.symm).trans hv
      · exact ih (by omega) i z1 (by omega)
  intro j z1 z2
  refine (hs j z1 z2).trans (cg_sum0 (by omega) (fun i z3 z4 => ?_))
  have := cg_mul (c := ov i j) (d := ov i j) (key c (Nat.le_refl _) i z3 z4) rfl
  rw [Int.zero_mul] at this
  exact this
def OwnD (S : GS) (k : Int) : Prop := ∃ i : Int, 0 ≤ i ∧ i < S.c ∧ S.od i = k
/-- vectors vec, those of Ad let in, Rb: before -/
def GInv (n q : Int) (vec : Int → Int → Int) (Rb : Int → Int → Prop) (S : GS) (Ad : Int → Prop) : Prop :=
  (∀ i : Int, 0 ≤ i → i < S.c → (Ad (S.od i) ∧ 0 ≤ S.od i ∧ S.od i < n) ∧ (0 ≤ S.op i ∧ S.op i < n) ∧ inQ n q (S.ov i) ∧ inQ n q (S.om i) ∧ S.ov i (S.op i) = 1 ∧ (∀ j, 0 ≤ j → j < n → cg q (S.ov i j) (LC n vec (S.om i) j)) ∧ ∀ k, 0 ≤ k → k < n → ¬ OwnD S k → S.om i k = 0) ∧
  (∀ i i' : Int, 0 ≤ i → i < i' → i' < S.c → S.ov i' (S.op i) = 0) ∧
  (∀ b, Ad b → ∃ a : Int → Int, ∀ j, 0 ≤ j → j < n → cg q (vec b j) (sumI (fun i => a i * S.ov i j) S.c)) ∧
  (∀ z : Int → Int, (∀ k, 0 ≤ k → k < n → ¬ OwnD S k → cg q (z k) 0) → (∀ j, 0 ≤ j → j < n → cg q (LC n vec z j) 0) → ∀ k, 0 ≤ k → k < n → cg q (z k) 0) ∧
  (∀ i : Int, 0 ≤ i → i < S.tc → (Ad (S.td i) ∧ (0 ≤ S.td i ∧ S.td i < n) ∧ ¬ OwnD S (S.td i)) ∧ inQ n q (S.tv i) ∧ (∀ j, 0 ≤ j → j < n → cg q (LC n vec (S.tv i) j) 0) ∧ S.tv i (S.td i) = 1 ∧ ∀ k, 0 ≤ k → k < n → k ≠ S.td i → ¬ (OwnD S k ∧ Rb k (S.td i)) → S.tv i k = 0) ∧
  (∀ i i' : Int, 0 ≤ i → i < i' → i' < S.tc → S.td i ≠ S.td i') ∧
  (∀ b, Ad b → OwnD S b ∨ ∃ i : Int, 0 ≤ i ∧ i < S.tc ∧ S.td i = b)
theorem GInv_0 {n q : Int} {vec : Int → Int → Int} {Rb : Int → Int → Prop} : GInv n q vec Rb gs0 (fun _ => False) := by
  have no : ∀ i : Int, 0 ≤ i → ¬ (i < ((0 : Nat) : Int)) := fun i z1 z2 => by omega
  refine ⟨fun i z1 z2 => absurd z2 (no i z1), fun i i' z1 z2 z3 => absurd z3 (no i' (by omega)), fun b h => h.elim, fun z hz _ k z1 z2 => hz k z1 z2 (fun ⟨i, i0, i1, _⟩ => no i i0 i1), fun i z1 z2 => absurd z2 (no i z1), fun i i' z1 z2 z3 => absurd z3 (no i' (by omega)), fun b h => h.elim⟩
theorem sumI_neg {f : Int → Int} {n : Int} (hn : 0 ≤ n) : sumI (fun k => -(f k)) n = -(sumI f n) := by
  have := sumI_mul (f := f) (c := -1) hn
  rw [show (-1 : Int) * sumI f n = -(sumI f n) by omega] at this
  rw [← this]
  exact sumI_cong hn (fun k _ _ => by omega)
theorem GInv.step {n q id : Int} {vec : Int → Int → Int} {Rb : Int → Int → Prop} {S : GS} {Ad : Int → Prop} (h : GInv n q vec Rb S Ad) (hq : qP q) (hid : 0 ≤ id ∧ id < n) (hnew : ¬ Ad id) (hRb : ∀ a, Ad a → Rb a id) (hv : inQ n q (vec id)) : GInv n q vec Rb (gStep q n S id (vec id)) (fun b => Ad b ∨ b = id) := by
  obtain ⟨h1, h2, h3, h4, h5, h6, h7⟩ := h
  have hqb := hq.b
  have hn : 0 ≤ n := by omega
  have hop : ∀ i : Int, 0 ≤ i → i < S.c → 0 ≤ S.op i ∧ S.op i < n := fun i z1 z2 => (h1 i z1 z2).2.1
  have ho1 : ∀ i : Int, 0 ≤ i → i < S.c → S.ov i (S.op i) = 1 := fun i z1 z2 => (h1 i z1 z2).2.2.2.2.1
  have hin := gv_in (n := n) (op := S.op) (ov := S.ov) (om := S.om) (show 0 < q by omega) hv (unitV_in (k := id) hqb.1) S.c
  obtain ⟨a, a1, a2, a3⟩ := gv_spec (om := S.om) hqb.1 hop ho1 h2 hv (unitV_in (k := id) hqb.1) S.c (Nat.le_refl _)
  have idO : ¬ OwnD S id := fun ⟨i, i0, i1, i2⟩ => hnew (by rw [← i2]; exact (h1 i i0 i1).1.1)
  unfold gStep
  generalize gv q S.op S.ov S.om S.c (vec id) (unitV id) = y at *
  have hH : ∀ j, 0 ≤ j → j < n → cg q (LC n vec y.2 j) (y.1 j) := fun j z1 z2 => by
    have e1 : cg q (LC n vec y.2 j) (LC n vec (fun k => unitV id k + sumI (fun i => a i * S.om i k) S.c) j) := LC_cg hn a2
    refine e1.trans ?_
    rw [LC_add hn, LC_unit hid, LC_sum hn (by omega)]
    refine Eq.trans ?_ (a1 j z1 z2).symm
    exact cg_add rfl (cg_sum (by omega) (fun i z3 z4 => cg_mul rfl ((h1 i z3 z4).2.2.2.2.2.1 j z1 z2).symm))
  have sup : ∀ k, 0 ≤ k → k < n → k ≠ id → ¬ OwnD S k → y.2 k = 0 := fun k z1 z2 z3 z4 => by
    refine cg_z ((a2 k z1 z2).trans ?_) (hin.2 k z1 z2)
    have : unitV id k = 0 := if_neg z3
    rw [this, Int.zero_add]
    exact cg_sum0 (by omega) (fun i z5 z6 => by rw [(h1 i z5 z6).2.2.2.2.2.2 k z1 z2 z4, Int.mul_zero])
  have Hid : y.2 id = 1 := by
    refine cg_eq ((a2 id hid.1 hid.2).trans ?_) (hin.2 id hid.1 hid.2) ⟨by omega, by omega⟩
    have : unitV id id = 1 := if_pos rfl
    rw [this]
    have h0 : cg q (sumI (fun i => a i * S.om i id) S.c) 0 := cg_sum0 (by omega) (fun i z5 z6 => by rw [(h1 i z5 z6).2.2.2.2.2.2 id hid.1 hid.2 idO, Int.mul_zero])
    have := cg_add (q := q) (a := 1) (b := 1) rfl h0
    rw [Int.add_zero] at this
    exact this
  by_cases hw : ff y.1 n = -1
  · rw [if_pos hw]
    have Fz : ∀ j, 0 ≤ j → j < n → y.1 j = 0 := by
      rcases ff_range (f := y.1) hn with w | ⟨w, -⟩
      · exact w.2
      · omega
    have EO : ∀ k, OwnD (S.c, S.od, S.op, S.ov, S.om, S.tc + 1, fup S.td S.tc id, fup S.tv S.tc y.2) k ↔ OwnD S k := fun k => Iff.rfl
    refine ⟨fun i z1 z2 => ⟨⟨Or.inl (h1 i z1 z2).1.1, (h1 i z1 z2).1.2⟩, (h1 i z1 z2).2⟩, h2, fun b hb => ?_, h4, fun i z1 z2 => ?_, fun i i' z1 z2 z3 => ?_, fun b hb => ?_⟩
    · rcases hb with w | w
      · exact h3 b w
      · refine ⟨fun i => -(a i), fun j z1 z2 => ?_⟩
        rw [w]
        have e1 := a1 j z1 z2
        rw [Fz j z1 z2] at e1
        have e2 := cg_sub e1.symm (rfl : cg q (sumI (fun k => a k * S.ov k j) S.c) (sumI (fun k => a k * S.ov k j) S.c))
        rw [show vec id j + sumI (fun k => a k * S.ov k j) S.c - sumI (fun k => a k * S.ov k j) S.c = vec id j by omega] at e2
        refine e2.trans ?_
        show cg q _ (sumI (fun i => -(a i) * S.ov i j) S.c)
        rw [sumI_cong (f := fun i => -(a i) * S.ov i j) (g := fun i => -(a i * S.ov i j)) (by omega) (fun i _ _ => Int.neg_mul _ _), sumI_neg (by omega), Int.zero_sub]
    · have z2' : i < ((S.tc + 1 : Nat) : Int) := z2
      by_cases e : i = S.tc
      · show ((Ad (fup S.td S.tc id i) ∨ fup S.td S.tc id i = id) ∧ (0 ≤ fup S.td S.tc id i ∧ fup S.td S.tc id i < n) ∧ ¬ OwnD S (fup S.td S.tc id i)) ∧ inQ n q (fup S.tv S.tc y.2 i) ∧ (∀ j, 0 ≤ j → j < n → cg q (LC n vec (fup S.tv S.tc y.2 i) j) 0) ∧ fup S.tv S.tc y.2 i (fup S.td S.tc id i) = 1 ∧ ∀ k, 0 ≤ k → k < n → k ≠ fup S.td S.tc id i → ¬ (OwnD S k ∧ Rb k (fup S.td S.tc id i)) → fup S.tv S.tc y.2 i k = 0
        rw [e, fup_s, fup_s]
        refine ⟨⟨Or.inr rfl, hid, idO⟩, hin.2, fun j z3 z4 => ?_, Hid, fun k z3 z4 z5 z6 => sup k z3 z4 z5 (fun w => z6 ⟨w, ?_⟩)⟩
        · have := hH j z3 z4
          rw [Fz j z3 z4] at this
          exact this
        · obtain ⟨i', i0, i1, i2⟩ := w
          exact hRb k (by rw [← i2]; exact (h1 i' i0 i1).1.1)
      · show ((Ad (fup S.td S.tc id i) ∨ fup S.td S.tc id i = id) ∧ (0 ≤ fup S.td S.tc id i ∧ fup S.td S.tc id i < n) ∧ ¬ OwnD S (fup S.td S.tc id i)) ∧ inQ n q (fup S.tv S.tc y.2 i) ∧ (∀ j, 0 ≤ j → j < n → cg q (LC n vec (fup S.tv S.tc y.2 i) j) 0) ∧ fup S.tv S.tc y.2 i (fup S.td S.tc id i) = 1 ∧ ∀ k, 0 ≤ k → k < n → k ≠ fup S.td S.tc id i → ¬ (OwnD S k ∧ Rb k (fup S.td S.tc id i)) → fup S.tv S.tc y.2 i k = 0
        rw [fup_n e, fup_n e]
        obtain ⟨w1, w2⟩ := h5 i z1 (by omega)
        exact ⟨⟨Or.inl w1.1, w1.2⟩, w2⟩
    · have z3' : i' < ((S.tc + 1 : Nat) : Int) := z3
      show fup S.td S.tc id i ≠ fup S.td S.tc id i'
      rw [fup_n (show i ≠ S.tc by omega)]
      by_cases e : i' = S.tc
      · rw [e, fup_s]
        exact fun w => hnew (by rw [← w]; exact (h5 i z1 (by omega)).1.1)
      · rw [fup_n e]
        exact h6 i i' z1 z2 (by omega)
    · rcases hb with w | w
      · rcases h7 b w with w2 | ⟨i, i0, i1, i2⟩
        · exact Or.inl w2
        · refine Or.inr ⟨i, i0, ?_, ?_⟩
          · show i < ((S.tc + 1 : Nat) : Int)
            omega
          · show fup S.td S.tc id i = b
            rw [fup_n (by omega)]; exact i2
      · refine Or.inr ⟨S.tc, by omega, ?_, ?_⟩
        · show (S.tc : Int) < ((S.tc + 1 : Nat) : Int)
          omega
        · show fup S.td S.tc id S.tc = b
          rw [fup_s, w]
  · rw [if_neg hw]
    rcases ff_range (f := y.1) hn with w | ⟨p0, p1, p2, p3⟩
    · exact absurd w.1 hw
    generalize ff y.1 n = p at *
    have hFp := hin.1 p p0 p1
    have hinv := inv_ok hq hFp p2
    generalize invQ (y.1 p) q = t at *
    obtain ⟨S', hS'⟩ : ∃ S' : GS, ((S.c + 1, fup S.od S.c id, fup S.op S.c p, fup S.ov S.c (fun j => y.1 j * t % q), fup S.om S.c (fun j => y.2 j * t % q), S.tc, S.td, S.tv) : GS) = S' := ⟨_, rfl⟩
    rw [hS']
    have s1 : S'.c = S.c + 1 := by rw [← hS']
    have s2 : ∀ i : Int, i < S.c → S'.od i = S.od i ∧ S'.op i = S.op i ∧ S'.ov i = S.ov i ∧ S'.om i = S.om i := fun i w => by
      rw [← hS']
      exact ⟨fup_n (by omega), fup_n (by omega), fup_n (by omega), fup_n (by omega)⟩
    have s3 : S'.od S.c = id ∧ S'.op S.c = p ∧ S'.ov S.c = (fun j => y.1 j * t % q) ∧ S'.om S.c = fun j => y.2 j * t % q := by
      rw [← hS']
      exact ⟨fup_s, fup_s, fup_s, fup_s⟩
    have s4 : S'.tc = S.tc ∧ S'.td = S.td ∧ S'.tv = S.tv := by
      rw [← hS']
      exact ⟨rfl, rfl, rfl⟩
    have EO : ∀ k, OwnD S' k ↔ (OwnD S k ∨ k = id) := fun k => by
      constructor
      · rintro ⟨i, i0, i1, i2⟩
        rw [s1] at i1
        by_cases e : i = S.c
        · rw [e, s3.1] at i2; exact Or.inr i2.symm
        · rw [(s2 i (by omega)).1] at i2
          exact Or.inl ⟨i, i0, by omega, i2⟩
      · rintro (⟨i, i0, i1, i2⟩ | e)
        · exact ⟨i, i0, by rw [s1]; omega, by rw [(s2 i i1).1]; exact i2⟩
        · exact ⟨S.c, by omega, by rw [s1]; omega, by rw [s3.1, e]⟩
    have sumS : ∀ (b : Int → Int) (j : Int), sumI (fun i => b i * S'.ov i j) S'.c = sumI (fun i => b i * S.ov i j) S.c + b S.c * (y.1 j * t % q) := fun b j => by
      rw [s1, show ((S.c + 1 : Nat) : Int) = (S.c : Int) + 1 by omega, sumI_s (by omega), s3.2.2.1, sumI_cong (g := fun i => b i * S.ov i j) (by omega) (fun i z1 z2 => by rw [(s2 i z2).2.2.1])]
    have Ft : ∀ j, cg q (y.1 p * (y.1 j * t % q)) (y.1 j) := fun j => by
      have e1 : cg q (y.1 p * (y.1 j * t % q)) (y.1 p * (y.1 j * t)) := cg_mul rfl cg_mod
      refine e1.trans ?_
      rw [Int.mul_left_comm]
      have e2 : cg q (y.1 p * t) 1 := by
        show (y.1 p * t) % q = 1 % q
        rw [hinv, Int.emod_eq_of_lt (by omega) (by omega)]
      have := cg_mul (q := q) (a := y.1 j) (b := y.1 j) rfl e2
      rw [Int.mul_one] at this
      exact this
    refine ⟨fun i z1 z2 => ?_, fun i i' z1 z2 z3 => ?_, fun b hb => ?_, fun z hz hL => ?_, fun i z1 z2 => ?_, ?_, fun b hb => ?_⟩
    · rw [s1] at z2
      by_cases e : i = S.c
      · rw [e, s3.1, s3.2.1, s3.2.2.1, s3.2.2.2]
        refine ⟨⟨Or.inr rfl, hid⟩, ⟨p0, p1⟩, mulQ_in (by omega), mulQ_in (by omega), hinv, fun j z3 z4 => ?_, fun k z3 z4 z5 => ?_⟩
        · refine Eq.trans cg_mod ?_
          have e1 : cg q (LC n vec (fun j => y.2 j * t % q) j) (LC n vec (fun k => t * y.2 k) j) := LC_cg hn (fun k _ _ => by
            show cg q (y.2 k * t % q) (t * y.2 k)
            rw [Int.mul_comm t]
            exact cg_mod)
          refine Eq.trans ?_ e1.symm
          rw [LC_mul hn, Int.mul_comm]
          exact cg_mul rfl (hH j z3 z4).symm
        · show y.2 k * t % q = 0
          rw [sup k z3 z4 (fun w => z5 ((EO k).mpr (Or.inr w))) (fun w => z5 ((EO k).mpr (Or.inl w))), Int.zero_mul, Int.zero_emod]
      · obtain ⟨e1, e2, e3, e4⟩ := s2 i (by omega)
        rw [e1, e2, e3, e4]
        obtain ⟨w1, w2, w3, w4, w5, w6, w7⟩ := h1 i z1 (by omega)
        exact ⟨⟨Or.inl w1.1, w1.2⟩, w2, w3, w4, w5, w6, fun k z3 z4 z5 => w7 k z3 z4 (fun w => z5 ((EO k).mpr (Or.inl w)))⟩
    · rw [s1] at z3
      rw [(s2 i (by omega)).2.1]
      by_cases e : i' = S.c
      · rw [e, s3.2.2.1]
        show y.1 (S.op i) * t % q = 0
        rw [a3 i z1 (by omega), Int.zero_mul, Int.zero_emod]
      · rw [(s2 i' (by omega)).2.2.1]
        exact h2 i i' z1 z2 (by omega)
    · rcases hb with w | w
      · obtain ⟨b', hb'⟩ := h3 b w
        refine ⟨fup b' S.c 0, fun j z1 z2 => ?_⟩
        rw [sumS, fup_s, Int.zero_mul, Int.add_zero, sumI_cong (g := fun i => b' i * S.ov i j) (by omega) (fun i z3 z4 => by rw [fup_n (by omega)])]
        exact hb' j z1 z2
      · refine ⟨fup (fun i => -(a i)) S.c (y.1 p), fun j z1 z2 => ?_⟩
        rw [w, sumS, fup_s, sumI_cong (g := fun i => -(a i * S.ov i j)) (by omega) (fun i z3 z4 => by rw [fup_n (by omega), Int.neg_mul]), sumI_neg (by omega)]
        have e1 := cg_sub (a1 j z1 z2).symm (rfl : cg q (sumI (fun k => a k * S.ov k j) S.c) (sumI (fun k => a k * S.ov k j) S.c))
        rw [show vec id j + sumI (fun k => a k * S.ov k j) S.c - sumI (fun k => a k * S.ov k j) S.c = vec id j by omega] at e1
        refine e1.trans ?_
        rw [Int.sub_eq_add_neg, Int.add_comm]
        exact cg_add rfl (Ft j).symm
    · -- own ones don't depend on each other
      have hzid : cg q (z id) 0 := by
        have zz : ∀ k, 0 ≤ k → k < n → ¬ OwnD S k → k ≠ id → cg q (z k - z id * y.2 k) 0 := fun k z1 z2 z3 z4 => by
          rw [sup k z1 z2 z4 z3, Int.mul_zero, Int.sub_zero]
          exact hz k z1 z2 (fun w => ((EO k).mp w).elim z3 z4)
        have zo : ∀ k, 0 ≤ k → k < n → ¬ OwnD S k → cg q (z k - z id * y.2 k) 0 := fun k z1 z2 z3 => by
          by_cases e : k = id
          · rw [e, Hid, Int.mul_one, Int.sub_self]
          · exact zz k z1 z2 z3 e
        have L1 : ∀ j, 0 ≤ j → j < n → cg q (LC n vec (fun k => z k - z id * y.2 k) j) (-(z id * y.1 j)) := fun j z1 z2 => by
          have e0 : LC n vec (fun k => z k - z id * y.2 k) j = LC n vec z j + -(z id) * LC n vec y.2 j := by
            rw [← LC_mul hn, ← LC_add hn]
            unfold LC
            exact sumI_cong hn (fun k _ _ => by show (z k - z id * y.2 k) * vec k j = (z k + -(z id) * y.2 k) * vec k j; rw [Int.neg_mul, Int.sub_eq_add_neg])
          rw [e0]
          have := cg_add (hL j z1 z2) (cg_mul (q := q) (a := -(z id)) (b := -(z id)) rfl (hH j z1 z2))
          rw [Int.zero_add, Int.neg_mul] at this
          rw [Int.neg_mul] at this ⊢
          exact this
        have L2 : ∃ e : Int → Int, ∀ j, 0 ≤ j → j < n → cg q (LC n vec (fun k => z k - z id * y.2 k) j) (sumI (fun i => e i * S.ov i j) S.c) := by
          have coef : ∀ k : Int, ∃ b : Int → Int, 0 ≤ k → k < n → ∀ j, 0 ≤ j → j < n → cg q ((z k - z id * y.2 k) * vec k j) (sumI (fun i => b i * S.ov i j) S.c) := fun k => by
            by_cases w : OwnD S k
            · obtain ⟨i, i0, i1, i2⟩ := w
              obtain ⟨b, hb⟩ := h3 k (by rw [← i2]; exact (h1 i i0 i1).1.1)
              refine ⟨fun i => (z k - z id * y.2 k) * b i, fun _ _ j z1 z2 => ?_⟩
              have := cg_mul (q := q) (a := z k - z id * y.2 k) (b := z k - z id * y.2 k) rfl (hb j z1 z2)
              refine this.trans ?_
              rw [← sumI_mul (by omega)]
              exact congrArg (· % q) (sumI_cong (by omega) (fun i _ _ => (Int.mul_assoc _ _ _).symm))
            · refine ⟨fun _ => 0, fun k0 k1 j z1 z2 => ?_⟩
              have := cg_mul (c := vec k j) (d := vec k j) (zo k k0 k1 w) rfl
              rw [Int.zero_mul] at this
              rw [sumI_zero (by omega) (fun i _ _ => Int.zero_mul _)]
              exact this
          have pick : ∃ B : Int → Int → Int, ∀ k, 0 ≤ k → k < n → ∀ j, 0 ≤ j → j < n → cg q ((z k - z id * y.2 k) * vec k j) (sumI (fun i => B k i * S.ov i j) S.c) := ⟨fun k => Classical.choose (coef k), fun k => Classical.choose_spec (coef k)⟩
          obtain ⟨B, hB⟩ := pick
          refine ⟨fun i => sumI (fun k => B k i) n, fun j z1 z2 => ?_⟩
          unfold LC
          have := cg_sum (q := q) hn (fun k k0 k1 => hB k k0 k1 j z1 z2)
          refine this.trans ?_
          rw [sumI_swap hn (by omega)]
          exact congrArg (· % q) (sumI_cong (by omega) (fun i _ _ => sumI_mulr hn))
        obtain ⟨e, he⟩ := L2
        have hp := piv_zero (q := q) (v := fun j => -(z id * y.1 j)) (a := e) hop ho1 h2 (fun j z1 z2 => (L1 j z1 z2).symm.trans (he j z1 z2)) (fun i z1 z2 => by
          show cg q (-(z id * y.1 (S.op i))) 0
          rw [a3 i z1 z2, Int.mul_zero]
          rfl) p p0 p1
        have hp2 : cg q (z id * y.1 p) 0 := by
          have := cg_neg hp
          rw [Int.neg_neg] at this
          exact this
        rcases cg_prime hq hp2 with w | w
        · exact w
        · exact absurd (cg_z w hFp) p2
      refine h4 z (fun k z1 z2 z3 => ?_) hL
      by_cases e : k = id
      · rw [e]; exact hzid
      · exact hz k z1 z2 (fun w => ((EO k).mp w).elim z3 e)
    · rw [s4.1] at z2
      rw [s4.2.1, s4.2.2]
      obtain ⟨w1, w2, w3, w4, w5⟩ := h5 i z1 z2
      exact ⟨⟨Or.inl w1.1, w1.2.1, fun w => ((EO _).mp w).elim w1.2.2 (fun e => hnew (by rw [← e]; exact w1.1))⟩, w2, w3, w4, fun k z3 z4 z5 z6 => w5 k z3 z4 z5 (fun w => z6 ⟨(EO k).mpr (Or.inl w.1), w.2⟩)⟩
    · rw [s4.1, s4.2.1]
      exact h6
    · rw [s4.1, s4.2.1]
      rcases hb with w | w
      · rcases h7 b w with w2 | w2
        · exact Or.inl ((EO b).mpr (Or.inl w2))
        · exact Or.inr w2
      · exact Or.inl ((EO b).mpr (Or.inr w))
theorem GInv.iff {n q : Int} {vec : Int → Int → Int} {Rb : Int → Int → Prop} {S : GS} {Ad Ad' : Int → Prop} (h : GInv n q vec Rb S Ad) (he : ∀ b, Ad b ↔ Ad' b) : GInv n q vec Rb S Ad' := by
  have : Ad = Ad' := funext (fun b => propext (he b))
  rw [← this]
  exact h
theorem gRun_GInv {n q : Int} {jm : Int → Int} {vec : Int → Int → Int} (hq : qP q) (hv : ∀ k, 0 ≤ k → k < n → inQ n q (vec k)) : ∀ k : Nat, (k : Int) ≤ n → GInv n q vec (fun a b => a < b) (gRun q n jm vec k) (fun b => (0 ≤ b ∧ b < k) ∧ jm b = 0)
  | 0, _ => GInv_0.iff (fun b => ⟨False.elim, fun w => by omega⟩)
  | k + 1, hk => by
    have ih := gRun_GInv (jm := jm) hq hv k (by omega)
    unfold gRun
    split
    · rename_i hj
      refine (ih.step hq (by omega) (fun w => by omega) (fun a w => w.1.2) (hv k (by omega) (by omega))).iff (fun b => ?_)
      constructor
      · rintro (w | w)
        · exact ⟨by omega, w.2⟩
        · rw [w]; exact ⟨by omega, hj⟩
      · rintro ⟨w1, w2⟩
        by_cases e : b = k
        · exact Or.inr e
        · exact Or.inl ⟨by omega, w2⟩
    · rename_i hj
      refine ih.iff (fun b => ⟨fun w => ⟨by omega, w.2⟩, fun w => ⟨⟨w.1.1, ?_⟩, w.2⟩⟩)
      by_cases e : b = k
      · rw [e] at w; exact absurd w.2 hj
      · omega
theorem gRunD_GInv {n q : Int} {jm : Int → Int} {vec : Int → Int → Int} (hq : qP q) (hv : ∀ k, 0 ≤ k → k < n → inQ n q (vec k)) : ∀ k : Nat, (k : Int) ≤ n → GInv n q vec (fun a b => b < a) (gRunD q n jm vec k) (fun b => (n - k ≤ b ∧ b < n) ∧ jm b = 0)
  | 0, _ => GInv_0.iff (fun b => ⟨False.elim, fun w => by omega⟩)
  | k + 1, hk => by
    have ih := gRunD_GInv (jm := jm) hq hv k (by omega)
    unfold gRunD
    split
    · rename_i hj
      refine (ih.step hq (by omega) (fun w => by omega) (fun a w => by omega) (hv _ (by omega) (by omega))).iff (fun b => ?_)
      constructor
      · rintro (w | w)
        · exact ⟨by omega, w.2⟩
        · rw [w]; exact ⟨by omega, hj⟩
      · rintro ⟨w1, w2⟩
        by_cases e : b = n - 1 - k
        · exact Or.inr e
        · exact Or.inl ⟨by omega, w2⟩
    · rename_i hj
      refine ih.iff (fun b => ⟨fun w => ⟨by omega, w.2⟩, fun w => ⟨⟨?_, w.1.2⟩, w.2⟩⟩)
      by_cases e : b = n - 1 - k
      · rw [e] at w; exact absurd w.2 hj
      · omega
