/-! the elimination as a pure run, and what letting in leaves behind of it -/
/-- own ones: how many, numbers, pivots, rows, makings; tied ones: how many, numbers, makings -/
abbrev GS : Type := Nat × (Int → Int) × (Int → Int) × (Int → Int → Int) × (Int → Int → Int) × Nat × (Int → Int) × (Int → Int → Int)
abbrev GS.c (S : GS) : Nat := S.1
abbrev GS.od (S : GS) : Int → Int := S.2.1
abbrev GS.op (S : GS) : Int → Int := S.2.2.1
abbrev GS.ov (S : GS) : Int → Int → Int := S.2.2.2.1
abbrev GS.om (S : GS) : Int → Int → Int := S.2.2.2.2.1
abbrev GS.tc (S : GS) : Nat := S.2.2.2.2.2.1
abbrev GS.td (S : GS) : Int → Int := S.2.2.2.2.2.2.1
abbrev GS.tv (S : GS) : Int → Int → Int := S.2.2.2.2.2.2.2
def fup {α : Type} (f : Int → α) (k : Int) (x : α) : Int → α := fun j => if j = k then x else f j
theorem fup_s {α : Type} {f : Int → α} {k : Int} {x : α} : fup f k x k = x := if_pos rfl
theorem fup_n {α : Type} {f : Int → α} {k j : Int} {x : α} (h : j ≠ k) : fup f k x j = f j := if_neg h
def gStep (q n : Int) (S : GS) (id : Int) (f : Int → Int) : GS :=
  if ff (gv q S.op S.ov S.om S.c f (unitV id)).1 n = -1 then (S.c, S.od, S.op, S.ov, S.om, S.tc + 1, fup S.td S.tc id, fup S.tv S.tc (gv q S.op S.ov S.om S.c f (unitV id)).2)
  else (S.c + 1, fup S.od S.c id, fup S.op S.c (ff (gv q S.op S.ov S.om S.c f (unitV id)).1 n),
    fup S.ov S.c (fun j => ((gv q S.op S.ov S.om S.c f (unitV id)).1 j * invQ ((gv q S.op S.ov S.om S.c f (unitV id)).1 (ff (gv q S.op S.ov S.om S.c f (unitV id)).1 n)) q) % q),
    fup S.om S.c (fun j => ((gv q S.op S.ov S.om S.c f (unitV id)).2 j * invQ ((gv q S.op S.ov S.om S.c f (unitV id)).1 (ff (gv q S.op S.ov S.om S.c f (unitV id)).1 n)) q) % q), S.tc, S.td, S.tv)
/-- the run over the numbers 0 .. k - 1 that aren't jammed -/
def gs0 : GS := (0, fun _ => 0, fun _ => 0, fun _ _ => 0, fun _ _ => 0, 0, fun _ => 0, fun _ _ => 0)
def gRun (q n : Int) (jm : Int → Int) (vec : Int → Int → Int) : Nat → GS
  | 0 => gs0
  | k + 1 => if jm k = 0 then gStep q n (gRun q n jm vec k) k (vec k) else gRun q n jm vec k
/-- .. over n - 1 .. n - k -/
def gRunD (q n : Int) (jm : Int → Int) (vec : Int → Int → Int) : Nat → GS
  | 0 => gs0
  | k + 1 => if jm (n - 1 - k) = 0 then gStep q n (gRunD q n jm vec k) (n - 1 - k) (vec (n - 1 - k)) else gRunD q n jm vec k
theorem gv_cong {n q : Int} {op : Int → Int} {ov om : Int → Int → Int} {f f' h h' : Int → Int} {c : Nat} (hop : ∀ i : Nat, i < c → 0 ≤ op i ∧ op i < n) (hf : ∀ j, 0 ≤ j → j < n → f j = f' j) (hh : ∀ j, 0 ≤ j → j < n → h j = h' j) :
    ∀ i : Nat, i ≤ c → (∀ j, 0 ≤ j → j < n → (gv q op ov om i f h).1 j = (gv q op ov om i f' h').1 j) ∧ ∀ j, 0 ≤ j → j < n → (gv q op ov om i f h).2 j = (gv q op ov om i f' h').2 j
  | 0, _ => ⟨hf, hh⟩
  | i + 1, hi => by
    obtain ⟨h1, h2⟩ := gv_cong hop hf hh i (by omega)
    have hp := hop i (by omega)
    have e := h1 (op i) hp.1 hp.2
    unfold gv
    rw [e]
    split
    · exact ⟨h1, h2⟩
    · exact ⟨fun j q1 q2 => by show (_ + _) % q = (_ + _) % q; rw [h1 j q1 q2], fun j q1 q2 => by show (_ + _) % q = (_ + _) % q; rw [h2 j q1 q2]⟩
/-- the span at a holds the run's state S -/
def SpS (μ : Mu) (a n q : Int) (S : GS) : Prop := SpRep μ a n q S.c S.od S.op S.ov S.om ∧ μ a 6 = S.tc ∧
  ∀ i : Int, 0 ≤ i → i < S.tc → μ (a + 77) i = S.td i ∧ (0 ≤ S.td i ∧ S.td i < 36) ∧ μ (a + 38) (S.td i) = -1 ∧ (∀ j, 0 ≤ j → j < n → μ (a + 40 + S.td i) j = S.tv i j) ∧ inQ n q (S.tv i)
/-- the number isn't among those that were let in -/
def idF (S : GS) (id : Int) : Prop := (∀ i : Int, 0 ≤ i → i < S.c → S.od i ≠ id) ∧ ∀ i : Int, 0 ≤ i → i < S.tc → S.td i ≠ id
theorem admM_off {μ : Mu} {a id v n q b j : Int} {F H : Int → Int} (hid : 0 ≤ id ∧ id < 36) (hb : b < a ∨ a + 78 ≤ b) : admM μ a id v n q F H b j = μ b j := by
  unfold admM
  split
  · rw [up_offA (by omega), up_offA (by omega), up_offA (by omega), admM1_off (by omega) (by omega)]
  · rw [row_off (by omega), row_off (by omega), up_offA (by omega), up_offA (by omega), up_offA (by omega), admM1_off (by omega) (by omega)]
theorem mulQ_in {n q t : Int} {f : Int → Int} (hq : 0 < q) : inQ n q (fun j => (f j * t) % q) := fun j _ _ => ⟨Int.emod_nonneg _ (by omega), Int.emod_lt_of_pos _ hq⟩
set_option maxHeartbeats 4000000 in
theorem admit_rep {μ : Mu} {a id v n q : Int} {S : GS} {f : Int → Int} (hS : SpS μ a n q S) (hid : 0 ≤ id ∧ id < 36) (hn : 0 ≤ n) (hq : 2 ≤ q) (hF : idF S id) (hf : ∀ j, 0 ≤ j → j < n → μ v j = f j) (hfq : inQ n q f) :
    SpS (admM μ a id v n q (gv q S.op S.ov S.om S.c (μ v) (unitV id)).1 (gv q S.op S.ov S.om S.c (μ v) (unitV id)).2) a n q (gStep q n S id f) := by
  obtain ⟨⟨e5, e7, e8, ho⟩, e6, ht⟩ := hS
  have hop : ∀ i : Nat, i < S.c → 0 ≤ S.op i ∧ S.op i < n := fun i hi => (ho i (by omega) (by omega)).2.2.2.1
  obtain ⟨c1, c2⟩ := gv_cong (q := q) (ov := S.ov) (om := S.om) (h := unitV id) (h' := unitV id) hop hf (fun _ _ _ => rfl) S.c (Nat.le_refl _)
  have hin := gv_in (n := n) (op := S.op) (ov := S.ov) (om := S.om) (show 0 < q by omega) hfq (unitV_in (k := id) hq) S.c
  generalize gv q S.op S.ov S.om S.c (μ v) (unitV id) = y at c1 c2 ⊢
  unfold gStep
  generalize gv q S.op S.ov S.om S.c f (unitV id) = y' at c1 c2 hin ⊢
  have eff : ff y.1 n = ff y'.1 n := ff_cong c1
  unfold admM
  by_cases hw : ff y'.1 n = -1
  · rw [if_pos hw, if_pos (eff.trans hw)]
    generalize hm : up (up (up (admM1 μ a id v n y.1 y.2) (a + 38) id (-1)) (a + 77) (μ a 6) id) a 6 (μ a 6 + 1) = m
    have off : ∀ b j, b ≠ a + 2 + id → b ≠ a + 40 + id → b ≠ a + 38 → b ≠ a + 77 → b ≠ a → m b j = μ b j := fun b j h1 h2 h3 h4 h5 => by rw [← hm, up_offA h5, up_offA h4, up_offA h3, admM1_off h1 h2]
    have ma : ∀ j, j ≠ 6 → m a j = μ a j := fun j hj => by rw [← hm, up_ne (fun w => hj w.2), up_offA (by omega), up_offA (by omega), admM1_off (by omega) (by omega)]
    have m38 : ∀ j, j ≠ id → m (a + 38) j = μ (a + 38) j := fun j hj => by rw [← hm, up_offA (by omega), up_offA (by omega), up_ne (fun w => hj w.2), admM1_off (by omega) (by omega)]
    have m77 : ∀ j : Int, j ≠ S.tc → m (a + 77) j = μ (a + 77) j := fun j hj => by rw [← hm, up_offA (by omega), e6, up_ne (fun w => hj w.2), up_offA (by omega), admM1_off (by omega) (by omega)]
    refine ⟨⟨by rw [ma 5 (by decide)]; exact e5, by rw [ma 7 (by decide)]; exact e7, by rw [ma 8 (by decide)]; exact e8, fun i h1 h2 => ?_⟩, ?_, fun i h1 h2 => ?_⟩
    · obtain ⟨w1, w2, w3, w4, w5, w6, w7, w8⟩ := ho i h1 h2
      have hne := hF.1 i h1 h2
      show m (a + 76) i = S.od i ∧ (0 ≤ S.od i ∧ S.od i < 36) ∧ m (a + 38) (S.od i) = S.op i ∧ (0 ≤ S.op i ∧ S.op i < n) ∧ (∀ j, 0 ≤ j → j < n → m (a + 2 + S.od i) j = S.ov i j) ∧ inQ n q (S.ov i) ∧ (∀ j, 0 ≤ j → j < n → m (a + 40 + S.od i) j = S.om i j) ∧ inQ n q (S.om i)
      refine ⟨by rw [off _ _ (by omega) (by omega) (by omega) (by omega) (by omega)]; exact w1, w2, by rw [m38 _ hne]; exact w3, w4, fun j q1 q2 => ?_, w6, fun j q1 q2 => ?_, w8⟩
      · rw [off _ _ (by omega) (by omega) (by omega) (by omega) (by omega)]; exact w5 j q1 q2
      · rw [off _ _ (by omega) (by omega) (by omega) (by omega) (by omega)]; exact w7 j q1 q2
    · show m a 6 = ((S.tc + 1 : Nat) : Int)
      rw [← hm, up_same, e6]
      rfl
    · have h2' : i < S.tc + 1 := h2
      by_cases ei : i = S.tc
      · subst ei
        show m (a + 77) S.tc = fup S.td S.tc id S.tc ∧ (0 ≤ fup S.td S.tc id S.tc ∧ fup S.td S.tc id S.tc < 36) ∧ m (a + 38) (fup S.td S.tc id S.tc) = -1 ∧ (∀ j, 0 ≤ j → j < n → m (a + 40 + fup S.td S.tc id S.tc) j = fup S.tv S.tc y'.2 S.tc j) ∧ inQ n q (fup S.tv S.tc y'.2 S.tc)
        rw [fup_s, fup_s]
        refine ⟨by rw [← hm, up_offA (by omega), e6, up_same], hid, by rw [← hm, up_offA (by omega), up_offA (by omega), up_same], fun j q1 q2 => ?_, hin.2⟩
        rw [← hm, up_offA (by omega), up_offA (by omega), up_offA (by omega), admM1_M ⟨q1, q2⟩]
        exact c2 j q1 q2
      · obtain ⟨w1, w2, w3, w4, w5⟩ := ht i h1 (by omega)
        have hne := hF.2 i h1 (by omega)
        show m (a + 77) i = fup S.td S.tc id i ∧ (0 ≤ fup S.td S.tc id i ∧ fup S.td S.tc id i < 36) ∧ m (a + 38) (fup S.td S.tc id i) = -1 ∧ (∀ j, 0 ≤ j → j < n → m (a + 40 + fup S.td S.tc id i) j = fup S.tv S.tc y'.2 i j) ∧ inQ n q (fup S.tv S.tc y'.2 i)
        rw [fup_n ei, fup_n ei]
        refine ⟨by rw [m77 i ei]; exact w1, w2, by rw [m38 _ hne]; exact w3, fun j q1 q2 => ?_, w5⟩
        rw [off _ _ (by omega) (by omega) (by omega) (by omega) (by omega)]
        exact w4 j q1 q2
  · rw [if_neg hw, if_neg (fun z => hw (eff.symm.trans z)), eff]
    rcases ff_range (f := y'.1) hn with h9 | ⟨p1, p2, p3, p4⟩
    · exact absurd h9.1 hw
    have ep : y.1 (ff y'.1 n) = y'.1 (ff y'.1 n) := c1 _ p1 p2
    rw [ep]
    generalize ff y'.1 n = p at p1 p2 p3 p4 ⊢
    generalize invQ (y'.1 p) q = t
    generalize hm : row (row (up (up (up (admM1 μ a id v n y.1 y.2) (a + 38) id p) (a + 76) (μ a 5) id) a 5 (μ a 5 + 1)) (a + 2 + id) n (fun j => y.1 j * t % q)) (a + 40 + id) n (fun j => y.2 j * t % q) = m
    have off : ∀ b j, b ≠ a + 2 + id → b ≠ a + 40 + id → b ≠ a + 38 → b ≠ a + 76 → b ≠ a → m b j = μ b j := fun b j h1 h2 h3 h4 h5 => by rw [← hm, row_off h2, row_off h1, up_offA h5, up_offA h4, up_offA h3, admM1_off h1 h2]
    have ma : ∀ j, j ≠ 5 → m a j = μ a j := fun j hj => by rw [← hm, row_off (by omega), row_off (by omega), up_ne (fun w => hj w.2), up_offA (by omega), up_offA (by omega), admM1_off (by omega) (by omega)]
    have m38 : ∀ j, j ≠ id → m (a + 38) j = μ (a + 38) j := fun j hj => by rw [← hm, row_off (by omega), row_off (by omega), up_offA (by omega), up_offA (by omega), up_ne (fun w => hj w.2), admM1_off (by omega) (by omega)]
    have m76 : ∀ j : Int, j ≠ S.c → m (a + 76) j = μ (a + 76) j := fun j hj => by rw [← hm, row_off (by omega), row_off (by omega), up_offA (by omega), e5, up_ne (fun w => hj w.2), up_offA (by omega), admM1_off (by omega) (by omega)]
    refine ⟨⟨?_, by rw [ma 7 (by decide)]; exact e7, by rw [ma 8 (by decide)]; exact e8, fun i h1 h2 => ?_⟩, by rw [ma 6 (by decide)]; exact e6, fun i h1 h2 => ?_⟩
    · show m a 5 = ((S.c + 1 : Nat) : Int)
      rw [← hm, row_off (by omega), row_off (by omega), up_same, e5]
      rfl
    · have h2' : i < S.c + 1 := h2
      by_cases ei : i = S.c
      · subst ei
        show m (a + 76) S.c = fup S.od S.c id S.c ∧ (0 ≤ fup S.od S.c id S.c ∧ fup S.od S.c id S.c < 36) ∧ m (a + 38) (fup S.od S.c id S.c) = fup S.op S.c p S.c ∧ (0 ≤ fup S.op S.c p S.c ∧ fup S.op S.c p S.c < n) ∧ (∀ j, 0 ≤ j → j < n → m (a + 2 + fup S.od S.c id S.c) j = fup S.ov S.c (fun j => y'.1 j * t % q) S.c j) ∧ inQ n q (fup S.ov S.c (fun j => y'.1 j * t % q) S.c) ∧ (∀ j, 0 ≤ j → j < n → m (a + 40 + fup S.od S.c id S.c) j = fup S.om S.c (fun j => y'.2 j * t % q) S.c j) ∧ inQ n q (fup S.om S.c (fun j => y'.2 j * t % q) S.c)
        rw [fup_s, fup_s, fup_s, fup_s]
        refine ⟨by rw [← hm, row_off (by omega), row_off (by omega), up_offA (by omega), e5, up_same], hid, by rw [← hm, row_off (by omega), row_off (by omega), up_offA (by omega), up_offA (by omega), up_same], ⟨p1, p2⟩, fun j q1 q2 => ?_, mulQ_in (by omega), fun j q1 q2 => ?_, mulQ_in (by omega)⟩
        · rw [← hm, row_off (by omega), row_in ⟨q1, q2⟩, c1 j q1 q2]
        · rw [← hm, row_in ⟨q1, q2⟩, c2 j q1 q2]
      · obtain ⟨w1, w2, w3, w4, w5, w6, w7, w8⟩ := ho i h1 (by omega)
        have hne := hF.1 i h1 (by omega)
        show m (a + 76) i = fup S.od S.c id i ∧ (0 ≤ fup S.od S.c id i ∧ fup S.od S.c id i < 36) ∧ m (a + 38) (fup S.od S.c id i) = fup S.op S.c p i ∧ (0 ≤ fup S.op S.c p i ∧ fup S.op S.c p i < n) ∧ (∀ j, 0 ≤ j → j < n → m (a + 2 + fup S.od S.c id i) j = fup S.ov S.c (fun j => y'.1 j * t % q) i j) ∧ inQ n q (fup S.ov S.c (fun j => y'.1 j * t % q) i) ∧ (∀ j, 0 ≤ j → j < n → m (a + 40 + fup S.od S.c id i) j = fup S.om S.c (fun j => y'.2 j * t % q) i j) ∧ inQ n q (fup S.om S.c (fun j => y'.2 j * t % q) i)
        rw [fup_n ei, fup_n ei, fup_n ei, fup_n ei]
        refine ⟨by rw [m76 i ei]; exact w1, w2, by rw [m38 _ hne]; exact w3, w4, fun j q1 q2 => ?_, w6, fun j q1 q2 => ?_, w8⟩
        · rw [off _ _ (by omega) (by omega) (by omega) (by omega) (by omega)]; exact w5 j q1 q2
        · rw [off _ _ (by omega) (by omega) (by omega) (by omega) (by omega)]; exact w7 j q1 q2
    · obtain ⟨w1, w2, w3, w4, w5⟩ := ht i h1 h2
      have hne := hF.2 i h1 h2
      show m (a + 77) i = S.td i ∧ (0 ≤ S.td i ∧ S.td i < 36) ∧ m (a + 38) (S.td i) = -1 ∧ (∀ j, 0 ≤ j → j < n → m (a + 40 + S.td i) j = S.tv i j) ∧ inQ n q (S.tv i)
      refine ⟨by rw [off _ _ (by omega) (by omega) (by omega) (by omega) (by omega)]; exact w1, w2, by rw [m38 _ hne]; exact w3, fun j q1 q2 => ?_, w5⟩
      rw [off _ _ (by omega) (by omega) (by omega) (by omega) (by omega)]
      exact w4 j q1 q2
