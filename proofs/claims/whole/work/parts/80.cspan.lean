/-! the class: the rest of Span; small ones of LampHall; contracts of methods that may throw -/
theorem Cnx.ofP {l : Launch} {G : Gx} {y : MethodName} {cc : ByteArray} {nL : Nat} {ret : Option FieldType} {d k : Nat} {as : List AV} {γ μ : Mu} {Po : Option AV → Mu → Mu → Prop} {Px : String → Mu → Mu → Prop} (hl : l.stackTraces = false) (hy : plainName y.cls = true) (h1 : ∀ v ∈ as, ∀ z, v ≠ aL z) (hn : Nat.ble as.length nL = true)
    (body : ∀ P' : Option AV → Mu → Mu → Prop, ∀ X' : String → Mu → Mu → Prop, (∀ r γ' μ', Po r γ' μ' → P' r γ' μ') → (∀ E γ' μ', Px E γ' μ' → X' E γ' μ') → ∀ X : Mx, X.l = l → Cx X G cc nL y.cls ret d k → (∀ x ∈ X.c.exceptionTable.toList, False) → V X G (Qx X G k P' X') 0 0 (lv0 as nL) [] γ μ) : Cnx l G y cc nL ret d k as γ μ Po Px :=
  Cnx.of hy h1 (Nat.le_of_ble_eq_true hn) hl (body Po Px (fun _ _ _ h => h) (fun _ _ _ h => h))
theorem SpanAt.o {G : Gx} {γ : Mu} {a : Int} (h : SpanAt G γ a) : shO G a 5 9 := h.1
/-- how often each own one: numbers behind i steps of express -/
def exN (q : Int) (S : GS) (f : Int → Int) : Nat → Int → Int
  | 0 => fun _ => 0
  | i + 1 => if (gv q S.op S.ov S.om i f (fun _ => 0)).1 (S.op i) = 0 then exN q S f i else fun j => (exN q S f i j + (gv q S.op S.ov S.om i f (fun _ => 0)).1 (S.op i) * S.om i j) % q
theorem exN_in {n q : Int} {S : GS} {f : Int → Int} (hq : 0 < q) : ∀ i : Nat, inQ n q (exN q S f i)
  | 0 => fun _ _ _ => ⟨Int.le_refl _, hq⟩
  | i + 1 => by
    unfold exN
    split
    · exact exN_in hq i
    · exact fun j _ _ => ⟨Int.emod_nonneg _ (by omega), Int.emod_lt_of_pos _ hq⟩
abbrev gvR (q : Int) (S : GS) (f : Int → Int) : Int → Int := (gv q S.op S.ov S.om S.c f (fun _ => 0)).1
section CSpan
variable {l : Launch} {G : Gx} {γ μ : Mu}
theorem c_express (hl : l.stackTraces = false) (d : Nat) (hd : 0 < d) {a v u n q : Int} {S : GS} {f : Int → Int} (ha : SpanAt G γ a) (hv : shO G v 11 36) (hu : shO G u 11 36) (hva : v < a ∨ a + 78 ≤ v) (hua : u < a ∨ a + 78 ≤ u) (huv : u ≠ v) (hn : 0 ≤ n ∧ n ≤ 36) (hq : 2 ≤ q ∧ q ≤ 5) (hS : SpS μ a n q S) (hc : S.c ≤ 36) (hf : ∀ j, 0 ≤ j → j < n → μ v j = f j) (hfq : inQ n q f) :
    Cn l G yX5_express cX5_express 6 (some .boolean) d 0 [aR a, aR v, aR u] γ μ (fun r γ' μ' => r = some (aI (if ff (gvR q S f) n = -1 then 1 else 0)) ∧ γ' = γ ∧ (∀ j, 0 ≤ j → j < n → μ' u j = exN q S f S.c j) ∧ ∀ y j, y ≠ v → y ≠ u → μ' y j = μ y j) := by
  refine Cn.ofP hl (plainFor_of_name (by decide)) (noLc nlR (noLc nlR (noL1 nlR))) rfl (fun P hP o1 o3 X hX hC => B_X5_express_0 hC ha.o ?_)
  obtain ⟨s0, g0, s1, g1, s38, g2, s39, g3, s76, g4, s77, hrr⟩ := id ha
  obtain ⟨⟨e5, e7, e8, ho⟩, e6, ht⟩ := id hS
  refine ⟨0, 0, _, hd, Nat.le_refl _, hX ▸ c_fill hl 0 (lnO hu (by decide)), PV.use ?_⟩
  rw [shLen hu]
  refine B_X5_express_5 hC ha.o ?_
  have loop : ∀ (k i : Nat) (m : Mu), i + k = S.c → (∀ y j, y ≠ v → y ≠ u → m y j = μ y j) → (∀ j, 0 ≤ j → j < n → m v j = (gv q S.op S.ov S.om i f (fun _ => 0)).1 j) → (∀ j, 0 ≤ j → j < n → m u j = exN q S f i j) → V X G (Qm X G 0 P) 0 7 [aR a, aR v, aR u, aI i, aD, aD] [] γ m := by
    intro k
    induction k with
    | zero =>
      intro i m hk fm mv mu
      obtain rfl : i = S.c := by omega
      refine B_X5_express_7 hC ha.o ?_
      rw [fm a 5 (by omega) (by omega), e5]
      refine ⟨fun _ => ⟨0, 0, _, hd, Nat.le_refl _, hX ▸ c_firstUnlike0 hl 0 ha hv (by rw [fm a 7 (by omega) (by omega), e7]; omega), PI.use ?_⟩, fun z => absurd (by omega) z⟩
      rw [fm a 7 (by omega) (by omega), e7, ff_cong (f := m v) (g := gvR q S f) mv]
      refine B_X5_express_97 hC ⟨fun h => ⟨Nat.le_refl _, hP _ _ _ ⟨by rw [if_neg h], rfl, mu, fm⟩⟩, fun h => ⟨Nat.le_refl _, hP _ _ _ ⟨by rw [if_pos h], rfl, mu, fm⟩⟩⟩
    | succ k ih =>
      intro i m hk fm mv mu
      obtain ⟨w1, w2, w3, w4, w5, w6, w7, w8⟩ := ho i (by omega) (by omega)
      obtain ⟨⟨b1, b2⟩, b3, b4⟩ := hrr (S.od i) w2.1 w2.2
      have hgi := (gv_in (op := S.op) (ov := S.ov) (om := S.om) (show 0 < q by omega) hfq (fun j _ _ => (⟨Int.le_refl _, by omega⟩ : (0 : Int) ≤ 0 ∧ (0 : Int) < q)) i).1
      have hei := exN_in (n := n) (q := q) (S := S) (f := f) (by omega) i
      have ei1 : ((i + 1 : Nat) : Int) = (i : Int) + 1 := by omega
      refine B_X5_express_7 hC ha.o ?_
      rw [fm a 5 (by omega) (by omega), e5, g3, fm (a + 76) i (by omega) (by omega), w1, g1, fm (a + 38) (S.od i) (by omega) (by omega), w3, mv (S.op i) w4.1 w4.2, g0, fm a 8 (by omega) (by omega), e8, fm a 7 (by omega) (by omega), e7, b1]
      have ht := hgi (S.op i) w4.1 w4.2
      refine ⟨fun z => absurd z (by omega), fun _ => ⟨ixO s76 (by omega), ixO s38 (by omega), ixO hv (by omega), fun h => ?_, fun h => ⟨ixO s1 (by omega), by constructor <;> omega, ?_⟩⟩⟩
      · refine B_X5_express_86 hC ha.o ⟨by constructor <;> omega, ?_⟩
        rw [← ei1]
        refine ih (i + 1) m (by omega) fm (fun j z1 z2 => ?_) (fun j z1 z2 => ?_)
        · unfold gv; rw [if_pos h]; exact mv j z1 z2
        · unfold exN; rw [if_pos h]; exact mu j z1 z2
      · have fb : ∀ j, 0 ≤ j → j < n → m (a + 2 + S.od i) j = S.ov i j := fun j z1 z2 => by rw [fm _ _ (by omega) (by omega)]; exact w5 j z1 z2
        refine ⟨0, 0, _, hd, Nat.le_refl _, hX ▸ c_addTimes hl 0 (lnO hv (by decide)) (lnO b2 (by decide)) (by omega) hq ⟨by omega, by omega⟩ ⟨hn.1, by rw [shLen hv]; omega, by rw [shLen b2]; omega⟩ (fun j z1 z2 => by rw [mv j z1 z2]; exact hgi j z1 z2) (fun j z1 z2 => by rw [fb j z1 z2]; exact w6 j z1 z2), PV.use ?_⟩
        refine B_X5_express_65 hC ha.o ?_
        rw [g2, b3, row_off (show a ≠ v by omega), row_off (show a ≠ v by omega), fm a 8 (by omega) (by omega), e8, fm a 7 (by omega) (by omega), e7]
        have fc : ∀ j, 0 ≤ j → j < n → row m v n (fun j => (m v j + (q - (gv q S.op S.ov S.om i f (fun _ => 0)).1 (S.op i)) * m (a + 2 + S.od i) j) % q) (a + 40 + S.od i) j = S.om i j := fun j z1 z2 => by rw [row_off (by omega), fm _ _ (by omega) (by omega)]; exact w7 j z1 z2
        have mu1 : ∀ j, 0 ≤ j → j < n → row m v n (fun j => (m v j + (q - (gv q S.op S.ov S.om i f (fun _ => 0)).1 (S.op i)) * m (a + 2 + S.od i) j) % q) u j = exN q S f i j := fun j z1 z2 => by rw [row_off huv]; exact mu j z1 z2
        have mv1 : ∀ j, 0 ≤ j → j < n → row m v n (fun j => (m v j + (q - (gv q S.op S.ov S.om i f (fun _ => 0)).1 (S.op i)) * m (a + 2 + S.od i) j) % q) v j = (gv q S.op S.ov S.om (i + 1) f (fun _ => 0)).1 j := fun j z1 z2 => by
          rw [row_in ⟨z1, z2⟩, mv j z1 z2, fb j z1 z2]
          conv => rhs; unfold gv
          rw [if_neg h]
        have fm1 : ∀ y j, y ≠ v → y ≠ u → row m v n (fun j => (m v j + (q - (gv q S.op S.ov S.om i f (fun _ => 0)).1 (S.op i)) * m (a + 2 + S.od i) j) % q) y j = μ y j := fun y j z1 z2 => by rw [row_off z1]; exact fm y j z1 z2
        generalize row m v n (fun j => (m v j + (q - (gv q S.op S.ov S.om i f (fun _ => 0)).1 (S.op i)) * m (a + 2 + S.od i) j) % q) = m1 at *
        refine ⟨ixO s39 (by omega), 0, 0, _, hd, Nat.le_refl _, hX ▸ c_addTimes hl 0 (lnO hu (by decide)) (lnO b4 (by decide)) (by omega) hq ht ⟨hn.1, by rw [shLen hu]; omega, by rw [shLen b4]; omega⟩ (fun j z1 z2 => by rw [mu1 j z1 z2]; exact hei j z1 z2) (fun j z1 z2 => by rw [fc j z1 z2]; exact w8 j z1 z2), PV.use ?_⟩
        refine B_X5_express_86 hC ha.o ⟨by constructor <;> omega, ?_⟩
        rw [← ei1]
        refine ih (i + 1) _ (by omega) (fun y j z1 z2 => by rw [row_off z2]; exact fm1 y j z1 z2) (fun j z1 z2 => by rw [row_off (by omega)]; exact mv1 j z1 z2) (fun j z1 z2 => ?_)
        rw [row_in ⟨z1, z2⟩, mu1 j z1 z2, fc j z1 z2]
        conv => rhs; unfold exN
        rw [if_neg h]
  refine loop S.c 0 _ (by omega) (fun y j z1 z2 => row_off z2) (fun j z1 z2 => by rw [row_off (by omega)]; exact hf j z1 z2) (fun j z1 z2 => row_in ⟨z1, by omega⟩)
theorem c_isInSomeTie (hl : l.stackTraces = false) (d : Nat) {a x n q : Int} {S : GS} (ha : SpanAt G γ a) (hn : 0 ≤ n ∧ n ≤ 36) (hS : SpS μ a n q S) (hc : S.tc ≤ 36) (hx : 0 ≤ x ∧ x < n) :
    Cn l G yX5_isInSomeTie cX5_isInSomeTie 3 (some .boolean) d 0 [aR a, aI x] γ μ (PI (if fs (fun i => S.tv i x) S.tc 0 = -1 then 0 else 1) γ μ) := by
  refine Cn.ofP hl (plainFor_of_name (by decide)) (noLc nlR (noL1 nlI)) rfl (fun P hP o1 o3 X hX hC => B_X5_isInSomeTie_0 hC ha.o ?_)
  obtain ⟨s0, g0, s1, g1, s38, g2, s39, g3, s76, g4, s77, hrr⟩ := id ha
  obtain ⟨-, e6, ht⟩ := id hS
  have loop := rem_ind (n := (S.tc : Int)) (P := fun i => fs (fun i => S.tv i x) S.tc i = fs (fun i => S.tv i x) S.tc 0 → V X G (Qm X G 0 P) 0 2 [aR a, aI x, aI i] [] γ μ) (fun i i0 i1 ih hi => ?_)
  · exact loop 0 (by omega) (by omega) rfl
  · refine B_X5_isInSomeTie_2 hC ha.o ?_
    rw [e6, g4, g2]
    rcases Int.lt_or_le i S.tc with hlt | hge
    · obtain ⟨t1, t2, t3, t4, t5⟩ := ht i i0 hlt
      obtain ⟨⟨b1, b2⟩, b3, b4⟩ := hrr (S.td i) t2.1 t2.2
      rw [t1, b3, t4 x hx.1 hx.2]
      refine ⟨fun z => absurd z (by omega), fun _ => ⟨ixO s77 (by omega), ixO s39 (by omega), ixO b4 (by omega), fun e => ⟨by constructor <;> omega, ih hlt (by rw [← hi]; exact (fs_1 (f := fun i => S.tv i x) hlt e).symm)⟩, fun e => ⟨Nat.le_refl _, hP _ _ _ ⟨?_, rfl, rfl⟩⟩⟩⟩
      rw [← hi, fs_2 (f := fun i => S.tv i x) hlt e, if_neg (by omega)]
    · refine ⟨fun _ => ⟨Nat.le_refl _, hP _ _ _ ⟨?_, rfl, rfl⟩⟩, fun z => absurd hge z⟩
      rw [← hi, fs_ge hge, if_pos rfl]
/-- how often the own ones make what was let in -/
def ptOk (S : GS) (q x : Int) (pt : Int → Int) : Prop := (∃ i : Int, 0 ≤ i ∧ i < S.tc ∧ S.td i = x ∧ ∀ r : Int, 0 ≤ r → r < S.c → pt r = (q - S.tv i (S.od r)) % q) ∨ ((∃ i : Int, 0 ≤ i ∧ i < S.c ∧ S.od i = x) ∧ ∀ r : Int, 0 ≤ r → r < S.c → pt r = if S.od r = x then 1 else 0)
theorem c_ownNumbers (hl : l.stackTraces = false) (d : Nat) (hd : 1 < d) {a x u n q : Int} {S : GS} {pt : Int → Int} (ha : SpanAt G γ a) (hu : shO G u 11 36) (hua : u < a ∨ a + 78 ≤ u) (hn : 0 ≤ n ∧ n ≤ 36) (hq : 2 ≤ q ∧ q ≤ 5) (hS : SpS μ a n q S) (hc : S.c ≤ 36) (hx : 0 ≤ x ∧ x < n) (hod : ∀ i : Int, 0 ≤ i → i < S.c → S.od i < n) (hpt : ptOk S q x pt) :
    Cn l G yX5_ownNumbers cX5_ownNumbers 4 none d 0 [aR a, aI x, aR u] γ μ (PV γ (row μ u S.c pt)) := by
  refine Cn.ofP hl (plainFor_of_name (by decide)) (noLc nlR (noLc nlI (noL1 nlR))) rfl (fun P hP o1 o3 X hX hC => B_X5_ownNumbers_0 hC ha.o ?_)
  obtain ⟨s0, g0, s1, g1, s38, g2, s39, g3, s76, g4, s77, hrr⟩ := id ha
  obtain ⟨⟨e5, e7, e8, ho⟩, e6, ht⟩ := id hS
  have loop := rem_ind (n := (S.c : Int)) (P := fun i => V X G (Qm X G 0 P) 0 2 [aR a, aI x, aR u, aI i] [] γ (row μ u i pt)) (fun i i0 i1 ih => ?_)
  · have := loop 0 (by omega) (by omega)
    rw [row_0] at this
    exact this
  · refine B_X5_ownNumbers_2 hC ha.o ?_
    rw [row_off (show a ≠ u by omega), e5, g1, g3, row_off (show a + 38 ≠ u by omega), row_off (show a + 76 ≠ u by omega), g2, row_off (show a ≠ u by omega), e8]
    rcases Int.lt_or_le i S.c with hlt | hge
    · obtain ⟨w1, w2, w3, w4, w5, w6, w7, w8⟩ := ho i i0 hlt
      obtain ⟨⟨b1, b2⟩, b3, b4⟩ := hrr x hx.1 (by omega)
      have hih := ih hlt
      rw [← row_s i0] at hih
      rw [w1, b3]
      refine ⟨fun z => absurd z (by omega), fun _ => ⟨ixO s38 (by omega), ?_⟩⟩
      rcases hpt with ⟨k, k0, k1, k2, k3⟩ | ⟨⟨k, k0, k1, k2⟩, k3⟩
      · obtain ⟨t1, t2, t3, t4, t5⟩ := ht k k0 k1
        rw [k2] at t3 t4
        have ho2 := hod i i0 hlt
        have hv := t5 (S.od i) w2.1 ho2
        rw [t3, row_off (show a + 40 + x ≠ u by omega), t4 (S.od i) w2.1 ho2]
        refine ⟨fun z => absurd rfl z, fun _ => ⟨ixO s39 (by omega), ixO s76 (by omega), ixO b4 (by omega), by constructor <;> omega, 1, 0, _, hd, Nat.le_refl _, hX ▸ c_mod hl 1 (by omega), PI.use ?_⟩⟩
        rw [if_pos hq.1]
        refine B_X5_ownNumbers_43 hC ha.o ⟨ixO hu (by omega), by constructor <;> omega, ?_⟩
        have ev : -(S.tv k (S.od i)) % q = pt i := by
          rw [k3 i i0 hlt, show q - S.tv k (S.od i) = -(S.tv k (S.od i)) + q by omega, Int.add_emod_right]
        rw [ev]
        exact hih
      · obtain ⟨v1, v2, v3, v4, -⟩ := ho k k0 k1
        rw [k2] at v3
        rw [v3]
        refine ⟨fun _ => ⟨ixO s76 (by omega), fun e => ⟨ixO hu (by omega), by constructor <;> omega, ?_⟩, fun e => ⟨ixO hu (by omega), by constructor <;> omega, ?_⟩⟩, fun z => by omega⟩
        · rw [k3 i i0 hlt, if_neg e] at hih; exact hih
        · rw [k3 i i0 hlt, if_pos e] at hih; exact hih
    · obtain rfl : i = S.c := by omega
      exact ⟨fun _ => ⟨Nat.le_refl _, hP _ _ _ ⟨rfl, rfl, rfl⟩⟩, fun z => absurd hge z⟩
theorem c_forget (hl : l.stackTraces = false) (d : Nat) {g : Int} (hg : shO G g 0 11) : Cn l G yX0_forget cX0_forget 1 none d 0 [aR g] γ μ (PV γ (up (up (up (up μ g 4 0) g 5 0) g 6 0) g 7 0)) :=
  Cn.ofP hl (plainFor_of_name (by decide)) (noL1 nlR) rfl (fun P hP o1 o3 X hX hC => B_X0_forget_0 hC hg ⟨Nat.le_refl _, hP _ _ _ ⟨rfl, rfl, rfl⟩⟩)
theorem c_exceeds (hl : l.stackTraces = false) (d : Nat) {q most : Int} {many : Nat} (hq : 2 ≤ q ∧ q ≤ 5) (hm : 1 ≤ most ∧ most ≤ 20000) (hmy : many ≤ 36) : Cn l G yX8_exceeds cX8_exceeds 5 (some .boolean) d 0 [aI q, aI (many : Int), aI most] γ μ (PI (if most < q ^ many then 1 else 0) γ μ) := by
  refine Cn.ofP hl (plainFor_of_name (by decide)) (noLc nlI (noLc nlI (noL1 nlI))) rfl (fun P hP o1 o3 X hX hC => B_X8_exceeds_0 hC ?_)
  have fin : ∀ k : Nat, k ≤ many → (most < q ^ k ∨ k = many) → ((q ^ k ≤ most → 0 ≤ 0 ∧ P (some (aI 0)) γ μ) ∧ (¬ (q ^ k ≤ most) → 0 ≤ 0 ∧ P (some (aI 1)) γ μ)) := fun k hk h => by
    have hmono := pw_mono (q := q) (by omega) hk
    refine ⟨fun h1 => ⟨Nat.le_refl _, hP _ _ _ ⟨?_, rfl, rfl⟩⟩, fun h1 => ⟨Nat.le_refl _, hP _ _ _ ⟨?_, rfl, rfl⟩⟩⟩
    · rcases h with h | rfl
      · omega
      · rw [if_neg (by omega)]
    · rw [if_pos (by omega)]
  have loop : ∀ (j k : Nat), k + j = many → (k = 0 ∨ q ^ (k - 1) ≤ most) → V X G (Qm X G 0 P) 0 5 [aI q, aI (many : Int), aI most, aI (q ^ k), aI (k : Int)] [] γ μ := by
    intro j
    induction j with
    | zero =>
      intro k hk hp
      refine B_X8_exceeds_5 hC ⟨fun _ => fin k (by omega) (Or.inr (by omega)), fun z => absurd (by omega) z⟩
    | succ j ih =>
      intro k hk hp
      refine B_X8_exceeds_5 hC ⟨fun z => absurd z (by omega), fun _ => ⟨fun h => fin k (by omega) (Or.inl h), fun h => ?_⟩⟩
      have hpos := pw_pos (q := q) (by omega) k
      have hle : q ^ k * q ≤ 20000 * 5 := Int.mul_le_mul (by omega) hq.2 (by omega) (by decide)
      have hge : 0 ≤ q ^ k * q := Int.mul_nonneg (by omega) (by omega)
      have := ih (k + 1) (by omega) (Or.inr (by rw [Nat.add_sub_cancel]; omega))
      rw [Int.pow_succ, show ((k + 1 : Nat) : Int) = (k : Int) + 1 by omega] at this
      exact ⟨by constructor <;> omega, by constructor <;> omega, this⟩
  have := loop many 0 (by omega) (Or.inl rfl)
  rw [Int.pow_zero] at this
  exact this
end CSpan
