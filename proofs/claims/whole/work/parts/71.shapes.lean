/-! the class: shapes become amounts -/
/-- the first k steps of a table, from button x to lamp y -/
def csm (n w h ed : Int) (T : List Int) (x y : Int) : Nat → Int
  | 0 => 0
  | k + 1 => csm n w h ed T x y k + c1 n w h ed (T.getD (2 * k) 0) (T.getD (2 * k + 1) 0) x y
/-- what the class makes of the sums -/
def finC (n q w h ed : Int) (a : AC) (x y : Int) : Int := a.dir x y + (a.shp 0 % q) * shC n w h ed 0 x y + (if w = 0 then (if (0 ≤ x ∧ x < n) ∧ (0 ≤ y ∧ y < n) then wrC a a.wc x y * (a.shp 1 % q) else 0) else (a.shp 1 % q) * shC n w h ed 1 x y + (a.shp 2 % q) * shC n w h ed 2 x y + (a.shp 3 % q) * shC n w h ed 3 x y + (a.shp 4 % q) * shC n w h ed 4 x y + (a.shp 5 % q) * shC n w h ed 5 x y)
theorem c1_b (n w h ed dx dy x y : Int) : 0 ≤ c1 n w h ed dx dy x y ∧ c1 n w h ed dx dy x y ≤ 1 := by unfold c1; split <;> omega
theorem getD_b {T : List Int} (h : ∀ z ∈ T, -2 ≤ z ∧ z ≤ 2) (i : Nat) : -2 ≤ T.getD i 0 ∧ T.getD i 0 ≤ 2 := by
  rw [List.getD_eq_getElem?_getD]
  cases e : T[i]? with
  | none => exact ⟨by decide, by decide⟩
  | some z => exact h z (List.mem_of_getElem? e)
theorem tb1 (i : Nat) : -2 ≤ ([1, 0, -1, 0, 0, 1, 0, -1] : List Int).getD i 0 ∧ ([1, 0, -1, 0, 0, 1, 0, -1] : List Int).getD i 0 ≤ 2 := getD_b (by decide) i
theorem tb2 (i : Nat) : -2 ≤ ([1, 1, 1, -1, -1, 1, -1, -1] : List Int).getD i 0 ∧ ([1, 1, 1, -1, -1, 1, -1, -1] : List Int).getD i 0 ≤ 2 := getD_b (by decide) i
theorem tb3 (i : Nat) : -2 ≤ ([1, 2, 1, -2, -1, 2, -1, -2, 2, 1, 2, -1, -2, 1, -2, -1] : List Int).getD i 0 ∧ ([1, 2, 1, -2, -1, 2, -1, -2, 2, 1, 2, -1, -2, 1, -2, -1] : List Int).getD i 0 ≤ 2 := getD_b (by decide) i
theorem cs1 {n w h ed x y : Int} : csm n w h ed [1, 0, -1, 0, 0, 1, 0, -1] x y 4 = shC n w h ed 1 x y := by
  show 0 + c1 n w h ed 1 0 x y + c1 n w h ed (-1) 0 x y + c1 n w h ed 0 1 x y + c1 n w h ed 0 (-1) x y = _
  unfold shC
  rw [if_neg (by decide), if_pos rfl]
  omega
theorem cs2 {n w h ed x y : Int} : csm n w h ed [1, 1, 1, -1, -1, 1, -1, -1] x y 4 = shC n w h ed 2 x y := by
  show 0 + c1 n w h ed 1 1 x y + c1 n w h ed 1 (-1) x y + c1 n w h ed (-1) 1 x y + c1 n w h ed (-1) (-1) x y = _
  unfold shC
  rw [if_neg (by decide), if_neg (by decide), if_pos rfl]
  omega
theorem cs3 {n w h ed x y : Int} : csm n w h ed [1, 2, 1, -2, -1, 2, -1, -2, 2, 1, 2, -1, -2, 1, -2, -1] x y 8 = shC n w h ed 3 x y := by
  show 0 + c1 n w h ed 1 2 x y + c1 n w h ed 1 (-2) x y + c1 n w h ed (-1) 2 x y + c1 n w h ed (-1) (-2) x y + c1 n w h ed 2 1 x y + c1 n w h ed 2 (-1) x y + c1 n w h ed (-2) 1 x y + c1 n w h ed (-2) (-1) x y = _
  unfold shC
  rw [if_neg (by decide), if_neg (by decide), if_neg (by decide), if_pos rfl]
  omega
theorem c1_out {n w h ed dx dy x y : Int} (hx : n ≤ x) : c1 n w h ed dx dy x y = 0 := by unfold c1; rw [if_neg (by omega)]
theorem shC_out {n w h ed k x y : Int} (hx : n ≤ x) : shC n w h ed k x y = 0 := by
  unfold shC
  split
  · rw [if_neg (by omega)]
  · split
    · rw [c1_out hx, c1_out hx, c1_out hx, c1_out hx]; rfl
    · split
      · rw [c1_out hx, c1_out hx, c1_out hx, c1_out hx]; rfl
      · split
        · rw [c1_out hx, c1_out hx, c1_out hx, c1_out hx, c1_out hx, c1_out hx, c1_out hx, c1_out hx]; rfl
        · split
          · rw [if_neg (by omega)]
          · rw [if_neg (by omega)]
section CLay
variable {l : Launch} {G : Gx} {γ μ : Mu}
theorem c_laySteps (hl : l.stackTraces = false) (d : Nat) (hd : 2 < d) {w n q cw h ed x v : Int} {j2 K : Nat} {T : String × List Int} {D : Int → Int → Int} (hw : WirAt G γ w) (hH : WhR μ w n q cw h ed) (hO : hdO n q cw h ed) (hcw : 1 ≤ cw) (hA : WaR μ w q D) (hx : 0 ≤ x ∧ x < n) (hv : 0 ≤ v ∧ v < q) (hT : sxT[j2]? = some T) (hK : T.2.length = 2 * K) (hK8 : K ≤ 8) (hTb : ∀ i : Nat, -2 ≤ T.2.getD i 0 ∧ T.2.getD i 0 ≤ 2) :
    Cn l G yX7_laySteps cX7_laySteps 9 none d 0 [aR w, aI x, aS (24 + (j2 : Int)), aI v] γ μ (fun r γ' μ' => r = none ∧ γ' = γ ∧ WaR μ' w q (fun x' y' => D x' y' + (if x' = x then v * csm n cw h ed T.2 x y' K else 0)) ∧ Fw μ μ' w) := by
  refine Cn.ofP hl (plainFor_of_name (by decide)) (noLc nlR (noLc nlI (noLc nlS (noL1 nlI)))) rfl (fun P hP o1 o3 X hX hC => B_X7_laySteps_0 hT hC hw.o ?_)
  have hn := hO.n
  have hq := hO.1.b
  rcases hO.2 with ⟨w0, -⟩ | ⟨hw2, hh2, hnw, hed⟩
  · omega
  obtain ⟨g1, g2, g3, g4, g5⟩ := id hH
  rw [g3]
  refine ⟨fun h0 => ⟨Nat.le_refl _, hP _ _ _ ⟨rfl, rfl, hA.cong (fun x' y' _ _ _ _ => by rw [h0, Int.zero_mul]; split <;> omega), fun _ _ _ => rfl⟩⟩, fun h0 => ⟨fun _ => ⟨by omega, ?_⟩, fun z => absurd hcw z⟩⟩
  have e1 : x.tmod cw = x % cw := Int.tmod_eq_emod_of_nonneg hx.1
  have e2 : x.tdiv cw = x / cw := Int.tdiv_eq_ediv_of_nonneg hx.1
  have b1 := Int.emod_nonneg x (show cw ≠ 0 by omega)
  have b2 := Int.emod_lt_of_pos x (show 0 < cw by omega)
  have b3 := Int.ediv_nonneg hx.1 (show 0 ≤ cw by omega)
  have b4 := Int.ediv_le_self cw hx.1
  rw [e1, e2]
  have loop : ∀ (j k : Nat) (m : Mu), k + j = K → Fw μ m w → WaR m w q (fun x' y' => D x' y' + (if x' = x then v * csm n cw h ed T.2 x y' k else 0)) → V X G (Qm X G 0 P) 0 32 [aR w, aI x, aS (24 + (j2 : Int)), aI v, aI (x % cw), aI (x / cw), aI ((2 * k : Nat) : Int), aD, aD] [] γ m := by
    intro j
    induction j with
    | zero =>
      intro k m hk fm mA
      obtain rfl : k = K := by omega
      refine B_X7_laySteps_32 hT hC hw.o ⟨by constructor <;> omega, by constructor <;> omega, fun _ => ⟨Nat.le_refl _, hP _ _ _ ⟨rfl, rfl, mA, fm⟩⟩, fun z => absurd (by omega) z⟩
    | succ j ih =>
      intro k m hk fm mA
      obtain ⟨k1, k2, k3, k4, k5⟩ := hH.fw fm
      have t1 := hTb (2 * k)
      have t2 := hTb (2 * k + 1)
      have ek : (((2 * k : Nat) : Int)).toNat = 2 * k := by omega
      have ek1 : (((2 * k : Nat) : Int) + 1).toNat = 2 * k + 1 := by omega
      generalize hdx : T.2.getD (2 * k) 0 = dx at *
      generalize hdy : T.2.getD (2 * k + 1) 0 = dy at *
      have es : ∀ y', csm n cw h ed T.2 x y' (k + 1) = csm n cw h ed T.2 x y' k + c1 n cw h ed dx dy x y' := fun y' => by rw [csm, hdx, hdy]
      have nxt : ∀ m2 : Mu, Fw μ m2 w → WaR m2 w q (fun x' y' => D x' y' + (if x' = x then v * csm n cw h ed T.2 x y' (k + 1) else 0)) → V X G (Qm X G 0 P) 0 129 [aR w, aI x, aS (24 + (j2 : Int)), aI v, aI (x % cw), aI (x / cw), aI ((2 * k : Nat) : Int), aD, aD] [] γ m2 := fun m2 f2 a2 => by
        refine B_X7_laySteps_129 hT hC hw.o ⟨by constructor <;> omega, ?_⟩
        have h9 := ih (k + 1) m2 (by omega) f2 a2
        rw [show ((2 * (k + 1) : Nat) : Int) = ((2 * k : Nat) : Int) + 2 by omega] at h9
        exact h9
      have nxt0 : tg cw h ed dx dy x = -1 → V X G (Qm X G 0 P) 0 129 [aR w, aI x, aS (24 + (j2 : Int)), aI v, aI (x % cw), aI (x / cw), aI ((2 * k : Nat) : Int), aD, aD] [] γ m := fun ht => nxt m fm (mA.cong (fun x' y' z1 z2 z3 z4 => by
        rw [es, show c1 n cw h ed dx dy x y' = 0 by unfold c1; rw [if_neg (by omega)], Int.add_zero]))
      have cX : (if ed < 1 then (if 0 ≤ x % cw + dx ∧ x % cw + dx < cw then x % cw + dx else -1) else (x % cw + dx) % cw) = (if 0 ≤ tgX cw ed dx x ∧ tgX cw ed dx x < cw then tgX cw ed dx x else -1) := by
        unfold tgX
        by_cases e : 1 ≤ ed
        · have c1 := Int.emod_nonneg (x % cw + dx) (show cw ≠ 0 by omega)
          have c2 := Int.emod_lt_of_pos (x % cw + dx) (show 0 < cw by omega)
          rw [if_neg (by omega), if_pos e, if_pos ⟨c1, c2⟩]
        · rw [if_pos (by omega), if_neg e]
      have cY : (if ed < 2 then (if 0 ≤ x / cw + dy ∧ x / cw + dy < h then x / cw + dy else -1) else (x / cw + dy) % h) = (if 0 ≤ tgY cw h ed dy x ∧ tgY cw h ed dy x < h then tgY cw h ed dy x else -1) := by
        unfold tgY
        by_cases e : ed = 2
        · have c1 := Int.emod_nonneg (x / cw + dy) (show h ≠ 0 by omega)
          have c2 := Int.emod_lt_of_pos (x / cw + dy) (show 0 < h by omega)
          rw [if_neg (by omega), if_pos e, if_pos ⟨c1, c2⟩]
        · rw [if_pos (by omega), if_neg e]
      have s99 : V X G (Qm X G 0 P) 0 99 [aR w, aI x, aS (24 + (j2 : Int)), aI v, aI (x % cw), aI (x / cw), aI ((2 * k : Nat) : Int), aI (if 0 ≤ tgX cw ed dx x ∧ tgX cw ed dx x < cw then tgX cw ed dx x else -1), aD] [aI (if 0 ≤ tgY cw h ed dy x ∧ tgY cw h ed dy x < h then tgY cw h ed dy x else -1)] γ m := by
        refine B_X7_laySteps_99 hT hC hw.o ?_
        rw [k3]
        by_cases eX : 0 ≤ tgX cw ed dx x ∧ tgX cw ed dx x < cw
        · rw [if_pos eX]
          by_cases eY : 0 ≤ tgY cw h ed dy x ∧ tgY cw h ed dy x < h
          · rw [if_pos eY]
            have ht : tg cw h ed dx dy x = tgX cw ed dx x + cw * tgY cw h ed dy x := by unfold tg; rw [if_pos ⟨eX, eY⟩]
            generalize tgX cw ed dx x = u at *
            generalize tgY cw h ed dy x = v2 at *
            have p1 : cw * v2 ≤ cw * (h - 1) := Int.mul_le_mul_of_nonneg_left (by omega) (by omega)
            have p2 : 0 ≤ cw * v2 := Int.mul_nonneg (by omega) (by omega)
            rw [Int.mul_sub, Int.mul_one, ← hnw] at p1
            refine ⟨fun z => absurd z (by omega), fun _ => ⟨fun z => absurd z (by omega), fun _ => ⟨by constructor <;> omega, by constructor <;> omega, ?_⟩⟩⟩
            refine ⟨2, 0, _, hd, Nat.le_refl _, hX ▸ c_addAmount hl 2 (by omega) hw k2 hq mA (by omega) (by omega) (by omega), ?_⟩
            rintro r γ m2 ⟨rfl, rfl, a2, f2⟩
            refine nxt m2 (fm.t f2) (a2.cong (fun x' y' z1 z2 z3 z4 => ?_))
            by_cases e : x' = x
            · rw [if_pos e, if_pos e, es, Int.mul_add]
              have : c1 n cw h ed dx dy x y' = if y' = u + cw * v2 then 1 else 0 := by
                unfold c1
                rw [ht]
                by_cases e9 : y' = u + cw * v2
                · rw [if_pos ⟨hx, e9.symm⟩, if_pos e9]
                · rw [if_neg (fun z => e9 z.2.symm), if_neg e9]
              rw [this]
              by_cases e9 : y' = u + cw * v2
              · rw [if_pos ⟨e, e9⟩, if_pos e9, Int.mul_one]; omega
              · rw [if_neg (fun z => e9 z.2), if_neg e9, Int.mul_zero]; omega
            · rw [if_neg e, if_neg e, if_neg (fun z => e z.1)]; omega
          · rw [if_neg eY]
            have h9 := nxt0 (by unfold tg; rw [if_neg (fun z => eY z.2)])
            exact ⟨fun _ => h9, fun _ => ⟨fun _ => h9, fun z => absurd rfl z⟩⟩
        · rw [if_neg eX]
          have h9 := nxt0 (by unfold tg; rw [if_neg (fun z => eX z.1)])
          exact ⟨fun _ => h9, fun z => absurd rfl z⟩
      have s68 : ∀ z, z = (if 0 ≤ tgX cw ed dx x ∧ tgX cw ed dx x < cw then tgX cw ed dx x else -1) → V X G (Qm X G 0 P) 0 68 [aR w, aI x, aS (24 + (j2 : Int)), aI v, aI (x % cw), aI (x / cw), aI ((2 * k : Nat) : Int), aD, aD] [aI z] γ m := fun z hz => by
        refine B_X7_laySteps_68 hT hC hw.o ?_
        rw [ek1, hdy, k4, k5]
        refine ⟨by constructor <;> omega, by omega, by constructor <;> omega, by constructor <;> omega, fun e => ?_, fun e => ?_⟩
        · refine ⟨1, 0, _, by omega, Nat.le_refl _, hX ▸ c_within hl 1 (by omega) (by omega), PI.use ?_⟩
          rw [if_pos rfl]
          rw [if_pos e] at cY
          rw [cY, hz]
          exact s99
        · refine ⟨1, 0, _, by omega, Nat.le_refl _, hX ▸ c_within hl 1 (by omega) (by omega), PI.use ?_⟩
          rw [if_neg (by decide)]
          rw [if_neg e] at cY
          rw [cY, hz]
          exact s99
      refine B_X7_laySteps_32 hT hC hw.o ?_
      rw [ek, hdx, k3, k5]
      refine ⟨by constructor <;> omega, by constructor <;> omega, fun z => absurd z (by omega), fun _ => ⟨by omega, by constructor <;> omega, by constructor <;> omega, fun e => ?_, fun e => ?_⟩⟩
      · refine ⟨1, 0, _, by omega, Nat.le_refl _, hX ▸ c_within hl 1 (by omega) (by omega), PI.use ?_⟩
        rw [if_pos rfl]
        rw [if_pos e] at cX
        exact s68 _ cX
      · refine ⟨1, 0, _, by omega, Nat.le_refl _, hX ▸ c_within hl 1 (by omega) (by omega), PI.use ?_⟩
        rw [if_neg (by decide)]
        rw [if_neg e] at cX
        exact s68 _ cX
  exact loop K 0 μ (by omega) (fun _ _ _ => rfl) (hA.cong (fun x' y' _ _ _ _ => by rw [csm, Int.mul_zero]; split <;> omega))
theorem c_layLines (hl : l.stackTraces = false) (d : Nat) (hd : 2 < d) {w n q cw h ed x u v : Int} {D : Int → Int → Int} (hw : WirAt G γ w) (hH : WhR μ w n q cw h ed) (hO : hdO n q cw h ed) (hcw : 1 ≤ cw) (hA : WaR μ w q D) (hx : 0 ≤ x ∧ x < n) (e4 : μ (w + 39) 4 = u) (e5 : μ (w + 39) 5 = v) (hu : 0 ≤ u ∧ u < q) (hv : 0 ≤ v ∧ v < q) :
    Cn l G yX7_layLines cX7_layLines 3 none d 0 [aR w, aI x] γ μ (fun r γ' μ' => r = none ∧ γ' = γ ∧ WaR μ' w q (fun x' y' => D x' y' + (if x' = x then u * shC n cw h ed 4 x y' + v * shC n cw h ed 5 x y' else 0)) ∧ Fw μ μ' w) := by
  refine Cn.ofP hl (plainFor_of_name (by decide)) (noLc nlR (noL1 nlI)) rfl (fun P hP o1 o3 X hX hC => B_X7_layLines_0 hC hw.o ?_)
  have hn := hO.n
  have hq := hO.1.b
  rw [hH.2.2.1]
  refine ⟨fun _ => ?_, fun z => absurd hcw z⟩
  have s4 : ∀ y, shC n cw h ed 4 x y = if (0 ≤ y ∧ y < n) ∧ y / cw = x / cw then 1 else 0 := fun y => by
    unfold shC
    rw [if_neg (by decide), if_neg (by decide), if_neg (by decide), if_neg (by decide), if_pos rfl]
    by_cases e : (0 ≤ y ∧ y < n) ∧ y / cw = x / cw
    · rw [if_pos e, if_pos ⟨⟨hx, e.1⟩, e.2.symm⟩]
    · rw [if_neg e, if_neg (fun z => e ⟨z.1.2, z.2.symm⟩)]
  have s5 : ∀ y, shC n cw h ed 5 x y = if (0 ≤ y ∧ y < n) ∧ y % cw = x % cw then 1 else 0 := fun y => by
    unfold shC
    rw [if_neg (by decide), if_neg (by decide), if_neg (by decide), if_neg (by decide), if_neg (by decide)]
    by_cases e : (0 ≤ y ∧ y < n) ∧ y % cw = x % cw
    · rw [if_pos e, if_pos ⟨⟨hx, e.1⟩, e.2.symm⟩]
    · rw [if_neg e, if_neg (fun z => e ⟨z.1.2, z.2.symm⟩)]
  have loop := rem_ind (n := n) (P := fun i => ∀ m : Mu, Fw μ m w → WaR m w q (fun x' y' => D x' y' + (if x' = x ∧ y' < i then u * shC n cw h ed 4 x y' + v * shC n cw h ed 5 x y' else 0)) → V X G (Qm X G 0 P) 0 11 [aR w, aI x, aI i] [] γ m) (fun i i0 i1 ih m fm mA => ?_)
  · exact loop 0 (by omega) (by omega) μ (fun _ _ _ => rfl) (hA.cong (fun x' y' _ _ _ _ => by rw [if_neg (by omega), Int.add_zero]))
  · obtain ⟨k1, k2, k3, k4, k5⟩ := hH.fw fm
    rcases Int.lt_or_le i n with hi | hi
    · have t1 : i.tmod cw = i % cw := Int.tmod_eq_emod_of_nonneg i0
      have t2 : i.tdiv cw = i / cw := Int.tdiv_eq_ediv_of_nonneg i0
      have t3 : x.tmod cw = x % cw := Int.tmod_eq_emod_of_nonneg hx.1
      have t4 : x.tdiv cw = x / cw := Int.tdiv_eq_ediv_of_nonneg hx.1
      have fin : ∀ m2 : Mu, Fw μ m2 w → WaR m2 w q (fun x' y' => D x' y' + (if x' = x ∧ y' < i then u * shC n cw h ed 4 x y' + v * shC n cw h ed 5 x y' else 0) + (if x' = x ∧ y' = i then u * shC n cw h ed 4 x i + v * shC n cw h ed 5 x i else 0)) → V X G (Qm X G 0 P) 0 73 [aR w, aI x, aI i] [] γ m2 := fun m2 f2 a2 => B_X7_layLines_73 hC hw.o ⟨by constructor <;> omega, ih hi m2 f2 (a2.cong (fun x' y' z1 z2 z3 z4 => by
        by_cases e : x' = x
        · by_cases e8 : y' = i
          · rw [if_neg (by omega), if_pos ⟨e, e8⟩, if_pos (by omega), e8]; omega
          · by_cases e7 : y' < i
            · rw [if_pos ⟨e, e7⟩, if_neg (fun z => e8 z.2), if_pos (by omega)]; omega
            · rw [if_neg (by omega), if_neg (fun z => e8 z.2), if_neg (by omega)]; omega
        · rw [if_neg (fun z => e z.1), if_neg (fun z => e z.1), if_neg (fun z => e z.1)]; omega))⟩
      have s46 : ∀ m2 : Mu, Fw μ m2 w → WaR m2 w q (fun x' y' => D x' y' + (if x' = x ∧ y' < i then u * shC n cw h ed 4 x y' + v * shC n cw h ed 5 x y' else 0) + (if x' = x ∧ y' = i then u * shC n cw h ed 4 x i else 0)) → V X G (Qm X G 0 P) 0 46 [aR w, aI x, aI i] [] γ m2 := fun m2 f2 a2 => by
        refine B_X7_layLines_46 hC hw.o ?_
        rw [(hH.fw f2).2.2.1, t1, t3, hw.g7, f2 (w + 39) 5 (by omega), e5]
        refine ⟨by omega, fun e => fin m2 f2 (a2.cong (fun x' y' _ _ _ _ => ?_)), fun e => ⟨ixO hw.s39 (by omega), 2, 0, _, hd, Nat.le_refl _, hX ▸ c_addAmount hl 2 (by omega) hw (hH.fw f2).2.1 hq a2 (by omega) (by omega) (by omega), ?_⟩⟩
        · have : shC n cw h ed 5 x i = 0 := by rw [s5, if_neg (fun z => e z.2)]
          rw [this, Int.mul_zero, Int.add_zero]
        · rintro r γ m3 ⟨rfl, rfl, a3, f3⟩
          refine fin m3 (f2.t f3) (a3.cong (fun x' y' _ _ _ _ => ?_))
          have : shC n cw h ed 5 x i = 1 := by rw [s5, if_pos ⟨⟨i0, hi⟩, e⟩]
          rw [this, Int.mul_one]
          by_cases e9 : x' = x ∧ y' = i
          · rw [if_pos e9, if_pos e9, if_pos e9]; omega
          · rw [if_neg e9, if_neg e9, if_neg e9]; omega
      refine B_X7_layLines_11 hC hw.o ?_
      rw [k1, k3, t2, t4, hw.g7, fm (w + 39) 4 (by omega), e4]
      refine ⟨fun z => absurd z (by omega), fun _ => ⟨by omega, fun e => s46 m fm (mA.cong (fun x' y' _ _ _ _ => ?_)), fun e => ⟨ixO hw.s39 (by omega), 2, 0, _, hd, Nat.le_refl _, hX ▸ c_addAmount hl 2 (by omega) hw k2 hq mA (by omega) (by omega) (by omega), ?_⟩⟩⟩
      · have : shC n cw h ed 4 x i = 0 := by rw [s4, if_neg (fun z => e z.2)]
        rw [this, Int.mul_zero]
        split <;> omega
      · rintro r γ m3 ⟨rfl, rfl, a3, f3⟩
        refine s46 m3 (fm.t f3) (a3.cong (fun x' y' _ _ _ _ => ?_))
        have : shC n cw h ed 4 x i = 1 := by rw [s4, if_pos ⟨⟨i0, hi⟩, e⟩]
        rw [this, Int.mul_one]
    · obtain rfl : i = n := by omega
      refine B_X7_layLines_11 hC hw.o ⟨fun _ => ⟨Nat.le_refl _, hP _ _ _ ⟨rfl, rfl, mA.cong (fun x' y' _ _ z3 _ => ?_), fm⟩⟩, fun z => absurd (by rw [k1]; exact hi) z⟩
      by_cases e : x' = x
      · by_cases e7 : y' < i
        · rw [if_pos ⟨e, e7⟩, if_pos e]
        · rw [if_neg (fun z => e7 z.2), if_pos e, s4, s5, if_neg (by omega), if_neg (by omega)]; omega
      · rw [if_neg (fun z => e z.1), if_neg e]
theorem c_layWires (hl : l.stackTraces = false) (d : Nat) (hd : 2 < d) {w n q cw h ed x v : Int} {D W : Int → Int → Int} (hw : WirAt G γ w) (hH : WhR μ w n q cw h ed) (hO : hdO n q cw h ed) (hA : WaR μ w q D) (hx : 0 ≤ x ∧ x < n) (e1 : μ (w + 39) 1 = v) (hv : 0 ≤ v ∧ v < q) (hWr : ∀ y, 0 ≤ y → y < 36 → μ (w + 41 + x) y = W x y) (hWb : ∀ y, 0 ≤ W x y ∧ W x y ≤ 1000) :
    Cn l G yX7_layWires cX7_layWires 3 none d 0 [aR w, aI x] γ μ (fun r γ' μ' => r = none ∧ γ' = γ ∧ WaR μ' w q (fun x' y' => D x' y' + (if x' = x ∧ y' < n then W x y' * v else 0)) ∧ Fw μ μ' w) := by
  refine Cn.ofP hl (plainFor_of_name (by decide)) (noLc nlR (noL1 nlI)) rfl (fun P hP o1 o3 X hX hC => B_X7_layWires_0 hC hw.o ?_)
  have hn := hO.n
  have hq := hO.1.b
  have loop := rem_ind (n := n) (P := fun i => ∀ m : Mu, Fw μ m w → WaR m w q (fun x' y' => D x' y' + (if x' = x ∧ y' < i then W x y' * v else 0)) → V X G (Qm X G 0 P) 0 2 [aR w, aI x, aI i] [] γ m) (fun i i0 i1 ih m fm mA => ?_)
  · exact loop 0 (by omega) (by omega) μ (fun _ _ _ => rfl) (hA.cong (fun x' y' _ _ _ _ => by rw [if_neg (by omega), Int.add_zero]))
  · obtain ⟨k1, k2, k3, k4, k5⟩ := hH.fw fm
    refine B_X7_layWires_2 hC hw.o ?_
    rcases Int.lt_or_le i n with hi | hi
    · have hb := hWb i
      have p1 := mulR (a := W x i) (b := v) (m := 1000) (by omega) (by omega)
      have p2 : W x i * v ≤ 1000 * 5 := Int.mul_le_mul hb.2 (by omega) hv.1 (by omega)
      rw [k1, hw.g8, hw.gW (show 0 ≤ x ∧ x < 36 by omega), hw.g7, fm (w + 39) 1 (by omega), e1, fm (w + 41 + x) i (by omega), hWr i i0 (by omega)]
      refine ⟨fun z => absurd z (by omega), fun _ => ⟨ixO hw.s40 (by omega), ixO (hw.sW (by omega)) (by omega), ixO hw.s39 (by omega), by constructor <;> omega, 2, 0, _, hd, Nat.le_refl _, hX ▸ c_addAmount hl 2 (by omega) hw k2 hq mA (by omega) (by omega) (by omega), ?_⟩⟩
      rintro r γ m2 ⟨rfl, rfl, a2, f2⟩
      refine B_X7_layWires_31 hC hw.o ⟨by constructor <;> omega, ih hi m2 (fm.t f2) (a2.cong (fun x' y' z1 z2 z3 z4 => ?_))⟩
      by_cases e : x' = x
      · by_cases e8 : y' = i
        · rw [if_neg (by omega), if_pos ⟨e, e8⟩, if_pos (by omega), e8]; omega
        · by_cases e7 : y' < i
          · rw [if_pos ⟨e, e7⟩, if_neg (fun z => e8 z.2), if_pos (by omega)]; omega
          · rw [if_neg (by omega), if_neg (fun z => e8 z.2), if_neg (by omega)]; omega
      · rw [if_neg (fun z => e z.1), if_neg (fun z => e z.1), if_neg (fun z => e z.1)]; omega
    · obtain rfl : i = n := by omega
      refine ⟨fun _ => ⟨Nat.le_refl _, hP _ _ _ ⟨rfl, rfl, mA, fm⟩⟩, fun z => absurd (by rw [k1]; exact hi) z⟩
theorem wrC_b {a : AC} (x y : Int) {n : Int} : ∀ i, 0 ≤ i → i ≤ n → 0 ≤ wrC a i x y ∧ wrC a i x y ≤ 2 * i :=
  foldI_ind (P := fun i v => 0 ≤ v ∧ v ≤ 2 * i) (by omega) (fun i v h0 h1 hv => by
    split <;> split <;> omega)
set_option maxHeartbeats 1000000 in
theorem c_layShapes (hl : l.stackTraces = false) (d : Nat) (hd : 3 < d) {w n q cw h ed : Int} {a : AC} (hw : WirAt G γ w) (hH : WhR μ w n q cw h ed) (hO : hdO n q cw h ed) (hA : WcR μ w q a) (hAo : AcO n 41 a) :
    Cn l G yX7_layShapes cX7_layShapes 2 none d 0 [aR w] γ μ (fun r γ' μ' => r = none ∧ γ' = γ ∧ WaR μ' w q (finC n q cw h ed a) ∧ Fw μ μ' w) := by
  refine Cn.ofP hl (plainFor_of_name (by decide)) (noL1 nlR) rfl (fun P hP o1 o3 X hX hC => B_X7_layShapes_0 hC hw.o ?_)
  have hn := hO.n
  have hq := hO.1.b
  obtain ⟨A1, A2, A3, A4⟩ := hA
  have mb : ∀ k, 0 ≤ a.shp k % q ∧ a.shp k % q < q := fun k => ⟨Int.emod_nonneg _ (by omega), Int.emod_lt_of_pos _ (by omega)⟩
  have net : ed = -1 ↔ cw = 0 := by rcases hO.2 with ⟨w0, -, e, -⟩ | ⟨w1, -, -, e⟩ <;> omega
  have outside : ∀ x y, n ≤ x → finC n q cw h ed a x y = a.dir x y := fun x y hx => by
    unfold finC
    rw [shC_out hx, shC_out hx, shC_out hx, shC_out hx, shC_out hx, shC_out hx, if_neg (show ¬ ((0 ≤ x ∧ x < n) ∧ 0 ≤ y ∧ y < n) by omega)]
    simp
  have loop := rem_ind (n := n) (P := fun i => ∀ m : Mu, Fw μ m w → WaR m w q (fun x y => if x < i then finC n q cw h ed a x y else a.dir x y) → V X G (Qm X G 0 P) 0 2 [aR w, aI i] [] γ m) (fun i i0 i1 ih m fm mA => ?_)
  · exact loop 0 (by omega) (by omega) μ (fun _ _ _ => rfl) (WaR.cong (fun x y z1 z2 z3 z4 => A1 x y z1 z2 z3 z4) (fun x y z1 _ _ _ => by rw [if_neg (by omega)]))
  · obtain ⟨k1, k2, k3, k4, k5⟩ := hH.fw fm
    have m39 : ∀ (m2 : Mu), Fw μ m2 w → ∀ k, 0 ≤ k → k < 6 → m2 (w + 39) k = a.shp k % q := fun m2 f2 k z1 z2 => by rw [f2 _ _ (by omega)]; exact A2 k z1 z2
    refine B_X7_layShapes_2 hC hw.o ?_
    rw [k1, hw.g7, m39 m fm 0 (by decide) (by decide)]
    rcases Int.lt_or_le i n with hi | hi
    · refine ⟨fun z => absurd z (by omega), fun _ => ⟨ixO hw.s39 (by omega), 2, 0, _, by omega, Nat.le_refl _, hX ▸ c_addAmount hl 2 (by omega) hw k2 hq mA (by omega) (by omega) (by have := mb 0; omega), ?_⟩⟩
      rintro r γ m2 ⟨rfl, rfl, a2, f2⟩
      have F2 := fm.t f2
      have nxt : ∀ m9 : Mu, Fw μ m9 w → WaR m9 w q (fun x y => if x < i + 1 then finC n q cw h ed a x y else a.dir x y) → V X G (Qm X G 0 P) 0 84 [aR w, aI i] [] γ m9 := fun m9 f9 a9 => B_X7_layShapes_84 hC hw.o ⟨by constructor <;> omega, ih hi m9 f9 a9⟩
      refine B_X7_layShapes_22 hC hw.o ?_
      refine ⟨0, 0, _, by omega, Nat.le_refl _, hX ▸ c_isNet hl 0 hw, PI.use ?_⟩
      rw [(hH.fw F2).2.2.2.2]
      have s0 : ∀ y, shC n cw h ed 0 i y = if y = i then 1 else 0 := fun y => by
        unfold shC
        rw [if_pos rfl]
        by_cases e : y = i
        · rw [if_pos e, if_pos ⟨⟨i0, hi⟩, e.symm⟩]
        · rw [if_neg e, if_neg (fun z => e z.2.symm)]
      have f0 : ∀ y, (a.shp 0 % q) * shC n cw h ed 0 i y = if y = i then a.shp 0 % q else 0 := fun y => by
        rw [s0]
        by_cases e : y = i
        · rw [if_pos e, if_pos e, Int.mul_one]
        · rw [if_neg e, if_neg e, Int.mul_zero]
      by_cases en : ed = -1
      · have hcw := net.mp en
        rw [if_pos en]
        refine B_X7_layShapes_26 hC hw.o ⟨fun z => absurd z (by decide), fun _ => ?_⟩
        refine ⟨3, 0, _, hd, Nat.le_refl _, hX ▸ c_layWires hl 3 (by omega) (W := wrC a a.wc) hw (hH.fw F2) hO a2 ⟨i0, hi⟩ (m39 m2 F2 1 (by decide) (by decide)) (mb 1) (fun y z1 z2 => by rw [F2 _ _ (by omega)]; exact A3 i y i0 (by omega) z1 z2) (fun y => by have := wrC_b (a := a) i y a.wc hAo.2.1.1 (Int.le_refl _); have := hAo.2.1; omega), ?_⟩
        rintro r γ m3 ⟨rfl, rfl, a3, f3⟩
        refine B_X7_layShapes_34 hC hw.o (nxt m3 (F2.t f3) (a3.cong (fun x y z1 z2 z3 z4 => ?_)))
        by_cases e1 : x < i
        · have n1 : ¬ x = i := by omega
          have n2 : x < i + 1 := by omega
          simp only [e1, n1, n2, false_and, reduceIte, Int.add_zero]
        · by_cases e2 : x = i
          · subst e2
            have n2 : x < x + 1 := by omega
            simp only [e1, n2, true_and, reduceIte]
            unfold finC
            rw [if_pos hcw, f0]
            by_cases e3 : y < n
            · rw [if_pos e3, if_pos (show (0 ≤ x ∧ x < n) ∧ 0 ≤ y ∧ y < n from ⟨⟨i0, hi⟩, z3, e3⟩)]
            · rw [if_neg e3, if_neg (show ¬ ((0 ≤ x ∧ x < n) ∧ 0 ≤ y ∧ y < n) from fun z => e3 z.2.2)]
          · have n2 : ¬ x < i + 1 := by omega
            simp only [e1, e2, n2, false_and, reduceIte, Int.add_zero]
      · have hcw : 1 ≤ cw := by rcases hO.2 with ⟨w0, -, e, -⟩ | ⟨w1, -⟩ <;> omega
        have hcw0 : ¬ cw = 0 := by omega
        rw [if_neg en]
        refine B_X7_layShapes_26 hC hw.o ⟨fun _ => ?_, fun z => absurd rfl z⟩
        rw [hw.g7, m39 m2 F2 1 (by decide) (by decide)]
        refine ⟨ixO hw.s39 (by omega), 3, 0, _, hd, Nat.le_refl _, hX ▸ c_laySteps hl 3 (by omega) (j2 := 0) (K := 4) (T := ("SIDE_STEPS", [1, 0, -1, 0, 0, 1, 0, -1])) hw (hH.fw F2) hO hcw a2 ⟨i0, hi⟩ (mb 1) rfl rfl (by decide) (fun i => tb1 i), ?_⟩
        rintro r γ m3 ⟨rfl, rfl, a3, f3⟩
        have F3 := F2.t f3
        refine B_X7_layShapes_51 hC hw.o ?_
        rw [hw.g7, m39 m3 F3 2 (by decide) (by decide)]
        refine ⟨ixO hw.s39 (by omega), 3, 0, _, hd, Nat.le_refl _, hX ▸ c_laySteps hl 3 (by omega) (j2 := 1) (K := 4) (T := ("SLANT_STEPS", [1, 1, 1, -1, -1, 1, -1, -1])) hw (hH.fw F3) hO hcw a3 ⟨i0, hi⟩ (mb 2) rfl rfl (by decide) (fun i => tb2 i), ?_⟩
        rintro r γ m4 ⟨rfl, rfl, a4, f4⟩
        have F4 := F3.t f4
        refine B_X7_layShapes_65 hC hw.o ?_
        rw [hw.g7, m39 m4 F4 3 (by decide) (by decide)]
        refine ⟨ixO hw.s39 (by omega), 3, 0, _, hd, Nat.le_refl _, hX ▸ c_laySteps hl 3 (by omega) (j2 := 2) (K := 8) (T := ("LEAP_STEPS", [1, 2, 1, -2, -1, 2, -1, -2, 2, 1, 2, -1, -2, 1, -2, -1])) hw (hH.fw F4) hO hcw a4 ⟨i0, hi⟩ (mb 3) rfl rfl (by decide) (fun i => tb3 i), ?_⟩
        rintro r γ m5 ⟨rfl, rfl, a5, f5⟩
        have F5 := F4.t f5
        refine B_X7_layShapes_79 hC hw.o ?_
        refine ⟨3, 0, _, hd, Nat.le_refl _, hX ▸ c_layLines hl 3 (by omega) hw (hH.fw F5) hO hcw a5 ⟨i0, hi⟩ (m39 m5 F5 4 (by decide) (by decide)) (m39 m5 F5 5 (by decide) (by decide)) (mb 4) (mb 5), ?_⟩
        rintro r γ m6 ⟨rfl, rfl, a6, f6⟩
        refine nxt m6 (F5.t f6) (a6.cong (fun x y z1 z2 z3 z4 => ?_))
        by_cases e1 : x < i
        · have n1 : ¬ x = i := by omega
          have n2 : x < i + 1 := by omega
          simp only [e1, n1, n2, false_and, reduceIte, Int.add_zero]
        · by_cases e2 : x = i
          · subst e2
            have n2 : x < x + 1 := by omega
            simp only [e1, n2, true_and, reduceIte]
            unfold finC
            rw [if_neg hcw0, f0, cs1, cs2, cs3]
            omega
          · have n2 : ¬ x < i + 1 := by omega
            simp only [e1, e2, n2, false_and, reduceIte, Int.add_zero]
    · obtain rfl : i = n := by omega
      refine ⟨fun _ => ⟨Nat.le_refl _, hP _ _ _ ⟨rfl, rfl, mA.cong (fun x y z1 z2 z3 z4 => ?_), fm⟩⟩, fun z => absurd hi z⟩
      by_cases e : x < i
      · rw [if_pos e]
      · rw [if_neg e, outside x y (by omega)]
end CLay
