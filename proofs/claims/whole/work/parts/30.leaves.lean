/-! contracts of the leaves: Math, Arrays.fill, LampHall's static helpers, Presses -/
theorem V_ok {X : Mx} {G : Gx} {Q : State → Prop} {k pc : Nat} {lv st : List AV} {γ μ : Mu} (h : (∀ v ∈ lv, okV v) → (∀ v ∈ st, okV v) → okM G μ → V X G Q k pc lv st γ μ) : V X G Q k pc lv st γ μ := fun o1 o2 o3 => h o1 o2 o3 o1 o2 o3
/-- of a method whose class has methods that the machine runs by itself, and which is none of them -/
theorem Met_ofWF {l : Launch} {y : MethodName} {ws ws' : List Cond} {rm : Room} {Pc : Array Value → State → Prop} {Qc : Array Value → State → Outcome → State → Prop} {mc ms : Nat} {free : Addr → Prop} {cc : ByteArray} {maxL : Nat} {ret : Option FieldType} (hy : plainFor y = true) (hw : ws = Cond.code y cc maxL ret :: ws')
    (body : ∀ p e s m args below meth c s₁, BodyLoose p l y (headSpec ws rm) cc maxL ret e s m args below meth c s₁ → c.maxLocals = maxL → Pc args s → W p l e (headSpec ws rm).room s m args below meth c s.heap [] 0 0 (MQ below Qc args s mc ms free) (entryFrame m args maxL)) : Met l y ws rm Pc Qc mc ms free := by
  refine MetFree.of_bodySF (code := cc) (maxLocals := maxL) (ret := ret) hy (fun args s m h hn => ?_) (fun p e s m args below meth c s₁ B hml hP _ => ?_)
  · obtain ⟨meth, c, h1, h2, h3, h4, h5, h6, -, -⟩ := Cond.code_spec hn (atoms_spec (ws := ws) h _ (by rw [hw]; exact List.mem_cons_self))
    exact ⟨meth, c, h1, h2, h3, h4, h5, h6⟩
  · obtain ⟨t, a1, o, b1, b2, b3⟩ := body p e s m args below meth c s₁ B hml hP s₁ (by rw [B.state]; rfl) (Stand.of_body B)
    exact ⟨t, o, a1, b1, b2, b3⟩
theorem Cn.of2 {l : Launch} {G : Gx} {y : MethodName} {cc : ByteArray} {nL : Nat} {ret : Option FieldType} {d k : Nat} {as : List AV} {γ μ : Mu} {Po : Option AV → Mu → Mu → Prop} (hl : l.stackTraces = false) (hy : plainFor y = true) (h1 : ∀ v ∈ as, ∀ z, v ≠ aL z) (hn : Nat.ble as.length nL = true)
    (body : (∀ v ∈ as, okV v) → okM G μ → ∀ X : Mx, X.l = l → Cx X G cc nL y.cls ret d k → V X G (Qm X G k Po) 0 0 (lv0 as nL) [] γ μ) : Cn l G y cc nL ret d k as γ μ Po := by
  have hn' : as.length ≤ nL := Nat.le_of_ble_eq_true hn
  intro hok
  refine Met_ofWF (cc := cc) (maxL := nL) (ret := ret) hy rfl ?_
  intro p e s m args below meth c s₁ B hml hv
  obtain ⟨rfl, hP, hD, hK, hSx, hA, hM⟩ := hv
  have hts := atoms_spec (ws := wsY y cc nL ret) B.pre
  have hown : s.vm.findClass y.cls = some m.cls := findClass_of_methodNamed B.named
  have hC : Cx (p, l, e, (headSpec (wsY y cc nL ret) (rmD d k)).room, s, m, (as.map (conc G)).toArray, below, meth, c) G cc nL y.cls ret d k :=
    ⟨⟨B.exec, B.bytes, hml, hown, fun w hw => hts w (List.mem_cons_of_mem _ hw)⟩, B.returns, B.notSynchronized, hK, hA, hSx, hl, Nat.le_refl _, Nat.le_refl _, Nat.le_refl _, Nat.le_refl _⟩
  have h := body hok hM _ rfl hC (fun v hv => by
    rcases List.mem_append.mp hv with q | q
    · exact hok v q
    · rw [List.eq_of_mem_replicate q]; exact trivial) okn hM s.heap [] _ hP hD va_S.rf (entry_ok h1 hn') (by
      show _ = c.maxLocals
      rw [hml, lg_sl1 (args1 h1)]; simp; omega)
  rw [lg_entry_eq]
  exact h
theorem noL1 {a : AV} (h : ∀ z, a ≠ aL z) : ∀ v ∈ [a], ∀ z, v ≠ aL z := fun v hv => by rw [List.mem_singleton.mp hv]; exact h
theorem noLc {a : AV} {r : List AV} (h : ∀ z, a ≠ aL z) (h2 : ∀ v ∈ r, ∀ z, v ≠ aL z) : ∀ v ∈ a :: r, ∀ z, v ≠ aL z := fun v hv => (List.mem_cons.mp hv).elim (fun e => e ▸ h) (h2 v)
theorem noL0 : ∀ v ∈ ([] : List AV), ∀ z, v ≠ aL z := fun _ h => nomatch h
theorem nlI {z : Int} : ∀ y, aI z ≠ aL y := fun _ h => by cases h
theorem nlR {z : Int} : ∀ y, aR z ≠ aL y := fun _ h => by cases h
theorem nlS {z : Int} : ∀ y, aS z ≠ aL y := fun _ h => by cases h
/-- a result, and nothing changed -/
abbrev PI (z : Int) (γ μ : Mu) : Option AV → Mu → Mu → Prop := fun r γ' μ' => r = some (aI z) ∧ γ' = γ ∧ μ' = μ
/-- no result, and the memory behind -/
abbrev PV (γ μ : Mu) : Option AV → Mu → Mu → Prop := fun r γ' μ' => r = none ∧ γ' = γ ∧ μ' = μ
/-- a result, and the memory behind -/
abbrev PM (z : Int) (γ μ : Mu) : Option AV → Mu → Mu → Prop := fun r γ' μ' => r = some (aI z) ∧ γ' = γ ∧ μ' = μ
theorem neg_msb (x : Int32) : x.toInt < 0 ↔ x.toBitVec.msb = true := by
  rw [← Int32.toInt_toBitVec, BitVec.msb_eq_toInt]
  simp
theorem xor_sign {a b : Int} (ha : iR a) (hb : iR b) : o_xor a b < 0 ↔ ¬ (a < 0 ↔ b < 0) := by
  have h1 := neg_msb (Int32.ofInt a)
  have h2 := neg_msb (Int32.ofInt b)
  have h3 := neg_msb (Int32.ofInt a ^^^ Int32.ofInt b)
  rw [oI ha] at h1
  rw [oI hb] at h2
  unfold o_xor
  rw [h3, h1, h2, Int32.toBitVec_xor, BitVec.msb_xor]
  cases (Int32.ofInt a).toBitVec.msb <;> cases (Int32.ofInt b).toBitVec.msb <;> simp
section Leaves
variable {l : Launch} {G : Gx} {γ μ : Mu}
theorem c_floorMod (hl : l.stackTraces = false) (d : Nat) {a b : Int} (hb : 0 < b) : Cn l G yJ9_floorMod_7cf53 cJ9_floorMod_7cf53 3 (some .int) d 0 [aI a, aI b] γ μ (PI (a % b) γ μ) := by
  refine Cn.of2 hl (by decide +kernel) (noLc nlI (noL1 nlI)) rfl (fun o1 o3 X hX hC => ?_)
  have ha : iR a := okh o1
  have hbR : iR b := okh (okt o1)
  have key := Int.tmod_eq_emod (a := a) (b := b)
  refine B_J9_floorMod_7cf53_0 hC ⟨hb, fun h => ?_, fun h => ⟨fun h0 => ?_, fun h0 => ?_⟩⟩
  · have h1 := (not_congr (xor_sign ha hbR)).mp (by omega)
    have h2 : 0 ≤ a := by omega
    rw [if_pos (Or.inl h2)] at key
    exact ⟨Nat.le_refl _, by rw [key]; simp, rfl, rfl⟩
  · have : b ∣ a := Int.dvd_of_tmod_eq_zero h0
    rw [if_pos (Or.inr this)] at key
    exact ⟨Nat.le_refl _, by rw [key]; simp, rfl, rfl⟩
  · have h1 := (xor_sign ha hbR).mp (by omega)
    have h2 : a < 0 := by omega
    have h3 : ¬ b ∣ a := fun q => h0 (Int.tmod_eq_zero_of_dvd q)
    rw [if_neg (by rintro (q | q); omega; exact h3 q)] at key
    have e : (Int.tmod a b) + b = a % b := by omega
    have := Int.emod_lt_of_pos a hb
    have := Int.emod_nonneg a (show b ≠ 0 by omega)
    obtain ⟨q1, q2⟩ := hbR
    exact ⟨by rw [e]; constructor <;> omega, Nat.le_refl _, by rw [e], rfl, rfl⟩
theorem c_max (hl : l.stackTraces = false) (d : Nat) {a b : Int} : Cn l G yJ9_max_7cf53 cJ9_max_7cf53 2 (some .int) d 0 [aI a, aI b] γ μ (PI (max a b) γ μ) := by
  refine Cn.of2 hl (by decide +kernel) (noLc nlI (noL1 nlI)) rfl (fun o1 o3 X hX hC => B_J9_max_7cf53_0 hC ⟨fun h => ⟨Nat.le_refl _, ?_, rfl, rfl⟩, fun h => ⟨Nat.le_refl _, ?_, rfl, rfl⟩⟩)
  · exact congrArg (fun z => some (aI z)) (Int.max_eq_right (by omega)).symm
  · exact congrArg (fun z => some (aI z)) (Int.max_eq_left (by omega)).symm
theorem c_min (hl : l.stackTraces = false) (d : Nat) {a b : Int} : Cn l G yJ9_min_7cf53 cJ9_min_7cf53 2 (some .int) d 0 [aI a, aI b] γ μ (PI (min a b) γ μ) := by
  refine Cn.of2 hl (by decide +kernel) (noLc nlI (noL1 nlI)) rfl (fun o1 o3 X hX hC => B_J9_min_7cf53_0 hC ⟨fun h => ⟨Nat.le_refl _, ?_, rfl, rfl⟩, fun h => ⟨Nat.le_refl _, ?_, rfl, rfl⟩⟩)
  · exact congrArg (fun z => some (aI z)) (Int.min_eq_right (by omega)).symm
  · exact congrArg (fun z => some (aI z)) (Int.min_eq_left (by omega)).symm
/-- a whole array anew: f at 0 .. n - 1 -/
def row (μ : Mu) (a n : Int) (f : Int → Int) : Mu := fun b j => if b = a ∧ 0 ≤ j ∧ j < n then f j else μ b j
theorem row_0 (μ : Mu) (a : Int) (f : Int → Int) : row μ a 0 f = μ := by
  funext b j
  unfold row
  rw [if_neg (by omega)]
theorem row_s {μ : Mu} {a n : Int} {f : Int → Int} (hn : 0 ≤ n) : up (row μ a n f) a n (f n) = row μ a (n + 1) f := by
  funext b j
  unfold row up
  by_cases h1 : b = a ∧ j = n
  · rw [if_pos h1, if_pos (by omega), h1.2]
  · rw [if_neg h1]
    show (if b = a ∧ 0 ≤ j ∧ j < n then f j else μ b j) = _
    by_cases h2 : b = a ∧ 0 ≤ j ∧ j < n
    · rw [if_pos h2, if_pos (by omega)]
    · rw [if_neg h2, if_neg (by omega)]
theorem row_in {μ : Mu} {a n j : Int} {f : Int → Int} (h : 0 ≤ j ∧ j < n) : row μ a n f a j = f j := if_pos ⟨rfl, h⟩
theorem row_out {μ : Mu} {a n b j : Int} {f : Int → Int} (h : ¬ (b = a ∧ 0 ≤ j ∧ j < n)) : row μ a n f b j = μ b j := if_neg h
theorem row_off {μ : Mu} {a n b j : Int} {f : Int → Int} (h : b ≠ a) : row μ a n f b j = μ b j := if_neg (fun q => h q.1)
theorem row_cong {μ : Mu} {a n : Int} {f g : Int → Int} (h : ∀ j, 0 ≤ j → j < n → f j = g j) : row μ a n f = row μ a n g := by
  funext b j
  unfold row
  by_cases q : b = a ∧ 0 ≤ j ∧ j < n
  · rw [if_pos q, if_pos q, h j q.2.1 q.2.2]
  · rw [if_neg q, if_neg q]
theorem c_fill (hl : l.stackTraces = false) (d : Nat) {a z : Int} (ha : lnA G 11 a) : Cn l G yJ7_fill_53178 cJ7_fill_53178 4 none d 0 [aR a, aI z] γ μ (PV γ (row μ a (G.sh a).2 (fun _ => z))) := by
  refine Cn.of2 hl (plainFor_of_name (by decide)) (noLc nlR (noL1 nlI)) rfl (fun o1 o3 X hX hC => B_J7_fill_53178_0 hC ⟨ha, ?_⟩)
  have loop : ∀ (n : Nat) (i : Int), 0 ≤ i → ((G.sh a).2 : Int) - i = n → V X G (Qm X G 0 (PV γ (row μ a (G.sh a).2 (fun _ => z)))) 0 5 [aR a, aI z, aI i, aI ((G.sh a).2 : Int)] [] γ (row μ a i (fun _ => z)) := by
    intro n
    induction n with
    | zero =>
      intro i h0 hn
      have e : i = ((G.sh a).2 : Int) := by omega
      exact B_J7_fill_53178_5 hC ⟨fun _ => ⟨Nat.le_refl _, rfl, rfl, by rw [e]⟩, fun q => absurd (by omega) q⟩
    | succ n ih =>
      intro i h0 hn
      refine B_J7_fill_53178_5 hC ⟨fun q => absurd q (by omega), fun q => ⟨⟨ha.1, ha.2.1, ha.2.2.1, h0, by omega⟩, ⟨by have := ha.2.2.2; omega, by have := ha.2.2.2; omega⟩, ?_⟩⟩
      rw [row_s h0]
      exact ih (i + 1) (by omega) (by omega)
  have h := loop (G.sh a).2 0 (by omega) (by omega)
  rw [row_0] at h
  exact h
theorem c_mod (hl : l.stackTraces = false) (d : Nat) (hd : 0 < d) {a q : Int} : Cn l G yX8_mod cX8_mod 2 (some .int) d 0 [aI a, aI q] γ μ (PI (if 2 ≤ q then a % q else 0) γ μ) := by
  refine Cn.of2 hl (plainFor_of_name (by decide)) (noLc nlI (noL1 nlI)) rfl (fun o1 o3 X hX hC => B_X8_mod_0 hC ⟨fun h => ⟨0, 0, _, hd, Nat.le_refl _, hX ▸ c_floorMod hl 0 (by omega), ?_⟩, fun h => ?_⟩)
  · rintro _ _ _ ⟨rfl, rfl, rfl⟩
    exact B_X8_mod_14 hC ⟨Nat.le_refl _, by rw [if_pos h], rfl, rfl⟩
  · exact B_X8_mod_14 hC ⟨Nat.le_refl _, by rw [if_neg h], rfl, rfl⟩
/-- row a += times * row b, modulo q -/
theorem c_addTimes (hl : l.stackTraces = false) (d : Nat) {a b t q n : Int} (ha : lnA G 11 a) (hb : lnA G 11 b) (hab : a ≠ b) (hq : 2 ≤ q ∧ q ≤ 5) (ht : 0 ≤ t ∧ t < q) (hn : 0 ≤ n ∧ n ≤ (G.sh a).2 ∧ n ≤ (G.sh b).2) (hA : ∀ j, 0 ≤ j → j < n → 0 ≤ μ a j ∧ μ a j < q) (hB : ∀ j, 0 ≤ j → j < n → 0 ≤ μ b j ∧ μ b j < q) :
    Cn l G yX8_addTimes cX8_addTimes 6 none d 0 [aR a, aR b, aI t, aI q, aI n] γ μ (PV γ (row μ a n (fun j => (μ a j + t * μ b j) % q))) := by
  refine Cn.of2 hl (plainFor_of_name (by decide)) (noLc nlR (noLc nlR (noLc nlI (noLc nlI (noL1 nlI))))) rfl (fun o1 o3 X hX hC => ?_)
  have same : t = 0 → row μ a n (fun j => (μ a j + t * μ b j) % q) = μ := by
    intro h0
    funext c j
    by_cases w : c = a ∧ 0 ≤ j ∧ j < n
    · obtain ⟨rfl, w1⟩ := w
      rw [row_in w1, h0, Int.zero_mul, Int.add_zero]
      exact Int.emod_eq_of_lt (hA j w1.1 w1.2).1 (hA j w1.1 w1.2).2
    · rw [row_out w]
  have loop : ∀ (m : Nat) (i : Int), 0 ≤ i → n - i = m → V X G (Qm X G 0 (PV γ (row μ a n (fun j => (μ a j + t * μ b j) % q)))) 0 27 [aR a, aR b, aI t, aI q, aI n, aI i] [] γ (row μ a i (fun j => (μ a j + t * μ b j) % q)) := by
    intro m
    induction m with
    | zero =>
      intro i h0 hm
      have e : i = n := by omega
      exact B_X8_addTimes_27 hC ⟨fun _ => ⟨Nat.le_refl _, rfl, rfl, by rw [e]⟩, fun w => absurd (by omega) w⟩
    | succ m ih =>
      intro i h0 hm
      have hA' := hA i h0 (by omega)
      have hB' := hB i h0 (by omega)
      have ea : row μ a i (fun j => (μ a j + t * μ b j) % q) a i = μ a i := row_out (by omega)
      have eb : row μ a i (fun j => (μ a j + t * μ b j) % q) b i = μ b i := row_off (fun w => hab w.symm)
      have hp : 0 ≤ t * μ b i := Int.mul_nonneg ht.1 hB'.1
      have hp2 : t * μ b i ≤ 5 * 5 := Int.mul_le_mul (by omega) (by omega) hB'.1 (by omega)
      have hl2 := ha.2.2.2
      refine B_X8_addTimes_27 hC ⟨fun w => absurd w (by omega), fun w => ⟨⟨hb.1, hb.2.1, hb.2.2.1, h0, by omega⟩, fun w0 => ⟨⟨by omega, by omega⟩, ?_⟩, fun w0 => ⟨⟨ha.1, ha.2.1, ha.2.2.1, h0, by omega⟩, ?_, ?_, by omega, ⟨by omega, by omega⟩, ?_⟩⟩⟩
      · have e := row_s (μ := μ) (a := a) (f := fun j => (μ a j + t * μ b j) % q) h0
        have e2 : (μ a i + t * μ b i) % q = μ a i := by
          rw [eb] at w0
          rw [w0, Int.mul_zero, Int.add_zero]
          exact Int.emod_eq_of_lt hA'.1 hA'.2
        rw [show row μ a i (fun j => (μ a j + t * μ b j) % q) = row μ a (i + 1) (fun j => (μ a j + t * μ b j) % q) from ?_]
        · exact ih (i + 1) (by omega) (by omega)
        · rw [← e]
          funext c j
          unfold up
          by_cases wc : c = a ∧ j = i
          · rw [if_pos wc, wc.1, wc.2, ea]
            exact e2.symm
          · rw [if_neg wc]
      · rw [eb]; constructor <;> omega
      · rw [ea, eb]; constructor <;> omega
      · rw [ea, eb, Int.tmod_eq_emod_of_nonneg (by omega), row_s (f := fun j => (μ a j + t * μ b j) % q) h0]
        exact ih (i + 1) (by omega) (by omega)
  refine B_X8_addTimes_0 hC ⟨fun h => ⟨Nat.le_refl _, rfl, rfl, (same h).symm⟩, fun h => ⟨fun w => absurd w (by omega), fun w => ⟨ha, fun w1 => absurd w1 (by omega), fun w1 => ⟨hb, fun w2 => ?_, fun w2 => absurd (by omega) w2⟩⟩⟩⟩
  have h9 := loop n.toNat 0 (by omega) (by omega)
  rw [row_0] at h9
  exact h9
end Leaves
