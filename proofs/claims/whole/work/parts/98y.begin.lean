/-! what the tables say at the start -/
theorem kn_all {args : Array Value} {s : State} (hts : ∀ w ∈ TB, w.before args s = true) : ∀ c : Nat, ∃ q : ClassId × (Nat → Nat), ∀ e, vwCl[c]? = some e → u_Kn s e.1 e.2.1 e.2.2 q.1 q.2
  | 0 => by
    obtain ⟨a, b, h⟩ := u_known hts itX0 (hts _ n_221)
    exact ⟨(a, b), fun e he => by have e1 : (RX0, TX0, 11) = e := Option.some.inj he; subst e1; exact h⟩
  | 1 => by
    obtain ⟨a, b, h⟩ := u_known hts itX1 (hts _ n_421)
    exact ⟨(a, b), fun e he => by have e1 : (RX1, TX1, 6) = e := Option.some.inj he; subst e1; exact h⟩
  | 2 => by
    obtain ⟨a, b, h⟩ := u_known hts itX2 (hts _ n_306)
    exact ⟨(a, b), fun e he => by have e1 : (RX2, TX2, 3) = e := Option.some.inj he; subst e1; exact h⟩
  | 3 => by
    obtain ⟨a, b, h⟩ := u_known hts itX3 (hts _ n_126)
    exact ⟨(a, b), fun e he => by have e1 : (RX3, TX3, 10) = e := Option.some.inj he; subst e1; exact h⟩
  | 4 => by
    obtain ⟨a, b, h⟩ := u_known hts itX4 (hts _ n_324)
    exact ⟨(a, b), fun e he => by have e1 : (RX4, TX4, 9) = e := Option.some.inj he; subst e1; exact h⟩
  | 5 => by
    obtain ⟨a, b, h⟩ := u_known hts itX5 (hts _ n_227)
    exact ⟨(a, b), fun e he => by have e1 : (RX5, TX5, 9) = e := Option.some.inj he; subst e1; exact h⟩
  | 6 => by
    obtain ⟨a, b, h⟩ := u_known hts itX6 (hts _ n_360)
    exact ⟨(a, b), fun e he => by have e1 : (RX6, TX6, 16) = e := Option.some.inj he; subst e1; exact h⟩
  | 7 => by
    obtain ⟨a, b, h⟩ := u_known hts itX7 (hts _ n_167)
    exact ⟨(a, b), fun e he => by have e1 : (RX7, TX7, 9) = e := Option.some.inj he; subst e1; exact h⟩
  | 8 => by
    obtain ⟨a, b, h⟩ := u_known hts itX8 (hts _ n_118)
    exact ⟨(a, b), fun e he => by have e1 : (RX8, TX8, 20) = e := Option.some.inj he; subst e1; exact h⟩
  | 9 => by
    obtain ⟨a, b, h⟩ := u_known hts itX9 (hts _ n_1279)
    exact ⟨(a, b), fun e he => by have e1 : (RX9, TX9, 73) = e := Option.some.inj he; subst e1; exact h⟩
  | n + 10 => ⟨(0, fun _ => 0), fun e he => by cases he⟩
theorem arr_of {args : Array Value} {s : State} {ty : FieldType} (h : (Cond.arrayClass ty).before args s = true) : ∃ cA : ClassId, ArrOfT s cA ty ∧ s.vm.findClass ("[" ++ ty.toString) = some cA := by
  obtain ⟨c, k, comp, h1, h2, h3⟩ := Cond.arrayClass_spec h
  exact ⟨c, fun n z => ⟨fun k h => (by cases h), k, h2, comp, h3⟩, h1⟩
theorem arr_of2 {s : State} (h : va_AOA .int s) : ∃ cA : ClassId, ArrOfT s cA (.array .int) ∧ s.vm.findClass ("[" ++ (FieldType.array .int).toString) = some cA := by
  have h0 : (Cond.arrayOver (.array .int)).before #[] s = true := h
  simp only [Cond.before, Cond.holds, Cond.value, beq_iff_eq, Option.bind_eq_some_iff, Option.map_eq_some_iff] at h0
  obtain ⟨w, hw, c, hc, k, h2, hb⟩ := h0
  cases hk : k.kind with
  | array comp ty =>
    rw [hk] at hb
    have hb1 : (decide (ty = .array .int) && decide (s.vm.findClass ("[" ++ (FieldType.array .int).toString) = some c)) = true := hb
    rw [Bool.and_eq_true, decide_eq_true_eq, decide_eq_true_eq] at hb1
    obtain ⟨e1, h1⟩ := hb1
    subst e1
    exact ⟨c, fun n z => ⟨fun k h => (by cases h), k, h2, comp, hk⟩, h1⟩
  | _ => rw [hk] at hb; simp at hb
theorem aoa_in : Cond.arrayOver (.array .int) ∈ lw_tbl := List.mem_of_getElem? (i := 173) (by decide +kernel)
theorem start_K {args : Array Value} {s : State} (hts : ∀ w ∈ lw_tbl, w.before args s = true) : va_AOA .int s ∧ ∃ (D : va_G) (cA : Nat → ClassId), va_K D vwCl [(cA 10, .byte), (cA 11, .int), (cA 12, .long), (cA 13, .boolean), (cA 14, .array .int)] s := by
  have hT : ∀ w ∈ TB, w.before args s = true := fun w hw => hts w (TB_in hw)
  have hov : va_AOA .int s := va_AOA.of (hts _ aoa_in)
  refine ⟨hov, (fun c => (Classical.choose (kn_all hT c)).1, fun c => (Classical.choose (kn_all hT c)).2), ?_⟩
  obtain ⟨c10, a10, b10⟩ := arr_of (hT _ n_164)
  obtain ⟨c11, a11, b11⟩ := arr_of (hT _ n_165)
  obtain ⟨c12, a12, b12⟩ := arr_of (hT _ n_447)
  obtain ⟨c13, a13, b13⟩ := arr_of (hT _ n_219)
  obtain ⟨c14, a14, b14⟩ := arr_of2 hov
  refine ⟨fun t => if t = 10 then c10 else if t = 11 then c11 else if t = 12 then c12 else if t = 13 then c13 else c14, fun c e he => Classical.choose_spec (kn_all hT c) e he, fun k q hk => ?_⟩
  match k, hk with
  | 0, hk => cases hk; exact ⟨a10, b10⟩
  | 1, hk => cases hk; exact ⟨a11, b11⟩
  | 2, hk => cases hk; exact ⟨a12, b12⟩
  | 3, hk => cases hk; exact ⟨a13, b13⟩
  | 4, hk => cases hk; exact ⟨a14, b14⟩
  | n + 5, hk => cases hk
