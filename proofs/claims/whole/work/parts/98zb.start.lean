/-! the world at the start -/
theorem sx_nest : ∀ q ∈ sxN, Cond.methodLinkNest q.1 q.2.1 q.2.2.1 q.2.2.2 ∈ lw_tbl := by decide +kernel
theorem sx_w : ∀ w ∈ sxW, w ∈ lw_tbl ∧ w.onTables = true := by decide +kernel
theorem sx_ref : ∀ q ∈ sxS, Cond.stringRef q.1 q.2.1 q.2.2 ∈ lw_tbl := by decide +kernel
theorem start_Sx {args : Array Value} {s : State} (hts : ∀ w ∈ lw_tbl, w.before args s = true) (hg : TG.before args s = true) (b : Nat) (D : va_G) (cA : Nat → ClassId) : ∃ sk sv : Nat → Nat, sk 52 = b ∧ ∀ (n : Nat) (ad : Int → Nat) (sh : Int → Nat × Nat), Sx (D, cA, (fun q => s.heap.size ≤ q), n, ad, sh, sk, sv) s s.heap := by
  have hA : ∀ a : Nat, a < s.heap.size → ¬ (s.heap.size ≤ a) := fun a h => by omega
  have hf := flat_of_before _ hg
  obtain ⟨adK, adV, hS, hE⟩ := str_of (A := fun q => s.heap.size ≤ q) hg hA
  obtain ⟨t0, e0, v0⟩ := tab_of (A := fun q => s.heap.size ≤ q) hg hA (i := 0) (by decide) rfl (by decide)
  obtain ⟨t1, e1, v1⟩ := tab_of (A := fun q => s.heap.size ≤ q) hg hA (i := 1) (by decide) rfl (by decide)
  obtain ⟨t2, e2, v2⟩ := tab_of (A := fun q => s.heap.size ≤ q) hg hA (i := 2) (by decide) rfl (by decide)
  have hz : ∃ fl fa : Nat, va_Z PRE "SIOOBE_FORMATTER" sioD (if fl = 0 then Value.null else .ref fa) (fun q => s.heap.size ≤ q) s s.heap := by
    rcases va_Zqof (C := PRE) (n := "SIOOBE_FORMATTER") (d := sioD) (A := fun q => s.heap.size ≤ q) (hts _ (List.mem_of_getElem? (i := 917) (by decide +kernel))) (hts _ (List.mem_of_getElem? (i := 113) (by decide +kernel))) (hf _ (List.mem_of_getElem? (i := 7) (by decide +kernel))) hA with h | ⟨t, h⟩
    · exact ⟨0, 0, h⟩
    · exact ⟨1, t, h⟩
  obtain ⟨fl, fa, hz⟩ := hz
  refine ⟨fun i => if i < 24 then adK i else if i = 24 then t0 else if i = 25 then t1 else if i = 26 then t2 else if i < 51 then adV (i - 27) else if i = 51 then fa else b, fun i => if i = 24 then fl else adV i, rfl, fun n ad sh => ⟨?_, ?_, ⟨?_, ?_, fun i hi => ?_⟩, ?_, fun i q hq => ?_, fun q hq => va_Nw.of rfl (hts _ (sx_nest q hq)), fun w hw => va_Nw.of (sx_w w hw).2 (hts _ (sx_w w hw).1), fun i q hq => ?_⟩⟩
  · exact vx_Zqof (hts _ (List.mem_of_getElem? (i := 814) (by decide +kernel))) (hts _ (List.mem_of_getElem? (i := 105) (by decide +kernel))) (hf _ (List.mem_of_getElem? (i := 4) (by decide +kernel))) hA
  · exact vx_Zqof (hts _ (List.mem_of_getElem? (i := 816) (by decide +kernel))) (hts _ (List.mem_of_getElem? (i := 105) (by decide +kernel))) (hf _ (List.mem_of_getElem? (i := 5) (by decide +kernel))) hA
  · exact va_Zof (hts _ (List.mem_of_getElem? (i := 901) (by decide +kernel))) (hts _ (List.mem_of_getElem? (i := 111) (by decide +kernel))) (ev_of (hf _ (List.mem_of_getElem? (i := 6) (by decide +kernel)))) hA
  · unfold sxF
    show va_Z _ _ _ (conc _ (if fl = 0 then aR (-1) else aS 51)) _ _ _
    revert hz
    split <;> exact fun h => h
  · show (if 27 + i < 24 then _ else if 27 + i = 24 then _ else if 27 + i = 25 then _ else if 27 + i = 26 then _ else if 27 + i < 51 then adV (27 + i - 27) else _) = (if i = 24 then fl else adV i)
    rw [if_neg (by omega), if_neg (by omega), if_neg (by omega), if_neg (by omega), if_pos (by omega), if_neg (by omega), Nat.add_sub_cancel_left]
  · have k1 : ∀ i, i < 24 → (if i < 24 then adK i else if i = 24 then t0 else if i = 25 then t1 else if i = 26 then t2 else if i < 51 then adV (i - 27) else if i = 51 then fa else b) = adK i := fun i hi => if_pos hi
    have k2 : ∀ i, i < 24 → (if i = 24 then fl else adV i) = adV i := fun i hi => if_neg (by omega)
    refine ⟨fun i hi => ?_, fun i j hi hj h => ?_⟩
    · have h := hS.1 i hi
      rw [← k1 i hi, ← k2 i hi] at h
      exact h
    · have h' : (if i < 24 then adK i else if i = 24 then t0 else if i = 25 then t1 else if i = 26 then t2 else if i < 51 then adV (i - 27) else if i = 51 then fa else b) = (if j < 24 then adK j else if j = 24 then t0 else if j = 25 then t1 else if j = 26 then t2 else if j < 51 then adV (j - 27) else if j = 51 then fa else b) := h
      rw [k1 i hi, k1 j hj] at h'
      exact hS.2 i j hi hj h'
  · have hi : i < 24 := (List.getElem?_eq_some_iff.mp hq).1
    have h := hE i hi
    have e : sxTm i = .string q.1 q.2.1 := by unfold sxTm; rw [hq]
    rw [e] at h
    refine vk_R.of (hts _ (sx_ref q (List.mem_of_getElem? hq))) ?_
    show _ = some (Value.ref (if i < 24 then adK i else _))
    rw [if_pos hi]
    exact h
  · match i, hq with
    | 0, hq => cases hq; exact ⟨va_Zof (hts _ (List.mem_of_getElem? (i := 1043) (by decide +kernel))) (hts _ (List.mem_of_getElem? (i := 97) (by decide +kernel))) e0 hA, v0⟩
    | 1, hq => cases hq; exact ⟨va_Zof (hts _ (List.mem_of_getElem? (i := 1053) (by decide +kernel))) (hts _ (List.mem_of_getElem? (i := 97) (by decide +kernel))) e1 hA, v1⟩
    | 2, hq => cases hq; exact ⟨va_Zof (hts _ (List.mem_of_getElem? (i := 1055) (by decide +kernel))) (hts _ (List.mem_of_getElem? (i := 97) (by decide +kernel))) e2 hA, v2⟩
    | n + 3, hq => cases hq
