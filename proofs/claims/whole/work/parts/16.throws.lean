/-! throws, and calls of methods that may throw -/
theorem XcD_of {G : Gx} {Px : String → Mu → Mu → Prop} {E : String} {γ μ : Mu} {H : Heap} {locs : List Loc} {s t : State} (hp : Px E γ μ) (hP : va_P G.D vwCl (wld G γ μ) H) (hD : va_D G.A (wld G γ μ)) (hM : okM G μ) (hS : va_S G.A s.heap H locs) (h1 : H.size ≤ t.heap.size) (h2 : ∀ q : Nat, q < H.size → t.heap[q]? = H[q]?) : XcD G Px E s t :=
  ⟨γ, μ, hp, hP.kept (fun k x hx => h2 x.1 ((hP k x hx).lt)), hD, hM, Nat.le_trans hS.1 h1, fun q q1 q2 => by rw [h2 q (Nat.lt_of_lt_of_le q1 hS.1)]; exact hS.2.1 q q1 q2⟩
section Throws
variable {X : Mx} {G : Gx} {k k0 pc : Nat} {lv st : List AV} {γ μ : Mu} {cc : ByteArray} {nL : Nat} {own : String} {ret : Option FieldType} {d kk : Nat} {Po : Option AV → Mu → Mu → Prop} {Px : String → Mu → Mu → Prop}
/-- behind a call of a method that may throw: it has returned, or what it has thrown goes on to the caller -/
theorem V_afterX {k' : Nat} {P9 : Option AV → Mu → Mu → Prop} {X9 : String → Mu → Mu → Prop} {H : Heap} {locs : List Loc} {ls : Array Slot} {st0 : List Value} {a : Array Value} (hxt : ∀ x ∈ X.c.exceptionTable.toList, False) (hlk : X.t.locks = false)
    (hrun : vx_Run X.p X.l X.e X.R X.s X.m X.a X.b X.t X.c H locs k0 (6 * k0) k' (6 * k') (F0 X.m pc ls st0) (st.map (conc G)) (QcD G P9 a) (XcD G X9) G.A)
    (o1 : ∀ v ∈ lv, okV v) (o2 : ∀ v ∈ st, okV v) (hS : va_S G.A X.s.heap H locs) (hl : lvOk G ls lv) (hz : ls.size = X.c.maxLocals) (hkk : k0 + k' ≤ k)
    (k1 : ∀ r γ' μ', P9 r γ' μ' → V X G (Qx X G k Po Px) (k0 + k') (pc + 3) lv (r.toList ++ st) γ' μ') (kx : ∀ E γ' μ', X9 E γ' μ' → Px E γ' μ') : W X.p X.l X.e X.R X.s X.m X.a X.b X.t X.c H locs k0 (6 * k0) (Qx X G k Po Px) (F0 X.m pc ls st0) := by
  intro T hT XX
  have e6 : 6 * k0 + 6 * k' = 6 * (k0 + k') := by omega
  rcases hrun T hT XX with ⟨v, s0, t, T', L, e0, X', hL, e1, e2, ⟨⟨r, γ', μ', okr, er, hpo, hP', hD', hM'⟩, hF⟩, hgo⟩ | ⟨q, s0, t, T', L, E, ce, e0, X', hL, e1, e2, ⟨γ', μ', hpx, hP', hD', hM', hF⟩, hce, hcv, hcl, hgo⟩
  · have ev : v = concO G r := by cases er; rfl
    obtain ⟨hf1, hf2⟩ := hF
    rw [e0] at hf1 hf2
    have hS' : va_S G.A X.s.heap T'.heap (locs ++ L) := by
      refine ⟨Nat.le_trans hS.1 (by rw [e1]; exact hf1), fun q h1 h2 => ?_, fun q hq => ?_⟩
      · rw [e1, hf2 q (Nat.lt_of_lt_of_le h1 hS.1) h2]
        exact hS.2.1 q h1 h2
      · rcases List.mem_append.mp hq with h | h
        · exact hS.2.2 q h
        · exact hL q h
    have h := k1 r γ' μ' hpo o1 (fun u hu => by
      rcases List.mem_append.mp hu with h | h
      · cases r with
        | none => cases h
        | some w => rw [List.mem_singleton.mp h]; exact okr
      · exact o2 u h) hM' T'.heap (locs ++ L) ls (by rw [e1]; exact hP') hD' hS' hl hz
    rw [e6] at X'
    obtain ⟨t2, a1, b1⟩ := h T' rfl X'
    refine ⟨t2, hgo t2 ?_, b1⟩
    have e7 : (r.toList ++ st).map (conc G) = v.toList ++ st.map (conc G) := by rw [ev]; cases r <;> rfl
    rw [e7] at a1
    exact a1
  · obtain ⟨hf1, hf2⟩ := hF
    rw [e0] at hf1 hf2
    rw [e6] at X'
    have hW := vx_out (p := X.p) (l := X.l) (e := X.e) (R := X.R) (s := X.s) (m := X.m) (args := X.a) (below := X.b) (meth := X.t) (c := X.c) (H := T'.heap) (locs := locs ++ L) (cells := k0 + k') (slots := 6 * (k0 + k')) (Qc := QcD G Po) (XC := XcD G Px) (free := G.A) (pc := pc) (ls := ls) (rest := st.map (conc G)) (E := E) (ce := ce) (q := q) (mc := k) (ms := 6 * k)
      (fun x hx => (hxt x hx).elim) hlk (by rw [e1]; exact hce) hcv hcl (fun u hu hal => ⟨γ', μ', kx E γ' μ' hpx, by rw [hu, e1]; exact hP', hD', hM', by rw [hu, e1]; exact Nat.le_trans hS.1 hf1, fun q h1 h2 => by rw [hu, e1, hf2 q (Nat.lt_of_lt_of_le h1 hS.1) h2]; exact hS.2.1 q h1 h2⟩) (fun z hz => (List.mem_append.mp hz).elim (hS.2.2 z) (hL z)) hkk (by omega)
    obtain ⟨t2, a1, b1⟩ := hW T' rfl X'
    exact ⟨t2, hgo.trans a1, b1⟩
theorem V_callVx (hC : Cx X G cc nL own ret d kk) (hxt : ∀ x ∈ X.c.exceptionTable.toList, False) {ix n ci N : Nat} {y : MethodName} {cc' : ByteArray} {nL' : Nat} {ret' : Option FieldType} {d' k' : Nat} {as : List AV} {a : Int} {C : String} {T : u_T} {P9 : Option AV → Mu → Mu → Prop} {X9 : String → Mu → Mu → Prop} {st0 : List AV}
    (hc : vwCl[ci]? = some (C, T, N)) (hw : GoodIn TB (wsV own ix C y (wsY y cc' nL' ret'))) (hy : y.cls = C ∧ y.cls ≠ "java/lang/invoke/MethodHandle" ∧ y.cls ≠ "java/lang/invoke/VarHandle" ∧ (parseMethodDescriptor y.desc).map (fun d => d.parameters.length) = some n) (hd : decode cc pc = .ok (.invokevirtual ix, 3)) (hci : ci < 10) (hL : nL' ≤ 40)
    (hs : shO G a ci N) (hn : as.length = n) (hst : st.length ≤ 4) (h0 : st0 = as.reverse ++ aR a :: st) (hdd : d' < d) (hkk : k0 + k' ≤ k) (hk9 : k ≤ kk)
    (hcn : Cnx X.l G y cc' nL' ret' d' k' (aR a :: as) γ μ P9 X9) (k1 : ∀ r γ' μ', P9 r γ' μ' → V X G (Qx X G k Po Px) (k0 + k') (pc + 3) lv (r.toList ++ st) γ' μ') (kx : ∀ E γ' μ', X9 E γ' μ' → Px E γ' μ') : V X G (Qx X G k Po Px) k0 pc lv st0 γ μ := by
  intro o1 o2 o3 H locs ls hP hD hS hl hz
  subst h0
  obtain ⟨g0, g1, g2⟩ := hs
  have hg := wld_get (γ := γ) (μ := μ) g0 g1
  rw [g2, cellE_O hci] at hg
  have oas : ∀ v ∈ aR a :: as, okV v := okc trivial (fun v hv => o2 v (List.mem_append_left _ (List.mem_reverse.mpr hv)))
  have ost : ∀ v ∈ st, okV v := fun v hv => o2 v (List.mem_append_right _ (List.mem_cons_of_mem _ hv))
  have hcat := cat_le (G := G) st
  obtain ⟨r1, r2, r3, r4⟩ := hC.2.2.2.2.2.2.2
  refine V_afterX (k' := k') (P9 := P9) (X9 := X9) (lv := lv) (st := st) (a := (Value.ref (G.ad a) :: as.map (conc G)).toArray) hxt hC.2.2.1 (vx_runV (As := as.map (conc G)) (b := G.ad a) (rest := st.map (conc G)) hC.1 (hcn oas) (cwV n hC.1.2.2.2.2 hw rfl rfl rfl hy ⟨by show d' + 1 ≤ _; omega, by show 8 + (nL' + 11) + 64 * d' ≤ _; omega⟩)
    ⟨Wd_blind, va_recv hC.2.2.2.1 hP hc hg, fun U hU hW => ⟨by rw [List.map_cons, conc_ref g0], Wd_at hC hP hD hS o3 hU hW⟩⟩ rfl (by simpa using hn) (hz.trans hC.1.2.2.1) ?_ (lv_room (by omega)) hd ⟨by show k0 + k' ≤ _; omega, by show 6 * k0 + 6 * k' ≤ _; omega⟩) o1 ost hS hl hz hkk k1 kx
  show (as.reverse ++ aR a :: st).map (conc G) = _
  rw [List.map_append, List.map_reverse, List.map_cons, conc_ref g0]
theorem V_callSx (hC : Cx X G cc nL own ret d kk) (hxt : ∀ x ∈ X.c.exceptionTable.toList, False) {ix n : Nat} {y : MethodName} {cc' : ByteArray} {nL' : Nat} {ret' : Option FieldType} {d' k' : Nat} {as : List AV} {P9 : Option AV → Mu → Mu → Prop} {X9 : String → Mu → Mu → Prop} {st0 : List AV}
    (hw : GoodIn TB (va_wsS own ix y (wsY y cc' nL' ret'))) (hy : y.cls ≠ "java/lang/invoke/MethodHandle" ∧ y.cls ≠ "java/lang/invoke/VarHandle" ∧ (parseMethodDescriptor y.desc).map (fun d => d.parameters.length) = some n) (hd : decode cc pc = .ok (.invokestatic ix, 3)) (hL : nL' ≤ 40)
    (hn : as.length = n) (hst : st.length ≤ 4) (h0 : st0 = as.reverse ++ st) (hdd : d' < d) (hkk : k0 + k' ≤ k) (hk9 : k ≤ kk)
    (hcn : Cnx X.l G y cc' nL' ret' d' k' as γ μ P9 X9) (k1 : ∀ r γ' μ', P9 r γ' μ' → V X G (Qx X G k Po Px) (k0 + k') (pc + 3) lv (r.toList ++ st) γ' μ') (kx : ∀ E γ' μ', X9 E γ' μ' → Px E γ' μ') : V X G (Qx X G k Po Px) k0 pc lv st0 γ μ := by
  intro o1 o2 o3 H locs ls hP hD hS hl hz
  subst h0
  have oas : ∀ v ∈ as, okV v := fun v hv => o2 v (List.mem_append_left _ (List.mem_reverse.mpr hv))
  have ost : ∀ v ∈ st, okV v := fun v hv => o2 v (List.mem_append_right _ hv)
  have hcat := cat_le (G := G) st
  obtain ⟨r1, r2, r3, r4⟩ := hC.2.2.2.2.2.2.2
  refine V_afterX (k' := k') (P9 := P9) (X9 := X9) (lv := lv) (st := st) (a := (as.map (conc G)).toArray) hxt hC.2.2.1 (vx_runS (As := as.map (conc G)) (rest := st.map (conc G)) hC.1 (hcn oas) (va_cwS n hC.1.2.2.2.2 hw rfl rfl rfl hy ⟨by show d' + 1 ≤ _; omega, by show 8 + (nL' + 11) + 64 * d' ≤ _; omega⟩)
    ⟨Wd_blind, fun U hU hW => ⟨rfl, Wd_at hC hP hD hS o3 hU hW⟩⟩ rfl (by simpa using hn) (hz.trans hC.1.2.2.1) ?_ (lv_room (by omega)) hd ⟨by show k0 + k' ≤ _; omega, by show 6 * k0 + 6 * k' ≤ _; omega⟩) o1 ost hS hl hz hkk k1 kx
  show (as.reverse ++ st).map (conc G) = _
  rw [List.map_append, List.map_reverse]
end Throws
