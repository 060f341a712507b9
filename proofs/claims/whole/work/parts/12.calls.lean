/-! contracts, calls and returns -/
abbrev rmD (d k : Nat) : Room := { frames := d, cells := k, slots := 6 * k, locals := 64 * d }
abbrev Mu : Type := Int → Int → Int
/-- a state in which our cells hold γ and μ -/
def Wd (G : Gx) (γ μ : Mu) (U : State) : Prop := va_P G.D vwCl (wld G γ μ) U.heap ∧ va_D G.A (wld G γ μ) ∧ va_K G.D vwCl (gtys G) U ∧ Sx G U U.heap ∧ (∀ q, U.heap.size ≤ q → G.A q) ∧ okM G μ
def okO : Option AV → Prop
  | none => True
  | some v => okV v
def concO (G : Gx) (r : Option AV) : Option Value := r.map (conc G)
def QcD (G : Gx) (Po : Option AV → Mu → Mu → Prop) : Array Value → State → Outcome → State → Prop := fun _ st o t => (∃ (r : Option AV) (γ' μ' : Mu), okO r ∧ o = .returned (concO G r) ∧ Po r γ' μ' ∧ va_P G.D vwCl (wld G γ' μ') t.heap ∧ va_D G.A (wld G γ' μ') ∧ okM G μ') ∧ va_F G.A st t
def XcD (G : Gx) (Px : String → Mu → Mu → Prop) : String → State → State → Prop := fun E st t => ∃ (γ' μ' : Mu), Px E γ' μ' ∧ va_P G.D vwCl (wld G γ' μ') t.heap ∧ va_D G.A (wld G γ' μ') ∧ okM G μ' ∧ va_F G.A st t
/-- the contract of a method that returns -/
def Cn (l : Launch) (G : Gx) (y : MethodName) (cc : ByteArray) (nL : Nat) (ret : Option FieldType) (d k : Nat) (as : List AV) (γ μ : Mu) (Po : Option AV → Mu → Mu → Prop) : Prop :=
  (∀ v ∈ as, okV v) → Met l y (wsY y cc nL ret) (rmD d k) (va_Pc (as.map (conc G)) (Wd G γ μ)) (QcD G Po) k (6 * k) G.A
/-- the contract of a method that returns or throws -/
def Cnx (l : Launch) (G : Gx) (y : MethodName) (cc : ByteArray) (nL : Nat) (ret : Option FieldType) (d k : Nat) (as : List AV) (γ μ : Mu) (Po : Option AV → Mu → Mu → Prop) (Px : String → Mu → Mu → Prop) : Prop :=
  (∀ v ∈ as, okV v) → vx_Met l y (wsY y cc nL ret) (rmD d k) (va_Pc (as.map (conc G)) (Wd G γ μ)) (QcD G Po) (XcD G Px) k (6 * k) G.A
theorem Wd_blind {G : Gx} {γ μ : Mu} {av : List Value} : FrameBlind (va_Pc av (Wd G γ μ)) := by
  intro a U g mk h
  obtain ⟨h0, h1, h2, h3, h4, h5, h6⟩ := h
  exact ⟨h0, h1, h2, va_K.moved (u := U) (U := U.calling g mk a) (Vm.Alike.refl U.vm) h3, Sx.warm (s := U) (U := U.calling g mk a) (State.WarmedH.refl U) (fun _ _ _ => rfl) h4, h5, h6⟩
theorem cat_le {G : Gx} (st : List AV) : ((st.map (conc G)).map fun v => v.category).sum ≤ 2 * st.length := by
  induction st with
  | nil => exact Nat.le_refl 0
  | cons v r ih =>
    simp only [List.map_cons, List.sum_cons, List.length_cons]
    rcases lv_cat (conc G v) with h | h <;> omega
section Contracts
variable {l : Launch} {G : Gx} {y : MethodName} {cc : ByteArray} {nL : Nat} {ret : Option FieldType} {d k : Nat} {as : List AV} {γ μ : Mu} {Po : Option AV → Mu → Mu → Prop} {Px : String → Mu → Mu → Prop}
abbrev Qm (X : Mx) (G : Gx) (k : Nat) (Po : Option AV → Mu → Mu → Prop) : State → Prop := MQ X.b (QcD G Po) X.a X.s k (6 * k) G.A
abbrev Qx (X : Mx) (G : Gx) (k : Nat) (Po : Option AV → Mu → Mu → Prop) (Px : String → Mu → Mu → Prop) : State → Prop := vx_MQ X.b (QcD G Po) (XcD G Px) X.a X.s k (6 * k) G.A
theorem args1 {as : List AV} (h : ∀ v ∈ as, ∀ z, v ≠ aL z) : ∀ w ∈ as.map (conc G), w.category = 1 := by
  intro w hw
  obtain ⟨v, hv, rfl⟩ := List.mem_map.mp hw
  match v, h v hv with
  | .inl _, _ => rfl
  | .inr (.inl z), hx => exact absurd rfl (hx z)
  | .inr (.inr (.inl r)), _ => show (va_rf (rfo G r)).category = 1; cases rfo G r <;> rfl
  | .inr (.inr (.inr _)), _ => rfl
theorem lg_sl1 {vs : List Value} (h : ∀ w ∈ vs, w.category = 1) : lg_sl vs = vs.map Slot.val := by
  induction vs with
  | nil => rfl
  | cons v r ih =>
    have h1 : v.category = 1 := h v List.mem_cons_self
    show (if v.category = 2 then [Slot.val v, .second] else [Slot.val v]) ++ lg_sl r = _
    rw [if_neg (by omega), ih (fun w hw => h w (List.mem_cons_of_mem _ hw))]
    rfl
/-- the locals at the entry -/
abbrev lv0 (as : List AV) (nL : Nat) : List AV := as ++ List.replicate (nL - as.length) aD
theorem entry_ok {as : List AV} (h : ∀ v ∈ as, ∀ z, v ≠ aL z) (hn : as.length ≤ nL) : lvOk G ((lg_sl (as.map (conc G)) ++ List.replicate (nL - (lg_sl (as.map (conc G))).length) Slot.unset).toArray) (lv0 as nL) := by
  have h1 := lv_entry (as.map (conc G)) (n := nL) (by rw [lg_sl1 (args1 h)]; simpa using hn)
  refine ⟨h1.2.1, ?_, fun i v hi hd => ?_⟩
  · rw [h1.1]; simp; omega
  · rw [lg_sl1 (args1 h)]
    by_cases hl : i < as.length
    · rw [List.getElem?_append_left hl] at hi
      simp only [List.getElem?_toArray]
      rw [List.getElem?_append_left (by simpa using hl), List.getElem?_map, List.getElem?_map, hi]
      rfl
    · rw [List.getElem?_append_right (by omega)] at hi
      have := List.eq_of_mem_replicate (List.mem_of_getElem? hi)
      subst this
      cases hd
theorem Cn.of (hy : plainName y.cls = true) (h1 : ∀ v ∈ as, ∀ z, v ≠ aL z) (hn : as.length ≤ nL) (hl : l.stackTraces = false)
    (body : ∀ X : Mx, X.l = l → Cx X G cc nL y.cls ret d k → V X G (Qm X G k Po) 0 0 (lv0 as nL) [] γ μ) : Cn l G y cc nL ret d k as γ μ Po := by
  intro hok
  refine Met.ofW (cc := cc) (maxL := nL) (ret := ret) hy rfl ?_
  intro p e s m args below meth c s₁ B hml hv
  obtain ⟨rfl, hP, hD, hK, hSx, hA, hM⟩ := hv
  have hts := atoms_spec (ws := wsY y cc nL ret) B.pre
  have hown : s.vm.findClass y.cls = some m.cls := findClass_of_methodNamed B.named
  have hC : Cx (p, l, e, (headSpec (wsY y cc nL ret) (rmD d k)).room, s, m, (as.map (conc G)).toArray, below, meth, c) G cc nL y.cls ret d k :=
    ⟨⟨B.exec, B.bytes, hml, hown, fun w hw => hts w (List.mem_cons_of_mem _ hw)⟩, B.returns, B.notSynchronized, hK, hA, hSx, hl, Nat.le_refl _, Nat.le_refl _, Nat.le_refl _, Nat.le_refl _⟩
  have h := body _ rfl hC (fun v hv => by
    rcases List.mem_append.mp hv with q | q
    · exact hok v q
    · rw [List.eq_of_mem_replicate q]; exact trivial) okn hM s.heap [] _ hP hD va_S.rf (entry_ok h1 hn) (by
      show _ = c.maxLocals
      rw [hml, lg_sl1 (args1 h1)]; simp; omega)
  rw [lg_entry_eq]
  exact h
theorem Cnx.of (hy : plainName y.cls = true) (h1 : ∀ v ∈ as, ∀ z, v ≠ aL z) (hn : as.length ≤ nL) (hl : l.stackTraces = false)
    (body : ∀ X : Mx, X.l = l → Cx X G cc nL y.cls ret d k → (∀ x ∈ X.c.exceptionTable.toList, False) → V X G (Qx X G k Po Px) 0 0 (lv0 as nL) [] γ μ) : Cnx l G y cc nL ret d k as γ μ Po Px := by
  intro hok
  refine vx_ofW (cc := cc) (maxL := nL) (ret := ret) hy rfl ?_
  intro p e s m args below meth c s₁ B hml hxt hv
  obtain ⟨rfl, hP, hD, hK, hSx, hA, hM⟩ := hv
  have hts := atoms_spec (ws := wsY y cc nL ret) B.pre
  have hown : s.vm.findClass y.cls = some m.cls := findClass_of_methodNamed B.named
  have hC : Cx (p, l, e, (headSpec (wsY y cc nL ret) (rmD d k)).room, s, m, (as.map (conc G)).toArray, below, meth, c) G cc nL y.cls ret d k :=
    ⟨⟨B.exec, B.bytes, hml, hown, fun w hw => hts w (List.mem_cons_of_mem _ hw)⟩, B.returns, B.notSynchronized, hK, hA, hSx, hl, Nat.le_refl _, Nat.le_refl _, Nat.le_refl _, Nat.le_refl _⟩
  have h := body _ rfl hC hxt (fun v hv => by
    rcases List.mem_append.mp hv with q | q
    · exact hok v q
    · rw [List.eq_of_mem_replicate q]; exact trivial) okn hM s.heap [] _ hP hD va_S.rf (entry_ok h1 hn) (by
      show _ = c.maxLocals
      rw [hml, lg_sl1 (args1 h1)]; simp; omega)
  rw [lg_entry_eq]
  exact h
end Contracts
section Returns
variable {X : Mx} {G : Gx} {k k0 pc : Nat} {lv st : List AV} {γ μ : Mu} {cc : ByteArray} {nL : Nat} {own : String} {ret : Option FieldType} {d kk : Nat} {Po : Option AV → Mu → Mu → Prop} {Px : String → Mu → Mu → Prop}
theorem V_x (h : V X G (Qm X G k Po) k0 pc lv st γ μ) : V X G (Qx X G k Po Px) k0 pc lv st γ μ := fun o1 o2 o3 H locs ls hP hD hS hl hz => vx_ret (h o1 o2 o3 H locs ls hP hD hS hl hz)
theorem V_ireturn (hC : Cx X G cc nL own (some .int) d kk) {z : Int} (hd : decode cc pc = .ok (.ireturn, 1)) (hk : k0 ≤ k) (hp : Po (some (aI z)) γ μ) : V X G (Qm X G k Po) k0 pc lv [aI z] γ μ := by
  intro o1 o2 o3 H locs ls hP hD hS hl hz
  refine W.widen (n := 6 * k) hk (by omega) ?_
  exact W.iret (v := Int32.ofInt z) hC.1.1 hC.1.2.1 hC.2.1 (fun t ht hW => ⟨⟨some (aI z), γ, μ, okh o2, rfl, hp, by rw [ht]; exact hP, hD, o3⟩, hS.F ht⟩) hS.2.2 hd hC.2.2.1
theorem V_zreturn (hC : Cx X G cc nL own (some .boolean) d kk) {z : Int} (hd : decode cc pc = .ok (.ireturn, 1)) (hk : k0 ≤ k) (h01 : 0 ≤ z ∧ z ≤ 1) (hp : Po (some (aI z)) γ μ) : V X G (Qm X G k Po) k0 pc lv [aI z] γ μ := by
  intro o1 o2 o3 H locs ls hP hD hS hl hz
  refine W.widen (n := 6 * k) hk (by omega) ?_
  exact W.zret (v := Int32.ofInt z) (ty := .boolean) hC.1.1 hC.1.2.1 hC.2.1 (okP_nar (ty := .boolean) h01 (okh o2)).1 (fun t ht hW => ⟨⟨some (aI z), γ, μ, okh o2, rfl, hp, by rw [ht]; exact hP, hD, o3⟩, hS.F ht⟩) hS.2.2 hd hC.2.2.1
theorem V_lreturn (hC : Cx X G cc nL own (some .long) d kk) {z : Int} (hd : decode cc pc = .ok (.lreturn, 1)) (hk : k0 ≤ k) (hp : Po (some (aL z)) γ μ) : V X G (Qm X G k Po) k0 pc lv [aL z] γ μ := by
  intro o1 o2 o3 H locs ls hP hD hS hl hz
  refine W.widen (n := 6 * k) hk (by omega) ?_
  exact W.lret (v := Int64.ofInt z) hC.1.1 hC.1.2.1 hC.2.1 (fun t ht hW => ⟨⟨some (aL z), γ, μ, okh o2, rfl, hp, by rw [ht]; exact hP, hD, o3⟩, hS.F ht⟩) hS.2.2 hd hC.2.2.1
theorem V_return (hC : Cx X G cc nL own none d kk) (hd : decode cc pc = .ok (.return_, 1)) (hk : k0 ≤ k) (hp : Po none γ μ) : V X G (Qm X G k Po) k0 pc lv [] γ μ := by
  intro o1 o2 o3 H locs ls hP hD hS hl hz
  refine W.widen (n := 6 * k) hk (by omega) ?_
  exact W.vret hC.1.1 hC.1.2.1 hC.2.1 (fun t ht hW => ⟨⟨none, γ, μ, trivial, rfl, hp, by rw [ht]; exact hP, hD, o3⟩, hS.F ht⟩) hS.2.2 hd hC.2.2.1
theorem V_areturn (hC : Cx X G cc nL own ret d kk) {r : Int} {rt : FieldType} (hr : ret = some rt) (hrt : (∃ n, rt = .object n) ∨ ∃ t, rt = .array t) (hd : decode cc pc = .ok (.areturn, 1)) (hk : k0 ≤ k) (hp : Po (some (aR r)) γ μ) : V X G (Qm X G k Po) k0 pc lv [aR r] γ μ := by
  intro o1 o2 o3 H locs ls hP hD hS hl hz
  refine W.widen (n := 6 * k) hk (by omega) ?_
  exact W.aret (v := conc G (aR r)) hC.1.1 hC.1.2.1 (hC.2.1.trans hr) hrt (by show va_rf (rfo G r) = .null ∨ ∃ a, va_rf (rfo G r) = .ref a; cases rfo G r with | none => exact Or.inl rfl | some a => exact Or.inr ⟨a, rfl⟩) (fun t ht hW => ⟨⟨some (aR r), γ, μ, trivial, rfl, hp, by rw [ht]; exact hP, hD, o3⟩, hS.F ht⟩) hS.2.2 hd hC.2.2.1
end Returns
section Calls9
variable {X : Mx} {G : Gx} {Q : State → Prop} {k pc : Nat} {lv st : List AV} {γ μ : Mu} {cc : ByteArray} {nL : Nat} {own : String} {ret : Option FieldType} {d kk : Nat}
theorem Wd_at {H : Heap} {locs : List Loc} (hC : Cx X G cc nL own ret d kk) (hP : va_P G.D vwCl (wld G γ μ) H) (hD : va_D G.A (wld G γ μ)) (hS : va_S G.A X.s.heap H locs) (hM : okM G μ) {U : State} (hU : U.heap = H) (hW : X.s.WarmedH U.vm) : Wd G γ μ U := by
  subst hU
  exact ⟨hP, hD, va_K.moved hW.alike hC.2.2.2.1, Sx.warm hW hS.2.1 hC.2.2.2.2.2.1, fun q hq => hC.2.2.2.2.1 q (Nat.le_trans hS.1 hq), hM⟩
/-- behind a call that has returned -/
theorem V_after {y : MethodName} {k' : Nat} {Po : Option AV → Mu → Mu → Prop} {H : Heap} {locs : List Loc} {ls : Array Slot} {st0 : List Value} {a : Array Value}
    (hrun : va_Run X.p X.l X.e X.R X.s X.m X.a X.b X.t X.c H locs k (6 * k) k' (6 * k') (F0 X.m pc ls st0) (st.map (conc G)) (QcD G Po a) G.A)
    (o1 : ∀ v ∈ lv, okV v) (o2 : ∀ v ∈ st, okV v) (hS : va_S G.A X.s.heap H locs) (hl : lvOk G ls lv) (hz : ls.size = X.c.maxLocals)
    (k1 : ∀ r γ' μ', Po r γ' μ' → V X G Q (k + k') (pc + 3) lv (r.toList ++ st) γ' μ') : W X.p X.l X.e X.R X.s X.m X.a X.b X.t X.c H locs k (6 * k) Q (F0 X.m pc ls st0) := by
  intro T hT XX
  obtain ⟨v, s0, t, T', L, e0, X', hL, e1, e2, ⟨⟨r, γ', μ', okr, er, hpo, hP', hD', hM'⟩, hF⟩, hgo⟩ := hrun T hT XX
  have ev : v = concO G r := by cases er; rfl
  obtain ⟨hf1, hf2⟩ := hF
  rw [e0] at hf1 hf2
  have hS' : va_S G.A X.s.heap T'.heap (locs ++ L) := by
    refine ⟨Nat.le_trans hS.1 (by rw [e1]; exact hf1), fun q h1 h2 => ?_, fun q hq => ?_⟩
    · rw [e1, hf2 q (Nat.lt_of_lt_of_le h1 hS.1) h2]
      exact hS.2.1 q h1 h2
    · rcases List.mem_append.mp hq with h | h
      · exact hS.2.2 q h
      · exact hL q h
  have h := k1 r γ' μ' hpo o1 (fun u hu => by
    rcases List.mem_append.mp hu with h | h
    · cases r with
      | none => cases h
      | some w => rw [List.mem_singleton.mp h]; exact okr
    · exact o2 u h) hM' T'.heap (locs ++ L) ls (by rw [e1]; exact hP') hD' hS' hl hz
  have e6 : 6 * k + 6 * k' = 6 * (k + k') := by omega
  rw [e6] at X'
  obtain ⟨t2, a1, b1⟩ := h T' rfl X'
  refine ⟨t2, hgo t2 ?_, b1⟩
  have e7 : (r.toList ++ st).map (conc G) = v.toList ++ st.map (conc G) := by rw [ev]; cases r <;> rfl
  rw [e7] at a1
  exact a1
theorem V_callV (hC : Cx X G cc nL own ret d kk) {ix n ci N : Nat} {y : MethodName} {cc' : ByteArray} {nL' : Nat} {ret' : Option FieldType} {d' k' : Nat} {as : List AV} {a : Int} {C : String} {T : u_T} {Po : Option AV → Mu → Mu → Prop} {st0 : List AV}
    (hc : vwCl[ci]? = some (C, T, N)) (hw : GoodIn TB (wsV own ix C y (wsY y cc' nL' ret'))) (hy : y.cls = C ∧ y.cls ≠ "java/lang/invoke/MethodHandle" ∧ y.cls ≠ "java/lang/invoke/VarHandle" ∧ (parseMethodDescriptor y.desc).map (fun d => d.parameters.length) = some n) (hd : decode cc pc = .ok (.invokevirtual ix, 3)) (hci : ci < 10) (hL : nL' ≤ 40)
    (hs : shO G a ci N) (hn : as.length = n) (hst : st.length ≤ 4) (h0 : st0 = as.reverse ++ aR a :: st) (hdd : d' < d) (hkk : k + k' ≤ kk)
    (hcn : Cn X.l G y cc' nL' ret' d' k' (aR a :: as) γ μ Po) (k1 : ∀ r γ' μ', Po r γ' μ' → V X G Q (k + k') (pc + 3) lv (r.toList ++ st) γ' μ') : V X G Q k pc lv st0 γ μ := by
  intro o1 o2 o3 H locs ls hP hD hS hl hz
  subst h0
  obtain ⟨g0, g1, g2⟩ := hs
  have hg := wld_get (γ := γ) (μ := μ) g0 g1
  rw [g2, cellE_O hci] at hg
  have oas : ∀ v ∈ aR a :: as, okV v := okc trivial (fun v hv => o2 v (List.mem_append_left _ (List.mem_reverse.mpr hv)))
  have ost : ∀ v ∈ st, okV v := fun v hv => o2 v (List.mem_append_right _ (List.mem_cons_of_mem _ hv))
  have hcat := cat_le (G := G) st
  obtain ⟨r1, r2, r3, r4⟩ := hC.2.2.2.2.2.2.2
  refine V_after (y := y) (k' := k') (Po := Po) (lv := lv) (st := st) (a := (Value.ref (G.ad a) :: as.map (conc G)).toArray) (va_runV (As := as.map (conc G)) (b := G.ad a) (rest := st.map (conc G)) hC.1 (hcn oas) (cwV n hC.1.2.2.2.2 hw rfl rfl rfl hy ⟨by show d' + 1 ≤ _; omega, by show 8 + (nL' + 11) + 64 * d' ≤ _; omega⟩)
    ⟨Wd_blind, va_recv hC.2.2.2.1 hP hc hg, fun U hU hW => ⟨by rw [List.map_cons, conc_ref g0], Wd_at hC hP hD hS o3 hU hW⟩⟩ rfl (by simpa using hn) (hz.trans hC.1.2.2.1) ?_ (lv_room (by omega)) hd ⟨by show k + k' ≤ _; omega, by show 6 * k + 6 * k' ≤ _; omega⟩) o1 ost hS hl hz k1
  show (as.reverse ++ aR a :: st).map (conc G) = _
  rw [List.map_append, List.map_reverse, List.map_cons, conc_ref g0]
theorem V_callS (hC : Cx X G cc nL own ret d kk) {ix n : Nat} {y : MethodName} {cc' : ByteArray} {nL' : Nat} {ret' : Option FieldType} {d' k' : Nat} {as : List AV} {Po : Option AV → Mu → Mu → Prop} {st0 : List AV}
    (hw : GoodIn TB (va_wsS own ix y (wsY y cc' nL' ret'))) (hy : y.cls ≠ "java/lang/invoke/MethodHandle" ∧ y.cls ≠ "java/lang/invoke/VarHandle" ∧ (parseMethodDescriptor y.desc).map (fun d => d.parameters.length) = some n) (hd : decode cc pc = .ok (.invokestatic ix, 3)) (hL : nL' ≤ 40)
    (hn : as.length = n) (hst : st.length ≤ 4) (h0 : st0 = as.reverse ++ st) (hdd : d' < d) (hkk : k + k' ≤ kk)
    (hcn : Cn X.l G y cc' nL' ret' d' k' as γ μ Po) (k1 : ∀ r γ' μ', Po r γ' μ' → V X G Q (k + k') (pc + 3) lv (r.toList ++ st) γ' μ') : V X G Q k pc lv st0 γ μ := by
  intro o1 o2 o3 H locs ls hP hD hS hl hz
  subst h0
  have oas : ∀ v ∈ as, okV v := fun v hv => o2 v (List.mem_append_left _ (List.mem_reverse.mpr hv))
  have ost : ∀ v ∈ st, okV v := fun v hv => o2 v (List.mem_append_right _ hv)
  have hcat := cat_le (G := G) st
  obtain ⟨r1, r2, r3, r4⟩ := hC.2.2.2.2.2.2.2
  refine V_after (y := y) (k' := k') (Po := Po) (lv := lv) (st := st) (a := (as.map (conc G)).toArray) (va_runS (As := as.map (conc G)) (rest := st.map (conc G)) hC.1 (hcn oas) (va_cwS n hC.1.2.2.2.2 hw rfl rfl rfl hy ⟨by show d' + 1 ≤ _; omega, by show 8 + (nL' + 11) + 64 * d' ≤ _; omega⟩)
    ⟨Wd_blind, fun U hU hW => ⟨rfl, Wd_at hC hP hD hS o3 hU hW⟩⟩ rfl (by simpa using hn) (hz.trans hC.1.2.2.1) ?_ (lv_room (by omega)) hd ⟨by show k + k' ≤ _; omega, by show 6 * k + 6 * k' ≤ _; omega⟩) o1 ost hS hl hz k1
  show (as.reverse ++ st).map (conc G) = _
  rw [List.map_append, List.map_reverse]
/-- a private static method of a nest mate -/
theorem V_callSN (hC : Cx X G cc nL own ret d kk) {ix n : Nat} {y : MethodName} {host : String} {cc' : ByteArray} {nL' : Nat} {ret' : Option FieldType} {d' k' : Nat} {as : List AV} {Po : Option AV → Mu → Mu → Prop} {st0 : List AV}
    (hnx : (own, ix, y, host) ∈ sxN) (hcd : Cond.code y cc' nL' ret' ∈ TB) (hst9 : Cond.static y ∈ TB) (hini : Cond.initialized y.cls ∈ TB) (hy : y.cls ≠ "java/lang/invoke/MethodHandle" ∧ y.cls ≠ "java/lang/invoke/VarHandle" ∧ (parseMethodDescriptor y.desc).map (fun d => d.parameters.length) = some n) (hd : decode cc pc = .ok (.invokestatic ix, 3)) (hL : nL' ≤ 40)
    (hn : as.length = n) (hst : st.length ≤ 4) (h0 : st0 = as.reverse ++ st) (hdd : d' < d) (hkk : k + k' ≤ kk)
    (hcn : Cn X.l G y cc' nL' ret' d' k' as γ μ Po) (k1 : ∀ r γ' μ', Po r γ' μ' → V X G Q (k + k') (pc + 3) lv (r.toList ++ st) γ' μ') : V X G Q k pc lv st0 γ μ := by
  intro o1 o2 o3 H locs ls hP hD hS hl hz
  subst h0
  have oas : ∀ v ∈ as, okV v := fun v hv => o2 v (List.mem_append_left _ (List.mem_reverse.mpr hv))
  have ost : ∀ v ∈ st, okV v := fun v hv => o2 v (List.mem_append_right _ hv)
  have hcat := cat_le (G := G) st
  obtain ⟨r1, r2, r3, r4⟩ := hC.2.2.2.2.2.2.2
  refine V_after (y := y) (k' := k') (Po := Po) (lv := lv) (st := st) (a := (as.map (conc G)).toArray) (va_runSN (host := host) (As := as.map (conc G)) (rest := st.map (conc G)) hC.1 (hcn oas) ⟨va_cnB n hC.1.2.2.2.2 (wsY_good hcd) rfl rfl rfl (hC.2.2.2.2.2.1.2.2.2.2.2.1 _ hnx) (hC.1.2.2.2.2 _ hini) hy ⟨by show d' + 1 ≤ _; omega, by show 8 + (nL' + 11) + 64 * d' ≤ _; omega⟩, hC.1.2.2.2.2 _ hst9, trivial⟩
    ⟨Wd_blind, fun U hU hW => ⟨rfl, Wd_at hC hP hD hS o3 hU hW⟩⟩ rfl (by simpa using hn) (hz.trans hC.1.2.2.1) ?_ (lv_room (by omega)) hd ⟨by show k + k' ≤ _; omega, by show 6 * k + 6 * k' ≤ _; omega⟩) o1 ost hS hl hz k1
  show (as.reverse ++ st).map (conc G) = _
  rw [List.map_append, List.map_reverse]
end Calls9
