/-! contracts of constructors -/
def WdA (G : Gx) (γ μ : Mu) (U : State) : Prop := Wd G γ μ U ∧ va_AOA .int U
theorem WdA_blind {G : Gx} {γ μ : Mu} {av : List Value} : FrameBlind (va_Pc av (WdA G γ μ)) := by
  intro a U g mk h
  obtain ⟨h0, h1, h2⟩ := h
  have h3 := Wd_blind (av := av) a U g mk ⟨h0, h1⟩
  exact ⟨h0, h3.2, va_AOA.moved (u := U) (U := U.calling g mk a) (Vm.Alike.refl U.vm) h2⟩
def QcG (G : Gx) (Po : Gx → Option AV → Mu → Mu → Prop) : Array Value → State → Outcome → State → Prop := fun _ st o t => (∃ (G' : Gx) (N : Nat) (r : Option AV) (γ' μ' : Mu), Ext G G' N ∧ okO r ∧ o = .returned (concO G' r) ∧ Po G' r γ' μ' ∧ va_P G'.D vwCl (wld G' γ' μ') t.heap ∧ va_D G'.A (wld G' γ' μ') ∧ okM G' μ') ∧ va_F G.A st t
/-- the contract of a constructor -/
def CnG (l : Launch) (G : Gx) (y : MethodName) (cc : ByteArray) (nL : Nat) (d k : Nat) (as : List AV) (γ μ : Mu) (Po : Gx → Option AV → Mu → Mu → Prop) : Prop :=
  (∀ v ∈ as, okV v) → Met l y (wsY y cc nL none) (rmD d k) (va_Pc (as.map (conc G)) (WdA G γ μ)) (QcG G Po) k (6 * k) G.A
abbrev QmG (X : Mx) (G : Gx) (k : Nat) (Po : Gx → Option AV → Mu → Mu → Prop) : State → Prop := MQ X.b (QcG G Po) X.a X.s k (6 * k) G.A
theorem CnG.of {l : Launch} {G : Gx} {y : MethodName} {cc : ByteArray} {nL : Nat} {d k : Nat} {as : List AV} {γ μ : Mu} {Po : Gx → Option AV → Mu → Mu → Prop} (hl : l.stackTraces = false) (hy : plainFor y = true) (h1 : ∀ v ∈ as, ∀ z, v ≠ aL z) (hn : Nat.ble as.length nL = true)
    (body : okM G μ → ∀ X : Mx, X.l = l → Cx X G cc nL y.cls none d k → X.t.name = y.name → va_AOA .int X.s → V X G (QmG X G k Po) 0 0 (lv0 as nL) [] γ μ) : CnG l G y cc nL d k as γ μ Po := by
  have hn' : as.length ≤ nL := Nat.le_of_ble_eq_true hn
  intro hok
  refine Met_ofWF (cc := cc) (maxL := nL) (ret := none) hy rfl ?_
  intro p e s m args below meth c s₁ B hml hv
  obtain ⟨rfl, ⟨hP, hD, hK, hSx, hA, hM⟩, hov⟩ := hv
  have hts := atoms_spec (ws := wsY y cc nL none) B.pre
  have hown : s.vm.findClass y.cls = some m.cls := findClass_of_methodNamed B.named
  have hC : Cx (p, l, e, (headSpec (wsY y cc nL none) (rmD d k)).room, s, m, (as.map (conc G)).toArray, below, meth, c) G cc nL y.cls none d k :=
    ⟨⟨B.exec, B.bytes, hml, hown, fun w hw => hts w (List.mem_cons_of_mem _ hw)⟩, B.returns, B.notSynchronized, hK, hA, hSx, hl, Nat.le_refl _, Nat.le_refl _, Nat.le_refl _, Nat.le_refl _⟩
  have h := body hM _ rfl hC (name_of_methodNamed B.named B.method).1 hov (fun v hv => by
    rcases List.mem_append.mp hv with q | q
    · exact hok v q
    · rw [List.eq_of_mem_replicate q]; exact trivial) okn hM s.heap [] _ hP hD va_S.rf (entry_ok h1 hn') (by
      show _ = c.maxLocals
      rw [hml, lg_sl1 (args1 h1)]; simp; omega)
  rw [lg_entry_eq]
  exact h
section Ctor
variable {X : Mx} {G G' : Gx} {Q : State → Prop} {k k0 pc N : Nat} {lv st : List AV} {γ μ : Mu} {cc : ByteArray} {nL : Nat} {own : String} {ret : Option FieldType} {d kk : Nat} {Po : Gx → Option AV → Mu → Mu → Prop}
theorem V_returnG (hE : Ext G G' N) (hC : Cx X G' cc nL own none d kk) (hd : decode cc pc = .ok (.return_, 1)) (hk : k0 ≤ k) (hp : Po G' none γ μ) : V X G' (QmG X G k Po) k0 pc lv [] γ μ := by
  intro o1 o2 o3 H locs ls hP hD hS hl hz
  refine W.widen (n := 6 * k) hk (by omega) ?_
  have hS' : va_S G.A X.s.heap H locs := hE.2.2.1 ▸ hS
  exact W.vret hC.1.1 hC.1.2.1 hC.2.1 (fun t ht hW => ⟨⟨G', N, none, γ, μ, hE, trivial, rfl, hp, by rw [ht]; exact hP, hD, o3⟩, hS'.F ht⟩) hS'.2.2 hd hC.2.2.1
/-- behind a constructor that has returned -/
theorem V_afterG {k' : Nat} {H : Heap} {locs : List Loc} {ls : Array Slot} {st0 : List Value} {a : Array Value}
    (hrun : va_Run X.p X.l X.e X.R X.s X.m X.a X.b X.t X.c H locs k (6 * k) k' (6 * k') (F0 X.m pc ls st0) (st.map (conc G)) (QcG G Po a) G.A)
    (o1 : ∀ v ∈ lv, okV v) (o2 : ∀ v ∈ st, okV v) (hS : va_S G.A X.s.heap H locs) (hl : lvOk G ls lv) (hz : ls.size = X.c.maxLocals) (hlv : ∀ v ∈ lv, rfV G.n v) (hst : ∀ v ∈ st, rfV G.n v)
    (k1 : ∀ G' N r γ' μ', Ext G G' N → Po G' r γ' μ' → V X G' Q (k + k') (pc + 3) lv (r.toList ++ st) γ' μ') : W X.p X.l X.e X.R X.s X.m X.a X.b X.t X.c H locs k (6 * k) Q (F0 X.m pc ls st0) := by
  intro T hT XX
  obtain ⟨v, s0, t, T', L, e0, X', hL, e1, e2, ⟨⟨G', N, r, γ', μ', hE, okr, er, hpo, hP', hD', hM'⟩, hF⟩, hgo⟩ := hrun T hT XX
  have ev : v = concO G' r := by cases er; rfl
  obtain ⟨hf1, hf2⟩ := hF
  rw [e0] at hf1 hf2
  have hS' : va_S G.A X.s.heap T'.heap (locs ++ L) := by
    refine ⟨Nat.le_trans hS.1 (by rw [e1]; exact hf1), fun q h1 h2 => ?_, fun q hq => ?_⟩
    · rw [e1, hf2 q (Nat.lt_of_lt_of_le h1 hS.1) h2]
      exact hS.2.1 q h1 h2
    · rcases List.mem_append.mp hq with h | h
      · exact hS.2.2 q h
      · exact hL q h
  have h := k1 G' N r γ' μ' hE hpo o1 (fun u hu => by
    rcases List.mem_append.mp hu with h | h
    · cases r with
      | none => cases h
      | some w => rw [List.mem_singleton.mp h]; exact okr
    · exact o2 u h) hM' T'.heap (locs ++ L) ls (by rw [e1]; exact hP') hD' (by rw [hE.2.2.1]; exact hS') (hl.ext hE hlv) hz
  have e6 : 6 * k + 6 * k' = 6 * (k + k') := by omega
  rw [e6] at X'
  obtain ⟨t2, a1, b1⟩ := h T' rfl X'
  refine ⟨t2, hgo t2 ?_, b1⟩
  have e7 : (r.toList ++ st).map (conc G') = v.toList ++ st.map (conc G) := by
    rw [List.map_append, map_ext hE hst, ev]
    cases r <;> rfl
  rw [e7] at a1
  exact a1
theorem WdA_at {H : Heap} {locs : List Loc} (hC : Cx X G cc nL own ret d kk) (hov : va_AOA .int X.s) (hP : va_P G.D vwCl (wld G γ μ) H) (hD : va_D G.A (wld G γ μ)) (hS : va_S G.A X.s.heap H locs) (hM : okM G μ) {U : State} (hU : U.heap = H) (hW : X.s.WarmedH U.vm) : WdA G γ μ U := ⟨Wd_at hC hP hD hS hM hU hW, va_AOA.moved hW.alike hov⟩
/-- the private constructor of a nest mate -/
theorem V_callIN (hC : Cx X G cc nL own ret d kk) {ix : Nat} {y : MethodName} {host : String} {cc' : ByteArray} {nL' : Nat} {d' k' : Nat} {a : Int} {st0 : List AV} (hov : va_AOA .int X.s) (ha : 0 ≤ a)
    (hnx : (own, ix, y, host) ∈ sxN) (hcd : Cond.code y cc' nL' none ∈ TB) (hin9 : Cond.instanceMethod y ∈ TB) (hini : Cond.initialized y.cls ∈ TB) (hnm : y.name = "<init>") (hy : y.cls ≠ "java/lang/invoke/MethodHandle" ∧ y.cls ≠ "java/lang/invoke/VarHandle" ∧ (parseMethodDescriptor y.desc).map (fun d => d.parameters.length) = some 0) (hd : decode cc pc = .ok (.invokespecial ix, 3)) (hL : nL' ≤ 40)
    (hst : st.length ≤ 4) (h0 : st0 = aR a :: st) (hdd : d' < d) (hkk : k + k' ≤ kk) (hlv : ∀ v ∈ lv, rfV G.n v) (hsr : ∀ v ∈ st, rfV G.n v)
    (hcn : CnG X.l G y cc' nL' d' k' [aR a] γ μ Po) (k1 : ∀ G' N r γ' μ', Ext G G' N → Po G' r γ' μ' → V X G' Q (k + k') (pc + 3) lv (r.toList ++ st) γ' μ') : V X G Q k pc lv st0 γ μ := by
  intro o1 o2 o3 H locs ls hP hD hS hl hz
  subst h0
  have ost : ∀ v ∈ st, okV v := okt o2
  have hcat := cat_le (G := G) st
  obtain ⟨r1, r2, r3, r4⟩ := hC.2.2.2.2.2.2.2
  refine V_afterG (k' := k') (Po := Po) (lv := lv) (st := st) (a := [Value.ref (G.ad a)].toArray) (va_runIN (host := host) (As := []) (b := G.ad a) (rest := st.map (conc G)) hC.1 (hcn (okc trivial okn)) ⟨va_cnB 0 hC.1.2.2.2.2 (wsY_good hcd) rfl rfl rfl (hC.2.2.2.2.2.1.2.2.2.2.2.1 _ hnx) (hC.1.2.2.2.2 _ hini) hy ⟨by show d' + 1 ≤ _; omega, by show 8 + (nL' + 11) + 64 * d' ≤ _; omega⟩, hnm, hC.1.2.2.2.2 _ hin9⟩
    ⟨WdA_blind, fun U hU hW => ⟨by rw [List.map_cons, conc_ref ha]; rfl, WdA_at hC hov hP hD hS o3 hU hW⟩⟩ rfl rfl (hz.trans hC.1.2.2.1) ?_ (lv_room (by omega)) hd ⟨by show k + k' ≤ _; omega, by show 6 * k + 6 * k' ≤ _; omega⟩) o1 ost hS hl hz hlv hsr k1
  show (aR a :: st).map (conc G) = _
  rw [List.map_cons, conc_ref ha]
  rfl
end Ctor
