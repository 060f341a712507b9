/-! methods that catch -/
def wsW (y : MethodName) (cc : ByteArray) (nL : Nat) (ret : Option FieldType) (hh : List (Nat × Nat × Nat × Nat)) : List Cond := Cond.codeWith y cc nL ret hh :: TB
theorem wsW_good {y : MethodName} {cc : ByteArray} {nL : Nat} {ret : Option FieldType} {hh : List (Nat × Nat × Nat × Nat)} (h : Cond.codeWith y cc nL ret hh ∈ TB) : GoodIn TB (wsW y cc nL ret hh) := fun w hw => by
  rcases List.mem_cons.mp hw with rfl | hw
  · exact ⟨h, TB_good h⟩
  · exact TB_goodIn w hw
def CnW (l : Launch) (G : Gx) (y : MethodName) (cc : ByteArray) (nL : Nat) (hh : List (Nat × Nat × Nat × Nat)) (d k : Nat) (as : List AV) (γ μ : Mu) (Po : Option AV → Mu → Mu → Prop) : Prop :=
  (∀ v ∈ as, okV v) → Met l y (wsW y cc nL (some .int) hh) (rmD d k) (va_Pc (as.map (conc G)) (Wd G γ μ)) (QcD G Po) k (6 * k) G.A
theorem CnW.of {l : Launch} {G : Gx} {y : MethodName} {cc : ByteArray} {nL : Nat} {hh : List (Nat × Nat × Nat × Nat)} {d k : Nat} {as : List AV} {γ μ : Mu} {Po : Option AV → Mu → Mu → Prop} (hl : l.stackTraces = false) (hy : plainName y.cls = true) (h1 : ∀ v ∈ as, ∀ z, v ≠ aL z) (hn : Nat.ble as.length nL = true)
    (body : (∀ v ∈ as, okV v) → okM G μ → ∀ X : Mx, X.l = l → Cx X G cc nL y.cls (some .int) d k → X.c.exceptionTable.toList = tableOf hh → V X G (Qm X G k Po) 0 0 (lv0 as nL) [] γ μ) : CnW l G y cc nL hh d k as γ μ Po := by
  have hn' : as.length ≤ nL := Nat.le_of_ble_eq_true hn
  intro hok
  refine va_MetW (cc := cc) (maxL := nL) (ret := some .int) (hh := hh) hy rfl ?_
  intro p e s m args below meth c s₁ B hml hv
  obtain ⟨rfl, hP, hD, hK, hSx, hA, hM⟩ := hv
  have hts := atoms_spec (ws := wsW y cc nL (some .int) hh) B.pre
  have hown : s.vm.findClass y.cls = some m.cls := findClass_of_methodNamed B.named
  have hC : Cx (p, l, e, (headSpec (wsW y cc nL (some .int) hh) (rmD d k)).room, s, m, (as.map (conc G)).toArray, below, meth, c) G cc nL y.cls (some .int) d k :=
    ⟨⟨B.exec, B.bytes, hml, hown, fun w hw => hts w (List.mem_cons_of_mem _ hw)⟩, B.returns, B.notSynchronized, hK, hA, hSx, hl, Nat.le_refl _, Nat.le_refl _, Nat.le_refl _, Nat.le_refl _⟩
  have h := body hok hM _ rfl hC (vx_table (x := y) B (hts _ List.mem_cons_self)) (fun v hv => by
    rcases List.mem_append.mp hv with q | q
    · exact hok v q
    · rw [List.eq_of_mem_replicate q]; exact trivial) okn hM s.heap [] _ hP hD va_S.rf (entry_ok h1 hn') (by
      show _ = c.maxLocals
      rw [hml, lg_sl1 (args1 h1)]; simp; omega)
  rw [lg_entry_eq]
  exact h
theorem lvOk_dead {G : Gx} {ls ls' : Array Slot} {lv : List AV} {i : Nat} {w : Value} (h : lvOk G ls lv) (ho : okSt lv i = true) (hi : i < lv.length) (h' : lv_has ls' ls.size ((i, w) :: (prs G lv).filter (fun q => !(q.1 == i) && !(q.1 + 1 == i && q.2.category == 2)))) : lvOk G ls' (lv.set i aD) := by
  refine ⟨h'.2.1, by rw [List.length_set, h'.1]; exact h.2.1, fun j u hj hd => ?_⟩
  rw [List.getElem?_set] at hj
  by_cases e : i = j
  · subst e
    rw [if_pos rfl, if_pos hi] at hj
    cases hj
    cases hd
  · rw [if_neg e] at hj
    refine h'.2.2 (j, conc G u) (List.mem_cons_of_mem _ (List.mem_filter.mpr ⟨prs_mem.mpr ⟨u, hj, hd, rfl⟩, ?_⟩))
    simp only [Bool.and_eq_true, Bool.not_eq_true', beq_eq_false_iff_ne, ne_eq, Bool.and_eq_false_iff]
    refine ⟨fun q => e q.symm, ?_⟩
    by_cases e2 : j + 1 = i
    · exact Or.inr (by rw [okSt_cat ho e2 hj]; decide)
    · exact Or.inl e2
section Catch
variable {X : Mx} {G : Gx} {Q : State → Prop} {k pc : Nat} {lv lv2 st : List AV} {γ μ : Mu} {cc : ByteArray} {nL : Nat} {own : String} {ret : Option FieldType} {d kk : Nat}
/-- the handler's first instruction puts the thing caught away -/
theorem W_caught (hC : Cx X G cc nL own ret d kk) {hp i ln : Nat} {q : Addr} {H : Heap} {locs : List Loc} {ls : Array Slot} (hda : (∃ n : Fin 4, decode cc hp = .ok (.astore_n n, 1) ∧ (n : Nat) = i ∧ ln = 1) ∨ (decode cc hp = .ok (.astore i, 2) ∧ ln = 2)) (hi : i < lv.length) (ho : okSt lv i = true) (h2 : lv.set i aD = lv2)
    (o1 : ∀ v ∈ lv, okV v) (o3 : okM G μ) (hP : va_P G.D vwCl (wld G γ μ) H) (hD : va_D G.A (wld G γ μ)) (hS : va_S G.A X.s.heap H locs) (hl : lvOk G ls lv) (hz : ls.size = X.c.maxLocals)
    (k1 : V X G Q k (hp + ln) lv2 [] γ μ) : W X.p X.l X.e X.R X.s X.m X.a X.b X.t X.c H locs k (6 * k) Q (F0 X.m hp ls [.ref q]) := by
  subst h2
  have hi2 : i < ls.size := by rw [← hl.2.1]; exact hi
  rcases hda with ⟨n, h3, h4, rfl⟩ | ⟨h3, rfl⟩
  · refine wr_astore_n (r := some q) hC.1.1 hC.1.2.1 h3 h4 hl.has hi2 rfl (fun ls' h' => ?_)
    have hs : ls'.size = ls.size := h'.1
    exact k1 (oks o1 trivial) okn o3 H locs ls' hP hD hS (lvOk_dead hl ho hi h') (hs.trans hz)
  · refine wr_astore (r := some q) hC.1.1 hC.1.2.1 h3 hl.has hi2 rfl (fun ls' h' => ?_)
    have hs : ls'.size = ls.size := h'.1
    exact k1 (oks o1 trivial) okn o3 H locs ls' hP hD hS (lvOk_dead hl ho hi h') (hs.trans hz)
/-- behind a call whose throw is caught here -/
theorem V_afterC (hC : Cx X G cc nL own ret d kk) {k' p0 p1 hp ct i ln : Nat} {E0 : String} {P9 : Option AV → Mu → Mu → Prop} {X9 : String → Mu → Mu → Prop} {H : Heap} {locs : List Loc} {ls : Array Slot} {st0 : List Value} {a : Array Value}
    (hxt : X.c.exceptionTable.toList = tableOf [(p0, p1, hp, ct)]) (hcov : p0 ≤ pc ∧ pc < p1 ∧ ct ≠ 0) (hlk : Cond.classLink own ct E0 ∈ TB) (hE0 : Cond.castable E0 E0 ∈ sxW) (hE : ∀ E γ' μ', X9 E γ' μ' → E = E0)
    (hda : (∃ n : Fin 4, decode cc hp = .ok (.astore_n n, 1) ∧ (n : Nat) = i ∧ ln = 1) ∨ (decode cc hp = .ok (.astore i, 2) ∧ ln = 2)) (hi : i < lv.length) (ho : okSt lv i = true) (h2 : lv.set i aD = lv2)
    (hrun : vx_Run X.p X.l X.e X.R X.s X.m X.a X.b X.t X.c H locs k (6 * k) k' (6 * k') (F0 X.m pc ls st0) (st.map (conc G)) (QcD G P9 a) (XcD G X9) G.A)
    (o1 : ∀ v ∈ lv, okV v) (o2 : ∀ v ∈ st, okV v) (hS : va_S G.A X.s.heap H locs) (hl : lvOk G ls lv) (hz : ls.size = X.c.maxLocals)
    (k1 : ∀ r γ' μ', P9 r γ' μ' → V X G Q (k + k') (pc + 3) lv (r.toList ++ st) γ' μ') (kx : ∀ E γ' μ', X9 E γ' μ' → V X G Q (k + k') (hp + ln) lv2 [] γ' μ') : W X.p X.l X.e X.R X.s X.m X.a X.b X.t X.c H locs k (6 * k) Q (F0 X.m pc ls st0) := by
  intro T hT XX
  have e6 : 6 * k + 6 * k' = 6 * (k + k') := by omega
  rcases hrun T hT XX with ⟨v, s0, t, T', L, e0, X', hL, e1, e2, ⟨⟨r, γ', μ', okr, er, hpo, hP', hD', hM'⟩, hF⟩, hgo⟩ | ⟨q, s0, t, T', L, E, ce, e0, X', hL, e1, e2, ⟨γ', μ', hpx, hP', hD', hM', hF⟩, hce, hcv, hcl, hgo⟩
  · have ev : v = concO G r := by cases er; rfl
    obtain ⟨hf1, hf2⟩ := hF
    rw [e0] at hf1 hf2
    have hS' : va_S G.A X.s.heap T'.heap (locs ++ L) := by
      refine ⟨Nat.le_trans hS.1 (by rw [e1]; exact hf1), fun q h1 h2 => ?_, fun q hq => ?_⟩
      · rw [e1, hf2 q (Nat.lt_of_lt_of_le h1 hS.1) h2]
        exact hS.2.1 q h1 h2
      · rcases List.mem_append.mp hq with h | h
        · exact hS.2.2 q h
        · exact hL q h
    have h := k1 r γ' μ' hpo o1 (fun u hu => by
      rcases List.mem_append.mp hu with h | h
      · cases r with
        | none => cases h
        | some w => rw [List.mem_singleton.mp h]; exact okr
      · exact o2 u h) hM' T'.heap (locs ++ L) ls (by rw [e1]; exact hP') hD' hS' hl hz
    rw [e6] at X'
    obtain ⟨t2, a1, b1⟩ := h T' rfl X'
    refine ⟨t2, hgo t2 ?_, b1⟩
    have e7 : (r.toList ++ st).map (conc G) = v.toList ++ st.map (conc G) := by rw [ev]; cases r <;> rfl
    rw [e7] at a1
    exact a1
  · obtain ⟨hf1, hf2⟩ := hF
    rw [e0] at hf1 hf2
    rw [e6] at X'
    have hS' : va_S G.A X.s.heap T'.heap (locs ++ L) := by
      refine ⟨Nat.le_trans hS.1 (by rw [e1]; exact hf1), fun q h1 h2 => ?_, fun q hq => ?_⟩
      · rw [e1, hf2 q (Nat.lt_of_lt_of_le h1 hS.1) h2]
        exact hS.2.1 q h1 h2
      · rcases List.mem_append.mp hq with h | h
        · exact hS.2.2 q h
        · exact hL q h
    have hEE := hE E γ' μ' hpx
    have hcast : (Cond.castable E E0).before X.a X.s = true := by rw [hEE]; exact va_Nw.use rfl (hC.2.2.2.2.2.1.2.2.2.2.2.2.1 _ hE0)
    have hW := vx_catch (p := X.p) (l := X.l) (e := X.e) (R := X.R) (s := X.s) (m := X.m) (args := X.a) (below := X.b) (meth := X.t) (c := X.c) (H := T'.heap) (locs := locs ++ L) (cells := k + k') (slots := 6 * (k + k')) (Q := Q) (pc := pc) (ls := ls) (rest := st.map (conc G)) (own := own) (name := E0) (E := E) (ce := ce) (q := q)
      hC.1.2.2.2.1 [] ⟨p0, p1, hp, ct⟩ [] hxt (fun z hz => by cases hz) (by simp only [covers, Bool.and_eq_true, decide_eq_true_eq]; exact ⟨hcov.1, hcov.2.1⟩) hcov.2.2 (hC.1.2.2.2.2 _ hlk) hcast (by rw [e1]; exact hce) hcv hcl
      (W_caught hC hda hi ho h2 o1 hM' (by rw [e1]; exact hP') hD' hS' hl hz (kx E γ' μ' hpx))
    obtain ⟨t2, a1, b1⟩ := hW T' rfl X'
    exact ⟨t2, hgo.trans a1, b1⟩
theorem V_callVc (hC : Cx X G cc nL own ret d kk) {p0 p1 hp ct i ln : Nat} {E0 : String} (hxt : X.c.exceptionTable.toList = tableOf [(p0, p1, hp, ct)]) (hcov : p0 ≤ pc ∧ pc < p1 ∧ ct ≠ 0) (hlk : Cond.classLink own ct E0 ∈ TB) (hE0 : Cond.castable E0 E0 ∈ sxW)
    (hda : (∃ n : Fin 4, decode cc hp = .ok (.astore_n n, 1) ∧ (n : Nat) = i ∧ ln = 1) ∨ (decode cc hp = .ok (.astore i, 2) ∧ ln = 2)) (hi : i < lv.length) (ho : okSt lv i = true) (h2 : lv.set i aD = lv2)
    {ix n ci N : Nat} {y : MethodName} {cc' : ByteArray} {nL' : Nat} {ret' : Option FieldType} {d' k' : Nat} {as : List AV} {a : Int} {C : String} {T : u_T} {P9 : Option AV → Mu → Mu → Prop} {X9 : String → Mu → Mu → Prop} {st0 : List AV}
    (hc : vwCl[ci]? = some (C, T, N)) (hw : GoodIn TB (wsV own ix C y (wsY y cc' nL' ret'))) (hy : y.cls = C ∧ y.cls ≠ "java/lang/invoke/MethodHandle" ∧ y.cls ≠ "java/lang/invoke/VarHandle" ∧ (parseMethodDescriptor y.desc).map (fun d => d.parameters.length) = some n) (hd : decode cc pc = .ok (.invokevirtual ix, 3)) (hci : ci < 10) (hL : nL' ≤ 40)
    (hs : shO G a ci N) (hn : as.length = n) (hst : st.length ≤ 4) (h0 : st0 = as.reverse ++ aR a :: st) (hdd : d' < d) (hkk : k + k' ≤ kk)
    (hcn : Cnx X.l G y cc' nL' ret' d' k' (aR a :: as) γ μ P9 X9) (hE : ∀ E γ' μ', X9 E γ' μ' → E = E0) (k1 : ∀ r γ' μ', P9 r γ' μ' → V X G Q (k + k') (pc + 3) lv (r.toList ++ st) γ' μ') (kx : ∀ E γ' μ', X9 E γ' μ' → V X G Q (k + k') (hp + ln) lv2 [] γ' μ') : V X G Q k pc lv st0 γ μ := by
  intro o1 o2 o3 H locs ls hP hD hS hl hz
  subst h0
  obtain ⟨g0, g1, g2⟩ := hs
  have hg := wld_get (γ := γ) (μ := μ) g0 g1
  rw [g2, cellE_O hci] at hg
  have oas : ∀ v ∈ aR a :: as, okV v := okc trivial (fun v hv => o2 v (List.mem_append_left _ (List.mem_reverse.mpr hv)))
  have ost : ∀ v ∈ st, okV v := fun v hv => o2 v (List.mem_append_right _ (List.mem_cons_of_mem _ hv))
  have hcat := cat_le (G := G) st
  obtain ⟨r1, r2, r3, r4⟩ := hC.2.2.2.2.2.2.2
  refine V_afterC hC (k' := k') (P9 := P9) (X9 := X9) (lv := lv) (st := st) (a := (Value.ref (G.ad a) :: as.map (conc G)).toArray) hxt hcov hlk hE0 hE hda hi ho h2 (vx_runV (As := as.map (conc G)) (b := G.ad a) (rest := st.map (conc G)) hC.1 (hcn oas) (cwV n hC.1.2.2.2.2 hw rfl rfl rfl hy ⟨by show d' + 1 ≤ _; omega, by show 8 + (nL' + 11) + 64 * d' ≤ _; omega⟩)
    ⟨Wd_blind, va_recv hC.2.2.2.1 hP hc hg, fun U hU hW => ⟨by rw [List.map_cons, conc_ref g0], Wd_at hC hP hD hS o3 hU hW⟩⟩ rfl (by simpa using hn) (hz.trans hC.1.2.2.1) ?_ (lv_room (by omega)) hd ⟨by show k + k' ≤ _; omega, by show 6 * k + 6 * k' ≤ _; omega⟩) o1 ost hS hl hz k1 kx
  show (as.reverse ++ aR a :: st).map (conc G) = _
  rw [List.map_append, List.map_reverse, List.map_cons, conc_ref g0]
/-- a static call of a method that catches -/
theorem V_callSW (hC : Cx X G cc nL own ret d kk) {ix n : Nat} {y : MethodName} {cc' : ByteArray} {nL' : Nat} {hh : List (Nat × Nat × Nat × Nat)} {d' k' : Nat} {as : List AV} {Po : Option AV → Mu → Mu → Prop} {st0 : List AV}
    (hw : GoodIn TB (va_wsS own ix y (wsW y cc' nL' (some .int) hh))) (hy : y.cls ≠ "java/lang/invoke/MethodHandle" ∧ y.cls ≠ "java/lang/invoke/VarHandle" ∧ (parseMethodDescriptor y.desc).map (fun d => d.parameters.length) = some n) (hd : decode cc pc = .ok (.invokestatic ix, 3)) (hL : nL' ≤ 40)
    (hn : as.length = n) (hst : st.length ≤ 4) (h0 : st0 = as.reverse ++ st) (hdd : d' < d) (hkk : k + k' ≤ kk)
    (hcn : CnW X.l G y cc' nL' hh d' k' as γ μ Po) (k1 : ∀ r γ' μ', Po r γ' μ' → V X G Q (k + k') (pc + 3) lv (r.toList ++ st) γ' μ') : V X G Q k pc lv st0 γ μ := by
  intro o1 o2 o3 H locs ls hP hD hS hl hz
  subst h0
  have oas : ∀ v ∈ as, okV v := fun v hv => o2 v (List.mem_append_left _ (List.mem_reverse.mpr hv))
  have ost : ∀ v ∈ st, okV v := fun v hv => o2 v (List.mem_append_right _ hv)
  have hcat := cat_le (G := G) st
  obtain ⟨r1, r2, r3, r4⟩ := hC.2.2.2.2.2.2.2
  refine V_after (y := y) (k' := k') (Po := Po) (lv := lv) (st := st) (a := (as.map (conc G)).toArray) (vx_runSW (As := as.map (conc G)) (rest := st.map (conc G)) hC.1 (hcn oas) (vx_cwSW n hC.1.2.2.2.2 hw rfl rfl rfl hy ⟨by show d' + 1 ≤ _; omega, by show 8 + (nL' + 11) + 64 * d' ≤ _; omega⟩)
    ⟨Wd_blind, fun U hU hW => ⟨rfl, Wd_at hC hP hD hS o3 hU hW⟩⟩ rfl (by simpa using hn) (hz.trans hC.1.2.2.1) ?_ (lv_room (by omega)) hd ⟨by show k + k' ≤ _; omega, by show 6 * k + 6 * k' ≤ _; omega⟩) o1 ost hS hl hz k1
  show (as.reverse ++ st).map (conc G) = _
  rw [List.map_append, List.map_reverse]
end Catch
