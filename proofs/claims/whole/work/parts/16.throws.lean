/-! 'throw new E("text")' where E's own constructor calls its superclass's by any index. tx_ctor and tx_throw follow proofs of the library and of the kit (ctorThrowS, vx_throwS), the first link of the chain taken apart. -/
def txAtoms (own : String) (ic : Nat) (X Y : String) (ix : Nat) (by1 : ByteArray) (names : List String) : List Cond :=
  Bundle.throwableAtoms ++ Bundle.throwableSAtoms ++ Bundle.passSAtoms X Y ix by1 ++ Bundle.chainSAtoms Y names ++
  [.methodLink own ic (Bundle.initS X), .instantiable X 6, .castable X X, .selects X Bundle.tFill0 Bundle.tFill0, .selects X Bundle.tFill Bundle.tFill,
   .lays X Bundle.tN "cause" "Ljava/lang/Throwable;", .lays X Bundle.tN "stackTrace" Bundle.steD, .lays X Bundle.tN "suppressedExceptions" Bundle.listD, .lays X Bundle.tN "detailMessage" "Ljava/lang/String;",
   .isRef (.static Bundle.tN "UNASSIGNED_STACK" Bundle.steD), .isRef (.static Bundle.tN "SUPPRESSED_SENTINEL" Bundle.listD),
   .fieldLink Bundle.tN 198 Bundle.tN "backtrace" "Ljava/lang/Object;", .lays Bundle.tN Bundle.tN "backtrace" "Ljava/lang/Object;", .lays X Bundle.tN "backtrace" "Ljava/lang/Object;"]
section TxCtor
variable {p : Program} {l : Launch} {e : Env} {R : Room} {s : State} {m₀ : MethodId} {args : Array Value} {below : List Frame} {meth : Method} {c : Code} {T0 : State} {locs : List Loc} {cells slots : Nat}
set_option maxHeartbeats 4000000 in
theorem tx_ctor (X : Stand p l e R s m₀ args below meth c T0 locs cells slots) (hexec : p.tables.exec = Jvm.exec) (htr : e.platform.stackTraces = false) {own cls Y0 : String} {names : List String} {ic ix : Nat} {by1 : ByteArray}
    (b0 : decode by1 0 = .ok (.aload_n 0, 1)) (b1 : decode by1 1 = .ok (.aload_n 1, 1)) (b2 : decode by1 2 = .ok (.invokespecial ix, 3)) (b5 : decode by1 5 = .ok (.return_, 1))
    (hown : s.vm.findClass own = some m₀.cls) (hcls : Bundle.fit cls = true) (hY : Bundle.fit Y0 = true) (hnames : ∀ n ∈ names, Bundle.fit n = true)
    (h : ∀ a ∈ txAtoms own ic cls Y0 ix by1 names, a.before args s = true) (hlocs : ∀ x ∈ locs, ∀ cell, s.heap[x.base]? = some cell → cell.vm.isStatics = false)
    {a : Addr} {cX : ClassId} {kX : Class} (hfoundX : s.vm.findClass cls = some cX) (hkX : s.vm.classes[cX]? = some kX) (hcell : T0.heap[a]? = some (freshCell cX kX)) (hnew : s.heap.size ≤ a)
    {msg : Value} (hmsg : msg.isRef = true) {g : JFrame} (hg : g.method = m₀) (hsize : g.locals.size = c.maxLocals) (hlocked : g.locked = none) (hentered : g.entered = []) {rest : List Value} (hstack : g.stack = msg :: .ref a :: .ref a :: rest)
    (hd6 : decode c.code g.pc = .ok (.invokespecial ic, 3)) (hd9 : decode c.code (g.pc + 3) = .ok (.athrow, 1)) (hout : ∀ x ∈ c.exceptionTable.toList, covers x (g.pc + 3) = false)
    (hRframes : names.length + 4 < R.frames) (hRlocals : 2 * g.monitorRoom + ((Value.ref a :: rest).map fun v => v.category).sum + (13 * (names.length + 2) + 42) ≤ R.locals) (hlocks : meth.locks = false) :
    ∃ U : State, Steps p.tables e below (T0.setTop g) U ∧ U.status = .running ∧ Ended U below (.threw a) ∧ s.WarmedH U.vm ∧ s.sameButNew ({ U with vm := s.vm } : State) locs cells slots ∧
      ∃ ce, U.heap[a]? = some ce ∧ s.vm.findClass cls = some ce.cls ∧ ce.vm = .none := by
  have howns : e.platform.frameOwnsMonitors = true := by rw [X.admits.platform]
  have hfin : e.platform.finalization = false := by rw [X.admits.platform]
  have hpl : e.platform.magicAccessors = ({} : Platform).magicAccessors := by rw [X.admits.platform]
  have a' : ∀ x, x ∈ txAtoms own ic cls Y0 ix by1 names → x.holds args s none s [] = true := fun x hx => h x hx
  obtain ⟨T, Z0, L, -, Y⟩ := ThrowableC.of_atoms (args := args) howns hfin hpl (fun x hx => h x (by simp [txAtoms, hx]))
  obtain ⟨Z, M, LZ, LM, hnZ⟩ := Init0T.ofS_atoms (args := args) hpl L Y (fun x hx => h x (by simp [txAtoms, hx]))
  obtain ⟨P1, L1, hP1m, hs1⟩ := PassC.ofS_atoms (args := args) (s := s) hpl (X := cls) (Y := Y0) (Bundle.fit_spec hcls).1 (Bundle.fit_spec hY).2 b0 b1 b2 b5 (fun x hx => h x (by simp [txAtoms, hx]))
  obtain ⟨P2, Ps, hlen, L2, hL, hP2m, hlink2, hlink⟩ := Bundle.chainS (args := args) hpl hnZ names Y0 hY hnames (fun x hx => h x (by simp [txAtoms, hx]))
  have hfound : s.vm.findClass cls = some P1.m.cls := findClass_of_methodNamed hP1m
  cases Option.some.inj (hfoundX.symm.trans hfound)
  obtain ⟨c1, kX', hc1, hk, hord, -, -, hn6⟩ := Cond.instantiable_spec (a' (.instantiable cls 6) (by simp [txAtoms]))
  cases Option.some.inj (hc1.symm.trans hfound)
  cases Option.some.inj (hkX.symm.trans hk)
  have hsel0 : selectMethod e.platform s.vm P1.m.cls T.fill0 = .method T.fill0 := by
    obtain ⟨c2, r2, m2, q1, q2, q3, q4, -⟩ := Cond.selects_spec (a' (.selects cls Bundle.tFill0 Bundle.tFill0) (by simp [txAtoms]))
    cases Option.some.inj (q1.symm.trans hfound)
    cases Option.some.inj (q2.symm.trans (State.methodFound?_of_named Y.fill0 (by decide)))
    cases Option.some.inj (q3.symm.trans Y.fill0)
    rw [Launch.admits_selectMethod X.admits]; exact q4
  have hselF : selectMethod e.platform s.vm P1.m.cls T.fill = .method T.fill := by
    obtain ⟨c2, r2, m2, q1, q2, q3, q4, -⟩ := Cond.selects_spec (a' (.selects cls Bundle.tFill Bundle.tFill) (by simp [txAtoms]))
    cases Option.some.inj (q1.symm.trans hfound)
    cases Option.some.inj (q2.symm.trans (State.methodFound?_of_named Y.fill (by decide)))
    cases Option.some.inj (q3.symm.trans Y.fill)
    rw [Launch.admits_selectMethod X.admits]; exact q4
  obtain ⟨cellS0, hcS0, hiss⟩ := Y.statics
  obtain ⟨u0, hu0⟩ := Cond.staticRefV Y.unassigned L.unassignedStatic L.statics hcS0 hiss (a' (.isRef (.static Bundle.tN "UNASSIGNED_STACK" Bundle.steD)) (by simp [txAtoms]))
  obtain ⟨sen, hsen⟩ := Cond.staticRefV Y.sentinel L.sentinelStatic L.statics hcS0 hiss (a' (.isRef (.static Bundle.tN "SUPPRESSED_SENTINEL" Bundle.listD)) (by simp [txAtoms]))
  obtain ⟨ci198, i198, fB, hk198, hg198, ha198, hsB, -, hnB, htB, hffB⟩ := Cond.ownField (t := .object "java/lang/Object") Y.found L.cls (by decide +kernel) (a' (.fieldLink Bundle.tN 198 Bundle.tN "backtrace" "Ljava/lang/Object;") (by simp [txAtoms])) (a' (.lays Bundle.tN Bundle.tN "backtrace" "Ljava/lang/Object;") (by simp [txAtoms])) e.platform hpl
  obtain ⟨cellS, hcS', heS, -, hkeep⟩ := X.same.2.2.2.2.2 T.aS cellS0 hcS0
  have hcellS : T0.heap[T.aS]? = some cellS := hcS'
  have hout' : ∀ i, (⟨T.aS, i⟩ : Loc) ∉ locs := fun i hmem => by
    have := hlocs _ hmem cellS0 hcS0
    rw [hiss] at this; cases this
  have hknownS : cellS.vm ≠ .unknown := by
    rw [heS]; intro hu
    rw [show cellS0.vm = .unknown from hu] at hiss
    cases hiss
  have hneS : T.aS ≠ a := Nat.ne_of_lt (Nat.lt_of_lt_of_le (Array.getElem?_eq_some_iff.mp hcS0).1 hnew)
  obtain ⟨iM, hffM⟩ := Y.msg
  obtain ⟨tyC, dC, hdC, hdnC⟩ := Cond.laysAt hfound hk Y.cause (a' (.lays cls Bundle.tN "cause" "Ljava/lang/Throwable;") (by simp [txAtoms]))
  obtain ⟨tyS, dS, hdS, hdnS⟩ := Cond.laysAt hfound hk Y.stack (a' (.lays cls Bundle.tN "stackTrace" Bundle.steD) (by simp [txAtoms]))
  obtain ⟨tyP, dP, hdP, hdnP⟩ := Cond.laysAt hfound hk Y.supp (a' (.lays cls Bundle.tN "suppressedExceptions" Bundle.listD) (by simp [txAtoms]))
  obtain ⟨tyM, dM, hdM, hdnM⟩ := Cond.laysAt hfound hk hffM (a' (.lays cls Bundle.tN "detailMessage" "Ljava/lang/String;") (by simp [txAtoms]))
  obtain ⟨tyB, dB, hdB, hdnB⟩ := Cond.laysAt hfound hk hffB (a' (.lays cls Bundle.tN "backtrace" "Ljava/lang/Object;") (by simp [txAtoms]))
  have bC := Cond.laysApart hdB hdC hdnB hdnC (by rw [hnB, Y.causeName]; decide)
  have bS := Cond.laysApart hdB hdS hdnB hdnS (by rw [hnB, Y.stackName]; decide)
  have bP := Cond.laysApart hdB hdP hdnB hdnP (by rw [hnB, Y.suppName]; decide)
  have hskip : SkipFacts T e.platform s (fun u => u) u0 ((preparedCellV T.toThrowableT (freshCell P1.m.cls kX) a u0 sen).withEntry T0.cur) :=
    ⟨{ ci198 := ci198, i198 := i198, fBack := fB }, ⟨hk198, hg198, ha198, hsB⟩, by
      have := fresh_default (c := P1.m.cls) tyB
      rw [htB] at this
      simpa [preparedCellV, Cell.setSlot, Cell.withEntry, Array.getElem?_setIfInBounds, bC, bS, bP, bC.symm, bS.symm, bP.symm, defaultValue] using this, fun _ _ => rfl⟩
  obtain ⟨tm, methC, cdC, kC, vm₁, hnC, -, -, -, -, -, -, -, hW₁, st1⟩ := Steps.initColdS (tb := p.tables) (e := e) (below := below) (s := s) (U := T0) X.here hexec X.warmed hpl hown (t := Bundle.initS cls) rfl rfl (Bundle.fit_spec hcls).2
    (a' (.methodLink own ic (Bundle.initS cls)) (by simp [txAtoms])) (h (.instanceMethod (Bundle.initS cls)) (by simp [txAtoms, Bundle.passSAtoms])) (bytes := by1) (maxL := 2) (h (.code (Bundle.initS cls) by1 2 none) (by simp [txAtoms, Bundle.passSAtoms]))
    (f := g) hg (a := a) (msg := msg) (rest := .ref a :: rest) hstack hd6
  cases Option.some.inj (hnC.symm.trans hP1m)
  have X₁ := X.noted hW₁
  obtain ⟨vm₂, X₂, st2⟩ := X₁.ctorMessageOffV hexec (g := { g with stack := .ref a :: rest }) hg hsize T L Z LZ M LM (P1 :: P2 :: Ps)
    (fun P hP => by
      rcases List.mem_cons.mp hP with rfl | hP
      · exact L1
      · rcases List.mem_cons.mp hP with rfl | hP
        · exact L2
        · exact hL P hP) ⟨Option.some.inj (hs1.symm.trans hP2m), hlink2, hlink⟩ (u0 := u0) (sen := sen) (self := a) hmsg (cell := freshCell P1.m.cls kX) (cellS := cellS)
    hcell (fun _ => by simp) (by simp) rfl rfl hsel0 hselF hcellS hneS hknownS (by rw [hkeep _ (hout' _)]; exact hu0) (by rw [hkeep _ (hout' _)]; exact hsen)
    (Takes.of_laid hk hord tyC (by rw [Y.causeType]; rfl)) (Takes.of_laid hk hord tyS (by rw [Y.stackType]; exact fits_refV_array _ u0)) (Takes.of_laid hk hord tyP (by rw [Y.suppType]; exact fits_refV_object _ sen))
    (Takes.of_laid hk hord tyM (by rw [Y.msgType]; exact fits_refV_object _ ⟨msg, hmsg⟩)) Y.objLocals hskip htr [] hd6
    (by simp only [List.length_cons, hlen]; omega) (by simp only [List.length_cons, hlen]; omega)
  obtain ⟨hwalk, hrun, hended, hWU, hsame⟩ := X₂.athrowLeaves hexec (g := { g with stack := .ref a :: rest, pc := g.pc + 3 }) hg hlocked hentered hout (a := a) (rest := rest) rfl hd9
  have hlt : a < ((T0.setVm vm₁).setVm vm₂).heap.size := (Array.getElem?_eq_some_iff.mp hcell).1
  have hU := heapAt_setCell_self (s := (T0.setVm vm₁).setVm vm₂) (plainBareV T.toThrowableT (freshCell P1.m.cls kX) a u0 sen msg) hlt
  refine ⟨_, st1 _ (fun acts => ?_), hrun, hended, hWU, hsame.weaken (fun y hy hlt' => ?_) (Nat.le_refl _) (Nat.le_refl _), _, hU, hfound, rfl⟩
  · rw [doInvoke_state]
    exact st2 _ hwalk
  · rcases List.mem_append.mp hy with h1 | h1
    · exact h1
    · exfalso
      have hb : y.base = a := by
        simp only [List.mem_cons, List.not_mem_nil, or_false] at h1
        rcases h1 with rfl | rfl | rfl | rfl | rfl <;> rfl
      rw [hb] at hlt'
      exact Nat.not_lt.mpr hnew hlt'
end TxCtor
section TxThrow
variable {p : Program} {l : Launch} {e : Env} {R : Room} {s : State} {m : MethodId} {args : Array Value} {below : List Frame} {meth : Method} {c : Code} {H : Heap} {locs : List Loc} {cells slots : Nat}
variable {Qc : Array Value → State → Outcome → State → Prop} {XC : String → State → State → Prop} {free : Addr → Prop} {ls : Array Slot} {rest : List Value}
set_option maxHeartbeats 4000000 in
theorem tx_throw {cc : ByteArray} {pc w9 : Nat} (hexec : p.tables.exec = Jvm.exec) (hb : c.code = cc) (hl : l.stackTraces = false) {own cls Y0 text : String} {names : List String} {ik is ic ix mc ms sa : Nat} {by1 : ByteArray} {A : Nat → Prop}
    (b0 : decode by1 0 = .ok (.aload_n 0, 1)) (b1 : decode by1 1 = .ok (.aload_n 1, 1)) (b2 : decode by1 2 = .ok (.invokespecial ix, 3)) (b5 : decode by1 5 = .ok (.return_, 1))
    (hown : s.vm.findClass own = some m.cls) (hcls : Bundle.fit cls = true) (hY : Bundle.fit Y0 = true) (hnames : ∀ n ∈ names, Bundle.fit n = true)
    (hk : (Cond.classLink own ik cls).before args s = true) (hini : (Cond.initialized cls).before args s = true) (hstr : vk_R own is text sa s) (hat : ∀ w ∈ (txAtoms own ic cls Y0 ix by1 names).filter vx_no, w.before args s = true)
    (hgood : ∀ w ∈ Cond.classLink own ik cls :: Cond.initialized cls :: (txAtoms own ic cls Y0 ix by1 names).filter vx_no, vx_ot w = true)
    (hU : vx_Zq Bundle.tN "UNASSIGNED_STACK" Bundle.steD A s s.heap) (hN : vx_Zq Bundle.tN "SUPPRESSED_SENTINEL" Bundle.listD A s s.heap) (hS : va_S A s.heap H locs) (hsize : ls.size = c.maxLocals)
    (d0 : decode cc pc = .ok (.new ik, 3)) (d3 : decode cc (pc + 3) = .ok (.dup, 1)) (d4 : (w9 = 6 ∧ decode cc (pc + 4) = .ok (.ldc is, 2)) ∨ (w9 = 7 ∧ decode cc (pc + 4) = .ok (.ldc_w is, 3))) (d6 : decode cc (pc + w9) = .ok (.invokespecial ic, 3)) (d9 : decode cc (pc + w9 + 3) = .ok (.athrow, 1))
    (hout : ∀ x ∈ c.exceptionTable.toList, covers x (pc + w9 + 3) = false)
    (hRframes : names.length + 4 < R.frames) (hRlocals : (rest.map fun v => v.category).sum + (13 * (names.length + 2) + 43) ≤ R.locals) (hRcells : cells + 1 ≤ R.cells) (hRslots : slots + 6 ≤ R.slots) (hlocks : meth.locks = false)
    (hx : ∀ t : State, s.vm.Alike t.vm → H.size ≤ t.heap.size → (∀ q : Nat, q < H.size → t.heap[q]? = H[q]?) → XC cls s t)
    (hf : ∀ z ∈ locs, free z.base) (hc : cells + 1 ≤ mc) (hs : slots + 6 ≤ ms) :
    W p l e R s m args below meth c H locs cells slots (vx_MQ below Qc XC args s mc ms free) (F0 m pc ls rest) := by
  intro T hT X
  have htr : e.platform.stackTraces = false := (show e.platform.stackTraces = l.stackTraces by rw [X.admits.platform]).trans hl
  have Y := vx_rebase X (R' := { frames := R.frames, locals := R.locals, cells := 1, slots := 6 }) (Nat.le_refl _) (Nat.le_refl _) hRcells hRslots
  obtain ⟨s', hA⟩ : ∃ z, z = (T.setVm s.vm).setFrames (.invoking m args :: below) := ⟨_, rfl⟩
  rw [← hA] at Y
  have hvm : s'.vm = s.vm := by rw [hA]; rfl
  have hhp : s'.heap = H := by rw [hA]; exact hT
  have hW0 : s.WarmedH s'.vm := by rw [hvm]; exact State.WarmedH.refl s
  have hat' : ∀ w ∈ (txAtoms own ic cls Y0 ix by1 names).filter vx_no, w.before args s' = true := fun w hw => vx_ot_at hW0 hvm.symm (hgood w (List.mem_cons_of_mem _ (List.mem_cons_of_mem _ hw))) (hat w hw)
  have hk' : (Cond.classLink own ik cls).before args s' = true := vx_ot_at hW0 hvm.symm (hgood _ List.mem_cons_self) hk
  have hini' : (Cond.initialized cls).before args s' = true := vx_ot_at hW0 hvm.symm (hgood _ (List.mem_cons_of_mem _ List.mem_cons_self)) hini
  have hU' : vx_Zq Bundle.tN "UNASSIGNED_STACK" Bundle.steD A s' s'.heap := by rw [hhp]; exact vx_Zq.moved hW0.alike (hU.kept hS.2.1)
  have hN' : vx_Zq Bundle.tN "SUPPRESSED_SENTINEL" Bundle.listD A s' s'.heap := by rw [hhp]; exact vx_Zq.moved hW0.alike (hN.kept hS.2.1)
  have h : ∀ w ∈ txAtoms own ic cls Y0 ix by1 names, w.before args s' = true := vx_own hat' (vx_isRefq hU'.1) (vx_isRefq hN'.1) hU'.2.word hN'.2.word
  have hown' : s'.vm.findClass own = some m.cls := by rw [hvm]; exact hown
  have hins : (Cond.instantiable cls 6).before args s' = true := h _ (by simp [txAtoms])
  obtain ⟨vm₁, cX, kX, hfX, hkX, -, -, X₁, st1⟩ := Y.newCold hexec (own := own) (C := cls) (index := ik) (n := 6) hown' hk' hins hini'
    (g := F0 m pc ls rest) rfl (by rw [hb]; exact d0) (Nat.le_refl _) (Nat.le_refl _)
  generalize hT1 : (T.setVm vm₁).pushCell { cls := cX, slots := kX.instanceTypes.map defaultValue, vm := .none } = T1 at X₁ st1
  have hcat : (Value.ref T.heap.size).category = 1 := rfl
  have hcellA : T1.heap[T.heap.size]? = some (freshCell cX kX) := by rw [← hT1]; exact State.heap_pushCell_size _ _
  have d3' : decode c.code (pc + 3) = .ok (.dup, 1) := by rw [hb]; exact d3
  have hstr' : vk_R own is text sa s' := vk_R.warm hW0 hstr
  obtain ⟨U, hsteps, hrun, hend, hW, hsame, ce, hce, hcl0, hcv⟩ := tx_ctor X₁ hexec htr (own := own) (cls := cls) (Y0 := Y0) (names := names) (ic := ic) b0 b1 b2 b5 hown' hcls hY hnames h (fun x hx => nomatch hx) hfX hkX hcellA (by rw [hhp, hT]; exact Nat.le_refl _) (msg := .ref sa) rfl
    (g := { method := m, pc := pc + w9, locals := ls, stack := .ref sa :: .ref T.heap.size :: .ref T.heap.size :: rest, locked := none }) rfl hsize rfl rfl (rest := rest) rfl
    (by rw [hb]; exact d6) (by rw [hb]; exact d9) hout hRframes (by simp only [List.map_cons, List.sum_cons, hcat, JFrame.monitorRoom]; simp; omega) hlocks
  obtain ⟨f1, f2⟩ := vx_frame hsame
  rw [hhp] at f1 f2
  have hWs : s.WarmedH U.vm := State.WarmedH.trans hW0 hW
  have hcl : s.vm.findClass cls = some ce.cls := by
    rw [hvm] at hcl0
    exact hcl0
  have hall : s.sameButNew ({ U with vm := s.vm } : State) locs mc ms := by
    subst hA
    obtain ⟨e1, e2⟩ := hsame
    rw [State.setFrames_setFrames] at e1
    have h2 : (T.setVm s.vm).sameButNew ({ U with vm := s.vm } : State) [] (0 + 1) (0 + 6) := ⟨e1, e2⟩
    have h3 := X.same.trans h2
    rw [List.append_nil] at h3
    exact h3.mono hc hs
  refine ⟨U, ?_, .threw T.heap.size, hrun, hend, Or.inr ⟨T.heap.size, rfl, cls, ce, locs, hx U hWs.alike f1 (fun q hq => f2 q hq (fun z hz => nomatch hz)), hce, hcv, hcl, hWs, hall, hf⟩⟩
  refine st1 _ ?_
  show Steps p.tables e below (T1.setTop { method := m, pc := pc + 3, locals := ls, stack := .ref T.heap.size :: rest, locked := none }) _
  jvm_step X₁.here [X₁.here.top, hexec, d3', Value.category]
  rcases d4 with ⟨rfl, d4⟩ | ⟨rfl, d4⟩
  · exact X₁.ldcString hexec (own := own) (text := text) (index := is) (a := sa) hown' hstr'.1 hstr'.2
      (g := { method := m, pc := pc + 4, locals := ls, stack := .ref T.heap.size :: .ref T.heap.size :: rest, locked := none }) rfl (by rw [hb]; exact d4) _ hsteps
  · exact X₁.ldcStringW hexec (own := own) (text := text) (index := is) (a := sa) hown' hstr'.1 hstr'.2
      (g := { method := m, pc := pc + 4, locals := ls, stack := .ref T.heap.size :: .ref T.heap.size :: rest, locked := none }) rfl (by rw [hb]; exact d4) _ hsteps
end TxThrow
set_option maxRecDepth 100000 in
theorem thw_I : ∀ w ∈ (txAtoms RX8 icIAE IAE RTE 7 Bundle.six [EXC]).filter vx_no, (goodWord w = true ∧ w ∈ lw_tbl) ∨ w ∈ sxW := by decide +kernel
set_option maxRecDepth 100000 in
theorem thw_N : ∀ w ∈ (txAtoms RX8 icNSE NSE RTE 13 six13 [EXC]).filter vx_no, (goodWord w = true ∧ w ∈ lw_tbl) ∨ w ∈ sxW := by decide +kernel
set_option maxRecDepth 100000 in
theorem tho_I : ∀ w ∈ (txAtoms RX8 icIAE IAE RTE 7 Bundle.six [EXC]).filter vx_no, vx_ot w = true := by decide +kernel
set_option maxRecDepth 100000 in
theorem tho_N : ∀ w ∈ (txAtoms RX8 icNSE NSE RTE 13 six13 [EXC]).filter vx_no, vx_ot w = true := by decide +kernel
theorem XcD_of {G : Gx} {Px : String → Mu → Mu → Prop} {E : String} {γ μ : Mu} {H : Heap} {locs : List Loc} {s t : State} (hp : Px E γ μ) (hP : va_P G.D vwCl (wld G γ μ) H) (hD : va_D G.A (wld G γ μ)) (hM : okM G μ) (hS : va_S G.A s.heap H locs) (h1 : H.size ≤ t.heap.size) (h2 : ∀ q : Nat, q < H.size → t.heap[q]? = H[q]?) : XcD G Px E s t :=
  ⟨γ, μ, hp, hP.kept (fun k x hx => h2 x.1 ((hP k x hx).lt)), hD, hM, Nat.le_trans hS.1 h1, fun q q1 q2 => by rw [h2 q (Nat.lt_of_lt_of_le q1 hS.1)]; exact hS.2.1 q q1 q2⟩
section Throws
variable {X : Mx} {G : Gx} {k k0 pc : Nat} {lv st : List AV} {γ μ : Mu} {cc : ByteArray} {nL : Nat} {own : String} {ret : Option FieldType} {d kk : Nat} {Po : Option AV → Mu → Mu → Prop} {Px : String → Mu → Mu → Prop}
theorem V_throw0 {w9 : Nat} (hC : Cx X G cc nL RX8 ret d kk) (hxt : ∀ x ∈ X.c.exceptionTable.toList, False) {ik is ic i : Nat} {cls tx : String} (hE : (cls = IAE ∧ ic = icIAE) ∨ (cls = NSE ∧ ic = icNSE)) (hs : sxS[i]? = some (RX8, is, tx)) (hk : Cond.classLink RX8 ik cls ∈ TB) (hini : Cond.initialized cls ∈ TB)
    (d0 : decode cc pc = .ok (.new ik, 3)) (d3 : decode cc (pc + 3) = .ok (.dup, 1)) (d4 : (w9 = 6 ∧ decode cc (pc + 4) = .ok (.ldc is, 2)) ∨ (w9 = 7 ∧ decode cc (pc + 4) = .ok (.ldc_w is, 3))) (d6 : decode cc (pc + w9) = .ok (.invokespecial ic, 3)) (d9 : decode cc (pc + w9 + 3) = .ok (.athrow, 1)) (hst : st.length ≤ 4)
    (hk0 : k0 + 1 ≤ k) (hkk : k ≤ kk) (hdd : 6 ≤ d) (hp : Px cls γ μ) : V X G (Qx X G k Po Px) k0 pc lv st γ μ := by
  intro o1 o2 o3 H locs ls hP hD hS hl hz
  obtain ⟨r1, r2, r3, r4⟩ := hC.2.2.2.2.2.2.2
  have hcat := cat_le (G := G) st
  have hSx := hC.2.2.2.2.2.1
  have hkw : vx_ot (Cond.classLink RX8 ik cls) = true := rfl
  have hiw : vx_ot (Cond.initialized cls) = true := rfl
  have hwd : ∀ L : List Cond, (∀ w ∈ L, (goodWord w = true ∧ w ∈ lw_tbl) ∨ w ∈ sxW) → (∀ w ∈ L, vx_ot w = true) → ∀ w ∈ L, w.before X.a X.s = true := fun L hL hO w hw => by
    rcases hL w hw with ⟨q1, q2⟩ | q
    · exact hC.1.2.2.2.2 w (List.mem_filter.mpr ⟨q2, q1⟩)
    · refine va_Nw.use ?_ (hSx.2.2.2.2.2.2.1 w q)
      simp only [sxW, List.mem_cons, List.not_mem_nil, or_false] at q
      rcases q with rfl | rfl | rfl | rfl | rfl <;> rfl
  rcases hE with ⟨rfl, rfl⟩ | ⟨rfl, rfl⟩
  · refine tx_throw (w9 := w9) (names := [EXC]) (Y0 := RTE) (A := G.A) (text := tx) (sa := G.sk i) hC.1.1 hC.1.2.1 hC.2.2.2.2.2.2.1 Bundle.six_0 Bundle.six_1 Bundle.six_2 Bundle.six_5 hC.1.2.2.2.1 (by decide +kernel) (by decide +kernel) (by decide +kernel) (hC.1.2.2.2.2 _ hk) (hC.1.2.2.2.2 _ hini) (hSx.2.2.2.2.1 i _ hs)
      (hwd _ thw_I tho_I) (fun w hw => by
        rcases List.mem_cons.mp hw with rfl | hw
        · exact hkw
        · rcases List.mem_cons.mp hw with rfl | hw
          · exact hiw
          · exact tho_I w hw) hSx.1 hSx.2.1 hS hz d0 d3 d4 d6 d9
      (fun x hx => (hxt x hx).elim) (by show 1 + 4 < _; omega) (by show _ + (13 * (1 + 2) + 43) ≤ _; omega) (by omega) (by omega) hC.2.2.1 (fun t hal h1 h2 => XcD_of hp hP hD o3 hS h1 h2) hS.2.2 hk0 (by omega)
  · refine tx_throw (w9 := w9) (names := [EXC]) (Y0 := RTE) (ix := 13) (by1 := six13) (A := G.A) (text := tx) (sa := G.sk i) hC.1.1 hC.1.2.1 hC.2.2.2.2.2.2.1 (by decide +kernel) (by decide +kernel) (by decide +kernel) (by decide +kernel) hC.1.2.2.2.1 (by decide +kernel) (by decide +kernel) (by decide +kernel) (hC.1.2.2.2.2 _ hk) (hC.1.2.2.2.2 _ hini) (hSx.2.2.2.2.1 i _ hs)
      (hwd _ thw_N tho_N) (fun w hw => by
        rcases List.mem_cons.mp hw with rfl | hw
        · exact hkw
        · rcases List.mem_cons.mp hw with rfl | hw
          · exact hiw
          · exact tho_N w hw) hSx.1 hSx.2.1 hS hz d0 d3 d4 d6 d9
      (fun x hx => (hxt x hx).elim) (by show 1 + 4 < _; omega) (by show _ + (13 * (1 + 2) + 43) ≤ _; omega) (by omega) (by omega) hC.2.2.1 (fun t hal h1 h2 => XcD_of hp hP hD o3 hS h1 h2) hS.2.2 hk0 (by omega)
theorem V_throw (hC : Cx X G cc nL RX8 ret d kk) (hxt : ∀ x ∈ X.c.exceptionTable.toList, False) {ik is ic i : Nat} {cls tx : String} (hE : (cls = IAE ∧ ic = icIAE) ∨ (cls = NSE ∧ ic = icNSE)) (hs : sxS[i]? = some (RX8, is, tx)) (hk : Cond.classLink RX8 ik cls ∈ TB) (hini : Cond.initialized cls ∈ TB)
    (d0 : decode cc pc = .ok (.new ik, 3)) (d3 : decode cc (pc + 3) = .ok (.dup, 1)) (d4 : decode cc (pc + 4) = .ok (.ldc is, 2)) (d6 : decode cc (pc + 6) = .ok (.invokespecial ic, 3)) (d9 : decode cc (pc + 9) = .ok (.athrow, 1)) (hst : st.length ≤ 4)
    (hk0 : k0 + 1 ≤ k) (hkk : k ≤ kk) (hdd : 6 ≤ d) (hp : Px cls γ μ) : V X G (Qx X G k Po Px) k0 pc lv st γ μ := V_throw0 (w9 := 6) hC hxt hE hs hk hini d0 d3 (Or.inl ⟨rfl, d4⟩) d6 d9 hst hk0 hkk hdd hp
theorem V_throwW (hC : Cx X G cc nL RX8 ret d kk) (hxt : ∀ x ∈ X.c.exceptionTable.toList, False) {ik is ic i : Nat} {cls tx : String} (hE : (cls = IAE ∧ ic = icIAE) ∨ (cls = NSE ∧ ic = icNSE)) (hs : sxS[i]? = some (RX8, is, tx)) (hk : Cond.classLink RX8 ik cls ∈ TB) (hini : Cond.initialized cls ∈ TB)
    (d0 : decode cc pc = .ok (.new ik, 3)) (d3 : decode cc (pc + 3) = .ok (.dup, 1)) (d4 : decode cc (pc + 4) = .ok (.ldc_w is, 3)) (d6 : decode cc (pc + 7) = .ok (.invokespecial ic, 3)) (d9 : decode cc (pc + 10) = .ok (.athrow, 1)) (hst : st.length ≤ 4)
    (hk0 : k0 + 1 ≤ k) (hkk : k ≤ kk) (hdd : 6 ≤ d) (hp : Px cls γ μ) : V X G (Qx X G k Po Px) k0 pc lv st γ μ := V_throw0 (w9 := 7) hC hxt hE hs hk hini d0 d3 (Or.inr ⟨rfl, d4⟩) d6 d9 hst hk0 hkk hdd hp
/-- behind a call of a method that may throw: it has returned, or what it has thrown goes on to the caller -/
theorem V_afterX {k' : Nat} {P9 : Option AV → Mu → Mu → Prop} {X9 : String → Mu → Mu → Prop} {H : Heap} {locs : List Loc} {ls : Array Slot} {st0 : List Value} {a : Array Value} (hxt : ∀ x ∈ X.c.exceptionTable.toList, False) (hlk : X.t.locks = false)
    (hrun : vx_Run X.p X.l X.e X.R X.s X.m X.a X.b X.t X.c H locs k0 (6 * k0) k' (6 * k') (F0 X.m pc ls st0) (st.map (conc G)) (QcD G P9 a) (XcD G X9) G.A)
    (o1 : ∀ v ∈ lv, okV v) (o2 : ∀ v ∈ st, okV v) (hS : va_S G.A X.s.heap H locs) (hl : lvOk G ls lv) (hz : ls.size = X.c.maxLocals) (hkk : k0 + k' ≤ k)
    (k1 : ∀ r γ' μ', P9 r γ' μ' → V X G (Qx X G k Po Px) (k0 + k') (pc + 3) lv (r.toList ++ st) γ' μ') (kx : ∀ E γ' μ', X9 E γ' μ' → Px E γ' μ') : W X.p X.l X.e X.R X.s X.m X.a X.b X.t X.c H locs k0 (6 * k0) (Qx X G k Po Px) (F0 X.m pc ls st0) := by
  intro T hT XX
  have e6 : 6 * k0 + 6 * k' = 6 * (k0 + k') := by omega
  rcases hrun T hT XX with ⟨v, s0, t, T', L, e0, X', hL, e1, e2, ⟨⟨r, γ', μ', okr, er, hpo, hP', hD', hM'⟩, hF⟩, hgo⟩ | ⟨q, s0, t, T', L, E, ce, e0, X', hL, e1, e2, ⟨γ', μ', hpx, hP', hD', hM', hF⟩, hce, hcv, hcl, hgo⟩
  · have ev : v = concO G r := by cases er; rfl
    obtain ⟨hf1, hf2⟩ := hF
    rw [e0] at hf1 hf2
    have hS' : va_S G.A X.s.heap T'.heap (locs ++ L) := by
      refine ⟨Nat.le_trans hS.1 (by rw [e1]; exact hf1), fun q h1 h2 => ?_, fun q hq => ?_⟩
      · rw [e1, hf2 q (Nat.lt_of_lt_of_le h1 hS.1) h2]
        exact hS.2.1 q h1 h2
      · rcases List.mem_append.mp hq with h | h
        · exact hS.2.2 q h
        · exact hL q h
    have h := k1 r γ' μ' hpo o1 (fun u hu => by
      rcases List.mem_append.mp hu with h | h
      · cases r with
        | none => cases h
        | some w => rw [List.mem_singleton.mp h]; exact okr
      · exact o2 u h) hM' T'.heap (locs ++ L) ls (by rw [e1]; exact hP') hD' hS' hl hz
    rw [e6] at X'
    obtain ⟨t2, a1, b1⟩ := h T' rfl X'
    refine ⟨t2, hgo t2 ?_, b1⟩
    have e7 : (r.toList ++ st).map (conc G) = v.toList ++ st.map (conc G) := by rw [ev]; cases r <;> rfl
    rw [e7] at a1
    exact a1
  · obtain ⟨hf1, hf2⟩ := hF
    rw [e0] at hf1 hf2
    rw [e6] at X'
    have hW := vx_out (p := X.p) (l := X.l) (e := X.e) (R := X.R) (s := X.s) (m := X.m) (args := X.a) (below := X.b) (meth := X.t) (c := X.c) (H := T'.heap) (locs := locs ++ L) (cells := k0 + k') (slots := 6 * (k0 + k')) (Qc := QcD G Po) (XC := XcD G Px) (free := G.A) (pc := pc) (ls := ls) (rest := st.map (conc G)) (E := E) (ce := ce) (q := q) (mc := k) (ms := 6 * k)
      (fun x hx => (hxt x hx).elim) hlk (by rw [e1]; exact hce) hcv hcl (fun u hu hal => ⟨γ', μ', kx E γ' μ' hpx, by rw [hu, e1]; exact hP', hD', hM', by rw [hu, e1]; exact Nat.le_trans hS.1 hf1, fun q h1 h2 => by rw [hu, e1, hf2 q (Nat.lt_of_lt_of_le h1 hS.1) h2]; exact hS.2.1 q h1 h2⟩) (fun z hz => (List.mem_append.mp hz).elim (hS.2.2 z) (hL z)) hkk (by omega)
    obtain ⟨t2, a1, b1⟩ := hW T' rfl X'
    exact ⟨t2, hgo.trans a1, b1⟩
theorem V_callVx (hC : Cx X G cc nL own ret d kk) (hxt : ∀ x ∈ X.c.exceptionTable.toList, False) {ix n ci N : Nat} {y : MethodName} {cc' : ByteArray} {nL' : Nat} {ret' : Option FieldType} {d' k' : Nat} {as : List AV} {a : Int} {C : String} {T : u_T} {P9 : Option AV → Mu → Mu → Prop} {X9 : String → Mu → Mu → Prop} {st0 : List AV}
    (hc : vwCl[ci]? = some (C, T, N)) (hw : GoodIn TB (wsV own ix C y (wsY y cc' nL' ret'))) (hy : y.cls = C ∧ y.cls ≠ "java/lang/invoke/MethodHandle" ∧ y.cls ≠ "java/lang/invoke/VarHandle" ∧ (parseMethodDescriptor y.desc).map (fun d => d.parameters.length) = some n) (hd : decode cc pc = .ok (.invokevirtual ix, 3)) (hci : ci < 10) (hL : nL' ≤ 40)
    (hs : shO G a ci N) (hn : as.length = n) (hst : st.length ≤ 4) (h0 : st0 = as.reverse ++ aR a :: st) (hdd : d' < d) (hkk : k0 + k' ≤ k) (hk9 : k ≤ kk)
    (hcn : Cnx X.l G y cc' nL' ret' d' k' (aR a :: as) γ μ P9 X9) (k1 : ∀ r γ' μ', P9 r γ' μ' → V X G (Qx X G k Po Px) (k0 + k') (pc + 3) lv (r.toList ++ st) γ' μ') (kx : ∀ E γ' μ', X9 E γ' μ' → Px E γ' μ') : V X G (Qx X G k Po Px) k0 pc lv st0 γ μ := by
  intro o1 o2 o3 H locs ls hP hD hS hl hz
  subst h0
  obtain ⟨g0, g1, g2⟩ := hs
  have hg := wld_get (γ := γ) (μ := μ) g0 g1
  rw [g2, cellE_O hci] at hg
  have oas : ∀ v ∈ aR a :: as, okV v := okc trivial (fun v hv => o2 v (List.mem_append_left _ (List.mem_reverse.mpr hv)))
  have ost : ∀ v ∈ st, okV v := fun v hv => o2 v (List.mem_append_right _ (List.mem_cons_of_mem _ hv))
  have hcat := cat_le (G := G) st
  obtain ⟨r1, r2, r3, r4⟩ := hC.2.2.2.2.2.2.2
  refine V_afterX (k' := k') (P9 := P9) (X9 := X9) (lv := lv) (st := st) (a := (Value.ref (G.ad a) :: as.map (conc G)).toArray) hxt hC.2.2.1 (vx_runV (As := as.map (conc G)) (b := G.ad a) (rest := st.map (conc G)) hC.1 (hcn oas) (cwV n hC.1.2.2.2.2 hw rfl rfl rfl hy ⟨by show d' + 1 ≤ _; omega, by show 8 + (nL' + 11) + 64 * d' ≤ _; omega⟩)
    ⟨Wd_blind, va_recv hC.2.2.2.1 hP hc hg, fun U hU hW => ⟨by rw [List.map_cons, conc_ref g0], Wd_at hC hP hD hS o3 hU hW⟩⟩ rfl (by simpa using hn) (hz.trans hC.1.2.2.1) ?_ (lv_room (by omega)) hd ⟨by show k0 + k' ≤ _; omega, by show 6 * k0 + 6 * k' ≤ _; omega⟩) o1 ost hS hl hz hkk k1 kx
  show (as.reverse ++ aR a :: st).map (conc G) = _
  rw [List.map_append, List.map_reverse, List.map_cons, conc_ref g0]
theorem V_callSx (hC : Cx X G cc nL own ret d kk) (hxt : ∀ x ∈ X.c.exceptionTable.toList, False) {ix n : Nat} {y : MethodName} {cc' : ByteArray} {nL' : Nat} {ret' : Option FieldType} {d' k' : Nat} {as : List AV} {P9 : Option AV → Mu → Mu → Prop} {X9 : String → Mu → Mu → Prop} {st0 : List AV}
    (hw : GoodIn TB (va_wsS own ix y (wsY y cc' nL' ret'))) (hy : y.cls ≠ "java/lang/invoke/MethodHandle" ∧ y.cls ≠ "java/lang/invoke/VarHandle" ∧ (parseMethodDescriptor y.desc).map (fun d => d.parameters.length) = some n) (hd : decode cc pc = .ok (.invokestatic ix, 3)) (hL : nL' ≤ 40)
    (hn : as.length = n) (hst : st.length ≤ 4) (h0 : st0 = as.reverse ++ st) (hdd : d' < d) (hkk : k0 + k' ≤ k) (hk9 : k ≤ kk)
    (hcn : Cnx X.l G y cc' nL' ret' d' k' as γ μ P9 X9) (k1 : ∀ r γ' μ', P9 r γ' μ' → V X G (Qx X G k Po Px) (k0 + k') (pc + 3) lv (r.toList ++ st) γ' μ') (kx : ∀ E γ' μ', X9 E γ' μ' → Px E γ' μ') : V X G (Qx X G k Po Px) k0 pc lv st0 γ μ := by
  intro o1 o2 o3 H locs ls hP hD hS hl hz
  subst h0
  have oas : ∀ v ∈ as, okV v := fun v hv => o2 v (List.mem_append_left _ (List.mem_reverse.mpr hv))
  have ost : ∀ v ∈ st, okV v := fun v hv => o2 v (List.mem_append_right _ hv)
  have hcat := cat_le (G := G) st
  obtain ⟨r1, r2, r3, r4⟩ := hC.2.2.2.2.2.2.2
  refine V_afterX (k' := k') (P9 := P9) (X9 := X9) (lv := lv) (st := st) (a := (as.map (conc G)).toArray) hxt hC.2.2.1 (vx_runS (As := as.map (conc G)) (rest := st.map (conc G)) hC.1 (hcn oas) (va_cwS n hC.1.2.2.2.2 hw rfl rfl rfl hy ⟨by show d' + 1 ≤ _; omega, by show 8 + (nL' + 11) + 64 * d' ≤ _; omega⟩)
    ⟨Wd_blind, fun U hU hW => ⟨rfl, Wd_at hC hP hD hS o3 hU hW⟩⟩ rfl (by simpa using hn) (hz.trans hC.1.2.2.1) ?_ (lv_room (by omega)) hd ⟨by show k0 + k' ≤ _; omega, by show 6 * k0 + 6 * k' ≤ _; omega⟩) o1 ost hS hl hz hkk k1 kx
  show (as.reverse ++ st).map (conc G) = _
  rw [List.map_append, List.map_reverse]
end Throws
