/-! the law up to its loop -/
theorem n_117 : Cond.classLink RL 8 RX8 ∈ TB := TB_1 23 (by decide +kernel) rfl
theorem n_118 : Cond.instantiable RX8 20 ∈ TB := TB_1 24 (by decide +kernel) rfl
theorem n_119 : Cond.methodLink RL 76 yX8_init ∈ TB := TB_1 25 (by decide +kernel) rfl
theorem n_120 : Cond.instanceMethod yX8_init ∈ TB := TB_1 26 (by decide +kernel) rfl
theorem n_121 : Cond.code yX8_init cX8_init 1 none ∈ TB := TB_1 27 (by decide +kernel) rfl
theorem n_1278 : Cond.classLink RL 77 RX9 ∈ TB := TB_5 224 (by decide +kernel) rfl
theorem n_1279 : Cond.instantiable RX9 73 ∈ TB := TB_5 225 (by decide +kernel) rfl
theorem n_1280 : Cond.methodLink RL 79 yX9_init ∈ TB := TB_5 226 (by decide +kernel) rfl
theorem n_1281 : Cond.instanceMethod yX9_init ∈ TB := TB_5 227 (by decide +kernel) rfl
theorem n_1282 : Cond.code yX9_init cX9_init 1 none ∈ TB := TB_5 228 (by decide +kernel) rfl
def LL : List (Nat × Nat) := L8 ++ L9 ++ [(12, 1)]
abbrev gam0 : Mu := fun _ _ => -1
abbrev mu0 : Mu := fun _ _ => 0
section LawStart
variable {X : Mx} {G : Gx} {Q : State → Prop} {k pc : Nat} {lv st : List AV} {γ μ : Mu} {cc : ByteArray} {nL : Nat} {own : String} {ret : Option FieldType} {d kk : Nat} {Po : Gx → Option AV → Mu → Mu → Prop}
theorem V_callI (hC : Cx X G cc nL own ret d kk) {ix : Nat} {y : MethodName} {cc' : ByteArray} {nL' : Nat} {d' k' : Nat} {a : Int} {st0 : List AV} (hov : va_AOA .int X.s) (ha : 0 ≤ a)
    (hlk : Cond.methodLink own ix y ∈ TB) (hcd : Cond.code y cc' nL' none ∈ TB) (hin9 : Cond.instanceMethod y ∈ TB) (hini : Cond.initialized y.cls ∈ TB) (hnm : y.name = "<init>") (hy : y.cls ≠ "java/lang/invoke/MethodHandle" ∧ y.cls ≠ "java/lang/invoke/VarHandle" ∧ (parseMethodDescriptor y.desc).map (fun d => d.parameters.length) = some 0) (hd : decode cc pc = .ok (.invokespecial ix, 3)) (hL : nL' ≤ 40)
    (hst : st.length ≤ 4) (h0 : st0 = aR a :: st) (hdd : d' < d) (hkk : k + k' ≤ kk) (hlv : ∀ v ∈ lv, rfV G.n v) (hsr : ∀ v ∈ st, rfV G.n v)
    (hcn : CnG X.l G y cc' nL' d' k' [aR a] γ μ Po) (k1 : ∀ G' N r γ' μ', Ext G G' N → Po G' r γ' μ' → V X G' Q (k + k') (pc + 3) lv (r.toList ++ st) γ' μ') : V X G Q k pc lv st0 γ μ := by
  intro o1 o2 o3 H locs ls hP hD hS hl hz
  subst h0
  have ost : ∀ v ∈ st, okV v := okt o2
  have hcat := cat_le (G := G) st
  obtain ⟨r1, r2, r3, r4⟩ := hC.2.2.2.2.2.2.2
  refine V_afterG (k' := k') (Po := Po) (lv := lv) (st := st) (a := [Value.ref (G.ad a)].toArray) (va_runI (As := []) (b := G.ad a) (rest := st.map (conc G)) hC.1 (hcn (okc trivial okn)) (cwI 0 hC.1.2.2.2.2 (wsY_good hcd) rfl rfl rfl (hC.1.2.2.2.2 _ hini) (hC.1.2.2.2.2 _ hlk) (hC.1.2.2.2.2 _ hin9) hnm hy ⟨by show d' + 1 ≤ _; omega, by show 8 + (nL' + 11) + 64 * d' ≤ _; omega⟩)
    ⟨WdA_blind, fun U hU hW => ⟨by rw [List.map_cons, conc_ref ha]; rfl, WdA_at hC hov hP hD hS o3 hU hW⟩⟩ rfl rfl (hz.trans hC.1.2.2.1) ?_ (lv_room (by omega)) hd ⟨by show k + k' ≤ _; omega, by show 6 * k + 6 * k' ≤ _; omega⟩) o1 ost hS hl hz hlv hsr k1
  show (aR a :: st).map (conc G) = _
  rw [List.map_cons, conc_ref ha]
  rfl
theorem rfd {n : Nat} : rfV n aD := trivial
theorem rfs {n : Nat} : rfV n (aS 52) := trivial
theorem rfr {n : Nat} {z : Int} (h : z < n) : rfV n (aR z) := h
theorem shL.ext {G' : Gx} {N : Nat} {r : Int} {L : List (Nat × Nat)} (hE : Ext G G' N) (h : shL G r L) : shL G' r L := by unfold shL; rw [hE.2.2.2.1]; exact h
theorem mi8_out {a j : Int} (h : 518 ≤ a) : mi8 μ 0 a j = μ a j := by simp (disch := omega) only [mi8, mi0_out, mi1_out, mi2_out, mi3_out, mi4_out, mi6_out, mi7_out]
theorem Lq0 (hn : (G.n : Int) = 559) (hs : shL G 0 LL) : Lq G (gi9 (gi8 gam0 0) 518) (mi9 (mi8 mu0 0) 518) sg0 := by
  have e8 : (L8.length : Int) = 518 := by decide +kernel
  have e9 : (L9.length : Int) = 40 := by decide +kernel
  have el : (LL.length : Int) = 559 := by decide +kernel
  have h8 : shL G 0 L8 := hs.sub (o := 0) (by omega) (by decide +kernel)
  have h9 : shL G 518 L9 := hs.sub (o := 518) (by omega) (by decide +kernel)
  have hA := hall_At (γ := gam0) (γ' := gi9 (gi8 gam0 0) 518) h8 (Int.le_refl _) (by omega) (fun a j z1 z2 => by simp (disch := omega) only [gi9, up_ne])
  obtain ⟨q1, q2⟩ := mod_At (γ := gi8 gam0 0) (γ' := gi9 (gi8 gam0 0) 518) h9 (by decide) (by omega) (fun _ => rfl)
  refine ⟨⟨_, _, hA, repC0 (μ := mu0) (fun _ _ _ _ => rfl) (fun a j z1 z2 => by simp (disch := omega) only [mi9, up_ne])⟩, q1, q2, repR0 (μ := mi8 mu0 0) (fun a j z1 z2 => mi8_out z1) (fun _ _ _ _ => rfl), Wf0, hs.o (Int.le_refl _) (by omega) 558 (by decide +kernel) (by decide +kernel) (by omega)⟩
set_option maxRecDepth 100000 in
set_option maxHeartbeats 4000000 in
theorem law_pro (hC : Cx X G cL_law 7 RL (some .boolean) 1000 kk) (hl : X.l.stackTraces = false) (hov : va_AOA .int X.s) (hn : G.n = 0) (hs : shL G 0 LL) (hkk : 40000 ≤ kk)
    (K : ∀ G' N, Ext G G' N → Cx X G' cL_law 7 RL (some .boolean) 1000 kk → ∀ γ μ, Lq G' γ μ sg0 → V X G' Q 30000 23 [aS 52, aR 0, aR 518, aR 558, aI 0, aD, aD] [] γ μ) : V X G Q 0 0 [aS 52, aD, aD, aD, aD, aD, aD] [] gam0 mu0 := by
  have hd7 : ∀ {n : Nat}, ∀ v ∈ [aS 52, aD, aD, aD, aD, aD, aD], rfV n v := rfc rfs (rfc rfd (rfc rfd (rfc rfd (rfc rfd (rfc rfd (rfc rfd rfn))))))
  have hF0 : Fr G gam0 mu0 := ⟨fun _ _ => by show (-1 : Int) < _; omega, fun _ _ _ => ⟨rfl, rfl⟩⟩
  refine V_new (N := 20) hC 4 tyX8 tyX8_ok (ci := 8) rfl itX8 (by decide) n_117 n_118 m_95 dL_law_0 (by decide) hF0 hd7 rfn (by have h := hs 0 (by decide +kernel); rw [hn]; exact h.trans (by decide +kernel)) (by decide) (by omega) (fun G1 E1 => ?_)
  have n1 : (G1.n : Int) = 0 + 1 := by have := E1.2.2.2.2.2.2.1; omega
  have C1 := hC.ext E1
  have F1 := hF0.ext E1
  have s1 := hs.ext E1
  rw [hn]
  refine V_dup C1 (fun _ q => by cases q) dL_law_3 ?_
  refine V_callI C1 (a := 0) hov (Int.le_refl _) n_119 n_121 n_120 m_95 rfl (by decide) dL_law_4 (by decide) (Nat.le_of_ble_eq_true rfl) rfl (show 3 < 1000 by decide) (by omega) hd7 (rfc (rfr (by omega)) rfn) (i_X8 hl 3 (by decide) n1 F1 (s1.sub (o := 0) (by omega) (by decide +kernel)) (Int.le_refl _)) (fun G2 N2 r2 γ2 μ2 E2 hp2 => ?_)
  obtain ⟨rfl, n2, F2, rfl, rfl⟩ := hp2
  have C2 := C1.ext E2
  have s2 := s1.ext E2
  have n2' : G2.n = 518 := by have e8 : (L8.length : Int) = 518 := by decide +kernel
                              omega
  refine V_astore_n C2 dL_law_7 rfl (Nat.le_of_ble_eq_true rfl) rfl (lv2 := [aS 52, aR 0, aD, aD, aD, aD, aD]) rfl ?_
  have hd2 : ∀ v ∈ [aS 52, aR 0, aD, aD, aD, aD, aD], rfV G2.n v := rfc rfs (rfc (rfr (by omega)) (rfc rfd (rfc rfd (rfc rfd (rfc rfd (rfc rfd rfn))))))
  refine V_new (N := 73) C2 13 tyX9 tyX9_ok (ci := 9) rfl itX9 (by decide) n_1278 n_1279 m_104 dL_law_8 (by decide) F2 hd2 rfn (by have h := s2 518 (by decide +kernel); rw [n2']; exact h.trans (by decide +kernel)) (by decide) (by omega) (fun G3 E3 => ?_)
  have n3 : (G3.n : Int) = 518 + 1 := by have := E3.2.2.2.2.2.2.1; omega
  have C3 := C2.ext E3
  have F3 := F2.ext E3
  have s3 := s2.ext E3
  rw [n2']
  have hd3 : ∀ v ∈ [aS 52, aR 0, aD, aD, aD, aD, aD], rfV G3.n v := rfc rfs (rfc (rfr (by omega)) (rfc rfd (rfc rfd (rfc rfd (rfc rfd (rfc rfd rfn))))))
  refine V_dup C3 (fun _ q => by cases q) dL_law_11 ?_
  refine V_callI C3 (a := 518) hov (by decide) n_1280 n_1282 n_1281 m_104 rfl (by decide) dL_law_12 (by decide) (Nat.le_of_ble_eq_true rfl) rfl (show 3 < 1000 by decide) (by omega) hd3 (rfc (rfr (by omega)) rfn) (i_X9 hl 3 (by decide) n3 F3 (s3.sub (o := 518) (by omega) (by decide +kernel)) (by decide)) (fun G4 N4 r4 γ4 μ4 E4 hp4 => ?_)
  obtain ⟨rfl, n4, F4, rfl, rfl⟩ := hp4
  have C4 := C3.ext E4
  have s4 := s3.ext E4
  have n4' : G4.n = 558 := by have e9 : (L9.length : Int) = 40 := by decide +kernel
                              omega
  refine V_astore_n C4 dL_law_15 rfl (Nat.le_of_ble_eq_true rfl) rfl (lv2 := [aS 52, aR 0, aR 518, aD, aD, aD, aD]) rfl ?_
  have hd4 : ∀ v ∈ [aS 52, aR 0, aR 518, aD, aD, aD, aD], rfV G4.n v := rfc rfs (rfc (rfr (by omega)) (rfc (rfr (by omega)) (rfc rfd (rfc rfd (rfc rfd (rfc rfd rfn))))))
  refine V_iconst C4 dL_law_16 (by decide) ?_
  refine V_newJ (L := 1) C4 1 n_447 dL_law_17 F4 hd4 rfn rfl (by decide) (by have h := s4 558 (by decide +kernel); rw [n4']; exact h.trans (by decide +kernel)) (by decide) (by omega) (fun G5 E5 => ?_)
  have n5 : (G5.n : Int) = 559 := by have := E5.2.2.2.2.2.2.1; omega
  have C5 := C4.ext E5
  rw [n4']
  refine V_astore_n C5 dL_law_19 rfl (Nat.le_of_ble_eq_true rfl) rfl (lv2 := [aS 52, aR 0, aR 518, aR 558, aD, aD, aD]) rfl ?_
  refine V_iconst C5 dL_law_20 (by decide) ?_
  refine V_istore C5 dL_law_21 (Nat.le_of_ble_eq_true rfl) rfl (lv2 := [aS 52, aR 0, aR 518, aR 558, aI 0, aD, aD]) rfl ?_
  exact V_widen (k2 := 30000) (by omega) (K G5 _ ((((E1.tr E2).tr E3).tr E4).tr E5) C5 _ _ (Lq0 n5 (s4.ext E5)))
end LawStart
