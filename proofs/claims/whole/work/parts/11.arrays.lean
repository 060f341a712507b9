/-! arrays -/
theorem cellE_A {G : Gx} {t n : Nat} {g z : Int → Int} (h1 : ¬ t < 10) (h2 : t ≠ 12) (h3 : t ≠ 14) : cellE G (t, n) g z = .inl (G.cA t, n, .inl (fun (j : Nat) => Int32.ofInt (z j))) := by
  rw [cellE, if_neg h1, if_neg h2, if_neg h3]
theorem cellE_J {G : Gx} {n : Nat} {g z : Int → Int} : cellE G (12, n) g z = .inl (G.cA 12, n, .inr (.inl (fun (j : Nat) => Int64.ofInt (z j)))) := rfl
theorem cellE_Q {G : Gx} {n : Nat} {g z : Int → Int} : cellE G (14, n) g z = .inl (G.cA 14, n, .inr (.inr (.inr (.inr (fun (j : Nat) => rfo G (g j)))))) := rfl
theorem arr_up {μ : Int → Int → Int} {a i z : Int} (h0 : 0 ≤ i) : (fun (j : Nat) => Int32.ofInt (up μ a i z a j)) = upd (fun (j : Nat) => Int32.ofInt (μ a j)) i.toNat (Int32.ofInt z) := by
  funext j
  by_cases e : j = i.toNat
  · subst e
    have : ((i.toNat : Nat) : Int) = i := by omega
    rw [this, up_same]
    simp [upd]
  · rw [up_ne (fun q => e (by omega))]
    simp [upd, e]
theorem arr_upL {μ : Int → Int → Int} {a i z : Int} (h0 : 0 ≤ i) : (fun (j : Nat) => Int64.ofInt (up μ a i z a j)) = vp_updL (fun (j : Nat) => Int64.ofInt (μ a j)) i.toNat (Int64.ofInt z) := by
  funext j
  by_cases e : j = i.toNat
  · subst e
    have : ((i.toNat : Nat) : Int) = i := by omega
    rw [this, up_same]
    simp [vp_updL]
  · rw [up_ne (fun q => e (by omega))]
    simp [vp_updL, e]
section Arrays
variable {X : Mx} {G : Gx} {Q : State → Prop} {k pc : Nat} {lv st : List AV} {γ μ : Int → Int → Int} {cc : ByteArray} {nL : Nat} {own : String} {ret : Option FieldType} {d kk : Nat}

theorem V_iald (hC : Cx X G cc nL own ret d kk) {n : Nat} {a i : Int} (hd : decode cc pc = .ok (.iaload, 1)) (hs : shO G a 11 n) (hi : 0 ≤ i ∧ i < n)
    (k1 : V X G Q k (pc + 1) lv (aI (μ a i) :: st) γ μ) : V X G Q k pc lv (aI i :: aR a :: st) γ μ := by
  intro o1 o2 o3 H locs ls hP hD hS hl hz
  obtain ⟨h0, h1, h2⟩ := hs
  have hir : iR i := okh o2
  have hg := wld_get (γ := γ) (μ := μ) h0 h1
  rw [h2, cellE_A (by decide) (by decide) (by decide)] at hg
  have h := k1 o1 (okc (okM_I o3 h2 (by rintro (q | q) <;> omega)) (okt (okt o2))) o3 H locs ls hP hD hS hl hz
  show W _ _ _ _ _ _ _ _ _ _ _ _ _ _ _ (F0 X.m pc ls (conc G (aI i) :: conc G (aR a) :: st.map (conc G)))
  rw [conc_ref h0]
  refine va_iald hC.1.1 hC.1.2.1 hC.2.2.2.1 hP a.toNat 1 hg rfl (oI_in hir hi.1 hi.2) hd ?_
  have e : (((Int32.ofInt i).toNatClampNeg : Nat) : Int) = i := by rw [oI_cl hir]; omega
  simp only [e]
  exact h
theorem V_bald (hC : Cx X G cc nL own ret d kk) {n : Nat} {a i : Int} (hd : decode cc pc = .ok (.baload, 1)) (hs : shO G a 10 n) (hi : 0 ≤ i ∧ i < n)
    (k1 : V X G Q k (pc + 1) lv (aI (μ a i) :: st) γ μ) : V X G Q k pc lv (aI i :: aR a :: st) γ μ := by
  intro o1 o2 o3 H locs ls hP hD hS hl hz
  obtain ⟨h0, h1, h2⟩ := hs
  have hir : iR i := okh o2
  have hg := wld_get (γ := γ) (μ := μ) h0 h1
  rw [h2, cellE_A (by decide) (by decide) (by decide)] at hg
  have h := k1 o1 (okc (okM_I o3 h2 (by rintro (q | q) <;> omega)) (okt (okt o2))) o3 H locs ls hP hD hS hl hz
  show W _ _ _ _ _ _ _ _ _ _ _ _ _ _ _ (F0 X.m pc ls (conc G (aI i) :: conc G (aR a) :: st.map (conc G)))
  rw [conc_ref h0]
  refine va_bald hC.1.1 hC.1.2.1 hC.2.2.2.1 hP a.toNat 0 hg rfl (oI_in hir hi.1 hi.2) hd ?_
  have e : (((Int32.ofInt i).toNatClampNeg : Nat) : Int) = i := by rw [oI_cl hir]; omega
  simp only [e]
  exact h
theorem V_zald (hC : Cx X G cc nL own ret d kk) {n : Nat} {a i : Int} (hd : decode cc pc = .ok (.baload, 1)) (hs : shO G a 13 n) (hi : 0 ≤ i ∧ i < n)
    (k1 : V X G Q k (pc + 1) lv (aI (μ a i) :: st) γ μ) : V X G Q k pc lv (aI i :: aR a :: st) γ μ := by
  intro o1 o2 o3 H locs ls hP hD hS hl hz
  obtain ⟨h0, h1, h2⟩ := hs
  have hir : iR i := okh o2
  have hg := wld_get (γ := γ) (μ := μ) h0 h1
  rw [h2, cellE_A (by decide) (by decide) (by decide)] at hg
  have h := k1 o1 (okc (okM_I o3 h2 (by rintro (q | q) <;> omega)) (okt (okt o2))) o3 H locs ls hP hD hS hl hz
  show W _ _ _ _ _ _ _ _ _ _ _ _ _ _ _ (F0 X.m pc ls (conc G (aI i) :: conc G (aR a) :: st.map (conc G)))
  rw [conc_ref h0]
  refine va_zald hC.1.1 hC.1.2.1 hC.2.2.2.1 hP a.toNat 3 hg rfl (oI_in hir hi.1 hi.2) hd ?_
  have e : (((Int32.ofInt i).toNatClampNeg : Nat) : Int) = i := by rw [oI_cl hir]; omega
  simp only [e]
  exact h
theorem V_lald (hC : Cx X G cc nL own ret d kk) {n : Nat} {a i : Int} (hd : decode cc pc = .ok (.laload, 1)) (hs : shO G a 12 n) (hi : 0 ≤ i ∧ i < n)
    (k1 : V X G Q k (pc + 1) lv (aL (μ a i) :: st) γ μ) : V X G Q k pc lv (aI i :: aR a :: st) γ μ := by
  intro o1 o2 o3 H locs ls hP hD hS hl hz
  obtain ⟨h0, h1, h2⟩ := hs
  have hir : iR i := okh o2
  have hg := wld_get (γ := γ) (μ := μ) h0 h1
  rw [h2, cellE_J] at hg
  have h := k1 o1 (okc (o3 a i).1 (okt (okt o2))) o3 H locs ls hP hD hS hl hz
  show W _ _ _ _ _ _ _ _ _ _ _ _ _ _ _ (F0 X.m pc ls (conc G (aI i) :: conc G (aR a) :: st.map (conc G)))
  rw [conc_ref h0]
  refine va_lald hC.1.1 hC.1.2.1 hC.2.2.2.1 hP a.toNat 2 hg rfl (oI_in hir hi.1 hi.2) hd ?_
  have e : (((Int32.ofInt i).toNatClampNeg : Nat) : Int) = i := by rw [oI_cl hir]; omega
  simp only [e]
  exact h
theorem V_aald (hC : Cx X G cc nL own ret d kk) {n : Nat} {a i : Int} (hd : decode cc pc = .ok (.aaload, 1)) (hs : shO G a 14 n) (hi : 0 ≤ i ∧ i < n)
    (k1 : V X G Q k (pc + 1) lv (aR (γ a i) :: st) γ μ) : V X G Q k pc lv (aI i :: aR a :: st) γ μ := by
  intro o1 o2 o3 H locs ls hP hD hS hl hz
  obtain ⟨h0, h1, h2⟩ := hs
  have hir : iR i := okh o2
  have hg := wld_get (γ := γ) (μ := μ) h0 h1
  rw [h2, cellE_Q] at hg
  have h := k1 o1 (okc trivial (okt (okt o2))) o3 H locs ls hP hD hS hl hz
  show W _ _ _ _ _ _ _ _ _ _ _ _ _ _ _ (F0 X.m pc ls (conc G (aI i) :: conc G (aR a) :: st.map (conc G)))
  rw [conc_ref h0]
  have hin := oI_in hir hi.1 hi.2
  have hlt : (Int32.ofInt i).toNatClampNeg < n := Nat.not_le.mp fun q => hin (Or.inr q)
  have e : (((Int32.ofInt i).toNatClampNeg : Nat) : Int) = i := by rw [oI_cl hir]; omega
  refine W.aald (v := va_rf (rfo G (γ a i))) (ty := .array .int) hC.1.1 hC.1.2.1 (hP a.toNat _ hg) ((hC.2.2.2.1.2 4 _ rfl).1 n (fun j => va_rf (rfo G (γ a j)))) rfl (fun q => by cases q) (by show ¬ (_ < 0 ∨ (arrV _ _ _).slots.size ≤ _); rw [arrV_size]; exact hin) (by show (arrV _ _ _).slots[_]? = _; rw [arrV_read _ _ hlt]; show some (va_rf (rfo G (γ a (((Int32.ofInt i).toNatClampNeg : Nat) : Int)))) = _; rw [e]) rfl rfl hd h

theorem V_iast (hC : Cx X G cc nL own ret d kk) {n : Nat} {a i z : Int} (hd : decode cc pc = .ok (.iastore, 1)) (hs : shO G a 11 n) (hi : 0 ≤ i ∧ i < n) 
    (k1 : V X G Q k (pc + 1) lv st γ (up μ a i z)) : V X G Q k pc lv (aI z :: aI i :: aR a :: st) γ μ := by
  intro o1 o2 o3 H locs ls hP hD hS hl hz9
  obtain ⟨h0, h1, h2⟩ := hs
  have hzr : iR z := okh o2
  have hir : iR i := okh (okt o2)
  have hg := wld_get (γ := γ) (μ := μ) h0 h1
  rw [h2, cellE_A (by decide) (by decide) (by decide)] at hg
  show W _ _ _ _ _ _ _ _ _ _ _ _ _ _ _ (F0 X.m pc ls (conc G (aI z) :: conc G (aI i) :: conc G (aR a) :: st.map (conc G)))
  rw [conc_ref h0]
  refine va_iast hC.1.1 hC.1.2.1 hC.2.2.2.1 hP hD hS a.toNat 1 hg rfl (oI_in hir hi.1 hi.2) hd (fun H1 locs1 hP1 hD1 hS1 => ?_)
  have e : (wld G γ μ).set a.toNat (G.ad a, .inl (G.cA 11, n, .inl (upd (fun (j : Nat) => Int32.ofInt (μ a j)) (Int32.ofInt i).toNatClampNeg (Int32.ofInt z)))) = wld G γ (up μ a i z) := by
    rw [← wld_set (γ := γ) (γ' := γ) (μ := μ) (μ' := up μ a i z) h0 (fun _ _ => rfl) (fun b hb => up_off hb), h2, cellE_A (by decide) (by decide) (by decide), arr_up hi.1, oI_cl hir]
  exact k1 o1 (okt (okt (okt o2))) (okM_up o3 (lR_of hzr) (fun _ => hzr)) H1 locs1 ls (e ▸ hP1) (e ▸ hD1) hS1 hl hz9
theorem V_bast (hC : Cx X G cc nL own ret d kk) {n : Nat} {a i z : Int} (hd : decode cc pc = .ok (.bastore, 1)) (hs : shO G a 10 n) (hi : 0 ≤ i ∧ i < n) (hz : okP .byte z)
    (k1 : V X G Q k (pc + 1) lv st γ (up μ a i z)) : V X G Q k pc lv (aI z :: aI i :: aR a :: st) γ μ := by
  intro o1 o2 o3 H locs ls hP hD hS hl hz9
  obtain ⟨h0, h1, h2⟩ := hs
  have hzr : iR z := okh o2
  have hir : iR i := okh (okt o2)
  have hg := wld_get (γ := γ) (μ := μ) h0 h1
  rw [h2, cellE_A (by decide) (by decide) (by decide)] at hg
  show W _ _ _ _ _ _ _ _ _ _ _ _ _ _ _ (F0 X.m pc ls (conc G (aI z) :: conc G (aI i) :: conc G (aR a) :: st.map (conc G)))
  rw [conc_ref h0]
  refine va_bast hC.1.1 hC.1.2.1 hC.2.2.2.1 hP hD hS a.toNat 0 hg rfl (oI_in hir hi.1 hi.2) hd (fun H1 locs1 hP1 hD1 hS1 => ?_)
  have e : (wld G γ μ).set a.toNat (G.ad a, .inl (G.cA 10, n, .inl (upd (fun (j : Nat) => Int32.ofInt (μ a j)) (Int32.ofInt i).toNatClampNeg (vp_nar .byte (Int32.ofInt z))))) = wld G γ (up μ a i z) := by
    rw [← wld_set (γ := γ) (γ' := γ) (μ := μ) (μ' := up μ a i z) h0 (fun _ _ => rfl) (fun b hb => up_off hb), h2, cellE_A (by decide) (by decide) (by decide), arr_up hi.1, oI_cl hir]
    rw [vp_nar, (okP_nar hz hzr).1]
  exact k1 o1 (okt (okt (okt o2))) (okM_up o3 (lR_of hzr) (fun _ => hzr)) H1 locs1 ls (e ▸ hP1) (e ▸ hD1) hS1 hl hz9
theorem V_zast (hC : Cx X G cc nL own ret d kk) {n : Nat} {a i z : Int} (hd : decode cc pc = .ok (.bastore, 1)) (hs : shO G a 13 n) (hi : 0 ≤ i ∧ i < n) (hz : okP .boolean z)
    (k1 : V X G Q k (pc + 1) lv st γ (up μ a i z)) : V X G Q k pc lv (aI z :: aI i :: aR a :: st) γ μ := by
  intro o1 o2 o3 H locs ls hP hD hS hl hz9
  obtain ⟨h0, h1, h2⟩ := hs
  have hzr : iR z := okh o2
  have hir : iR i := okh (okt o2)
  have hg := wld_get (γ := γ) (μ := μ) h0 h1
  rw [h2, cellE_A (by decide) (by decide) (by decide)] at hg
  show W _ _ _ _ _ _ _ _ _ _ _ _ _ _ _ (F0 X.m pc ls (conc G (aI z) :: conc G (aI i) :: conc G (aR a) :: st.map (conc G)))
  rw [conc_ref h0]
  refine va_zast hC.1.1 hC.1.2.1 hC.2.2.2.1 hP hD hS a.toNat 3 hg rfl (oI_in hir hi.1 hi.2) hd (fun H1 locs1 hP1 hD1 hS1 => ?_)
  have e : (wld G γ μ).set a.toNat (G.ad a, .inl (G.cA 13, n, .inl (upd (fun (j : Nat) => Int32.ofInt (μ a j)) (Int32.ofInt i).toNatClampNeg (vp_nar .boolean (Int32.ofInt z))))) = wld G γ (up μ a i z) := by
    rw [← wld_set (γ := γ) (γ' := γ) (μ := μ) (μ' := up μ a i z) h0 (fun _ _ => rfl) (fun b hb => up_off hb), h2, cellE_A (by decide) (by decide) (by decide), arr_up hi.1, oI_cl hir]
    rw [vp_nar, (okP_nar hz hzr).1]
  exact k1 o1 (okt (okt (okt o2))) (okM_up o3 (lR_of hzr) (fun _ => hzr)) H1 locs1 ls (e ▸ hP1) (e ▸ hD1) hS1 hl hz9
theorem V_last (hC : Cx X G cc nL own ret d kk) {n : Nat} {a i z : Int} (hd : decode cc pc = .ok (.lastore, 1)) (hs : shO G a 12 n) (hi : 0 ≤ i ∧ i < n)
    (k1 : V X G Q k (pc + 1) lv st γ (up μ a i z)) : V X G Q k pc lv (aL z :: aI i :: aR a :: st) γ μ := by
  intro o1 o2 o3 H locs ls hP hD hS hl hz9
  obtain ⟨h0, h1, h2⟩ := hs
  have hzr : lR z := okh o2
  have hir : iR i := okh (okt o2)
  have hg := wld_get (γ := γ) (μ := μ) h0 h1
  rw [h2, cellE_J] at hg
  show W _ _ _ _ _ _ _ _ _ _ _ _ _ _ _ (F0 X.m pc ls (conc G (aL z) :: conc G (aI i) :: conc G (aR a) :: st.map (conc G)))
  rw [conc_ref h0]
  refine va_last hC.1.1 hC.1.2.1 hC.2.2.2.1 hP hD hS a.toNat 2 hg rfl (oI_in hir hi.1 hi.2) hd (fun H1 locs1 hP1 hD1 hS1 => ?_)
  have e : (wld G γ μ).set a.toNat (G.ad a, .inl (G.cA 12, n, .inr (.inl (vp_updL (fun (j : Nat) => Int64.ofInt (μ a j)) (Int32.ofInt i).toNatClampNeg (Int64.ofInt z))))) = wld G γ (up μ a i z) := by
    rw [← wld_set (γ := γ) (γ' := γ) (μ := μ) (μ' := up μ a i z) h0 (fun _ _ => rfl) (fun b hb => up_off hb), h2, cellE_J, arr_upL hi.1, oI_cl hir]
  exact k1 o1 (okt (okt (okt o2))) (okM_up o3 hzr (fun q => absurd (Or.inl (by rw [h2])) q)) H1 locs1 ls (e ▸ hP1) (e ▸ hD1) hS1 hl hz9
theorem V_alen (hC : Cx X G cc nL own ret d kk) {n : Nat} {a : Int} (hd : decode cc pc = .ok (.arraylength, 1)) (hs : shO G a 11 n) (hn : n < 2147483648)
    (k1 : V X G Q k (pc + 1) lv (aI n :: st) γ μ) : V X G Q k pc lv (aR a :: st) γ μ := by
  intro o1 o2 o3 H locs ls hP hD hS hl hz
  obtain ⟨h0, h1, h2⟩ := hs
  have hg := wld_get (γ := γ) (μ := μ) h0 h1
  rw [h2, cellE_A (by decide) (by decide) (by decide)] at hg
  have h := k1 o1 (okc (by constructor <;> omega) (okt o2)) o3 H locs ls hP hD hS hl hz
  show W _ _ _ _ _ _ _ _ _ _ _ _ _ _ _ (F0 X.m pc ls (conc G (aR a) :: st.map (conc G)))
  rw [conc_ref h0]
  exact va_alen hC.1.1 hC.1.2.1 hC.2.2.2.1 hP a.toNat 1 hg rfl (by simp [Int32.ofInt_eq_ofNat]) hd h
/-- the three tables of steps -/
theorem V_gets (hC : Cx X G cc nL own ret d kk) {ix j : Nat} {q : String × List Int} (hq : sxT[j]? = some q) (hw : Cond.fieldLink own ix "LampHall$Wiring" q.1 "[I" ∈ TB) (hd : decode cc pc = .ok (.getstatic ix, 3))
    (k1 : V X G Q k (pc + 3) lv (aS (24 + (j : Int)) :: st) γ μ) : V X G Q k pc lv st γ μ := by
  intro o1 o2 o3 H locs ls hP hD hS hl hz
  have h := k1 o1 (okc trivial o2) o3 H locs ls hP hD hS hl hz
  have e : conc G (aS (24 + (j : Int))) = .ref (G.sk (24 + j)) := by
    show Value.ref (G.sk (24 + (j : Int)).toNat) = _
    have e2 : (24 + (j : Int)).toNat = 24 + j := by omega
    rw [e2]
  have h3 : W X.p X.l X.e X.R X.s X.m X.a X.b X.t X.c H locs k (6 * k) Q (F0 X.m (pc + 3) ls (.ref (G.sk (24 + j)) :: st.map (conc G))) := by
    rw [← e]
    exact h
  exact va_gets hC.1.1 hC.1.2.1 (hC.2.2.2.2.2.1.2.2.2.2.2.2.2 j q hq).1 hS hC.1.2.2.2.1 (hC.1.2.2.2.2 _ hw) (fun _ z => z) hd h3
theorem V_sald (hC : Cx X G cc nL own ret d kk) {j : Nat} {q : String × List Int} {i : Int} (hq : sxT[j]? = some q) (hd : decode cc pc = .ok (.iaload, 1)) (hi : 0 ≤ i ∧ i < q.2.length) (hr : iR (q.2.getD i.toNat 0))
    (k1 : V X G Q k (pc + 1) lv (aI (q.2.getD i.toNat 0) :: st) γ μ) : V X G Q k pc lv (aI i :: aS (24 + (j : Int)) :: st) γ μ := by
  intro o1 o2 o3 H locs ls hP hD hS hl hz
  have hir : iR i := okh o2
  have h := k1 o1 (okc hr (okt (okt o2))) o3 H locs ls hP hD hS hl hz
  have e : conc G (aS (24 + (j : Int))) = .ref (G.sk (24 + j)) := by
    show Value.ref (G.sk (24 + (j : Int)).toNat) = _
    have e2 : (24 + (j : Int)).toNat = 24 + j := by omega
    rw [e2]
  show W _ _ _ _ _ _ _ _ _ _ _ _ _ _ _ (F0 X.m pc ls (conc G (aI i) :: conc G (aS (24 + (j : Int))) :: st.map (conc G)))
  rw [e]
  exact va_ti hC.1.1 hC.1.2.1 (hC.2.2.2.2.2.1.2.2.2.2.2.2.2 j q hq).2 hS (oI_in hir hi.1 hi.2) (by show Value.int (Int32.ofInt (q.2.getD (Int32.ofInt i).toNatClampNeg 0)) = _; rw [oI_cl hir]; rfl) hd h
theorem V_slen (hC : Cx X G cc nL own ret d kk) {j : Nat} {q : String × List Int} (hq : sxT[j]? = some q) (hd : decode cc pc = .ok (.arraylength, 1)) (hr : iR q.2.length)
    (k1 : V X G Q k (pc + 1) lv (aI q.2.length :: st) γ μ) : V X G Q k pc lv (aS (24 + (j : Int)) :: st) γ μ := by
  intro o1 o2 o3 H locs ls hP hD hS hl hz
  have h := k1 o1 (okc hr (okt o2)) o3 H locs ls hP hD hS hl hz
  have e : conc G (aS (24 + (j : Int))) = .ref (G.sk (24 + j)) := by
    show Value.ref (G.sk (24 + (j : Int)).toNat) = _
    have e2 : (24 + (j : Int)).toNat = 24 + j := by omega
    rw [e2]
  show W _ _ _ _ _ _ _ _ _ _ _ _ _ _ _ (F0 X.m pc ls (conc G (aS (24 + (j : Int))) :: st.map (conc G)))
  rw [e]
  exact va_tlen hC.1.1 hC.1.2.1 (hC.2.2.2.2.2.1.2.2.2.2.2.2.2 j q hq).2 hS (by simp [Int32.ofInt_eq_ofNat]) hd h
end Arrays
