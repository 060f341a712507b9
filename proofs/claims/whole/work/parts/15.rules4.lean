theorem sh_ne {G : Gx} {a b : Int} {t u : Nat} (h1 : (G.sh a).1 = t) (h2 : (G.sh b).1 = u) (h : t ≠ u) : a ≠ b := fun e => h (by rw [← h1, ← h2, e])
theorem up_offA {μ : Mu} {a i z b j : Int} (h : b ≠ a) : up μ a i z b j = μ b j := up_ne (fun q => h q.1)
/-- System.arraycopy -/
def cpy (μ : Mu) (s sp t tp n : Int) : Mu := fun b j => if b = t ∧ tp ≤ j ∧ j < tp + n then μ s (sp + (j - tp)) else μ b j
theorem cpy_off {μ : Mu} {s sp t tp n b j : Int} (h : b ≠ t) : cpy μ s sp t tp n b j = μ b j := if_neg (fun q => h q.1)
abbrev cpA (G : Gx) (t : Nat) (s sp b bp n : Int) : Prop := 0 ≤ s ∧ s < G.n ∧ (G.sh s).1 = t ∧ 0 ≤ b ∧ b < G.n ∧ (G.sh b).1 = t ∧ 0 ≤ sp ∧ 0 ≤ bp ∧ 0 ≤ n ∧ sp + n ≤ (G.sh s).2 ∧ bp + n ≤ (G.sh b).2
section Rules4
variable {X : Mx} {G : Gx} {Q : State → Prop} {k pc : Nat} {lv st : List AV} {γ μ : Mu} {cc : ByteArray} {nL : Nat} {own : String} {ret : Option FieldType} {d kk : Nat}
theorem V_eI {x y : Int} (e : x = y) (k1 : V X G Q k pc lv (aI y :: st) γ μ) : V X G Q k pc lv (aI x :: st) γ μ := e ▸ k1
theorem V_eJ {x y : Int} (e : x = y) (k1 : V X G Q k pc lv (aL y :: st) γ μ) : V X G Q k pc lv (aL x :: st) γ μ := e ▸ k1
theorem okM_cpy {s sp t tp n : Int} {g : Nat} (h : okM G μ) (h1 : (G.sh s).1 = g) (h2 : (G.sh t).1 = g) (h3 : g = 11 ∨ g = 13) : okM G (cpy μ s sp t tp n) := fun b j => by
  unfold cpy
  split
  · rename_i q
    have h9 := h s (sp + (j - tp))
    refine ⟨h9.1, fun _ => h9.2 ?_⟩
    rw [h1]
    rintro (w | w) <;> omega
  · exact h b j
theorem V_copy11 (hC : Cx X G cc nL own ret d kk) {ix : Nat} {s sp b bp n : Int} (hw : Cond.methodLink own ix arraycopyName ∈ TB) (hst : (st.map fun _ => 2).sum ≤ 8) (hd : decode cc pc = .ok (.invokestatic ix, 3)) (h : cpA G 11 s sp b bp n) (hdd : 1 ≤ d)
    (k1 : V X G Q k (pc + 3) lv st γ (cpy μ s sp b bp n)) : V X G Q k pc lv (aI n :: aI bp :: aR b :: aI sp :: aR s :: st) γ μ := by
  intro o1 o2 o3 H locs ls hP hD hS hl hz
  obtain ⟨h1, h2, h3, h4, h5, h6, h7, h8, h9, h10, h11⟩ := h
  have hn : iR n := okh o2
  have hbp : iR bp := okh (okt o2)
  have hsp : iR sp := okh (okt (okt (okt o2)))
  have hgs := wld_get (γ := γ) (μ := μ) h1 h2
  have es : G.sh s = (11, (G.sh s).2) := by rw [← h3]
  rw [es, cellE_A (by decide) (by decide) (by decide)] at hgs
  have hgb := wld_get (γ := γ) (μ := μ) h4 h5
  have eb : G.sh b = (11, (G.sh b).2) := by rw [← h6]
  rw [eb, cellE_A (by decide) (by decide) (by decide)] at hgb
  have hcat := cat_le (G := G) st
  have hlen : (st.map fun _ => 2).sum = 2 * st.length := by
    clear hst hcat k1 o2
    induction st with
    | nil => rfl
    | cons a r ih => simp only [List.map_cons, List.sum_cons, List.length_cons, ih]; omega
  obtain ⟨r1, r2, r3, r4⟩ := hC.2.2.2.2.2.2.2
  have hnf : nativeFrameWords "java/lang/System" "arraycopy" 5 ≤ 20 := by decide +kernel
  show W _ _ _ _ _ _ _ _ _ _ _ _ _ _ _ (F0 X.m pc ls (conc G (aI n) :: conc G (aI bp) :: conc G (aR b) :: conc G (aI sp) :: conc G (aR s) :: st.map (conc G)))
  rw [conc_ref h1, conc_ref h4]
  refine va_copyi hC.1.1 hC.1.2.1 hz.symm hC.1.2.2.2.1 (hC.1.2.2.2.2 _ hw) (hC.1.2.2.2.2 _ m_native) (hC.1.2.2.2.2 _ m_acstat) (hC.1.2.2.2.2 _ m_sysini) hC.2.2.2.1 hP hD hS s.toNat b.toNat 1 1 (ty := .int) hgs hgb rfl rfl rfl (fun q => ?_) (fun q => ?_) (fun q => ?_) ?_ ?_ (fun _ _ => rfl) (by omega) (by omega) hd (fun H1 locs1 hP1 hD1 hS1 => ?_)
  · have := (oI_lt hsp iR_0).mp q; omega
  · have := (oI_lt hbp iR_0).mp q; omega
  · have := (oI_lt hn iR_0).mp q; omega
  · rw [oI_cl hsp, oI_cl hn]; omega
  · rw [oI_cl hbp, oI_cl hn]; omega
  · have e : (wld G γ μ).set b.toNat (G.ad b, .inl (G.cA 11, (G.sh b).2, .inl (va_cpy (fun (j : Nat) => Int32.ofInt (μ s j)) (fun (j : Nat) => Int32.ofInt (μ b j)) (Int32.ofInt sp).toNatClampNeg (Int32.ofInt bp).toNatClampNeg (Int32.ofInt n).toNatClampNeg))) = wld G γ (cpy μ s sp b bp n) := by
      rw [← wld_set (γ := γ) (γ' := γ) (μ := μ) (μ' := cpy μ s sp b bp n) h4 (fun _ _ => rfl) (fun c hc => by funext j; exact cpy_off hc), eb, cellE_A (by decide) (by decide) (by decide), oI_cl hsp, oI_cl hbp, oI_cl hn]
      have e2 : va_cpy (fun (j : Nat) => Int32.ofInt (μ s j)) (fun (j : Nat) => Int32.ofInt (μ b j)) sp.toNat bp.toNat n.toNat = fun (j : Nat) => Int32.ofInt (cpy μ s sp b bp n b j) := by
        funext j
        unfold va_cpy cpy
        by_cases q : bp.toNat ≤ j ∧ j < bp.toNat + n.toNat
        · rw [if_pos q, if_pos ⟨rfl, by omega, by omega⟩]
          have e3 : ((sp.toNat + (j - bp.toNat) : Nat) : Int) = sp + ((j : Int) - bp) := by omega
          show Int32.ofInt (μ s ((sp.toNat + (j - bp.toNat) : Nat) : Int)) = _
          rw [e3]
        · rw [if_neg q, if_neg (fun z => q (by omega))]
      rw [e2]
    exact k1 o1 (okt (okt (okt (okt (okt o2))))) (okM_cpy o3 h3 h6 (Or.inl rfl)) H1 locs1 ls (e ▸ hP1) (e ▸ hD1) hS1 hl hz
theorem V_ldcw (hC : Cx X G cc nL own ret d kk) {ix : Nat} {n : Int} (hw : Cond.constant own ix (Int32.ofInt n) ∈ TB) (hd : decode cc pc = .ok (.ldc_w ix, 3)) (hr : iR n) (k1 : V X G Q k (pc + 3) lv (aI n :: st) γ μ) : V X G Q k pc lv st γ μ := by
  intro o1 o2 o3 H locs ls hP hD hS hl hz
  exact lv_ldcw hC.1.1 hC.1.2.1 hC.1.2.2.2.1 (hC.1.2.2.2.2 _ hw) hd (k1 o1 (okc hr o2) o3 H locs ls hP hD hS hl hz)
end Rules4
