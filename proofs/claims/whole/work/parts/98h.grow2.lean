/-! arrays of arrays, final fields, constructors -/
def innR (γ : Mu) (a : Int) (N : Nat) : Mu := row γ a N (fun i => a + 1 + i)
section Grow2
variable {X : Mx} {G : Gx} {Q : State → Prop} {k pc : Nat} {lv st : List AV} {γ μ : Mu} {cc : ByteArray} {nL : Nat} {own : String} {ret : Option FieldType} {d kk : Nat}
theorem V_mna (hC : Cx X G cc nL own ret d kk) {N L ix : Nat} (j : Nat) {z y : Int} (hov : va_AOA .int X.s) (harr : Cond.arrayClass .int ∈ TB) (hw : Cond.classLink own ix "[[I" ∈ TB) (hd : decode cc pc = .ok (.multianewarray ix 2, 4))
    (hF : Fr G γ μ) (hlv : ∀ v ∈ lv, rfV G.n v) (hst : ∀ v ∈ st, rfV G.n v) (hz9 : z = (L : Int)) (hy9 : y = (N : Int)) (hL : L ≤ 10000 ∧ N ≤ 10000) (hsh : G.sh G.n = (14, N)) (hsi : ∀ i : Nat, i < N → G.sh ((G.n + 1 + i : Nat) : Int) = (11, L)) (hj : 1 + N ≤ j ∧ N + N * L ≤ 6 * j) (hkk : k + j ≤ kk)
    (k1 : ∀ G', Ext G G' (1 + N) → V X G' Q (k + j) (pc + 4) lv (aR G.n :: st) (innR γ G.n N) μ) : V X G Q k pc lv (aI z :: aI y :: st) γ μ := by
  intro o1 o2 o3 H locs ls hP hD hS hl hz
  subst hz9
  subst hy9
  have hiL : iR (L : Int) := by unfold iR; omega
  have hiN : iR (N : Int) := by unfold iR; omega
  obtain ⟨r1, r2, r3, r4⟩ := hC.2.2.2.2.2.2.2
  have hn : ∀ L : Nat, iR (L : Int) → ¬ Int32.ofInt (L : Int) < 0 := fun L hir => by
    rw [show (0 : Int32) = Int32.ofInt 0 from rfl, oI_lt hir (by decide)]
    omega
  have hN : ∀ L : Nat, iR (L : Int) → (Int32.ofInt (L : Int)).toNatClampNeg = L := fun L hir => by rw [oI_cl hir]; omega
  have hcy : X.s.vm.findClass (FieldType.array .int).toString = some (G.cA 11) := (hC.2.2.2.1.2 1 _ rfl).2
  have h0 : wld G γ μ = wld G γ μ ++ va_pl [] (fun _ => .inl (G.cA 11, (0, .inl (fun _ => 0)))) := (List.append_nil _).symm
  refine va_mna (X := wld G γ μ) (L := []) (f := fun _ => .inl (G.cA 11, (0, .inl (fun _ => 0)))) (ty := .int) (z := (L, .inl (fun _ => 0))) hC.1.1 hC.1.2.1 hC.1.2.2.2.1 (hC.1.2.2.2.2 _ hw) hov (hC.1.2.2.2.2 _ harr) hcy hC.2.2.2.1 (h0 ▸ hP) (h0 ▸ hD) hS hC.2.2.2.2.1 (hn N hiN) (hn L hiL) (hN N hiN) (hN L hiL) (by omega) (by show L * 4 ≤ _; omega) (by omega) rfl rfl (by omega) (by omega) (fun c => ?_) hd (fun q r cA H1 hr1 hr2 hK1 hP1 hD1 hS1 => ?_)
  · exact arrV_new c L (.int 0)
  have ecA : cA = G.cA 14 := by
    have h1 : X.s.vm.findClass _ = some cA := (hK1.2 5 (cA, .array .int) rfl).2
    have h2 : X.s.vm.findClass _ = some (G.cA 14) := (hC.2.2.2.1.2 4 _ rfl).2
    exact Option.some.inj (h1.symm.trans h2)
  subst ecA
  have hE : Ext G (gro G (1 + N) (fun i => if i = 0 then q else r (i - 1))) (1 + N) := gro_ext
  generalize hG' : gro G (1 + N) (fun i => if i = 0 then q else r (i - 1)) = G' at hE
  have a0 : G'.ad (G.n : Int) = q := by rw [← hG']; exact gro_ad (i := 0)
  have a1 : ∀ i : Nat, G'.ad ((G.n + 1 + i : Nat) : Int) = r i := fun i => by
    rw [← hG', show G.n + 1 + i = G.n + (1 + i) by omega, gro_ad, if_neg (by omega), show 1 + i - 1 = i by omega]
  have hg : ∀ a j, innR γ G.n N a j < (G'.n : Int) := fun a j => by
    have e := hE.2.2.2.2.2.2.1
    unfold innR row
    split
    · show (G.n : Int) + 1 + j < _
      omega
    · have := hF.1 a j; omega
  have hw1 : wld G' (innR γ G.n N) μ = (wld G γ μ ++ [(q, .inl (G.cA 14, N, .inr (.inr (.inr (.inr (fun i => if i < N then some (r i) else none))))))]) ++ va_pl ([] ++ (List.range N).map r) (vr_up (fun _ => .inl (G.cA 11, (0, .inl (fun _ => 0)))) ((List.range N).map r) (.inl (G.cA 11, (L, .inl (fun _ => 0))))) := by
    unfold wld
    rw [hE.2.2.2.2.2.2.1, show G.n + (1 + N) = G.n + 1 + N by omega, List.range_add, List.range_add, List.map_append, List.map_append, List.map_map, List.map_map, List.nil_append]
    congr 1
    · congr 1
      · refine List.map_congr_left (fun i hi => ?_)
        have hi' : i < G.n := List.mem_range.mp hi
        have e1 : innR γ G.n N i = γ i := funext (fun j => row_off (by omega))
        rw [hE.2.2.2.1, e1, cellE_ext hE (hF.1 i), hE.2.2.2.2.2.2.2 (i : Int) (by omega)]
      · show [(G'.ad ((G.n + 0 : Nat) : Int), cellE G' (G'.sh ((G.n + 0 : Nat) : Int)) (innR γ G.n N ((G.n + 0 : Nat) : Int)) (μ ((G.n + 0 : Nat) : Int)))] = _
        rw [Nat.add_zero, a0, hE.2.2.2.1, hsh]
        unfold cellE
        rw [if_neg (show ¬ (14 : Nat) < 10 by decide), if_neg (show ¬ (14 : Nat) = 12 by decide), if_pos rfl, hE.2.1]
        have e2 : (fun j : Nat => rfo G' (innR γ G.n N G.n j)) = fun i => if i < N then some (r i) else none := funext (fun j => by
          by_cases hj9 : j < N
          · rw [if_pos hj9]
            unfold innR
            rw [row_in (by omega)]
            unfold rfo
            rw [if_neg (by omega), ← a1 j]
            congr 2
          · rw [if_neg hj9]
            unfold innR
            rw [row_out (by omega), (hF.2 (G.n : Int) j (Int.le_refl _)).1]
            rfl)
        rw [e2]
    · unfold va_pl
      rw [List.map_map]
      refine List.map_congr_left (fun i hi => ?_)
      have hi' : i < N := List.mem_range.mp hi
      show (G'.ad ((G.n + 1 + i : Nat) : Int), cellE G' (G'.sh ((G.n + 1 + i : Nat) : Int)) (innR γ G.n N ((G.n + 1 + i : Nat) : Int)) (μ ((G.n + 1 + i : Nat) : Int))) = (r i, _)
      rw [vr_up_in (List.mem_map.mpr ⟨i, hi, rfl⟩), a1, hE.2.2.2.1, hsi i hi']
      have e1 : innR γ G.n N ((G.n + 1 + i : Nat) : Int) = γ ((G.n + 1 + i : Nat) : Int) := funext (fun j => row_off (by omega))
      rw [e1, cell_I (by decide) G' _ _ (fun j => hF.2 _ j (by omega)), hE.2.1]
  refine W.widen (k := k + j) (n := 6 * (k + j)) (by omega) (by omega) ?_
  have h := k1 _ hE o1 (okc trivial (okt (okt o2))) (o3.ext hE) H1 locs ls (by rw [hw1, hE.1]; exact hP1) (by rw [hw1, hE.2.2.1]; exact hD1) (by rw [hE.2.2.1]; exact hS1) (hl.ext hE hlv) hz
  rw [List.map_cons, map_ext hE hst] at h
  have e9 : conc G' (aR G.n) = .ref q := by
    rw [conc_ref (show (0 : Int) ≤ G.n by omega), a0]
  rw [e9] at h
  exact h
theorem innR_Fr {G' : Gx} {N : Nat} (hF : Fr G γ μ) (hE : Ext G G' (1 + N)) : Fr G' (innR γ G.n N) μ := by
  have e := hE.2.2.2.2.2.2.1
  refine ⟨fun a j => ?_, fun a j ha => ?_⟩
  · unfold innR row
    split
    · show (G.n : Int) + 1 + j < _
      omega
    · have := hF.1 a j; omega
  · unfold innR
    rw [row_off (by omega)]
    exact hF.2 a j (by omega)
/-- a final field, in the constructor -/
theorem V_putF (hC : Cx X G cc nL own ret d kk) {ci N ix : Nat} {C : String} {T : u_T} {a r : Int} (hin9 : X.t.name = "<init>") (j : Nat) (ty0 : Nat → FieldType) (hty : ∀ k, k < N → parseFieldDescriptor (T k).2.2.1 = some (ty0 k)) (hnm : ∀ a, a < N → ∀ b, b < N → a ≠ b → (T a).2.1 ≠ (T b).2.1) (hc : vwCl[ci]? = some (C, T, N)) (hin : ∀ w ∈ u_ws C T N, w ∈ TB) (hw : Cond.fieldLink own ix (T j).1 (T j).2.1 (T j).2.2.1 ∈ TB) (hj : j < N) (he : ty0 j = tyF ci j) (ht : isRf (tyF ci j) = true) (hfin : (T j).2.2.2 = true) (hdl : (T j).1 = own) (hci : ci < 10) (hd : decode cc pc = .ok (.putfield ix, 3)) (hs : shO G a ci N)
    (k1 : V X G Q k (pc + 3) lv st (up γ a j r) μ) : V X G Q k pc lv (aR r :: aR a :: st) γ μ := by
  intro o1 o2 o3 H locs ls hP hD hS hl hz9
  obtain ⟨h0, h1, h2⟩ := hs
  have hg := wld_get (γ := γ) (μ := μ) h0 h1
  rw [h2, cellE_O hci] at hg
  show W _ _ _ _ _ _ _ _ _ _ _ _ _ _ _ (F0 X.m pc ls (va_rf (rfo G r) :: conc G (aR a) :: st.map (conc G)))
  rw [conc_ref h0]
  have hn := rf_nar ht (rfo G r)
  refine va_putF hC.1.1 hC.1.2.1 hC.1.2.2.2.2 hin ty0 hty hnm hC.1.2.2.2.1 hC.2.2.2.1 hP hD hS a.toNat hg hc j hj (hC.1.2.2.2.2 _ hw) (fun _ q => q) hfin hin9 hdl (by rw [hty j hj, he]) hn.1 hn.2 (by simpa using hj) hd (fun H1 locs1 hP1 hD1 hS1 => ?_)
  have e : (wld G γ μ).set a.toNat (G.ad a, .inr (ci, ((List.range N).map (fun (i : Nat) => fval G (tyF ci i) (γ a i) (μ a i))).set j (va_rf (rfo G r)))) = wld G (up γ a j r) μ := by
    rw [← wld_set (γ := γ) (γ' := up γ a j r) (μ := μ) (μ' := μ) h0 (fun b hb => up_off hb) (fun _ _ => rfl), h2, cellE_O hci]
    have e2 : va_rf (rfo G r) = fval G (tyF ci j) (up γ a j r a j) (μ a j) := by rw [fval_R ht, up_same]
    rw [e2, fld_set (g := γ a) (g' := up γ a j r a) (z := μ a) (z' := μ a) (fun i hi => ⟨up_ne (fun q => hi q.2), rfl⟩)]
  exact k1 o1 (okt (okt o2)) o3 H1 locs1 ls (e ▸ hP1) (e ▸ hD1) hS1 hl hz9
/-- the constructor of Object -/
theorem V_objInit (hC : Cx X G cc nL own ret d kk) {ix : Nat} {a : Int} (ha : 0 ≤ a) (hw : Cond.methodLink own ix Lib.objectInit ∈ TB) (hi : Cond.instanceMethod Lib.objectInit ∈ TB) (hc : Cond.code Lib.objectInit ⟨#[0xb1]⟩ 1 none ∈ TB) (hd : decode cc pc = .ok (.invokespecial ix, 3)) (hdd : 1 ≤ d) (hst : st.length ≤ 4)
    (k1 : V X G Q k (pc + 3) lv st γ μ) : V X G Q k pc lv (aR a :: st) γ μ := by
  intro o1 o2 o3 H locs ls hP hD hS hl hz
  obtain ⟨r1, r2, r3, r4⟩ := hC.2.2.2.2.2.2.2
  have hcat := cat_le (G := G) st
  refine W.objInit (a := G.ad a) (rest := st.map (conc G)) hC.1.1 hC.1.2.1 hC.1.2.2.2.1 (hC.1.2.2.2.2 _ hw) (hC.1.2.2.2.2 _ hi) (hC.1.2.2.2.2 _ hc) rfl hz (by show List.map (conc G) (aR a :: st) = _; rw [List.map_cons, conc_ref ha]) hd (by omega) (Nat.le_trans (Nat.add_le_add_right (lv_room (by omega)) 12) (by omega)) ?_
  exact k1 o1 (okt o2) o3 H locs ls hP hD hS hl hz
end Grow2
