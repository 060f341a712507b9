/-! worlds that grow: making objects and arrays -/
theorem va_AOA.moved {ty : FieldType} {u U : State} (hvm : u.vm.Alike U.vm) (h : va_AOA ty u) : va_AOA ty U := by
  have e : (Cond.arrayOver (.array ty)).before #[] (u.setVm U.vm) = true := (Cond.arrayOver_setVmC hvm _).trans h
  exact e
/-- N cells more -/
def Ext (G G' : Gx) (N : Nat) : Prop := G'.D = G.D ∧ G'.cA = G.cA ∧ G'.A = G.A ∧ G'.sh = G.sh ∧ G'.sk = G.sk ∧ G'.sv = G.sv ∧ G'.n = G.n + N ∧ ∀ k : Int, k < G.n → G'.ad k = G.ad k
theorem Ext.rf {G : Gx} : Ext G G 0 := ⟨rfl, rfl, rfl, rfl, rfl, rfl, rfl, fun _ _ => rfl⟩
theorem Ext.tr {G G' G2 : Gx} {N M : Nat} (h : Ext G G' N) (h2 : Ext G' G2 M) : Ext G G2 (N + M) := by
  obtain ⟨a1, a2, a3, a4, a5, a6, a7, a8⟩ := h
  obtain ⟨b1, b2, b3, b4, b5, b6, b7, b8⟩ := h2
  exact ⟨b1.trans a1, b2.trans a2, b3.trans a3, b4.trans a4, b5.trans a5, b6.trans a6, by omega, fun k hk => (b8 k (by omega)).trans (a8 k hk)⟩
theorem Cx.ext {X : Mx} {G G' : Gx} {N : Nat} {cc : ByteArray} {nL : Nat} {own : String} {ret : Option FieldType} {d kk : Nat} (h : Ext G G' N) (hC : Cx X G cc nL own ret d kk) : Cx X G' cc nL own ret d kk := by
  obtain ⟨D, cA, A, n, ad, sh, sk, sv⟩ := G
  obtain ⟨D', cA', A', n', ad', sh', sk', sv'⟩ := G'
  obtain ⟨a1, a2, a3, a4, a5, a6, -, -⟩ := h
  have a1 : D' = D := a1
  have a2 : cA' = cA := a2
  have a3 : A' = A := a3
  have a4 : sh' = sh := a4
  have a5 : sk' = sk := a5
  have a6 : sv' = sv := a6
  subst a1; subst a2; subst a3; subst a4; subst a5; subst a6
  obtain ⟨c1, c2, c3, c4, c5, ⟨s1, s2, ⟨s3, s4, s5⟩, s6, s7, s8, s9, s10⟩, c7, c8⟩ := hC
  refine ⟨c1, c2, c3, c4, c5, ⟨s1, s2, ⟨s3, ?_, s5⟩, s6, s7, s8, s9, s10⟩, c7, c8⟩
  unfold sxF at s4 ⊢
  revert s4
  show va_Z _ _ _ (conc _ (if sv' 24 = 0 then _ else _)) _ _ _ → va_Z _ _ _ (conc _ (if sv' 24 = 0 then _ else _)) _ _ _
  split <;> exact fun h => h
theorem okM.ext {G G' : Gx} {N : Nat} {μ : Mu} (h : Ext G G' N) (hM : okM G μ) : okM G' μ := by
  unfold okM
  rw [h.2.2.2.1]
  exact hM
theorem shO.ext {G G' : Gx} {N : Nat} {a : Int} {t n : Nat} (h : Ext G G' N) (hs : shO G a t n) : shO G' a t n := ⟨hs.1, by have := hs.2.1; have := h.2.2.2.2.2.2.1; omega, by rw [h.2.2.2.1]; exact hs.2.2⟩
/-- no reference to a cell that is not there, and nothing in those cells -/
def Fr (G : Gx) (γ μ : Mu) : Prop := (∀ a j, γ a j < (G.n : Int)) ∧ ∀ a j, (G.n : Int) ≤ a → γ a j = -1 ∧ μ a j = 0
theorem Fr.ext {G G' : Gx} {N : Nat} {γ μ : Mu} (h : Ext G G' N) (hF : Fr G γ μ) : Fr G' γ μ := by
  have e := h.2.2.2.2.2.2.1
  exact ⟨fun a j => by have := hF.1 a j; omega, fun a j z => hF.2 a j (by omega)⟩
theorem Fr.upG {G : Gx} {γ μ : Mu} {a i z : Int} (hF : Fr G γ μ) (ha : a < (G.n : Int)) (hz : z < (G.n : Int)) : Fr G (up γ a i z) μ := by
  refine ⟨fun b j => ?_, fun b j hb => ?_⟩
  · unfold up; split
    · exact hz
    · exact hF.1 b j
  · rw [up_ne (by omega)]; exact hF.2 b j hb
theorem Fr.upM {G : Gx} {γ μ : Mu} {a i z : Int} (hF : Fr G γ μ) (ha : a < (G.n : Int)) : Fr G γ (up μ a i z) := by
  refine ⟨hF.1, fun b j hb => ?_⟩
  rw [up_ne (by omega)]; exact hF.2 b j hb
def rfV (n : Nat) : AV → Prop
  | .inr (.inr (.inl r)) => r < n
  | _ => True
theorem rfo_ext {G G' : Gx} {N : Nat} {r : Int} (h : Ext G G' N) (hr : r < (G.n : Int)) : rfo G' r = rfo G r := by
  unfold rfo
  rw [h.2.2.2.2.2.2.2 r hr]
theorem conc_ext {G G' : Gx} {N : Nat} {v : AV} (h : Ext G G' N) (hv : rfV G.n v) : conc G' v = conc G v := by
  match v, hv with
  | .inl _, _ => rfl
  | .inr (.inl _), _ => rfl
  | .inr (.inr (.inl r)), hr => show va_rf (rfo G' r) = va_rf (rfo G r); rw [rfo_ext h hr]
  | .inr (.inr (.inr k)), _ => show Value.ref (G'.sk k.toNat) = Value.ref (G.sk k.toNat); rw [h.2.2.2.2.1]
theorem map_ext {G G' : Gx} {N : Nat} {st : List AV} (h : Ext G G' N) (hv : ∀ v ∈ st, rfV G.n v) : st.map (conc G') = st.map (conc G) := List.map_congr_left (fun v hm => conc_ext h (hv v hm))
theorem lvOk.ext {G G' : Gx} {N : Nat} {ls : Array Slot} {lv : List AV} (h : Ext G G' N) (hv : ∀ v ∈ lv, rfV G.n v) (hl : lvOk G ls lv) : lvOk G' ls lv := ⟨hl.1, hl.2.1, fun i v hi hd => by rw [conc_ext h (hv v (List.mem_of_getElem? hi))]; exact hl.2.2 i v hi hd⟩
theorem fval_ext {G G' : Gx} {N : Nat} {ty : FieldType} {g z : Int} (h : Ext G G' N) (hg : g < (G.n : Int)) : fval G' ty g z = fval G ty g z := by
  unfold fval
  rw [rfo_ext h hg]
theorem cellE_ext {G G' : Gx} {N : Nat} {q : Nat × Nat} {g z : Int → Int} (h : Ext G G' N) (hg : ∀ j, g j < (G.n : Int)) : cellE G' q g z = cellE G q g z := by
  unfold cellE
  rw [h.2.1, show (fun j : Nat => rfo G' (g j)) = (fun j : Nat => rfo G (g j)) from funext (fun j => rfo_ext h (hg j))]
  rw [show (fun j : Nat => fval G' (tyF q.1 j) (g j) (z j)) = (fun j : Nat => fval G (tyF q.1 j) (g j) (z j)) from funext (fun j => fval_ext h (hg j))]
theorem wld_ext {G G' : Gx} {N : Nat} {γ μ : Mu} (h : Ext G G' N) (hg : ∀ a j, γ a j < (G.n : Int)) : wld G' γ μ = wld G γ μ ++ (List.range N).map (fun (i : Nat) => (G'.ad ((G.n + i : Nat) : Int), cellE G' (G.sh ((G.n + i : Nat) : Int)) (γ ((G.n + i : Nat) : Int)) (μ ((G.n + i : Nat) : Int)))) := by
  unfold wld
  rw [h.2.2.2.2.2.2.1, List.range_add, List.map_append, List.map_map]
  congr 1
  · refine List.map_congr_left (fun k hk => ?_)
    have hk' : k < G.n := List.mem_range.mp hk
    rw [h.2.2.2.1, cellE_ext h (hg k), h.2.2.2.2.2.2.2 (k : Int) (by omega)]
  · refine List.map_congr_left (fun k _ => ?_)
    show (G'.ad ((G.n + k : Nat) : Int), cellE G' (G'.sh ((G.n + k : Nat) : Int)) (γ ((G.n + k : Nat) : Int)) (μ ((G.n + k : Nat) : Int))) = _
    rw [h.2.2.2.1]
/-- the world with N cells more, at these addresses -/
def gro (G : Gx) (N : Nat) (f : Nat → Nat) : Gx := (G.D, G.cA, G.A, G.n + N, fun k => if k < (G.n : Int) then G.ad k else f (k.toNat - G.n), G.sh, G.sk, G.sv)
theorem gro_ext {G : Gx} {N : Nat} {f : Nat → Nat} : Ext G (gro G N f) N := ⟨rfl, rfl, rfl, rfl, rfl, rfl, rfl, fun k hk => if_pos hk⟩
theorem gro_ad {G : Gx} {N : Nat} {f : Nat → Nat} {i : Nat} : (gro G N f).ad ((G.n + i : Nat) : Int) = f i := by
  show (if ((G.n + i : Nat) : Int) < (G.n : Int) then _ else f (((G.n + i : Nat) : Int).toNat - G.n)) = f i
  rw [if_neg (by omega)]
  congr 1
  omega
def okTy : FieldType → Bool
  | .float => false
  | .double => false
  | _ => true
theorem fval_0 {G : Gx} {ty : FieldType} (h : okTy ty = true) : fval G ty (-1) 0 = defaultValue ty := by
  cases ty <;> first | rfl | cases h
section Grow
variable {X : Mx} {G : Gx} {Q : State → Prop} {k pc : Nat} {lv st : List AV} {γ μ : Mu} {cc : ByteArray} {nL : Nat} {own : String} {ret : Option FieldType} {d kk : Nat}
theorem V_new (hC : Cx X G cc nL own ret d kk) {ci N ix : Nat} (j : Nat) {C : String} {T : u_T} (ty0 : Nat → FieldType) (hty : ∀ k, k < N → parseFieldDescriptor (T k).2.2.1 = some (ty0 k)) (hc : vwCl[ci]? = some (C, T, N)) (hin : ∀ w ∈ u_ws C T N, w ∈ TB) (he : ∀ k, k < N → ty0 k = tyF ci k ∧ okTy (ty0 k) = true)
    (hw : Cond.classLink own ix C ∈ TB) (hwi : Cond.instantiable C N ∈ TB) (hini : Cond.initialized C ∈ TB) (hd : decode cc pc = .ok (.new ix, 3)) (hci : ci < 10)
    (hF : Fr G γ μ) (hlv : ∀ v ∈ lv, rfV G.n v) (hst : ∀ v ∈ st, rfV G.n v) (hsh : G.sh G.n = (ci, N)) (hj : 1 ≤ j ∧ N ≤ 6 * j) (hkk : k + j ≤ kk)
    (k1 : ∀ G', Ext G G' 1 → V X G' Q (k + j) (pc + 3) lv (aR G.n :: st) γ μ) : V X G Q k pc lv st γ μ := by
  intro o1 o2 o3 H locs ls hP hD hS hl hz
  obtain ⟨r1, r2, r3, r4⟩ := hC.2.2.2.2.2.2.2
  have hfs : ∀ i, i < N → defaultValue (ty0 i) = vp_V ((List.range N).map (fun (i : Nat) => fval G (tyF ci i) (-1) 0)) i := fun i hi => by
    unfold vp_V
    rw [List.getD_eq_getElem?_getD, List.getElem?_map, List.getElem?_range hi]
    show _ = fval G (tyF ci i) (-1) 0
    rw [← (he i hi).1, fval_0 (he i hi).2]
  refine va_new hC.1.1 hC.1.2.1 hC.1.2.2.2.2 hin ty0 hty hC.1.2.2.2.1 (hC.1.2.2.2.2 _ hw) (hC.1.2.2.2.2 _ hwi) (hC.1.2.2.2.2 _ hini) hC.2.2.2.1 hP hD hS hC.2.2.2.2.1 hc hfs (by omega) (by omega) hd (fun q H1 hP1 hD1 hS1 => ?_)
  have hE : Ext G (gro G 1 (fun _ => q)) 1 := gro_ext
  have hw1 : wld (gro G 1 (fun _ => q)) γ μ = wld G γ μ ++ [(q, .inr (ci, (List.range N).map (fun (i : Nat) => fval G (tyF ci i) (-1) 0)))] := by
    rw [wld_ext hE hF.1]
    congr 1
    show [((gro G 1 (fun _ => q)).ad ((G.n + 0 : Nat) : Int), cellE (gro G 1 (fun _ => q)) (G.sh ((G.n + 0 : Nat) : Int)) (γ ((G.n + 0 : Nat) : Int)) (μ ((G.n + 0 : Nat) : Int)))] = _
    rw [gro_ad, cellE_ext hE (hF.1 _)]
    show [(q, cellE G (G.sh (G.n : Int)) (γ (G.n : Int)) (μ (G.n : Int)))] = _
    rw [hsh, cellE_O hci]
    congr 4
    refine List.map_congr_left (fun i _ => ?_)
    obtain ⟨e1, e2⟩ := hF.2 (G.n : Int) (i : Int) (Int.le_refl _)
    rw [e1, e2]
  refine W.widen (k := k + j) (n := 6 * (k + j)) (by omega) (by omega) ?_
  have h := k1 _ hE o1 (okc trivial o2) (o3.ext hE) H1 locs ls (by rw [hw1]; exact hP1) (by rw [hw1]; exact hD1) hS1 (hl.ext hE hlv) hz
  rw [List.map_cons, map_ext hE hst] at h
  have e9 : conc (gro G 1 (fun _ => q)) (aR G.n) = .ref q := by
    rw [conc_ref (show (0 : Int) ≤ G.n by omega)]
    congr 1
    exact gro_ad (i := 0)
  rw [e9] at h
  exact h
theorem V_newX (hC : Cx X G cc nL own ret d kk) {t L : Nat} (j : Nat) {z : Int} {at9 : ArrayType} {ty : FieldType} (a0 : vp_A) (hty : newarray.typeOf at9 = ty) (harr : Cond.arrayClass ty ∈ TB) (hd : decode cc pc = .ok (.newarray at9, 2)) (ha : ∀ cA : ClassId, vp_cell cA a0 = arrV cA L (fun _ => defaultValue ty))
    (hcell : ∀ (G' : Gx) (g m : Int → Int), (∀ j, g j = -1 ∧ m j = 0) → cellE G' (t, L) g m = .inl (G'.cA t, a0)) (ix : Nat) (hix : (gtys G)[ix]? = some (G.cA t, ty)) (hRA : ∀ (U : State) (c : ClassId), va_RA U c ty → U.vm.findClass ("[" ++ ty.toString) = some c)
    (hF : Fr G γ μ) (hlv : ∀ v ∈ lv, rfV G.n v) (hst : ∀ v ∈ st, rfV G.n v) (hz9 : z = (L : Int)) (hL : L ≤ 1000000) (hb9 : componentBytes ty ≤ 8) (hsh : G.sh G.n = (t, L)) (hj : 1 ≤ j ∧ L ≤ 6 * j) (hkk : k + j ≤ kk)
    (k1 : ∀ G', Ext G G' 1 → V X G' Q (k + j) (pc + 2) lv (aR G.n :: st) γ μ) : V X G Q k pc lv (aI z :: st) γ μ := by
  intro o1 o2 o3 H locs ls hP hD hS hl hz
  subst hz9
  have hir : iR (L : Int) := by unfold iR; omega
  obtain ⟨r1, r2, r3, r4⟩ := hC.2.2.2.2.2.2.2
  have hn : ¬ Int32.ofInt (L : Int) < 0 := by
    rw [show (0 : Int32) = Int32.ofInt 0 from rfl, oI_lt hir (by decide)]
    omega
  have hN : (Int32.ofInt (L : Int)).toNatClampNeg = L := by rw [oI_cl hir]; omega
  refine va_newa hC.1.1 hC.1.2.1 (by rw [hty]; exact hC.1.2.2.2.2 _ harr) hty hC.2.2.2.1 hP hD hS hC.2.2.2.2.1 ha hn hN (Nat.le_trans (Nat.mul_le_mul hL hb9) (by decide)) (by omega) (by omega) hd (fun q cA H1 hK1 hP1 hD1 hS1 => ?_)
  have ecA : cA = G.cA t := by
    have h1 := hRA _ _ (hK1.2 5 (cA, ty) rfl).2
    have h2 := hRA _ _ (hC.2.2.2.1.2 ix _ hix).2
    exact Option.some.inj (h1.symm.trans h2)
  subst ecA
  have hE : Ext G (gro G 1 (fun _ => q)) 1 := gro_ext
  have hw1 : wld (gro G 1 (fun _ => q)) γ μ = wld G γ μ ++ [(q, .inl (G.cA t, a0))] := by
    rw [wld_ext hE hF.1]
    congr 1
    show [((gro G 1 (fun _ => q)).ad ((G.n + 0 : Nat) : Int), cellE (gro G 1 (fun _ => q)) (G.sh ((G.n + 0 : Nat) : Int)) (γ ((G.n + 0 : Nat) : Int)) (μ ((G.n + 0 : Nat) : Int)))] = _
    rw [gro_ad, cellE_ext hE (hF.1 _)]
    show [(q, cellE G (G.sh (G.n : Int)) (γ (G.n : Int)) (μ (G.n : Int)))] = _
    rw [hsh, hcell G _ _ (fun j => hF.2 (G.n : Int) j (Int.le_refl _))]
  refine W.widen (k := k + j) (n := 6 * (k + j)) (by omega) (by omega) ?_
  have h := k1 _ hE o1 (okc trivial (okt o2)) (o3.ext hE) H1 locs ls (by rw [hw1]; exact hP1) (by rw [hw1]; exact hD1) hS1 (hl.ext hE hlv) hz
  rw [List.map_cons, map_ext hE hst] at h
  have e9 : conc (gro G 1 (fun _ => q)) (aR G.n) = .ref q := by
    rw [conc_ref (show (0 : Int) ≤ G.n by omega)]
    congr 1
    exact gro_ad (i := 0)
  rw [e9] at h
  exact h
theorem cell_I {t L : Nat} (ht : ¬ t < 10 ∧ t ≠ 12 ∧ t ≠ 14) (G' : Gx) (g m : Int → Int) (h : ∀ j, g j = -1 ∧ m j = 0) : cellE G' (t, L) g m = .inl (G'.cA t, (L, .inl (fun _ => 0))) := by
  unfold cellE
  rw [if_neg ht.1, if_neg ht.2.1, if_neg ht.2.2]
  have e : (fun j : Nat => Int32.ofInt (m j)) = fun _ => 0 := funext (fun j => by rw [(h j).2]; rfl)
  rw [e]
theorem V_newI (hC : Cx X G cc nL own ret d kk) {L : Nat} (j : Nat) {z : Int} (harr : Cond.arrayClass .int ∈ TB) (hd : decode cc pc = .ok (.newarray .int, 2)) (hF : Fr G γ μ) (hlv : ∀ v ∈ lv, rfV G.n v) (hst : ∀ v ∈ st, rfV G.n v) (hz9 : z = (L : Int)) (hL : L ≤ 1000000) (hsh : G.sh G.n = (11, L)) (hj : 1 ≤ j ∧ L ≤ 6 * j) (hkk : k + j ≤ kk)
    (k1 : ∀ G', Ext G G' 1 → V X G' Q (k + j) (pc + 2) lv (aR G.n :: st) γ μ) : V X G Q k pc lv (aI z :: st) γ μ :=
  V_newX hC (at9 := .int) (t := 11) (L := L) j (L, .inl (fun _ => 0)) rfl harr hd (fun _ => rfl) (cell_I (by decide)) 1 rfl (fun _ _ h => h) hF hlv hst hz9 hL (by decide) hsh hj hkk k1
theorem V_newB (hC : Cx X G cc nL own ret d kk) {L : Nat} (j : Nat) {z : Int} (harr : Cond.arrayClass .byte ∈ TB) (hd : decode cc pc = .ok (.newarray .byte, 2)) (hF : Fr G γ μ) (hlv : ∀ v ∈ lv, rfV G.n v) (hst : ∀ v ∈ st, rfV G.n v) (hz9 : z = (L : Int)) (hL : L ≤ 1000000) (hsh : G.sh G.n = (10, L)) (hj : 1 ≤ j ∧ L ≤ 6 * j) (hkk : k + j ≤ kk)
    (k1 : ∀ G', Ext G G' 1 → V X G' Q (k + j) (pc + 2) lv (aR G.n :: st) γ μ) : V X G Q k pc lv (aI z :: st) γ μ :=
  V_newX hC (at9 := .byte) (t := 10) (L := L) j (L, .inl (fun _ => 0)) rfl harr hd (fun _ => rfl) (cell_I (by decide)) 0 rfl (fun _ _ h => h) hF hlv hst hz9 hL (by decide) hsh hj hkk k1
theorem V_newZ (hC : Cx X G cc nL own ret d kk) {L : Nat} (j : Nat) {z : Int} (harr : Cond.arrayClass .boolean ∈ TB) (hd : decode cc pc = .ok (.newarray .boolean, 2)) (hF : Fr G γ μ) (hlv : ∀ v ∈ lv, rfV G.n v) (hst : ∀ v ∈ st, rfV G.n v) (hz9 : z = (L : Int)) (hL : L ≤ 1000000) (hsh : G.sh G.n = (13, L)) (hj : 1 ≤ j ∧ L ≤ 6 * j) (hkk : k + j ≤ kk)
    (k1 : ∀ G', Ext G G' 1 → V X G' Q (k + j) (pc + 2) lv (aR G.n :: st) γ μ) : V X G Q k pc lv (aI z :: st) γ μ :=
  V_newX hC (at9 := .boolean) (t := 13) (L := L) j (L, .inl (fun _ => 0)) rfl harr hd (fun _ => rfl) (cell_I (by decide)) 3 rfl (fun _ _ h => h) hF hlv hst hz9 hL (by decide) hsh hj hkk k1
theorem V_newJ (hC : Cx X G cc nL own ret d kk) {L : Nat} (j : Nat) {z : Int} (harr : Cond.arrayClass .long ∈ TB) (hd : decode cc pc = .ok (.newarray .long, 2)) (hF : Fr G γ μ) (hlv : ∀ v ∈ lv, rfV G.n v) (hst : ∀ v ∈ st, rfV G.n v) (hz9 : z = (L : Int)) (hL : L ≤ 1000000) (hsh : G.sh G.n = (12, L)) (hj : 1 ≤ j ∧ L ≤ 6 * j) (hkk : k + j ≤ kk)
    (k1 : ∀ G', Ext G G' 1 → V X G' Q (k + j) (pc + 2) lv (aR G.n :: st) γ μ) : V X G Q k pc lv (aI z :: st) γ μ :=
  V_newX hC (at9 := .long) (t := 12) (L := L) j (L, .inr (.inl (fun _ => 0))) rfl harr hd (fun _ => rfl) (fun G' g m h => by
    unfold cellE
    rw [if_neg (show ¬ (12 : Nat) < 10 by decide), if_pos rfl]
    have e : (fun j : Nat => Int64.ofInt (m j)) = fun _ => 0 := funext (fun j => by rw [(h j).2]; rfl)
    rw [e]) 2 rfl (fun _ _ h => h) hF hlv hst hz9 hL (by decide) hsh hj hkk k1
end Grow
