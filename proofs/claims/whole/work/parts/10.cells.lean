/-! cells: fields and arrays -/
abbrev shO (G : Gx) (a : Int) (t N : Nat) : Prop := 0 ≤ a ∧ a < G.n ∧ G.sh a = (t, N)
def isN : FieldType → Bool
  | .long => false
  | .object _ => false
  | .array _ => false
  | _ => true
def isRf : FieldType → Bool
  | .object _ => true
  | .array _ => true
  | _ => false
theorem fval_N {G : Gx} {ty : FieldType} {g z : Int} (h : isN ty = true) : fval G ty g z = .int (Int32.ofInt z) := by
  cases ty <;> first | rfl | cases h
theorem fval_R {G : Gx} {ty : FieldType} {g z : Int} (h : isRf ty = true) : fval G ty g z = va_rf (rfo G g) := by
  cases ty <;> first | rfl | cases h
theorem conc_ref {G : Gx} {a : Int} (h : 0 ≤ a) : conc G (aR a) = .ref (G.ad a) := by
  show va_rf (rfo G a) = _
  rw [rfo, if_neg (by omega)]
  rfl
theorem cellE_O {G : Gx} {t N : Nat} {g z : Int → Int} (h : t < 10) : cellE G (t, N) g z = .inr (t, (List.range N).map (fun j => fval G (tyF t j) (g j) (z j))) := by
  rw [cellE, if_pos h]
theorem fld_get {G : Gx} {t N j : Nat} {g z : Int → Int} (h : j < N) : ((List.range N).map (fun (j : Nat) => fval G (tyF t j) (g j) (z j)))[j]? = some (fval G (tyF t j) (g j) (z j)) := by
  rw [List.getElem?_map, List.getElem?_range h]
  rfl
theorem fld_set {G : Gx} {t N j : Nat} {g z g' z' : Int → Int} (h : ∀ i : Int, i ≠ j → g' i = g i ∧ z' i = z i) : ((List.range N).map (fun (i : Nat) => fval G (tyF t i) (g i) (z i))).set j (fval G (tyF t j) (g' j) (z' j)) = (List.range N).map (fun (i : Nat) => fval G (tyF t i) (g' i) (z' i)) := by
  apply List.ext_getElem?
  intro i
  rw [List.getElem?_set]
  by_cases e : j = i
  · subst e
    by_cases hn : j < N
    · rw [if_pos rfl, if_pos (by simpa using hn), fld_get hn]
    · rw [if_pos rfl, if_neg (by simpa using hn)]
      symm
      apply List.getElem?_eq_none
      simp only [List.length_map, List.length_range]
      omega
  · rw [if_neg e, List.getElem?_map, List.getElem?_map]
    by_cases hn : i < N
    · rw [List.getElem?_range hn]
      have h2 := h (i : Int) (by omega)
      simp only [Option.map_some, h2.1, h2.2]
    · rw [List.getElem?_eq_none (by rw [List.length_range]; omega)]
      rfl
theorem okM_up {G : Gx} {μ : Int → Int → Int} {a i z : Int} (h : okM G μ) (h1 : lR z) (h2 : ¬ isLong (G.sh a).1 i → iR z) : okM G (up μ a i z) := fun b j => by
  by_cases e : b = a ∧ j = i
  · obtain ⟨rfl, rfl⟩ := e
    rw [up_same]
    exact ⟨h1, h2⟩
  · rw [up_ne e]
    exact h b j
section Cells
variable {X : Mx} {G : Gx} {Q : State → Prop} {k pc : Nat} {lv st : List AV} {γ μ : Int → Int → Int} {cc : ByteArray} {nL : Nat} {own : String} {ret : Option FieldType} {d kk : Nat}
theorem okM_I {t N : Nat} {a i : Int} (h : okM G μ) (hs : G.sh a = (t, N)) (hn : ¬ isLong t i) : iR (μ a i) := (h a i).2 (by rw [hs]; exact hn)
theorem V_getI (hC : Cx X G cc nL own ret d kk) {ci N ix : Nat} {C : String} {T : u_T} {a : Int} (j : Nat) (hc : vwCl[ci]? = some (C, T, N)) (hin : ∀ w ∈ u_ws C T N, w ∈ TB) (hw : Cond.fieldLink own ix (T j).1 (T j).2.1 (T j).2.2.1 ∈ TB) (hj : j < N) (ht : isN (tyF ci j) = true) (hci : ci < 10 ∧ ¬ (ci = 9 ∧ j = 22)) (hd : decode cc pc = .ok (.getfield ix, 3)) (hs : shO G a ci N)
    (k1 : V X G Q k (pc + 3) lv (aI (μ a j) :: st) γ μ) : V X G Q k pc lv (aR a :: st) γ μ := by
  intro o1 o2 o3 H locs ls hP hD hS hl hz
  obtain ⟨h0, h1, h2⟩ := hs
  have hg := wld_get (γ := γ) (μ := μ) h0 h1
  rw [h2, cellE_O hci.1] at hg
  have h := k1 o1 (okc (okM_I o3 h2 (by rintro (q | q) <;> omega)) (okt o2)) o3 H locs ls hP hD hS hl hz
  show W _ _ _ _ _ _ _ _ _ _ _ _ _ _ _ (F0 X.m pc ls (conc G (aR a) :: st.map (conc G)))
  rw [conc_ref h0]
  exact va_get hC.1.1 hC.1.2.1 hC.1.2.2.2.2 hin hC.1.2.2.2.1 hC.2.2.2.1 hP a.toNat hg hc j hj (hC.1.2.2.2.2 _ hw) (fun _ q => q) (by rw [fld_get hj, fval_N ht]; rfl) hd h
theorem V_getJ (hC : Cx X G cc nL own ret d kk) {ci N ix : Nat} {C : String} {T : u_T} {a : Int} (j : Nat) (hc : vwCl[ci]? = some (C, T, N)) (hin : ∀ w ∈ u_ws C T N, w ∈ TB) (hw : Cond.fieldLink own ix (T j).1 (T j).2.1 (T j).2.2.1 ∈ TB) (hj : j < N) (ht : tyF ci j = .long) (hci : ci < 10) (hd : decode cc pc = .ok (.getfield ix, 3)) (hs : shO G a ci N)
    (k1 : V X G Q k (pc + 3) lv (aL (μ a j) :: st) γ μ) : V X G Q k pc lv (aR a :: st) γ μ := by
  intro o1 o2 o3 H locs ls hP hD hS hl hz
  obtain ⟨h0, h1, h2⟩ := hs
  have hg := wld_get (γ := γ) (μ := μ) h0 h1
  rw [h2, cellE_O hci] at hg
  have h := k1 o1 (okc (o3 a j).1 (okt o2)) o3 H locs ls hP hD hS hl hz
  show W _ _ _ _ _ _ _ _ _ _ _ _ _ _ _ (F0 X.m pc ls (conc G (aR a) :: st.map (conc G)))
  rw [conc_ref h0]
  exact va_get hC.1.1 hC.1.2.1 hC.1.2.2.2.2 hin hC.1.2.2.2.1 hC.2.2.2.1 hP a.toNat hg hc j hj (hC.1.2.2.2.2 _ hw) (fun _ q => q) (by rw [fld_get hj, ht]; rfl) hd h
theorem V_getR (hC : Cx X G cc nL own ret d kk) {ci N ix : Nat} {C : String} {T : u_T} {a : Int} (j : Nat) (hc : vwCl[ci]? = some (C, T, N)) (hin : ∀ w ∈ u_ws C T N, w ∈ TB) (hw : Cond.fieldLink own ix (T j).1 (T j).2.1 (T j).2.2.1 ∈ TB) (hj : j < N) (ht : isRf (tyF ci j) = true) (hci : ci < 10) (hd : decode cc pc = .ok (.getfield ix, 3)) (hs : shO G a ci N)
    (k1 : V X G Q k (pc + 3) lv (aR (γ a j) :: st) γ μ) : V X G Q k pc lv (aR a :: st) γ μ := by
  intro o1 o2 o3 H locs ls hP hD hS hl hz
  obtain ⟨h0, h1, h2⟩ := hs
  have hg := wld_get (γ := γ) (μ := μ) h0 h1
  rw [h2, cellE_O hci] at hg
  have h := k1 o1 (okc trivial (okt o2)) o3 H locs ls hP hD hS hl hz
  show W _ _ _ _ _ _ _ _ _ _ _ _ _ _ _ (F0 X.m pc ls (conc G (aR a) :: st.map (conc G)))
  rw [conc_ref h0]
  exact va_get hC.1.1 hC.1.2.1 hC.1.2.2.2.2 hin hC.1.2.2.2.1 hC.2.2.2.1 hP a.toNat hg hc j hj (hC.1.2.2.2.2 _ hw) (fun _ q => q) (by rw [fld_get hj, fval_R ht]; rfl) hd h
def okP (ty : FieldType) (z : Int) : Prop := match ty with
  | .boolean => 0 ≤ z ∧ z ≤ 1
  | .byte => -128 ≤ z ∧ z < 128
  | .int => True
  | _ => False
theorem okP_nar {ty : FieldType} {z : Int} (h : okP ty z) (hz : iR z) : narrow ty (.int (Int32.ofInt z)) = .int (Int32.ofInt z) ∧ fits ty (.int (Int32.ofInt z)) = true := by
  match ty, h with
  | .boolean, h =>
    have : z = 0 ∨ z = 1 := by have := h.1; have := h.2; omega
    rcases this with rfl | rfl <;> exact ⟨rfl, rfl⟩
  | .byte, h =>
    have e : (Int32.ofInt z).toInt8.toInt32 = Int32.ofInt z := by
      rw [← Int32.toInt_inj, Int8.toInt_toInt32, Int32.toInt_toInt8, oI hz]
      have h1 : (-128 : Int) ≤ z := h.1
      have h2 : z < 128 := h.2
      apply Int.bmod_eq_of_le <;> omega
    have h3 : narrow .byte (.int (Int32.ofInt z)) = .int (Int32.ofInt z) := by
      show Value.int _ = _
      rw [← e]
      exact congrArg Value.int (by rw [e]; exact e)
    refine ⟨h3, ?_⟩
    rw [← e]
    exact pk_fb _
  | .int, h => exact ⟨rfl, rfl⟩
theorem rf_nar {ty : FieldType} (h : isRf ty = true) (o : Option Nat) : narrow ty (va_rf o) = va_rf o ∧ fits ty (va_rf o) = true := match ty, h, o with
  | .object _, _, none => ⟨rfl, rfl⟩
  | .object _, _, some _ => ⟨rfl, rfl⟩
  | .array _, _, none => ⟨rfl, rfl⟩
  | .array _, _, some _ => ⟨rfl, rfl⟩
theorem V_putI (hC : Cx X G cc nL own ret d kk) {ci N ix : Nat} {C : String} {T : u_T} {a z : Int} (j : Nat) (ty0 : Nat → FieldType) (hty : ∀ k, k < N → parseFieldDescriptor (T k).2.2.1 = some (ty0 k)) (hnm : ∀ a, a < N → ∀ b, b < N → a ≠ b → (T a).2.1 ≠ (T b).2.1) (hc : vwCl[ci]? = some (C, T, N)) (hin : ∀ w ∈ u_ws C T N, w ∈ TB) (hw : Cond.fieldLink own ix (T j).1 (T j).2.1 (T j).2.2.1 ∈ TB) (hj : j < N) (he : ty0 j = tyF ci j) (ht : isN (tyF ci j) = true) (hfin : (T j).2.2.2 = false) (hci : ci < 10 ∧ ¬ (ci = 9 ∧ j = 22)) (hd : decode cc pc = .ok (.putfield ix, 3)) (hs : shO G a ci N) (hz : okP (tyF ci j) z)
    (k1 : V X G Q k (pc + 3) lv st γ (up μ a j z)) : V X G Q k pc lv (aI z :: aR a :: st) γ μ := by
  intro o1 o2 o3 H locs ls hP hD hS hl hz9
  obtain ⟨h0, h1, h2⟩ := hs
  have hzr : iR z := okh o2
  have hg := wld_get (γ := γ) (μ := μ) h0 h1
  rw [h2, cellE_O hci.1] at hg
  have hn := okP_nar hz hzr
  show W _ _ _ _ _ _ _ _ _ _ _ _ _ _ _ (F0 X.m pc ls (conc G (aI z) :: conc G (aR a) :: st.map (conc G)))
  rw [conc_ref h0]
  refine va_put hC.1.1 hC.1.2.1 hC.1.2.2.2.2 hin ty0 hty hnm hC.1.2.2.2.1 hC.2.2.2.1 hP hD hS a.toNat hg hc j hj (hC.1.2.2.2.2 _ hw) (fun _ q => q) hfin (by rw [hty j hj, he]) hn.1 hn.2 (by simpa using hj) hd (fun H1 locs1 hP1 hD1 hS1 => ?_)
  have e : (wld G γ μ).set a.toNat (G.ad a, .inr (ci, ((List.range N).map (fun (i : Nat) => fval G (tyF ci i) (γ a i) (μ a i))).set j (.int (Int32.ofInt z)))) = wld G γ (up μ a j z) := by
    rw [← wld_set (γ := γ) (γ' := γ) (μ := μ) (μ' := up μ a j z) h0 (fun _ _ => rfl) (fun b hb => up_off hb), h2, cellE_O hci.1]
    have e2 : (.int (Int32.ofInt z) : Value) = fval G (tyF ci j) (γ a j) (up μ a j z a j) := by rw [fval_N ht, up_same]
    rw [e2, fld_set (g := γ a) (g' := γ a) (z := μ a) (z' := up μ a j z a) (fun i hi => ⟨rfl, up_ne (fun q => hi q.2)⟩)]
  exact k1 o1 (okt (okt o2)) (okM_up o3 (lR_of hzr) (fun _ => hzr)) H1 locs1 ls (e ▸ hP1) (e ▸ hD1) hS1 hl hz9
theorem V_putJ (hC : Cx X G cc nL own ret d kk) {ci N ix : Nat} {C : String} {T : u_T} {a z : Int} (j : Nat) (ty0 : Nat → FieldType) (hty : ∀ k, k < N → parseFieldDescriptor (T k).2.2.1 = some (ty0 k)) (hnm : ∀ a, a < N → ∀ b, b < N → a ≠ b → (T a).2.1 ≠ (T b).2.1) (hc : vwCl[ci]? = some (C, T, N)) (hin : ∀ w ∈ u_ws C T N, w ∈ TB) (hw : Cond.fieldLink own ix (T j).1 (T j).2.1 (T j).2.2.1 ∈ TB) (hj : j < N) (he : ty0 j = tyF ci j) (ht : tyF ci j = .long) (hfin : (T j).2.2.2 = false) (hci : ci = 9 ∧ j = 22) (hd : decode cc pc = .ok (.putfield ix, 3)) (hs : shO G a ci N)
    (k1 : V X G Q k (pc + 3) lv st γ (up μ a j z)) : V X G Q k pc lv (aL z :: aR a :: st) γ μ := by
  intro o1 o2 o3 H locs ls hP hD hS hl hz9
  obtain ⟨h0, h1, h2⟩ := hs
  have hzr : lR z := okh o2
  have hg := wld_get (γ := γ) (μ := μ) h0 h1
  rw [h2, cellE_O (by omega)] at hg
  show W _ _ _ _ _ _ _ _ _ _ _ _ _ _ _ (F0 X.m pc ls (conc G (aL z) :: conc G (aR a) :: st.map (conc G)))
  rw [conc_ref h0]
  refine va_put (ty := .long) (v := .long (Int64.ofInt z)) hC.1.1 hC.1.2.1 hC.1.2.2.2.2 hin ty0 hty hnm hC.1.2.2.2.1 hC.2.2.2.1 hP hD hS a.toNat hg hc j hj (hC.1.2.2.2.2 _ hw) (fun _ q => q) hfin (by rw [hty j hj, he, ht]) rfl rfl (by simpa using hj) hd (fun H1 locs1 hP1 hD1 hS1 => ?_)
  have e : (wld G γ μ).set a.toNat (G.ad a, .inr (ci, ((List.range N).map (fun (i : Nat) => fval G (tyF ci i) (γ a i) (μ a i))).set j (.long (Int64.ofInt z)))) = wld G γ (up μ a j z) := by
    rw [← wld_set (γ := γ) (γ' := γ) (μ := μ) (μ' := up μ a j z) h0 (fun _ _ => rfl) (fun b hb => up_off hb), h2, cellE_O (by omega)]
    have e2 : (.long (Int64.ofInt z) : Value) = fval G (tyF ci j) (γ a j) (up μ a j z a j) := by rw [ht, up_same]; rfl
    rw [e2, fld_set (g := γ a) (g' := γ a) (z := μ a) (z' := up μ a j z a) (fun i hi => ⟨rfl, up_ne (fun q => hi q.2)⟩)]
  exact k1 o1 (okt (okt o2)) (okM_up o3 hzr (fun q => absurd (Or.inr ⟨by rw [h2]; exact hci.1, by omega⟩) q)) H1 locs1 ls (e ▸ hP1) (e ▸ hD1) hS1 hl hz9
theorem V_putR (hC : Cx X G cc nL own ret d kk) {ci N ix : Nat} {C : String} {T : u_T} {a r : Int} (j : Nat) (ty0 : Nat → FieldType) (hty : ∀ k, k < N → parseFieldDescriptor (T k).2.2.1 = some (ty0 k)) (hnm : ∀ a, a < N → ∀ b, b < N → a ≠ b → (T a).2.1 ≠ (T b).2.1) (hc : vwCl[ci]? = some (C, T, N)) (hin : ∀ w ∈ u_ws C T N, w ∈ TB) (hw : Cond.fieldLink own ix (T j).1 (T j).2.1 (T j).2.2.1 ∈ TB) (hj : j < N) (he : ty0 j = tyF ci j) (ht : isRf (tyF ci j) = true) (hfin : (T j).2.2.2 = false) (hci : ci < 10) (hd : decode cc pc = .ok (.putfield ix, 3)) (hs : shO G a ci N)
    (k1 : V X G Q k (pc + 3) lv st (up γ a j r) μ) : V X G Q k pc lv (aR r :: aR a :: st) γ μ := by
  intro o1 o2 o3 H locs ls hP hD hS hl hz9
  obtain ⟨h0, h1, h2⟩ := hs
  have hg := wld_get (γ := γ) (μ := μ) h0 h1
  rw [h2, cellE_O hci] at hg
  show W _ _ _ _ _ _ _ _ _ _ _ _ _ _ _ (F0 X.m pc ls (va_rf (rfo G r) :: conc G (aR a) :: st.map (conc G)))
  rw [conc_ref h0]
  have hn := rf_nar ht (rfo G r)
  refine va_put hC.1.1 hC.1.2.1 hC.1.2.2.2.2 hin ty0 hty hnm hC.1.2.2.2.1 hC.2.2.2.1 hP hD hS a.toNat hg hc j hj (hC.1.2.2.2.2 _ hw) (fun _ q => q) hfin (by rw [hty j hj, he]) hn.1 hn.2 (by simpa using hj) hd (fun H1 locs1 hP1 hD1 hS1 => ?_)
  have e : (wld G γ μ).set a.toNat (G.ad a, .inr (ci, ((List.range N).map (fun (i : Nat) => fval G (tyF ci i) (γ a i) (μ a i))).set j (va_rf (rfo G r)))) = wld G (up γ a j r) μ := by
    rw [← wld_set (γ := γ) (γ' := up γ a j r) (μ := μ) (μ' := μ) h0 (fun b hb => up_off hb) (fun _ _ => rfl), h2, cellE_O hci]
    have e2 : va_rf (rfo G r) = fval G (tyF ci j) (up γ a j r a j) (μ a j) := by rw [fval_R ht, up_same]
    rw [e2, fld_set (g := γ a) (g' := up γ a j r a) (z := μ a) (z' := μ a) (fun i hi => ⟨up_ne (fun q => hi q.2), rfl⟩)]
  exact k1 o1 (okt (okt o2)) o3 H1 locs1 ls (e ▸ hP1) (e ▸ hD1) hS1 hl hz9
end Cells
