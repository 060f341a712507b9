/-! rules in the form that the block writer uses -/
abbrev ixA (G : Gx) (t : Nat) (a i : Int) : Prop := 0 ≤ a ∧ a < G.n ∧ (G.sh a).1 = t ∧ 0 ≤ i ∧ i < (G.sh a).2
abbrev lnA (G : Gx) (t : Nat) (a : Int) : Prop := 0 ≤ a ∧ a < G.n ∧ (G.sh a).1 = t ∧ (G.sh a).2 < 2147483648
theorem ixA.sh {G : Gx} {t : Nat} {a i : Int} (h : ixA G t a i) : shO G a t (G.sh a).2 := ⟨h.1, h.2.1, by rw [← h.2.2.1]⟩
theorem ixA.in {G : Gx} {t : Nat} {a i : Int} (h : ixA G t a i) : 0 ≤ i ∧ i < (G.sh a).2 := h.2.2.2
theorem gV {own C : String} {ix nL : Nat} {y : MethodName} {cc : ByteArray} {ret : Option FieldType} (h1 : Cond.methodLink own ix y ∈ TB) (h2 : Cond.instanceMethod y ∈ TB) (h3 : Cond.selects C y y ∈ TB) (h4 : Cond.initialized C ∈ TB) (h5 : Cond.code y cc nL ret ∈ TB) : GoodIn TB (wsV own ix C y (wsY y cc nL ret)) := by
  intro w hw
  unfold wsV at hw
  rcases List.mem_append.mp hw with h | h
  · have : w ∈ TB := by
      simp only [List.mem_cons, List.not_mem_nil, or_false] at h
      rcases h with rfl | rfl | rfl | rfl <;> assumption
    exact ⟨this, TB_good this⟩
  · exact wsY_good h5 w h
theorem gS {own : String} {ix nL : Nat} {y : MethodName} {cc : ByteArray} {ret : Option FieldType} (h1 : Cond.methodLink own ix y ∈ TB) (h2 : Cond.static y ∈ TB) (h4 : Cond.initialized y.cls ∈ TB) (h5 : Cond.code y cc nL ret ∈ TB) : GoodIn TB (va_wsS own ix y (wsY y cc nL ret)) := by
  intro w hw
  unfold va_wsS at hw
  rcases List.mem_append.mp hw with h | h
  · have : w ∈ TB := by
      simp only [List.mem_cons, List.not_mem_nil, or_false] at h
      rcases h with rfl | rfl | rfl <;> assumption
    exact ⟨this, TB_good this⟩
  · exact wsY_good h5 w h
section Rules3
variable {X : Mx} {G : Gx} {Q : State → Prop} {k pc : Nat} {lv st : List AV} {γ μ : Mu} {cc : ByteArray} {nL : Nat} {own : String} {ret : Option FieldType} {d kk : Nat}
theorem V_dead {i : Nat} {lv2 : List AV} (h2 : lv.set i aD = lv2) (k1 : V X G Q k pc lv2 st γ μ) : V X G Q k pc lv st γ μ := by
  subst h2
  intro o1 o2 o3 H locs ls hP hD hS hl hz
  refine k1 (oks o1 trivial) o2 o3 H locs ls hP hD hS ⟨hl.1, by rw [List.length_set]; exact hl.2.1, fun j v hj hd => ?_⟩ hz
  rw [List.getElem?_set] at hj
  by_cases e : i = j
  · subst e
    rw [if_pos rfl] at hj
    split at hj
    · cases hj; cases hd
    · cases hj
  · rw [if_neg e] at hj
    exact hl.2.2 j v hj hd
theorem V_tdef (hC : Cx X G cc nL own ret d kk) {dflt lo hi a : Int} {offs : Array Int} {len tgt : Nat} (hd : decode cc pc = .ok (.tableswitch dflt lo hi offs, len)) (ha : a < lo ∨ hi < a) (ht : (pc : Int) + dflt = (tgt : Int)) (k1 : V X G Q k tgt lv st γ μ) : V X G Q k pc lv (aI a :: st) γ μ := by
  intro o1 o2 o3 H locs ls hP hD hS hl hz
  exact lv_tableOut hC.1.1 hC.1.2.1 hd (by rw [oI (okh o2)]; exact ha) ht (k1 o1 (okt o2) o3 H locs ls hP hD hS hl hz)
theorem V_tcase (hC : Cx X G cc nL own ret d kk) {dflt lo hi a off : Int} (c : Int) {offs : Array Int} {len tgt : Nat} (hd : decode cc pc = .ok (.tableswitch dflt lo hi offs, len)) (ha : a = c) (hc : lo ≤ c ∧ c ≤ hi) (ho : offs[(c - lo).toNat]? = some off) (ht : (pc : Int) + off = (tgt : Int)) (k1 : V X G Q k tgt lv st γ μ) : V X G Q k pc lv (aI a :: st) γ μ := by
  intro o1 o2 o3 H locs ls hP hD hS hl hz
  subst ha
  have e := oI (z := a) (okh o2)
  exact lv_tableIn hC.1.1 hC.1.2.1 hd (by rw [e]; omega) (by rw [e]; omega) (by rw [e]; exact ho) ht (k1 o1 (okt o2) o3 H locs ls hP hD hS hl hz)
theorem U_iald (hC : Cx X G cc nL own ret d kk) {a i : Int} (hd : decode cc pc = .ok (.iaload, 1)) (h : ixA G 11 a i) (k1 : V X G Q k (pc + 1) lv (aI (μ a i) :: st) γ μ) : V X G Q k pc lv (aI i :: aR a :: st) γ μ := V_iald hC hd h.sh h.in k1
theorem U_bald (hC : Cx X G cc nL own ret d kk) {a i : Int} (hd : decode cc pc = .ok (.baload, 1)) (h : ixA G 10 a i) (k1 : V X G Q k (pc + 1) lv (aI (μ a i) :: st) γ μ) : V X G Q k pc lv (aI i :: aR a :: st) γ μ := V_bald hC hd h.sh h.in k1
theorem U_zald (hC : Cx X G cc nL own ret d kk) {a i : Int} (hd : decode cc pc = .ok (.baload, 1)) (h : ixA G 13 a i) (k1 : V X G Q k (pc + 1) lv (aI (μ a i) :: st) γ μ) : V X G Q k pc lv (aI i :: aR a :: st) γ μ := V_zald hC hd h.sh h.in k1
theorem U_lald (hC : Cx X G cc nL own ret d kk) {a i : Int} (hd : decode cc pc = .ok (.laload, 1)) (h : ixA G 12 a i) (k1 : V X G Q k (pc + 1) lv (aL (μ a i) :: st) γ μ) : V X G Q k pc lv (aI i :: aR a :: st) γ μ := V_lald hC hd h.sh h.in k1
theorem U_aald (hC : Cx X G cc nL own ret d kk) {a i : Int} (hd : decode cc pc = .ok (.aaload, 1)) (h : ixA G 14 a i) (k1 : V X G Q k (pc + 1) lv (aR (γ a i) :: st) γ μ) : V X G Q k pc lv (aI i :: aR a :: st) γ μ := V_aald hC hd h.sh h.in k1
theorem U_iast (hC : Cx X G cc nL own ret d kk) {a i z : Int} (hd : decode cc pc = .ok (.iastore, 1)) (h : ixA G 11 a i) (k1 : V X G Q k (pc + 1) lv st γ (up μ a i z)) : V X G Q k pc lv (aI z :: aI i :: aR a :: st) γ μ := V_iast hC hd h.sh h.in k1
theorem U_bast (hC : Cx X G cc nL own ret d kk) {a i z : Int} (hd : decode cc pc = .ok (.bastore, 1)) (h : ixA G 10 a i) (hz : okP .byte z) (k1 : V X G Q k (pc + 1) lv st γ (up μ a i z)) : V X G Q k pc lv (aI z :: aI i :: aR a :: st) γ μ := V_bast hC hd h.sh h.in hz k1
theorem U_zast (hC : Cx X G cc nL own ret d kk) {a i z : Int} (hd : decode cc pc = .ok (.bastore, 1)) (h : ixA G 13 a i) (hz : okP .boolean z) (k1 : V X G Q k (pc + 1) lv st γ (up μ a i z)) : V X G Q k pc lv (aI z :: aI i :: aR a :: st) γ μ := V_zast hC hd h.sh h.in hz k1
theorem U_last (hC : Cx X G cc nL own ret d kk) {a i z : Int} (hd : decode cc pc = .ok (.lastore, 1)) (h : ixA G 12 a i) (k1 : V X G Q k (pc + 1) lv st γ (up μ a i z)) : V X G Q k pc lv (aL z :: aI i :: aR a :: st) γ μ := V_last hC hd h.sh h.in k1
theorem U_alen (hC : Cx X G cc nL own ret d kk) {a : Int} (hd : decode cc pc = .ok (.arraylength, 1)) (h : lnA G 11 a) (k1 : V X G Q k (pc + 1) lv (aI ((G.sh a).2 : Int) :: st) γ μ) : V X G Q k pc lv (aR a :: st) γ μ := V_alen hC hd ⟨h.1, h.2.1, by rw [← h.2.2.1]⟩ h.2.2.2 k1
end Rules3
theorem TB_tab {w : Cond} (h : w ∈ tables_1) (g : goodWord w = true) : w ∈ TB := List.mem_filter.mpr ⟨List.mem_append_right _ h, g⟩
theorem TB_1 (i : Nat) {w : Cond} (h : tables_1_1[i]? = some w) (g : goodWord w = true) : w ∈ TB := TB_tab (List.mem_append_left _ (List.mem_of_getElem? h)) g
theorem TB_2 (i : Nat) {w : Cond} (h : tables_1_2[i]? = some w) (g : goodWord w = true) : w ∈ TB := TB_tab (List.mem_append_right _ (List.mem_append_left _ (List.mem_of_getElem? h))) g
theorem TB_3 (i : Nat) {w : Cond} (h : tables_1_3[i]? = some w) (g : goodWord w = true) : w ∈ TB := TB_tab (List.mem_append_right _ (List.mem_append_right _ (List.mem_append_left _ (List.mem_of_getElem? h)))) g
theorem TB_4 (i : Nat) {w : Cond} (h : tables_1_4[i]? = some w) (g : goodWord w = true) : w ∈ TB := TB_tab (List.mem_append_right _ (List.mem_append_right _ (List.mem_append_right _ (List.mem_append_left _ (List.mem_of_getElem? h))))) g
theorem TB_5 (i : Nat) {w : Cond} (h : tables_1_5[i]? = some w) (g : goodWord w = true) : w ∈ TB := TB_tab (List.mem_append_right _ (List.mem_append_right _ (List.mem_append_right _ (List.mem_append_right _ (List.mem_append_left _ (List.mem_of_getElem? h)))))) g
theorem TB_6 (i : Nat) {w : Cond} (h : tables_1_6[i]? = some w) (g : goodWord w = true) : w ∈ TB := TB_tab (List.mem_append_right _ (List.mem_append_right _ (List.mem_append_right _ (List.mem_append_right _ (List.mem_append_right _ (List.mem_append_left _ (List.mem_of_getElem? h))))))) g
theorem TB_7 (i : Nat) {w : Cond} (h : tables_1_7[i]? = some w) (g : goodWord w = true) : w ∈ TB := TB_tab (List.mem_append_right _ (List.mem_append_right _ (List.mem_append_right _ (List.mem_append_right _ (List.mem_append_right _ (List.mem_append_right _ (List.mem_append_left _ (List.mem_of_getElem? h)))))))) g
theorem TB_8 (i : Nat) {w : Cond} (h : tables_1_8[i]? = some w) (g : goodWord w = true) : w ∈ TB := TB_tab (List.mem_append_right _ (List.mem_append_right _ (List.mem_append_right _ (List.mem_append_right _ (List.mem_append_right _ (List.mem_append_right _ (List.mem_append_right _ (List.mem_of_getElem? h)))))))) g
