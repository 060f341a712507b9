section Wr
variable {p : Program} {l : Launch} {e : Env} {R : Room} {s : State} {m : MethodId} {args : Array Value} {below : List Frame} {meth : Method} {c : Code} {H : Heap} {locs : List Loc} {cells slots : Nat} {Q : State → Prop}
variable {cc : ByteArray} {pc : Nat} {ls : Array Slot} {rest : List Value} {r : Option Nat}
theorem wr_aload_n (hexec : p.tables.exec = Jvm.exec) (hb : c.code = cc) {k : Fin 4} {i : Nat} (hdg : decode cc pc = .ok (.aload_n k, 1)) (hi : (k : Nat) = i) (hl : ls[i]? = some (.val (va_rf r)))
    (k : W p l e R s m args below meth c H locs cells slots Q (F0 m (pc + 1) ls (va_rf r :: rest))) : W p l e R s m args below meth c H locs cells slots Q (F0 m pc ls rest) := by
  cases r with
  | none => exact lv_aload_nN hexec hb hdg hi hl k
  | some a => exact lv_aload_n hexec hb hdg hi hl k
theorem wr_aload (hexec : p.tables.exec = Jvm.exec) (hb : c.code = cc) {i : Nat} (hdg : decode cc pc = .ok (.aload i, 2)) (hl : ls[i]? = some (.val (va_rf r)))
    (k : W p l e R s m args below meth c H locs cells slots Q (F0 m (pc + 2) ls (va_rf r :: rest))) : W p l e R s m args below meth c H locs cells slots Q (F0 m pc ls rest) := by
  cases r with
  | none => exact lv_aloadN hexec hb hdg hl k
  | some a => exact lv_aload hexec hb hdg hl k
theorem wr_astore_n (hexec : p.tables.exec = Jvm.exec) (hb : c.code = cc) {k : Fin 4} {i nL : Nat} {lv lv' : List (Nat × Value)} (hdg : decode cc pc = .ok (.astore_n k, 1)) (hi : (k : Nat) = i) (h : lv_has ls nL lv) (hn : i < nL) (hl : (i, va_rf r) :: lv.filter (fun q => !(q.1 == i) && !(q.1 + 1 == i && q.2.category == 2)) = lv')
    (kk : ∀ ls' : Array Slot, lv_has ls' nL lv' → W p l e R s m args below meth c H locs cells slots Q (F0 m (pc + 1) ls' rest)) : W p l e R s m args below meth c H locs cells slots Q (F0 m pc ls (va_rf r :: rest)) := by
  cases r with
  | none => exact lv_astore_nN hexec hb hdg hi h hn hl kk
  | some a => exact lv_astore_n hexec hb hdg hi h hn hl kk
theorem wr_astore (hexec : p.tables.exec = Jvm.exec) (hb : c.code = cc) {i nL : Nat} {lv lv' : List (Nat × Value)} (hdg : decode cc pc = .ok (.astore i, 2)) (h : lv_has ls nL lv) (hn : i < nL) (hl : (i, va_rf r) :: lv.filter (fun q => !(q.1 == i) && !(q.1 + 1 == i && q.2.category == 2)) = lv')
    (kk : ∀ ls' : Array Slot, lv_has ls' nL lv' → W p l e R s m args below meth c H locs cells slots Q (F0 m (pc + 2) ls' rest)) : W p l e R s m args below meth c H locs cells slots Q (F0 m pc ls (va_rf r :: rest)) := by
  cases r with
  | none => exact lv_astoreN hexec hb hdg h hn hl kk
  | some a => exact lv_astore hexec hb hdg h hn hl kk
end Wr
/-- the live locals as a list of places and values -/
def prs (G : Gx) (lv : List AV) : List (Nat × Value) := (List.range lv.length).filterMap (fun i => match lv[i]? with
  | some v => if dead v then none else some (i, conc G v)
  | none => none)
theorem prs_mem {G : Gx} {lv : List AV} {q : Nat × Value} : q ∈ prs G lv ↔ ∃ v, lv[q.1]? = some v ∧ dead v = false ∧ q.2 = conc G v := by
  unfold prs
  rw [List.mem_filterMap]
  constructor
  · rintro ⟨i, hi, h⟩
    cases hv : lv[i]? with
    | none => rw [hv] at h; cases h
    | some v =>
      rw [hv] at h
      by_cases hd : dead v = true
      · simp only [hd, if_true] at h; cases h
      · simp only [hd] at h
        cases h
        exact ⟨v, hv, by simpa using hd, rfl⟩
  · rintro ⟨v, h1, h2, h3⟩
    refine ⟨q.1, List.mem_range.mpr (List.getElem?_eq_some_iff.mp h1).1, ?_⟩
    rw [h1]
    simp only [h2]
    rw [← h3]
    rfl
theorem lvOk.has {G : Gx} {ls : Array Slot} {lv : List AV} (h : lvOk G ls lv) : lv_has ls ls.size (prs G lv) := by
  refine ⟨rfl, h.1, fun q hq => ?_⟩
  obtain ⟨v, h1, h2, h3⟩ := prs_mem.mp hq
  rw [h3]
  exact h.2.2 _ v h1 h2
/-- no long stands just below place i -/
def okSt (lv : List AV) (i : Nat) : Bool := match i with
  | 0 => true
  | j + 1 => match lv[j]? with
    | some (.inr (.inl _)) => false
    | _ => true
theorem okSt_cat {lv : List AV} {i j : Nat} {v : AV} {G : Gx} (h : okSt lv i = true) (hj : j + 1 = i) (hv : lv[j]? = some v) : (conc G v).category = 1 := by
  subst hj
  simp only [okSt, hv] at h
  match v, h with
  | .inl _, _ => rfl
  | .inr (.inl _), h => cases h
  | .inr (.inr (.inl r)), _ => show (va_rf (rfo G r)).category = 1; cases rfo G r <;> rfl
  | .inr (.inr (.inr _)), _ => rfl
theorem lvOk_set {G : Gx} {ls ls' : Array Slot} {lv : List AV} {i : Nat} {v : AV} (h : lvOk G ls lv) (ho : okSt lv i = true) (hi : i < lv.length) (h' : lv_has ls' ls.size ((i, conc G v) :: (prs G lv).filter (fun q => !(q.1 == i) && !(q.1 + 1 == i && q.2.category == 2)))) : lvOk G ls' (lv.set i v) := by
  refine ⟨h'.2.1, by rw [List.length_set, h'.1]; exact h.2.1, fun j u hj hd => ?_⟩
  rw [List.getElem?_set] at hj
  by_cases e : i = j
  · subst e
    rw [if_pos rfl, if_pos hi] at hj
    cases hj
    exact h'.2.2 (i, conc G v) List.mem_cons_self
  · rw [if_neg e] at hj
    refine h'.2.2 (j, conc G u) (List.mem_cons_of_mem _ (List.mem_filter.mpr ⟨prs_mem.mpr ⟨u, hj, hd, rfl⟩, ?_⟩))
    simp only [Bool.and_eq_true, Bool.not_eq_true', beq_eq_false_iff_ne, ne_eq, Bool.and_eq_false_iff]
    refine ⟨fun q => e q.symm, ?_⟩
    by_cases e2 : j + 1 = i
    · exact Or.inr (by rw [okSt_cat ho e2 hj]; decide)
    · exact Or.inl e2
theorem lvOk_setL {G : Gx} {ls ls' : Array Slot} {lv : List AV} {i : Nat} {v : AV} (h : lvOk G ls lv) (ho : okSt lv i = true) (hi : i < lv.length) (h' : lv_has ls' ls.size ((i, conc G v) :: (prs G lv).filter (fun q => !(q.1 == i) && (!(q.1 == i + 1) && !(q.1 + 1 == i && q.2.category == 2))))) : lvOk G ls' ((lv.set i v).set (i + 1) aD) := by
  refine ⟨h'.2.1, by rw [List.length_set, List.length_set, h'.1]; exact h.2.1, fun j u hj hd => ?_⟩
  rw [List.getElem?_set] at hj
  by_cases e1 : i + 1 = j
  · subst e1
    rw [if_pos rfl] at hj
    split at hj
    · cases hj; cases hd
    · cases hj
  · rw [if_neg e1, List.getElem?_set] at hj
    by_cases e : i = j
    · subst e
      rw [if_pos rfl, if_pos hi] at hj
      cases hj
      exact h'.2.2 (i, conc G v) List.mem_cons_self
    · rw [if_neg e] at hj
      refine h'.2.2 (j, conc G u) (List.mem_cons_of_mem _ (List.mem_filter.mpr ⟨prs_mem.mpr ⟨u, hj, hd, rfl⟩, ?_⟩))
      simp only [Bool.and_eq_true, Bool.not_eq_true', beq_eq_false_iff_ne, ne_eq, Bool.and_eq_false_iff]
      refine ⟨fun q => e q.symm, fun q => e1 q.symm, ?_⟩
      by_cases e2 : j + 1 = i
      · exact Or.inr (by rw [okSt_cat ho e2 hj]; decide)
      · exact Or.inl e2
section Rules
variable {X : Mx} {G : Gx} {Q : State → Prop} {k pc : Nat} {lv st : List AV} {γ μ : Int → Int → Int} {cc : ByteArray} {nL : Nat} {own : String} {ret : Option FieldType} {d kk : Nat}
theorem okh {x : AV} {l : List AV} (h : ∀ v ∈ x :: l, okV v) : okV x := h x List.mem_cons_self
theorem okt {x : AV} {l : List AV} (h : ∀ v ∈ x :: l, okV v) : ∀ v ∈ l, okV v := fun v hv => h v (List.mem_cons_of_mem _ hv)
theorem okc {x : AV} {l : List AV} (h : okV x) (h2 : ∀ v ∈ l, okV v) : ∀ v ∈ x :: l, okV v := fun v hv => (List.mem_cons.mp hv).elim (fun e => e ▸ h) (h2 v)
theorem okn : ∀ v ∈ ([] : List AV), okV v := fun _ h => nomatch h
theorem okl {l : List AV} {i : Nat} {v : AV} (h : ∀ v ∈ l, okV v) (hi : l[i]? = some v) : okV v := h v (List.mem_of_getElem? hi)
theorem oks {l : List AV} {i : Nat} {x : AV} (h : ∀ v ∈ l, okV v) (hx : okV x) : ∀ v ∈ l.set i x, okV v := fun v hv => by
  rcases List.mem_or_eq_of_mem_set hv with h1 | h1
  · exact h v h1
  · exact h1 ▸ hx
theorem V.mono {k' : Nat} (h : k ≤ k') (kk : V X G Q k' pc lv st γ μ) : V X G Q k pc lv st γ μ := fun o1 o2 o3 H locs ls hP hD hS hl hz => W.widen h (by omega) (kk o1 o2 o3 H locs ls hP hD hS hl hz)

theorem V_iconst (hC : Cx X G cc nL own ret d kk) {n : Int} (hd : decode cc pc = .ok (.iconst n, 1)) (hr : iR n) (k1 : V X G Q k (pc + 1) lv (aI n :: st) γ μ) : V X G Q k pc lv st γ μ := by
  intro o1 o2 o3 H locs ls hP hD hS hl hz
  exact lv_iconst hC.1.1 hC.1.2.1 hd rfl (k1 o1 (okc hr o2) o3 H locs ls hP hD hS hl hz)
theorem V_bipush (hC : Cx X G cc nL own ret d kk) {n : Int} (hd : decode cc pc = .ok (.bipush n, 2)) (hr : -128 ≤ n ∧ n < 128) (k1 : V X G Q k (pc + 2) lv (aI n :: st) γ μ) : V X G Q k pc lv st γ μ := by
  intro o1 o2 o3 H locs ls hP hD hS hl hz
  have e : (Int8.ofInt n).toInt32 = Int32.ofInt n := by
    rw [← Int32.toInt_inj, Int8.toInt_toInt32, Int8.toInt_ofInt_of_le hr.1 hr.2, oI (by constructor <;> omega)]
  exact lv_bipush hC.1.1 hC.1.2.1 hd e (k1 o1 (okc (by constructor <;> omega) o2) o3 H locs ls hP hD hS hl hz)
theorem V_sipush (hC : Cx X G cc nL own ret d kk) {n : Int} (hd : decode cc pc = .ok (.sipush n, 3)) (hr : -32768 ≤ n ∧ n < 32768) (k1 : V X G Q k (pc + 3) lv (aI n :: st) γ μ) : V X G Q k pc lv st γ μ := by
  intro o1 o2 o3 H locs ls hP hD hS hl hz
  have e : (Int16.ofInt n).toInt32 = Int32.ofInt n := by
    rw [← Int32.toInt_inj, Int16.toInt_toInt32, Int16.toInt_ofInt_of_le hr.1 hr.2, oI (by constructor <;> omega)]
  exact lv_sipush hC.1.1 hC.1.2.1 hd e (k1 o1 (okc (by constructor <;> omega) o2) o3 H locs ls hP hD hS hl hz)
theorem V_ldc (hC : Cx X G cc nL own ret d kk) {ix : Nat} {n : Int} (hw : Cond.constant own ix (Int32.ofInt n) ∈ TB) (hd : decode cc pc = .ok (.ldc ix, 2)) (hr : iR n) (k1 : V X G Q k (pc + 2) lv (aI n :: st) γ μ) : V X G Q k pc lv st γ μ := by
  intro o1 o2 o3 H locs ls hP hD hS hl hz
  exact lv_ldc hC.1.1 hC.1.2.1 hC.1.2.2.2.1 (hC.1.2.2.2.2 _ hw) hd (k1 o1 (okc hr o2) o3 H locs ls hP hD hS hl hz)
theorem V_ldc2 (hC : Cx X G cc nL own ret d kk) {ix : Nat} {n : Int} (hw : Cond.constantLong own ix (Int64.ofInt n) ∈ TB) (hd : decode cc pc = .ok (.ldc2_w ix, 3)) (hr : lR n) (k1 : V X G Q k (pc + 3) lv (aL n :: st) γ μ) : V X G Q k pc lv st γ μ := by
  intro o1 o2 o3 H locs ls hP hD hS hl hz
  exact lv_ldc2 hC.1.1 hC.1.2.1 hC.1.2.2.2.1 (hC.1.2.2.2.2 _ hw) hd (k1 o1 (okc hr o2) o3 H locs ls hP hD hS hl hz)
theorem V_ldcS (hC : Cx X G cc nL own ret d kk) {ix i : Nat} {tx : String} (hs : sxS[i]? = some (own, ix, tx)) (hd : decode cc pc = .ok (.ldc ix, 2)) (k1 : V X G Q k (pc + 2) lv (aS i :: st) γ μ) : V X G Q k pc lv st γ μ := by
  intro o1 o2 o3 H locs ls hP hD hS hl hz
  have e : conc G (aS i) = .ref (G.sk i) := rfl
  have h := k1 o1 (okc trivial o2) o3 H locs ls hP hD hS hl hz
  exact va_ldcS hC.1.1 hC.1.2.1 hC.1.2.2.2.1 (hC.2.2.2.2.2.1.2.2.2.2.1 i _ hs) hd h
theorem V_lconst0 (hC : Cx X G cc nL own ret d kk) (hd : decode cc pc = .ok (.lconst 0, 1)) (k1 : V X G Q k (pc + 1) lv (aL 0 :: st) γ μ) : V X G Q k pc lv st γ μ := by
  intro o1 o2 o3 H locs ls hP hD hS hl hz
  exact lv_lconst (v := Int64.ofInt 0) hC.1.1 hC.1.2.1 hd rfl (k1 o1 (okc (by constructor <;> decide) o2) o3 H locs ls hP hD hS hl hz)
theorem V_lconst1 (hC : Cx X G cc nL own ret d kk) (hd : decode cc pc = .ok (.lconst 1, 1)) (k1 : V X G Q k (pc + 1) lv (aL 1 :: st) γ μ) : V X G Q k pc lv st γ μ := by
  intro o1 o2 o3 H locs ls hP hD hS hl hz
  exact lv_lconst (v := Int64.ofInt 1) hC.1.1 hC.1.2.1 hd rfl (k1 o1 (okc (by constructor <;> decide) o2) o3 H locs ls hP hD hS hl hz)
theorem V_null (hC : Cx X G cc nL own ret d kk) (hd : decode cc pc = .ok (.aconst_null, 1)) (k1 : V X G Q k (pc + 1) lv (aR (-1) :: st) γ μ) : V X G Q k pc lv st γ μ := by
  intro o1 o2 o3 H locs ls hP hD hS hl hz
  exact lv_null hC.1.1 hC.1.2.1 hd (k1 o1 (okc trivial o2) o3 H locs ls hP hD hS hl hz)
theorem V_iload (hC : Cx X G cc nL own ret d kk) {i : Nat} {z : Int} (hd : decode cc pc = .ok (.iload i, 2)) (hi : lv[i]? = some (aI z)) (k1 : V X G Q k (pc + 2) lv (aI z :: st) γ μ) : V X G Q k pc lv st γ μ := by
  intro o1 o2 o3 H locs ls hP hD hS hl hz
  exact lv_iload hC.1.1 hC.1.2.1 hd (hl.2.2 i _ hi rfl) (k1 o1 (okc (okl o1 hi) o2) o3 H locs ls hP hD hS hl hz)
theorem V_iload_n (hC : Cx X G cc nL own ret d kk) {n : Fin 4} {i : Nat} {z : Int} (hd : decode cc pc = .ok (.iload_n n, 1)) (hn : (n : Nat) = i) (hi : lv[i]? = some (aI z)) (k1 : V X G Q k (pc + 1) lv (aI z :: st) γ μ) : V X G Q k pc lv st γ μ := by
  intro o1 o2 o3 H locs ls hP hD hS hl hz
  exact lv_iload_n hC.1.1 hC.1.2.1 hd hn (hl.2.2 i _ hi rfl) (k1 o1 (okc (okl o1 hi) o2) o3 H locs ls hP hD hS hl hz)
theorem V_lload (hC : Cx X G cc nL own ret d kk) {i : Nat} {z : Int} (hd : decode cc pc = .ok (.lload i, 2)) (hi : lv[i]? = some (aL z)) (k1 : V X G Q k (pc + 2) lv (aL z :: st) γ μ) : V X G Q k pc lv st γ μ := by
  intro o1 o2 o3 H locs ls hP hD hS hl hz
  exact lv_lload hC.1.1 hC.1.2.1 hd (hl.2.2 i _ hi rfl) (k1 o1 (okc (okl o1 hi) o2) o3 H locs ls hP hD hS hl hz)
theorem V_lload_n (hC : Cx X G cc nL own ret d kk) {n : Fin 4} {i : Nat} {z : Int} (hd : decode cc pc = .ok (.lload_n n, 1)) (hn : (n : Nat) = i) (hi : lv[i]? = some (aL z)) (k1 : V X G Q k (pc + 1) lv (aL z :: st) γ μ) : V X G Q k pc lv st γ μ := by
  intro o1 o2 o3 H locs ls hP hD hS hl hz
  exact lv_lload_n hC.1.1 hC.1.2.1 hd hn (hl.2.2 i _ hi rfl) (k1 o1 (okc (okl o1 hi) o2) o3 H locs ls hP hD hS hl hz)
theorem V_aload (hC : Cx X G cc nL own ret d kk) {i : Nat} {z : Int} (hd : decode cc pc = .ok (.aload i, 2)) (hi : lv[i]? = some (aR z)) (k1 : V X G Q k (pc + 2) lv (aR z :: st) γ μ) : V X G Q k pc lv st γ μ := by
  intro o1 o2 o3 H locs ls hP hD hS hl hz
  exact wr_aload hC.1.1 hC.1.2.1 hd (hl.2.2 i _ hi rfl) (k1 o1 (okc trivial o2) o3 H locs ls hP hD hS hl hz)
theorem V_aload_S (hC : Cx X G cc nL own ret d kk) {i : Nat} {z : Int} (h0 : 0 ≤ z) (hd : decode cc pc = .ok (.aload i, 2)) (hi : lv[i]? = some (aS z)) (k1 : V X G Q k (pc + 2) lv (aS z :: st) γ μ) : V X G Q k pc lv st γ μ := by
  intro o1 o2 o3 H locs ls hP hD hS hl hz
  exact lv_aload hC.1.1 hC.1.2.1 hd (hl.2.2 i _ hi (decide_eq_false (by omega))) (k1 o1 (okc trivial o2) o3 H locs ls hP hD hS hl hz)
theorem V_aload_n (hC : Cx X G cc nL own ret d kk) {n : Fin 4} {i : Nat} {z : Int} (hd : decode cc pc = .ok (.aload_n n, 1)) (hn : (n : Nat) = i) (hi : lv[i]? = some (aR z)) (k1 : V X G Q k (pc + 1) lv (aR z :: st) γ μ) : V X G Q k pc lv st γ μ := by
  intro o1 o2 o3 H locs ls hP hD hS hl hz
  exact wr_aload_n hC.1.1 hC.1.2.1 hd hn (hl.2.2 i _ hi rfl) (k1 o1 (okc trivial o2) o3 H locs ls hP hD hS hl hz)
theorem V_aload_n_S (hC : Cx X G cc nL own ret d kk) {n : Fin 4} {i : Nat} {z : Int} (h0 : 0 ≤ z) (hd : decode cc pc = .ok (.aload_n n, 1)) (hn : (n : Nat) = i) (hi : lv[i]? = some (aS z)) (k1 : V X G Q k (pc + 1) lv (aS z :: st) γ μ) : V X G Q k pc lv st γ μ := by
  intro o1 o2 o3 H locs ls hP hD hS hl hz
  exact lv_aload_n hC.1.1 hC.1.2.1 hd hn (hl.2.2 i _ hi (decide_eq_false (by omega))) (k1 o1 (okc trivial o2) o3 H locs ls hP hD hS hl hz)
theorem V_istore (hC : Cx X G cc nL own ret d kk) {i : Nat} {z : Int} {lv2 : List AV} (hd : decode cc pc = .ok (.istore i, 2)) (hi : i < lv.length) (ho : okSt lv i = true) (h2 : lv.set i (aI z) = lv2) (k1 : V X G Q k (pc + 2) lv2 st γ μ) : V X G Q k pc lv (aI z :: st) γ μ := by
  intro o1 o2 o3 H locs ls hP hD hS hl hz
  subst h2
  have hi2 : i < ls.size := by rw [← hl.2.1]; exact hi
  refine lv_istore hC.1.1 hC.1.2.1 hd hl.has hi2 rfl (fun ls' h' => ?_)
  have hs : ls'.size = ls.size := h'.1
  exact k1 (oks o1 (okh o2)) (okt o2) o3 H locs ls' hP hD hS (lvOk_set (v := aI z) hl ho hi h') (hs.trans hz)
theorem V_istore_n (hC : Cx X G cc nL own ret d kk) {n : Fin 4} {i : Nat} {z : Int} {lv2 : List AV} (hd : decode cc pc = .ok (.istore_n n, 1)) (hn : (n : Nat) = i) (hi : i < lv.length) (ho : okSt lv i = true) (h2 : lv.set i (aI z) = lv2) (k1 : V X G Q k (pc + 1) lv2 st γ μ) : V X G Q k pc lv (aI z :: st) γ μ := by
  intro o1 o2 o3 H locs ls hP hD hS hl hz
  subst h2
  have hi2 : i < ls.size := by rw [← hl.2.1]; exact hi
  refine lv_istore_n hC.1.1 hC.1.2.1 hd hn hl.has hi2 rfl (fun ls' h' => ?_)
  have hs : ls'.size = ls.size := h'.1
  exact k1 (oks o1 (okh o2)) (okt o2) o3 H locs ls' hP hD hS (lvOk_set (v := aI z) hl ho hi h') (hs.trans hz)
theorem V_astore (hC : Cx X G cc nL own ret d kk) {i : Nat} {z : Int} {lv2 : List AV} (hd : decode cc pc = .ok (.astore i, 2)) (hi : i < lv.length) (ho : okSt lv i = true) (h2 : lv.set i (aR z) = lv2) (k1 : V X G Q k (pc + 2) lv2 st γ μ) : V X G Q k pc lv (aR z :: st) γ μ := by
  intro o1 o2 o3 H locs ls hP hD hS hl hz
  subst h2
  have hi2 : i < ls.size := by rw [← hl.2.1]; exact hi
  refine wr_astore hC.1.1 hC.1.2.1 hd hl.has hi2 rfl (fun ls' h' => ?_)
  have hs : ls'.size = ls.size := h'.1
  exact k1 (oks o1 trivial) (okt o2) o3 H locs ls' hP hD hS (lvOk_set (v := aR z) hl ho hi h') (hs.trans hz)
theorem V_astore_n (hC : Cx X G cc nL own ret d kk) {n : Fin 4} {i : Nat} {z : Int} {lv2 : List AV} (hd : decode cc pc = .ok (.astore_n n, 1)) (hn : (n : Nat) = i) (hi : i < lv.length) (ho : okSt lv i = true) (h2 : lv.set i (aR z) = lv2) (k1 : V X G Q k (pc + 1) lv2 st γ μ) : V X G Q k pc lv (aR z :: st) γ μ := by
  intro o1 o2 o3 H locs ls hP hD hS hl hz
  subst h2
  have hi2 : i < ls.size := by rw [← hl.2.1]; exact hi
  refine wr_astore_n hC.1.1 hC.1.2.1 hd hn hl.has hi2 rfl (fun ls' h' => ?_)
  have hs : ls'.size = ls.size := h'.1
  exact k1 (oks o1 trivial) (okt o2) o3 H locs ls' hP hD hS (lvOk_set (v := aR z) hl ho hi h') (hs.trans hz)
theorem V_lstore (hC : Cx X G cc nL own ret d kk) {i : Nat} {z : Int} {lv2 : List AV} (hd : decode cc pc = .ok (.lstore i, 2)) (hi : i + 1 < lv.length) (ho : okSt lv i = true) (h2 : (lv.set i (aL z)).set (i + 1) aD = lv2) (k1 : V X G Q k (pc + 2) lv2 st γ μ) : V X G Q k pc lv (aL z :: st) γ μ := by
  intro o1 o2 o3 H locs ls hP hD hS hl hz
  subst h2
  have hi2 : i + 1 < ls.size := by rw [← hl.2.1]; exact hi
  refine lv_lstore hC.1.1 hC.1.2.1 hd hl.has hi2 rfl (fun ls' h' => ?_)
  have hs : ls'.size = ls.size := h'.1
  exact k1 (oks (oks o1 (okh o2)) trivial) (okt o2) o3 H locs ls' hP hD hS (lvOk_setL (v := aL z) hl ho (by omega) h') (hs.trans hz)
theorem V_lstore_n (hC : Cx X G cc nL own ret d kk) {n : Fin 4} {i : Nat} {z : Int} {lv2 : List AV} (hd : decode cc pc = .ok (.lstore_n n, 1)) (hn : (n : Nat) = i) (hi : i + 1 < lv.length) (ho : okSt lv i = true) (h2 : (lv.set i (aL z)).set (i + 1) aD = lv2) (k1 : V X G Q k (pc + 1) lv2 st γ μ) : V X G Q k pc lv (aL z :: st) γ μ := by
  intro o1 o2 o3 H locs ls hP hD hS hl hz
  subst h2
  have hi2 : i + 1 < ls.size := by rw [← hl.2.1]; exact hi
  refine lv_lstore_n hC.1.1 hC.1.2.1 hd hn hl.has hi2 rfl (fun ls' h' => ?_)
  have hs : ls'.size = ls.size := h'.1
  exact k1 (oks (oks o1 (okh o2)) trivial) (okt o2) o3 H locs ls' hP hD hS (lvOk_setL (v := aL z) hl ho (by omega) h') (hs.trans hz)
theorem V_iinc (hC : Cx X G cc nL own ret d kk) {i : Nat} {n z : Int} {lv2 : List AV} (hd : decode cc pc = .ok (.iinc i n, 3)) (hi : lv[i]? = some (aI z)) (ho : okSt lv i = true) (hr : iR (z + n)) (h2 : lv.set i (aI (z + n)) = lv2) (k1 : V X G Q k (pc + 3) lv2 st γ μ) : V X G Q k pc lv st γ μ := by
  intro o1 o2 o3 H locs ls hP hD hS hl hz
  subst h2
  have hi1 : i < lv.length := (List.getElem?_eq_some_iff.mp hi).1
  have hi2 : i < ls.size := by rw [← hl.2.1]; exact hi1
  obtain ⟨j, hj⟩ := List.getElem?_of_mem (prs_mem (G := G) (q := (i, .int (Int32.ofInt z))).mpr ⟨aI z, hi, rfl, rfl⟩)
  refine lv_iinc (v := Int32.ofInt (z + n)) hC.1.1 hC.1.2.1 hd hl.has hj (by rw [Int32.ofInt_add]) hi2 rfl (fun ls' h' => ?_)
  have hs : ls'.size = ls.size := h'.1
  exact k1 (oks o1 hr) o2 o3 H locs ls' hP hD hS (lvOk_set (v := aI (z + n)) hl ho hi1 h') (hs.trans hz)
end Rules
