section Rules2
variable {X : Mx} {G : Gx} {Q : State → Prop} {k pc : Nat} {lv st : List AV} {γ μ : Int → Int → Int} {cc : ByteArray} {nL : Nat} {own : String} {ret : Option FieldType} {d kk : Nat}

theorem V_iadd (hC : Cx X G cc nL own ret d kk) {a b : Int} (hd : decode cc pc = .ok (.iadd, 1)) (hr : iR (a + b)) (k1 : V X G Q k (pc + 1) lv (aI (a + b) :: st) γ μ) : V X G Q k pc lv (aI b :: aI a :: st) γ μ := by
  intro o1 o2 o3 H locs ls hP hD hS hl hz
  have h := k1 o1 (okc hr (okt (okt o2))) o3 H locs ls hP hD hS hl hz
  refine lv_iadd hC.1.1 hC.1.2.1 hd ?_
  rw [← Int32.ofInt_add]
  exact h
theorem V_iadd_w (hC : Cx X G cc nL own ret d kk) {a b : Int} (hd : decode cc pc = .ok (.iadd, 1)) (k1 : V X G Q k (pc + 1) lv (aI (o_wrap (a + b)) :: st) γ μ) : V X G Q k pc lv (aI b :: aI a :: st) γ μ := by
  intro o1 o2 o3 H locs ls hP hD hS hl hz
  have h := k1 o1 (okc (iR_toInt _) (okt (okt o2))) o3 H locs ls hP hD hS hl hz
  refine lv_iadd hC.1.1 hC.1.2.1 hd ?_
  rw [← Int32.ofInt_add, ← oI_toInt (Int32.ofInt _)]
  exact h
theorem V_isub (hC : Cx X G cc nL own ret d kk) {a b : Int} (hd : decode cc pc = .ok (.isub, 1)) (hr : iR (a - b)) (k1 : V X G Q k (pc + 1) lv (aI (a - b) :: st) γ μ) : V X G Q k pc lv (aI b :: aI a :: st) γ μ := by
  intro o1 o2 o3 H locs ls hP hD hS hl hz
  have h := k1 o1 (okc hr (okt (okt o2))) o3 H locs ls hP hD hS hl hz
  refine lv_isub hC.1.1 hC.1.2.1 hd ?_
  rw [← Int32.ofInt_sub]
  exact h
theorem V_isub_w (hC : Cx X G cc nL own ret d kk) {a b : Int} (hd : decode cc pc = .ok (.isub, 1)) (k1 : V X G Q k (pc + 1) lv (aI (o_wrap (a - b)) :: st) γ μ) : V X G Q k pc lv (aI b :: aI a :: st) γ μ := by
  intro o1 o2 o3 H locs ls hP hD hS hl hz
  have h := k1 o1 (okc (iR_toInt _) (okt (okt o2))) o3 H locs ls hP hD hS hl hz
  refine lv_isub hC.1.1 hC.1.2.1 hd ?_
  rw [← Int32.ofInt_sub, ← oI_toInt (Int32.ofInt _)]
  exact h
theorem V_imul (hC : Cx X G cc nL own ret d kk) {a b : Int} (hd : decode cc pc = .ok (.imul, 1)) (hr : iR (a * b)) (k1 : V X G Q k (pc + 1) lv (aI (a * b) :: st) γ μ) : V X G Q k pc lv (aI b :: aI a :: st) γ μ := by
  intro o1 o2 o3 H locs ls hP hD hS hl hz
  have h := k1 o1 (okc hr (okt (okt o2))) o3 H locs ls hP hD hS hl hz
  refine lv_imul hC.1.1 hC.1.2.1 hd ?_
  rw [← Int32.ofInt_mul]
  exact h
theorem V_imul_w (hC : Cx X G cc nL own ret d kk) {a b : Int} (hd : decode cc pc = .ok (.imul, 1)) (k1 : V X G Q k (pc + 1) lv (aI (o_wrap (a * b)) :: st) γ μ) : V X G Q k pc lv (aI b :: aI a :: st) γ μ := by
  intro o1 o2 o3 H locs ls hP hD hS hl hz
  have h := k1 o1 (okc (iR_toInt _) (okt (okt o2))) o3 H locs ls hP hD hS hl hz
  refine lv_imul hC.1.1 hC.1.2.1 hd ?_
  rw [← Int32.ofInt_mul, ← oI_toInt (Int32.ofInt _)]
  exact h
theorem V_idiv (hC : Cx X G cc nL own ret d kk) {a b : Int} (hd : decode cc pc = .ok (.idiv, 1)) (h0 : 0 < b) (k1 : V X G Q k (pc + 1) lv (aI (a.tdiv b) :: st) γ μ) : V X G Q k pc lv (aI b :: aI a :: st) γ μ := by
  intro o1 o2 o3 H locs ls hP hD hS hl hz
  have ha : iR a := okh (okt o2)
  have hb : iR b := okh o2
  have h := k1 o1 (okc (iR_tdiv ha h0) (okt (okt o2))) o3 H locs ls hP hD hS hl hz
  refine lv_idiv hC.1.1 hC.1.2.1 hd (fun q => ?_) ?_
  · have := (oI_eq hb iR_0).mp q
    omega
  · rw [oI_div ha hb h0]
    exact h
theorem V_irem (hC : Cx X G cc nL own ret d kk) {a b : Int} (hd : decode cc pc = .ok (.irem, 1)) (h0 : 0 < b) (k1 : V X G Q k (pc + 1) lv (aI (a.tmod b) :: st) γ μ) : V X G Q k pc lv (aI b :: aI a :: st) γ μ := by
  intro o1 o2 o3 H locs ls hP hD hS hl hz
  have ha : iR a := okh (okt o2)
  have hb : iR b := okh o2
  have h := k1 o1 (okc (iR_tmod hb h0) (okt (okt o2))) o3 H locs ls hP hD hS hl hz
  refine lv_irem hC.1.1 hC.1.2.1 hd (fun q => ?_) ?_
  · have := (oI_eq hb iR_0).mp q
    omega
  · rw [oI_rem ha hb h0]
    exact h
theorem V_ineg (hC : Cx X G cc nL own ret d kk) {a : Int} (hd : decode cc pc = .ok (.ineg, 1)) (hr : iR (-a)) (k1 : V X G Q k (pc + 1) lv (aI (-a) :: st) γ μ) : V X G Q k pc lv (aI a :: st) γ μ := by
  intro o1 o2 o3 H locs ls hP hD hS hl hz
  have h := k1 o1 (okc hr (okt o2)) o3 H locs ls hP hD hS hl hz
  refine lv_ineg hC.1.1 hC.1.2.1 hd ?_
  rw [← Int32.ofInt_neg]
  exact h
theorem V_iand (hC : Cx X G cc nL own ret d kk) {a b : Int} (hd : decode cc pc = .ok (.iand, 1)) (k1 : V X G Q k (pc + 1) lv (aI (o_and a b) :: st) γ μ) : V X G Q k pc lv (aI b :: aI a :: st) γ μ := by
  intro o1 o2 o3 H locs ls hP hD hS hl hz
  have h := k1 o1 (okc (iR_toInt _) (okt (okt o2))) o3 H locs ls hP hD hS hl hz
  refine lv_iand hC.1.1 hC.1.2.1 hd ?_
  rw [← oI_toInt (Int32.ofInt a &&& Int32.ofInt b)]
  exact h
theorem V_ior (hC : Cx X G cc nL own ret d kk) {a b : Int} (hd : decode cc pc = .ok (.ior, 1)) (k1 : V X G Q k (pc + 1) lv (aI (o_or a b) :: st) γ μ) : V X G Q k pc lv (aI b :: aI a :: st) γ μ := by
  intro o1 o2 o3 H locs ls hP hD hS hl hz
  have h := k1 o1 (okc (iR_toInt _) (okt (okt o2))) o3 H locs ls hP hD hS hl hz
  refine lv_ior hC.1.1 hC.1.2.1 hd ?_
  rw [← oI_toInt (Int32.ofInt a ||| Int32.ofInt b)]
  exact h
theorem V_ixor (hC : Cx X G cc nL own ret d kk) {a b : Int} (hd : decode cc pc = .ok (.ixor, 1)) (k1 : V X G Q k (pc + 1) lv (aI (o_xor a b) :: st) γ μ) : V X G Q k pc lv (aI b :: aI a :: st) γ μ := by
  intro o1 o2 o3 H locs ls hP hD hS hl hz
  have h := k1 o1 (okc (iR_toInt _) (okt (okt o2))) o3 H locs ls hP hD hS hl hz
  refine lv_ixor hC.1.1 hC.1.2.1 hd ?_
  rw [← oI_toInt (Int32.ofInt a ^^^ Int32.ofInt b)]
  exact h
theorem V_ishl (hC : Cx X G cc nL own ret d kk) {a b : Int} (hd : decode cc pc = .ok (.ishl, 1)) (k1 : V X G Q k (pc + 1) lv (aI (o_shl a b) :: st) γ μ) : V X G Q k pc lv (aI b :: aI a :: st) γ μ := by
  intro o1 o2 o3 H locs ls hP hD hS hl hz
  have h := k1 o1 (okc (iR_toInt _) (okt (okt o2))) o3 H locs ls hP hD hS hl hz
  refine lv_ishl hC.1.1 hC.1.2.1 hd ?_
  rw [← oI_toInt (Int32.ofInt a <<< (Int32.ofInt b &&& 31))]
  exact h
theorem V_ishr (hC : Cx X G cc nL own ret d kk) {a b : Int} (hd : decode cc pc = .ok (.ishr, 1)) (k1 : V X G Q k (pc + 1) lv (aI (o_shr a b) :: st) γ μ) : V X G Q k pc lv (aI b :: aI a :: st) γ μ := by
  intro o1 o2 o3 H locs ls hP hD hS hl hz
  have h := k1 o1 (okc (iR_toInt _) (okt (okt o2))) o3 H locs ls hP hD hS hl hz
  refine lv_ishr hC.1.1 hC.1.2.1 hd ?_
  rw [← oI_toInt (Int32.ofInt a >>> (Int32.ofInt b &&& 31))]
  exact h
theorem V_iushr (hC : Cx X G cc nL own ret d kk) {a b : Int} (hd : decode cc pc = .ok (.iushr, 1)) (k1 : V X G Q k (pc + 1) lv (aI (o_ushr a b) :: st) γ μ) : V X G Q k pc lv (aI b :: aI a :: st) γ μ := by
  intro o1 o2 o3 H locs ls hP hD hS hl hz
  have h := k1 o1 (okc (iR_toInt _) (okt (okt o2))) o3 H locs ls hP hD hS hl hz
  exact lv_iushr hC.1.1 hC.1.2.1 hd (oI_toInt _).symm h
theorem V_i2b (hC : Cx X G cc nL own ret d kk) {a : Int} (hd : decode cc pc = .ok (.i2b, 1)) (k1 : V X G Q k (pc + 1) lv (aI (o_i2b a) :: st) γ μ) : V X G Q k pc lv (aI a :: st) γ μ := by
  intro o1 o2 o3 H locs ls hP hD hS hl hz
  have h := k1 o1 (okc (iR_toInt _) (okt o2)) o3 H locs ls hP hD hS hl hz
  exact lv_i2b hC.1.1 hC.1.2.1 hd (oI_toInt _).symm h
theorem V_i2l (hC : Cx X G cc nL own ret d kk) {a : Int} (hd : decode cc pc = .ok (.i2l, 1)) (k1 : V X G Q k (pc + 1) lv (aL a :: st) γ μ) : V X G Q k pc lv (aI a :: st) γ μ := by
  intro o1 o2 o3 H locs ls hP hD hS hl hz
  have ha : iR a := okh o2
  have h := k1 o1 (okc (lR_of ha) (okt o2)) o3 H locs ls hP hD hS hl hz
  exact lv_i2l hC.1.1 hC.1.2.1 hd (oI_i2l ha) h
theorem V_lshl (hC : Cx X G cc nL own ret d kk) {a b : Int} (hd : decode cc pc = .ok (.lshl, 1)) (k1 : V X G Q k (pc + 1) lv (aL (o_lshl a b) :: st) γ μ) : V X G Q k pc lv (aI b :: aL a :: st) γ μ := by
  intro o1 o2 o3 H locs ls hP hD hS hl hz
  have h := k1 o1 (okc (lR_toInt _) (okt (okt o2))) o3 H locs ls hP hD hS hl hz
  exact lv_lshl hC.1.1 hC.1.2.1 hd (oL_toInt _).symm h
theorem V_lor (hC : Cx X G cc nL own ret d kk) {a b : Int} (hd : decode cc pc = .ok (.lor, 1)) (k1 : V X G Q k (pc + 1) lv (aL (o_lor a b) :: st) γ μ) : V X G Q k pc lv (aL b :: aL a :: st) γ μ := by
  intro o1 o2 o3 H locs ls hP hD hS hl hz
  have h := k1 o1 (okc (lR_toInt _) (okt (okt o2))) o3 H locs ls hP hD hS hl hz
  refine lv_lor hC.1.1 hC.1.2.1 hd ?_
  rw [← oL_toInt (Int64.ofInt a ||| Int64.ofInt b)]
  exact h
theorem V_ladd (hC : Cx X G cc nL own ret d kk) {a b : Int} (hd : decode cc pc = .ok (.ladd, 1)) (k1 : V X G Q k (pc + 1) lv (aL (o_ladd a b) :: st) γ μ) : V X G Q k pc lv (aL b :: aL a :: st) γ μ := by
  intro o1 o2 o3 H locs ls hP hD hS hl hz
  have h := k1 o1 (okc (lR_toInt _) (okt (okt o2))) o3 H locs ls hP hD hS hl hz
  refine lv_ladd hC.1.1 hC.1.2.1 hd ?_
  rw [← oL_toInt (Int64.ofInt a + Int64.ofInt b)]
  exact h
theorem V_lmul (hC : Cx X G cc nL own ret d kk) {a b : Int} (hd : decode cc pc = .ok (.lmul, 1)) (k1 : V X G Q k (pc + 1) lv (aL (o_lmul a b) :: st) γ μ) : V X G Q k pc lv (aL b :: aL a :: st) γ μ := by
  intro o1 o2 o3 H locs ls hP hD hS hl hz
  have h := k1 o1 (okc (lR_toInt _) (okt (okt o2))) o3 H locs ls hP hD hS hl hz
  refine lv_lmul hC.1.1 hC.1.2.1 hd ?_
  rw [← oL_toInt (Int64.ofInt a * Int64.ofInt b)]
  exact h
theorem V_lcmp (hC : Cx X G cc nL own ret d kk) {a b : Int} (hd : decode cc pc = .ok (.lcmp, 1)) (k1 : V X G Q k (pc + 1) lv (aI (o_lcmp a b) :: st) γ μ) : V X G Q k pc lv (aL b :: aL a :: st) γ μ := by
  intro o1 o2 o3 H locs ls hP hD hS hl hz
  have ha : lR a := okh (okt o2)
  have hb : lR b := okh o2
  have hr : iR (o_lcmp a b) := by unfold o_lcmp; split; decide; split <;> decide
  have h := k1 o1 (okc hr (okt (okt o2))) o3 H locs ls hP hD hS hl hz
  have e : lg_cmp (Int64.ofInt a) (Int64.ofInt b) = Int32.ofInt (o_lcmp a b) := by
    unfold lg_cmp o_lcmp
    simp only [gt_iff_lt, oL_lt hb ha, oL_eq ha hb]
    rcases Int.lt_trichotomy a b with h1 | h1 | h1
    · rw [if_neg (by omega), if_neg (by omega), if_pos h1]; rfl
    · rw [if_neg (by omega), if_pos h1, if_neg (by omega), if_pos h1]; rfl
    · rw [if_pos h1, if_neg (by omega), if_neg (by omega)]; rfl
  refine W.lcmp hC.1.1 hC.1.2.1 hd ?_
  rw [e]
  exact h
theorem V_dup (hC : Cx X G cc nL own ret d kk) {x : AV} (hx : ∀ z, x ≠ aL z) (hd : decode cc pc = .ok (.dup, 1)) (k1 : V X G Q k (pc + 1) lv (x :: x :: st) γ μ) : V X G Q k pc lv (x :: st) γ μ := by
  intro o1 o2 o3 H locs ls hP hD hS hl hz
  have hc : (conc G x).category = 1 := match x, hx with
    | .inl _, _ => rfl
    | .inr (.inl z), hx => absurd rfl (hx z)
    | .inr (.inr (.inl r)), _ => by show (va_rf (rfo G r)).category = 1; cases rfo G r <;> rfl
    | .inr (.inr (.inr _)), _ => rfl
  exact lv_dup hC.1.1 hC.1.2.1 hd hc (k1 o1 (okc (okh o2) o2) o3 H locs ls hP hD hS hl hz)
theorem V_dup2 (hC : Cx X G cc nL own ret d kk) {i r : Int} (hd : decode cc pc = .ok (.dup2, 1)) (k1 : V X G Q k (pc + 1) lv (aI i :: aR r :: aI i :: aR r :: st) γ μ) : V X G Q k pc lv (aI i :: aR r :: st) γ μ := by
  intro o1 o2 o3 H locs ls hP hD hS hl hz
  exact lv_dup2_11 hC.1.1 hC.1.2.1 hd rfl (by show (va_rf (rfo G r)).category = 1; cases rfo G r <;> rfl) (k1 o1 (okc (okh o2) (okc trivial o2)) o3 H locs ls hP hD hS hl hz)
theorem V_popI (hC : Cx X G cc nL own ret d kk) {a : Int} (hd : decode cc pc = .ok (.pop, 1)) (k1 : V X G Q k (pc + 1) lv st γ μ) : V X G Q k pc lv (aI a :: st) γ μ := by
  intro o1 o2 o3 H locs ls hP hD hS hl hz
  exact lv_pop hC.1.1 hC.1.2.1 hd (by rfl) (k1 o1 (okt o2) o3 H locs ls hP hD hS hl hz)
theorem V_popR (hC : Cx X G cc nL own ret d kk) {a : Int} (hd : decode cc pc = .ok (.pop, 1)) (k1 : V X G Q k (pc + 1) lv st γ μ) : V X G Q k pc lv (aR a :: st) γ μ := by
  intro o1 o2 o3 H locs ls hP hD hS hl hz
  exact lv_pop hC.1.1 hC.1.2.1 hd (by show (va_rf (rfo G a)).category = 1; cases rfo G a <;> rfl) (k1 o1 (okt o2) o3 H locs ls hP hD hS hl hz)
theorem V_pop2 (hC : Cx X G cc nL own ret d kk) {a : Int} (hd : decode cc pc = .ok (.pop2, 1)) (k1 : V X G Q k (pc + 1) lv st γ μ) : V X G Q k pc lv (aL a :: st) γ μ := by
  intro o1 o2 o3 H locs ls hP hD hS hl hz
  exact lv_pop2_2 hC.1.1 hC.1.2.1 hd rfl (k1 o1 (okt o2) o3 H locs ls hP hD hS hl hz)
theorem V_goto (hC : Cx X G cc nL own ret d kk) {off : Int} {tgt : Nat} (hd : decode cc pc = .ok (.goto off, 3)) (ht : (pc : Int) + off = (tgt : Int)) (k1 : V X G Q k tgt lv st γ μ) : V X G Q k pc lv st γ μ := by
  intro o1 o2 o3 H locs ls hP hD hS hl hz
  exact lv_goto hC.1.1 hC.1.2.1 hd ht (k1 o1 o2 o3 H locs ls hP hD hS hl hz)
theorem V_icmp_eq (hC : Cx X G cc nL own ret d kk) {a b off : Int} {tgt : Nat} (hd : decode cc pc = .ok (.if_icmp .eq off, 3)) (ht : (pc : Int) + off = (tgt : Int)) (kt : a = b → V X G Q k tgt lv st γ μ) (kf : ¬ (a = b) → V X G Q k (pc + 3) lv st γ μ) : V X G Q k pc lv (aI b :: aI a :: st) γ μ := by
  intro o1 o2 o3 H locs ls hP hD hS hl hz
  have ha : iR a := okh (okt o2)
  have hb : iR b := okh o2
  exact lv_icmp_eq hC.1.1 hC.1.2.1 hd ht (fun q => kt ((oI_eq ha hb).mp q) o1 (okt (okt o2)) o3 H locs ls hP hD hS hl hz) (fun q => kf (fun z => q ((oI_eq ha hb).mpr z)) o1 (okt (okt o2)) o3 H locs ls hP hD hS hl hz)
theorem V_if_eq (hC : Cx X G cc nL own ret d kk) {a off : Int} {tgt : Nat} (hd : decode cc pc = .ok (.ifCond .eq off, 3)) (ht : (pc : Int) + off = (tgt : Int)) (kt : a = 0 → V X G Q k tgt lv st γ μ) (kf : ¬ (a = 0) → V X G Q k (pc + 3) lv st γ μ) : V X G Q k pc lv (aI a :: st) γ μ := by
  intro o1 o2 o3 H locs ls hP hD hS hl hz
  have ha : iR a := okh o2
  exact lv_if_eq hC.1.1 hC.1.2.1 hd ht (fun q => kt ((oI_eq ha iR_0).mp q) o1 (okt o2) o3 H locs ls hP hD hS hl hz) (fun q => kf (fun z => q ((oI_eq ha iR_0).mpr z)) o1 (okt o2) o3 H locs ls hP hD hS hl hz)
theorem V_icmp_ne (hC : Cx X G cc nL own ret d kk) {a b off : Int} {tgt : Nat} (hd : decode cc pc = .ok (.if_icmp .ne off, 3)) (ht : (pc : Int) + off = (tgt : Int)) (kt : ¬ a = b → V X G Q k tgt lv st γ μ) (kf : a = b → V X G Q k (pc + 3) lv st γ μ) : V X G Q k pc lv (aI b :: aI a :: st) γ μ := by
  intro o1 o2 o3 H locs ls hP hD hS hl hz
  have ha : iR a := okh (okt o2)
  have hb : iR b := okh o2
  exact lv_icmp_ne hC.1.1 hC.1.2.1 hd ht (fun q => kt (fun z => q ((oI_eq ha hb).mpr z)) o1 (okt (okt o2)) o3 H locs ls hP hD hS hl hz) (fun q => kf ((oI_eq ha hb).mp q) o1 (okt (okt o2)) o3 H locs ls hP hD hS hl hz)
theorem V_if_ne (hC : Cx X G cc nL own ret d kk) {a off : Int} {tgt : Nat} (hd : decode cc pc = .ok (.ifCond .ne off, 3)) (ht : (pc : Int) + off = (tgt : Int)) (kt : ¬ a = 0 → V X G Q k tgt lv st γ μ) (kf : a = 0 → V X G Q k (pc + 3) lv st γ μ) : V X G Q k pc lv (aI a :: st) γ μ := by
  intro o1 o2 o3 H locs ls hP hD hS hl hz
  have ha : iR a := okh o2
  exact lv_if_ne hC.1.1 hC.1.2.1 hd ht (fun q => kt (fun z => q ((oI_eq ha iR_0).mpr z)) o1 (okt o2) o3 H locs ls hP hD hS hl hz) (fun q => kf ((oI_eq ha iR_0).mp q) o1 (okt o2) o3 H locs ls hP hD hS hl hz)
theorem V_icmp_lt (hC : Cx X G cc nL own ret d kk) {a b off : Int} {tgt : Nat} (hd : decode cc pc = .ok (.if_icmp .lt off, 3)) (ht : (pc : Int) + off = (tgt : Int)) (kt : a < b → V X G Q k tgt lv st γ μ) (kf : ¬ (a < b) → V X G Q k (pc + 3) lv st γ μ) : V X G Q k pc lv (aI b :: aI a :: st) γ μ := by
  intro o1 o2 o3 H locs ls hP hD hS hl hz
  have ha : iR a := okh (okt o2)
  have hb : iR b := okh o2
  exact lv_icmp_lt hC.1.1 hC.1.2.1 hd ht (fun q => kt ((oI_lt ha hb).mp q) o1 (okt (okt o2)) o3 H locs ls hP hD hS hl hz) (fun q => kf (fun z => q ((oI_lt ha hb).mpr z)) o1 (okt (okt o2)) o3 H locs ls hP hD hS hl hz)
theorem V_if_lt (hC : Cx X G cc nL own ret d kk) {a off : Int} {tgt : Nat} (hd : decode cc pc = .ok (.ifCond .lt off, 3)) (ht : (pc : Int) + off = (tgt : Int)) (kt : a < 0 → V X G Q k tgt lv st γ μ) (kf : ¬ (a < 0) → V X G Q k (pc + 3) lv st γ μ) : V X G Q k pc lv (aI a :: st) γ μ := by
  intro o1 o2 o3 H locs ls hP hD hS hl hz
  have ha : iR a := okh o2
  exact lv_if_lt hC.1.1 hC.1.2.1 hd ht (fun q => kt ((oI_lt ha iR_0).mp q) o1 (okt o2) o3 H locs ls hP hD hS hl hz) (fun q => kf (fun z => q ((oI_lt ha iR_0).mpr z)) o1 (okt o2) o3 H locs ls hP hD hS hl hz)
theorem V_icmp_ge (hC : Cx X G cc nL own ret d kk) {a b off : Int} {tgt : Nat} (hd : decode cc pc = .ok (.if_icmp .ge off, 3)) (ht : (pc : Int) + off = (tgt : Int)) (kt : b ≤ a → V X G Q k tgt lv st γ μ) (kf : ¬ (b ≤ a) → V X G Q k (pc + 3) lv st γ μ) : V X G Q k pc lv (aI b :: aI a :: st) γ μ := by
  intro o1 o2 o3 H locs ls hP hD hS hl hz
  have ha : iR a := okh (okt o2)
  have hb : iR b := okh o2
  exact lv_icmp_ge hC.1.1 hC.1.2.1 hd ht (fun q => kt ((oI_le hb ha).mp q) o1 (okt (okt o2)) o3 H locs ls hP hD hS hl hz) (fun q => kf (fun z => q ((oI_le hb ha).mpr z)) o1 (okt (okt o2)) o3 H locs ls hP hD hS hl hz)
theorem V_if_ge (hC : Cx X G cc nL own ret d kk) {a off : Int} {tgt : Nat} (hd : decode cc pc = .ok (.ifCond .ge off, 3)) (ht : (pc : Int) + off = (tgt : Int)) (kt : 0 ≤ a → V X G Q k tgt lv st γ μ) (kf : ¬ (0 ≤ a) → V X G Q k (pc + 3) lv st γ μ) : V X G Q k pc lv (aI a :: st) γ μ := by
  intro o1 o2 o3 H locs ls hP hD hS hl hz
  have ha : iR a := okh o2
  exact lv_if_ge hC.1.1 hC.1.2.1 hd ht (fun q => kt ((oI_le iR_0 ha).mp q) o1 (okt o2) o3 H locs ls hP hD hS hl hz) (fun q => kf (fun z => q ((oI_le iR_0 ha).mpr z)) o1 (okt o2) o3 H locs ls hP hD hS hl hz)
theorem V_icmp_gt (hC : Cx X G cc nL own ret d kk) {a b off : Int} {tgt : Nat} (hd : decode cc pc = .ok (.if_icmp .gt off, 3)) (ht : (pc : Int) + off = (tgt : Int)) (kt : b < a → V X G Q k tgt lv st γ μ) (kf : ¬ (b < a) → V X G Q k (pc + 3) lv st γ μ) : V X G Q k pc lv (aI b :: aI a :: st) γ μ := by
  intro o1 o2 o3 H locs ls hP hD hS hl hz
  have ha : iR a := okh (okt o2)
  have hb : iR b := okh o2
  exact lv_icmp_gt hC.1.1 hC.1.2.1 hd ht (fun q => kt ((oI_lt hb ha).mp q) o1 (okt (okt o2)) o3 H locs ls hP hD hS hl hz) (fun q => kf (fun z => q ((oI_lt hb ha).mpr z)) o1 (okt (okt o2)) o3 H locs ls hP hD hS hl hz)
theorem V_if_gt (hC : Cx X G cc nL own ret d kk) {a off : Int} {tgt : Nat} (hd : decode cc pc = .ok (.ifCond .gt off, 3)) (ht : (pc : Int) + off = (tgt : Int)) (kt : 0 < a → V X G Q k tgt lv st γ μ) (kf : ¬ (0 < a) → V X G Q k (pc + 3) lv st γ μ) : V X G Q k pc lv (aI a :: st) γ μ := by
  intro o1 o2 o3 H locs ls hP hD hS hl hz
  have ha : iR a := okh o2
  exact lv_if_gt hC.1.1 hC.1.2.1 hd ht (fun q => kt ((oI_lt iR_0 ha).mp q) o1 (okt o2) o3 H locs ls hP hD hS hl hz) (fun q => kf (fun z => q ((oI_lt iR_0 ha).mpr z)) o1 (okt o2) o3 H locs ls hP hD hS hl hz)
theorem V_icmp_le (hC : Cx X G cc nL own ret d kk) {a b off : Int} {tgt : Nat} (hd : decode cc pc = .ok (.if_icmp .le off, 3)) (ht : (pc : Int) + off = (tgt : Int)) (kt : a ≤ b → V X G Q k tgt lv st γ μ) (kf : ¬ (a ≤ b) → V X G Q k (pc + 3) lv st γ μ) : V X G Q k pc lv (aI b :: aI a :: st) γ μ := by
  intro o1 o2 o3 H locs ls hP hD hS hl hz
  have ha : iR a := okh (okt o2)
  have hb : iR b := okh o2
  exact lv_icmp_le hC.1.1 hC.1.2.1 hd ht (fun q => kt ((oI_le ha hb).mp q) o1 (okt (okt o2)) o3 H locs ls hP hD hS hl hz) (fun q => kf (fun z => q ((oI_le ha hb).mpr z)) o1 (okt (okt o2)) o3 H locs ls hP hD hS hl hz)
theorem V_if_le (hC : Cx X G cc nL own ret d kk) {a off : Int} {tgt : Nat} (hd : decode cc pc = .ok (.ifCond .le off, 3)) (ht : (pc : Int) + off = (tgt : Int)) (kt : a ≤ 0 → V X G Q k tgt lv st γ μ) (kf : ¬ (a ≤ 0) → V X G Q k (pc + 3) lv st γ μ) : V X G Q k pc lv (aI a :: st) γ μ := by
  intro o1 o2 o3 H locs ls hP hD hS hl hz
  have ha : iR a := okh o2
  exact lv_if_le hC.1.1 hC.1.2.1 hd ht (fun q => kt ((oI_le ha iR_0).mp q) o1 (okt o2) o3 H locs ls hP hD hS hl hz) (fun q => kf (fun z => q ((oI_le ha iR_0).mpr z)) o1 (okt o2) o3 H locs ls hP hD hS hl hz)
end Rules2
