/-! String constants: their length and characters; Reader.isWord -/
theorem jwA : ∀ w ∈ [Cond.fieldLink RJ0 38 "java/lang/String" "COMPACT_STRINGS" "Z", Cond.fieldLink RJ0 15 "java/lang/String" "coder" "B", Cond.fieldLink RJ0 9 "java/lang/String" "value" "[B", Cond.fieldLink RJ0 1053 PRE "SIOOBE_FORMATTER" sioD], w ∈ TB := inT (by decide +kernel) (by decide +kernel)
theorem jwB : ∀ w ∈ [Cond.methodLink RJ0 335 yJ0_coder_7d493, Cond.instanceMethod yJ0_coder_7d493, Cond.selects RJ0 yJ0_coder_7d493 yJ0_coder_7d493, Cond.initialized RJ0, Cond.code yJ0_coder_7d493 cJ0_coder_7d493 1 (some .byte)], w ∈ TB := inT (by decide +kernel) (by decide +kernel)
theorem jwC : ∀ w ∈ [Cond.methodLink RJ0 492 yJ0_isLatin1_aae02, Cond.instanceMethod yJ0_isLatin1_aae02, Cond.selects RJ0 yJ0_isLatin1_aae02 yJ0_isLatin1_aae02, Cond.initialized RJ0, Cond.code yJ0_isLatin1_aae02 cJ0_isLatin1_aae02 1 (some .boolean)], w ∈ TB := inT (by decide +kernel) (by decide +kernel)
theorem jwD : ∀ w ∈ [Cond.methodLink RX3 201 yJ0_length_8abf5, Cond.instanceMethod yJ0_length_8abf5, Cond.selects RJ0 yJ0_length_8abf5 yJ0_length_8abf5, Cond.initialized RJ0, Cond.code yJ0_length_8abf5 cJ0_length_8abf5 1 (some .int)], w ∈ TB := inT (by decide +kernel) (by decide +kernel)
theorem jwE : ∀ w ∈ [Cond.methodLink RX3 205 yJ0_charAt_5068e, Cond.instanceMethod yJ0_charAt_5068e, Cond.selects RJ0 yJ0_charAt_5068e yJ0_charAt_5068e, Cond.initialized RJ0, Cond.code yJ0_charAt_5068e cJ0_charAt_5068e 2 (some .char)], w ∈ TB := inT (by decide +kernel) (by decide +kernel)
theorem jwF : ∀ w ∈ [Cond.methodLink RJ0 495 yJ1_charAt_3b067, Cond.static yJ1_charAt_3b067, Cond.initialized RJ1, Cond.code yJ1_charAt_3b067 cJ1_charAt_3b067 2 (some .char)], w ∈ TB := inT (by decide +kernel) (by decide +kernel)
theorem jwG : ∀ w ∈ [Cond.methodLink RJ1 9 yJ0_checkIndex_df160, Cond.static yJ0_checkIndex_df160, Cond.initialized RJ0, Cond.code yJ0_checkIndex_df160 cJ0_checkIndex_df160 2 none], w ∈ TB := inT (by decide +kernel) (by decide +kernel)
theorem jwH : ∀ w ∈ [Cond.methodLink RJ0 1059 yJ3_checkIndex_8e157, Cond.static yJ3_checkIndex_8e157, Cond.initialized RJ3, Cond.code yJ3_checkIndex_8e157 cJ3_checkIndex_8e157 3 (some .int)], w ∈ TB := inT (by decide +kernel) (by decide +kernel)
theorem l5 {α : Type} {P : α → Prop} {a b c d e : α} (h : ∀ w ∈ [a, b, c, d, e], P w) : P a ∧ P b ∧ P c ∧ P d ∧ P e := by
  simp only [List.mem_cons, List.not_mem_nil, or_false, forall_eq_or_imp, forall_eq] at h
  exact h
theorem l4 {α : Type} {P : α → Prop} {a b c d : α} (h : ∀ w ∈ [a, b, c, d], P w) : P a ∧ P b ∧ P c ∧ P d := by
  simp only [List.mem_cons, List.not_mem_nil, or_false, forall_eq_or_imp, forall_eq] at h
  exact h
theorem gjB : GoodIn TB (wsV RJ0 335 RJ0 yJ0_coder_7d493 (wsY yJ0_coder_7d493 cJ0_coder_7d493 1 (some .byte))) := (l5 jwB).elim fun h1 h => gV h1 h.1 h.2.1 h.2.2.1 h.2.2.2
theorem gjC : GoodIn TB (wsV RJ0 492 RJ0 yJ0_isLatin1_aae02 (wsY yJ0_isLatin1_aae02 cJ0_isLatin1_aae02 1 (some .boolean))) := (l5 jwC).elim fun h1 h => gV h1 h.1 h.2.1 h.2.2.1 h.2.2.2
theorem gjD : GoodIn TB (wsV RX3 201 RJ0 yJ0_length_8abf5 (wsY yJ0_length_8abf5 cJ0_length_8abf5 1 (some .int))) := (l5 jwD).elim fun h1 h => gV h1 h.1 h.2.1 h.2.2.1 h.2.2.2
theorem gjE : GoodIn TB (wsV RX3 205 RJ0 yJ0_charAt_5068e (wsY yJ0_charAt_5068e cJ0_charAt_5068e 2 (some .char))) := (l5 jwE).elim fun h1 h => gV h1 h.1 h.2.1 h.2.2.1 h.2.2.2
theorem gjF : GoodIn TB (va_wsS RJ0 495 yJ1_charAt_3b067 (wsY yJ1_charAt_3b067 cJ1_charAt_3b067 2 (some .char))) := (l4 jwF).elim fun h1 h => gS h1 h.1 h.2.1 h.2.2
theorem gjG : GoodIn TB (va_wsS RJ1 9 yJ0_checkIndex_df160 (wsY yJ0_checkIndex_df160 cJ0_checkIndex_df160 2 none)) := (l4 jwG).elim fun h1 h => gS h1 h.1 h.2.1 h.2.2
theorem gjH : GoodIn TB (va_wsS RJ0 1059 yJ3_checkIndex_8e157 (wsY yJ3_checkIndex_8e157 cJ3_checkIndex_8e157 3 (some .int))) := (l4 jwH).elim fun h1 h => gS h1 h.1 h.2.1 h.2.2
section Str
variable {X : Mx} {G : Gx} {Q : State → Prop} {k pc : Nat} {lv st : List AV} {γ μ : Mu} {cc : ByteArray} {nL : Nat} {own : String} {ret : Option FieldType} {d kk : Nat}
theorem conc_S (G : Gx) (i : Nat) : conc G (aS (i : Int)) = .ref (G.sk i) := rfl
theorem conc_Sv (hC : Cx X G cc nL own ret d kk) {i : Nat} (hi : i < 24) : conc G (aS (27 + (i : Int))) = .ref (G.sv i) := by
  show Value.ref (G.sk (27 + (i : Int)).toNat) = _
  rw [show (27 + (i : Int)).toNat = 27 + i by omega, hC.2.2.2.2.2.1.2.2.1.2.2 i hi]
theorem V_getSv (hC : Cx X G cc nL own ret d kk) {ix i : Nat} (hi : i < 24) (hw : Cond.fieldLink own ix "java/lang/String" "value" "[B" ∈ TB) (hd : decode cc pc = .ok (.getfield ix, 3)) (k1 : V X G Q k (pc + 3) lv (aS (27 + (i : Int)) :: st) γ μ) : V X G Q k pc lv (aS (i : Int) :: st) γ μ := by
  intro o1 o2 o3 H locs ls hP hD hS hl hz
  have h := k1 o1 (okc trivial (okt o2)) o3 H locs ls hP hD hS hl hz
  have h3 : W X.p X.l X.e X.R X.s X.m X.a X.b X.t X.c H locs k (6 * k) Q (F0 X.m (pc + 3) ls (.ref (G.sv i) :: st.map (conc G))) := by
    rw [← conc_Sv hC hi]
    exact h
  exact vk_getf hC.1.1 hC.1.2.1 (hC.2.2.2.2.2.1.2.2.2.1.1 i hi).2.2.1 hS hC.1.2.2.2.1 (hC.1.2.2.2.2 _ hw) (fun _ z => z) hd h3
theorem V_getSc (hC : Cx X G cc nL own ret d kk) {ix i : Nat} (hi : i < 24) (hw : Cond.fieldLink own ix "java/lang/String" "coder" "B" ∈ TB) (hd : decode cc pc = .ok (.getfield ix, 3)) (k1 : V X G Q k (pc + 3) lv (aI 0 :: st) γ μ) : V X G Q k pc lv (aS (i : Int) :: st) γ μ := by
  intro o1 o2 o3 H locs ls hP hD hS hl hz
  have h := k1 o1 (okc iR_0 (okt o2)) o3 H locs ls hP hD hS hl hz
  exact vk_getf hC.1.1 hC.1.2.1 (hC.2.2.2.2.2.1.2.2.2.1.1 i hi).2.1 hS hC.1.2.2.2.1 (hC.1.2.2.2.2 _ hw) (fun _ z => z) hd h
theorem V_getCS (hC : Cx X G cc nL own ret d kk) {ix : Nat} (hw : Cond.fieldLink own ix "java/lang/String" "COMPACT_STRINGS" "Z" ∈ TB) (hd : decode cc pc = .ok (.getstatic ix, 3)) (k1 : V X G Q k (pc + 3) lv (aI 1 :: st) γ μ) : V X G Q k pc lv st γ μ := by
  intro o1 o2 o3 H locs ls hP hD hS hl hz
  have h := k1 o1 (okc (by constructor <;> decide) o2) o3 H locs ls hP hD hS hl hz
  exact va_gets hC.1.1 hC.1.2.1 hC.2.2.2.2.2.1.2.2.1.1 hS hC.1.2.2.2.1 (hC.1.2.2.2.2 _ hw) (fun _ z => z) hd h
theorem okV_F (G : Gx) : okV (sxF G) := by unfold sxF; split <;> exact trivial
theorem V_getSF (hC : Cx X G cc nL own ret d kk) {ix : Nat} (hw : Cond.fieldLink own ix PRE "SIOOBE_FORMATTER" sioD ∈ TB) (hd : decode cc pc = .ok (.getstatic ix, 3)) (k1 : V X G Q k (pc + 3) lv (sxF G :: st) γ μ) : V X G Q k pc lv st γ μ := by
  intro o1 o2 o3 H locs ls hP hD hS hl hz
  have h := k1 o1 (okc (okV_F G) o2) o3 H locs ls hP hD hS hl hz
  exact va_gets hC.1.1 hC.1.2.1 hC.2.2.2.2.2.1.2.2.1.2.1 hS hC.1.2.2.2.1 (hC.1.2.2.2.2 _ hw) (fun _ z => z) hd h
theorem V_lenSv (hC : Cx X G cc nL own ret d kk) {i : Nat} (hi : i < 24) (hr : sxLen.getD i 0 < 2147483648) (hd : decode cc pc = .ok (.arraylength, 1)) (k1 : V X G Q k (pc + 1) lv (aI (sxLen.getD i 0 : Nat) :: st) γ μ) : V X G Q k pc lv (aS (27 + (i : Int)) :: st) γ μ := by
  intro o1 o2 o3 H locs ls hP hD hS hl hz
  have h := k1 o1 (okc (by constructor <;> omega) (okt o2)) o3 H locs ls hP hD hS hl hz
  show W _ _ _ _ _ _ _ _ _ _ _ _ _ _ _ (F0 X.m pc ls (conc G (aS (27 + (i : Int))) :: st.map (conc G)))
  rw [conc_Sv hC hi]
  exact va_tlen hC.1.1 hC.1.2.1 (hC.2.2.2.2.2.1.2.2.2.1.1 i hi).2.2.2 hS (by simp [Int32.ofInt_eq_ofNat]) hd h
/-- the character at j of the constant i -/
def strC (i j : Nat) : Int := ((sxByt.getD i []).getD j 0).toInt
theorem V_baSv (hC : Cx X G cc nL own ret d kk) {i : Nat} {z : Int} (hi : i < 24) (hz2 : 0 ≤ z ∧ z < (sxLen.getD i 0 : Nat)) (hd : decode cc pc = .ok (.baload, 1)) (k1 : V X G Q k (pc + 1) lv (aI (strC i z.toNat) :: st) γ μ) : V X G Q k pc lv (aI z :: aS (27 + (i : Int)) :: st) γ μ := by
  intro o1 o2 o3 H locs ls hP hD hS hl hz
  have hir : iR z := okh o2
  have h := k1 o1 (okc (iR_toInt _) (okt (okt o2))) o3 H locs ls hP hD hS hl hz
  show W _ _ _ _ _ _ _ _ _ _ _ _ _ _ _ (F0 X.m pc ls (conc G (aI z) :: conc G (aS (27 + (i : Int))) :: st.map (conc G)))
  rw [conc_Sv hC hi]
  refine va_tb hC.1.1 hC.1.2.1 (hC.2.2.2.2.2.1.2.2.2.1.1 i hi).2.2.2 hS (oI_in hir hz2.1 hz2.2) ?_ hd h
  show Value.int ((sxByt.getD i []).getD (Int32.ofInt z).toNatClampNeg 0) = Value.int (Int32.ofInt (strC i z.toNat))
  rw [oI_cl hir]
  unfold strC
  rw [Int32.ofInt_toInt]
theorem V_i2c7 (hC : Cx X G cc nL own ret d kk) {z : Int} (hz : 0 ≤ z ∧ z < 128) (hd : decode cc pc = .ok (.i2c, 1)) (k1 : V X G Q k (pc + 1) lv (aI z :: st) γ μ) : V X G Q k pc lv (aI z :: st) γ μ := by
  intro o1 o2 o3 H locs ls hP hD hS hl hz9
  have h := k1 o1 o2 o3 H locs ls hP hD hS hl hz9
  refine lv_i2c hC.1.1 hC.1.2.1 hd ?_ h
  obtain ⟨c, rfl⟩ := Int.eq_ofNat_of_zero_le hz.1
  have key : ∀ c : Fin 128, ((Int32.ofInt (c : Nat)).toUInt32 % 65536).toInt32 = Int32.ofInt (c : Nat) := by decide +kernel
  exact key ⟨c, by omega⟩
theorem and255 {z : Int} (hz : 0 ≤ z ∧ z < 128) : o_and z 255 = z := by
  obtain ⟨c, rfl⟩ := Int.eq_ofNat_of_zero_le hz.1
  have key : ∀ c : Fin 128, o_and ((c : Nat) : Int) 255 = ((c : Nat) : Int) := by decide +kernel
  exact key ⟨c, by omega⟩
theorem nar_c {z : Int} (hz : 0 ≤ z ∧ z < 128) : narrow .char (.int (Int32.ofInt z)) = .int (Int32.ofInt z) := by
  obtain ⟨c, rfl⟩ := Int.eq_ofNat_of_zero_le hz.1
  have key : ∀ c : Fin 128, narrow .char (.int (Int32.ofInt ((c : Nat) : Int))) = .int (Int32.ofInt ((c : Nat) : Int)) := by decide +kernel
  exact key ⟨c, by omega⟩
theorem V_preturn {Po : Option AV → Mu → Mu → Prop} {k0 : Nat} {ty : FieldType} (hC : Cx X G cc nL own (some ty) d kk) {z : Int} (hn : narrow ty (.int (Int32.ofInt z)) = .int (Int32.ofInt z)) (hd : decode cc pc = .ok (.ireturn, 1)) (hk : k0 ≤ k) (hp : Po (some (aI z)) γ μ) : V X G (Qm X G k Po) k0 pc lv [aI z] γ μ := by
  intro o1 o2 o3 H locs ls hP hD hS hl hz
  refine W.widen (n := 6 * k) hk (by omega) ?_
  exact W.zret (v := Int32.ofInt z) (ty := ty) hC.1.1 hC.1.2.1 hC.2.1 hn (fun t ht hW => ⟨⟨some (aI z), γ, μ, okh o2, rfl, hp, by rw [ht]; exact hP, hD, o3⟩, hS.F ht⟩) hS.2.2 hd hC.2.2.1
theorem V_callVS (hC : Cx X G cc nL own ret d kk) {ix n i : Nat} {y : MethodName} {cc' : ByteArray} {nL' : Nat} {ret' : Option FieldType} {d' k' : Nat} {as : List AV} {Po : Option AV → Mu → Mu → Prop} {st0 : List AV}
    (hi : i < 24) (hw : GoodIn TB (wsV own ix RJ0 y (wsY y cc' nL' ret'))) (hy : y.cls = RJ0 ∧ y.cls ≠ "java/lang/invoke/MethodHandle" ∧ y.cls ≠ "java/lang/invoke/VarHandle" ∧ (parseMethodDescriptor y.desc).map (fun d => d.parameters.length) = some n) (hd : decode cc pc = .ok (.invokevirtual ix, 3)) (hL : nL' ≤ 40)
    (hn : as.length = n) (hst : st.length ≤ 4) (h0 : st0 = as.reverse ++ aS (i : Int) :: st) (hdd : d' < d) (hkk : k + k' ≤ kk)
    (hcn : Cn X.l G y cc' nL' ret' d' k' (aS (i : Int) :: as) γ μ Po) (k1 : ∀ r γ' μ', Po r γ' μ' → V X G Q (k + k') (pc + 3) lv (r.toList ++ st) γ' μ') : V X G Q k pc lv st0 γ μ := by
  intro o1 o2 o3 H locs ls hP hD hS hl hz
  subst h0
  have oas : ∀ v ∈ aS (i : Int) :: as, okV v := okc trivial (fun v hv => o2 v (List.mem_append_left _ (List.mem_reverse.mpr hv)))
  have ost : ∀ v ∈ st, okV v := fun v hv => o2 v (List.mem_append_right _ (List.mem_cons_of_mem _ hv))
  have hcat := cat_le (G := G) st
  obtain ⟨r1, r2, r3, r4⟩ := hC.2.2.2.2.2.2.2
  refine V_after (y := y) (k' := k') (Po := Po) (lv := lv) (st := st) (a := (Value.ref (G.sk i) :: as.map (conc G)).toArray) (va_runV (As := as.map (conc G)) (b := G.sk i) (rest := st.map (conc G)) hC.1 (hcn oas) (cwV n hC.1.2.2.2.2 hw rfl rfl rfl hy ⟨by show d' + 1 ≤ _; omega, by show 8 + (nL' + 11) + 64 * d' ≤ _; omega⟩)
    ⟨Wd_blind, vk_recv hC.2.2.2.2.2.1.2.2.2.1 hi hS, fun U hU hW => ⟨by rw [List.map_cons]; rfl, Wd_at hC hP hD hS o3 hU hW⟩⟩ rfl (by simpa using hn) (hz.trans hC.1.2.2.1) ?_ (lv_room (by omega)) hd ⟨by show k + k' ≤ _; omega, by show 6 * k + 6 * k' ≤ _; omega⟩) o1 ost hS hl hz k1
  show (as.reverse ++ aS (i : Int) :: st).map (conc G) = _
  rw [List.map_append, List.map_reverse, List.map_cons]
  rfl
end Str
section Jdk
variable {l : Launch} {G : Gx} {γ μ : Mu}
theorem c_coder (hl : l.stackTraces = false) (d : Nat) {i : Nat} (hi : i < 24) : Cn l G yJ0_coder_7d493 cJ0_coder_7d493 1 (some .byte) d 0 [aS (i : Int)] γ μ (PI 0 γ μ) := by
  refine Cn.of2 hl (by decide +kernel) (noL1 nlS) rfl (fun o1 o3 X hX hC => ?_)
  have w := l4 jwA
  refine V_getCS hC w.1 dJ0_coder_7d493_0 (V_if_eq (tgt := 13) hC dJ0_coder_7d493_3 (by decide) (fun z => absurd z (by decide)) (fun _ => ?_))
  refine V_aload_n_S hC (by omega) dJ0_coder_7d493_6 rfl rfl (V_getSc hC hi w.2.1 dJ0_coder_7d493_7 (V_goto (tgt := 14) hC dJ0_coder_7d493_10 (by decide) ?_))
  exact V_preturn hC rfl dJ0_coder_7d493_14 (Nat.le_refl _) ⟨rfl, rfl, rfl⟩
theorem c_isLatin1 (hl : l.stackTraces = false) (d : Nat) {i : Nat} (hi : i < 24) : Cn l G yJ0_isLatin1_aae02 cJ0_isLatin1_aae02 1 (some .boolean) d 0 [aS (i : Int)] γ μ (PI 1 γ μ) := by
  refine Cn.of2 hl (by decide +kernel) (noL1 nlS) rfl (fun o1 o3 X hX hC => ?_)
  have w := l4 jwA
  refine V_getCS hC w.1 dJ0_isLatin1_aae02_0 (V_if_eq (tgt := 17) hC dJ0_isLatin1_aae02_3 (by decide) (fun z => absurd z (by decide)) (fun _ => ?_))
  refine V_aload_n_S hC (by omega) dJ0_isLatin1_aae02_6 rfl rfl (V_getSc hC hi w.2.1 dJ0_isLatin1_aae02_7 (V_if_ne (tgt := 17) hC dJ0_isLatin1_aae02_10 (by decide) (fun z => absurd rfl z) (fun _ => ?_)))
  refine V_iconst hC dJ0_isLatin1_aae02_13 (by decide) (V_goto (tgt := 18) hC dJ0_isLatin1_aae02_14 (by decide) ?_)
  exact V_preturn hC rfl dJ0_isLatin1_aae02_18 (Nat.le_refl _) ⟨rfl, rfl, rfl⟩
theorem shr0 {z : Int} (hz : 0 ≤ z ∧ z < 64) : o_shr z 0 = z := by
  obtain ⟨c, rfl⟩ := Int.eq_ofNat_of_zero_le hz.1
  have key : ∀ c : Fin 64, o_shr ((c : Nat) : Int) 0 = ((c : Nat) : Int) := by decide +kernel
  exact key ⟨c, by omega⟩
theorem sxLen_b {i : Nat} (hi : i < 24) : sxLen.getD i 0 < 64 := by
  have key : ∀ i : Fin 24, sxLen.getD i 0 < 64 := by decide +kernel
  exact key ⟨i, hi⟩
theorem c_strLen (hl : l.stackTraces = false) (d : Nat) (hd : 0 < d) {i : Nat} (hi : i < 24) : Cn l G yJ0_length_8abf5 cJ0_length_8abf5 1 (some .int) d 0 [aS (i : Int)] γ μ (PI (sxLen.getD i 0 : Nat) γ μ) := by
  refine Cn.of2 hl (by decide +kernel) (noL1 nlS) rfl (fun o1 o3 X hX hC => ?_)
  have w := l4 jwA
  have hb := sxLen_b hi
  refine V_aload_n_S hC (by omega) dJ0_length_8abf5_0 rfl rfl (V_getSv hC hi w.2.2.1 dJ0_length_8abf5_1 (V_lenSv hC hi (by omega) dJ0_length_8abf5_4 (V_aload_n_S hC (by omega) dJ0_length_8abf5_5 rfl rfl ?_)))
  refine V_callVS hC (as := []) (st := [aI (sxLen.getD i 0 : Nat)]) (n := 0) hi gjB ⟨rfl, by decide, by decide, by decide +kernel⟩ dJ0_length_8abf5_6 (by decide) rfl (Nat.le_of_ble_eq_true rfl) rfl hd (Nat.le_refl _) (hX ▸ c_coder hl 0 hi) (PI.use ?_)
  refine V_ishr hC dJ0_length_8abf5_9 ?_
  rw [shr0 (by omega)]
  exact V_ireturn hC dJ0_length_8abf5_10 (Nat.le_refl _) ⟨rfl, rfl, rfl⟩
theorem nlF : ∀ z, sxF G ≠ aL z := fun z h => by unfold sxF at h; split at h <;> cases h
theorem c_chk3 (hl : l.stackTraces = false) (d : Nat) {a n : Int} (h : 0 ≤ a ∧ a < n) : Cn l G yJ3_checkIndex_8e157 cJ3_checkIndex_8e157 3 (some .int) d 0 [aI a, aI n, sxF G] γ μ (PI a γ μ) := by
  refine Cn.of2 hl (by decide +kernel) (noLc nlI (noLc nlI (noL1 nlF))) rfl (fun o1 o3 X hX hC => ?_)
  refine V_iload_n hC dJ3_checkIndex_8e157_0 rfl rfl (V_if_lt (tgt := 9) hC dJ3_checkIndex_8e157_1 (by decide) (fun z => absurd z (by omega)) (fun _ => ?_))
  refine V_iload_n hC dJ3_checkIndex_8e157_4 rfl rfl (V_iload_n hC dJ3_checkIndex_8e157_5 rfl rfl (V_icmp_lt (tgt := 16) hC dJ3_checkIndex_8e157_6 (by decide) (fun _ => ?_) (fun z => absurd h.2 z)))
  exact V_iload_n hC dJ3_checkIndex_8e157_16 rfl rfl (V_ireturn hC dJ3_checkIndex_8e157_17 (Nat.le_refl _) ⟨rfl, rfl, rfl⟩)
theorem c_chk0 (hl : l.stackTraces = false) (d : Nat) (hd : 0 < d) {a n : Int} (h : 0 ≤ a ∧ a < n) : Cn l G yJ0_checkIndex_df160 cJ0_checkIndex_df160 2 none d 0 [aI a, aI n] γ μ (PV γ μ) := by
  refine Cn.of2 hl (by decide +kernel) (noLc nlI (noL1 nlI)) rfl (fun o1 o3 X hX hC => ?_)
  have w := l4 jwA
  refine V_iload_n hC dJ0_checkIndex_df160_0 rfl rfl (V_iload_n hC dJ0_checkIndex_df160_1 rfl rfl (V_getSF hC w.2.2.2 dJ0_checkIndex_df160_2 ?_))
  refine V_callS hC (as := [aI a, aI n, sxF G]) (st := []) (n := 3) gjH ⟨by decide, by decide, by decide +kernel⟩ dJ0_checkIndex_df160_5 (by decide) rfl (Nat.le_of_ble_eq_true rfl) rfl hd (Nat.le_refl _) (hX ▸ c_chk3 hl 0 h) (PI.use ?_)
  exact V_popI hC dJ0_checkIndex_df160_8 (V_return hC dJ0_checkIndex_df160_9 (Nat.le_refl _) ⟨rfl, rfl, rfl⟩)
theorem strC_b {i j : Nat} (hi : i < 24) (hj : j < sxLen.getD i 0) : 0 ≤ strC i j ∧ strC i j < 128 := by
  have key : ∀ i : Fin 24, ∀ j : Fin 64, j.1 < sxLen.getD i 0 → 0 ≤ strC i j ∧ strC i j < 128 := by decide +kernel
  have := sxLen_b hi
  exact key ⟨i, hi⟩ ⟨j, by omega⟩ hj
theorem c_chrL (hl : l.stackTraces = false) (d : Nat) (hd : 1 < d) {i : Nat} {z : Int} (hi : i < 24) (h : 0 ≤ z ∧ z < (sxLen.getD i 0 : Nat)) : Cn l G yJ1_charAt_3b067 cJ1_charAt_3b067 2 (some .char) d 0 [aS (27 + (i : Int)), aI z] γ μ (PI (strC i z.toNat) γ μ) := by
  refine Cn.of2 hl (by decide +kernel) (noLc nlS (noL1 nlI)) rfl (fun o1 o3 X hX hC => ?_)
  have hb := sxLen_b hi
  have hc := strC_b hi (j := z.toNat) (by omega)
  refine V_iload_n hC dJ1_charAt_3b067_0 rfl rfl (V_aload_n_S hC (by omega) dJ1_charAt_3b067_1 rfl rfl (V_lenSv hC hi (by omega) dJ1_charAt_3b067_2 ?_))
  refine V_callS hC (as := [aI z, aI (sxLen.getD i 0 : Nat)]) (st := []) (n := 2) gjG ⟨by decide, by decide, by decide +kernel⟩ dJ1_charAt_3b067_3 (by decide) rfl (Nat.le_of_ble_eq_true rfl) rfl hd (Nat.le_refl _) (hX ▸ c_chk0 hl 1 (by omega) h) (PV.use ?_)
  refine V_aload_n_S hC (by omega) dJ1_charAt_3b067_6 rfl rfl (V_iload_n hC dJ1_charAt_3b067_7 rfl rfl (V_baSv hC hi h dJ1_charAt_3b067_8 (V_sipush hC dJ1_charAt_3b067_9 (by decide) (V_iand hC dJ1_charAt_3b067_12 ?_))))
  rw [and255 hc]
  exact V_i2c7 hC hc dJ1_charAt_3b067_13 (V_preturn hC (nar_c hc) dJ1_charAt_3b067_14 (Nat.le_refl _) ⟨rfl, rfl, rfl⟩)
theorem c_chrA (hl : l.stackTraces = false) (d : Nat) (hd : 2 < d) {i : Nat} {z : Int} (hi : i < 24) (h : 0 ≤ z ∧ z < (sxLen.getD i 0 : Nat)) : Cn l G yJ0_charAt_5068e cJ0_charAt_5068e 2 (some .char) d 0 [aS (i : Int), aI z] γ μ (PI (strC i z.toNat) γ μ) := by
  refine Cn.of2 hl (by decide +kernel) (noLc nlS (noL1 nlI)) rfl (fun o1 o3 X hX hC => ?_)
  have w := l4 jwA
  have hc := strC_b hi (j := z.toNat) (by omega)
  refine V_aload_n_S hC (by omega) dJ0_charAt_5068e_0 rfl rfl ?_
  refine V_callVS hC (as := []) (st := []) (n := 0) hi gjC ⟨rfl, by decide, by decide, by decide +kernel⟩ dJ0_charAt_5068e_1 (by decide) rfl (Nat.le_of_ble_eq_true rfl) rfl (show 0 < d by omega) (Nat.le_refl _) (hX ▸ c_isLatin1 hl 0 hi) (PI.use ?_)
  refine V_if_eq (tgt := 16) hC dJ0_charAt_5068e_4 (by decide) (fun q => absurd q (by decide)) (fun _ => ?_)
  refine V_aload_n_S hC (by omega) dJ0_charAt_5068e_7 rfl rfl (V_getSv hC hi w.2.2.1 dJ0_charAt_5068e_8 (V_iload_n hC dJ0_charAt_5068e_11 rfl rfl ?_))
  refine V_callS hC (as := [aS (27 + (i : Int)), aI z]) (st := []) (n := 2) gjF ⟨by decide, by decide, by decide +kernel⟩ dJ0_charAt_5068e_12 (by decide) rfl (Nat.le_of_ble_eq_true rfl) rfl hd (Nat.le_refl _) (hX ▸ c_chrL hl 2 (by omega) hi h) (PI.use ?_)
  exact V_preturn hC (nar_c hc) dJ0_charAt_5068e_15 (Nat.le_refl _) ⟨rfl, rfl, rfl⟩
end Jdk
