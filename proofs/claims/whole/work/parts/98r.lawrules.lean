/-! the law: the script, and what both hold between two turns -/
/-- the script's cell is the String constant 52 -/
def scI (xs : Nat → Int32) (t : Int) : Int := (xs t.toNat).toInt
theorem scI_b (xs : Nat → Int32) (t : Int) : iR (scI xs t) := ⟨Int32.le_toInt _, Int32.toInt_lt _⟩
def Scr (X : Mx) (G : Gx) (L : Nat) (xs : Nat → Int32) : Prop := va_X (G.sk 52) L xs X.s X.s.heap ∧ G.sk 52 < X.s.heap.size ∧ ¬ G.A (G.sk 52) ∧ L ≤ 3072
/-- class at 0, reference at 518, the array of one long at 558 -/
def Lq (G : Gx) (γ μ σ : Mu) : Prop := (∃ w p, HallAt G γ 0 w p ∧ RepC μ 0 w σ) ∧ ModS G 518 ∧ ModG γ 518 ∧ RepR μ 518 σ ∧ Wf σ ∧ shO G 558 12 1
theorem RepR.frm {μ m σ : Mu} (hR : RepR μ 518 σ) (hW : Wf σ) (h : ∀ y j, 518 ≤ y → y < 558 → m y j = μ y j) : RepR m 518 σ := hR.fr hW (fun x j hk => h x j (by unfold keepR at hk; omega) (by unfold keepR at hk; omega))
section LawRules
variable {X : Mx} {G : Gx} {Q : State → Prop} {k k2 pc : Nat} {lv lv2 st : List AV} {γ μ : Mu} {cc : ByteArray} {nL : Nat} {own : String} {ret : Option FieldType} {d kk : Nat} {L : Nat} {xs : Nat → Int32}
theorem V_widen (h : k ≤ k2) (k1 : V X G Q k2 pc lv st γ μ) : V X G Q k pc lv st γ μ := fun o1 o2 o3 H locs ls hP hD hS hl hz => W.widen h (by omega) (k1 o1 o2 o3 H locs ls hP hD hS hl hz)
/-- locals of which nothing needs to be known any more -/
theorem V_forget (hlen : lv2.length = lv.length) (hs : ∀ (i : Nat) (v : AV), lv2[i]? = some v → lv[i]? = some v ∨ v = aD) (k1 : V X G Q k pc lv2 st γ μ) : V X G Q k pc lv st γ μ := fun o1 o2 o3 H locs ls hP hD hS hl hz =>
  k1 (fun v hv => by
    obtain ⟨i, hi⟩ := List.getElem?_of_mem hv
    rcases hs i v hi with h | h
    · exact o1 v (List.mem_of_getElem? h)
    · rw [h]; exact trivial) o2 o3 H locs ls hP hD hS ⟨hl.1, hlen.trans hl.2.1, fun i v hi hd => by
    rcases hs i v hi with h | h
    · exact hl.2.2 i v h hd
    · rw [h] at hd; cases hd⟩ hz
theorem forg7 {a b c e f g h x y : AV} : ∀ (i : Nat) (v : AV), ([a, b, c, e, f, aD, aD] : List AV)[i]? = some v → ([a, b, c, e, f, x, y] : List AV)[i]? = some v ∨ v = aD := by
  intro i v hv
  match i, hv with
  | 0, hv => exact Or.inl hv
  | 1, hv => exact Or.inl hv
  | 2, hv => exact Or.inl hv
  | 3, hv => exact Or.inl hv
  | 4, hv => exact Or.inl hv
  | 5, hv => exact Or.inr (Option.some.inj hv).symm
  | 6, hv => exact Or.inr (Option.some.inj hv).symm
  | n + 7, hv => cases hv
theorem V_sld (hC : Cx X G cc nL own ret d kk) (hX : Scr X G L xs) {i : Int} (hi : 0 ≤ i ∧ i < L) (hd : decode cc pc = .ok (.iaload, 1)) (k1 : V X G Q k (pc + 1) lv (aI (scI xs i) :: st) γ μ) : V X G Q k pc lv (aI i :: aS 52 :: st) γ μ := by
  intro o1 o2 o3 H locs ls hP hD hS hl hz
  have hL := hX.2.2.2
  have hir : iR i := by unfold iR; omega
  refine va_sld hC.1.1 hC.1.2.1 hX.1 hX.2.1 hX.2.2.1 hS (i := Int32.ofInt i) (oI_in hir hi.1 hi.2) hd ?_
  have h := k1 o1 (okc (scI_b xs i) (okt (okt o2))) o3 H locs ls hP hD hS hl hz
  have e : Int32.ofInt (scI xs i) = xs (Int32.ofInt i).toNatClampNeg := by
    unfold scI
    rw [oI_toInt, oI_cl hir]
  rw [← e]
  exact h
theorem V_scl (hC : Cx X G cc nL own ret d kk) (hX : Scr X G L xs) (hd : decode cc pc = .ok (.arraylength, 1)) (k1 : V X G Q k (pc + 1) lv (aI (L : Int) :: st) γ μ) : V X G Q k pc lv (aS 52 :: st) γ μ := by
  intro o1 o2 o3 H locs ls hP hD hS hl hz
  have hL := hX.2.2.2
  refine va_slen hC.1.1 hC.1.2.1 hX.1 hX.2.1 hX.2.2.1 hS hd ?_
  exact k1 o1 (okc (show iR (L : Int) by unfold iR; omega) (okt o2)) o3 H locs ls hP hD hS hl hz
/-- script[i + j] -/
theorem V_arg (hC : Cx X G cc nL own ret d kk) (hX : Scr X G L xs) {i : Int} (j : Int) (hj : 1 ≤ j ∧ j ≤ 5) (hi : 0 ≤ i ∧ i + 6 ≤ L) (h0 : lv[0]? = some (aS 52)) (h4 : lv[4]? = some (aI i)) (d0 : decode cc pc = .ok (.aload_n 0, 1)) (d1 : decode cc (pc + 1) = .ok (.iload 4, 2)) (d2 : decode cc (pc + 1 + 2) = .ok (.iconst j, 1)) (d3 : decode cc (pc + 1 + 2 + 1) = .ok (.iadd, 1)) (d4 : decode cc (pc + 1 + 2 + 1 + 1) = .ok (.iaload, 1))
    (k1 : V X G Q k (pc + 6) lv (aI (scI xs (i + j)) :: st) γ μ) : V X G Q k pc lv st γ μ := by
  have hL := hX.2.2.2
  exact V_aload_n_S hC (by decide) d0 rfl h0 (V_iload hC d1 h4 (V_iconst hC d2 (by unfold iR; omega) (V_iadd hC d3 (by unfold iR; omega) (V_sld hC hX (by omega) d4 k1))))
end LawRules
