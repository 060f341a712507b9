/-! between two calls of a turn -/
section LawKeys
variable {G : Gx} {γ γ1 γ2 μ m1 m2 σ σ1 : Mu} {w p z t : Int} {r r2 : Option AV}
/-- class called, reference not yet -/
def Mq (G : Gx) (γ μ σ1 σ : Mu) : Prop := (∃ w p, HallAt G γ 0 w p ∧ RepC μ 0 w σ1) ∧ ModG γ 518 ∧ RepR μ 518 σ
theorem keyA (hH : HallAt G γ 0 w p) (hG : ModG γ 518) (hRR : RepR μ 518 σ) (hW : Wf σ) (hR1 : RepC m1 0 w σ1) (f1 : frB μ m1 0 (0 + 518)) : Mq G γ m1 σ1 σ := ⟨⟨w, p, hH, hR1⟩, hG, hRR.frm hW (fun y j a b => f1 y j (Or.inr (by omega)))⟩
theorem keyW {E0 : String} (hH : HallAt G γ 0 w p) (hG : ModG γ 518) (hRR : RepR μ 518 σ) (hW : Wf σ) (ht : t = 0 ∨ t = 1)
    (hp : (r = some (aI 0) ∧ ∃ z9 m, PCo μ γ 0 w σ1 z t (some (aI z9)) γ1 m ∧ m1 = up m 558 0 z9) ∨ (r = some (aI 1) ∧ ∃ E, PCx E0 μ γ 0 w σ1 t E γ1 m1)) : r = some (aI t) ∧ Mq G γ1 m1 σ1 σ ∧ (t = 0 → m1 558 0 = z) := by
  rcases hp with ⟨h1, z9, m, ⟨q1, q2, q3, q4, q5⟩, q6⟩ | ⟨h1, E, -, q2, q3, q4, q5⟩
  · have e : z9 = z := Sum.inl.inj (Option.some.inj q2)
    subst e
    subst q3
    refine ⟨by rw [h1, q1], ⟨⟨w, p, hH, ?_⟩, hG, ?_⟩, fun _ => by rw [q6, up_same]⟩
    · rw [q6]
      exact q4.fr hH.wb (fun y j a b => up_ne (by omega))
    · rw [q6]
      exact hRR.frm hW (fun y j a b => by rw [up_ne (by omega)]; exact q5 y j (Or.inr (by omega)))
  · have e : t = 1 := by omega
    subst q3
    exact ⟨by rw [h1, e], keyA hH hG hRR hW q4 q5, fun h => absurd h q2⟩
theorem keyM (hM : Mq G γ1 m1 σ1 σ) (hS : ModS G 518) (hW1 : Wf σ1) (ho : shO G 558 12 1) (hp : PR m1 γ1 518 σ1 z t r2 γ2 m2) : r2 = some (aI z) ∧ m2 518 0 = t ∧ m2 558 0 = m1 558 0 ∧ Lq G γ2 m2 σ1 := by
  obtain ⟨h1, h2, h3, h4, h5⟩ := hp
  obtain ⟨⟨w, p, hH, hR⟩, hG, -⟩ := hM
  subst h2
  exact ⟨h1, h3, h5 _ _ (Or.inr (by omega)), ⟨w, p, hH, hR.fr hH.wb (fun y j a b => h5 y j (Or.inl (by omega)))⟩, hS, hG, h4, hW1, ho⟩
end LawKeys
section LawTail
variable {X : Mx} {G : Gx} {Q : State → Prop} {k pc : Nat} {lv st : List AV} {γ μ : Mu} {cc : ByteArray} {nL : Nat} {own : String} {ret : Option FieldType} {d kk : Nat} {v : Int}
/-- v != 0 -/
theorem V_b01 (hC : Cx X G cc nL own ret d kk) {o1 o2 : Int} (t1 t2 : Nat) (d1 : decode cc pc = .ok (.ifCond .eq o1, 3)) (e1 : (pc : Int) + o1 = (t1 : Int)) (d2 : decode cc (pc + 3) = .ok (.iconst 1, 1)) (d3 : decode cc (pc + 3 + 1) = .ok (.goto o2, 3)) (e2 : ((pc + 3 + 1 : Nat) : Int) + o2 = (t2 : Int)) (d4 : decode cc t1 = .ok (.iconst 0, 1)) (e3 : t1 + 1 = t2)
    (k1 : V X G Q k t2 lv (aI (if v = 0 then 0 else 1) :: st) γ μ) : V X G Q k pc lv (aI v :: st) γ μ := by
  subst e3
  refine V_if_eq hC d1 e1 (fun h => ?_) (fun h => ?_)
  · rw [if_pos h] at k1
    exact V_iconst hC d4 (by decide) k1
  · rw [if_neg h] at k1
    exact V_iconst hC d2 (by decide) (V_goto hC d3 e2 k1)
theorem V_bl (hC : Cx X G cc nL own ret d kk) {o1 o2 : Int} (t1 t2 : Nat) (d1 : decode cc pc = .ok (.ifCond .eq o1, 3)) (e1 : (pc : Int) + o1 = (t1 : Int)) (d2 : decode cc (pc + 3) = .ok (.lconst 1, 1)) (d3 : decode cc (pc + 3 + 1) = .ok (.goto o2, 3)) (e2 : ((pc + 3 + 1 : Nat) : Int) + o2 = (t2 : Int)) (d4 : decode cc t1 = .ok (.lconst 0, 1)) (e3 : t1 + 1 = t2)
    (k1 : V X G Q k t2 lv (aL (if v = 0 then 0 else 1) :: st) γ μ) : V X G Q k pc lv (aI v :: st) γ μ := by
  subst e3
  refine V_if_eq hC d1 e1 (fun h => ?_) (fun h => ?_)
  · rw [if_pos h] at k1
    exact V_lconst0 hC d4 k1
  · rw [if_neg h] at k1
    exact V_lconst1 hC d2 (V_goto hC d3 e2 k1)
end LawTail
