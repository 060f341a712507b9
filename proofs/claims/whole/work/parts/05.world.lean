/-! values, cells, the world of our cells: everything is an Int -/
abbrev AV : Type := Int ⊕ (Int ⊕ (Int ⊕ Int))
abbrev aI (z : Int) : AV := .inl z
abbrev aL (z : Int) : AV := .inr (.inl z)
abbrev aR (z : Int) : AV := .inr (.inr (.inl z))
/-- 0 and more: a String constant; less: a local of which nothing is known -/
abbrev aS (z : Int) : AV := .inr (.inr (.inr z))
abbrev aD : AV := aS (-1)
abbrev iR (z : Int) : Prop := -2147483648 ≤ z ∧ z < 2147483648
abbrev lR (z : Int) : Prop := -9223372036854775808 ≤ z ∧ z < 9223372036854775808
def okV : AV → Prop
  | .inl z => iR z
  | .inr (.inl z) => lR z
  | .inr (.inr _) => True
def dead : AV → Bool
  | .inr (.inr (.inr z)) => decide (z < 0)
  | _ => false
/-- machine: program, launch, environment, room, state at the call, method, arguments, frames below, method, code -/
abbrev Mx : Type := Program × Launch × Env × Room × State × MethodId × Array Value × List Frame × Method × Code
abbrev Mx.p (X : Mx) : Program := X.1
abbrev Mx.l (X : Mx) : Launch := X.2.1
abbrev Mx.e (X : Mx) : Env := X.2.2.1
abbrev Mx.R (X : Mx) : Room := X.2.2.2.1
abbrev Mx.s (X : Mx) : State := X.2.2.2.2.1
abbrev Mx.m (X : Mx) : MethodId := X.2.2.2.2.2.1
abbrev Mx.a (X : Mx) : Array Value := X.2.2.2.2.2.2.1
abbrev Mx.b (X : Mx) : List Frame := X.2.2.2.2.2.2.2.1
abbrev Mx.t (X : Mx) : Method := X.2.2.2.2.2.2.2.2.1
abbrev Mx.c (X : Mx) : Code := X.2.2.2.2.2.2.2.2.2
/-- world: class numbers, array classes, which cells are ours, how many, their addresses, their shapes, the String constants' addresses and their bytes' -/
abbrev Gx : Type := va_G × (Nat → ClassId) × (Nat → Prop) × Nat × (Int → Nat) × (Int → Nat × Nat) × (Nat → Nat) × (Nat → Nat)
abbrev Gx.D (G : Gx) : va_G := G.1
abbrev Gx.cA (G : Gx) : Nat → ClassId := G.2.1
abbrev Gx.A (G : Gx) : Nat → Prop := G.2.2.1
abbrev Gx.n (G : Gx) : Nat := G.2.2.2.1
abbrev Gx.ad (G : Gx) : Int → Nat := G.2.2.2.2.1
abbrev Gx.sh (G : Gx) : Int → Nat × Nat := G.2.2.2.2.2.1
abbrev Gx.sk (G : Gx) : Nat → Nat := G.2.2.2.2.2.2.1
abbrev Gx.sv (G : Gx) : Nat → Nat := G.2.2.2.2.2.2.2
def rfo (G : Gx) (r : Int) : Option Nat := if r < 0 then none else some (G.ad r)
def conc (G : Gx) : AV → Value
  | .inl z => .int (Int32.ofInt z)
  | .inr (.inl z) => .long (Int64.ofInt z)
  | .inr (.inr (.inl r)) => va_rf (rfo G r)
  | .inr (.inr (.inr k)) => .ref (G.sk k.toNat)
def tyF : Nat → Nat → FieldType
  | 0 => tyX0
  | 1 => tyX1
  | 2 => tyX2
  | 3 => tyX3
  | 4 => tyX4
  | 5 => tyX5
  | 6 => tyX6
  | 7 => tyX7
  | 8 => tyX8
  | _ => tyX9
def fval (G : Gx) (ty : FieldType) (g z : Int) : Value := match ty with
  | .long => .long (Int64.ofInt z)
  | .object _ => va_rf (rfo G g)
  | .array _ => va_rf (rfo G g)
  | _ => .int (Int32.ofInt z)
/-- shapes: 0 .. 9 objects of that class; 10 byte, 11 int, 12 long, 13 boolean arrays; 14 arrays of int arrays -/
def cellE (G : Gx) (q : Nat × Nat) (g z : Int → Int) : va_E :=
  if q.1 < 10 then .inr (q.1, (List.range q.2).map (fun j => fval G (tyF q.1 j) (g j) (z j)))
  else if q.1 = 12 then .inl (G.cA 12, q.2, .inr (.inl (fun j => Int64.ofInt (z j))))
  else if q.1 = 14 then .inl (G.cA 14, q.2, .inr (.inr (.inr (.inr (fun j => rfo G (g j))))))
  else .inl (G.cA q.1, q.2, .inl (fun j => Int32.ofInt (z j)))
def wld (G : Gx) (γ μ : Int → Int → Int) : va_W := (List.range G.n).map (fun (k : Nat) => (G.ad k, cellE G (G.sh k) (γ k) (μ k)))
abbrev gtys (G : Gx) : List (ClassId × FieldType) := [(G.cA 10, .byte), (G.cA 11, .int), (G.cA 12, .long), (G.cA 13, .boolean), (G.cA 14, .array .int)]
theorem wld_get {G : Gx} {γ μ : Int → Int → Int} {a : Int} (h0 : 0 ≤ a) (h1 : a < G.n) : (wld G γ μ)[a.toNat]? = some (G.ad a, cellE G (G.sh a) (γ a) (μ a)) := by
  have h : a.toNat < G.n := by omega
  have e : ((a.toNat : Nat) : Int) = a := by omega
  simp only [wld, List.getElem?_map, List.getElem?_range h, Option.map_some, e]
theorem wld_set {G : Gx} {γ μ γ' μ' : Int → Int → Int} {a : Int} (h0 : 0 ≤ a) (hg : ∀ k, k ≠ a → γ' k = γ k) (hm : ∀ k, k ≠ a → μ' k = μ k) : (wld G γ μ).set a.toNat (G.ad a, cellE G (G.sh a) (γ' a) (μ' a)) = wld G γ' μ' := by
  apply List.ext_getElem?
  intro j
  have e : ((a.toNat : Nat) : Int) = a := by omega
  rw [List.getElem?_set]
  by_cases hj : a.toNat = j
  · subst hj
    by_cases hn : a.toNat < G.n
    · rw [if_pos rfl, if_pos (by simp [wld]; exact hn), wld_get h0 (by omega)]
    · rw [if_pos rfl, if_neg (by simp [wld]; omega)]
      symm
      apply List.getElem?_eq_none
      simp only [wld, List.length_map, List.length_range]
      omega
  · rw [if_neg hj]
    simp only [wld, List.getElem?_map]
    by_cases hn : j < G.n
    · rw [List.getElem?_range hn]
      simp only [Option.map_some]
      rw [hg (j : Int) (by omega), hm (j : Int) (by omega)]
    · rw [List.getElem?_eq_none (by rw [List.length_range]; omega)]
      rfl
def isLong (t : Nat) (i : Int) : Prop := t = 12 ∨ (t = 9 ∧ i = 22)
/-- every number that stands in a cell is one that its place can hold -/
def okM (G : Gx) (μ : Int → Int → Int) : Prop := ∀ a i, lR (μ a i) ∧ (¬ isLong (G.sh a).1 i → iR (μ a i))
def up (μ : Int → Int → Int) (a i z : Int) : Int → Int → Int := fun b j => if b = a ∧ j = i then z else μ b j
theorem up_same {μ : Int → Int → Int} {a i z : Int} : up μ a i z a i = z := by simp [up]
theorem up_ne {μ : Int → Int → Int} {a i z b j : Int} (h : ¬ (b = a ∧ j = i)) : up μ a i z b j = μ b j := by simp only [up, if_neg h]
theorem up_off {μ : Int → Int → Int} {a i z b : Int} (h : b ≠ a) : up μ a i z b = μ b := by funext j; exact up_ne (fun q => h q.1)
/-- locals -/
def lvOk (G : Gx) (ls : Array Slot) (lv : List AV) : Prop := lv_wf ls ∧ lv.length = ls.size ∧ ∀ (i : Nat) (v : AV), lv[i]? = some v → dead v = false → ls[i]? = some (.val (conc G v))
def V (X : Mx) (G : Gx) (Q : State → Prop) (k pc : Nat) (lv st : List AV) (γ μ : Int → Int → Int) : Prop :=
  (∀ v ∈ lv, okV v) → (∀ v ∈ st, okV v) → okM G μ → ∀ (H : Heap) (locs : List Loc) (ls : Array Slot), va_P G.D vwCl (wld G γ μ) H → va_D G.A (wld G γ μ) → va_S G.A X.s.heap H locs → lvOk G ls lv → ls.size = X.c.maxLocals →
    W X.p X.l X.e X.R X.s X.m X.a X.b X.t X.c H locs k (6 * k) Q (F0 X.m pc ls (st.map (conc G)))
def TB : List Cond := lw_tbl.filter goodWord
theorem TB_in {w : Cond} (h : w ∈ TB) : w ∈ lw_tbl := (List.mem_filter.mp h).1
theorem TB_of (i : Nat) {w : Cond} (h : lw_tbl[i]? = some w) (g : goodWord w = true) : w ∈ TB := List.mem_filter.mpr ⟨List.mem_of_getElem? h, g⟩
theorem TB_good {w : Cond} (h : w ∈ TB) : (w.onTables && w.keeps) = true ∨ ∃ ty, w = .arrayClass ty := good_of_word (List.mem_filter.mp h).2
theorem TB_goodIn : GoodIn TB TB := fun _ h => ⟨h, TB_good h⟩
/-- the words of a method: its code, and all that the tables say -/
def wsY (y : MethodName) (cc : ByteArray) (nL : Nat) (ret : Option FieldType) : List Cond := Cond.code y cc nL ret :: TB
theorem wsY_good {y : MethodName} {cc : ByteArray} {nL : Nat} {ret : Option FieldType} (h : Cond.code y cc nL ret ∈ TB) : GoodIn TB (wsY y cc nL ret) := fun w hw => by
  rcases List.mem_cons.mp hw with rfl | hw
  · exact ⟨h, TB_good h⟩
  · exact TB_goodIn w hw
