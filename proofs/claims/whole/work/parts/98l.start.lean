/-! what the constructors have made -/
theorem shL.o {G : Gx} {r a : Int} {L : List (Nat × Nat)} {t n : Nat} (hs : shL G r L) (h0 : 0 ≤ r) (hn : r + L.length ≤ (G.n : Int)) (i : Nat) (hi : i < L.length) (e : L.getD i (0, 0) = (t, n)) (ha : a = r + i) : shO G a t n := by
  subst ha
  exact ⟨by omega, by omega, (hs i hi).trans e⟩
theorem shL.r {G : Gx} {r a i : Int} {L : List (Nat × Nat)} {t n : Nat} (hs : shL G r L) (h0 : 0 ≤ r) (hn : r + L.length ≤ (G.n : Int)) (o k : Nat) (hk : o + k ≤ L.length) (e : ∀ j, j < k → L.getD (o + j) (0, 0) = (t, n)) (hi : 0 ≤ i ∧ i < k) (ha : a = r + o + i) : shO G a t n := by
  have h := hs.o (a := a) h0 hn (o + i.toNat) (by omega) (e i.toNat (by omega)) (by omega)
  exact h
section Start
variable {G : Gx} {γ γ' : Mu} {r : Int}
theorem gi3_out {a j : Int} (h : a < r ∨ r + 3 ≤ a) : gi3 γ r a j = γ a j := by simp (disch := omega) only [gi3, up_ne]
theorem gi7_out {a j : Int} (h : a < r ∨ r + 77 ≤ a) : gi7 γ r a j = γ a j := by simp (disch := omega) only [gi7, innR, up_ne, row_off]
theorem gi5_out {a j : Int} (h : a < r ∨ r + 78 ≤ a) : gi5 γ r a j = γ a j := by simp (disch := omega) only [gi5, innR, up_ne, row_off]
theorem gi0_out {a j : Int} (h : a < r ∨ r + 315 ≤ a) : gi0 γ r a j = γ a j := by simp (disch := omega) only [gi0, gi5_out, up_ne]
theorem gi2_out {a j : Int} (h : a < r ∨ r + 2 ≤ a) : gi2 γ r a j = γ a j := by simp (disch := omega) only [gi2, up_ne]
theorem gi4_out {a j : Int} (h : a < r ∨ r + 20 ≤ a) : gi4 γ r a j = γ a j := by simp (disch := omega) only [gi4, innR, up_ne, row_off]
theorem gi6_out {a j : Int} (h : a < r ∨ r + 6 ≤ a) : gi6 γ r a j = γ a j := by simp (disch := omega) only [gi6, up_ne]
theorem gi1_out {a j : Int} (h : a < r ∨ r + 5 ≤ a) : gi1 γ r a j = γ a j := by simp (disch := omega) only [gi1, up_ne]
theorem read_At (hs : shL G r L3) (h0 : 0 ≤ r) (hn : r + L3.length ≤ (G.n : Int)) (hf : ∀ a j, r ≤ a → a < r + 3 → γ' a j = gi3 γ r a j) : ReadAt G γ' r := by
  refine ⟨hs.o h0 hn 0 (by decide) (by decide) (by omega), ?_, hs.o h0 hn 1 (by decide) (by decide) (by omega), ?_, hs.o h0 hn 2 (by decide) (by decide) (by omega)⟩
  all_goals rw [hf _ _ (by omega) (by omega)]
  all_goals simp (disch := omega) only [gi3, up_ne, up_same]
theorem press_At (hs : shL G r L2) (h0 : 0 ≤ r) (hn : r + L2.length ≤ (G.n : Int)) (hf : ∀ a j, r ≤ a → a < r + 2 → γ' a j = gi2 γ r a j) : PressAt G γ' r := by
  refine ⟨hs.o h0 hn 0 (by decide) (by decide) (by omega), ?_, hs.o h0 hn 1 (by decide) (by decide) (by omega)⟩
  rw [hf _ _ (by omega) (by omega)]
  simp (disch := omega) only [gi2, up_ne, up_same]
theorem cyc_At (hs : shL G r L1) (h0 : 0 ≤ r) (hn : r + L1.length ≤ (G.n : Int)) (hf : ∀ a j, r ≤ a → a < r + 5 → γ' a j = gi1 γ r a j) : CycAt G γ' r := by
  refine ⟨hs.o h0 hn 0 (by decide) (by decide) (by omega), ?_, hs.o h0 hn 1 (by decide) (by decide) (by omega), ?_, hs.o h0 hn 2 (by decide) (by decide) (by omega), ?_, hs.o h0 hn 3 (by decide) (by decide) (by omega), ?_, hs.o h0 hn 4 (by decide) (by decide) (by omega)⟩
  all_goals rw [hf _ _ (by omega) (by omega)]
  all_goals simp (disch := omega) only [gi1, up_ne, up_same]
theorem walk_At (hs : shL G r L6) (h0 : 0 ≤ r) (hn : r + L6.length ≤ (G.n : Int)) (hf : ∀ a j, r ≤ a → a < r + 6 → γ' a j = gi6 γ r a j) : WalkAt G γ' r := by
  refine ⟨hs.o h0 hn 0 (by decide) (by decide) (by omega), ?_, hs.o h0 hn 1 (by decide) (by decide) (by omega), ?_, hs.o h0 hn 2 (by decide) (by decide) (by omega), ?_, hs.o h0 hn 3 (by decide) (by decide) (by omega), ?_, hs.o h0 hn 4 (by decide) (by decide) (by omega), ?_, hs.o h0 hn 5 (by decide) (by decide) (by omega)⟩
  all_goals rw [hf _ _ (by omega) (by omega)]
  all_goals simp (disch := omega) only [gi6, up_ne, up_same]
theorem srch_At (hs : shL G r L4) (h0 : 0 ≤ r) (hn : r + L4.length ≤ (G.n : Int)) (hf : ∀ a j, r ≤ a → a < r + 20 → γ' a j = gi4 γ r a j) : SrchAt G γ' r := by
  refine ⟨hs.o h0 hn 0 (by decide) (by decide) (by omega), ?_, hs.o h0 hn 1 (by decide) (by decide) (by omega), ?_, hs.o h0 hn 2 (by decide) (by decide) (by omega), ?_, hs.o h0 hn 17 (by decide) (by decide) (by omega), ?_, hs.o h0 hn 18 (by decide) (by decide) (by omega), ?_, hs.o h0 hn 19 (by decide) (by decide) (by omega), fun i z1 z2 => ⟨?_, hs.r h0 hn 3 14 (by decide) (by decide) ⟨z1, z2⟩ (by omega)⟩⟩
  all_goals rw [hf _ _ (by omega) (by omega)]
  all_goals simp (disch := omega) only [gi4, innR, up_ne, up_same, row_off, row_in]
  all_goals omega
theorem wir_At (hs : shL G r L7) (h0 : 0 ≤ r) (hn : r + L7.length ≤ (G.n : Int)) (hf : ∀ a j, r ≤ a → a < r + 77 → γ' a j = gi7 γ r a j) : WirAt G γ' r := by
  refine ⟨hs.o h0 hn 0 (by decide) (by decide) (by omega), ?_, hs.o h0 hn 1 (by decide) (by decide) (by omega), ?_, hs.o h0 hn 38 (by decide) (by decide) (by omega), ?_, hs.o h0 hn 39 (by decide) (by decide) (by omega), ?_, hs.o h0 hn 40 (by decide) (by decide) (by omega), fun i z1 z2 => ⟨⟨?_, hs.r h0 hn 2 36 (by decide) (by decide) ⟨z1, z2⟩ (by omega)⟩, ?_, hs.r h0 hn 41 36 (by decide) (by decide) ⟨z1, z2⟩ (by omega)⟩⟩
  all_goals rw [hf _ _ (by omega) (by omega)]
  all_goals simp (disch := omega) only [gi7, innR, up_ne, up_same, row_off, row_in]
  all_goals omega
theorem span_At (hs : shL G r L5) (h0 : 0 ≤ r) (hn : r + L5.length ≤ (G.n : Int)) (hf : ∀ a j, r ≤ a → a < r + 78 → γ' a j = gi5 γ r a j) : SpanAt G γ' r := by
  refine ⟨hs.o h0 hn 0 (by decide) (by decide) (by omega), ?_, hs.o h0 hn 1 (by decide) (by decide) (by omega), ?_, hs.o h0 hn 38 (by decide) (by decide) (by omega), ?_, hs.o h0 hn 39 (by decide) (by decide) (by omega), ?_, hs.o h0 hn 76 (by decide) (by decide) (by omega), ?_, hs.o h0 hn 77 (by decide) (by decide) (by omega), fun i z1 z2 => ⟨⟨?_, hs.r h0 hn 2 36 (by decide) (by decide) ⟨z1, z2⟩ (by omega)⟩, ?_, hs.r h0 hn 40 36 (by decide) (by decide) ⟨z1, z2⟩ (by omega)⟩⟩
  all_goals rw [hf _ _ (by omega) (by omega)]
  all_goals simp (disch := omega) only [gi5, innR, up_ne, up_same, row_off, row_in]
  all_goals omega
end Start
