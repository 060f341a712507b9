/-! what stands outside our cells and nobody writes: the statics that a throw reads, the String constants, the three tables of steps -/
def sxS : List (String × Nat × String) := [("LampHall", 103, "the tape has not so many bytes"), ("LampHall", 142, "no such what"), ("LampHall", 218, "no such kind"), ("LampHall", 258, "no row is kept"), ("LampHall", 301, "nothing nearest is kept"), ("LampHall", 372, "no such lamp or button"), ("LampHall", 374, "neither state nor wish"), ("LampHall", 376, "not so many are bound"), ("LampHall$Reader", 105, "net"), ("LampHall$Reader", 113, "board"), ("LampHall$Reader", 130, "ring"), ("LampHall$Reader", 132, "both"), ("LampHall$Reader", 158, "self"), ("LampHall$Reader", 160, "side"), ("LampHall$Reader", 162, "slant"), ("LampHall$Reader", 164, "leap"), ("LampHall$Reader", 166, "row"), ("LampHall$Reader", 168, "column"), ("LampHall$Reader", 170, "wire"), ("LampHall$Reader", 172, "button"), ("LampHall$Reader", 174, "jam"), ("LampHall$Reader", 189, "at"), ("LampHall$Reader", 199, "by"), ("LampHall$Reader", 79, "colours")]
def sxLen : List Nat := sxS.map (fun q => q.2.2.length)
def sxByt : List (List Int32) := sxS.map (fun q => q.2.2.toList.map (fun ch => Int32.ofNat ch.toNat))
/-- the tables of steps: name, length, what stands in them -/
def sxT : List (String × List Int) := [("SIDE_STEPS", [1, 0, -1, 0, 0, 1, 0, -1]), ("SLANT_STEPS", [1, 1, 1, -1, -1, 1, -1, -1]), ("LEAP_STEPS", [1, 2, 1, -2, -1, 2, -1, -2, 2, 1, 2, -1, -2, 1, -2, -1])]
abbrev IAE : String := "java/lang/IllegalArgumentException"
abbrev NSE : String := "java/util/NoSuchElementException"
abbrev RTE : String := "java/lang/RuntimeException"
abbrev EXC : String := "java/lang/Exception"
def six13 : ByteArray := ⟨#[0x2a, 0x2b, 0xb7, 0x00, 0x0d, 0xb1]⟩
/-- words of a throw that don't go with the tables' good ones -/
def sxW : List Cond := [.castable IAE IAE, .castable NSE NSE, .declares (Bundle.initS RTE), .declares (Bundle.initS EXC), .declares (Bundle.initS Bundle.tN)]
/-- the links to private members of a nest mate -/
def sxN : List (String × Nat × MethodName × String) := [("LampHall", 9, ⟨"LampHall$Reader", "<init>", "()V"⟩, "LampHall"), ("LampHall", 18, ⟨"LampHall$Wiring", "<init>", "()V"⟩, "LampHall"), ("LampHall", 28, ⟨"LampHall$Algebra", "<init>", "()V"⟩, "LampHall"), ("LampHall$Algebra", 11, ⟨"LampHall$Span", "<init>", "()V"⟩, "LampHall"), ("LampHall", 42, ⟨"LampHall$Presses", "<init>", "()V"⟩, "LampHall"), ("LampHall", 64, ⟨"LampHall$Search", "<init>", "()V"⟩, "LampHall"), ("LampHall", 71, ⟨"LampHall$Walk", "<init>", "()V"⟩, "LampHall"), ("LampHall", 78, ⟨"LampHall$Cycle", "<init>", "()V"⟩, "LampHall"), ("LampHall$Wiring", 90, ⟨"LampHall", "addTimes", "([I[IIII)V"⟩, "LampHall"), ("LampHall$Span", 54, ⟨"LampHall", "addTimes", "([I[IIII)V"⟩, "LampHall"), ("LampHall$Span", 66, ⟨"LampHall", "inverse", "(II)I"⟩, "LampHall"), ("LampHall$Span", 70, ⟨"LampHall", "mod", "(II)I"⟩, "LampHall"), ("LampHall$Walk", 69, ⟨"LampHall", "mod", "(II)I"⟩, "LampHall"), ("LampHall$Wiring", 49, ⟨"LampHall", "mod", "(II)I"⟩, "LampHall")]
/-- the formatter that a failed index check would use: a reference, or null -/
def sxF (G : Gx) : AV := if G.sv 24 = 0 then aR (-1) else aS 51
abbrev PRE : String := "jdk/internal/util/Preconditions"
abbrev sioD : String := "Ljava/util/function/BiFunction;"
def Sx (G : Gx) (U : State) (H : Heap) : Prop :=
  vx_Zq Bundle.tN "UNASSIGNED_STACK" Bundle.steD G.A U H ∧ vx_Zq Bundle.tN "SUPPRESSED_SENTINEL" Bundle.listD G.A U H ∧ (va_Z "java/lang/String" "COMPACT_STRINGS" "Z" (.int 1) G.A U H ∧ va_Z PRE "SIOOBE_FORMATTER" sioD (conc G (sxF G)) G.A U H ∧ ∀ i : Nat, i < 24 → G.sk (27 + i) = G.sv i) ∧ vk_S 24 sxLen sxByt G.sk G.sv G.A U H ∧ (∀ (i : Nat) (q : String × Nat × String), sxS[i]? = some q → vk_R q.1 q.2.1 q.2.2 (G.sk i) U) ∧
    (∀ q ∈ sxN, va_Nw (.methodLinkNest q.1 q.2.1 q.2.2.1 q.2.2.2) U) ∧ (∀ w ∈ sxW, va_Nw w U) ∧ ∀ (i : Nat) (q : String × List Int), sxT[i]? = some q → va_Z "LampHall$Wiring" q.1 "[I" (.ref (G.sk (24 + i))) G.A U H ∧ va_T .int (G.sk (24 + i)) q.2.length (fun j => .int (Int32.ofInt (q.2.getD j 0))) G.A U H
theorem Sx.warm {G : Gx} {s U : State} {H0 H : Heap} (hW : s.WarmedH U.vm) (hq : ∀ a : Nat, a < H0.size → ¬ G.A a → H[a]? = H0[a]?) (h : Sx G s H0) : Sx G U H := by
  obtain ⟨h1, h2, h3, h4, h5, h7, h8, h6⟩ := h
  exact ⟨vx_Zq.moved hW.alike (h1.kept hq), vx_Zq.moved hW.alike (h2.kept hq), ⟨va_Z.moved hW.alike (h3.1.kept hq), va_Z.moved hW.alike (h3.2.1.kept hq), h3.2.2⟩, vk_S.moved hW.alike (h4.kept hq), fun i q hi => vk_R.warm hW (h5 i q hi), fun q hq => va_Nw.warmM hW (h7 q hq), fun w hw => (by
    have h9 := h8 w hw
    simp only [sxW, List.mem_cons, List.not_mem_nil, or_false] at hw
    rcases hw with rfl | rfl | rfl | rfl | rfl
    · exact va_Nw.warmC hW h9
    · exact va_Nw.warmC hW h9
    · exact va_Nw.warmD hW h9
    · exact va_Nw.warmD hW h9
    · exact va_Nw.warmD hW h9), fun i q hi => ⟨va_Z.moved hW.alike ((h6 i q hi).1.kept hq), va_T.moved hW.alike ((h6 i q hi).2.kept hq)⟩⟩
/-- the method that is walked: its code, its class, its kind, d frames and k cells of room -/
def Cx (X : Mx) (G : Gx) (cc : ByteArray) (nL : Nat) (own : String) (ret : Option FieldType) (d kk : Nat) : Prop :=
  CallFix X.p X.m X.c cc nL X.s X.a TB own ∧ X.t.sig.returnType = ret ∧ X.t.locks = false ∧ va_K G.D vwCl (gtys G) X.s ∧ (∀ q, X.s.heap.size ≤ q → G.A q) ∧ Sx G X.s X.s.heap ∧ X.l.stackTraces = false ∧ (d ≤ X.R.frames ∧ 64 * d ≤ X.R.locals ∧ kk ≤ X.R.cells ∧ 6 * kk ≤ X.R.slots)
theorem inT {ws : List Cond} (h : ∀ w ∈ ws, w ∈ lw_tbl) (g : ws.all goodWord = true) : ∀ w ∈ ws, w ∈ TB := fun w hw => List.mem_filter.mpr ⟨h w hw, List.all_eq_true.mp g w hw⟩

theorem itX0 : ∀ w ∈ wsX00, w ∈ TB := inT inX0 (by decide +kernel)
theorem itX1 : ∀ w ∈ wsX10, w ∈ TB := inT inX1 (by decide +kernel)
theorem itX2 : ∀ w ∈ wsX20, w ∈ TB := inT inX2 (by decide +kernel)
theorem itX3 : ∀ w ∈ wsX30, w ∈ TB := inT inX3 (by decide +kernel)
theorem itX4 : ∀ w ∈ wsX40, w ∈ TB := inT inX4 (by decide +kernel)
theorem itX5 : ∀ w ∈ wsX50, w ∈ TB := inT inX5 (by decide +kernel)
theorem itX6 : ∀ w ∈ wsX60, w ∈ TB := inT inX6 (by decide +kernel)
theorem itX7 : ∀ w ∈ wsX70, w ∈ TB := inT inX7 (by decide +kernel)
theorem itX8 : ∀ w ∈ wsX80, w ∈ TB := inT inX8 (by decide +kernel)
theorem itX9 : ∀ w ∈ wsX90, w ∈ TB := inT inX9 (by decide +kernel)
