/-! what stands outside our cells at the start -/
abbrev TG : Cond := Jvm.Cond.and given_1 narrow_1
def sxTm (i : Nat) : Term := match sxS[i]? with
  | some q => .string q.1 q.2.1
  | none => .int 0
def sxBase : List Nat := [74, 374, 541, 578, 618, 407, 451, 496, 120, 129, 141, 153, 166, 180, 195, 212, 229, 246, 267, 287, 310, 331, 352, 108]
def sxPairs : List (Nat × Nat) := [(0, 23), (0, 8), (23, 8), (0, 9), (23, 9), (8, 9), (0, 10), (23, 10), (8, 10), (9, 10), (0, 11), (23, 11), (8, 11), (9, 11), (10, 11), (0, 12), (23, 12), (8, 12), (9, 12), (10, 12), (11, 12), (0, 13), (23, 13), (8, 13), (9, 13), (10, 13), (11, 13), (12, 13), (0, 14), (23, 14), (8, 14), (9, 14), (10, 14), (11, 14), (12, 14), (13, 14), (0, 15), (23, 15), (8, 15), (9, 15), (10, 15), (11, 15), (12, 15), (13, 15), (14, 15), (0, 16), (23, 16), (8, 16), (9, 16), (10, 16), (11, 16), (12, 16), (13, 16), (14, 16), (15, 16), (0, 17), (23, 17), (8, 17), (9, 17), (10, 17), (11, 17), (12, 17), (13, 17), (14, 17), (15, 17), (16, 17), (0, 18), (23, 18), (8, 18), (9, 18), (10, 18), (11, 18), (12, 18), (13, 18), (14, 18), (15, 18), (16, 18), (17, 18), (0, 19), (23, 19), (8, 19), (9, 19), (10, 19), (11, 19), (12, 19), (13, 19), (14, 19), (15, 19), (16, 19), (17, 19), (18, 19), (0, 20), (23, 20), (8, 20), (9, 20), (10, 20), (11, 20), (12, 20), (13, 20), (14, 20), (15, 20), (16, 20), (17, 20), (18, 20), (19, 20), (0, 21), (23, 21), (8, 21), (9, 21), (10, 21), (11, 21), (12, 21), (13, 21), (14, 21), (15, 21), (16, 21), (17, 21), (18, 21), (19, 21), (20, 21), (0, 22), (23, 22), (8, 22), (9, 22), (10, 22), (11, 22), (12, 22), (13, 22), (14, 22), (15, 22), (16, 22), (17, 22), (18, 22), (19, 22), (20, 22), (21, 22), (0, 1), (23, 1), (8, 1), (9, 1), (10, 1), (11, 1), (12, 1), (13, 1), (14, 1), (15, 1), (16, 1), (17, 1), (18, 1), (19, 1), (20, 1), (21, 1), (22, 1), (0, 5), (23, 5), (8, 5), (9, 5), (10, 5), (11, 5), (12, 5), (13, 5), (14, 5), (15, 5), (16, 5), (17, 5), (18, 5), (19, 5), (20, 5), (21, 5), (22, 5), (1, 5), (0, 6), (23, 6), (8, 6), (9, 6), (10, 6), (11, 6), (12, 6), (13, 6), (14, 6), (15, 6), (16, 6), (17, 6), (18, 6), (19, 6), (20, 6), (21, 6), (22, 6), (1, 6), (5, 6), (0, 7), (23, 7), (8, 7), (9, 7), (10, 7), (11, 7), (12, 7), (13, 7), (14, 7), (15, 7), (16, 7), (17, 7), (18, 7), (19, 7), (20, 7), (21, 7), (22, 7), (1, 7), (5, 7), (6, 7), (0, 2), (23, 2), (8, 2), (9, 2), (10, 2), (11, 2), (12, 2), (13, 2), (14, 2), (15, 2), (16, 2), (17, 2), (18, 2), (19, 2), (20, 2), (21, 2), (22, 2), (1, 2), (5, 2), (6, 2), (7, 2), (0, 3), (23, 3), (8, 3), (9, 3), (10, 3), (11, 3), (12, 3), (13, 3), (14, 3), (15, 3), (16, 3), (17, 3), (18, 3), (19, 3), (20, 3), (21, 3), (22, 3), (1, 3), (5, 3), (6, 3), (7, 3), (2, 3), (0, 4), (23, 4), (8, 4), (9, 4), (10, 4), (11, 4), (12, 4), (13, 4), (14, 4), (15, 4), (16, 4), (17, 4), (18, 4), (19, 4), (20, 4), (21, 4), (22, 4), (1, 4), (5, 4), (6, 4), (7, 4), (2, 4), (3, 4)]
def sxPP : List Nat := [119, 127, 128, 138, 139, 140, 149, 150, 151, 152, 161, 162, 163, 164, 165, 174, 175, 176, 177, 178, 179, 188, 189, 190, 191, 192, 193, 194, 204, 205, 206, 207, 208, 209, 210, 211, 220, 221, 222, 223, 224, 225, 226, 227, 228, 236, 237, 238, 239, 240, 241, 242, 243, 244, 245, 256, 257, 258, 259, 260, 261, 262, 263, 264, 265, 266, 275, 276, 277, 278, 279, 280, 281, 282, 283, 284, 285, 286, 297, 298, 299, 300, 301, 302, 303, 304, 305, 306, 307, 308, 309, 317, 318, 319, 320, 321, 322, 323, 324, 325, 326, 327, 328, 329, 330, 337, 338, 339, 340, 341, 342, 343, 344, 345, 346, 347, 348, 349, 350, 351, 358, 359, 360, 361, 362, 363, 364, 365, 366, 367, 368, 369, 370, 371, 372, 373, 390, 391, 392, 393, 394, 395, 396, 397, 398, 399, 400, 401, 402, 403, 404, 405, 406, 433, 434, 435, 436, 437, 438, 439, 440, 441, 442, 443, 444, 445, 446, 447, 448, 449, 450, 477, 478, 479, 480, 481, 482, 483, 484, 485, 486, 487, 488, 489, 490, 491, 492, 493, 494, 495, 521, 522, 523, 524, 525, 526, 527, 528, 529, 530, 531, 532, 533, 534, 535, 536, 537, 538, 539, 540, 557, 558, 559, 560, 561, 562, 563, 564, 565, 566, 567, 568, 569, 570, 571, 572, 573, 574, 575, 576, 577, 596, 597, 598, 599, 600, 601, 602, 603, 604, 605, 606, 607, 608, 609, 610, 611, 612, 613, 614, 615, 616, 617, 645, 646, 647, 648, 649, 650, 651, 652, 653, 654, 655, 656, 657, 658, 659, 660, 661, 662, 663, 664, 665, 666, 667]
def sxWant (i : Nat) : List Cond := [.exactly (sxTm i) "java/lang/String", .eq (.field (sxTm i) "java/lang/String" "coder" "B") (.int 0), .arrayOf (.field (sxTm i) "java/lang/String" "value" "[B") .byte, .eq (.length (.field (sxTm i) "java/lang/String" "value" "[B")) (.int (Int32.ofNat (sxLen.getD i 0)))] ++ (List.range (sxLen.getD i 0)).map (fun j => .eq (.elem (.field (sxTm i) "java/lang/String" "value" "[B") (.int (Int32.ofNat j))) (.int ((sxByt.getD i []).getD j 0)))
theorem sx_at : ∀ i, i < 24 → ((flatC TG).drop (sxBase.getD i 0)).take (sxWant i).length = sxWant i := by decide +kernel
theorem sx_pr : sxPP.map (fun i => (flatC TG)[i]?) = sxPairs.map (fun q => some (Cond.not (Cond.eq (sxTm q.1) (sxTm q.2)))) := by decide +kernel
theorem sx_all0 : ((List.range 24).all fun i => (List.range 24).all fun j => i == j || (sxPairs.contains (i, j) || sxPairs.contains (j, i))) = true := by decide +kernel
theorem sx_all (i : Nat) (hi : i < 24) (j : Nat) (hj : j < 24) (h : i ≠ j) : (i, j) ∈ sxPairs ∨ (j, i) ∈ sxPairs := by
  have h1 := List.all_eq_true.mp (List.all_eq_true.mp sx_all0 i (List.mem_range.mpr hi)) j (List.mem_range.mpr hj)
  rcases (Bool.or_eq_true _ _).mp h1 with h2 | h2
  · exact absurd (beq_iff_eq.mp h2) h
  · rcases (Bool.or_eq_true _ _).mp h2 with h3 | h3
    · exact Or.inl (List.contains_iff_mem.mp h3)
    · exact Or.inr (List.contains_iff_mem.mp h3)
theorem sx_in {i : Nat} {w : Cond} (hi : i < 24) (h : w ∈ sxWant i) : w ∈ flatC TG := by
  rw [← sx_at i hi] at h
  exact List.mem_of_mem_drop (List.mem_of_mem_take h)
theorem sx_pin {q : Nat × Nat} (h : q ∈ sxPairs) : Cond.not (Cond.eq (sxTm q.1) (sxTm q.2)) ∈ flatC TG := by
  have h2 : some (Cond.not (Cond.eq (sxTm q.1) (sxTm q.2))) ∈ sxPairs.map (fun q => some (Cond.not (Cond.eq (sxTm q.1) (sxTm q.2)))) := List.mem_map.mpr ⟨q, h, rfl⟩
  rw [← sx_pr] at h2
  obtain ⟨i, -, hi⟩ := List.mem_map.mp h2
  exact List.mem_of_getElem? hi
def stT (n : String) : Term := .static "LampHall$Wiring" n "[I"
def sxTWant (q : String × List Int) : List Cond := [.arrayOf (stT q.1) .int, .eq (.length (stT q.1)) (.int (Int32.ofNat q.2.length))] ++ (List.range q.2.length).map (fun j => .eq (.elem (stT q.1) (.int (Int32.ofNat j))) (.int (Int32.ofInt (q.2.getD j 0))))
def sxTB : List Nat := [12, 23, 34]
theorem sxT_at : ∀ i, i < 3 → ∀ q, sxT[i]? = some q → ((flatC TG).drop (sxTB.getD i 0)).take (sxTWant q).length = sxTWant q := fun i hi q hq => by
  match i, hi, hq with
  | 0, _, hq => cases hq; decide +kernel
  | 1, _, hq => cases hq; decide +kernel
  | 2, _, hq => cases hq; decide +kernel
theorem ev_of {args : Array Value} {s : State} {a : Term} {n : Int32} (h : (Cond.eq a (.int n)).before args s = true) : a.eval args s none [] s = some (.int n) := by
  obtain ⟨w, h1, h2⟩ := Cond.eq_one h
  cases h2
  exact h1
section Begin
variable {args : Array Value} {s : State}
theorem str_of (hg : TG.before args s = true) {A : Nat → Prop} (hA : ∀ a : Nat, a < s.heap.size → ¬ A a) : ∃ adK adV : Nat → Nat, vk_S 24 sxLen sxByt adK adV A s s.heap ∧ ∀ i : Nat, i < 24 → (sxTm i).eval args s none [] s = some (.ref (adK i)) := by
  have hf := flat_of_before _ hg
  refine vk_Sof (by decide +kernel) (fun i hi => hf _ (sx_in hi ?_)) (fun i hi => hf _ (sx_in hi ?_)) (fun i hi => hf _ (sx_in hi ?_)) (fun i hi => hf _ (sx_in hi ?_)) (fun i hi j hj => hf _ (sx_in hi ?_)) (fun i j hi hj hij => ?_) hA
  · exact List.mem_append_left _ (List.mem_cons_self)
  · exact List.mem_append_left _ (List.mem_cons_of_mem _ List.mem_cons_self)
  · exact List.mem_append_left _ (List.mem_cons_of_mem _ (List.mem_cons_of_mem _ List.mem_cons_self))
  · exact List.mem_append_left _ (List.mem_cons_of_mem _ (List.mem_cons_of_mem _ (List.mem_cons_of_mem _ List.mem_cons_self)))
  · exact List.mem_append_right _ (List.mem_map.mpr ⟨j, List.mem_range.mpr hj, rfl⟩)
  · rcases sx_all i hi j hj hij with h | h
    · exact Or.inl (hf _ (sx_pin h))
    · exact Or.inr (hf _ (sx_pin h))
theorem tab_of (hg : TG.before args s = true) {A : Nat → Prop} (hA : ∀ a : Nat, a < s.heap.size → ¬ A a) {i : Nat} (hi : i < 3) {q : String × List Int} (hq : sxT[i]? = some q) (hlen : q.2.length < 2 ^ 31) : ∃ t : Nat, (stT q.1).eval args s none [] s = some (.ref t) ∧ va_T .int t q.2.length (fun j => .int (Int32.ofInt (q.2.getD j 0))) A s s.heap := by
  have hf := flat_of_before _ hg
  have hin : ∀ w ∈ sxTWant q, w.before args s = true := fun w hw => by
    rw [← sxT_at i hi q hq] at hw
    exact hf _ (List.mem_of_mem_drop (List.mem_of_mem_take hw))
  refine va_Tof hlen (hin _ (List.mem_append_left _ List.mem_cons_self)) (ev_of (hin _ (List.mem_append_left _ (List.mem_cons_of_mem _ List.mem_cons_self)))) (fun j hj => ev_of (hin _ (List.mem_append_right _ (List.mem_map.mpr ⟨j, List.mem_range.mpr hj, rfl⟩)))) hA
end Begin
