/-! a text as a hall; the reference: begins, takes, hall -/
def bg1 (τ : Int → Int) (N : Int) (s : PT) : PT := pNd τ N s (if tN τ N s.p = 10 ∨ tN τ N s.p = 11 then 1 else 0)
def bg2 (τ : Int → Int) (N : Int) (s : PT) : PT := pNm τ N (bg1 τ N s) 1 6
def bg3 (τ : Int → Int) (N : Int) (s : PT) : PT := pNm τ N (bg2 τ N s) 1 6
def bgE (τ : Int → Int) (N : Int) (s : PT) : Int := if (bg3 τ N s).fk = 0 then (if tN τ N (bg3 τ N s).p = 12 then 1 else if tN τ N (bg3 τ N s).p = 13 then 2 else 0) else 0
/-- the kind of hall: behind it, lamps, columns, rows, edges -/
def bgF (τ : Int → Int) (N : Int) (s : PT) : PT × Int × Int × Int × Int :=
  if s.fk = 0 then (if tN τ N s.p = 10 then (if bgE τ N s = 0 then bg3 τ N s else pGo τ N (bg3 τ N s), vlP τ N (bg1 τ N s) * vlP τ N (bg2 τ N s), vlP τ N (bg1 τ N s), vlP τ N (bg2 τ N s), bgE τ N s) else (pNm τ N (bg1 τ N s) 1 36, vlP τ N (bg1 τ N s), 0, 0, -1)) else (s, 0, 0, 0, -1)
theorem bgF_ok {τ : Int → Int} {N q : Int} {s : PT} (hq : qP q) (h : (bgF τ N s).1.fk = 0) (h0 : s.fk = 0) : hdO (bgF τ N s).2.1 q (bgF τ N s).2.2.1 (bgF τ N s).2.2.2.1 (bgF τ N s).2.2.2.2 := by
  unfold bgF at h ⊢
  rw [if_pos h0] at h ⊢
  by_cases e : tN τ N s.p = 10
  · rw [if_pos e] at h ⊢
    have h3 : (bg3 τ N s).fk = 0 := by
      dsimp only at h
      split at h
      · exact h
      · exact h
    obtain ⟨a1, a2, a3, -⟩ := pNm_ok (show (pNm τ N (bg2 τ N s) 1 6).fk = 0 from h3)
    obtain ⟨b1, b2, b3, -⟩ := pNm_ok (show (pNm τ N (bg1 τ N s) 1 6).fk = 0 from a1)
    refine ⟨hq, Or.inr ⟨⟨b2, b3⟩, ⟨a2, a3⟩, rfl, ?_⟩⟩
    show 0 ≤ bgE τ N s ∧ bgE τ N s ≤ 2
    unfold bgE
    split
    · split
      · omega
      · split <;> omega
    · omega
  · rw [if_neg e] at h ⊢
    obtain ⟨a1, a2, a3, -⟩ := pNm_ok h
    exact ⟨hq, Or.inl ⟨rfl, ⟨a2, a3⟩, rfl, rfl⟩⟩
/-- what the reading may change: fields 13 to 29, the cells 7 to 10 -/
def FH (μ m : Mu) (b : Int) : Prop := ∀ x j, (x < b + 7 ∨ b + 10 < x) → (x = b → j < 14 ∨ 29 < j) → m x j = μ x j
theorem FC.fh {μ m : Mu} {b : Int} (h : FC μ m b) : FH μ m b := fun x j z1 z2 => h x j z1 (fun e => by have := z2 e; omega)
theorem FT.fh {μ m : Mu} {b : Int} (h : FT μ m b) : FH μ m b := h.fc.fh
theorem FH.t {μ m m2 : Mu} {b : Int} (h : FH μ m b) (h2 : FH m m2 b) : FH μ m2 b := fun x j z1 z2 => by rw [h2 x j z1 z2, h x j z1 z2]
theorem TxR.fh {μ m : Mu} {b N : Int} {τ : Int → Int} (h : TxR μ b τ N) (hf : FH μ m b) : TxR m b τ N := fun j z1 z2 => by rw [hf _ _ (by omega) (by omega)]; exact h j z1 z2
theorem HdM.ft {μ m : Mu} {b n q w h ed : Int} (H : HdM μ b n q w h ed) (hf : FT μ m b) : HdM m b n q w h ed := H.fc hf.fc
def FBg (μ m : Mu) (b : Int) : Prop := ∀ x j, (x = b → j ≠ 14 ∧ j ≠ 15 ∧ (j < 17 ∨ 23 < j) ∧ j ≠ 25 ∧ j ≠ 26 ∧ j ≠ 27) → m x j = μ x j
theorem FT.bg {μ m : Mu} {b : Int} (h : FT μ m b) : FBg μ m b := fun x j hx => h x j (fun e => by have := hx e; omega)
theorem FBg.t {μ m m2 : Mu} {b : Int} (h : FBg μ m b) (h2 : FBg m m2 b) : FBg μ m2 b := fun x j hx => by rw [h2 x j hx, h x j hx]
theorem FBg.up {μ m : Mu} {b i z : Int} (h : FBg μ m b) (hi : i = 23 ∨ i = 25 ∨ i = 26 ∨ i = 27) : FBg μ (up m b i z) b := fun x j hx => by rw [up_ne (by omega)]; exact h x j hx
section MBegins
variable {l : Launch} {G : Gx} {γ μ : Mu}
theorem PsR.up {m : Mu} {b N i z : Int} {τ : Int → Int} {s : PT} (H : PsR m b τ N s) (hi : i < 14 ∨ 22 < i) : PsR (up m b i z) b τ N s := H.fr (fun j _ _ => up_ne (by omega))
theorem TxR.up {m : Mu} {b N i z : Int} {τ : Int → Int} (H : TxR m b τ N) : TxR (up m b i z) b τ N := fun j z1 z2 => by rw [up_ne (by omega)]; exact H j z1 z2
theorem m_begins (hl : l.stackTraces = false) (d : Nat) (hd : 2 < d) {b N q : Int} {τ : Int → Int} {s : PT} (hS : ModS G b) (hG : ModG γ b) (hR : PsR μ b τ N s) (hT : txt τ N) (hX : TxR μ b τ N) (hH : HdM μ b 0 q 0 0 (-1)) :
    Cn l G yX9_begins cX9_begins 2 none d 0 [aR b] γ μ (fun r γ' μ' => r = none ∧ γ' = γ ∧ PsR μ' b τ N (bgF τ N s).1 ∧ HdM μ' b (bgF τ N s).2.1 q (bgF τ N s).2.2.1 (bgF τ N s).2.2.2.1 (bgF τ N s).2.2.2.2 ∧ FBg μ μ' b) := by
  refine Cn.ofP hl (plainFor_of_name (by decide)) (noL1 nlR) rfl (fun P hP o1 o3 X hX' hC => B_X9_begins_0 hC hS.o ?_)
  refine ⟨0, 0, _, by omega, Nat.le_refl _, hX' ▸ m_isGood hl 0 hS, PI.use ?_⟩
  rw [hR.2.1]
  unfold bgF at hP
  by_cases e0 : s.fk = 0
  case neg =>
    simp only [if_neg e0] at hP
    rw [if_neg e0]
    exact B_X9_begins_4 hC hS.o ⟨fun w => absurd rfl w, fun _ => ⟨Nat.le_refl _, hP _ _ _ ⟨rfl, rfl, hR, hH, fun _ _ _ => rfl⟩⟩⟩
  simp only [if_pos e0] at hP
  rw [if_pos e0]
  refine B_X9_begins_4 hC hS.o ⟨fun _ => ?_, fun w => absurd w (by decide)⟩
  refine ⟨2, 0, _, hd, Nat.le_refl _, hX' ▸ m_knownWord hl 2 (by omega) hS hR.1, PI.use ?_⟩
  -- the net
  have net : ∀ m : Mu, tN τ N s.p ≠ 10 → PsR m b τ N (bg1 τ N s) → FT μ m b → V X G (Qm X G 0 P) 0 45 [aR b, aI 0] [] γ m := fun m h10 mR mf => by
    simp only [if_neg h10] at hP
    refine B_X9_begins_45 hC hS.o ⟨fun w => absurd rfl w, fun _ => ?_⟩
    refine ⟨2, 0, _, hd, Nat.le_refl _, hX' ▸ m_number hl 2 (by omega) hS hG mR hT (hX.ft mf), ?_⟩
    rintro r γ m2 ⟨rfl, rfl, R2, g2⟩
    have F2 := mf.t g2
    obtain ⟨a1, a2, a3, a4, a5⟩ := hH.ft F2
    exact B_X9_begins_57 hC ⟨hS.o, Nat.le_refl _, hP _ _ _ ⟨rfl, rfl, R2.up (by omega), ⟨up_same, by rw [up_ne (by omega)]; exact a2, by rw [up_ne (by omega)]; exact a3, by rw [up_ne (by omega)]; exact a4, by rw [up_ne (by omega)]; exact a5⟩, F2.bg.up (by omega)⟩⟩
  -- the board
  have board : ∀ m : Mu, tN τ N s.p = 10 → PsR m b τ N (bg1 τ N s) → FT μ m b → V X G (Qm X G 0 P) 0 45 [aR b, aI 1] [] γ m := fun m h10 mR mf => by
    simp only [if_pos h10] at hP
    refine B_X9_begins_45 hC hS.o ⟨fun _ => ?_, fun w => absurd w (by decide)⟩
    refine ⟨2, 0, _, hd, Nat.le_refl _, hX' ▸ m_number hl 2 (by omega) hS hG mR hT (hX.ft mf), ?_⟩
    rintro r γ m2 ⟨rfl, rfl, R2, g2⟩
    have F2 := mf.t g2
    have v1 := vlP_b (τ := τ) mR.2.2.2
    have v2 := vlP_b (τ := τ) R2.2.2.2
    refine B_X9_begins_69 hC hS.o ⟨hS.o, ?_⟩
    refine ⟨2, 0, _, hd, Nat.le_refl _, hX' ▸ m_number hl 2 (by omega) hS hG (R2.up (i := 25) (z := vlP τ N (bg1 τ N s)) (by omega)) hT (hX.ft F2).up, ?_⟩
    rintro r γ m3 ⟨rfl, rfl, R3, g3⟩
    have w3 : m3 b 25 = vlP τ N (bg1 τ N s) := by rw [g3 _ _ (by omega), up_same]
    have q3 : m3 b 24 = q := by rw [g3 _ _ (by omega), up_ne (by omega)]; exact (hH.ft F2).2.1
    have X3 : TxR m3 b τ N := ((hX.ft F2).up (i := 25) (z := vlP τ N (bg1 τ N s))).ft g3
    have F3 : FBg μ m3 b := (F2.bg.up (i := 25) (z := vlP τ N (bg1 τ N s)) (by omega)).t g3.bg
    refine B_X9_begins_80 hC hS.o ⟨hS.o, ?_⟩
    change PsR m3 b τ N (bg3 τ N s) at R3
    have ev2 : vlP τ N (pNm τ N (bg1 τ N s) 1 6) = vlP τ N (bg2 τ N s) := rfl
    rw [up_ne (by omega), up_same, w3, ev2]
    rw [show pNm τ N (bg1 τ N s) 1 6 = bg2 τ N s from rfl] at v2
    have p1 := mulR (a := vlP τ N (bg1 τ N s)) (b := vlP τ N (bg2 τ N s)) (m := 999) (by omega) (by omega)
    refine ⟨by constructor <;> omega, ?_⟩
    generalize hm4 : up (up (up m3 b 26 (vlP τ N (bg2 τ N s))) b 23 (vlP τ N (bg1 τ N s) * vlP τ N (bg2 τ N s))) b 27 0 = m4
    have R4 : PsR m4 b τ N (bg3 τ N s) := by rw [← hm4]; exact ((R3.up (by omega)).up (by omega)).up (by omega)
    have X4 : TxR m4 b τ N := by rw [← hm4]; exact X3.up.up.up
    have F4 : FBg μ m4 b := by rw [← hm4]; exact ((F3.up (by omega)).up (by omega)).up (by omega)
    have H4 : HdM m4 b (vlP τ N (bg1 τ N s) * vlP τ N (bg2 τ N s)) q (vlP τ N (bg1 τ N s)) (vlP τ N (bg2 τ N s)) 0 := by
      rw [← hm4]
      refine ⟨?_, ?_, ?_, ?_, ?_⟩
      all_goals simp (disch := first | assumption | omega) only [row_off, row_in, row_out, up_same, up_ne]
      · exact q3
      · exact w3
    refine ⟨0, 0, _, by omega, Nat.le_refl _, hX' ▸ m_isGood hl 0 hS, PI.use ?_⟩
    rw [R4.2.1]
    have none_ : bgE τ N s = 0 → V X G (Qm X G 0 P) 0 148 [aD, aD] [] γ m4 := fun hE => by
      rw [hE, if_pos rfl] at hP
      exact B_X9_begins_148 hC ⟨Nat.le_refl _, hP _ _ _ ⟨rfl, rfl, R4, H4, F4⟩⟩
    by_cases e3 : (bg3 τ N s).fk = 0
    case neg =>
      rw [if_neg e3]
      exact B_X9_begins_105 hC hS.o ⟨fun _ => none_ (by unfold bgE; rw [if_neg e3]), fun w => absurd rfl w⟩
    rw [if_pos e3]
    have eE : bgE τ N s = (if tN τ N (bg3 τ N s).p = 12 then 1 else if tN τ N (bg3 τ N s).p = 13 then 2 else 0) := by unfold bgE; rw [if_pos e3]
    have go : ∀ z, z = bgE τ N s → z ≠ 0 → ∃ (d9 k9 : Nat) (P9 : Option AV → Mu → Mu → Prop), d9 < d ∧ 0 + k9 ≤ 0 ∧ Cn X.l G yX9_goes cX9_goes 2 none d9 k9 [aR b] γ (up m4 b 27 z) P9 ∧ ∀ r9 γ9 μ9, P9 r9 γ9 μ9 → V X G (Qm X G 0 P) (0 + k9) 148 [aD, aD] (r9.toList ++ []) γ9 μ9 := fun z hz hz0 => by
      refine ⟨1, 0, _, by omega, Nat.le_refl _, hX' ▸ m_goP hl 1 (by omega) hS hG (R4.up (by omega)) hT X4.up, ?_⟩
      rintro r γ m5 ⟨rfl, rfl, R5, g5⟩
      rw [← hz, if_neg hz0] at hP
      refine B_X9_begins_148 hC ⟨Nat.le_refl _, hP _ _ _ ⟨rfl, rfl, R5, ?_, (F4.up (by omega)).t g5.bg⟩⟩
      refine HdM.ft ?_ g5
      obtain ⟨a1, a2, a3, a4, a5⟩ := H4
      exact ⟨by rw [up_ne (by omega)]; exact a1, by rw [up_ne (by omega)]; exact a2, by rw [up_ne (by omega)]; exact a3, by rw [up_ne (by omega)]; exact a4, up_same⟩
    have last : tN τ N (bg3 τ N s).p = 12 ∨ tN τ N (bg3 τ N s).p = 13 → ∃ (d9 k9 : Nat) (P9 : Option AV → Mu → Mu → Prop), d9 < d ∧ 0 + k9 ≤ 0 ∧ Cn X.l G yX9_knownWord cX9_knownWord 2 (some .int) d9 k9 [aR b] γ m4 P9 ∧ ∀ r9 γ9 μ9, P9 r9 γ9 μ9 → V X G (Qm X G 0 P) (0 + k9) 131 [aR b, aD] (r9.toList ++ [aR b]) γ9 μ9 := fun hk => by
      refine ⟨2, 0, _, hd, Nat.le_refl _, hX' ▸ m_knownWord hl 2 (by omega) hS R4.1, PI.use ?_⟩
      refine B_X9_begins_131 hC hS.o ⟨fun h12 => ⟨hS.o, go 2 (by rw [eE, if_neg h12, if_pos (by omega)]) (by decide)⟩, fun h12 => ⟨hS.o, go 1 (by rw [eE, if_pos h12]) (by decide)⟩⟩
    refine B_X9_begins_105 hC hS.o ⟨fun w => absurd w (by decide), fun _ => ?_⟩
    refine ⟨2, 0, _, hd, Nat.le_refl _, hX' ▸ m_knownWord hl 2 (by omega) hS R4.1, PI.use ?_⟩
    refine B_X9_begins_112 hC hS.o ⟨fun h12 => last (Or.inl h12), fun h12 => ?_⟩
    refine ⟨2, 0, _, hd, Nat.le_refl _, hX' ▸ m_knownWord hl 2 (by omega) hS R4.1, PI.use ?_⟩
    exact B_X9_begins_121 hC hS.o ⟨fun h13 => none_ (by rw [eE, if_neg h12, if_neg h13]), fun h13 => last (Or.inr h13)⟩
  refine B_X9_begins_12 hC hS.o ⟨fun h10 => ?_, fun h10 => ?_⟩
  · refine ⟨2, 0, _, hd, Nat.le_refl _, hX' ▸ m_knownWord hl 2 (by omega) hS hR.1, PI.use ?_⟩
    refine B_X9_begins_32 hC hS.o ⟨fun h11 => ⟨hS.o, ?_⟩, fun h11 => ⟨hS.o, ?_⟩⟩
    · refine ⟨2, 0, _, hd, Nat.le_refl _, hX' ▸ m_need hl 2 (by omega) hS hG hR hT hX, ?_⟩
      rintro r γ m1 ⟨rfl, rfl, R1, g1⟩
      exact net m1 h10 (by unfold bg1; rw [if_neg (by omega)]; exact R1) g1
    · refine ⟨2, 0, _, hd, Nat.le_refl _, hX' ▸ m_need hl 2 (by omega) hS hG hR hT hX, ?_⟩
      rintro r γ m1 ⟨rfl, rfl, R1, g1⟩
      exact net m1 h10 (by unfold bg1; rw [if_pos (by omega)]; exact R1) g1
  · refine ⟨2, 0, _, hd, Nat.le_refl _, hX' ▸ m_need hl 2 (by omega) hS hG hR hT hX, ?_⟩
    rintro r γ m1 ⟨rfl, rfl, R1, g1⟩
    exact board m1 h10 (by unfold bg1; rw [if_pos (by omega)]; exact R1) g1
end MBegins
/-! the amounts of all clauses together -/
def wrC (a : AC) (i x y : Int) : Int := foldI (fun v j => v + (if x = a.wA j ∧ y = a.wB j then 1 else 0) + (if x = a.wB j ∧ y = a.wA j then 1 else 0)) 0 i
def finA (n q w h ed : Int) (a : AC) (x y : Int) : Int := amS n w h ed a x y + ((if w = 0 then a.shp 1 else 0) % q) * wrC a a.wc x y
/-- the state behind a good text -/
def halT (n q w h ed : Int) (a : AC) (σ : Mu) : Mu := fun k j =>
  if k = 0 then (if j = 0 then n else if j = 1 then q else if j = 2 then w else if j = 3 then h else if j = 4 then ed else if j = 5 ∨ j = 6 ∨ j = 8 ∨ j = 9 then 0 else if j = 7 then -1 else σ 0 j)
  else if k = 1 then finA n q w h ed a (j / 36) (j % 36) % q else if k = 2 then a.jm j else if k = 3 ∨ k = 4 ∨ k = 7 then 0 else σ k j
section MTakes
variable {l : Launch} {G : Gx} {γ μ : Mu}
set_option maxHeartbeats 1000000 in
theorem m_takes (hl : l.stackTraces = false) (d : Nat) (hd : 0 < d) {b n q w h ed c : Int} {a : AC} (hS : ModS G b) (hG : ModG γ b) (hH : HdM μ b n q w h ed) (hO : hdO n q w h ed) (hA : AcR μ b n q w h ed a) (hAo : AcO n c a) (hc : c ≤ 40) :
    Cn l G yX9_takes cX9_takes 2 none d 0 [aR b] γ μ (fun r γ' μ' => r = none ∧ γ' = γ ∧ (μ' b 1 = n ∧ μ' b 2 = q ∧ μ' b 3 = w ∧ μ' b 4 = h ∧ μ' b 5 = ed ∧ μ' b 11 = 0 ∧ μ' b 52 = 0 ∧ μ' b 64 = 0 ∧ μ' b 51 = 0 ∧ μ' b 61 = 0) ∧ (∀ x y, 0 ≤ x → x < 36 → 0 ≤ y → y < 36 → μ' (b + 1) (36 * x + y) = finA n q w h ed a x y % q) ∧ (∀ x, 0 ≤ x → x < 36 → μ' (b + 2) x = a.jm x ∧ μ' (b + 3) x = 0 ∧ μ' (b + 4) x = 0) ∧ (∀ x, 0 ≤ x → x < 4 → μ' (b + 38) x = 0) ∧ ∀ x j, (x < b + 1 ∨ b + 4 < x) → x ≠ b + 7 → x ≠ b + 38 → (x = b → (j < 1 ∨ 5 < j) ∧ j ≠ 11 ∧ j ≠ 52 ∧ j ≠ 64 ∧ j ≠ 51 ∧ j ≠ 61) → μ' x j = μ x j) := by
  refine Cn.ofP hl (plainFor_of_name (by decide)) (noL1 nlR) rfl (fun P hP o1 o3 X hX' hC => B_X9_takes_0 hC hS.o ?_)
  have hn := hO.n
  have hq := hO.1.b
  have s1 := ms1 hS; have s2 := ms2 hS; have s3 := ms3 hS; have s4 := ms4 hS; have s7 := ms7 hS; have s8 := ms8 hS; have s9 := ms9 hS; have s10 := ms10 hS; have s38 := ms38 hS
  generalize hbs : (if w = 0 then a.shp 1 else 0) = bs at *
  have hbs0 : 0 ≤ bs ∧ bs ≤ 1000 := by
    rw [← hbs]
    split
    · have := hAo.1 1 (by decide) (by decide); omega
    · omega
  have e29 : μ b 29 = bs := by rw [hA.2.2.1, hbs]
  have bq1 := Int.emod_nonneg bs (show q ≠ 0 by omega)
  have bq2 := Int.emod_lt_of_pos bs (show 0 < q by omega)
  have hwc := hAo.2.1
  -- the last steps
  have slots : ∀ (i : Int), 0 ≤ i → i ≤ 4 → ∀ m : Mu, (m b 1 = n ∧ m b 2 = q ∧ m b 3 = w ∧ m b 4 = h ∧ m b 5 = ed ∧ m b 11 = 0 ∧ m b 52 = 0 ∧ m b 64 = 0) → (∀ x y, 0 ≤ x → x < 36 → 0 ≤ y → y < 36 → m (b + 1) (36 * x + y) = finA n q w h ed a x y % q) → (∀ x, 0 ≤ x → x < 36 → m (b + 2) x = a.jm x ∧ m (b + 3) x = 0 ∧ m (b + 4) x = 0) → (∀ x, 0 ≤ x → x < i → m (b + 38) x = 0) → (∀ x j, (x < b + 1 ∨ b + 4 < x) → x ≠ b + 7 → x ≠ b + 38 → (x = b → (j < 1 ∨ 5 < j) ∧ j ≠ 11 ∧ j ≠ 52 ∧ j ≠ 64 ∧ j ≠ 51 ∧ j ≠ 61) → m x j = μ x j) → V X G (Qm X G 0 P) 0 190 [aR b, aI i] [] γ m := by
    refine rem_ind (n := 4) (P := fun i => ∀ m : Mu, (m b 1 = n ∧ m b 2 = q ∧ m b 3 = w ∧ m b 4 = h ∧ m b 5 = ed ∧ m b 11 = 0 ∧ m b 52 = 0 ∧ m b 64 = 0) → (∀ x y, 0 ≤ x → x < 36 → 0 ≤ y → y < 36 → m (b + 1) (36 * x + y) = finA n q w h ed a x y % q) → (∀ x, 0 ≤ x → x < 36 → m (b + 2) x = a.jm x ∧ m (b + 3) x = 0 ∧ m (b + 4) x = 0) → (∀ x, 0 ≤ x → x < i → m (b + 38) x = 0) → (∀ x j, (x < b + 1 ∨ b + 4 < x) → x ≠ b + 7 → x ≠ b + 38 → (x = b → (j < 1 ∨ 5 < j) ∧ j ≠ 11 ∧ j ≠ 52 ∧ j ≠ 64 ∧ j ≠ 51 ∧ j ≠ 61) → m x j = μ x j) → V X G (Qm X G 0 P) 0 190 [aR b, aI i] [] γ m) (fun i i0 i1 ih m h1 h2 h3 h4 h5 => ?_)
    refine B_X9_takes_190 hC hS.o ?_
    rw [mg71 hG]
    refine ⟨fun hi => ?_, fun hi => ⟨ixO s38 (by omega), by constructor <;> omega, ?_⟩⟩
    · refine ⟨0, 0, _, hd, Nat.le_refl _, hX' ▸ m_changes hl 0 hS, PV.use ?_⟩
      obtain ⟨z1, z2, z3, z4, z5, z6, z7, z8⟩ := h1
      refine B_X9_takes_212 hC ⟨Nat.le_refl _, hP _ _ _ ⟨rfl, rfl, ⟨?_, ?_, ?_, ?_, ?_, ?_, ?_, ?_, ?_, ?_⟩, fun x y k1 k2 k3 k4 => ?_, fun x k1 k2 => ⟨?_, ?_, ?_⟩, fun x k1 k2 => ?_, fun x j k1 k2 k3 k4 => ?_⟩⟩
      all_goals simp (disch := first | assumption | omega) only [row_off, row_in, row_out, up_same, up_ne]
      all_goals first | assumption | exact h2 x y k1 k2 k3 k4 | exact (h3 x k1 k2).1 | exact (h3 x k1 k2).2.1 | exact (h3 x k1 k2).2.2 | exact h4 x k1 (by omega) | exact h5 x j k1 k2 k3 k4
    · refine ih (by omega) _ ?_ (fun x y k1 k2 k3 k4 => by rw [up_ne (by omega)]; exact h2 x y k1 k2 k3 k4) (fun x k1 k2 => by rw [up_ne (by omega), up_ne (by omega), up_ne (by omega)]; exact h3 x k1 k2) (fun x k1 k2 => ?_) (fun x j k1 k2 k3 k4 => by rw [up_ne (by omega)]; exact h5 x j k1 k2 k3 k4)
      · rw [up_ne (by omega), up_ne (by omega), up_ne (by omega), up_ne (by omega), up_ne (by omega), up_ne (by omega), up_ne (by omega), up_ne (by omega)]
        exact h1
      · by_cases e9 : x = i
        · rw [e9, up_same]
        · rw [up_ne (by omega)]; exact h4 x k1 (by omega)
  have rows : ∀ (i : Int), 0 ≤ i → i ≤ 36 → ∀ m : Mu, (m b 1 = n ∧ m b 2 = q ∧ m b 3 = w ∧ m b 4 = h ∧ m b 5 = ed) → (∀ x y, 0 ≤ x → x < 36 → 0 ≤ y → y < 36 → m (b + 1) (36 * x + y) = finA n q w h ed a x y % q) → (∀ x, 0 ≤ x → x < i → m (b + 2) x = a.jm x ∧ m (b + 3) x = 0 ∧ m (b + 4) x = 0) → (∀ x j, (x < b + 1 ∨ b + 4 < x) → x ≠ b + 7 → (x = b → (j < 1 ∨ 5 < j)) → m x j = μ x j) → V X G (Qm X G 0 P) 0 135 [aR b, aI i] [] γ m := by
    refine rem_ind (n := 36) (P := fun i => ∀ m : Mu, (m b 1 = n ∧ m b 2 = q ∧ m b 3 = w ∧ m b 4 = h ∧ m b 5 = ed) → (∀ x y, 0 ≤ x → x < 36 → 0 ≤ y → y < 36 → m (b + 1) (36 * x + y) = finA n q w h ed a x y % q) → (∀ x, 0 ≤ x → x < i → m (b + 2) x = a.jm x ∧ m (b + 3) x = 0 ∧ m (b + 4) x = 0) → (∀ x j, (x < b + 1 ∨ b + 4 < x) → x ≠ b + 7 → (x = b → (j < 1 ∨ 5 < j)) → m x j = μ x j) → V X G (Qm X G 0 P) 0 135 [aR b, aI i] [] γ m) (fun i i0 i1 ih m h1 h2 h3 h5 => ?_)
    have e10 : ∀ x, 0 ≤ x → x < 36 → m (b + 10) x = a.jm x := fun x k1 k2 => by rw [h5 _ _ (by omega) (by omega) (by omega)]; exact hA.2.2.2.2 x k1 k2
    refine B_X9_takes_135 hC hS.o ?_
    refine ⟨fun hi => ?_, fun hi => ?_⟩
    · obtain ⟨z1, z2, z3, z4, z5⟩ := h1
      refine slots 0 (by omega) (by omega) _ ⟨?_, ?_, ?_, ?_, ?_, ?_, ?_, ?_⟩ (fun x y k1 k2 k3 k4 => ?_) (fun x k1 k2 => ⟨?_, ?_, ?_⟩) (fun x k1 k2 => by omega) (fun x j k1 k2 k3 k4 => ?_)
      all_goals simp (disch := first | assumption | omega) only [row_off, row_in, row_out, up_same, up_ne]
      all_goals first | assumption | exact h2 x y k1 k2 k3 k4 | exact (h3 x k1 (by omega)).1 | exact (h3 x k1 (by omega)).2.1 | exact (h3 x k1 (by omega)).2.2 | exact h5 x j k1 k2 (by omega)
    · have hj := hAo.2.2.2.1 i i0 (by omega)
      rw [mg33 hG, mg7 hG, mg8 hG, mg9 hG, e10 i i0 (by omega)]
      refine ⟨ixO s10 (by omega), ixO s2 (by omega), by omega, ixO s3 (by omega), ixO s4 (by omega), by constructor <;> omega, ?_⟩
      refine ih (by omega) _ ?_ (fun x y k1 k2 k3 k4 => by rw [up_ne (by omega), up_ne (by omega), up_ne (by omega)]; exact h2 x y k1 k2 k3 k4) (fun x k1 k2 => ?_) (fun x j k1 k2 k4 => by rw [up_ne (by omega), up_ne (by omega), up_ne (by omega)]; exact h5 x j k1 k2 k4)
      · obtain ⟨z1, z2, z3, z4, z5⟩ := h1
        refine ⟨?_, ?_, ?_, ?_, ?_⟩
        all_goals simp (disch := first | assumption | omega) only [row_off, row_in, row_out, up_same, up_ne]
        all_goals assumption
      · by_cases e9 : x = i
        · subst e9
          refine ⟨?_, ?_, ?_⟩
          all_goals simp (disch := first | assumption | omega) only [row_off, row_in, row_out, up_same, up_ne]
        · rw [up_ne (by omega), up_ne (by omega), up_ne (by omega), up_ne (by omega), up_ne (by omega), up_ne (by omega), up_ne (by omega), up_ne (by omega), up_ne (by omega)]
          exact h3 x k1 (by omega)
  have amts : ∀ (i : Int), 0 ≤ i → i ≤ 1296 → ∀ m : Mu, (m b 1 = n ∧ m b 2 = q ∧ m b 3 = w ∧ m b 4 = h ∧ m b 5 = ed) → AmR m b q (finA n q w h ed a) → (∀ j, 0 ≤ j → j < i → m (b + 1) j = m (b + 7) j) → (∀ x j, x ≠ b + 1 → x ≠ b + 7 → (x = b → (j < 1 ∨ 5 < j)) → m x j = μ x j) → V X G (Qm X G 0 P) 0 108 [aR b, aI i] [] γ m := by
    refine rem_ind (n := 1296) (P := fun i => ∀ m : Mu, (m b 1 = n ∧ m b 2 = q ∧ m b 3 = w ∧ m b 4 = h ∧ m b 5 = ed) → AmR m b q (finA n q w h ed a) → (∀ j, 0 ≤ j → j < i → m (b + 1) j = m (b + 7) j) → (∀ x j, x ≠ b + 1 → x ≠ b + 7 → (x = b → (j < 1 ∨ 5 < j)) → m x j = μ x j) → V X G (Qm X G 0 P) 0 108 [aR b, aI i] [] γ m) (fun i i0 i1 ih m h1 h2 h3 h5 => ?_)
    refine B_X9_takes_108 hC hS.o ?_
    rw [mg30 hG, mg6 hG]
    refine ⟨fun hi => ?_, fun hi => ⟨ixO s7 (by omega), ixO s1 (by omega), by constructor <;> omega, ?_⟩⟩
    · exact rows 0 (by omega) (by omega) m h1 (fun x y k1 k2 k3 k4 => by rw [h3 _ (by omega) (by omega)]; exact h2 x y k1 k2 k3 k4) (fun x k1 k2 => by omega) (fun x j k1 k2 k3 => h5 x j (by omega) k2 k3)
    · refine ih (by omega) _ ?_ (h2.fr (fun j => up_ne (by omega))) (fun j k1 k2 => ?_) (fun x j k1 k2 k3 => by rw [up_ne (by omega)]; exact h5 x j k1 k2 k3)
      · obtain ⟨z1, z2, z3, z4, z5⟩ := h1
        refine ⟨?_, ?_, ?_, ?_, ?_⟩
        all_goals simp (disch := first | assumption | omega) only [row_off, row_in, row_out, up_same, up_ne]
        all_goals assumption
      · rw [up_ne (show ¬ (b + 7 = b + 1 ∧ j = i) by omega)]
        by_cases e9 : j = i
        · rw [e9, up_same]
        · rw [up_ne (by omega)]; exact h3 j k1 (by omega)
  have wires := rem_ind (n := a.wc) (P := fun i => ∀ m : Mu, FA μ m b → AmR m b q (fun x y => amS n w h ed a x y + (bs % q) * wrC a i x y) → V X G (Qm X G 0 P) 0 2 [aR b, aI i] [] γ m) (fun i i0 i1 ih m fm mA => ?_)
  · exact wires 0 (by omega) (by omega) μ (fun _ _ _ => rfl) (hA.1.cong (fun x y _ _ _ _ => by show _ = _ + _ * 0; omega))
  · obtain ⟨g1, g2, g3, g4, g5⟩ := hH.fa fm
    refine B_X9_takes_2 hC hS.o ?_
    rw [fm b 28 (by omega), hA.2.1, g1, g2, mg31 hG, mg32 hG, fm (b + 8) i (by omega), fm (b + 9) i (by omega), fm b 29 (by omega), e29]
    rcases Int.lt_or_le i a.wc with hi | hi
    · obtain ⟨wa, wb⟩ := hA.2.2.2.1 i i0 hi
      obtain ⟨oa, ob⟩ := hAo.2.2.1 i i0 hi
      rw [wa, wb, Int.tmod_eq_emod_of_nonneg hbs0.1]
      refine ⟨fun z => absurd z (by omega), fun _ => ⟨ixO s8 (by omega), ixO s9 (by omega), by omega, ?_⟩⟩
      refine ⟨0, 0, _, hd, Nat.le_refl _, hX' ▸ m_adds hl 0 hS hG g2 hq mA (by omega) (by omega) (by omega), ?_⟩
      rintro r γ m2 ⟨rfl, rfl, a2, f2⟩
      have fm2 := fm.t f2
      refine B_X9_takes_35 hC hS.o ?_
      rw [mg31 hG, mg32 hG, fm2 (b + 8) i (by omega), fm2 (b + 9) i (by omega), fm2 b 29 (by omega), fm2 b 24 (by omega), e29, wa, wb, hH.2.1, Int.tmod_eq_emod_of_nonneg hbs0.1]
      refine ⟨ixO s9 (by omega), ixO s8 (by omega), by omega, ?_⟩
      refine ⟨0, 0, _, hd, Nat.le_refl _, hX' ▸ m_adds hl 0 hS hG (by rw [fm2 _ _ (by omega)]; exact hH.2.1) hq a2 (by omega) (by omega) (by omega), ?_⟩
      rintro r γ m3 ⟨rfl, rfl, a3, f3⟩
      refine B_X9_takes_60 hC hS.o ⟨by constructor <;> omega, ih hi m3 (fm2.t f3) (a3.cong (fun x y _ _ _ _ => ?_))⟩
      have es : wrC a (i + 1) x y = wrC a i x y + (if x = a.wA i ∧ y = a.wB i then 1 else 0) + (if x = a.wB i ∧ y = a.wA i then 1 else 0) := foldI_s i0
      rw [es, Int.mul_add, Int.mul_add]
      have k1 : ∀ p : Prop, ∀ [Decidable p], bs % q * (if p then 1 else 0) = if p then bs % q else 0 := fun p _ => by split <;> simp
      rw [k1, k1]
      omega
    · obtain rfl : i = a.wc := by omega
      refine ⟨fun _ => ?_, fun z => absurd hi z⟩
      refine amts 0 (by omega) (by omega) _ ⟨?_, ?_, ?_, ?_, ?_⟩ ?_ (fun j k1 k2 => by omega) (fun x j k1 k2 k3 => ?_)
      all_goals (try simp (disch := first | assumption | omega) only [row_off, row_in, row_out, up_same, up_ne])
      all_goals first | assumption | rfl | skip
      · exact (mA.fr (fun j => by rw [up_ne (by omega), up_ne (by omega), up_ne (by omega), up_ne (by omega), up_ne (by omega)])).cong (fun x y _ _ _ _ => by unfold finA; rw [hbs])
      · exact fm x j k2
end MTakes
