/-! walking a constructor: cells r .. of which the shapes are known beforehand -/
def shL (G : Gx) (r : Int) (L : List (Nat × Nat)) : Prop := ∀ i : Nat, i < L.length → G.sh (r + i) = L.getD i (0, 0)
/-- the world G has grown out of G0; c cells of the new object are there -/
def Iv (G0 G : Gx) (r : Int) (L : List (Nat × Nat)) (c : Nat) (γ μ : Mu) : Prop := (∃ N, Ext G0 G N) ∧ (G.n : Int) = r + c ∧ shL G r L ∧ Fr G γ μ ∧ 0 ≤ r ∧ 1 ≤ c
/-- what a constructor leaves behind -/
abbrev PG (r : Int) (L : List (Nat × Nat)) (gi mi : Mu) : Gx → Option AV → Mu → Mu → Prop := fun G' o γ' μ' => o = none ∧ (G'.n : Int) = r + L.length ∧ Fr G' γ' μ' ∧ γ' = gi ∧ μ' = mi
theorem rfc {n : Nat} {x : AV} {l : List AV} (h : rfV n x) (h2 : ∀ v ∈ l, rfV n v) : ∀ v ∈ x :: l, rfV n v := fun v hv => by
  rcases List.mem_cons.mp hv with rfl | h3
  · exact h
  · exact h2 v h3
theorem rfn {n : Nat} : ∀ v ∈ ([] : List AV), rfV n v := fun _ h => by cases h
section IRules
variable {X : Mx} {G0 G : Gx} {Q : State → Prop} {k k' pc c c' : Nat} {lv st : List AV} {γ μ : Mu} {cc : ByteArray} {nL : Nat} {own : String} {ret : Option FieldType} {d kk : Nat} {r v : Int} {L : List (Nat × Nat)}
theorem Iv.start (hn : (G.n : Int) = r + 1) (hF : Fr G γ μ) (hs : shL G r L) (h0 : 0 ≤ r) : Iv G G r L 1 γ μ := ⟨⟨0, Ext.rf⟩, by omega, hs, hF, h0, Nat.le_refl _⟩
theorem Iv.lt (hI : Iv G0 G r L c γ μ) {z : Int} (h : z < r + c) : rfV G.n (aR z) := by
  show z < (G.n : Int)
  rw [hI.2.1]
  exact h
theorem Iv.rl (hI : Iv G0 G r L c γ μ) : rfV G.n (aR r) := hI.lt (by have := hI.2.2.2.2.2; omega)
theorem Iv.at (hI : Iv G0 G r L c γ μ) {m : Nat} (e : c = m) : (G.n : Int) = r + m := by subst e; exact hI.2.1
theorem Iv.grow {G' : Gx} {N : Nat} (hI : Iv G0 G r L c γ μ) (hE : Ext G G' N) (hc' : c' = c + N) : Iv G0 G' r L c' γ μ := by
  obtain ⟨⟨M, h1⟩, h2, h3, h4, h5, h6⟩ := hI
  have e := hE.2.2.2.2.2.2.1
  refine ⟨⟨_, h1.tr hE⟩, by omega, ?_, h4.ext hE, h5, by omega⟩
  unfold shL
  rw [hE.2.2.2.1]
  exact h3
theorem Iv.o (hI : Iv G0 G r L c γ μ) {t n : Nat} (hl : 0 < L.length) (e : L.getD 0 (0, 0) = (t, n)) : shO G r t n := by
  have h := hI.2.2.1 0 hl
  have h6 := hI.2.2.2.2.2
  have h2 := hI.2.1
  rw [show r + ((0 : Nat) : Int) = r by omega] at h
  exact ⟨hI.2.2.2.2.1, by omega, h.trans e⟩
theorem Iv.shn (hI : Iv G0 G r L c γ μ) {t n : Nat} (hl : c < L.length) (e : L.getD c (0, 0) = (t, n)) : G.sh (G.n : Int) = (t, n) := by
  rw [hI.2.1]
  exact (hI.2.2.1 c hl).trans e
theorem I_new (hC : Cx X G cc nL own ret d kk) (hI : Iv G0 G r L c γ μ) {ci N ix : Nat} (j : Nat) {C : String} {T : u_T} (ty0 : Nat → FieldType) (hty : ∀ k, k < N → parseFieldDescriptor (T k).2.2.1 = some (ty0 k)) (hc : vwCl[ci]? = some (C, T, N)) (hin : ∀ w ∈ u_ws C T N, w ∈ TB) (he : ∀ k, k < N → ty0 k = tyF ci k ∧ okTy (ty0 k) = true)
    (hw : Cond.classLink own ix C ∈ TB) (hwi : Cond.instantiable C N ∈ TB) (hini : Cond.initialized C ∈ TB) (hd : decode cc pc = .ok (.new ix, 3)) (hci : ci < 10)
    (hlv : ∀ v ∈ lv, rfV G.n v) (hst : ∀ v ∈ st, rfV G.n v) (hl : c < L.length) (e : L.getD c (0, 0) = (ci, N)) (hj : 1 ≤ j ∧ N ≤ 6 * j) (hkk : k + j ≤ kk) (hv : v = r + c) (hc' : c' = c + 1) (hk' : k' = k + j)
    (k1 : ∀ G', Cx X G' cc nL own ret d kk → Iv G0 G' r L c' γ μ → V X G' Q k' (pc + 3) lv (aR v :: st) γ μ) : V X G Q k pc lv st γ μ := by
  subst hk'
  refine V_new hC j ty0 hty hc hin he hw hwi hini hd hci hI.2.2.2.1 hlv hst (hI.shn hl e) hj hkk (fun G' hE => ?_)
  rw [hI.2.1, ← hv]
  exact k1 G' (hC.ext hE) (hI.grow hE hc')
theorem I_newI (hC : Cx X G cc nL own ret d kk) (hI : Iv G0 G r L c γ μ) {n : Nat} (j : Nat) {z : Int} (harr : Cond.arrayClass .int ∈ TB) (hd : decode cc pc = .ok (.newarray .int, 2)) (hlv : ∀ v ∈ lv, rfV G.n v) (hst : ∀ v ∈ st, rfV G.n v) (hz : z = (n : Int)) (hn : n ≤ 1000000) (hl : c < L.length) (e : L.getD c (0, 0) = (11, n)) (hj : 1 ≤ j ∧ n ≤ 6 * j) (hkk : k + j ≤ kk) (hv : v = r + c) (hc' : c' = c + 1) (hk' : k' = k + j)
    (k1 : ∀ G', Cx X G' cc nL own ret d kk → Iv G0 G' r L c' γ μ → V X G' Q k' (pc + 2) lv (aR v :: st) γ μ) : V X G Q k pc lv (aI z :: st) γ μ := by
  subst hk'
  refine V_newI hC j harr hd hI.2.2.2.1 hlv hst hz hn (hI.shn hl e) hj hkk (fun G' hE => ?_)
  rw [hI.2.1, ← hv]
  exact k1 G' (hC.ext hE) (hI.grow hE hc')
theorem I_newB (hC : Cx X G cc nL own ret d kk) (hI : Iv G0 G r L c γ μ) {n : Nat} (j : Nat) {z : Int} (harr : Cond.arrayClass .byte ∈ TB) (hd : decode cc pc = .ok (.newarray .byte, 2)) (hlv : ∀ v ∈ lv, rfV G.n v) (hst : ∀ v ∈ st, rfV G.n v) (hz : z = (n : Int)) (hn : n ≤ 1000000) (hl : c < L.length) (e : L.getD c (0, 0) = (10, n)) (hj : 1 ≤ j ∧ n ≤ 6 * j) (hkk : k + j ≤ kk) (hv : v = r + c) (hc' : c' = c + 1) (hk' : k' = k + j)
    (k1 : ∀ G', Cx X G' cc nL own ret d kk → Iv G0 G' r L c' γ μ → V X G' Q k' (pc + 2) lv (aR v :: st) γ μ) : V X G Q k pc lv (aI z :: st) γ μ := by
  subst hk'
  refine V_newB hC j harr hd hI.2.2.2.1 hlv hst hz hn (hI.shn hl e) hj hkk (fun G' hE => ?_)
  rw [hI.2.1, ← hv]
  exact k1 G' (hC.ext hE) (hI.grow hE hc')
theorem I_newZ (hC : Cx X G cc nL own ret d kk) (hI : Iv G0 G r L c γ μ) {n : Nat} (j : Nat) {z : Int} (harr : Cond.arrayClass .boolean ∈ TB) (hd : decode cc pc = .ok (.newarray .boolean, 2)) (hlv : ∀ v ∈ lv, rfV G.n v) (hst : ∀ v ∈ st, rfV G.n v) (hz : z = (n : Int)) (hn : n ≤ 1000000) (hl : c < L.length) (e : L.getD c (0, 0) = (13, n)) (hj : 1 ≤ j ∧ n ≤ 6 * j) (hkk : k + j ≤ kk) (hv : v = r + c) (hc' : c' = c + 1) (hk' : k' = k + j)
    (k1 : ∀ G', Cx X G' cc nL own ret d kk → Iv G0 G' r L c' γ μ → V X G' Q k' (pc + 2) lv (aR v :: st) γ μ) : V X G Q k pc lv (aI z :: st) γ μ := by
  subst hk'
  refine V_newZ hC j harr hd hI.2.2.2.1 hlv hst hz hn (hI.shn hl e) hj hkk (fun G' hE => ?_)
  rw [hI.2.1, ← hv]
  exact k1 G' (hC.ext hE) (hI.grow hE hc')
theorem I_newJ (hC : Cx X G cc nL own ret d kk) (hI : Iv G0 G r L c γ μ) {n : Nat} (j : Nat) {z : Int} (harr : Cond.arrayClass .long ∈ TB) (hd : decode cc pc = .ok (.newarray .long, 2)) (hlv : ∀ v ∈ lv, rfV G.n v) (hst : ∀ v ∈ st, rfV G.n v) (hz : z = (n : Int)) (hn : n ≤ 1000000) (hl : c < L.length) (e : L.getD c (0, 0) = (12, n)) (hj : 1 ≤ j ∧ n ≤ 6 * j) (hkk : k + j ≤ kk) (hv : v = r + c) (hc' : c' = c + 1) (hk' : k' = k + j)
    (k1 : ∀ G', Cx X G' cc nL own ret d kk → Iv G0 G' r L c' γ μ → V X G' Q k' (pc + 2) lv (aR v :: st) γ μ) : V X G Q k pc lv (aI z :: st) γ μ := by
  subst hk'
  refine V_newJ hC j harr hd hI.2.2.2.1 hlv hst hz hn (hI.shn hl e) hj hkk (fun G' hE => ?_)
  rw [hI.2.1, ← hv]
  exact k1 G' (hC.ext hE) (hI.grow hE hc')
theorem I_mna (hC : Cx X G cc nL own ret d kk) (hI : Iv G0 G r L c γ μ) {N n ix : Nat} (j : Nat) {z y : Int} (hov : va_AOA .int X.s) (harr : Cond.arrayClass .int ∈ TB) (hw : Cond.classLink own ix "[[I" ∈ TB) (hd : decode cc pc = .ok (.multianewarray ix 2, 4)) (hlv : ∀ v ∈ lv, rfV G.n v) (hst : ∀ v ∈ st, rfV G.n v) (hz : z = (n : Int)) (hy : y = (N : Int)) (hn : n ≤ 10000 ∧ N ≤ 10000)
    (hl : c + N < L.length) (e : L.getD c (0, 0) = (14, N)) (e2 : ∀ i : Nat, i < N → L.getD (c + 1 + i) (0, 0) = (11, n)) (hj : 1 + N ≤ j ∧ N + N * n ≤ 6 * j) (hkk : k + j ≤ kk) (hv : v = r + c) (hc' : c' = c + (1 + N)) (hk' : k' = k + j)
    (k1 : ∀ G', Cx X G' cc nL own ret d kk → Iv G0 G' r L c' (innR γ v N) μ → V X G' Q k' (pc + 4) lv (aR v :: st) (innR γ v N) μ) : V X G Q k pc lv (aI z :: aI y :: st) γ μ := by
  subst hk'
  refine V_mna hC j hov harr hw hd hI.2.2.2.1 hlv hst hz hy hn (hI.shn (by omega) e) (fun i hi => ?_) hj hkk (fun G' hE => ?_)
  · have h := hI.2.2.1 (c + 1 + i) (by omega)
    have h2 := hI.2.1
    rw [show ((G.n + 1 + i : Nat) : Int) = r + ((c + 1 + i : Nat) : Int) by omega]
    exact h.trans (e2 i hi)
  · have hF := innR_Fr hI.2.2.2.1 hE
    rw [hI.2.1, ← hv] at hF ⊢
    have h1 := hI.grow hE hc'
    exact k1 G' (hC.ext hE) ⟨h1.1, h1.2.1, h1.2.2.1, hF, h1.2.2.2.2⟩
theorem I_putF (hC : Cx X G cc nL own ret d kk) (hI : Iv G0 G r L c γ μ) {ci N ix : Nat} {C : String} {T : u_T} {z : Int} (hin9 : X.t.name = "<init>") (j : Nat) (ty0 : Nat → FieldType) (hty : ∀ k, k < N → parseFieldDescriptor (T k).2.2.1 = some (ty0 k)) (hnm : ∀ a, a < N → ∀ b, b < N → a ≠ b → (T a).2.1 ≠ (T b).2.1) (hc : vwCl[ci]? = some (C, T, N)) (hin : ∀ w ∈ u_ws C T N, w ∈ TB) (hw : Cond.fieldLink own ix (T j).1 (T j).2.1 (T j).2.2.1 ∈ TB) (hj : j < N) (he : ty0 j = tyF ci j) (ht : isRf (tyF ci j) = true) (hfin : (T j).2.2.2 = true) (hdl : (T j).1 = own) (hci : ci < 10) (hd : decode cc pc = .ok (.putfield ix, 3)) (hl : 0 < L.length) (e : L.getD 0 (0, 0) = (ci, N)) (hz : z < r + c)
    (k1 : Iv G0 G r L c (up γ r j z) μ → V X G Q k (pc + 3) lv st (up γ r j z) μ) : V X G Q k pc lv (aR z :: aR r :: st) γ μ := by
  have h2 := hI.2.1
  have h6 := hI.2.2.2.2.2
  exact V_putF hC hin9 j ty0 hty hnm hc hin hw hj he ht hfin hdl hci hd (hI.o hl e) (k1 ⟨hI.1, hI.2.1, hI.2.2.1, hI.2.2.2.1.upG (by omega) (by omega), hI.2.2.2.2⟩)
theorem I_putR (hC : Cx X G cc nL own ret d kk) (hI : Iv G0 G r L c γ μ) {ci N ix : Nat} {C : String} {T : u_T} {z : Int} (j : Nat) (ty0 : Nat → FieldType) (hty : ∀ k, k < N → parseFieldDescriptor (T k).2.2.1 = some (ty0 k)) (hnm : ∀ a, a < N → ∀ b, b < N → a ≠ b → (T a).2.1 ≠ (T b).2.1) (hc : vwCl[ci]? = some (C, T, N)) (hin : ∀ w ∈ u_ws C T N, w ∈ TB) (hw : Cond.fieldLink own ix (T j).1 (T j).2.1 (T j).2.2.1 ∈ TB) (hj : j < N) (he : ty0 j = tyF ci j) (ht : isRf (tyF ci j) = true) (hfin : (T j).2.2.2 = false) (hci : ci < 10) (hd : decode cc pc = .ok (.putfield ix, 3)) (hl : 0 < L.length) (e : L.getD 0 (0, 0) = (ci, N)) (hz : z < r + c)
    (k1 : Iv G0 G r L c (up γ r j z) μ → V X G Q k (pc + 3) lv st (up γ r j z) μ) : V X G Q k pc lv (aR z :: aR r :: st) γ μ := by
  have h2 := hI.2.1
  have h6 := hI.2.2.2.2.2
  exact V_putR hC j ty0 hty hnm hc hin hw hj he ht hfin hci hd (hI.o hl e) (k1 ⟨hI.1, hI.2.1, hI.2.2.1, hI.2.2.2.1.upG (by omega) (by omega), hI.2.2.2.2⟩)
theorem I_putI (hC : Cx X G cc nL own ret d kk) (hI : Iv G0 G r L c γ μ) {ci N ix : Nat} {C : String} {T : u_T} {z : Int} (j : Nat) (ty0 : Nat → FieldType) (hty : ∀ k, k < N → parseFieldDescriptor (T k).2.2.1 = some (ty0 k)) (hnm : ∀ a, a < N → ∀ b, b < N → a ≠ b → (T a).2.1 ≠ (T b).2.1) (hc : vwCl[ci]? = some (C, T, N)) (hin : ∀ w ∈ u_ws C T N, w ∈ TB) (hw : Cond.fieldLink own ix (T j).1 (T j).2.1 (T j).2.2.1 ∈ TB) (hj : j < N) (he : ty0 j = tyF ci j) (ht : isN (tyF ci j) = true) (hfin : (T j).2.2.2 = false) (hci : ci < 10 ∧ ¬ (ci = 9 ∧ j = 22)) (hd : decode cc pc = .ok (.putfield ix, 3)) (hl : 0 < L.length) (e : L.getD 0 (0, 0) = (ci, N)) (hz : okP (tyF ci j) z)
    (k1 : Iv G0 G r L c γ (up μ r j z) → V X G Q k (pc + 3) lv st γ (up μ r j z)) : V X G Q k pc lv (aI z :: aR r :: st) γ μ := by
  have h2 := hI.2.1
  have h6 := hI.2.2.2.2.2
  exact V_putI hC j ty0 hty hnm hc hin hw hj he ht hfin hci hd (hI.o hl e) hz (k1 ⟨hI.1, hI.2.1, hI.2.2.1, hI.2.2.2.1.upM (by omega), hI.2.2.2.2⟩)
theorem I_return {Po : Gx → Option AV → Mu → Mu → Prop} (hC : Cx X G cc nL own none d kk) (hI : Iv G0 G r L c γ μ) {k0 : Nat} (hd : decode cc pc = .ok (.return_, 1)) (hk : k0 ≤ k) (hp : Po G none γ μ) : V X G (QmG X G0 k Po) k0 pc lv [] γ μ := by
  obtain ⟨N, hE⟩ := hI.1
  exact V_returnG hE hC hd hk hp
theorem shL.sub {M : List (Nat × Nat)} {o : Nat} (h : shL G r L) (hv : v = r + o) (hs : ∀ i, i < M.length → o + i < L.length ∧ M.getD i (0, 0) = L.getD (o + i) (0, 0)) : shL G v M := fun i hi => by
  obtain ⟨h1, h2⟩ := hs i hi
  rw [h2, ← h (o + i) h1, hv]
  congr 1
  omega
/-- the constructor of an object of which the first cell has just been made -/
theorem I_ctor (hC : Cx X G cc nL own ret d kk) (hI : Iv G0 G r L c γ μ) {ix : Nat} {y : MethodName} {host : String} {cc' : ByteArray} {nL' : Nat} {d' m9 : Nat} {M : List (Nat × Nat)} {gi mi : Mu} (hov : va_AOA .int X.s)
    (hnx : (own, ix, y, host) ∈ sxN) (hcd : Cond.code y cc' nL' none ∈ TB) (hin9 : Cond.instanceMethod y ∈ TB) (hini : Cond.initialized y.cls ∈ TB) (hnm : y.name = "<init>") (hy : y.cls ≠ "java/lang/invoke/MethodHandle" ∧ y.cls ≠ "java/lang/invoke/VarHandle" ∧ (parseMethodDescriptor y.desc).map (fun d => d.parameters.length) = some 0) (hd : decode cc pc = .ok (.invokespecial ix, 3)) (hL : nL' ≤ 40)
    (hst : st.length ≤ 4) (hdd : d' < d) (hkk : k + m9 ≤ kk) (hlv : ∀ v ∈ lv, rfV G.n v) (hsr : ∀ v ∈ st, rfV G.n v) (o : Nat) (ho : c = o + 1) (hv : v = r + o) (hc' : c' = o + M.length) (hk' : k' = k + m9) (hsb : ∀ i, i < M.length → o + i < L.length ∧ M.getD i (0, 0) = L.getD (o + i) (0, 0)) (hM : 1 ≤ M.length)
    (hcn : (G.n : Int) = v + 1 → Fr G γ μ → shL G v M → 0 ≤ v → CnG X.l G y cc' nL' d' m9 [aR v] γ μ (PG v M gi mi))
    (k1 : ∀ G', Cx X G' cc nL own ret d kk → Iv G0 G' r L c' gi mi → V X G' Q k' (pc + 3) lv st gi mi) : V X G Q k pc lv (aR v :: st) γ μ := by
  subst hk'
  have h2 := hI.2.1
  have h5 := hI.2.2.2.2.1
  refine V_callIN hC hov (show 0 ≤ v by omega) hnx hcd hin9 hini hnm hy hd hL hst rfl hdd hkk hlv hsr (hcn (by omega) hI.2.2.2.1 (hI.2.2.1.sub hv hsb) (by omega)) (fun G' N o9 γ' μ' hE hp => ?_)
  obtain ⟨rfl, p2, p3, rfl, rfl⟩ := hp
  obtain ⟨⟨K, q1⟩, -, q3, -, -, -⟩ := hI
  have hs' : shL G' r L := by unfold shL; rw [hE.2.2.2.1]; exact q3
  exact k1 G' (hC.ext hE) ⟨⟨_, q1.tr hE⟩, by omega, hs', p3, h5, by omega⟩
end IRules
