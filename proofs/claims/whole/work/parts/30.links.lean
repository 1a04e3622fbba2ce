/-! LINKS, purely, and as the model holds them -/
noncomputable def idN (w : Nat → Int32) (j l : Nat) : Nat := if l = layF w (j / 10) then j / 10 else if l = layF w (j % 10) then j % 10 else 100 + j
def ixN (L : List Nat) (x : Nat) : Nat := ((List.range L.length).find? (fun i => L.getD i 0 == x)).getD 0
theorem ixN_is {L : List Nat} {x : Nat} (h : x ∈ L) : ixN L x < L.length ∧ L.getD (ixN L x) 0 = x ∧ ∀ j, j < ixN L x → L.getD j 0 ≠ x := by
  obtain ⟨i, hi, e⟩ := List.getElem_of_mem h
  have e : L.getD i 0 = x := by rw [List.getD_eq_getElem?_getD, List.getElem?_eq_getElem hi]; exact e
  obtain ⟨k, ⟨k1, k2⟩, k3⟩ := pk_least (fun i => i < L.length ∧ L.getD i 0 = x) ⟨i, hi, e⟩
  have hf : (List.range L.length).find? (fun i => L.getD i 0 == x) = some k := by
    rw [List.find?_range_eq_some]
    refine ⟨by simpa using k2, List.mem_range.mpr k1, fun q hq => ?_⟩
    have := k3 q hq
    simp only [not_and] at this
    have := this (by omega)
    simpa using this
  have e2 : ixN L x = k := by
    unfold ixN
    rw [hf]
    rfl
  rw [e2]
  exact ⟨k1, k2, fun j hj z => k3 j hj ⟨by omega, z⟩⟩
theorem mem_pl {w : Nat → Int32} {p l : Nat} (hp : p < 10) (hu : usd w p = true) (hl : layF w p = l) : p ∈ itL w l := by
  unfold itL itT pT
  rw [List.mem_append]
  left
  rw [List.mem_filter]
  refine ⟨List.mem_range.mpr hp, ?_⟩
  unfold plB
  simp [hu, hl]
theorem mem_bd {w : Nat → Int32} {j l : Nat} (hj : j < 100) (h : bdB w l j = true) : 100 + j ∈ itL w l := by
  unfold itL itT bT
  rw [List.mem_append]
  right
  rw [List.mem_map]
  exact ⟨j, List.mem_filter.mpr ⟨List.mem_range.mpr hj, h⟩, rfl⟩
theorem mem_id {w : Nat → Int32} (hF : FO w) {j l : Nat} (hj : j < 100) (hs : stB w j = true) (h1 : layF w (j / 10) ≤ l) (h2 : l ≤ layF w (j % 10)) : idN w j l ∈ itL w l := by
  obtain ⟨u1, u2, u3⟩ := st_lay hF hj hs
  unfold idN
  split
  · rename_i z
    exact mem_pl (by omega) u1 z.symm
  · split
    · rename_i z
      exact mem_pl (by omega) u2 z.symm
    · refine mem_bd hj ?_
      unfold bdB
      rw [hs]
      simp only [Bool.true_and, Bool.and_eq_true, decide_eq_true_eq]
      omega
theorem it_lt {w : Nat → Int32} {l x : Nat} (h : x ∈ itL w l) : x < 200 := by
  unfold itL itT pT bT at h
  rw [List.mem_append] at h
  rcases h with h | h
  · have := List.mem_range.mp (List.mem_filter.mp h).1
    omega
  · obtain ⟨t, ht, rfl⟩ := List.mem_map.mp h
    have := List.mem_range.mp (List.mem_filter.mp ht).1
    omega
noncomputable def lkB (w : Nat → Int32) (l j : Nat) : Bool := stB w j && (decide (layF w (j / 10) ≤ l) && decide (l < layF w (j % 10)))
noncomputable def kT (w : Nat → Int32) (j l : Nat) : List Nat := (List.range j).filter (lkB w l)
theorem kT_len {w : Nat → Int32} (hF : FO w) {j : Nat} (hj : j ≤ 100) (l : Nat) : (kT w j l).length ≤ 16 := by
  unfold kT
  rw [filt_len]
  have h2 : fb_ct (lkB w l) j ≤ fb_ct (fun j => decide (0 < w j)) j := fb_ct_sub (fun k _ hk => by
    unfold lkB stB at hk
    simp only [Bool.and_eq_true] at hk
    exact hk.1.1)
  have h3 : fb_ct (fun j => decide (0 < w j)) j ≤ fb_ct (fun j => decide (0 < w j)) 100 := fb_ct_mono _ hj
  have := hF.2.2
  omega
theorem kT_s {w : Nat → Int32} {j l : Nat} (h : lkB w l j = true) : kT w (j + 1) l = kT w j l ++ [j] := by
  unfold kT
  rw [filt_s]
  simp [h]
theorem kT_n {w : Nat → Int32} {j l : Nat} (h : lkB w l j = false) : kT w (j + 1) l = kT w j l := by
  unfold kT
  rw [filt_s]
  simp [h]
noncomputable def mkT (w : Nat → Int32) (j l0 l : Nat) : List Nat := if l < l0 then kT w (j + 1) l else kT w j l
theorem mkT_0 {w : Nat → Int32} {j : Nat} : (fun l => mkT w j (layF w (j / 10)) l) = (fun l => kT w j l) := by
  funext l
  unfold mkT
  split
  · apply kT_n
    unfold lkB
    simp [show ¬ layF w (j / 10) ≤ l by omega]
  · rfl
theorem mkT_s {w : Nat → Int32} {j l0 : Nat} (hs : stB w j = true) (h1 : layF w (j / 10) ≤ l0) (h2 : l0 < layF w (j % 10)) : (fun l => mkT w j (l0 + 1) l) = upT (fun l => mkT w j l0 l) l0 j := by
  funext l
  simp only [upT, mkT]
  by_cases z : l = l0
  · subst z
    rw [if_pos (Nat.lt_succ_self l), if_pos rfl, if_neg (Nat.lt_irrefl l), kT_s]
    unfold lkB
    simp [hs, h1, h2]
  · rw [if_neg z]
    by_cases z2 : l < l0
    · rw [if_pos (by omega), if_pos z2]
    · rw [if_neg (by omega), if_neg z2]
theorem mkT_e {w : Nat → Int32} {j l0 : Nat} (h2 : layF w (j % 10) ≤ l0) : (fun l => mkT w j l0 l) = (fun l => kT w (j + 1) l) := by
  funext l
  unfold mkT
  split
  · rfl
  · symm
    apply kT_n
    unfold lkB
    simp [show ¬ l < layF w (j % 10) by omega]
theorem kT_nst {w : Nat → Int32} {j : Nat} (h : stB w j = false) : (fun l => kT w (j + 1) l) = (fun l => kT w j l) := by
  funext l
  apply kT_n
  unfold lkB
  simp [h]
theorem mkT_len {w : Nat → Int32} (hF : FO w) {j l0 : Nat} (hj : j < 100) (hs : stB w j = true) (h1 : layF w (j / 10) ≤ l0) (h2 : l0 < layF w (j % 10)) : (mkT w j l0 l0).length < 16 := by
  have h3 : mkT w j (l0 + 1) l0 = mkT w j l0 l0 ++ [j] := by
    have : mkT w j (l0 + 1) l0 = upT (fun l => mkT w j l0 l) l0 j l0 := congrFun (mkT_s hs h1 h2) l0
    rw [this]
    simp [upT]
  have h4 : (mkT w j (l0 + 1) l0).length ≤ 16 := by
    unfold mkT
    rw [if_pos (Nat.lt_succ_self l0)]
    exact kT_len hF (by omega) l0
  rw [h3, List.length_append] at h4
  have : ([j] : List Nat).length = 1 := rfl
  omega
/-- the model's links of one layer -/
def LkM (w : Nat → Int32) (A : HI) (K : Nat → List Nat) : Prop := ∀ l, l < 10 → A 106 l = nI (K l).length ∧ ∀ t, t < (K l).length → A 107 (16 * l + t) = nI (ixN (itL w l) (idN w ((K l).getD t 0) l)) ∧ A 108 (16 * l + t) = nI (ixN (itL w (l + 1)) (idN w ((K l).getD t 0) (l + 1))) ∧ A 109 (16 * l + t) = w ((K l).getD t 0)
theorem LkM.add {w : Nat → Int32} {A : HI} {K : Nat → List Nat} (h : LkM w A K) {l j : Nat} (hl : l < 10) (hK : (K l).length < 16) (hK9 : ∀ q, q < 10 → (K q).length ≤ 16) :
    LkM w (up2 (up2 (up2 (up2 A 107 (16 * l + (K l).length) (nI (ixN (itL w l) (idN w j l)))) 108 (16 * l + (K l).length) (nI (ixN (itL w (l + 1)) (idN w j (l + 1))))) 109 (16 * l + (K l).length) (w j)) 106 l (nI ((K l).length + 1))) (upT K l j) := by
  intro q hq
  have hq9 := hK9 q hq
  obtain ⟨g1, g2⟩ := h q hq
  unfold upT
  by_cases z : q = l
  · subst z
    rw [if_pos rfl, up2_s]
    refine ⟨by rw [List.length_append]; rfl, fun t ht => ?_⟩
    rw [List.length_append] at ht
    have ht : t < (K q).length + 1 := ht
    rw [up2_k (show (107 : Nat) ≠ 106 by decide), up2_k (show (107 : Nat) ≠ 109 by decide), up2_k (show (107 : Nat) ≠ 108 by decide), up2_k (show (108 : Nat) ≠ 106 by decide), up2_k (show (108 : Nat) ≠ 109 by decide), up2_k (show (109 : Nat) ≠ 106 by decide)]
    rcases Nat.lt_succ_iff_lt_or_eq.mp ht with z | z
    · have e : (K q ++ [j]).getD t 0 = (K q).getD t 0 := by rw [List.getD_eq_getElem?_getD, List.getD_eq_getElem?_getD, List.getElem?_append_left z]
      rw [e, up2_j (show 16 * q + t ≠ 16 * q + (K q).length by omega), up2_j (show 16 * q + t ≠ 16 * q + (K q).length by omega), up2_k (show (108 : Nat) ≠ 107 by decide), up2_j (show 16 * q + t ≠ 16 * q + (K q).length by omega), up2_k (show (109 : Nat) ≠ 108 by decide), up2_k (show (109 : Nat) ≠ 107 by decide)]
      exact g2 t z
    · subst z
      have e : (K q ++ [j]).getD (K q).length 0 = j := by
        rw [List.getD_eq_getElem?_getD, List.getElem?_append_right (Nat.le_refl _), Nat.sub_self]
        rfl
      rw [e, up2_s, up2_s, up2_s]
      exact ⟨rfl, rfl, rfl⟩
  · rw [if_neg z]
    refine ⟨by rw [up2_j z, up2_k (by decide), up2_k (by decide), up2_k (by decide)]; exact g1, fun t ht => ?_⟩
    have hne : 16 * q + t ≠ 16 * l + (K l).length := by omega
    rw [up2_k (show (107 : Nat) ≠ 106 by decide), up2_k (show (107 : Nat) ≠ 109 by decide), up2_k (show (107 : Nat) ≠ 108 by decide), up2_k (show (108 : Nat) ≠ 106 by decide), up2_k (show (108 : Nat) ≠ 109 by decide), up2_k (show (109 : Nat) ≠ 106 by decide), up2_j hne, up2_j hne, up2_k (show (108 : Nat) ≠ 107 by decide), up2_j hne, up2_k (show (109 : Nat) ≠ 108 by decide), up2_k (show (109 : Nat) ≠ 107 by decide)]
    exact g2 t ht
theorem fnd_is {w : Nat → Int32} {I A : HI} (h : ShM A (itL w)) (hF : FO w) {l x : Nat} (hl : l < 10) (hx : x ∈ itL w l) : fnd0 I A (nI l) (nI x) ∧ fnd I A (nI l) (nI x) = nI (ixN (itL w l) x) := by
  obtain ⟨i1, i2, i3⟩ := ixN_is hx
  have hlen : (itL w l).length ≤ 26 := itT_len hF (Nat.le_refl _) (Nat.le_refl _) l
  have hx9 := it_lt hx
  have e := (h l hl).2 _ i1
  rw [i2] at e
  refine ⟨⟨l, _, hl, by omega, rfl, e⟩, ?_⟩
  unfold fnd
  rw [cl_n (by omega)]
  refine ixO_is (f := fun i => A 105 (30 * l + i)) (by omega) e (fun j hj z => ?_)
  have z : A 105 (30 * l + j) = nI x := z
  rw [(h l hl).2 j (by omega)] at z
  have hm : (itL w l).getD j 0 ∈ itL w l := by
    rw [List.getD_eq_getElem?_getD, List.getElem?_eq_getElem (by omega)]
    exact List.getElem_mem _
  have := it_lt hm
  exact i3 j hj ((nI_eq (by omega) (by omega)).mp z)
theorem itm_id {w : Nat → Int32} {lay : Nat → Int32} (hL : ∀ p, p < 10 → usd w p = true → lay p = nI (layF w p)) {a b l : Nat} (ha : a < 10) (hb : b < 10) (hu : usd w a = true) (hv : usd w b = true) (hl : l < 20) : itmI lay (nI a) (nI b) (nI l) = nI (idN w (10 * a + b) l) := by
  obtain ⟨d1, d2⟩ := dm10 (a := a) hb
  have z1 := lay_lt ha hu
  have z2 := lay_lt hb hv
  have z3 := nLay_le w
  unfold itmI idN
  rw [cl_n (show a < 2 ^ 31 by omega), cl_n (show b < 2 ^ 31 by omega), hL a ha hu, hL b hb hv, d1, d2]
  by_cases q1 : l = layF w a
  · rw [if_pos (by rw [q1]), if_pos q1]
  · rw [if_neg (fun e => q1 ((nI_eq (by omega) (by omega)).mp e)), if_neg q1]
    by_cases q2 : l = layF w b
    · rw [if_pos (by rw [q2]), if_pos q2]
    · rw [if_neg (fun e => q2 ((nI_eq (by omega) (by omega)).mp e)), if_neg q2, id_n]
theorem isS_iff {w sp : Nat → Int32} (hs : ∀ p, p < 10 → usd w p = true → sp p = nI (posF w p)) {a b : Nat} (ha : a < 10) (hb : b < 10) : isS w sp (nI a) (nI b) = 0 ↔ stB w (10 * a + b) = false := by
  obtain ⟨d1, d2⟩ := dm10 (a := a) hb
  unfold isS stB trB trnI
  rw [ix_b, cl_n (show 10 * a + b < 2 ^ 31 by omega), cl_n (show a < 2 ^ 31 by omega), cl_n (show b < 2 ^ 31 by omega), d1, d2]
  by_cases h : 0 < w (10 * a + b)
  · obtain ⟨u1, u2⟩ := usd_of (show 10 * a + b < 100 by omega) h
    rw [d1] at u1
    rw [d2] at u2
    have p1 := (pos_is ha u1).1
    have p2 := (pos_is hb u2).1
    have := nU_le w
    rw [hs a ha u1, hs b hb u2]
    have e : nI (posF w b) < nI (posF w a) ↔ posF w b < posF w a := nI_ltI (by omega) (by omega)
    by_cases z : posF w b < posF w a
    · simp [h, z, e.mpr z]
    · have z2 : ¬ nI (posF w b) < nI (posF w a) := fun q => z (e.mp q)
      simp [h, z, z2]
  · simp [h]
