/-! LAYERS -/
def mxF (f : Nat → Nat) : Nat → Nat
  | 0 => 0
  | n + 1 => max (mxF f n) (f n)
theorem mxF_cong {f g : Nat → Nat} : ∀ {n : Nat}, (∀ k, k < n → f k = g k) → mxF f n = mxF g n
  | 0, _ => rfl
  | n + 1, h => by rw [mxF, mxF, mxF_cong (fun k hk => h k (by omega)), h n (by omega)]
theorem mxF_ge {f : Nat → Nat} : ∀ {n k : Nat}, k < n → f k ≤ mxF f n
  | 0, k, h => absurd h (Nat.not_lt_zero k)
  | n + 1, k, h => by
    rw [mxF]
    rcases Nat.lt_succ_iff_lt_or_eq.mp h with z | z
    · exact Nat.le_trans (mxF_ge z) (Nat.le_max_left _ _)
    · subst z
      exact Nat.le_max_right _ _
theorem mxF_le {f : Nat → Nat} {b : Nat} : ∀ {n : Nat}, (∀ k, k < n → f k ≤ b) → mxF f n ≤ b
  | 0, _ => Nat.zero_le _
  | n + 1, h => by
    rw [mxF]
    exact Nat.max_le.mpr ⟨mxF_le (fun k hk => h k (by omega)), h n (by omega)⟩
noncomputable def lyl (w : Nat → Int32) : Nat → List Nat
  | 0 => []
  | i + 1 => lyl w i ++ [mxF (fun j => if 0 < w (10 * rowF w j + rowF w i) then (lyl w i).getD j 0 + 1 else 0) i]
noncomputable def lyP (w : Nat → Int32) (i : Nat) : Nat := (lyl w (i + 1)).getD i 0
theorem lyl_len (w : Nat → Int32) : ∀ n, (lyl w n).length = n
  | 0 => rfl
  | n + 1 => by rw [lyl, List.length_append, lyl_len w n]; rfl
theorem lyl_get (w : Nat → Int32) : ∀ {n j : Nat}, j < n → (lyl w n).getD j 0 = lyP w j
  | 0, j, h => absurd h (Nat.not_lt_zero j)
  | n + 1, j, h => by
    rcases Nat.lt_succ_iff_lt_or_eq.mp h with z | z
    · rw [lyl, List.getD_eq_getElem?_getD, List.getElem?_append_left (by rw [lyl_len]; exact z), ← List.getD_eq_getElem?_getD]
      exact lyl_get w z
    · subst z
      rfl
theorem lyP_eq (w : Nat → Int32) (i : Nat) : lyP w i = mxF (fun j => if 0 < w (10 * rowF w j + rowF w i) then lyP w j + 1 else 0) i := by
  unfold lyP
  rw [lyl, List.getD_eq_getElem?_getD, List.getElem?_append_right (by rw [lyl_len]; exact Nat.le_refl _), lyl_len, Nat.sub_self]
  show mxF _ i = _
  apply mxF_cong
  intro k hk
  rw [lyl_get w hk]
  rfl
theorem lyP_le (w : Nat → Int32) : ∀ i, lyP w i ≤ i := by
  intro i
  induction i using Nat.strongRecOn with
  | _ i ih =>
    rw [lyP_eq]
    refine mxF_le (fun k hk => ?_)
    split
    · have := ih k hk
      omega
    · omega
noncomputable def layF (w : Nat → Int32) (p : Nat) : Nat := lyP w (posF w p)
noncomputable def nLay (w : Nat → Int32) : Nat := mxF (fun i => lyP w i + 1) (nU w)
theorem nLay_le (w : Nat → Int32) : nLay w ≤ 10 := mxF_le (fun k hk => by
  have := lyP_le w k
  have := nU_le w
  omega)
theorem lay_lt {w : Nat → Int32} {p : Nat} (hp : p < 10) (hu : usd w p = true) : layF w p < nLay w := mxF_ge (f := fun i => lyP w i + 1) (pos_is hp hu).1
def LyPre (w : Nat → Int32) (I A : HI) : Prop := I 3 2 = nI (nU w) ∧ (∀ k, k < nU w → A 9 k = nI (rowF w k)) ∧ ∀ i j, i < nU w → j < i → A 12 (10 * rowF w j + rowF w i) = w (10 * rowF w j + rowF w i)
def pLa (I A I' A' : HI) : Prop := I' = up2 I 3 11 (nI (nLay (A 2))) ∧ offA [11] A A' ∧ ∀ p, p < 10 → A' 11 p = if usd (A 2) p then nI (layF (A 2) p) else -1
theorem mxI_n {a b : Nat} (ha : a < 2 ^ 31) (hb : b < 2 ^ 31) : mxI (nI a) (nI b) = nI (max a b) := by
  unfold mxI
  by_cases z : a < b
  · rw [if_pos (nI_lt z hb), Nat.max_eq_right (by omega)]
  · rw [if_neg (nI_nlt (by omega) ha), Nat.max_eq_left (by omega)]
theorem strI_n {A : HI} {a b : Nat} (ha : a < 10) (hb : b < 10) : strI A (nI a) (nI b) = A 12 (10 * a + b) := by
  unfold strI
  rw [zPP_of ha hb, if_neg (by decide), ix_a, cl_n (by omega)]
set_option maxHeartbeats 4000000 in
theorem c_X5_putInLayers (l : Launch) (D : va_G) (ads : AD) (I A : HI) (hp : LyPre (A 2) I A) : Ct l yX5_putInLayers cX5_putInLayers 4 none 2 43 D ads shp [.inr (some 3)] I A (qV (pLa I A)) := by
  obtain ⟨hI, hrow, hst⟩ := hp
  have hn10 : nU (A 2) ≤ 10 := nU_le _
  let gg : Nat → Nat → Nat := fun i j => if 0 < A 2 (10 * rowF (A 2) j + rowF (A 2) i) then lyP (A 2) j + 1 else 0
  have hgg : ∀ i j, j ≤ i → mxF (gg i) j ≤ i := by
    intro i j hj
    refine mxF_le (fun k hk => ?_)
    have := lyP_le (A 2) k
    show (if 0 < A 2 (10 * rowF (A 2) k + rowF (A 2) i) then lyP (A 2) k + 1 else 0) ≤ i
    split <;> omega
  refine k_X5_putInLayers l D ads I A _
    (fun x I' A' => ∃ i, i ≤ nU (A 2) ∧ x = nI i ∧ I' = up2 I 3 11 (nI (mxF (fun i => lyP (A 2) i + 1) i)) ∧ offA [11] A A' ∧ (∀ j, j < i → A' 11 (rowF (A 2) j) = nI (lyP (A 2) j)) ∧ ∀ p, p < 10 → (∀ j, j < i → rowF (A 2) j ≠ p) → A' 11 p = -1)
    (fun x _ _ => 10 - x.toNatClampNeg)
    (fun y _ _ d x => ∃ i j, i < nU (A 2) ∧ j ≤ i ∧ y = nI i ∧ x = nI j ∧ d = nI (mxF (gg i) j))
    (fun _ _ _ _ x => 10 - x.toNatClampNeg) ⟨⟨0, Nat.zero_le _, rfl, rfl, fun q hq => ?_, fun j h => absurd h (Nat.not_lt_zero j), fun p hp9 _ => ?_⟩, ?_⟩
  · funext b
    unfold filA
    rw [if_neg]
    rintro ⟨rfl, -⟩
    exact hq (by decide)
  · unfold filA
    rw [if_pos ⟨rfl, hp9⟩]
  rintro x I1 A1 ⟨i, hi, rfl, rfl, hoff, hdone, hno⟩
  have e9 : A1 9 = A 9 := hoff 9 (by decide)
  rw [up2_j (show (2 : Nat) ≠ 11 by decide), hI, up2_s]
  refine ⟨fun h => ?_, fun h => ?_⟩
  · have e := cn_eq rfl hi (by omega) h
    subst e
    refine qV_i ⟨rfl, hoff, fun p hp9 => ?_⟩
    cases hu : usd (A 2) p
    · refine hno p hp9 (fun j hj e => ?_)
      have := (row_used hj).2
      rw [e, hu] at this
      cases this
    · obtain ⟨z1, z2⟩ := pos_is hp9 hu
      have := hdone _ z1
      rw [z2] at this
      rw [this]
      rfl
  · have hi2 := cn_lt rfl hi (by omega) h
    obtain ⟨r1, r2⟩ := row_used hi2
    refine ⟨⟨i, 0, hi2, Nat.zero_le _, rfl, rfl, rfl⟩, ?_⟩
    rintro d x ⟨i', j, hi', hj, ei, rfl, rfl⟩
    have ei : i' = i := ((nI_eq (by omega) (by omega)).mp ei).symm
    subst ei
    have hd := hgg i' j hj
    rw [cl_n (show i' < 2 ^ 31 by omega), e9, hrow i' hi2]
    refine ⟨fun h9 => ?_, fun h9 => ?_⟩
    · have e : j = i' := by
        have := (nI_leI (by omega) (by omega)).mp h9
        omega
      subst e
      have hly : mxF (gg j) j = lyP (A 2) j := (lyP_eq (A 2) j).symm
      rw [cl_n (show rowF (A 2) j < 2 ^ 31 by omega), hly]
      rw [hly] at hd
      have hmx : mxF (fun i => lyP (A 2) i + 1) j ≤ 10 := mxF_le (fun k hk => by have := lyP_le (A 2) k; omega)
      refine ⟨vp_in_nI (by omega) (by decide), vp_in_nI r1 (by decide), ⟨j + 1, hi2, nI_1 j, ?_, hoff.up (by decide), fun k hk => ?_, fun p hp9 hpn => ?_⟩, ?_⟩
      · rw [nI_1, mxI_n (by omega) (by omega), up2_2]
        rfl
      · rcases Nat.lt_succ_iff_lt_or_eq.mp hk with z | z
        · rw [up2_j (fun e => by have := row_inj (by omega) hi2 e; omega)]
          exact hdone k z
        · subst z
          rw [up2_s]
      · rw [up2_j (fun e => hpn j (Nat.lt_succ_self j) e.symm)]
        exact hno p hp9 (fun k hk => hpn k (Nat.lt_succ_of_lt hk))
      · rw [nI_1, cl_n (by omega)]
        omega
    · have hj2 : j < i' := (nI_ltI (by omega) (by omega)).mp (nle h9)
      obtain ⟨q1, q2⟩ := row_used (w := A 2) (k := j) (by omega)
      rw [cl_n (show j < 2 ^ 31 by omega), hrow j (by omega), strI_n q1 r1, hoff 12 (by decide), hst i' j hi2 hj2, cl_n (show rowF (A 2) j < 2 ^ 31 by omega), hdone j hj2]
      have hmu : 10 - (nI j + 1).toNatClampNeg < 10 - j := by
        rw [nI_1, cl_n (by omega)]
        omega
      have hlj := lyP_le (A 2) j
      refine ⟨vp_in_nI (by omega) (by decide), vp_in_nI (by omega) (by decide), fun h7 => ⟨⟨i', j + 1, hi2, hj2, rfl, nI_1 j, ?_⟩, hmu⟩, fun h7 => ⟨vp_in_nI (by omega) (by decide), vp_in_nI q1 (by decide), ⟨i', j + 1, hi2, hj2, rfl, nI_1 j, ?_⟩, hmu⟩⟩
      · show _ = nI (max (mxF (gg i') j) (if _ then _ else _))
        rw [if_neg (le_nlt h7), Nat.max_eq_left (Nat.zero_le _)]
      · show _ = nI (max (mxF (gg i') j) (if _ then _ else _))
        rw [if_pos (nle h7), nI_1, mxI_n (by omega) (by omega)]
/-! rank -/
noncomputable def trB (w : Nat → Int32) (j : Nat) : Bool := decide (0 < w j) && decide (posF w (j % 10) < posF w (j / 10))
noncomputable def strF (w : Nat → Int32) (j : Nat) : Int32 := if trB w j then 0 else w j
def RankOK (w : Nat → Int32) (I A : HI) : Prop :=
  I 3 2 = nI (nU w) ∧ (∀ k, k < nU w → A 9 k = nI (rowF w k)) ∧ (∀ p, p < 10 → A 10 p = if usd w p then nI (posF w p) else -1) ∧ (∀ p, p < 10 → A 11 p = if usd w p then nI (layF w p) else -1) ∧ (∀ j, j < 100 → A 12 j = strF w j) ∧
  I 3 11 = nI (nLay w) ∧ I 3 12 = sm32 (fun j => if trB w j then 1 else 0) 100 ∧ I 3 13 = sm32 (fun j => if trB w j then w j else 0) 100
def offI (L : List (Nat × Nat)) (I I' : HI) : Prop := ∀ k j, (k, j) ∉ L → I' k j = I k j
def rnk (I A I' A' : HI) : Prop := offA [4, 5, 6, 7, 8, 9, 10, 11, 12] A A' ∧ offI [(3, 2), (3, 11), (3, 12), (3, 13)] I I' ∧ RankOK (A 2) I' A'
theorem usd_of {w : Nat → Int32} {j : Nat} (hj : j < 100) (h : 0 < w j) : usd w (j / 10) = true ∧ usd w (j % 10) = true := by
  constructor
  · unfold usd
    rw [List.any_eq_true]
    refine ⟨j % 10, List.mem_range.mpr (by omega), ?_⟩
    rw [show 10 * (j / 10) + j % 10 = j by omega]
    simp [h]
  · unfold usd
    rw [List.any_eq_true]
    refine ⟨j / 10, List.mem_range.mpr (by omega), ?_⟩
    rw [show 10 * (j / 10) + j % 10 = j by omega]
    simp [h]
theorem trC_B {w sp : Nat → Int32} (hs : ∀ p, p < 10 → sp p = if usd w p then nI (posF w p) else -1) {j : Nat} (hj : j < 100) : trC w sp j = trB w j := by
  unfold trC trB
  by_cases h : 0 < w j
  · obtain ⟨u1, u2⟩ := usd_of hj h
    have p1 := (pos_is (w := w) (p := j / 10) (by omega) u1).1
    have p2 := (pos_is (w := w) (p := j % 10) (by omega) u2).1
    have := nU_le w
    rw [hs _ (show j % 10 < 10 by omega), hs _ (show j / 10 < 10 by omega), u1, u2]
    simp only [if_true]
    congr 1
    exact decide_eq_decide.mpr (nI_ltI (by omega) (by omega))
  · simp [h]
theorem sm32_if {b c : Nat → Bool} {f : Nat → Int32} {n : Nat} (h : ∀ j, j < n → b j = c j) : sm32 (fun j => if b j then f j else 0) n = sm32 (fun j => if c j then f j else 0) n := sm32_cong (fun k hk => by rw [h k hk])
set_option maxHeartbeats 4000000 in
theorem c_X5_rank (l : Launch) (D : va_G) (ads : AD) (I A : HI) (hp : FO (A 2)) : Ct l yX5_rank cX5_rank 1 none 3 70 D ads shp [.inr (some 3)] I A (qV (rnk I A)) := by
  refine k_X5_rank l D ads I A _ (c_X5_gatherUsed l D ads) (c_X5_gatherSources l D ads) (c_X5_weighSets l D ads) (c_X5_lineUp l D ads) (c_X5_partFlows l D ads) (c_X5_putInLayers l D ads) ?_
  rintro I2 A2 ⟨rfl, o2, u2⟩
  have e2 : A2 2 = A 2 := o2 2 (by decide)
  have hU : UsOK (A2 2) (up2 I 3 2 (nI (nU (A 2)))) A2 := by
    rw [e2]
    exact ⟨up2_s, u2⟩
  refine ⟨⟨by rw [e2]; exact hp, hU⟩, ?_⟩
  rintro I4 A4 ⟨rfl, o4, s4, t4⟩
  have e4 : A4 2 = A 2 := (o4 2 (by decide)).trans e2
  have hU4 : UsOK (A4 2) (up2 I 3 2 (nI (nU (A 2)))) A4 := by
    rw [e4]
    exact ⟨up2_s, fun p a b => by rw [o4 4 (by decide)]; exact u2 p a b⟩
  have hS4 : SrOK (A4 2) A4 := by
    rw [e4, ← e2]
    exact ⟨s4, t4⟩
  have hF4 : FO (A4 2) := by rw [e4]; exact hp
  refine ⟨⟨hF4, hU4, hS4⟩, ?_⟩
  rintro I6 A6 ⟨rfl, o6, l6⟩
  have e6 : A6 2 = A4 2 := o6 2 (by decide)
  have hR6 : RkSt (A6 2) (up2 I 3 2 (nI (nU (A 2)))) A6 := by
    rw [e6]
    exact ⟨hF4, ⟨hU4.1, fun p a b => by rw [o6 4 (by decide)]; exact hU4.2 p a b⟩, hS4.off o6, l6⟩
  refine ⟨hR6, ?_⟩
  rintro I8 A8 ⟨rfl, o8, r8, p8⟩
  have e68 : A6 2 = A 2 := e6.trans e4
  have e8 : A8 2 = A 2 := (o8 2 (by decide)).trans e68
  rw [e68] at r8 p8
  rintro I10 A10 ⟨rfl, o10, q10⟩
  have e10 : A10 2 = A 2 := (o10 2 (by decide)).trans e8
  rw [e8] at q10
  have hstr : ∀ j, j < 100 → A10 12 j = strF (A 2) j := by
    intro j hj
    rw [q10 j hj, trC_B p8 hj]
    rfl
  refine ⟨⟨?_, ?_, ?_⟩, ?_⟩
  · rw [up2_j (by decide), up2_j (by decide), up2_s, e10]
  · rw [e10]
    intro k hk
    rw [o10 9 (by decide)]
    exact r8 k hk
  · rw [e10]
    intro i j hi hj
    obtain ⟨a1, a2⟩ := row_used (w := A 2) hi
    obtain ⟨b1, b2⟩ := row_used (w := A 2) (k := j) (by omega)
    rw [hstr _ (by omega)]
    unfold strF
    rw [if_neg]
    unfold trB
    obtain ⟨d1, d2⟩ := dm10 (a := rowF (A 2) j) a1
    rw [d1, d2, pos_row hi, pos_row (show j < nU (A 2) by omega)]
    simp [show ¬ i < j by omega]
  rintro I12 A12 ⟨rfl, o12, l12⟩
  rw [e10] at l12
  refine qV_i ⟨fun k hk => ?_, fun k j hkj => ?_, ?_⟩
  · have h9 : ∀ q, q ∈ ([4, 5, 6, 7, 8, 9, 10, 11, 12] : List Nat) → k ≠ q := fun q hq e => hk (by rw [e]; exact hq)
    rw [o12 k (by simp; exact h9 11 (by decide)), o10 k (by simp; exact h9 12 (by decide)), o8 k (by simp; exact ⟨h9 9 (by decide), h9 10 (by decide)⟩), o6 k (by simp; exact h9 8 (by decide)), o4 k (by simp; exact ⟨h9 5 (by decide), h9 6 (by decide), h9 7 (by decide)⟩), o2 k (by simp; exact h9 4 (by decide))]
  · have h9 : ∀ q, (3, q) ∈ ([(3, 2), (3, 11), (3, 12), (3, 13)] : List (Nat × Nat)) → ¬ (k = 3 ∧ j = q) := fun q hq e => hkj (by rw [e.1, e.2]; exact hq)
    unfold up2
    rw [if_neg (h9 11 (by decide)), if_neg (h9 13 (by decide)), if_neg (h9 12 (by decide)), if_neg (h9 2 (by decide))]
  · rw [e10, e8]
    refine ⟨?_, fun k hk => ?_, fun p hp9 => ?_, l12, fun j hj => ?_, up2_s, ?_, ?_⟩
    · rw [up2_j (by decide), up2_j (by decide), up2_j (by decide), up2_s]
    · rw [o12 9 (by decide), o10 9 (by decide)]
      exact r8 k hk
    · rw [o12 10 (by decide), o10 10 (by decide)]
      exact p8 p hp9
    · rw [o12 12 (by decide)]
      exact hstr j hj
    · rw [up2_j (by decide), up2_j (by decide), up2_s]
      exact sm32_if (fun j hj => trC_B p8 hj)
    · rw [up2_j (by decide), up2_s]
      exact sm32_if (fun j hj => trC_B p8 hj)
