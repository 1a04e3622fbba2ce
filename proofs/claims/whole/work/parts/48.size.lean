/-! sizes and tops: Drawing.sizeOf, topOf; RibbonSetterModel.itemAt, sizeOf, topOf -/
noncomputable def stN (w : Nat → Int32) (j : Nat) : Nat := if stB w j then wN w j else 0
noncomputable def inN (w : Nat → Int32) (x t : Nat) : Nat := fb_sm (fun p => stN w (10 * p + x)) t
noncomputable def ouN (w : Nat → Int32) (x t : Nat) : Nat := fb_sm (fun p => stN w (10 * x + p)) t
noncomputable def szN (w : Nat → Int32) (x : Nat) : Nat := if x < 10 then max 1 (max (inN w x 10) (ouN w x 10)) else wN w (x - 100)
theorem stN_le {w : Nat → Int32} (hF : FO w) {j : Nat} (hj : j < 100) : stN w j ≤ 99 := by
  unfold stN
  split
  · exact (hF.eq hj).2
  · decide
theorem inN_le {w : Nat → Int32} (hF : FO w) {x t : Nat} (hx : x < 10) (ht : t ≤ 10) : inN w x t ≤ 990 ∧ ouN w x t ≤ 990 := by
  have h1 : inN w x t ≤ t * 99 := fb_sm_bound (fun k hk => stN_le hF (by omega))
  have h2 : ouN w x t ≤ t * 99 := fb_sm_bound (fun k hk => stN_le hF (by omega))
  omega
theorem strF_n {w : Nat → Int32} (hF : FO w) {j : Nat} (hj : j < 100) : strF w j = nI (stN w j) := by
  unfold strF stN stB
  cases h : trB w j
  · by_cases z : 0 < w j
    · simp only [Bool.false_eq_true, if_false, decide_eq_true z, Bool.not_false, Bool.and_self, if_true]
      exact (hF.eq hj).1
    · simp only [Bool.false_eq_true, if_false, decide_eq_false z, Bool.false_and]
      exact hF.npos hj z
  · simp only [if_true, Bool.not_true, Bool.and_false, Bool.false_eq_true, if_false]
    rfl
theorem it_kind {w : Nat → Int32} {l x : Nat} (h : x ∈ itL w l) : x < 10 ∨ (100 ≤ x ∧ x < 200 ∧ stB w (x - 100) = true) := by
  unfold itL itT pT bT at h
  rw [List.mem_append] at h
  rcases h with h | h
  · exact Or.inl (List.mem_range.mp (List.mem_filter.mp h).1)
  · obtain ⟨t, ht, rfl⟩ := List.mem_map.mp h
    obtain ⟨h1, h2⟩ := List.mem_filter.mp ht
    have h1 := List.mem_range.mp h1
    unfold bdB at h2
    rw [Bool.and_eq_true] at h2
    refine Or.inr ⟨by omega, by omega, ?_⟩
    rw [Nat.add_sub_cancel_left]
    exact h2.1
def kdN (w : Nat → Int32) (x : Nat) : Prop := x < 10 ∨ (100 ≤ x ∧ x < 200 ∧ stB w (x - 100) = true)
noncomputable def szO (I A : HI) (a1 : Int32) : Int32 := nI (szN (A 2) a1.toNatClampNeg)
def szO0 (I A : HI) (a1 : Int32) : Prop := FO (A 2) ∧ LyOK (A 2) A ∧ ∃ x, a1 = nI x ∧ kdN (A 2) x
set_option maxHeartbeats 4000000 in
theorem c_X1_sizeOf (l : Launch) (D : va_G) (ads : AD) (I A : HI) (a1 : Int32) (hp : szO0 I A a1) : Ct l yX1_sizeOf cX1_sizeOf 5 (some .int) 2 43 D ads shp [.inr (some 95), .inl a1] I A (qI (szO I A a1) I A) := by
  obtain ⟨hF, hL, x, rfl, hx⟩ := hp
  have hx2 : x < 200 := by
    rcases hx with z | z <;> omega
  have clx : (nI x).toNatClampNeg = x := cl_n (by omega)
  have str : ∀ a b, a < 10 → b < 10 → strI A (nI a) (nI b) = nI (stN (A 2) (10 * a + b)) := fun a b ha hb => by
    rw [strI_n ha hb, hL.2 _ (by omega), strF_n hF (by omega)]
  refine k_X1_sizeOf l D ads I A (nI x) _ (fun u v y => ∃ t, t ≤ 10 ∧ y = nI t ∧ u = nI (inN (A 2) x t) ∧ v = nI (ouN (A 2) x t)) (fun _ _ y => 10 - y.toNatClampNeg) ⟨fun h => ⟨⟨0, Nat.zero_le _, rfl, rfl, rfl⟩, ?_⟩, fun h => qI_i ?_⟩
  · have hx10 : x < 10 := by
      obtain ⟨j, h1, h2⟩ := zP_ne h
      have := (nI_eq (by omega) (by omega)).mp h2
      omega
    rintro u v y ⟨t, ht, rfl, rfl, rfl⟩
    refine ⟨fun h2 => qI_i ?_, fun h2 => ?_⟩
    · have e := cn_eq (N := 10) rfl ht (by decide) h2
      subst e
      have hb := inN_le hF hx10 (Nat.le_refl 10)
      unfold szO szN
      rw [clx, if_pos hx10, show (1 : Int32) = nI 1 from rfl, mxI_n (by omega) (by omega), mxI_n (by decide) (by omega)]
    · have ht2 := cn_lt (N := 10) rfl ht (by decide) h2
      refine ⟨⟨t + 1, ht2, nI_1 t, ?_, ?_⟩, cn_mu ht2 (by decide)⟩
      · rw [str t x ht2 hx10, nI_add]
        rfl
      · rw [str x t hx10 ht2, nI_add]
        rfl
  · rcases hx with z | ⟨z1, z2, z3⟩
    · rw [zP_of z] at h
      exact absurd h (by decide)
    · have e1 : nI x - 100 = nI (x - 100) := by
        have := nI_sub (x - 100) 100
        rw [show x - 100 + 100 = x by omega] at this
        exact this
      have e2 : nI (x - 100) / 10 = nI ((x - 100) / 10) := pk_div (d := 10) (by omega) (by decide) (by decide)
      have e3 : nI (x - 100) - nI (x - 100) / 10 * 10 = nI ((x - 100) % 10) := pk_rem (d := 10) (by omega) (by decide) (by decide)
      rw [e1, e3, e2, str _ _ (by omega) (by omega), show 10 * ((x - 100) / 10) + (x - 100) % 10 = x - 100 by omega]
      unfold szO szN stN
      rw [clx, if_neg (show ¬ x < 10 by omega), if_pos z3]
/-- the top of the spot s of a layer -/
noncomputable def tpP (w : Nat → Int32) (ch : Nat → Nat) (g : Int32) (l s : Nat) : Int32 := sm32 (fun i => nI (szN w (shN w ch l i)) + g) s
noncomputable def spN (w : Nat → Int32) (ch : Nat → Nat) (l x : Nat) : Nat := psQ (nIt w l) (ch l) (ixN (itL w l) x)
noncomputable def tpO (ch : Nat → Nat) (I A : HI) (a1 a2 a3 : Int32) : Int32 := tpP (A 2) ch a3 a1.toNatClampNeg (spN (A 2) ch a1.toNatClampNeg a2.toNatClampNeg)
def tpO0 (ch : Nat → Nat) (I A : HI) (a1 a2 a3 : Int32) : Prop := SrS (A 2) ch I A ∧ ∃ l x, l < nLay (A 2) ∧ x ∈ itL (A 2) l ∧ a1 = nI l ∧ a2 = nI x
theorem shN_mem {w : Nat → Int32} {ch : Nat → Nat} {l i : Nat} (hn : nIt w l < 6) (hc : ch l < facN (nIt w l)) (hi : i < nIt w l) : shN w ch l i ∈ itL w l := by
  have hx := (tq1 hn hc hi).1
  unfold shN
  rw [getD_lt hx]
  exact List.getElem_mem _
theorem spN_lt {w : Nat → Int32} {ch : Nat → Nat} {l x : Nat} (hn : nIt w l < 6) (hc : ch l < facN (nIt w l)) (hx : x ∈ itL w l) : spN w ch l x < nIt w l := (tq2 hn hc (ixN_is hx).1).2
set_option maxHeartbeats 4000000 in
theorem c_X1_topOf (ch : Nat → Nat) (l : Launch) (D : va_G) (ads : AD) (I A : HI) (a1 a2 a3 : Int32) (hp : tpO0 ch I A a1 a2 a3) : Ct l yX1_topOf cX1_topOf 7 (some .int) 4 87 D ads shp [.inr (some 95), .inl a1, .inl a2, .inl a3] I A (qI (tpO ch I A a1 a2 a3) I A) := by
  obtain ⟨hS, k, x, hk, hx, rfl, rfl⟩ := hp
  have hk10 : k < 10 := Nat.lt_of_lt_of_le hk (nLay_le _)
  have hx2 := it_lt hx
  have hn := hS.1.dw.2 k
  have hc := (hS.2.2 k (Nat.le_of_lt hk)).1
  have hs := spN_lt hn hc hx
  have eS : spO I A (nI k) (nI x) = nI (spN (A 2) ch k x) := spO_i hS hk hx
  refine k_X1_topOf l D ads I A (nI k) (nI x) a3 _ (c_X6_spotOf l D ads) (c_X6_shownAt l D ads) (c_X1_sizeOf l D ads) (fun s y => ∃ i, i ≤ spN (A 2) ch k x ∧ y = nI i ∧ s = tpP (A 2) ch a3 k i) (fun _ y => 10 - y.toNatClampNeg) ⟨⟨A 2, ch, k, hS, hk, rfl⟩, ⟨0, Nat.zero_le _, rfl, rfl⟩, ?_⟩
  rintro s y ⟨i, hi, rfl, rfl⟩
  rw [eS]
  refine ⟨fun h => qI_i ?_, fun h => ?_⟩
  · have e := cn_eq rfl hi (by omega) h
    subst e
    unfold tpO
    rw [cl_n (show k < 2 ^ 31 by omega), cl_n (show x < 2 ^ 31 by omega)]
  · have hi2 := cn_lt rfl hi (by omega) h
    have hm := shN_mem hn hc (show i < nIt (A 2) k by omega)
    have hlt := it_lt hm
    rw [shO_n hS hk (show i < nIt (A 2) k by omega)]
    refine ⟨⟨A 2, ch, k, hS, hk, rfl⟩, ⟨hS.1.1, hS.1.2.1, _, rfl, it_kind hm⟩, ⟨i + 1, hi2, nI_1 i, ?_⟩, cn_mu (by omega) (by decide)⟩
    unfold szO
    rw [cl_n (show shN (A 2) ch k i < 2 ^ 31 by omega)]
    rfl
/-! the model's -/
def ChQ (w : Nat → Int32) (ch : Nat → Nat) (A : HI) : Prop := ∀ l, l < nLay w → ch l < facN (nIt w l) ∧ A 113 l = nI (ch l)
noncomputable def itA (ch : Nat → Nat) (I A : HI) (a1 a2 : Int32) : Int32 := nI (xq (nIt (A 97) a1.toNatClampNeg) (ch a1.toNatClampNeg) a2.toNatClampNeg)
def itA0 (ch : Nat → Nat) (I A : HI) (a1 a2 : Int32) : Prop := MdS (A 97) A ∧ ChQ (A 97) ch A ∧ ∃ l i, l < nLay (A 97) ∧ i < nIt (A 97) l ∧ a1 = nI l ∧ a2 = nI i
set_option maxHeartbeats 4000000 in
theorem c_X9_itemAt (ch : Nat → Nat) (l : Launch) (D : va_G) (ads : AD) (I A : HI) (a1 a2 : Int32) (hp : itA0 ch I A a1 a2) : Ct l yX9_itemAt cX9_itemAt 4 (some .int) 1 23 D ads shp [.inr (some 96), .inl a1, .inl a2] I A (qI (itA ch I A a1 a2) I A) := by
  obtain ⟨hM, hC, k, i, hk, hi, rfl, rfl⟩ := hp
  have hk10 : k < 10 := Nat.lt_of_lt_of_le hk (nLay_le _)
  have hn := hM.1.2 k
  obtain ⟨hc, ec⟩ := hC k hk
  have hx := (tq1 hn hc hi).1
  have clk : (nI k).toNatClampNeg = k := cl_n (by omega)
  refine k_X9_itemAt l D ads I A (nI k) (nI i) _ (fun y => ∃ x, x ≤ xq (nIt (A 97) k) (ch k) i ∧ y = nI x) (fun y => 10 - y.toNatClampNeg) ⟨⟨0, Nat.zero_le _, rfl⟩, ?_⟩
  rintro y ⟨x, hx2, rfl⟩
  obtain ⟨s1, s2, s3⟩ := hM.st hk10 hc (show x < nIt (A 97) k by omega)
  rw [clk, ec, s2]
  have p1 := (tq2 hn hc (show x < nIt (A 97) k by omega)).1
  refine ⟨vp_in_nI hk10 (by decide), s1, fun h => qI_i ?_, fun h => ⟨⟨x + 1, ?_, nI_1 x⟩, cn_mu (by omega) (by decide)⟩⟩
  · have h := (nI_eq (by omega) (by omega)).mp h
    unfold itA
    rw [clk, cl_n (show i < 2 ^ 31 by omega), ← h, p1]
  · rcases Nat.lt_or_eq_of_le hx2 with z | z
    · exact z
    · rw [z, tq3 hn hc hi] at h
      exact absurd rfl h
noncomputable def szM (I A : HI) (a1 : Int32) : Int32 := nI (szN (A 97) a1.toNatClampNeg)
def szM0 (I A : HI) (a1 : Int32) : Prop := FO (A 97) ∧ (∀ p, p < 10 → usd (A 97) p = true → A 101 p = nI (posF (A 97) p)) ∧ ∃ x, a1 = nI x ∧ kdN (A 97) x
set_option maxHeartbeats 8000000 in
theorem c_X9_sizeOf (l : Launch) (D : va_G) (ads : AD) (I A : HI) (a1 : Int32) (hp : szM0 I A a1) : Ct l yX9_sizeOf cX9_sizeOf 5 (some .int) 2 44 D ads shp [.inr (some 96), .inl a1] I A (qI (szM I A a1) I A) := by
  obtain ⟨hF, hP, x, rfl, hx⟩ := hp
  have hx2 : x < 200 := by
    rcases hx with z | z <;> omega
  have clx : (nI x).toNatClampNeg = x := cl_n (by omega)
  refine k_X9_sizeOf l D ads I A (nI x) _ (fun u v y => ∃ t, t ≤ 10 ∧ y = nI t ∧ u = nI (inN (A 97) x t) ∧ v = nI (ouN (A 97) x t)) (fun _ _ y => 10 - y.toNatClampNeg) ⟨fun h => ⟨⟨0, Nat.zero_le _, rfl, rfl, rfl⟩, ?_⟩, fun h => ?_⟩
  · have hx10 : x < 10 := by
      have := (nI_ltI (b := 100) (by omega) (by decide)).mp h
      rcases hx with z | z <;> omega
    have vx : vp_in (nI x) 10 := vp_in_nI hx10 (by decide)
    rintro u v y ⟨t, ht, rfl, rfl, rfl⟩
    have hb := inN_le hF hx10 ht
    refine ⟨fun h2 => ?_, fun h2 => ?_⟩
    · have e := cn_eq (N := 10) rfl ht (by decide) h2
      subst e
      have fin : ∀ m, m = max 1 (max (inN (A 97) x 10) (ouN (A 97) x 10)) → nI m = szM I A (nI x) := by
        rintro m rfl
        unfold szM szN
        rw [clx, if_pos hx10]
      have z0 : ∀ {m : Nat}, m ≤ 990 → (nI m = 0 ↔ m = 0) := fun hm => nI_eq (b := 0) (by omega) (by decide)
      refine ⟨fun h3 => ⟨fun h4 => qI_i (fin _ ?_), fun h4 => qI_i (fin 1 ?_)⟩, fun h3 => ⟨fun h4 => qI_i (fin _ ?_), fun h4 => qI_i (fin 1 ?_)⟩⟩
      · have h3 := (nI_leI (by omega) (by omega)).mp h3
        have h4 : ¬ ouN (A 97) x 10 = 0 := fun z => h4 ((z0 hb.2).mpr z)
        omega
      · have h3 := (nI_leI (by omega) (by omega)).mp h3
        have h4 := (z0 hb.2).mp h4
        omega
      · have h3 := (nI_ltI (by omega) (by omega)).mp (nle h3)
        omega
      · have h3 := (nI_ltI (by omega) (by omega)).mp (nle h3)
        have h4 := (z0 hb.1).mp h4
        omega
    · have ht2 := cn_lt (N := 10) rfl ht (by decide) h2
      have vt : vp_in (nI t) 10 := vp_in_nI ht2 (by decide)
      have hmu : 10 - (nI t + 1).toNatClampNeg < 10 - (nI t).toNatClampNeg := cn_mu ht2 (by decide)
      have e1 : 10 * nI t + nI x = nI (10 * t + x) := ix_b t x
      have e2 : 10 * nI x + nI t = nI (10 * x + t) := ix_b x t
      have v1 : vp_in (nI (10 * t + x)) 100 := vp_in_nI (by omega) (by decide)
      have v2 : vp_in (nI (10 * x + t)) 100 := vp_in_nI (by omega) (by decide)
      have w1 := (hF.eq (show 10 * t + x < 100 by omega)).1
      have w2 := (hF.eq (show 10 * x + t < 100 by omega)).1
      have i1 := isS_iff hP ht2 hx10
      have i2 := isS_iff hP hx10 ht2
      have b1 : ∀ {z : Int32}, isS (A 97) (A 101) (nI t) (nI x) = z → z = 0 → inN (A 97) x (t + 1) = inN (A 97) x t := by
        intro z hz h0
        rw [h0] at hz
        show inN (A 97) x t + stN (A 97) (10 * t + x) = _
        unfold stN
        rw [i1.mp hz, if_neg (by decide), Nat.add_zero]
      have b2 : ¬ isS (A 97) (A 101) (nI t) (nI x) = 0 → inN (A 97) x (t + 1) = inN (A 97) x t + wN (A 97) (10 * t + x) := by
        intro hz
        show inN (A 97) x t + stN (A 97) (10 * t + x) = _
        unfold stN
        cases q : stB (A 97) (10 * t + x)
        · exact absurd (i1.mpr q) hz
        · rfl
      have b3 : isS (A 97) (A 101) (nI x) (nI t) = 0 → ouN (A 97) x (t + 1) = ouN (A 97) x t := by
        intro hz
        show ouN (A 97) x t + stN (A 97) (10 * x + t) = _
        unfold stN
        rw [i2.mp hz, if_neg (by decide), Nat.add_zero]
      have b4 : ¬ isS (A 97) (A 101) (nI x) (nI t) = 0 → ouN (A 97) x (t + 1) = ouN (A 97) x t + wN (A 97) (10 * x + t) := by
        intro hz
        show ouN (A 97) x t + stN (A 97) (10 * x + t) = _
        unfold stN
        cases q : stB (A 97) (10 * x + t)
        · exact absurd (i2.mpr q) hz
        · rfl
      rw [e1, e2, cl_n (show 10 * t + x < 2 ^ 31 by omega), cl_n (show 10 * x + t < 2 ^ 31 by omega), w1, w2, nI_add, nI_add]
      refine ⟨⟨vt, vx⟩, fun h3 => ⟨⟨vx, vt⟩, fun h4 => ⟨⟨t + 1, ht2, nI_1 t, ?_, ?_⟩, hmu⟩, fun h4 => ⟨v2, ⟨t + 1, ht2, nI_1 t, ?_, ?_⟩, hmu⟩⟩, fun h3 => ⟨v1, ⟨vx, vt⟩, fun h4 => ⟨⟨t + 1, ht2, nI_1 t, ?_, ?_⟩, hmu⟩, fun h4 => ⟨v2, ⟨t + 1, ht2, nI_1 t, ?_, ?_⟩, hmu⟩⟩⟩
      · rw [b1 h3 rfl]
      · rw [b3 h4]
      · rw [b1 h3 rfl]
      · rw [b4 h4]
      · rw [b2 h3]
      · rw [b3 h4]
      · rw [b2 h3]
      · rw [b4 h4]
  · rcases hx with z | ⟨z1, z2, z3⟩
    · exact absurd (nI_lt (b := 100) (by omega) (by decide)) h
    · have e1 : nI x - 100 = nI (x - 100) := by
        have := nI_sub (x - 100) 100
        rw [show x - 100 + 100 = x by omega] at this
        exact this
      rw [e1, cl_n (show x - 100 < 2 ^ 31 by omega)]
      refine ⟨vp_in_nI (by omega) (by decide), qI_i ?_⟩
      unfold szM szN
      rw [clx, if_neg (show ¬ x < 10 by omega)]
      exact (hF.eq (by omega)).1
noncomputable def tpM (ch : Nat → Nat) (I A : HI) (a1 a2 : Int32) : Int32 := tpP (A 97) ch (I 96 2) a1.toNatClampNeg (psQ (nIt (A 97) a1.toNatClampNeg) (ch a1.toNatClampNeg) a2.toNatClampNeg)
def tpM0 (ch : Nat → Nat) (I A : HI) (a1 a2 : Int32) : Prop := MdS (A 97) A ∧ ChQ (A 97) ch A ∧ (∀ p, p < 10 → usd (A 97) p = true → A 101 p = nI (posF (A 97) p)) ∧ ∃ l x, l < nLay (A 97) ∧ x < nIt (A 97) l ∧ a1 = nI l ∧ a2 = nI x
set_option maxHeartbeats 4000000 in
theorem c_X9_topOf (ch : Nat → Nat) (l : Launch) (D : va_G) (ads : AD) (I A : HI) (a1 a2 : Int32) (hp : tpM0 ch I A a1 a2) : Ct l yX9_topOf cX9_topOf 5 (some .int) 3 68 D ads shp [.inr (some 96), .inl a1, .inl a2] I A (qI (tpM ch I A a1 a2) I A) := by
  obtain ⟨hM, hC, hP, k, x, hk, hx, rfl, rfl⟩ := hp
  have hk10 : k < 10 := Nat.lt_of_lt_of_le hk (nLay_le _)
  have hn := hM.1.2 k
  obtain ⟨hc, ec⟩ := hC k hk
  have clk : (nI k).toNatClampNeg = k := cl_n (by omega)
  obtain ⟨s1, s2, s3⟩ := hM.st hk10 hc hx
  have hs := (tq2 hn hc hx).2
  refine k_X9_topOf l D ads I A (nI k) (nI x) _ (c_X9_itemAt ch l D ads) (c_X9_sizeOf l D ads) (fun s y => ∃ i, i ≤ psQ (nIt (A 97) k) (ch k) x ∧ y = nI i ∧ s = tpP (A 97) ch (I 96 2) k i) (fun _ y => 10 - y.toNatClampNeg) ⟨⟨0, Nat.zero_le _, rfl, rfl⟩, ?_⟩
  rintro s y ⟨i, hi, rfl, rfl⟩
  rw [clk, ec, s2]
  refine ⟨vp_in_nI hk10 (by decide), s1, fun h => qI_i ?_, fun h => ?_⟩
  · have e := cn_eq rfl hi (by omega) h
    subst e
    unfold tpM
    rw [clk, cl_n (show x < 2 ^ 31 by omega)]
  · have hi2 := cn_lt rfl hi (by omega) h
    have hxq := (tq1 hn hc (show i < nIt (A 97) k by omega)).1
    have eA : itA ch I A (nI k) (nI i) = nI (xq (nIt (A 97) k) (ch k) i) := by
      unfold itA
      rw [clk, cl_n (show i < 2 ^ 31 by omega)]
    have eB : A 105 (30 * k + xq (nIt (A 97) k) (ch k) i) = nI (shN (A 97) ch k i) := (hM.2.1 k hk10).2 _ hxq
    have hm := shN_mem hn hc (show i < nIt (A 97) k by omega)
    have hlt := it_lt hm
    rw [eA, ix_30, cl_n (show 30 * k + xq (nIt (A 97) k) (ch k) i < 2 ^ 31 by omega), eB]
    refine ⟨⟨hM, hC, k, i, hk, by omega, rfl, rfl⟩, vp_in_nI (by omega) (by decide), ⟨hM.1.1, hP, _, rfl, it_kind hm⟩, ⟨i + 1, hi2, nI_1 i, ?_⟩, cn_mu (by omega) (by decide)⟩
    unfold szM
    rw [cl_n (show shN (A 97) ch k i < 2 ^ 31 by omega), Int32.add_assoc]
    rfl
