/-! THE ORDER that is chosen: what it shows -/
def CsOK (w : Nat → Int32) (ch : Nat → Nat) (A : HI) : Prop := ∀ l, l ≤ nLay w → ch l < facN (nIt w l) ∧ A 67 l = nI (piR (nIt w l) (ch l))
def SrS (w : Nat → Int32) (ch : Nat → Nat) (I A : HI) : Prop := DrOK w A ∧ ChOK I A ∧ CsOK w ch A
def shO (I A : HI) (l i : Int32) : Int32 := if i < 0 ∨ ¬ i < A 25 l.toNatClampNeg then -1 else A (15 + l.toNatClampNeg) (A (72 + 4 * (mnI (A 25 l.toNatClampNeg) 5).toNatClampNeg) (A 67 l.toNatClampNeg * I (71 + 4 * (mnI (A 25 l.toNatClampNeg) 5).toNatClampNeg) 0 + i).toNatClampNeg).toNatClampNeg
def shO0 (I A : HI) (l i : Int32) : Prop := ∃ w ch l', SrS w ch I A ∧ l' < nLay w ∧ l = nI l'
noncomputable def shN (w : Nat → Int32) (ch : Nat → Nat) (l i : Nat) : Nat := (itL w l).getD (xq (nIt w l) (ch l) i) 0
theorem ord_get {n k i : Nat} (hi : i < n) : (ordK n k).getD i 0 = xq n k i := by
  unfold ordK
  rw [getD_lt (by rw [List.length_map, List.length_range]; exact hi), List.getElem_map, List.getElem_range]
theorem chT_lt {n : Nat} (hn : n < 6) : chT n < 2 ^ 31 := by
  rw [chT_f _ hn]
  have := Nat.mul_le_mul (facN_le _ hn).1 (show n ≤ 5 by omega)
  omega
theorem SrS.th {w : Nat → Int32} {ch : Nat → Nat} {I A : HI} (h : SrS w ch I A) {l : Nat} (hl : l ≤ nLay w) : nIt w l < 6 ∧ A 25 l = nI (nIt w l) ∧ (mnI (A 25 l) 5).toNatClampNeg = nIt w l ∧ ∀ i, i < nIt w l → piR (nIt w l) (ch l) * nIt w l + i < chT (nIt w l) ∧ A 67 l * I (71 + 4 * nIt w l) 0 + nI i = nI (piR (nIt w l) (ch l) * nIt w l + i) ∧ A (72 + 4 * nIt w l) (piR (nIt w l) (ch l) * nIt w l + i) = nI (xq (nIt w l) (ch l) i) ∧ xq (nIt w l) (ch l) i < nIt w l := by
  obtain ⟨hD, hC, hS⟩ := h
  have hn := hD.dw.2 l
  have hl10 := nLay_le w
  obtain ⟨c1, -⟩ := cnt_n hD (show l < 11 by omega)
  obtain ⟨s1, s2⟩ := hS l hl
  obtain ⟨r1, r2, r3⟩ := piR_ok hn s1
  obtain ⟨e1, e2, e3⟩ := hC _ hn
  refine ⟨hn, c1, by rw [c1]; exact mn5 _ hn, fun i hi => ⟨?_, ?_, ?_, (tq1 hn s1 hi).1⟩⟩
  · rw [chT_f _ hn]
    have : (piR (nIt w l) (ch l) + 1) * nIt w l ≤ facN (nIt w l) * nIt w l := Nat.mul_le_mul_right _ r1
    rw [Nat.succ_mul] at this
    omega
  · rw [s2, e1, pk_mul, nI_add]
  · rw [(e3 _ r1).1 i hi, r2, ord_get hi]
theorem shO_n {w : Nat → Int32} {ch : Nat → Nat} {I A : HI} (hS : SrS w ch I A) {l i : Nat} (hl : l < nLay w) (hi : i < nIt w l) : shO I A (nI l) (nI i) = nI (shN w ch l i) := by
  have hl10 : l < 10 := Nat.lt_of_lt_of_le hl (nLay_le _)
  obtain ⟨hn, c1, c2, c4⟩ := hS.th (Nat.le_of_lt hl)
  obtain ⟨d1, d2, d3, d4⟩ := c4 i hi
  have hT := chT_lt hn
  unfold shO
  rw [cl_n (show l < 2 ^ 31 by omega), c2, d2, cl_n (show _ < 2 ^ 31 by omega), d3, cl_n (show _ < 2 ^ 31 by omega), c1, if_neg (fun z => z.elim (nI_pos (by omega)) (fun q => q (nI_lt hi (by omega))))]
  exact (hS.1.2.2.1.2 l hl10).2 _ d4
theorem shO_out {w : Nat → Int32} {ch : Nat → Nat} {I A : HI} (hS : SrS w ch I A) {l : Nat} {x : Int32} (hl : l < nLay w) (h : x < 0 ∨ nI (nIt w l) ≤ x) : shO I A (nI l) x = -1 := by
  have hl10 : l < 10 := Nat.lt_of_lt_of_le hl (nLay_le _)
  obtain ⟨hn, c1, c2, c4⟩ := hS.th (Nat.le_of_lt hl)
  unfold shO
  rw [cl_n (show l < 2 ^ 31 by omega), c1, if_pos (h.elim Or.inl (fun z => Or.inr (le_nlt z)))]
set_option maxHeartbeats 4000000 in
theorem c_X6_shownAt (l : Launch) (D : va_G) (ads : AD) (I A : HI) (a1 a2 : Int32) (hp : shO0 I A a1 a2) : Ct l yX6_shownAt cX6_shownAt 3 (some .int) 2 42 D ads shp [.inr (some 29), .inl a1, .inl a2] I A (qI (shO I A a1 a2) I A) := by
  obtain ⟨w, ch, k, hS, hk, rfl⟩ := hp
  have hk10 : k < 10 := Nat.lt_of_lt_of_le hk (nLay_le _)
  obtain ⟨hn, c1, c2, c4⟩ := hS.th (Nat.le_of_lt hk)
  have hT := chT_lt hn
  have clk : (nI k).toNatClampNeg = k := cl_n (by omega)
  have v11 : vp_in (nI k) 11 := vp_in_nI (by omega) (by decide)
  refine k_X6_shownAt l D ads I A (nI k) a2 _ ⟨fun h => qI_i ?_, fun h => ⟨v11, fun h2 => ?_, fun h2 => qI_i ?_⟩⟩
  · unfold shO
    rw [if_pos (Or.inl h)]
  · obtain ⟨i, hi1, rfl⟩ := nI_of h
    have h3 := h2
    rw [clk, c1] at h2
    have hi : i < nIt w k := (nI_ltI hi1 (by omega)).mp h2
    obtain ⟨d1, d2, d3, d4⟩ := c4 i hi
    refine ⟨⟨v11, by rw [clk, c1]; exact nI_pos' (by omega)⟩, v11, ?_, ⟨vp_in_nI hk10 (by decide), ?_⟩, qI_i (by unfold shO; rw [if_neg (fun z => z.elim h (fun q => q h3))])⟩
    · rw [clk, c2, d2]
      exact vp_in_nI d1 hT
    · rw [clk, c2, d2, cl_n (show _ < 2 ^ 31 by omega), d3]
      exact vp_in_nI (by omega) (by decide)
  · unfold shO
    rw [if_pos (Or.inr h2)]
theorem ixO_no {f : Nat → Int32} {n : Nat} {x : Int32} (hn : ∀ j, j < n → ¬ f j = x) : ixO f n x = -1 := by
  unfold ixO
  have : (List.range n).find? (fun i => f i == x) = none := List.find?_eq_none.mpr (fun i hi => by
    have := hn i (List.mem_range.mp hi)
    simpa using this)
  rw [this]
def spO (I A : HI) (l x : Int32) : Int32 := ixO (fun i => shO I A l (nI i)) (A 25 l.toNatClampNeg).toNatClampNeg x
set_option maxHeartbeats 4000000 in
theorem c_X6_spotOf (l : Launch) (D : va_G) (ads : AD) (I A : HI) (a1 a2 : Int32) (hp : shO0 I A a1 a2) : Ct l yX6_spotOf cX6_spotOf 4 (some .int) 3 64 D ads shp [.inr (some 29), .inl a1, .inl a2] I A (qI (spO I A a1 a2) I A) := by
  obtain ⟨w, ch, k, hS, hk, rfl⟩ := hp
  have hk10 : k < 10 := Nat.lt_of_lt_of_le hk (nLay_le _)
  obtain ⟨hn, c1, c2, c4⟩ := hS.th (Nat.le_of_lt hk)
  have clk : (nI k).toNatClampNeg = k := cl_n (by omega)
  have v11 : vp_in (nI k) 11 := vp_in_nI (by omega) (by decide)
  have eN : (A 25 (nI k).toNatClampNeg).toNatClampNeg = nIt w k := by rw [clk, c1, cl_n (by omega)]
  refine k_X6_spotOf l D ads I A (nI k) a2 _ (c_X6_shownAt l D ads) (fun x => ∃ i, i ≤ nIt w k ∧ x = nI i ∧ ∀ j, j < i → ¬ shO I A (nI k) (nI j) = a2) (fun x => 10 - x.toNatClampNeg) ⟨⟨0, Nat.zero_le _, rfl, fun j h => absurd h (Nat.not_lt_zero _)⟩, ?_⟩
  rintro x ⟨i, hi, rfl, hno⟩
  refine ⟨v11, fun h => qI_i ?_, fun h => ⟨⟨w, ch, k, hS, hk, rfl⟩, fun h2 => ?_, fun h2 => qI_i ?_⟩⟩
  · rw [clk, c1] at h
    have e := cn_eq rfl hi (by omega) h
    unfold spO
    rw [eN, ixO_no (by rw [← e]; exact hno)]
  · rw [clk, c1] at h
    have hi2 := cn_lt rfl hi (by omega) h
    refine ⟨⟨i + 1, hi2, nI_1 i, fun j hj => ?_⟩, cn_mu (by omega) (by decide)⟩
    rcases Nat.lt_succ_iff_lt_or_eq.mp hj with z | z
    · exact hno j z
    · rw [z]
      exact h2
  · rw [clk, c1] at h
    have hi2 := cn_lt rfl hi (by omega) h
    unfold spO
    rw [eN, ixO_is hi2 h2 hno]
theorem shN_lt {w : Nat → Int32} {ch : Nat → Nat} {l i : Nat} (hx : xq (nIt w l) (ch l) i < nIt w l) : shN w ch l i < 200 := itL_200 hx
theorem spO_n {w : Nat → Int32} {ch : Nat → Nat} {I A : HI} (hS : SrS w ch I A) {l e : Nat} (hl : l < nLay w) (he : e < nIt w l) : spO I A (nI l) (nI ((itL w l).getD e 0)) = nI (psQ (nIt w l) (ch l) e) := by
  have hl10 : l < 10 := Nat.lt_of_lt_of_le hl (nLay_le _)
  obtain ⟨hn, c1, c2, c4⟩ := hS.th (Nat.le_of_lt hl)
  have hc := (hS.2.2 l (Nat.le_of_lt hl)).1
  obtain ⟨p1, p2⟩ := tq2 hn hc he
  unfold spO
  rw [cl_n (show l < 2 ^ 31 by omega), c1, cl_n (show _ < 2 ^ 31 by omega)]
  refine ixO_is p2 ?_ (fun j hj z => ?_)
  · rw [shO_n hS hl p2]
    unfold shN
    rw [p1]
  · rw [shO_n hS hl (by omega)] at z
    have hx := (c4 j (by omega)).2.2.2
    have z := (nI_eq (by have := shN_lt hx; omega) (by have := itL_200 (w := w) he; omega)).mp z
    have e2 : xq (nIt w l) (ch l) j = e := by
      rcases Nat.decEq (xq (nIt w l) (ch l) j) e with q | q
      · exact absurd z (itL_ne hx he q)
      · exact q
    have := tq3 hn hc (show j < nIt w l by omega)
    rw [e2] at this
    omega
theorem spO_i {w : Nat → Int32} {ch : Nat → Nat} {I A : HI} (hS : SrS w ch I A) {l x : Nat} (hl : l < nLay w) (hx : x ∈ itL w l) : spO I A (nI l) (nI x) = nI (psQ (nIt w l) (ch l) (ixN (itL w l) x)) := by
  obtain ⟨h1, h2, -⟩ := ixN_is hx
  have := spO_n hS hl h1
  rw [h2] at this
  exact this
/-! Search.chooseFirst -/
def chF0 (q : Nat) (I A : HI) : Prop := q ≤ 9999 ∧ DrOK (A 2) A ∧ ChOK I A ∧ LsK (A 2) (A 27) (A 28) q 0 A
def chF (q : Nat) (I A I' A' : HI) : Prop := offI [(29, 9), (29, 10)] I I' ∧ offA [67] A A' ∧ I' 29 9 = nI (vT (A 2) (A 27) (A 28) q) ∧ I' 29 10 = wT (A 2) (A 27) (A 28) q ∧ A' 67 0 = nI (piR (nIt (A 2) 0) (chS (A 2) (A 27) (A 28) q 0))
set_option maxHeartbeats 8000000 in
theorem c_X6_chooseFirst (q : Nat) (l : Launch) (D : va_G) (ads : AD) (I A : HI) (hp : chF0 q I A) : Ct l yX6_chooseFirst cX6_chooseFirst 3 none 2 42 D ads shp [.inr (some 29)] I A (qV (chF q I A)) := by
  obtain ⟨hq, hD, hCh, hLs⟩ := hp
  have hDw := hD.dw
  have hn := hDw.2 0
  obtain ⟨c1, -⟩ := cnt_n hD (show 0 < 11 by omega)
  have f1 := (facN_le _ hn).1
  have f0 := facN_pos (nIt (A 2) 0)
  have c0 : (0 : Int32).toNatClampNeg = 0 := rfl
  obtain ⟨v, hv⟩ : ∃ v, v = fun s => vV (A 2) (A 27) (A 28) q 0 (piQ (nIt (A 2) 0) s) := ⟨_, rfl⟩
  obtain ⟨wy, hw⟩ : ∃ wy, wy = fun s => wV (A 2) (A 27) (A 28) q 0 (piQ (nIt (A 2) 0) s) := ⟨_, rfl⟩
  obtain ⟨rk, hr⟩ : ∃ rk, rk = fun s => rkL (thL (nIt (A 2) 0) s) := ⟨_, rfl⟩
  have hvb : ∀ s, v s < 2 ^ 30 := by
    intro s
    have := vV_le (kl := A 27) (ks := A 28) hDw hq 0 (piQ (nIt (A 2) 0) s)
    rw [hv]
    show vV _ _ _ _ _ _ < _
    omega
  have hL1 : ∀ s, s < facN (nIt (A 2) 0) → A 32 s = nI (v s) ∧ A 44 s = wy s := by
    intro s hs
    rw [hv, hw]
    exact hLs s hs
  have hrk : ∀ s, s < facN (nIt (A 2) 0) → A (74 + 4 * nIt (A 2) 0) s = nI (rk s) ∧ rk s < 3125 := by
    intro s hs
    rw [hr]
    exact ⟨((hCh _ hn).2.2 s hs).2.1, rkL_lt _ hn s hs⟩
  refine k_X6_chooseFirst l D ads I A _ (fun x I' A' => ∃ s, s ≤ facN (nIt (A 2) 0) ∧ x = nI s ∧ offI [(29, 9), (29, 10)] I I' ∧ offA [67] A A' ∧ BsC v wy rk s (I' 29 9) (I' 29 10) (A' 67 0)) (fun x _ _ => 200 - x.toNatClampNeg) ?_
  simp only [c0, c1, mn5 _ hn, chN_f _ hn]
  refine ⟨⟨vp_in_nI (n := 0) (by decide) (by decide), nI_pos' (by have : (itL (A 2) 0).length < 6 := hn; omega)⟩, ⟨0, Nat.zero_le _, rfl, (offI.rf.up (by decide)).up (by decide), offA.rf, Or.inl ⟨rfl, rfl⟩⟩, ?_⟩
  rintro x I1 A1 ⟨s, hs, rfl, p1, o1, b1⟩
  have hnum : I1 (71 + 4 * nIt (A 2) 0) 1 = nI (facN (nIt (A 2) 0)) := by
    rw [p1 _ _ (by simp)]
    exact (hCh _ hn).2.1
  have v0 : vp_in (0 : Int32) 11 := vp_in_nI (n := 0) (by decide) (by decide)
  rw [hnum]
  refine ⟨fun h => ?_, fun h => ?_⟩
  · have e := cn_eq rfl hs (by omega) h
    subst e
    rcases b1 with ⟨z, -⟩ | ⟨m, t, e1, -, ⟨hB1, hB2⟩, e3, hF⟩
    · omega
    have hB1' : IsMn (fun t => t < facN (nIt (A 2) 0)) (fun t => vV (A 2) (A 27) (A 28) q 0 (piQ (nIt (A 2) 0) t)) m := by rw [hv] at hB1; exact hB1
    have hm : m = vT (A 2) (A 27) (A 28) q := mnN_uniq (mn_pi hn hB1')
    have hF' : Fst (fun t => vV (A 2) (A 27) (A 28) q 0 (piQ (nIt (A 2) 0) t)) (fun t => rkL (thL (nIt (A 2) 0) t)) (facN (nIt (A 2) 0)) m t := by rw [hv, hr] at hF; exact hF
    have hfs := fs_pi hn hm hF'
    refine qV_i ⟨p1, o1, by rw [e1, hm], ?_, ?_⟩
    · rw [hB2]
      unfold wT
      refine Eq.trans ?_ (sm_pi (fun k => if vV (A 2) (A 27) (A 28) q 0 k = vT (A 2) (A 27) (A 28) q then wV (A 2) (A 27) (A 28) q 0 k else 0) hn)
      refine sm32_cong (fun t _ => ?_)
      rw [hv, hw, hm]
    · rw [e3]
      show nI t = nI (piR _ (fsN _ _))
      rw [← hfs, piR_Q hn hF.1]
  · have hs2 := cn_lt rfl hs (by omega) h
    have vs : vp_in (nI s) 120 := vp_in_nI (by omega) (by decide)
    have vs2 : vp_in (nI s) (facN (nIt (A 2) 0)) := vp_in_nI hs2 (by omega)
    have hmu : 200 - (nI s + 1).toNatClampNeg < 200 - (nI s).toNatClampNeg := cn_mu (by omega) (by decide)
    have clS : (nI s).toNatClampNeg = s := cl_n (by omega)
    have q32 : A1 (32 + 0) s = nI (v s) := by rw [o1 _ (by decide)]; exact (hL1 s hs2).1
    have q44 : A1 (44 + 0) s = wy s := by rw [o1 _ (by decide)]; exact (hL1 s hs2).2
    have qrk : ∀ u, u < facN (nIt (A 2) 0) → A1 (74 + 4 * nIt (A 2) 0) u = nI (rk u) := fun u hu => by rw [o1 _ (by simp; omega)]; exact (hrk u hu).1
    rw [clS] at hmu
    rw [clS, q32, q44]
    refine ⟨v0, vs, fun h1 => ⟨v0, vs, fun h2 => ⟨⟨s + 1, hs2, nI_1 s, p1, o1, BsC_gt b1 (hvb s) h1 h2⟩, hmu⟩, fun h2 => ?_⟩, fun h1 => ⟨v0, vs, v0, vs, v0, ⟨s + 1, hs2, nI_1 s, (p1.up (by decide)).up (by decide), o1.up (by decide), ?_⟩, hmu⟩⟩
    · obtain ⟨t0, g1, g2, g3, g4⟩ := BsC_eq b1 (hvb s) h2
      rw [g2, cl_n (show t0 < 2 ^ 31 by omega), qrk t0 (by omega), qrk s hs2]
      have r1 := (hrk t0 (by omega)).2
      have r2 := (hrk s hs2).2
      refine ⟨v0, vs, vs2, v0, vp_in_nI (by omega) (by omega), fun h3 => ⟨⟨s + 1, hs2, nI_1 s, p1.up (by decide), o1, ?_⟩, hmu⟩, fun h3 => ⟨v0, ⟨s + 1, hs2, nI_1 s, p1.up (by decide), o1.up (by decide), ?_⟩, hmu⟩⟩
      · rw [up2_j (by decide), up2_s, ← g2]
        exact g3 ((nI_leI (by omega) (by omega)).mp h3)
      · rw [up2_j (by decide), up2_s, up2_s]
        exact g4 ((nI_ltI (by omega) (by omega)).mp (nle h3))
    · rw [up2_j (by decide), up2_s, up2_s, up2_s]
      exact BsC_lt b1 (hvb s) h1
