/-! the class's calls that ask for THE ORDER -/
def sQ (s : StT) : Nat := s.2.2.2.2.1.toNatClampNeg
noncomputable def sCh (s : StT) : Nat → Nat := chS s.1 s.2.1 s.2.2.1 (sQ s)
noncomputable def sDr (s : StT) : Bool := drw s.1 (nLay s.1)
noncomputable def aCo (s : StT) : Int32 := if sDr s then nI (vT s.1 s.2.1 s.2.2.1 (sQ s)) else -1
noncomputable def aOr (s : StT) : Int32 := if sDr s then wT s.1 s.2.1 s.2.2.1 (sQ s) else -1
noncomputable def aPa (s : StT) (a : Int32) : Int32 := if sDr s then (if a = 0 then nI (fb_sm (fun l => cN s.1 l (sCh s l) (sCh s (l + 1))) (nLay s.1)) else if a = 1 then nI (fb_sm (fun l => xN s.1 l (sCh s l) (sCh s (l + 1))) (nLay s.1)) else if a = 2 then nI (fb_sm (fun l => mN s.1 s.2.1 s.2.2.1 l (sCh s l)) (nLay s.1)) else -1) else -1
noncomputable def aIt (s : StT) (l i : Int32) : Int32 := if sDr s = true ∧ ¬ (l < 0 ∨ nI (nLay s.1) ≤ l) ∧ ¬ (i < 0 ∨ nI (nIt s.1 l.toNatClampNeg) ≤ i) then nI (shN s.1 (sCh s) l.toNatClampNeg i.toNatClampNeg) else -1
noncomputable def plT (s : StT) (p : Nat) : Int32 := tpP s.1 (sCh s) s.2.2.2.1 (layF s.1 p) (spN s.1 (sCh s) (layF s.1 p) p)
noncomputable def aPl (s : StT) (p a : Int32) : Int32 := if sDr s = true ∧ ¬ zP p = 0 ∧ usd s.1 p.toNatClampNeg = true ∧ ¬ a < 0 ∧ ¬ 1 < a then (if a = 0 then plT s p.toNatClampNeg else plT s p.toNatClampNeg + nI (szN s.1 p.toNatClampNeg)) else -1
noncomputable def aPt (s : StT) (a b l x : Int32) : Int32 := if sDr s = true ∧ ¬ zPP a b = 0 ∧ stB s.1 (10 * a.toNatClampNeg + b.toNatClampNeg) = true ∧ ¬ l < nI (layF s.1 a.toNatClampNeg) ∧ l ≤ nI (layF s.1 b.toNatClampNeg) then (if x = 0 then enV s.1 (sCh s) s.2.2.2.1 a.toNatClampNeg b.toNatClampNeg l.toNatClampNeg else if x = 1 then bgV s.1 (sCh s) s.2.2.2.1 a.toNatClampNeg b.toNatClampNeg l.toNatClampNeg else -1) else -1
noncomputable def aKe (s : StT) : Int32 := if sDr s then 1 else 0
noncomputable def nkl (w : Nat → Int32) (kl : Nat → Int32) : Nat → Int32 := fun p => if p < 10 then (if usd w p then nI (layF w p) else -1) else kl p
noncomputable def nks (w : Nat → Int32) (ch : Nat → Nat) (ks : Nat → Int32) : Nat → Int32 := fun p => if p < 10 ∧ usd w p = true then nI (spN w ch (layF w p) p) else ks p
noncomputable def nKe (s : StT) : StT := if sDr s then (s.1, nkl s.1 s.2.1, nks s.1 (sCh s) s.2.2.1, s.2.2.2.1, s.2.2.2.2.1, 1) else s
def nFo (s : StT) : StT := (s.1, fun p => if p < 10 then -1 else s.2.1 p, s.2.2.1, s.2.2.2.1, s.2.2.2.2.1, 0)
theorem isD_no {I A : HI} {r : Int32} {I' A' : HI} (h : isD I A r I' A') (hr : r = 0) : sDr (xSt I A) = false := by
  rcases h.2.2.2.2 with ⟨-, z⟩ | ⟨z, -⟩
  · exact z
  · rw [hr] at z
    exact absurd z (by decide)
theorem isD_yes {I A : HI} {r : Int32} {I' A' : HI} (h : isD I A r I' A') (hr : ¬ r = 0) : sDr (xSt I A) = true ∧ A' 2 = (xSt I A).1 ∧ SrS (A' 2) (sCh (xSt I A)) I' A' ∧ RankOK (A' 2) I' A' ∧ OrdOK (xSt I A).1 (xSt I A).2.1 (xSt I A).2.2.1 (sQ (xSt I A)) I' A' := by
  rcases h.2.2.2.2 with ⟨z, -⟩ | ⟨-, z, z9⟩
  · exact absurd z hr
  · obtain ⟨s2, s27, s28, s6, s7, sk⟩ := xSt_2 h.2.2.1
    obtain ⟨q1, q2, q3, q4⟩ := h.1.srs z9
    have e7 : prQ I' = sQ (xSt I A) := by
      show (I' 0 7).toNatClampNeg = (I 0 7).toNatClampNeg
      rw [s7]
    rw [s27, s28, e7] at q1
    rw [s2, s27, s28, e7] at q4
    refine ⟨z, s2, ?_, q2, q4⟩
    have e : sCh (xSt I A) = chS (A' 2) (A 27) (A 28) (sQ (xSt I A)) := by
      rw [s2]
      rfl
    rw [e]
    exact q1
theorem isD_xP {I A : HI} {r : Int32} {I' A' : HI} (h : isD I A r I' A') {v u : Int32} (e : v = u) : qJ (xP I A u (xSt I A)) (some (.inl v)) I' A' := qJ_i ⟨e, h.2.2.1, h.1, h.2.2.2.1⟩
theorem c_X8_cost (l : Launch) (D : va_G) (ads : AD) (I A : HI) (hp : XOK I A) : Ct l yX8_cost cX8_cost 1 (some .int) 6 144 D ads shp [.inr (some 0)] I A (qJ (xP I A (aCo (xSt I A)) (xSt I A))) := by
  refine k_X8_cost l D ads I A _ (c_X8_isDrawn l D ads) ⟨hp, fun r I2 A2 h2 => ⟨fun h => isD_xP h2 ?_, fun h => isD_xP h2 ?_⟩⟩
  · unfold aCo
    rw [isD_no h2 h, if_neg (by decide)]
  · obtain ⟨q1, q2, q3, q4, q5⟩ := isD_yes h2 h
    unfold aCo
    rw [q1, if_pos rfl]
    exact q5.2.1
theorem c_X8_orders (l : Launch) (D : va_G) (ads : AD) (I A : HI) (hp : XOK I A) : Ct l yX8_orders cX8_orders 1 (some .int) 6 144 D ads shp [.inr (some 0)] I A (qJ (xP I A (aOr (xSt I A)) (xSt I A))) := by
  refine k_X8_orders l D ads I A _ (c_X8_isDrawn l D ads) ⟨hp, fun r I2 A2 h2 => ⟨fun h => isD_xP h2 ?_, fun h => isD_xP h2 ?_⟩⟩
  · unfold aOr
    rw [isD_no h2 h, if_neg (by decide)]
  · obtain ⟨q1, q2, q3, q4, q5⟩ := isD_yes h2 h
    unfold aOr
    rw [q1, if_pos rfl]
    exact q5.2.2.1
theorem c_X8_part (l : Launch) (D : va_G) (ads : AD) (I A : HI) (a1 : Int32) (hp : XOK I A) : Ct l yX8_part cX8_part 2 (some .int) 6 144 D ads shp [.inr (some 0), .inl a1] I A (qJ (xP I A (aPa (xSt I A) a1) (xSt I A))) := by
  refine k_X8_part l D ads I A a1 _ (c_X8_isDrawn l D ads) ⟨hp, fun r I2 A2 h2 => ⟨fun h => ?_, fun h => isD_xP h2 ?_⟩⟩
  · obtain ⟨q1, q2, q3, q4, q5⟩ := isD_yes h2 h
    refine ⟨fun e => isD_xP h2 ?_, fun e => isD_xP h2 ?_, fun e => isD_xP h2 ?_, fun hz => isD_xP h2 ?_⟩
    · subst e
      unfold aPa
      rw [q1, if_pos rfl, if_pos rfl]
      exact q5.2.2.2.1
    · subst e
      unfold aPa
      rw [q1, if_pos rfl, if_neg (by decide), if_pos rfl]
      exact q5.2.2.2.2.1
    · subst e
      unfold aPa
      rw [q1, if_pos rfl, if_neg (by decide), if_neg (by decide), if_pos rfl]
      exact q5.2.2.2.2.2
    · unfold aPa
      rw [q1, if_pos rfl, if_neg (int_ne hz (by decide)), if_neg (int_ne hz (by decide)), if_neg (int_ne hz (by decide))]
  · unfold aPa
    rw [isD_no h2 h, if_neg (by decide)]
theorem c_X8_item (l : Launch) (D : va_G) (ads : AD) (I A : HI) (a1 a2 : Int32) (hp : XOK I A) : Ct l yX8_item cX8_item 3 (some .int) 6 144 D ads shp [.inr (some 0), .inl a1, .inl a2] I A (qJ (xP I A (aIt (xSt I A) a1 a2) (xSt I A))) := by
  refine k_X8_item l D ads I A a1 a2 _ (c_X8_isLayer l D ads) (c_X8_isDrawn l D ads) (c_X6_shownAt l D ads) ⟨hp, ?_⟩
  rintro r I2 A2 ⟨x2, e2, hi, hr⟩
  have h10 := nLay_le (xSt I A).1
  refine ⟨fun h => qJ_i ⟨?_, e2, x2, hi⟩, fun h => ⟨x2, ?_⟩⟩
  · rcases hr with ⟨-, z⟩ | ⟨z, -⟩
    · unfold aIt
      rw [if_neg (fun q => q.2.1 z)]
    · rw [h] at z
      exact absurd z (by decide)
  · rcases hr with ⟨z, -⟩ | ⟨-, h8, k, hk, rfl⟩
    · exact absurd z h
    have hk : k < nLay (xSt I A).1 := hk
    rintro r4 I4 A4 h4
    have e4 : xSt I4 A4 = xSt I A := h4.2.2.1.trans e2
    have hi4 : HiS I A I4 A4 := hi.tr h4.2.2.2.1
    refine ⟨fun hz => ?_, fun hz => qJ_i ⟨?_, e4, h4.1, hi4⟩⟩
    · obtain ⟨q1, q2, q3, q4, q5⟩ := isD_yes h4 hz
      rw [e2] at q1 q2 q3
      have hk4 : k < nLay (A4 2) := by rw [q2]; exact hk
      refine ⟨⟨A4 2, _, k, q3, hk4, rfl⟩, qJ_i ⟨?_, e4, h4.1, hi4⟩⟩
      unfold aIt
      rw [cl_n (show k < 2 ^ 31 by omega)]
      by_cases y : a2 < 0 ∨ nI (nIt (xSt I A).1 k) ≤ a2
      · rw [if_neg (fun q => q.2.2 y), shO_out q3 hk4 (by rw [q2]; exact y)]
      · obtain ⟨i, i1, rfl⟩ := nI_of (fun q => y (Or.inl q))
        have hn := q3.1.dw.2 k
        rw [q2] at hn
        have hik : i < nIt (xSt I A).1 k := (nI_ltI i1 (by omega)).mp (nle (fun q => y (Or.inr q)))
        rw [if_pos ⟨q1, fun q => q.elim (nI_pos (by omega)) (nI_ge hk (by omega)), y⟩, shO_n q3 hk4 (by rw [q2]; exact hik), cl_n i1, q2]
    · have := isD_no h4 hz
      rw [e2] at this
      unfold aIt
      rw [this, if_neg (fun q => by cases q.1)]
theorem c_X8_place (l : Launch) (D : va_G) (ads : AD) (I A : HI) (a1 a2 : Int32) (hp : XOK I A) : Ct l yX8_place cX8_place 5 (some .int) 6 144 D ads shp [.inr (some 0), .inl a1, .inl a2] I A (qJ (xP I A (aPl (xSt I A) a1 a2) (xSt I A))) := by
  have same : (zP a1 = 0 ∨ a2 < 0 ∨ 1 < a2) → qJ (xP I A (aPl (xSt I A) a1 a2) (xSt I A)) (some (.inl (-1))) I A := by
    intro h
    refine qJ_i ⟨?_, rfl, hp, HiS.rf⟩
    unfold aPl
    rw [if_neg]
    rintro ⟨-, z1, -, z2, z3⟩
    rcases h with h | h | h
    · exact z1 h
    · exact z2 h
    · exact z3 h
  refine k_X8_place l D ads I A a1 a2 _ (c_X8_isDrawn l D ads) (c_X1_topOf (sCh (xSt I A)) l D ads) (c_X1_sizeOf l D ads) ⟨fun h => same (Or.inl h), fun h => ⟨fun h2 => same (Or.inr (Or.inl h2)), fun h2 => ⟨fun h3 => same (Or.inr (Or.inr h3)), fun h3 => ⟨hp, fun r I3 A3 d3 => ⟨fun hz => ?_, fun hz => isD_xP d3 ?_⟩⟩⟩⟩⟩
  · obtain ⟨q1, q2, q3, q4, q5⟩ := isD_yes d3 hz
    obtain ⟨p, p1, rfl⟩ := zP_ne h
    have clp : (nI p).toNatClampNeg = p := cl_n (by omega)
    have e11 := q4.2.2.2.1 p p1
    have e6 := (xSt_2 d3.2.2.1).2.2.2.1
    rw [clp]
    refine ⟨vp_in_nI p1 (by decide), fun hu => ?_, fun hu => isD_xP d3 ?_⟩
    · have hus : usd (A3 2) p = true := by
        cases q : usd (A3 2) p
        · rw [q, if_neg (by decide)] at e11
          exact absurd e11 hu
        · rfl
      rw [hus, if_pos rfl] at e11
      have hl := lay_lt p1 hus
      have h10 := nLay_le (A3 2)
      have hm : p ∈ itL (A3 2) (layF (A3 2) p) := mem_pl p1 hus rfl
      have eT : tpO (sCh (xSt I A)) I3 A3 (nI (layF (A3 2) p)) (nI p) (I3 0 6) = plT (xSt I A) p := by
        unfold tpO plT
        rw [clp, cl_n (show layF (A3 2) p < 2 ^ 31 by omega), q2, e6]
        rfl
      have hcond : sDr (xSt I A) = true ∧ ¬ zP (nI p) = 0 ∧ usd (xSt I A).1 p = true ∧ ¬ a2 < 0 ∧ ¬ 1 < a2 := ⟨q1, h, by rw [← q2]; exact hus, h2, h3⟩
      rw [e11, eT]
      refine ⟨⟨q3, layF (A3 2) p, p, hl, hm, rfl, rfl⟩, fun hz2 => ⟨⟨q3.1.1, q3.1.2.1, p, rfl, Or.inl p1⟩, isD_xP d3 ?_⟩, fun hz2 => isD_xP d3 ?_⟩
      · unfold aPl szO
        rw [clp, if_pos hcond, if_neg hz2, q2]
      · unfold aPl
        rw [clp, if_pos hcond, if_pos hz2]
    · unfold aPl
      rw [clp, if_neg]
      rintro ⟨-, -, z, -⟩
      rw [← q2] at z
      rw [z, if_pos rfl, hu] at e11
      have hl := lay_lt p1 z
      have h10 := nLay_le (A3 2)
      have := nI_pos (n := layF (A3 2) p) (by omega)
      rw [← e11] at this
      exact this (by decide)
  · unfold aPl
    rw [if_neg (fun q => by rw [isD_no d3 hz] at q; cases q.1)]
theorem trB_no {w : Nat → Int32} {j : Nat} (h : stB w j = true) : 0 < w j ∧ trB w j = false := by
  unfold stB at h
  rw [Bool.and_eq_true, decide_eq_true_eq] at h
  refine ⟨h.1, ?_⟩
  cases q : trB w j
  · rfl
  · rw [q] at h
    cases h.2
theorem c_X8_point (l : Launch) (D : va_G) (ads : AD) (I A : HI) (a1 a2 a3 a4 : Int32) (hp : XOK I A) : Ct l yX8_point cX8_point 5 (some .int) 6 144 D ads shp [.inr (some 0), .inl a1, .inl a2, .inl a3, .inl a4] I A (qJ (xP I A (aPt (xSt I A) a1 a2 a3 a4) (xSt I A))) := by
  refine k_X8_point l D ads I A a1 a2 a3 a4 _ (c_X8_isDrawn l D ads) (c_X1_beginOf (sCh (xSt I A)) l D ads) (c_X1_endOf (sCh (xSt I A)) l D ads) ?_
  have hF : FO (xSt I A).1 := hp.1.1
  rw [btw_a]
  refine ⟨fun h => qJ_i ⟨?_, rfl, hp, HiS.rf⟩, fun h => ⟨hp, fun r I3 A3 d3 => ⟨fun hz => isD_xP d3 ?_, fun hz => ?_⟩⟩⟩
  · unfold aPt
    rw [if_neg]
    rintro ⟨-, z1, z2, -⟩
    have h : aWd (xSt I A).1 a1 a2 = 0 := h
    unfold aWd at h
    rw [if_neg z1] at h
    have := (trB_no z2).1
    rw [h] at this
    exact absurd this (by decide)
  · unfold aPt
    rw [if_neg (fun q => by rw [isD_no d3 hz] at q; cases q.1)]
  · obtain ⟨q1, q2, q3, q4, q5⟩ := isD_yes d3 hz
    obtain ⟨a, b, ha, hb, rfl, rfl, ew⟩ := aWd_ne h
    rw [ew] at h
    have hw : 0 < (xSt I A).1 (10 * a + b) := (hF.ne (show 10 * a + b < 100 by omega)).mp h
    have hw3 : 0 < A3 2 (10 * a + b) := by rw [q2]; exact hw
    have hF3 : FO (A3 2) := by rw [q2]; exact hF
    obtain ⟨d1, d2⟩ := dm10 (a := a) hb
    obtain ⟨ua, ub⟩ := usd_of (show 10 * a + b < 100 by omega) hw3
    rw [d1] at ua
    rw [d2] at ub
    have cla : (nI a).toNatClampNeg = a := cl_n (by omega)
    have clb : (nI b).toNatClampNeg = b := cl_n (by omega)
    have va : vp_in (nI a) 10 := vp_in_nI ha (by decide)
    have vb : vp_in (nI b) 10 := vp_in_nI hb (by decide)
    have ea : A3 11 a = nI (layF (A3 2) a) := by rw [q4.2.2.2.1 a ha, if_pos ua]
    have eb : A3 11 b = nI (layF (A3 2) b) := by rw [q4.2.2.2.1 b hb, if_pos ub]
    have e6 := (xSt_2 d3.2.2.1).2.2.2.1
    rw [trn_is hF3 q4.sp ha hb hw3, cla, clb, ea, eb]
    have no : ¬ (stB (A3 2) (10 * a + b) = true ∧ ¬ a3 < nI (layF (A3 2) a) ∧ a3 ≤ nI (layF (A3 2) b)) → -1 = aPt (xSt I A) (nI a) (nI b) a3 a4 := by
      intro hn
      unfold aPt
      rw [if_neg]
      rintro ⟨-, -, z1, z2, z3⟩
      rw [cla, clb, ← q2] at z1
      rw [cla, ← q2] at z2
      rw [clb, ← q2] at z3
      exact hn ⟨z1, z2, z3⟩
    refine ⟨⟨va, vb⟩, fun ht => ⟨va, fun h3 => isD_xP d3 (no (fun z => z.2.1 h3)), fun h3 => ⟨vb, fun h4 => ?_, fun h4 => isD_xP d3 (no (fun z => h4 z.2.2))⟩⟩, fun ht => isD_xP d3 (no (fun z => ?_))⟩
    · have hst : stB (A3 2) (10 * a + b) = true := by
        unfold stB
        rw [decide_eq_true hw3, Bool.true_and]
        cases q : trB (A3 2) (10 * a + b)
        · rfl
        · rw [q, if_pos rfl] at ht
          exact absurd ht (by decide)
      have hlb := lay_lt hb ub
      have h10 := nLay_le (A3 2)
      obtain ⟨k, k1, rfl⟩ : ∃ k, k < 2 ^ 31 ∧ a3 = nI k := by
        refine nI_of (fun z => ?_)
        have := nI_pos (n := layF (A3 2) a) (by have := lay_lt ha ua; omega)
        exact h3 (Int32.lt_of_lt_of_le z (Int32.not_lt.mp this))
      have hla := lay_lt ha ua
      have hk1 : layF (A3 2) a ≤ k := (nI_leI (by omega) k1).mp (nlt h3)
      have hk2 : k ≤ layF (A3 2) b := (nI_leI k1 (by omega)).mp h4
      have pre : enO0 (sCh (xSt I A)) I3 A3 (nI a) (nI b) (nI k) (I3 0 6) := ⟨q3, a, b, k, ha, hb, hst, hk1, hk2, rfl, rfl, rfl⟩
      have hcond : sDr (xSt I A) = true ∧ ¬ zPP (nI a) (nI b) = 0 ∧ stB (xSt I A).1 (10 * a + b) = true ∧ ¬ nI k < nI (layF (xSt I A).1 a) ∧ nI k ≤ nI (layF (xSt I A).1 b) := by
        refine ⟨q1, by rw [zPP_of ha hb]; decide, ?_, ?_, ?_⟩
        · rw [← q2]; exact hst
        · rw [← q2]; exact h3
        · rw [← q2]; exact h4
      refine ⟨fun h5 => ⟨fun h6 => isD_xP d3 ?_, fun h6 => ⟨pre, isD_xP d3 ?_⟩⟩, fun h5 => ⟨pre, isD_xP d3 ?_⟩⟩
      · unfold aPt
        rw [cla, clb, if_pos hcond, if_neg h5, if_neg h6]
      · unfold aPt bgO
        rw [cla, clb, if_pos hcond, if_neg h5, if_pos h6, q2, e6]
        rfl
      · unfold aPt enO
        rw [cla, clb, if_pos hcond, if_pos h5, q2, e6]
        rfl
    · rw [(trB_no z.1).2, if_neg (by decide)] at ht
      exact absurd rfl ht
/-! keep, forget -/
theorem ixN_get {w : Nat → Int32} {l e : Nat} (h : e < nIt w l) : ixN (itL w l) ((itL w l).getD e 0) = e := by
  have hm : (itL w l).getD e 0 ∈ itL w l := by
    rw [getD_lt h]
    exact List.getElem_mem _
  obtain ⟨h1, h2, -⟩ := ixN_is hm
  rcases Nat.decEq (ixN (itL w l) ((itL w l).getD e 0)) e with z | z
  · exact absurd h2 (itL_ne h1 h z)
  · exact z
theorem sp_sh {w : Nat → Int32} {ch : Nat → Nat} {l i : Nat} (hn : nIt w l < 6) (hc : ch l < facN (nIt w l)) (hi : i < nIt w l) : spN w ch l (shN w ch l i) = i := by
  unfold spN shN
  rw [ixN_get (tq1 hn hc hi).1]
  exact tq3 hn hc hi
theorem sh_sp {w : Nat → Int32} {ch : Nat → Nat} {l x : Nat} (hn : nIt w l < 6) (hc : ch l < facN (nIt w l)) (hx : x ∈ itL w l) : shN w ch l (spN w ch l x) = x := by
  obtain ⟨h1, h2, -⟩ := ixN_is hx
  unfold spN shN
  rw [(tq2 hn hc h1).1]
  exact h2
theorem mem_place {w : Nat → Int32} {l p : Nat} (hp : p < 10) (h : p ∈ itL w l) : usd w p = true ∧ layF w p = l := by
  unfold itL itT pT bT at h
  rw [List.mem_append] at h
  rcases h with h | h
  · have := (List.mem_filter.mp h).2
    unfold plB at this
    rw [Bool.and_eq_true, decide_eq_true_eq] at this
    exact this
  · obtain ⟨t, -, e⟩ := List.mem_map.mp h
    omega
theorem nk_ok {w kl ks : Nat → Int32} {ch : Nat → Nat} (hD : Dw w) (hc : ∀ l, l < nLay w → ch l < facN (nIt w l)) : KpOK (nkl w kl) (nks w ch ks) := by
  intro p q hp hq hpq h1 h2 h3
  unfold nkl at h1 h2
  rw [if_pos hp] at h1 h2
  rw [if_pos hq] at h2
  cases up : usd w p
  · rw [up, if_neg (by decide)] at h1
    exact h1 rfl
  · have lp := lay_lt hp up
    have h10 := nLay_le w
    rw [up, if_pos rfl] at h2
    cases uq : usd w q
    · rw [uq, if_neg (by decide)] at h2
      have := nI_pos (n := layF w p) (by omega)
      rw [h2] at this
      exact this (by decide)
    · have lq := lay_lt hq uq
      rw [uq, if_pos rfl] at h2
      have e := (nI_eq (by omega) (by omega)).mp h2
      unfold nks at h3
      rw [if_pos ⟨hp, up⟩, if_pos ⟨hq, uq⟩, ← e] at h3
      have hn := hD.2 (layF w p)
      have hcl := hc _ lp
      have mp := mem_pl hp up rfl
      have mq : q ∈ itL w (layF w p) := mem_pl hq uq e.symm
      have s1 := spN_lt hn hcl mp
      have s2 := spN_lt hn hcl mq
      have e2 := (nI_eq (by omega) (by omega)).mp h3
      have t1 := sh_sp hn hcl mp
      have t2 := sh_sp hn hcl mq
      rw [e2, t2] at t1
      exact hpq t1.symm
/-- the places that are noted before the spot i of the layer l -/
def dnP (w : Nat → Int32) (ch : Nat → Nat) (l i p : Nat) : Prop := usd w p = true ∧ (layF w p < l ∨ (layF w p = l ∧ spN w ch l p < i))
def KeA (w : Nat → Int32) (ch : Nat → Nat) (l i : Nat) (A2 A' : HI) : Prop := offA [27, 28] A2 A' ∧ (∀ p, p < 10 → (dnP w ch l i p → A' 27 p = nI (layF w p) ∧ A' 28 p = nI (spN w ch (layF w p) p)) ∧ (¬ dnP w ch l i p → A' 27 p = -1 ∧ A' 28 p = A2 28 p)) ∧ ∀ p, ¬ p < 10 → A' 27 p = A2 27 p ∧ A' 28 p = A2 28 p
set_option maxHeartbeats 8000000 in
theorem c_X8_keep (l : Launch) (D : va_G) (ads : AD) (I A : HI) (hp : XOK I A) : Ct l yX8_keep cX8_keep 3 (some .boolean) 6 144 D ads shp [.inr (some 0)] I A (qJ (xP I A (aKe (xSt I A)) (nKe (xSt I A)))) := by
  obtain ⟨ch, hch⟩ : ∃ ch, ch = sCh (xSt I A) := ⟨_, rfl⟩
  obtain ⟨w, hw⟩ : ∃ w, w = (xSt I A).1 := ⟨_, rfl⟩
  refine k_X8_keep l D ads I A _ (c_X8_isDrawn l D ads) (c_X6_shownAt l D ads)
    (fun _ _ A2 x A' => ∃ k, k ≤ nLay w ∧ x = nI k ∧ KeA w ch k 0 A2 A') (fun _ _ _ x _ => 20 - x.toNatClampNeg)
    (fun _ _ A2 x _ y A' => ∃ k i, k < nLay w ∧ x = nI k ∧ i ≤ nIt w k ∧ y = nI i ∧ KeA w ch k i A2 A') (fun _ _ _ _ _ y _ => 20 - y.toNatClampNeg) ⟨hp, ?_⟩
  rintro r I2 A2 d2
  refine ⟨fun hz => ?_, fun hz => ?_⟩
  rotate_left
  · have hd := isD_no d2 hz
    refine qJ_i ⟨?_, ?_, d2.1, d2.2.2.2.1⟩
    · unfold aKe
      rw [hd, if_neg (by decide)]
    · unfold nKe
      rw [hd, if_neg (by decide)]
      exact d2.2.2.1
  obtain ⟨q1, q2, q3, q4, q5⟩ := isD_yes d2 hz
  rw [← hch, q2, ← hw] at q3
  rw [q2, ← hw] at q4
  have hDw := q3.1.dw
  have hcl : ∀ k, k < nLay w → ch k < facN (nIt w k) := fun k hk => (q3.2.2 k (Nat.le_of_lt hk)).1
  have h10 := nLay_le w
  have eL : up2 I2 26 2 0 3 11 = nI (nLay w) := by
    rw [up2_k (by decide)]
    exact q4.2.2.2.2.2.1
  rw [eL]
  refine ⟨⟨0, Nat.zero_le _, rfl, ?_, fun p hp10 => ⟨fun hd => ?_, fun hd => ?_⟩, fun p hp10 => ⟨?_, ?_⟩⟩, ?_⟩
  · intro k hk
    exact fil_off (fun z => hk (by rw [z]; decide))
  · rcases hd with ⟨-, z | z⟩ <;> omega
  · refine ⟨?_, by rw [fil_off (by decide)]⟩
    unfold filA
    rw [if_pos ⟨rfl, hp10⟩]
  · unfold filA
    rw [if_neg (fun z => hp10 z.2)]
  · rw [fil_off (by decide)]
  rintro x A3 ⟨k, hk, rfl, k3⟩
  refine ⟨fun h => ?_, fun h => ?_⟩
  · have e := cn_eq rfl hk (by omega) h
    subst e
    have hdn : ∀ p, p < 10 → (dnP w ch (nLay w) 0 p ↔ usd w p = true) := fun p hp10 => ⟨fun z => z.1, fun z => ⟨z, Or.inl (lay_lt hp10 z)⟩⟩
    have e27 : A3 27 = nkl w (A2 27) := by
      funext p
      unfold nkl
      by_cases hp10 : p < 10
      · rw [if_pos hp10]
        cases u : usd w p
        · rw [if_neg (by decide)]
          exact ((k3.2.1 p hp10).2 (fun z => by rw [hdn p hp10, u] at z; cases z)).1
        · rw [if_pos rfl]
          exact ((k3.2.1 p hp10).1 ((hdn p hp10).mpr u)).1
      · rw [if_neg hp10]
        exact (k3.2.2 p hp10).1
    have e28 : A3 28 = nks w ch (A2 28) := by
      funext p
      unfold nks
      by_cases hp10 : p < 10
      · cases u : usd w p
        · rw [if_neg (fun z => by cases z.2)]
          exact ((k3.2.1 p hp10).2 (fun z => by rw [hdn p hp10, u] at z; cases z)).2
        · rw [if_pos ⟨hp10, rfl⟩]
          exact ((k3.2.1 p hp10).1 ((hdn p hp10).mpr u)).2
      · rw [if_neg (fun z => hp10 z.1)]
        exact (k3.2.2 p hp10).2
    obtain ⟨s2, s27, s28, s6, s7, sk⟩ := xSt_2 d2.2.2.1
    have eS : xSt (up2 (up2 (up2 I2 26 2 0) 26 2 1) 0 9 0) A3 = nKe (xSt I A) := by
      unfold nKe
      rw [q1, if_pos rfl]
      unfold xSt
      rw [e27, e28, k3.1 2 (by decide), up2_j (by decide), up2_k (by decide), up2_k (by decide), up2_j (by decide), up2_k (by decide), up2_k (by decide), up2_k (by decide), up2_s, s2, s27, s28, s6, s7, hw, hch]
      rfl
    refine qJ_i ⟨?_, eS, XOK_up d2.1 ?_ (fun k h1 h2 => by rw [up2_off h1, up2_off h2, up2_off h2]) (fun k h1 h2 => k3.1 k (by simp; omega)) (by rw [up2_j (by decide), up2_k (by decide), up2_k (by decide)]) (Or.inl up2_s), d2.2.2.2.1.tr ?_⟩
    · unfold aKe
      rw [q1, if_pos rfl]
    · rw [eS]
      unfold nKe
      rw [q1, if_pos rfl]
      refine ⟨hp.1.1, ?_, hp.1.2.2.1, Or.inr rfl, fun z => absurd (show (1 : Int32) = 0 from z) (by decide)⟩
      show KpOK (nkl (xSt I A).1 _) (nks (xSt I A).1 (sCh (xSt I A)) _)
      rw [← hw, ← hch]
      exact nk_ok hDw hcl
    · exact fun k hk => ⟨by rw [up2_off (by omega), up2_off (by omega), up2_off (by omega)], k3.1 k (by simp; omega)⟩
  have hk2 := cn_lt rfl hk (by omega) h
  have clk : (nI k).toNatClampNeg = k := cl_n (by omega)
  have v11 : vp_in (nI k) 11 := vp_in_nI (by omega) (by decide)
  have hn := hDw.2 k
  refine ⟨⟨k, 0, hk2, rfl, Nat.zero_le _, rfl, k3⟩, ?_⟩
  rintro y A4 ⟨k', i, hk', ek, hi, rfl, k4⟩
  have ek : k' = k := ((nI_eq (by omega) (by omega)).mp ek).symm
  subst ek
  have e25 : A4 25 k' = nI (nIt w k') := by
    rw [k4.1 25 (by decide)]
    exact (cnt_n q3.1 (by omega)).1
  rw [clk, e25]
  refine ⟨v11, fun h => ?_, fun h => ?_⟩
  · have e := cn_eq rfl hi (by omega) h
    subst e
    have hdn : ∀ p, p < 10 → (dnP w ch (k' + 1) 0 p ↔ dnP w ch k' (nIt w k') p) := by
      intro p hp10
      unfold dnP
      refine ⟨fun z => ⟨z.1, ?_⟩, fun z => ⟨z.1, Or.inl (by rcases z.2 with y | y <;> omega)⟩⟩
      rcases Nat.lt_or_ge (layF w p) k' with y | y
      · exact Or.inl y
      · have e : layF w p = k' := by
          rcases z.2 with x | x <;> omega
        exact Or.inr ⟨e, spN_lt hn (hcl _ hk2) (mem_pl hp10 z.1 e)⟩
    refine ⟨⟨k' + 1, hk2, nI_1 k', k4.1, fun p hp10 => ?_, k4.2.2⟩, by rw [nI_1, cl_n (by omega)]; omega⟩
    rw [hdn p hp10]
    exact k4.2.1 p hp10
  have hi2 := cn_lt rfl hi (by omega) h
  have hS4 : SrS w ch (up2 I2 26 2 0) A4 := q3.off (L := [(26, 2)]) (offI.rf.up (by decide)) k4.1 (by simp) (by simp)
  rw [shO_n hS4 hk2 hi2]
  refine ⟨⟨w, ch, k', hS4, hk2, rfl⟩, ⟨k', i + 1, hk2, rfl, hi2, nI_1 i, ?_⟩, cn_mu (by omega) (by decide)⟩
  have hm := shN_mem hn (hcl _ hk2) hi2
  have hsp := sp_sh hn (hcl _ hk2) hi2
  generalize hy : shN w ch k' i = y at hm hsp
  have hy2 := it_lt hm
  -- which places are new
  have hdn : ∀ p, p < 10 → (dnP w ch k' (i + 1) p ↔ (dnP w ch k' i p ∨ p = y)) := by
    intro p hp10
    unfold dnP
    constructor
    · rintro ⟨u, z | ⟨z1, z2⟩⟩
      · exact Or.inl ⟨u, Or.inl z⟩
      · rcases Nat.lt_succ_iff_lt_or_eq.mp z2 with q | q
        · exact Or.inl ⟨u, Or.inr ⟨z1, q⟩⟩
        · right
          have := sh_sp hn (hcl _ hk2) (mem_pl hp10 u z1)
          rw [q, hy] at this
          exact this.symm
    · rintro (⟨u, z | ⟨z1, z2⟩⟩ | rfl)
      · exact ⟨u, Or.inl z⟩
      · exact ⟨u, Or.inr ⟨z1, by omega⟩⟩
      · obtain ⟨u, e⟩ := mem_place hp10 hm
        exact ⟨u, Or.inr ⟨e, by omega⟩⟩
  rcases it_kind hm with hy10 | ⟨hy1, -, -⟩
  · have eN : notA A4 (nI y) (nI k') (nI i) = up2 (up2 A4 27 y (nI k')) 28 y (nI i) := by
      unfold notA
      rw [zP_of hy10, if_neg (by decide), cl_n (by omega)]
    obtain ⟨uy, ly⟩ := mem_place hy10 hm
    rw [eN]
    refine ⟨(k4.1.up (by decide)).up (by decide), fun p hp10 => ?_, fun p hp10 => ?_⟩
    · rw [hdn p hp10]
      by_cases e : p = y
      · subst e
        refine ⟨fun _ => ⟨?_, ?_⟩, fun z => absurd (Or.inr rfl) z⟩
        · rw [up2_k (by decide), up2_s, ly]
        · rw [up2_s, ly, hsp]
      · rw [up2_k (by decide), up2_j e, up2_j e, up2_k (by decide)]
        refine ⟨fun z => (k4.2.1 p hp10).1 (z.resolve_right e), fun z => (k4.2.1 p hp10).2 (fun q => z (Or.inl q))⟩
    · rw [up2_k (by decide), up2_j (by omega), up2_j (by omega), up2_k (by decide)]
      exact k4.2.2 p hp10
  · have eN : notA A4 (nI y) (nI k') (nI i) = A4 := by
      unfold notA
      rw [if_pos]
      unfold zP
      rw [if_pos (Or.inr (show (10 : Int32) ≤ nI y from nI_le (a := 10) (b := y) (by omega) (by omega)))]
    rw [eN]
    refine ⟨k4.1, fun p hp10 => ?_, k4.2.2⟩
    rw [hdn p hp10]
    refine ⟨fun z => (k4.2.1 p hp10).1 (z.resolve_right (by omega)), fun z => (k4.2.1 p hp10).2 (fun q => z (Or.inl q))⟩
theorem c_X8_forget (l : Launch) (D : va_G) (ads : AD) (I A : HI) (hp : XOK I A) : Ct l yX8_forget cX8_forget 1 none 2 43 D ads shp [.inr (some 0)] I A (qV (xV I A (nFo (xSt I A)))) := by
  refine k_X8_forget l D ads I A _ ⟨hp.1.2.2.2.1, fun h => qV_i ⟨?_, hp, HiS.rf⟩, fun h => ?_⟩
  · have e : (fun p => if p < 10 then (-1 : Int32) else A 27 p) = A 27 := by
      funext p
      by_cases z : p < 10
      · rw [if_pos z]
        exact (hp.1.2.2.2.2 h p z).symm
      · rw [if_neg z]
    show xSt I A = (A 2, (fun p => if p < 10 then (-1 : Int32) else A 27 p), A 28, I 0 6, I 0 7, 0)
    rw [e]
    unfold xSt
    rw [h]
  · have e27 : filA A 27 10 (-1) 27 = fun p => if p < 10 then (-1 : Int32) else A 27 p := by
      funext p
      unfold filA
      by_cases z : p < 10
      · rw [if_pos ⟨rfl, z⟩, if_pos z]
      · rw [if_neg (fun q => z q.2), if_neg z]
    have eS : xSt (up2 (up2 I 26 2 0) 0 9 0) (filA A 27 10 (-1)) = nFo (xSt I A) := by
      unfold nFo xSt
      rw [e27, fil_off (by decide), fil_off (by decide), up2_j (by decide), up2_k (by decide), up2_j (by decide), up2_k (by decide), up2_k (by decide), up2_s]
    refine qV_i ⟨eS, XOK_up hp ?_ (fun k h1 h2 => by rw [up2_off h1, up2_off h2]) (fun k h1 h2 => fil_off h1) (by rw [up2_j (by decide), up2_k (by decide)]) (Or.inl up2_s), ((HiS.rf.upI (by decide)).upI (by decide)).fil (by decide)⟩
    rw [eS]
    refine ⟨hp.1.1, fun p q hp10 hq10 hpq h1 => ?_, hp.1.2.2.1, Or.inl rfl, fun _ j hj => if_pos hj⟩
    exact absurd (if_pos hp10) h1
