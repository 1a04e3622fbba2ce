/-! the model's public calls that ask for THE ORDER -/
theorem fOr_pre {I A : HI} (hp : MOK I A) : fOr0 (sQ (mSt I A)) (up2 I 96 0 0) A := by
  obtain ⟨q, hq, e⟩ := hp.1.2.2.1
  have e : I 96 3 = nI q := e
  have eq : sQ (mSt I A) = q := by
    show (I 96 3).toNatClampNeg = q
    rw [e, cl_n (by omega)]
  refine ⟨hp.1.1, (m_told hp).2.1.2, ?_, by rw [eq]; exact hq⟩
  rw [up2_j (by decide), eq]
  exact e
theorem fOr_m {I A I2 A2 : HI} (hp : MOK I A) (h : fOr (sQ (mSt I A)) (up2 I 96 0 0) A I2 A2) : mSt I2 A2 = mSt I A ∧ MOK I2 A2 ∧ LoS I A I2 A2 ∧ ItOK (A 97) I2 A2 ∧ (I2 96 14 = 0 → sDr (mSt I A) = false) ∧ (¬ I2 96 14 = 0 → sDr (mSt I A) = true ∧ OrM (A 97) (A 98) (A 99) (sQ (mSt I A)) I2 A2 ∧ MdS (A 97) A2 ∧ ChQ (A 97) (sCh (mSt I A)) A2) := by
  obtain ⟨o, p, it, r, d⟩ := h
  have p2 : offI ((96, 0) :: foI) I I2 := (told_off.sub (by simp)).tr (p.sub (by intro k hk; exact List.mem_cons_of_mem _ hk))
  obtain ⟨h1, h2⟩ := m_off p2 o (by unfold foI; simp) (by unfold foA; simp)
  refine ⟨h1, ⟨by rw [h1]; exact hp.1, r⟩, h2, it, fun hz => ?_, fun hz => ?_⟩
  · show drw (A 97) (nLay (A 97)) = false
    cases q : drw (A 97) (nLay (A 97))
    · rfl
    · rw [it.2.2.2, q, if_pos rfl] at hz
      exact absurd hz (by decide)
  · have hd : drw (A 97) (nLay (A 97)) = true := by
      cases q : drw (A 97) (nLay (A 97))
      · rw [it.2.2.2, q, if_neg (by decide)] at hz
        exact absurd rfl hz
      · rfl
    have od := d hd
    refine ⟨hd, od, ⟨drw_dw hp.1.1 hd, it.2.1, it.2.2.1, od.1⟩, fun k hk => ⟨chS_lt _ _ _ _ _, od.2.2.2 k hk⟩⟩
theorem fOr_mP {I A I2 A2 : HI} (hp : MOK I A) (h : fOr (sQ (mSt I A)) (up2 I 96 0 0) A I2 A2) {v u : Int32} (e : v = u) : qJ (mP I A u (mSt I A)) (some (.inl v)) I2 A2 := qJ_i ⟨e, (fOr_m hp h).1, (fOr_m hp h).2.1, (fOr_m hp h).2.2.1⟩
theorem c_X9_cost (l : Launch) (D : va_G) (ads : AD) (I A : HI) (hp : MOK I A) : Ct l yX9_cost cX9_cost 1 (some .int) 4 98 D ads shp [.inr (some 96)] I A (qJ (mP I A (aCo (mSt I A)) (mSt I A))) := by
  refine k_X9_cost l D ads I A _ (c_X9_findOrder (sQ (mSt I A)) l D ads) ⟨fOr_pre hp, fun I2 A2 h2 => ?_⟩
  obtain ⟨e1, m2, lo2, it2, no, yes⟩ := fOr_m hp h2
  refine ⟨fun h => fOr_mP hp h2 ?_, fun h => fOr_mP hp h2 ?_⟩
  · unfold aCo
    rw [no h, if_neg (by decide)]
  · obtain ⟨d, od, -⟩ := yes h
    unfold aCo
    rw [d, if_pos rfl]
    exact od.2.1
theorem c_X9_orders (l : Launch) (D : va_G) (ads : AD) (I A : HI) (hp : MOK I A) : Ct l yX9_orders cX9_orders 1 (some .int) 4 98 D ads shp [.inr (some 96)] I A (qJ (mP I A (aOr (mSt I A)) (mSt I A))) := by
  refine k_X9_orders l D ads I A _ (c_X9_findOrder (sQ (mSt I A)) l D ads) ⟨fOr_pre hp, fun I2 A2 h2 => ?_⟩
  obtain ⟨e1, m2, lo2, it2, no, yes⟩ := fOr_m hp h2
  refine ⟨fun h => fOr_mP hp h2 ?_, fun h => fOr_mP hp h2 ?_⟩
  · unfold aOr
    rw [no h, if_neg (by decide)]
  · obtain ⟨d, od, -⟩ := yes h
    unfold aOr
    rw [d, if_pos rfl]
    exact od.2.2.1
set_option maxHeartbeats 8000000 in
theorem c_X9_part (l : Launch) (D : va_G) (ads : AD) (I A : HI) (a1 : Int32) (hp : MOK I A) : Ct l yX9_part cX9_part 6 (some .int) 4 98 D ads shp [.inr (some 96), .inl a1] I A (qJ (mP I A (aPa (mSt I A) a1) (mSt I A))) := by
  obtain ⟨ch, hch⟩ : ∃ ch, ch = sCh (mSt I A) := ⟨_, rfl⟩
  refine k_X9_part l D ads I A a1 _ (c_X9_findOrder (sQ (mSt I A)) l D ads) (c_X9_moves l D ads) (c_X9_crosses l D ads)
    (fun I2 A2 x2 x3 x4 x5 I' A' => ∃ k, k ≤ nLay (A 97) ∧ x5 = nI k ∧ offI [(96, 23)] I2 I' ∧ A' = A2 ∧ x2 = nI (fb_sm (fun l => cN (A 97) l (ch l) (ch (l + 1))) k) ∧ x3 = nI (fb_sm (fun l => xN (A 97) l (ch l) (ch (l + 1))) k) ∧ x4 = nI (fb_sm (fun l => mN (A 97) (A 98) (A 99) l (ch l)) k))
    (fun _ _ _ _ _ x5 _ _ => 20 - x5.toNatClampNeg) ⟨fOr_pre hp, fun I2 A2 h2 => ?_⟩
  obtain ⟨e1, m2, lo2, it2, no, yes⟩ := fOr_m hp h2
  obtain ⟨s97, s98, s99, s2, s3, s4⟩ := mSt_2 e1
  refine ⟨fun h => fOr_mP hp h2 ?_, fun h => ?_⟩
  · unfold aPa
    rw [no h, if_neg (by decide)]
  obtain ⟨d, od, hM, hC⟩ := yes h
  rw [← hch] at hC
  have h10 := nLay_le (A 97)
  have no2 : (a1 < 0 ∨ ¬ a1 ≤ 2) → -1 = aPa (mSt I A) a1 := by
    intro hz
    unfold aPa
    rw [d, if_pos rfl, if_neg, if_neg, if_neg]
    · rintro rfl
      rcases hz with z | z
      · exact absurd z (by decide)
      · exact absurd (by decide) z
    · rintro rfl
      rcases hz with z | z
      · exact absurd z (by decide)
      · exact absurd (by decide) z
    · rintro rfl
      rcases hz with z | z
      · exact absurd z (by decide)
      · exact absurd (by decide) z
  refine ⟨fun h3 => fOr_mP hp h2 (no2 (Or.inl h3)), fun h3 => ⟨fun h4 => ?_, fun h4 => fOr_mP hp h2 (no2 (Or.inr h4))⟩⟩
  refine ⟨⟨0, Nat.zero_le _, rfl, offI.rf, rfl, rfl, rfl, rfl⟩, ?_⟩
  rintro x2 x3 x4 x5 I7 A7 ⟨k, hk, rfl, p7, rfl, rfl, rfl, rfl⟩
  have eL : I7 96 12 = nI (nLay (A 97)) := by
    rw [p7 96 12 (by decide)]
    exact it2.1.2.2.2.2.2
  rw [eL]
  refine ⟨fun h5 => ?_, fun h5 => ?_⟩
  · have e := cn_eq rfl hk (by omega) h5
    subst e
    obtain ⟨g1, g2⟩ := m_off p7 (offA.rf (ks := []) (A := A7)) (by simp) (by simp)
    have fin : ∀ v, v = aPa (mSt I A) a1 → qJ (mP I A (aPa (mSt I A) a1) (mSt I A)) (some (.inl v)) I7 A7 := by
      intro v hv
      refine qJ_i ⟨hv, g1.trans e1, ⟨by rw [g1]; exact m2.1, ?_⟩, fun q hq => ⟨(g2 q hq).1.trans (lo2 q hq).1, (g2 q hq).2.trans (lo2 q hq).2⟩⟩
      have := m2.2
      unfold mRo0 at this ⊢
      rw [p7 96 22 (by decide)]
      exact this
    refine ⟨fun h6 => ⟨fun h7 => fin _ ?_, fun h7 => fin _ ?_⟩, fun h6 => fin _ ?_⟩
    · have e2 : a1 = 2 := by
        obtain ⟨c, c1, rfl⟩ := nI_of h3
        have := (nI_leI (b := 2) c1 (by decide)).mp h4
        have n0 : c ≠ 0 := fun z => h6 (by rw [z]; rfl)
        have n1 : c ≠ 1 := fun z => h7 (by rw [z]; rfl)
        rw [show c = 2 by omega]
        rfl
      unfold aPa
      rw [d, if_pos rfl, if_neg h6, if_neg h7, if_pos e2, hch]
      rfl
    · unfold aPa
      rw [d, if_pos rfl, if_neg h6, if_pos h7, hch]
      rfl
    · unfold aPa
      rw [d, if_pos rfl, if_pos h6, hch]
      rfl
  have hk2 := cn_lt rfl hk (by omega) h5
  have clk : (nI k).toNatClampNeg = k := cl_n (by omega)
  have vk : vp_in (nI k) 10 := vp_in_nI (by omega) (by decide)
  obtain ⟨c1, c2⟩ := hC k hk2
  have f1 := (facN_le _ (hM.1.2 k)).1
  have ek1 : (nI k + 1).toNatClampNeg = k + 1 := by rw [nI_1, cl_n (by omega)]
  have eM : mov I7 A7 (nI k) (nI (ch k)) = nI (mN (A 97) (A 98) (A 99) k (ch k)) := by
    unfold mov
    rw [s97, s98, s99, clk, cl_n (show ch k < 2 ^ 31 by omega)]
  rw [clk, ek1, c2, eM]
  have pm : mov0 I7 A7 (nI k) (nI (ch k)) := ⟨by rw [s97]; exact hM, k, ch k, by omega, by rw [s97]; exact c1, rfl, rfl⟩
  refine ⟨vk, pm, fun h6 => ?_, fun h6 => ?_⟩
  · have hk3 : k + 1 < nLay (A 97) := by
      have : ¬ k + 1 = nLay (A 97) := fun z => h6 (by rw [nI_1, z])
      omega
    obtain ⟨c3, c4⟩ := hC (k + 1) hk3
    have f2 := (facN_le _ (hM.1.2 (k + 1))).1
    rw [c4]
    refine ⟨vk, by rw [nI_1]; exact vp_in_nI (by omega) (by decide), ⟨by rw [s97]; exact hM, k, ch k, ch (k + 1), by omega, by rw [s97]; exact c1, by rw [s97]; exact c3, rfl, rfl, rfl⟩, ?_⟩
    rintro r5 I9 A9 ⟨rfl, er, e9⟩
    rw [s97, clk, cl_n (show ch k < 2 ^ 31 by omega), cl_n (show ch (k + 1) < 2 ^ 31 by omega)] at er e9
    refine ⟨⟨k + 1, hk2, nI_1 k, ?_, rfl, ?_, ?_, ?_⟩, by omega⟩
    · rw [e9]
      exact p7.up (by decide)
    · rw [er, nI_add]
      rfl
    · rw [e9, up2_s, nI_add]
      rfl
    · rw [nI_add]
      rfl
  · have hk3 : k + 1 = nLay (A 97) := by
      rw [nI_1] at h6
      exact (nI_eq (by omega) (by omega)).mp h6
    obtain ⟨z1, z2⟩ := cN_last (k := ch k) (m := ch (k + 1)) hM.1.1 (show nLay (A 97) ≤ k + 1 by omega)
    refine ⟨⟨k + 1, hk2, nI_1 k, p7, rfl, ?_, ?_, ?_⟩, by omega⟩
    · show nI (fb_sm _ k) = nI (fb_sm _ k + cN (A 97) k (ch k) (ch (k + 1)))
      rw [z1, Nat.add_zero]
    · show nI (fb_sm _ k) = nI (fb_sm _ k + xN (A 97) k (ch k) (ch (k + 1)))
      rw [z2, Nat.add_zero]
    · rw [nI_add]
      rfl
theorem c_X9_item (l : Launch) (D : va_G) (ads : AD) (I A : HI) (a1 a2 : Int32) (hp : MOK I A) : Ct l yX9_item cX9_item 3 (some .int) 4 98 D ads shp [.inr (some 96), .inl a1, .inl a2] I A (qJ (mP I A (aIt (mSt I A) a1 a2) (mSt I A))) := by
  refine k_X9_item l D ads I A a1 a2 _ (c_X9_findOrder (sQ (mSt I A)) l D ads) (c_X9_itemAt (sCh (mSt I A)) l D ads) ⟨fOr_pre hp, fun I2 A2 h2 => ?_⟩
  obtain ⟨e1, m2, lo2, it2, no, yes⟩ := fOr_m hp h2
  obtain ⟨s97, s98, s99, s2, s3, s4⟩ := mSt_2 e1
  have h10 := nLay_le (A 97)
  have nn : ¬ (sDr (mSt I A) = true ∧ ¬ (a1 < 0 ∨ nI (nLay (mSt I A).1) ≤ a1) ∧ ¬ (a2 < 0 ∨ nI (nIt (mSt I A).1 a1.toNatClampNeg) ≤ a2)) → -1 = aIt (mSt I A) a1 a2 := fun h => (if_neg h).symm
  refine ⟨fun h => fOr_mP hp h2 (nn (fun z => by rw [no h] at z; cases z.1)), fun h => ?_⟩
  obtain ⟨d, od, hM, hC⟩ := yes h
  rw [it2.1.2.2.2.2.2]
  refine ⟨fun h3 => fOr_mP hp h2 (nn (fun z => z.2.1 (Or.inl h3))), fun h3 => ⟨fun h4 => fOr_mP hp h2 (nn (fun z => z.2.1 (Or.inr h4))), fun h4 => ⟨fun h5 => fOr_mP hp h2 (nn (fun z => z.2.2 (Or.inl h5))), fun h5 => ?_⟩⟩⟩
  obtain ⟨k, k1, rfl⟩ := nI_of h3
  have hk : k < nLay (A 97) := (nI_ltI k1 (by omega)).mp (nle h4)
  have clk : (nI k).toNatClampNeg = k := cl_n k1
  have hn := hM.1.2 k
  rw [clk] at nn
  rw [clk, (it2.2.1 k (by omega)).1]
  refine ⟨vp_in_nI (by omega) (by decide), fun h6 => ?_, fun h6 => fOr_mP hp h2 (nn (fun z => z.2.2 (Or.inr (nlt h6))))⟩
  obtain ⟨i, i1, rfl⟩ := nI_of h5
  have hi : i < nIt (A 97) k := (nI_ltI i1 (by omega)).mp h6
  have eA : itA (sCh (mSt I A)) I2 A2 (nI k) (nI i) = nI (xq (nIt (A 97) k) (sCh (mSt I A) k) i) := by
    unfold itA
    rw [s97, clk, cl_n i1]
  have hx := (tq1 hn (hC k hk).1 hi).1
  rw [eA, ix_30, cl_n (show 30 * k + xq (nIt (A 97) k) (sCh (mSt I A) k) i < 2 ^ 31 by omega)]
  refine ⟨⟨by rw [s97]; exact hM, by rw [s97]; exact hC, k, i, by rw [s97]; exact hk, by rw [s97]; exact hi, rfl, rfl⟩, vp_in_nI (by omega) (by decide), fOr_mP hp h2 ?_⟩
  rw [(it2.2.1 k (by omega)).2 _ hx]
  unfold aIt
  rw [clk, if_pos ⟨d, fun z => z.elim h3 h4, fun z => z.elim h5 (fun y => absurd h6 (le_nlt y))⟩, cl_n i1]
  rfl
theorem MRow.p {w : Nat → Int32} {I A : HI} (h : MRow w I A) : ∀ p, p < 10 → usd w p = true → A 101 p = nI (posF w p) := h.2.2.2.1
theorem c_X9_place (l : Launch) (D : va_G) (ads : AD) (I A : HI) (a1 a2 : Int32) (hp : MOK I A) : Ct l yX9_place cX9_place 4 (some .int) 4 98 D ads shp [.inr (some 96), .inl a1, .inl a2] I A (qJ (mP I A (aPl (mSt I A) a1 a2) (mSt I A))) := by
  refine k_X9_place l D ads I A a1 a2 _ (c_X9_findOrder (sQ (mSt I A)) l D ads) (c_X9_find l D ads) (c_X9_topOf (sCh (mSt I A)) l D ads) (c_X9_sizeOf l D ads) ⟨fOr_pre hp, fun I2 A2 h2 => ?_⟩
  obtain ⟨e1, m2, lo2, it2, no, yes⟩ := fOr_m hp h2
  obtain ⟨s97, s98, s99, s2, s3, s4⟩ := mSt_2 e1
  have h10 := nLay_le (A 97)
  have nn : ¬ (sDr (mSt I A) = true ∧ ¬ zP a1 = 0 ∧ usd (mSt I A).1 a1.toNatClampNeg = true ∧ ¬ a2 < 0 ∧ ¬ 1 < a2) → -1 = aPl (mSt I A) a1 a2 := fun h => (if_neg h).symm
  refine ⟨fun h => fOr_mP hp h2 (nn (fun z => by rw [no h] at z; cases z.1)), fun h => ?_⟩
  obtain ⟨d, od, hM, hC⟩ := yes h
  refine ⟨fun h3 => fOr_mP hp h2 (nn (fun z => z.2.1 h3)), fun h3 => ?_⟩
  obtain ⟨p, p1, rfl⟩ := zP_ne h3
  have clp : (nI p).toNatClampNeg = p := cl_n (by omega)
  rw [clp] at nn
  rw [it2.1.1, uBt_iff p1, clp]
  refine ⟨fun h4 => fOr_mP hp h2 (nn (fun z => ?_)), fun h4 => ⟨fun h5 => fOr_mP hp h2 (nn (fun z => z.2.2.2.1 h5)), fun h5 => ⟨fun h6 => ?_, fun h6 => fOr_mP hp h2 (nn (fun z => z.2.2.2.2 (nle h6)))⟩⟩⟩
  · have z : usd (A 97) p = true := z.2.2.1
    rw [h4] at z
    cases z
  have hu : usd (A 97) p = true := by
    cases q : usd (A 97) p
    · exact absurd q h4
    · rfl
  have hl := lay_lt p1 hu
  have hm : p ∈ itL (A 97) (layF (A 97) p) := mem_pl p1 hu rfl
  have vp : vp_in (nI p) 10 := vp_in_nI p1 (by decide)
  obtain ⟨g1, g2⟩ := fnd_is (I := I2) it2.2.1 hp.1.1 (show layF (A 97) p < 10 by omega) hm
  have hx := (ixN_is hm).1
  have hn := hM.1.2 (layF (A 97) p)
  have hx' : ixN (itL (A 97) (layF (A 97) p)) p < nIt (A 97) (layF (A 97) p) := hx
  rw [it2.1.2.2.2.2.1 p p1 hu, g2]
  have eT : tpM (sCh (mSt I A)) I2 A2 (nI (layF (A 97) p)) (nI (ixN (itL (A 97) (layF (A 97) p)) p)) = plT (mSt I A) p := by
    unfold tpM plT
    rw [s97, s2, cl_n (show layF (A 97) p < 2 ^ 31 by omega), cl_n (show ixN (itL (A 97) (layF (A 97) p)) p < 2 ^ 31 by omega)]
    rfl
  rw [eT]
  have hcond : sDr (mSt I A) = true ∧ ¬ zP (nI p) = 0 ∧ usd (mSt I A).1 p = true ∧ ¬ a2 < 0 ∧ ¬ 1 < a2 := ⟨d, h3, hu, h5, le_nlt h6⟩
  refine ⟨vp, vp, g1, ⟨by rw [s97]; exact hM, by rw [s97]; exact hC, by rw [s97]; exact it2.1.p, layF (A 97) p, _, by rw [s97]; exact hl, by rw [s97]; exact hx, rfl, rfl⟩, fun h7 => ⟨⟨by rw [s97]; exact hp.1.1, by rw [s97]; exact it2.1.p, p, rfl, Or.inl p1⟩, fOr_mP hp h2 ?_⟩, fun h7 => fOr_mP hp h2 ?_⟩
  · unfold aPl szM
    rw [clp, if_pos hcond, if_neg h7, s97]
    rfl
  · unfold aPl
    rw [clp, if_pos hcond, if_pos h7]
