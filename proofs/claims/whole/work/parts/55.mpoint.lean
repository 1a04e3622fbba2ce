/-! the model's point and keep -/
set_option maxHeartbeats 16000000 in
theorem c_X9_point (l : Launch) (D : va_G) (ads : AD) (I A : HI) (a1 a2 a3 a4 : Int32) (hp : MOK I A) : Ct l yX9_point cX9_point 13 (some .int) 4 98 D ads shp [.inr (some 96), .inl a1, .inl a2, .inl a3, .inl a4] I A (qJ (mP I A (aPt (mSt I A) a1 a2 a3 a4) (mSt I A))) := by
  obtain ⟨w, hw⟩ : ∃ w, w = A 97 := ⟨_, rfl⟩
  obtain ⟨ch, hch⟩ : ∃ ch, ch = sCh (mSt I A) := ⟨_, rfl⟩
  obtain ⟨a, ea⟩ : ∃ a, a = a1.toNatClampNeg := ⟨_, rfl⟩
  obtain ⟨b, eb⟩ : ∃ b, b = a2.toNatClampNeg := ⟨_, rfl⟩
  obtain ⟨L, eL⟩ : ∃ L, L = a3.toNatClampNeg := ⟨_, rfl⟩
  obtain ⟨j, ej⟩ : ∃ j, j = 10 * a + b := ⟨_, rfl⟩
  obtain ⟨oN, gN, fH, fT, E1, E2⟩ : ∃ (oN gN : Nat) (fH fT : Nat → Nat), (a4 = 0 → oN = L - 1 ∧ gN = L - 1 ∧ fH = gxN w (L - 1) ∧ fT = fxN w (L - 1)) ∧ (¬ a4 = 0 → oN = L + 1 ∧ gN = L ∧ fH = fxN w L ∧ fT = gxN w L) := by
    by_cases h0 : a4 = 0
    · exact ⟨L - 1, L - 1, gxN w (L - 1), fxN w (L - 1), fun _ => ⟨rfl, rfl, rfl, rfl⟩, fun z => absurd h0 z⟩
    · exact ⟨L + 1, L, fxN w L, gxN w L, fun z => absurd z h0, fun _ => ⟨rfl, rfl, rfl, rfl⟩⟩
  obtain ⟨top, etop⟩ : ∃ top, top = tpP w ch (I 96 2) L (spN w ch L (idN w j L)) := ⟨_, rfl⟩
  obtain ⟨f, ef⟩ : ∃ f : Nat → Int32, f = fun t => if fH t = fH j ∧ psQ (nIt w oN) (ch oN) (fT t) < psQ (nIt w oN) (ch oN) (fT j) then w t else 0 := ⟨_, rfl⟩
  obtain ⟨K, eK⟩ : ∃ K, K = kT w 100 gN := ⟨_, rfl⟩
  refine k_X9_point l D ads I A a1 a2 a3 a4 _ (c_X9_findOrder (sQ (mSt I A)) l D ads) (c_X9_find l D ads) (c_X9_topOf ch l D ads)
    (fun _ _ => (a4 = 0 ∧ ¬ L = layF w a) ∨ (a4 = 1 ∧ ¬ L = layF w b))
    (fun _ _ x7 => x7 = nI oN)
    (fun _ _ _ x9 => x9 = nI gN)
    (fun _ _ _ _ x6 x10 => ∃ t, t ≤ K.length ∧ x10 = nI (16 * gN + t) ∧ x6 + sL f (K.drop t) = top + sL f K)
    (fun _ _ _ _ _ x10 => 400 - x10.toNatClampNeg)
    (fun _ _ _ _ _ x10 x11 => ∀ t, t < K.length → x10 = nI (16 * gN + t) → x11 = nI (fH (K.getD t 0)))
    (fun _ _ _ _ _ x10 _ x12 => ∀ t, t < K.length → x10 = nI (16 * gN + t) → x12 = nI (fT (K.getD t 0))) ⟨fOr_pre hp, fun I2 A2 h2 => ?_⟩
  obtain ⟨e1, m2, lo2, it2, no, yes⟩ := fOr_m hp h2
  obtain ⟨s97, s98, s99, s2, s3, s4⟩ := mSt_2 e1
  have hF : FO w := by rw [hw]; exact hp.1.1
  have h10 := nLay_le w
  have nn : ¬ (sDr (mSt I A) = true ∧ ¬ zPP a1 a2 = 0 ∧ stB w j = true ∧ ¬ a3 < nI (layF w a) ∧ a3 ≤ nI (layF w b)) → -1 = aPt (mSt I A) a1 a2 a3 a4 := by
    intro h
    unfold aPt
    rw [if_neg]
    rw [← ea, ← eb, ← ej]
    show ¬ (sDr (mSt I A) = true ∧ ¬ zPP a1 a2 = 0 ∧ stB (A 97) j = true ∧ ¬ a3 < nI (layF (A 97) a) ∧ a3 ≤ nI (layF (A 97) b))
    rw [← hw]
    exact h
  refine ⟨fun h => fOr_mP hp h2 (nn (fun z => by rw [no h] at z; cases z.1)), fun h => ?_⟩
  obtain ⟨d, od, hM, hC⟩ := yes h
  rw [← hw] at hM hC it2
  rw [← hch] at hC
  rw [s97, ← hw, isF_a hF]
  refine ⟨fun h3 => fOr_mP hp h2 (nn (fun z => ?_)), fun h3 => ?_⟩
  · unfold aWd at h3
    rw [if_neg z.2.1, ← ea, ← eb, ← ej] at h3
    have := (trB_no z.2.2.1).1
    rw [h3] at this
    exact absurd this (by decide)
  obtain ⟨a', b', ha, hb, rfl, rfl, ew⟩ := aWd_ne h3
  have cla : (nI a').toNatClampNeg = a' := cl_n (by omega)
  have clb : (nI b').toNatClampNeg = b' := cl_n (by omega)
  rw [cla] at ea
  subst ea
  rw [clb] at eb
  subst eb
  rw [ew] at h3
  have hw0 : 0 < w (10 * a + b) := (hF.ne (show 10 * a + b < 100 by omega)).mp h3
  obtain ⟨d1, d2⟩ := dm10 (a := a) hb
  obtain ⟨ua, ub⟩ := usd_of (show 10 * a + b < 100 by omega) hw0
  rw [d1] at ua
  rw [d2] at ub
  have va : vp_in (nI a) 10 := vp_in_nI ha (by decide)
  have vb : vp_in (nI b) 10 := vp_in_nI hb (by decide)
  have hla := lay_lt ha ua
  have hlb := lay_lt hb ub
  have ela : A2 102 a = nI (layF w a) := it2.1.2.2.2.2.1 a ha ua
  have elb : A2 102 b = nI (layF w b) := it2.1.2.2.2.2.1 b hb ub
  rw [trn_is hF it2.1.p ha hb hw0, cla, clb, ela, elb]
  refine ⟨⟨va, vb⟩, fun ht => fOr_mP hp h2 (nn (fun z => ?_)), fun ht => ⟨va, fun h4 => fOr_mP hp h2 (nn (fun z => z.2.2.2.1 h4)), fun h4 => ⟨vb, fun h5 => fOr_mP hp h2 (nn (fun z => absurd h5 (le_nlt z.2.2.2.2))), fun h5 => ?_⟩⟩⟩
  · have := (trB_no z.2.2.1).2
    rw [ej] at this
    rw [this, if_neg (by decide)] at ht
    exact absurd rfl ht
  have hst : stB w j = true := by
    rw [ej]
    unfold stB
    rw [decide_eq_true hw0, Bool.true_and]
    cases q : trB w (10 * a + b)
    · rfl
    · rw [q, if_pos rfl] at ht
      exact absurd ht (by decide)
  obtain ⟨k, k1, rfl⟩ : ∃ k, k < 2 ^ 31 ∧ a3 = nI k := by
    refine nI_of (fun z => ?_)
    have := nI_pos (n := layF w a) (by omega)
    exact h4 (Int32.lt_of_lt_of_le z (Int32.not_lt.mp this))
  rw [cl_n k1] at eL
  subst eL
  have hk1 : layF w a ≤ L := (nI_leI (by omega) k1).mp (nlt h4)
  have hk2 : L ≤ layF w b := (nI_leI k1 (by omega)).mp (nlt h5)
  have hj : j < 100 := by omega
  have hcond : sDr (mSt I A) = true ∧ ¬ zPP (nI a) (nI b) = 0 ∧ stB (mSt I A).1 (10 * a + b) = true ∧ ¬ nI L < nI (layF (mSt I A).1 a) ∧ nI L ≤ nI (layF (mSt I A).1 b) := by
    refine ⟨d, by rw [zPP_of ha hb]; decide, ?_, ?_, ?_⟩
    · rw [ej, hw] at hst
      exact hst
    · rw [hw] at h4
      exact h4
    · have h5 := nlt h5
      rw [hw] at h5
      exact h5
  have aval : aPt (mSt I A) (nI a) (nI b) (nI L) a4 = if a4 = 0 then enV w ch (I 96 2) a b L else if a4 = 1 then bgV w ch (I 96 2) a b L else -1 := by
    unfold aPt
    rw [cla, clb, cl_n k1, if_pos hcond, hw, hch]
    rfl
  have leq : ∀ {y : Nat}, y < 10 → (nI L = nI y ↔ L = y) := fun hy => nI_eq k1 (by omega)
  refine ⟨fun h6 => fOr_mP hp h2 ?_, fun h6 => ⟨fun h7 => ?_, fun h7 => fOr_mP hp h2 ?_⟩⟩
  · rw [aval, if_neg, if_neg]
    · rintro rfl
      exact absurd h6 (by decide)
    · rintro rfl
      exact absurd h6 (by decide)
  rotate_left
  · rw [aval, if_neg, if_neg]
    · rintro rfl
      exact absurd (by decide) h7
    · rintro rfl
      exact absurd (by decide) h7
  have h01 : a4 = 0 ∨ a4 = 1 := by
    obtain ⟨c, c1, rfl⟩ := nI_of h6
    have := (nI_leI (b := 1) c1 (by decide)).mp h7
    rcases Nat.eq_zero_or_pos c with z | z
    · rw [z]
      exact Or.inl rfl
    · rw [show c = 1 by omega]
      exact Or.inr rfl
  have fo : (1 : Int32) = 0 → False := fun z => absurd z (by decide)
  rw [leq (show layF w a < 10 by omega), leq (show layF w b < 10 by omega)]
  have enA : L = layF w a → a4 = 0 → -1 = aPt (mSt I A) (nI a) (nI b) (nI L) a4 := by
    intro z y
    rw [aval, if_pos y]
    unfold enV
    rw [if_pos z]
  have bgA : L = layF w b → a4 = 1 → -1 = aPt (mSt I A) (nI a) (nI b) (nI L) a4 := by
    intro z y
    rw [aval, if_neg (by rw [y]; decide), if_pos y]
    unfold bgV
    rw [if_pos z]
  refine ⟨fun hJ => ?_, fun h8 => ⟨fun h9 => ?_, fun h9 => ⟨vb, fun z => Or.inr ⟨h9, z⟩, fun z => fOr_mP hp h2 (bgA z h9)⟩⟩, fun h8 => ⟨va, fun z => fOr_mP hp h2 (enA z h8), fun z => ⟨fun _ => Or.inl ⟨h8, z⟩, fun h9 => (fo (h9.symm.trans h8)).elim⟩⟩⟩
  rotate_left
  · exact (h01.elim h8 h9).elim
  -- the two ways in one
  have hG : lkB w gN j = true ∧ gN + 1 < nLay w ∧ oN < nLay w ∧ layF w a ≤ oN ∧ oN ≤ layF w b := by
    rcases hJ with ⟨z, y⟩ | ⟨z, y⟩
    · obtain ⟨u1, u2, -⟩ := E1 z
      rw [u1, u2]
      refine ⟨lkB_of hst ?_ ?_, by omega, by omega, by omega, by omega⟩
      · rw [ej, d1]; omega
      · rw [ej, d2]; omega
    · obtain ⟨u1, u2, -⟩ := E2 (by rw [z]; decide)
      rw [u1, u2]
      refine ⟨lkB_of hst ?_ ?_, by omega, by omega, by omega, by omega⟩
      · rw [ej, d1]; omega
      · rw [ej, d2]; omega
  obtain ⟨hlk, hg1, hoN, ho1, ho2⟩ := hG
  have hFX : ∀ t, t ∈ K → fH t < 6 ∧ fT t < nIt w oN := by
    intro t ht
    rw [eK] at ht
    obtain ⟨x1, x2⟩ := kT_fx hF ht
    have n1 := hM.1.2 gN
    have n2 := hM.1.2 (gN + 1)
    rcases hJ with ⟨z, y⟩ | ⟨z, y⟩
    · obtain ⟨u1, u2, u3, u4⟩ := E1 z
      rw [u3, u4, u1]
      rw [u2] at x1 x2 n2
      exact ⟨by omega, x1⟩
    · obtain ⟨u1, u2, u3, u4⟩ := E2 (by rw [z]; decide)
      rw [u3, u4, u1]
      rw [u2] at x1 x2 n1
      exact ⟨by omega, x2⟩
  have hjK : j ∈ K := by
    rw [eK]
    exact List.mem_filter.mpr ⟨List.mem_range.mpr hj, hlk⟩
  have hid : ∀ q, q < 20 → itmI (A2 102) (nI a) (nI b) (nI q) = nI (idN w j q) := fun q hq => by
    rw [ej]
    exact itm_id it2.1.2.2.2.2.1 ha hb ua ub hq
  have hmem : ∀ q, layF w a ≤ q → q ≤ layF w b → idN w j q ∈ itL w q := fun q y1 y2 => mem_id hF hj hst (by rw [ej, d1]; exact y1) (by rw [ej, d2]; exact y2)
  obtain ⟨g1, g2⟩ := fnd_is (I := I2) it2.2.1 hF (show L < 10 by omega) (hmem L hk1 hk2)
  obtain ⟨g3, g4⟩ := fnd_is (I := I2) it2.2.1 hF (show oN < 10 by omega) (hmem oN ho1 ho2)
  have eHj : ixN (itL w L) (idN w j L) = fH j := by
    rcases hJ with ⟨z, y⟩ | ⟨z, y⟩
    · rw [(E1 z).2.2.1]
      unfold gxN
      rw [show L - 1 + 1 = L by omega]
    · rw [(E2 (by rw [z]; decide)).2.2.1]
      rfl
  have eTj : ixN (itL w oN) (idN w j oN) = fT j := by
    rcases hJ with ⟨z, y⟩ | ⟨z, y⟩
    · rw [(E1 z).2.2.2, (E1 z).1]
      rfl
    · rw [(E2 (by rw [z]; decide)).2.2.2, (E2 (by rw [z]; decide)).1]
      rfl
  have hxL := (ixN_is (hmem L hk1 hk2)).1
  have nL : (itL w L).length < 6 := hM.1.2 L
  rw [eHj] at g2 hxL
  rw [eTj] at g4
  have eT : tpM ch I2 A2 (nI L) (nI (fH j)) = top := by
    unfold tpM
    rw [s97, s2, cl_n k1, cl_n (show fH j < 2 ^ 31 by omega), etop, ← eHj, ← hw]
    rfl
  rw [hid L (by omega), g2, eT]
  refine ⟨⟨va, vb⟩, g1, ⟨by rw [s97, ← hw]; exact hM, by rw [s97, ← hw]; exact hC, by rw [s97, ← hw]; exact it2.1.p, L, fH j, by rw [s97, ← hw]; omega, by rw [s97, ← hw]; exact hxL, rfl, rfl⟩, ?_, fun z => ?_, fun z => ?_⟩
  rotate_left
  · rw [nI_1, (E2 z).1]
  · have := nI_pred (L - 1)
    have hL0 : 0 < L := by
      rcases hJ with ⟨-, y⟩ | ⟨y, -⟩
      · omega
      · rw [z] at y
        exact absurd y (by decide)
    rw [show L - 1 + 1 = L by omega] at this
    rw [this, (E1 z).1]
  rintro x7 rfl
  rw [hid oN (by omega), g4]
  refine ⟨⟨va, vb⟩, g3, ?_, fun z => ?_, fun z => ?_⟩
  rotate_left
  · rw [(E2 z).2.1]
  · have := nI_pred (L - 1)
    have hL0 : 0 < L := by
      rcases hJ with ⟨-, y⟩ | ⟨y, -⟩
      · omega
      · rw [z] at y
        exact absurd y (by decide)
    rw [show L - 1 + 1 = L by omega] at this
    rw [this, (E1 z).2.1]
  rintro x9 rfl
  have hKl : K.length ≤ 16 := by rw [eK]; exact kT_len hF (Nat.le_refl _) gN
  have clg : (nI gN).toNatClampNeg = gN := cl_n (by omega)
  have hlkm := hM.2.2.1 gN (by omega)
  simp only [← eK] at hlkm
  obtain ⟨l1, l2⟩ := hlkm
  have eN : (16 * nI gN + A2 106 gN) = nI (16 * gN + K.length) := by rw [l1, ix_16]
  refine ⟨⟨0, Nat.zero_le _, by rw [show (16 : Int32) = nI 16 from rfl, pk_mul]; rfl, by rw [List.drop_zero]⟩, ?_⟩
  rintro x6 x10 ⟨t, ht, rfl, hs⟩
  rw [clg, eN]
  refine ⟨vp_in_nI (by omega) (by decide), fun h8 => fOr_mP hp h2 ?_, fun h8 => ?_⟩
  · have e := cn_eq (j := 16 * gN + t) (N := 16 * gN + K.length) rfl (by omega) (by omega) h8
    have e : t = K.length := by omega
    rw [e, List.drop_length] at hs
    have hs : x6 + 0 = _ := hs
    rw [Int32.add_zero] at hs
    rw [hs, aval, etop, ef, eK]
    rcases hJ with ⟨z, y⟩ | ⟨z, y⟩
    · obtain ⟨u1, u2, u3, u4⟩ := E1 z
      rw [if_pos z, u1, u2, u3, u4]
      unfold enV
      rw [if_neg y, ej]
      rfl
    · obtain ⟨u1, u2, u3, u4⟩ := E2 (by rw [z]; decide)
      rw [if_neg (by rw [z]; decide), if_pos z, u1, u2, u3, u4]
      unfold bgV
      rw [if_neg y, ej]
      rfl
  have ht2 : t < K.length := by
    have := cn_lt (j := 16 * gN + t) (N := 16 * gN + K.length) rfl (by omega) (by omega) h8
    omega
  have clt : (nI (16 * gN + t)).toNatClampNeg = 16 * gN + t := cl_n (by omega)
  have v160 : vp_in (nI (16 * gN + t)) 160 := vp_in_nI (by omega) (by decide)
  have hmu : 400 - (nI (16 * gN + t) + 1).toNatClampNeg < 400 - (nI (16 * gN + t)).toNatClampNeg := cn_mu (by omega) (by decide)
  rw [clt] at hmu ⊢
  have hKm : K.getD t 0 ∈ K := by
    rw [getD_lt ht2]
    exact List.getElem_mem _
  obtain ⟨b1, b2⟩ := hFX _ hKm
  obtain ⟨b3, b4⟩ := hFX _ hjK
  obtain ⟨y1, y2, y3⟩ := l2 t ht2
  have teq : ∀ t', t' < K.length → nI (16 * gN + t) = nI (16 * gN + t') → t' = t := fun t' h9 e => by
    have := (nI_eq (by omega) (by omega)).mp e
    omega
  refine ⟨?_, fun z => ⟨v160, fun t' h9 e => ?_⟩, fun z => ⟨v160, fun t' h9 e => ?_⟩⟩
  rotate_left
  · rw [teq t' h9 e, y1, (E2 z).2.2.1, (E2 z).2.1]
    rfl
  · rw [teq t' h9 e, y2, (E1 z).2.2.1, (E1 z).2.1]
    rfl
  intro x11 hx11
  have hx11 := hx11 t ht2 rfl
  subst hx11
  refine ⟨?_, fun z => ⟨v160, fun t' h9 e => ?_⟩, fun z => ⟨v160, fun t' h9 e => ?_⟩⟩
  rotate_left
  · rw [teq t' h9 e, y2, (E2 z).2.2.2, (E2 z).2.1]
    rfl
  · rw [teq t' h9 e, y1, (E1 z).2.2.2, (E1 z).2.1]
    rfl
  intro x12 hx12
  have hx12 := hx12 t ht2 rfl
  subst hx12
  obtain ⟨c1, c2⟩ := hC oN hoN
  obtain ⟨r1, r2, r3⟩ := hM.st (show oN < 10 by omega) c1 b2
  obtain ⟨r4, r5, r6⟩ := hM.st (show oN < 10 by omega) c1 b4
  have clo : (nI oN).toNatClampNeg = oN := cl_n (by omega)
  rw [clo, c2, r2, r5, y3]
  have vo : vp_in (nI oN) 10 := vp_in_nI (by omega) (by decide)
  have dr := drop_s ht2
  have nx0 : f (K.getD t 0) = 0 → (∃ t_1, t_1 ≤ K.length ∧ nI (16 * gN + t) + 1 = nI (16 * gN + t_1) ∧ x6 + sL f (K.drop t_1) = top + sL f K) := by
    intro z
    refine ⟨t + 1, ht2, nI_1 _, ?_⟩
    rw [← hs, dr, sL, z, Int32.zero_add]
  refine ⟨fun h9 => ⟨nx0 ?_, hmu⟩, fun h9 => ⟨vo, r1, vo, r4, fun h11 => ⟨nx0 ?_, hmu⟩, fun h11 => ⟨v160, ⟨t + 1, ht2, nI_1 _, ?_⟩, hmu⟩⟩⟩
  · rw [ef]
    exact if_neg (fun z => h9 (by rw [z.1]))
  · have h11 := (nI_leI (by omega) (by omega)).mp h11
    rw [ef]
    exact if_neg (fun z => by omega)
  · have h11 := (nI_ltI (by omega) (by omega)).mp (nle h11)
    have h9 := (nI_eq (by omega) (by omega)).mp h9
    have ev : f (K.getD t 0) = w (K.getD t 0) := by
      rw [ef]
      exact if_pos ⟨h9, h11⟩
    rw [← hs, dr, sL, ev, Int32.add_assoc]
def KeM (w : Nat → Int32) (ch : Nat → Nat) (k : Nat) (A2 A' : HI) : Prop := offA [98, 99] A2 A' ∧ ∀ p, A' 98 p = (if p < k then (if usd w p then nI (layF w p) else -1) else A2 98 p) ∧ A' 99 p = (if p < k ∧ usd w p = true then nI (spN w ch (layF w p) p) else A2 99 p)
set_option maxHeartbeats 8000000 in
theorem c_X9_keep (l : Launch) (D : va_G) (ads : AD) (I A : HI) (hp : MOK I A) : Ct l yX9_keep cX9_keep 2 (some .boolean) 4 98 D ads shp [.inr (some 96)] I A (qJ (mP I A (aKe (mSt I A)) (nKe (mSt I A)))) := by
  obtain ⟨w, hw⟩ : ∃ w, w = A 97 := ⟨_, rfl⟩
  obtain ⟨ch, hch⟩ : ∃ ch, ch = sCh (mSt I A) := ⟨_, rfl⟩
  refine k_X9_keep l D ads I A _ (c_X9_findOrder (sQ (mSt I A)) l D ads) (c_X9_find l D ads)
    (fun _ A2 x A' => ∃ k, k ≤ 10 ∧ x = nI k ∧ KeM w ch k A2 A') (fun _ _ x _ => 10 - x.toNatClampNeg) ⟨fOr_pre hp, fun I2 A2 h2 => ?_⟩
  obtain ⟨e1, m2, lo2, it2, no, yes⟩ := fOr_m hp h2
  obtain ⟨s97, s98, s99, s2, s3, s4⟩ := mSt_2 e1
  refine ⟨fun h => ?_, fun h => ?_⟩
  rotate_left
  · have hd := no h
    refine qJ_i ⟨?_, ?_, m2, lo2⟩
    · unfold aKe
      rw [hd, if_neg (by decide)]
    · unfold nKe
      rw [hd, if_neg (by decide)]
      exact e1
  obtain ⟨d, od, hM, hC⟩ := yes h
  rw [← hw] at hM hC it2
  rw [← hch] at hC
  have hF : FO w := hM.1.1
  have h10 := nLay_le w
  refine ⟨⟨0, Nat.zero_le _, rfl, offA.rf, fun p => ⟨by rw [if_neg (Nat.not_lt_zero _)], by rw [if_neg (fun z => absurd z.1 (Nat.not_lt_zero _))]⟩⟩, ?_⟩
  rintro x A3 ⟨k, hk, rfl, o3, k3⟩
  refine ⟨fun h3 => ?_, fun h3 => ?_⟩
  · have e := cn_eq (N := 10) rfl hk (by decide) h3
    subst e
    have e98 : A3 98 = nkl w (A2 98) := funext fun p => (k3 p).1
    have e99 : A3 99 = nks w ch (A2 99) := funext fun p => (k3 p).2
    have eS : mSt (up2 I2 96 4 1) A3 = nKe (mSt I A) := by
      unfold nKe
      rw [d, if_pos rfl]
      unfold mSt
      rw [e98, e99, o3 97 (by decide), up2_j (by decide), up2_j (by decide), up2_s, s97, s98, s99, s2, s3, hw, hch]
      rfl
    refine qJ_i ⟨?_, eS, ⟨?_, ?_⟩, fun q hq => ⟨(LoS.upI lo2 q hq).1, (o3 q (by simp; omega)).trans (lo2 q hq).2⟩⟩
    · unfold aKe
      rw [d, if_pos rfl]
    · rw [eS]
      unfold nKe
      rw [d, if_pos rfl]
      refine ⟨hp.1.1, ?_, hp.1.2.2.1, Or.inr rfl, fun z => absurd (show (1 : Int32) = 0 from z) (by decide)⟩
      show KpOK (nkl (A 97) _) (nks (A 97) (sCh (mSt I A)) _)
      rw [← hw, ← hch]
      exact nk_ok hM.1 (fun q hq => (hC q hq).1)
    · have := m2.2
      unfold mRo0 StOK StN at this ⊢
      rw [o3 110 (by decide), up2_j (by decide)]
      exact this
  have hk2 := cn_lt (N := 10) rfl hk (by decide) h3
  have clk : (nI k).toNatClampNeg = k := cl_n (by omega)
  have vk : vp_in (nI k) 10 := vp_in_nI hk2 (by decide)
  have hmu : 10 - (nI k + 1).toNatClampNeg < 10 - (nI k).toNatClampNeg := cn_mu hk2 (by decide)
  have eU : up2 I2 96 4 1 96 7 = nI (um w) := by
    rw [up2_j (by decide)]
    exact it2.1.1
  rw [eU, uBt_iff hk2]
  rw [clk] at hmu ⊢
  refine ⟨fun hu => ⟨vk, fun _ => ⟨⟨k + 1, hk2, nI_1 k, o3.up (by decide), fun p => ⟨?_, ?_⟩⟩, hmu⟩, fun z => absurd hu z⟩, fun hu => ?_⟩
  · by_cases e : p = k
    · rw [e, up2_s, if_pos (by omega), hu, if_neg (by decide)]
    · rw [up2_j e, (k3 p).1]
      by_cases z : p < k
      · rw [if_pos z, if_pos (show p < k + 1 by omega)]
      · rw [if_neg z, if_neg (by omega)]
  · rw [up2_k (by decide), (k3 p).2]
    by_cases z : p < k
    · by_cases y : usd w p = true
      · rw [if_pos ⟨z, y⟩, if_pos ⟨by omega, y⟩]
      · rw [if_neg (fun q => y q.2), if_neg (fun q => y q.2)]
    · rw [if_neg (fun q => z q.1), if_neg]
      rintro ⟨q1, q2⟩
      rw [show p = k by omega, hu] at q2
      cases q2
  · have hus : usd w k = true := by
      cases q : usd w k
      · exact absurd q hu
      · rfl
    have hl := lay_lt hk2 hus
    have e102 : A3 102 k = nI (layF w k) := by
      rw [o3 102 (by decide)]
      exact it2.1.2.2.2.2.1 k hk2 hus
    refine ⟨vk, vk, fun z => absurd z hu, fun _ => ?_⟩
    rw [e102]
    have oA : ∀ q, q ≠ 98 → up2 A3 98 k (nI (layF w k)) q = A3 q := fun q hq => up2_off hq
    rw [oA 102 (by decide), oA 104 (by decide), oA 110 (by decide), oA 113 (by decide), e102, cl_n (show layF w k < 2 ^ 31 by omega)]
    have sh3 : ShM (up2 A3 98 k (nI (layF w k))) (itL w) := it2.2.1.off (by rw [oA _ (by decide), o3 _ (by decide)]) (by rw [oA _ (by decide), o3 _ (by decide)])
    have hm : k ∈ itL w (layF w k) := mem_pl hk2 hus rfl
    obtain ⟨g1, g2⟩ := fnd_is (I := up2 I2 96 4 1) sh3 hF (show layF w k < 10 by omega) hm
    obtain ⟨c1, c2⟩ := hC _ hl
    obtain ⟨r1, r2, r3⟩ := hM.st (show layF w k < 10 by omega) c1 (show ixN (itL w (layF w k)) k < nIt w (layF w k) from (ixN_is hm).1)
    rw [g2, o3 104 (by decide), o3 110 (by decide), o3 113 (by decide), c2, r2]
    refine ⟨vk, vk, vp_in_nI (by omega) (by decide), vk, g1, r1, vk, ⟨k + 1, hk2, nI_1 k, (o3.up (by decide)).up (by decide), fun p => ⟨?_, ?_⟩⟩, hmu⟩
    · rw [up2_k (by decide)]
      by_cases e : p = k
      · rw [e, up2_s, if_pos (by omega), hus, if_pos rfl]
      · rw [up2_j e, (k3 p).1]
        by_cases z : p < k
        · rw [if_pos z, if_pos (show p < k + 1 by omega)]
        · rw [if_neg z, if_neg (by omega)]
    · by_cases e : p = k
      · rw [e, up2_s, if_pos ⟨by omega, hus⟩]
        rfl
      · rw [up2_j e, up2_k (by decide), (k3 p).2]
        by_cases z : p < k ∧ usd w p = true
        · rw [if_pos z, if_pos ⟨by omega, z.2⟩]
        · rw [if_neg z, if_neg]
          rintro ⟨q1, q2⟩
          exact z ⟨by omega, q2⟩
