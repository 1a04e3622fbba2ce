/-! the sums of sets, THE ROW -/
def sWf0 (I A : HI) (i s : Int32) : Prop := vp_in s 1024 ∧ vp_in i 10 ∧ ∃ a b, A 5 i.toNatClampNeg = nI a ∧ A 5 (i + 1).toNatClampNeg = nI b ∧ a ≤ b ∧ b ≤ 16
def sWf (I A : HI) (i s : Int32) : Int32 := A 8 s.toNatClampNeg + slS A s (A 5 i.toNatClampNeg).toNatClampNeg ((A 5 (i + 1).toNatClampNeg).toNatClampNeg - (A 5 i.toNatClampNeg).toNatClampNeg)
set_option maxHeartbeats 4000000 in
theorem c_X5_sumWithFirst (l : Launch) (D : va_G) (ads : AD) (I A : HI) (a1 a2 : Int32) (hp : sWf0 I A a1 a2) : Ct l yX5_sumWithFirst cX5_sumWithFirst 5 (some .int) 0 0 D ads shp [.inr (some 3), .inl a1, .inl a2] I A (qI (sWf I A a1 a2) I A) := by
  obtain ⟨h1, h2, a, b, h3, h4, h5, h6⟩ := hp
  obtain ⟨i, hi, rfl⟩ := vp_in_of h2 (by decide)
  have e1 : (nI i + 1).toNatClampNeg = i + 1 := by rw [nI_1, cl_n (by omega)]
  unfold sWf
  rw [e1] at h4 ⊢
  rw [cl_n (by omega)] at h3 ⊢
  rw [h3, h4, cl_n (by omega), cl_n (by omega)]
  refine k_X5_sumWithFirst l D ads I A (nI i) a2 _ (fun x k => ∃ t, t ≤ b - a ∧ k = nI (a + t) ∧ x = A 8 a2.toNatClampNeg + slS A a2 a t) (fun _ k => 20 - k.toNatClampNeg) ⟨h1, vp_in_nI (by omega) (by decide), ⟨0, Nat.zero_le _, by rw [cl_n (by omega)]; exact h3, by simp [slS, sm32]⟩, ?_⟩
  rintro x k ⟨t, ht, rfl, rfl⟩
  rw [e1, h4]
  refine ⟨by rw [nI_1]; exact vp_in_nI (by omega) (by decide), fun h => ?_, fun h => ?_⟩
  · have : b ≤ a + t := (nI_leI (by omega) (by omega)).mp h
    rw [show t = b - a by omega]
    exact qI_i rfl
  · have hlt : a + t < b := (nI_ltI (by omega) (by omega)).mp (nle h)
    have hm : 20 - (nI (a + t) + 1).toNatClampNeg < 20 - (nI (a + t)).toNatClampNeg := cn_mu (by omega) (by decide)
    refine ⟨vp_in_nI (by omega) (by decide), fun h7 => ⟨⟨t + 1, by omega, nI_1 _, ?_⟩, hm⟩, fun h7 => ⟨vp_in_nI (by omega) (by decide), ⟨t + 1, by omega, nI_1 _, ?_⟩, hm⟩⟩
    · rw [cl_n (by omega)] at h7
      show _ = _ + (slS A a2 a t + if a2 &&& A 6 (a + t) = 0 then 0 else A 7 (a + t))
      rw [if_pos h7]
      simp
    · rw [cl_n (by omega)] at h7
      show _ = _ + (slS A a2 a t + if a2 &&& A 6 (a + t) = 0 then 0 else A 7 (a + t))
      rw [if_neg h7, cl_n (by omega), Int32.add_assoc]
def SrOK (w : Nat → Int32) (A : HI) : Prop := SrcOK w A (nU w) ∧ A 5 (nU w) = nI (KK w (nU w))
theorem SrOK.at {w : Nat → Int32} {A : HI} (h : SrOK w A) {i : Nat} (hi : i ≤ nU w) : A 5 i = nI (KK w i) := by
  rcases Nat.lt_or_ge i (nU w) with z | z
  · exact (h.1 i z).1
  · rw [show i = nU w by omega]
    exact h.2
theorem sWf_pre {w : Nat → Int32} {I A : HI} (hF : FO w) (h : SrOK w A) {i s : Nat} (hi : i < nU w) (hs : s < 1024) : sWf0 I A (nI i) (nI s) := by
  have h10 := nU_le w
  refine ⟨vp_in_nI hs (by decide), vp_in_nI (by omega) (by decide), KK w i, KK w (i + 1), ?_, ?_, KK_s w i, KK_le w hF (by omega)⟩
  · rw [cl_n (by omega)]
    exact h.at (by omega)
  · rw [nI_1, cl_n (by omega)]
    exact h.at (by omega)
theorem sWf_val {w : Nat → Int32} {I A : HI} (hF : FO w) (h : SrOK w A) {i s : Nat} (hi : i < nU w) (hs : s < 1024) (h8 : A 8 s = nI (Lx w (em w s))) : sWf I A (nI i) (nI s) = nI (Lx w (em w s) + cr w (em w s) (uu w i)) := by
  have h10 := nU_le w
  have k1 := KK_le w hF (i := i) (by omega)
  have k2 := KK_le w hF (i := i + 1) (by omega)
  unfold sWf
  rw [nI_1, cl_n (show s < 2 ^ 31 by omega), cl_n (show i < 2 ^ 31 by omega), cl_n (show i + 1 < 2 ^ 31 by omega), h.at (show i ≤ nU w by omega), h.at (show i + 1 ≤ nU w by omega), cl_n (by omega), cl_n (by omega), (h.1 i hi).2 s, h8, nI_add]
def LsOK (w : Nat → Int32) (A : HI) (s : Nat) : Prop := ∀ t, t < s → A 8 t = nI (Lx w (em w t))
def wSe0 (I A : HI) : Prop := FO (A 2) ∧ UsOK (A 2) I A ∧ SrOK (A 2) A
def wSe (I A I' A' : HI) : Prop := I' = I ∧ offA [8] A A' ∧ LsOK (A 2) A' (2 ^ nU (A 2))
theorem pow10 {n : Nat} (h : n ≤ 10) : 2 ^ n ≤ 1024 := Nat.pow_le_pow_right (n := 2) (by decide) h
theorem SrOK.off {w : Nat → Int32} {A A' : HI} (h : SrOK w A) (ho : offA [8] A A') : SrOK w A' := by
  have e5 : A' 5 = A 5 := ho 5 (by decide)
  have e6 : A' 6 = A 6 := ho 6 (by decide)
  have e7 : A' 7 = A 7 := ho 7 (by decide)
  refine ⟨fun i hi => ⟨by rw [e5]; exact (h.1 i hi).1, fun S => ?_⟩, by rw [e5]; exact h.2⟩
  rw [← (h.1 i hi).2 S]
  exact slS_up (fun t _ => by rw [e6]) (fun t _ => by rw [e7])
/-- the sum with a place first -/
def vL (w : Nat → Int32) (S p : Nat) : Nat := Lx w (S ^^^ 2 ^ p) + cr w (S ^^^ 2 ^ p) p
theorem vL_le {w : Nat → Int32} (h : FO w) {S p : Nat} (hp : p < 10) : vL w S p ≤ 10890 := by
  have h1 := Lx_small h (S ^^^ 2 ^ p)
  have h2 := cr_le h (S := S ^^^ 2 ^ p) hp
  unfold vL
  omega
theorem xor_lt {s i n : Nat} (hs : s < 2 ^ n) (hi : i < n) : s ^^^ 2 ^ i < 2 ^ n := Nat.xor_lt_two_pow hs (Nat.pow_lt_pow_right (by decide) hi)
theorem xor_less {s i : Nat} (h : s.testBit i = true) : s ^^^ 2 ^ i < s := by
  have h1 : s ^^^ 2 ^ i ≤ s := by
    apply Nat.le_of_testBit
    intro j hj
    rw [fb_bit_flip] at hj
    by_cases e : j = i
    · rw [e]
      exact h
    · simpa [e] using hj
  have h2 : s ^^^ 2 ^ i ≠ s := by
    intro e
    have := congrArg (fun n => Nat.testBit n i) e
    simp only [fb_bit_flip, h] at this
    simp at this
  omega
theorem em_pos {w : Nat → Int32} {s : Nat} (h0 : 0 < s) (hs : s < 2 ^ nU w) : 0 < pc10 (em w s) := by
  obtain ⟨i, hi⟩ := Nat.exists_testBit_of_ne_zero (Nat.pos_iff_ne_zero.mp h0)
  have hin : i < nU w := by
    rcases Nat.lt_or_ge i (nU w) with z | z
    · exact z
    · have := Nat.testBit_lt_two_pow (Nat.lt_of_lt_of_le hs (Nat.pow_le_pow_right (by decide) z))
      rw [hi] at this
      cases this
  obtain ⟨u1, u2, u3⟩ := uu_is hin
  refine pc_pos.mpr ⟨uu w i, u1, ?_⟩
  rw [em_bit, u2, u3, hi]
  simp [u1]
set_option maxHeartbeats 4000000 in
theorem c_X5_weighSets (l : Launch) (D : va_G) (ads : AD) (I A : HI) (hp : wSe0 I A) : Ct l yX5_weighSets cX5_weighSets 5 none 1 24 D ads shp [.inr (some 3)] I A (qV (wSe I A)) := by
  obtain ⟨hF, hU, hS⟩ := hp
  have hn10 : nU (A 2) ≤ 10 := nU_le _
  have hI : I 3 2 = nI (nU (A 2)) := hU.1
  have h1024 := pow10 hn10
  have h2n : 1 ≤ 2 ^ nU (A 2) := Nat.one_le_two_pow
  refine k_X5_weighSets l D ads I A _ (c_X5_sumWithFirst l D ads)
    (fun x A' => ∃ s, 1 ≤ s ∧ s ≤ 2 ^ nU (A 2) ∧ x = nI s ∧ offA [8] A A' ∧ LsOK (A 2) A' s)
    (fun x _ => 1024 - x.toNatClampNeg)
    (fun x A' best i => ∃ s j, 1 ≤ s ∧ s < 2 ^ nU (A 2) ∧ x = nI s ∧ offA [8] A A' ∧ LsOK (A 2) A' s ∧ j ≤ nU (A 2) ∧ i = nI j ∧ ((best = nI 2147483647 ∧ ∀ q, q < 10 → usd (A 2) q = true → rk (A 2) q < j → s.testBit (rk (A 2) q) = false) ∨ ∃ v, v ≤ 10890 ∧ best = nI v ∧ IsMn (fun q => q < 10 ∧ usd (A 2) q = true ∧ rk (A 2) q < j ∧ s.testBit (rk (A 2) q) = true) (vL (A 2) (em (A 2) s)) v))
    (fun _ _ _ i => 10 - i.toNatClampNeg) ⟨vp_in_nI (n := 0) (by decide) (by decide), ⟨1, Nat.le_refl _, h2n, rfl, offA.rf.up (by decide), fun t ht => ?_⟩, ?_⟩
  · have : t = 0 := by omega
    subst this
    show up2 A 8 0 0 8 0 = _
    rw [up2_s, em_0, Lx_0 _ (by decide)]
    rfl
  rintro x A1 ⟨s, hs1, hs2, rfl, hoff, hL⟩
  rw [hI, sh1 _ (by omega)]
  refine ⟨fun h => ?_, fun h => ?_⟩
  · have e := cn_eq rfl hs2 (by omega) h
    subst e
    exact qV_i ⟨rfl, hoff, hL⟩
  · have hs := cn_lt rfl hs2 (by omega) h
    have hs1024 : s < 1024 := by omega
    refine ⟨⟨s, 0, hs1, hs, rfl, hoff, hL, Nat.zero_le _, rfl, Or.inl ⟨rfl, fun q _ _ z => absurd z (Nat.not_lt_zero _)⟩⟩, ?_⟩
    rintro best i ⟨s', j, -, hs'9, es, -, -, hj, rfl, hb⟩
    have es : s' = s := ((nI_eq (by omega) (by omega)).mp es).symm
    subst es
    refine ⟨fun h9 => ?_, fun h9 => ?_⟩
    · have e := cn_eq rfl hj (by omega) h9
      subst e
      have hpos := em_pos (w := A 2) hs1 hs
      have hmin := Lx_min (A 2) hpos
      have hbest : best = nI (Lx (A 2) (em (A 2) s')) := by
        rcases hb with ⟨-, hb⟩ | ⟨v, hv, rfl, hb⟩
        · obtain ⟨q, q1, q2⟩ := pc_pos.mp hpos
          rw [em_bit] at q2
          simp only [Bool.and_eq_true, decide_eq_true_eq] at q2
          have := hb q q1 q2.2.1 (rk_lt q1 q2.2.1)
          rw [q2.2.2] at this
          cases this
        · congr 1
          refine IsMn.uniq ⟨fun q hq => ?_, ?_⟩ hmin
          · have hq2 := hq.2
            rw [em_bit] at hq2
            simp only [Bool.and_eq_true, decide_eq_true_eq] at hq2
            exact hb.1 q ⟨hq.1, hq2.2.1, rk_lt hq.1 hq2.2.1, hq2.2.2⟩
          · obtain ⟨q, ⟨q1, q2, q3, q4⟩, q5⟩ := hb.2
            exact ⟨q, ⟨q1, by rw [em_bit, q2, q4]; simp [q1]⟩, q5⟩
      refine ⟨vp_in_nI hs1024 (by decide), ⟨s' + 1, by omega, hs, nI_1 s', hoff.up (by decide), fun t ht => ?_⟩, cn_mu hs1024 (by decide)⟩
      rw [cl_n (by omega)]
      rcases Nat.lt_succ_iff_lt_or_eq.mp ht with z | z
      · rw [up2_j (by omega)]
        exact hL t z
      · subst z
        rw [up2_s]
        exact hbest
    · have hj2 := cn_lt rfl hj (by omega) h9
      obtain ⟨u1, u2, u3⟩ := uu_is hj2
      rw [sh1 _ (by omega), fb_xorI]
      have hbit := fa_bit (n := s') (j := j) (by omega)
      have hmu : 10 - (nI j + 1).toNatClampNeg < 10 - (nI j).toNatClampNeg := cn_mu (by omega) (by decide)
      refine ⟨fun h7 => ⟨⟨s', j + 1, hs1, hs, rfl, hoff, hL, hj2, nI_1 j, ?_⟩, hmu⟩, fun h7 => ?_⟩
      · have hz := hbit.mp h7
        rcases hb with ⟨hb1, hb⟩ | ⟨v, hv, rfl, hb⟩
        · refine Or.inl ⟨hb1, fun q q1 q2 q3 => ?_⟩
          rcases Nat.lt_succ_iff_lt_or_eq.mp q3 with z | z
          · exact hb q q1 q2 z
          · rw [z]
            exact hz
        · refine Or.inr ⟨v, hv, rfl, fun q hq => ?_, ?_⟩
          · rcases Nat.lt_succ_iff_lt_or_eq.mp hq.2.2.1 with z | z
            · exact hb.1 q ⟨hq.1, hq.2.1, z, hq.2.2.2⟩
            · have := hq.2.2.2
              rw [z, hz] at this
              cases this
          · obtain ⟨q, ⟨q1, q2, q3, q4⟩, q5⟩ := hb.2
            exact ⟨q, ⟨q1, q2, by omega, q4⟩, q5⟩
      · have hz : s'.testBit j = true := by
          cases z : s'.testBit j
          · exact absurd (hbit.mpr z) h7
          · rfl
        have hxl : s' ^^^ 2 ^ j < s' := xor_less hz
        have h8 : A1 8 (s' ^^^ 2 ^ j) = nI (Lx (A 2) (em (A 2) (s' ^^^ 2 ^ j))) := hL _ hxl
        have hS1 := hS.off hoff
        have hval := sWf_val (I := I) hF hS1 hj2 (show s' ^^^ 2 ^ j < 1024 by omega) h8
        have hem : em (A 2) (s' ^^^ 2 ^ j) = em (A 2) s' ^^^ 2 ^ uu (A 2) j := by
          have := em_flip (w := A 2) (set := s') u1 u2
          rwa [u3] at this
        rw [hem] at hval
        have hv9 : vL (A 2) (em (A 2) s') (uu (A 2) j) ≤ 10890 := vL_le hF u1
        refine ⟨sWf_pre hF hS1 hj2 (by omega), ⟨s', j + 1, hs1, hs, rfl, hoff, hL, hj2, nI_1 j, Or.inr ?_⟩, hmu⟩
        rw [hval]
        show ∃ v, v ≤ 10890 ∧ mnI best (nI (vL (A 2) (em (A 2) s') (uu (A 2) j))) = nI v ∧ _
        rcases hb with ⟨rfl, hb⟩ | ⟨v, hv, rfl, hb⟩
        · refine ⟨_, hv9, ?_, fun q hq => ?_, uu (A 2) j, ⟨u1, u2, by omega, by rw [u3]; exact hz⟩, rfl⟩
          · unfold mnI
            rw [if_pos (nI_lt (by omega) (by decide))]
          · rcases Nat.lt_succ_iff_lt_or_eq.mp hq.2.2.1 with z | z
            · have := hb q hq.1 hq.2.1 z
              rw [hq.2.2.2] at this
              cases this
            · have : q = uu (A 2) j := rk_inj hq.2.1 u2 (by rw [z, u3])
              rw [this]
              exact Nat.le_refl _
        · refine ⟨min v (vL (A 2) (em (A 2) s') (uu (A 2) j)), by omega, ?_, fun q hq => ?_, ?_⟩
          · unfold mnI
            by_cases z : vL (A 2) (em (A 2) s') (uu (A 2) j) < v
            · rw [if_pos (nI_lt z (by omega)), Nat.min_eq_right (by omega)]
            · rw [if_neg (nI_nlt (by omega) (by omega)), Nat.min_eq_left (by omega)]
          · rcases Nat.lt_succ_iff_lt_or_eq.mp hq.2.2.1 with z | z
            · exact Nat.le_trans (Nat.min_le_left _ _) (hb.1 q ⟨hq.1, hq.2.1, z, hq.2.2.2⟩)
            · have : q = uu (A 2) j := rk_inj hq.2.1 u2 (by rw [z, u3])
              rw [this]
              exact Nat.min_le_right _ _
          · rcases Nat.le_total v (vL (A 2) (em (A 2) s') (uu (A 2) j)) with z | z
            · obtain ⟨q, ⟨q1, q2, q3, q4⟩, q5⟩ := hb.2
              exact ⟨q, ⟨q1, q2, by omega, q4⟩, by rw [Nat.min_eq_left z]; exact q5⟩
            · exact ⟨uu (A 2) j, ⟨u1, u2, by omega, by rw [u3]; exact hz⟩, by rw [Nat.min_eq_right z]⟩

/-- the state behind weighSets -/
def RkSt (w : Nat → Int32) (I A : HI) : Prop := FO w ∧ UsOK w I A ∧ SrOK w A ∧ LsOK w A (2 ^ nU w)
def fOf0 (I A : HI) (s : Int32) : Prop := RkSt (A 2) I A ∧ ∃ S, 0 < S ∧ S < 2 ^ nU (A 2) ∧ s = nI S
noncomputable def fOf (I A : HI) (s : Int32) : Int32 := nI (rk (A 2) (pk (A 2) (em (A 2) s.toNatClampNeg)))
set_option maxHeartbeats 4000000 in
theorem c_X5_firstOf (l : Launch) (D : va_G) (ads : AD) (I A : HI) (a1 : Int32) (hp : fOf0 I A a1) : Ct l yX5_firstOf cX5_firstOf 4 (some .int) 1 24 D ads shp [.inr (some 3), .inl a1] I A (qI (fOf I A a1) I A) := by
  obtain ⟨⟨hF, hU, hS, hL⟩, S, h0, h1, rfl⟩ := hp
  have hn10 : nU (A 2) ≤ 10 := nU_le _
  have hI : I 3 2 = nI (nU (A 2)) := hU.1
  have h1024 := pow10 hn10
  unfold fOf
  rw [cl_n (by omega)]
  have hpos := em_pos (w := A 2) h0 h1
  have hpk := pk_is (w := A 2) hpos
  have hval : ∀ j, j < nU (A 2) → S.testBit j = true → sWf I A (nI j) (nI (S ^^^ 2 ^ j)) = nI (vL (A 2) (em (A 2) S) (uu (A 2) j)) ∧ vL (A 2) (em (A 2) S) (uu (A 2) j) ≤ 10890 := by
    intro j hj hb
    obtain ⟨u1, u2, u3⟩ := uu_is hj
    have hxl := xor_less hb
    have h9 := sWf_val (I := I) hF hS hj (show S ^^^ 2 ^ j < 1024 by omega) (hL _ (by omega))
    have hem : em (A 2) (S ^^^ 2 ^ j) = em (A 2) S ^^^ 2 ^ uu (A 2) j := by
      have := em_flip (w := A 2) (set := S) u1 u2
      rwa [u3] at this
    rw [hem] at h9
    exact ⟨h9, vL_le hF u1⟩
  refine k_X5_firstOf l D ads I A (nI S) _ (c_X5_sumWithFirst l D ads) (fun i => ∃ j, j ≤ nU (A 2) ∧ i = nI j ∧ ∀ q, q < 10 → usd (A 2) q = true → rk (A 2) q < j → S.testBit (rk (A 2) q) = true → ¬ vL (A 2) (em (A 2) S) q = Lx (A 2) (em (A 2) S)) (fun i => 10 - i.toNatClampNeg) ⟨⟨0, Nat.zero_le _, rfl, fun q _ _ z => absurd z (Nat.not_lt_zero _)⟩, ?_⟩
  rintro i ⟨j, hj, rfl, hb⟩
  rw [hI]
  refine ⟨fun h => ?_, fun h => ?_⟩
  · exfalso
    have e := cn_eq rfl hj (by omega) h
    subst e
    have h2 := hpk.2.1
    rw [em_bit] at h2
    simp only [Bool.and_eq_true, decide_eq_true_eq] at h2
    exact hb _ hpk.1 h2.2.1 (rk_lt hpk.1 h2.2.1) h2.2.2 hpk.2.2.1
  · have hj2 := cn_lt rfl hj (by omega) h
    obtain ⟨u1, u2, u3⟩ := uu_is hj2
    rw [sh1 _ (by omega), fb_xorI, cl_n (show S < 2 ^ 31 by omega), hL S h1]
    have hbit := fa_bit (n := S) (j := j) (by omega)
    have hmu : 10 - (nI j + 1).toNatClampNeg < 10 - (nI j).toNatClampNeg := cn_mu (by omega) (by decide)
    have hstep : (S.testBit j = true → ¬ vL (A 2) (em (A 2) S) (uu (A 2) j) = Lx (A 2) (em (A 2) S)) → ∀ q, q < 10 → usd (A 2) q = true → rk (A 2) q < j + 1 → S.testBit (rk (A 2) q) = true → ¬ vL (A 2) (em (A 2) S) q = Lx (A 2) (em (A 2) S) := by
      intro hh q q1 q2 q3 q4
      rcases Nat.lt_succ_iff_lt_or_eq.mp q3 with z | z
      · exact hb q q1 q2 z q4
      · have : q = uu (A 2) j := rk_inj q2 u2 (by rw [z, u3])
        rw [this]
        rw [z] at q4
        exact hh q4
    refine ⟨fun h7 => ⟨⟨j + 1, hj2, nI_1 j, hstep (fun q => by rw [hbit.mp h7] at q; cases q)⟩, hmu⟩, fun h7 => ?_⟩
    have hz : S.testBit j = true := by
      cases z : S.testBit j
      · exact absurd (hbit.mpr z) h7
      · rfl
    obtain ⟨v1, v2⟩ := hval j hj2 hz
    have hxl := xor_less hz
    rw [v1]
    have hLs := Lx_small hF (em (A 2) S)
    have heq : nI (vL (A 2) (em (A 2) S) (uu (A 2) j)) = nI (Lx (A 2) (em (A 2) S)) ↔ vL (A 2) (em (A 2) S) (uu (A 2) j) = Lx (A 2) (em (A 2) S) := nI_eq (by omega) (by omega)
    refine ⟨sWf_pre hF hS hj2 (by omega), vp_in_nI (by omega) (by decide), fun h8 => ⟨⟨j + 1, hj2, nI_1 j, hstep (fun _ q => h8 (heq.mpr q))⟩, hmu⟩, fun h8 => qI_i ?_⟩
    have hpk2 : IsPk (A 2) (em (A 2) S) (uu (A 2) j) := by
      refine ⟨u1, by rw [em_bit, u2, u3, hz]; simp [u1], heq.mp h8, fun q hq hqb => ?_⟩
      rw [em_bit] at hqb
      simp only [Bool.and_eq_true, decide_eq_true_eq] at hqb
      have hlt : rk (A 2) q < j := by
        have := rk_mono hqb.2.1 hq
        omega
      exact hb q hqb.1 hqb.2.1 hlt hqb.2.2
    rw [← IsPk.uniq hpk2 hpk, u3]
