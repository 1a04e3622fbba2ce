def gSo0 (I A : HI) : Prop := FO (A 2) ∧ UsOK (A 2) I A
def gSo (I A I' A' : HI) : Prop := I' = I ∧ offA [5, 6, 7] A A' ∧ SrcOK (A 2) A' (nU (A 2)) ∧ A' 5 (nU (A 2)) = nI (KK (A 2) (nU (A 2)))
theorem KK_s (w : Nat → Int32) (i : Nat) : KK w i ≤ KK w (i + 1) := by
  have := kcj_n (w := w) (i := i)
  omega
theorem KK_m (w : Nat → Int32) {i j : Nat} (h : i ≤ j) : KK w i ≤ KK w j := by
  have := fb_sm_mono (fun i => fb_ct (fun q => usd w q && decide (0 < w (10 * q + uu w i))) 10) i (j - i)
  rwa [show i + (j - i) = j by omega] at this
/-- a stretch isn't changed by what is written behind it -/
theorem slS_up {A B : HI} {s : Int32} {a n : Nat} (h6 : ∀ t, t < a + n → B 6 t = A 6 t) (h7 : ∀ t, t < a + n → B 7 t = A 7 t) : slS B s a n = slS A s a n := by
  apply sm32_cong
  intro k hk
  rw [h6 (a + k) (by omega), h7 (a + k) (by omega)]
set_option maxHeartbeats 4000000 in
theorem c_X5_gatherSources (l : Launch) (D : va_G) (ads : AD) (I A : HI) (hp : gSo0 I A) : Ct l yX5_gatherSources cX5_gatherSources 5 none 2 43 D ads shp [.inr (some 3)] I A (qV (gSo I A)) := by
  obtain ⟨hF, hU⟩ := hp
  have hn10 : nU (A 2) ≤ 10 := nU_le _
  have hI : I 3 2 = nI (nU (A 2)) := hU.1
  refine k_X5_gatherSources l D ads I A _
    (fun x1 x2 A' => ∃ i, i ≤ nU (A 2) ∧ x2 = nI i ∧ x1 = nI (KK (A 2) i) ∧ offA [5, 6, 7] A A' ∧ SrcOK (A 2) A' i)
    (fun _ x2 _ => 10 - x2.toNatClampNeg)
    (fun y1 y2 A4 x1 x3 A' => ∃ i j k, i < nU (A 2) ∧ j ≤ nU (A 2) ∧ y2 = nI i ∧ x3 = nI j ∧ x1 = nI k ∧ k = KK (A 2) i + kcj (A 2) (uu (A 2) i) j ∧ offA [5, 6, 7] A A' ∧ SrcOK (A 2) A' i ∧ A' 5 i = nI (KK (A 2) i) ∧ ∀ S, slS A' (nI S) (KK (A 2) i) (k - KK (A 2) i) = nI (crj (A 2) S (uu (A 2) i) j))
    (fun _ _ _ _ x3 _ => 10 - x3.toNatClampNeg) ⟨⟨0, Nat.zero_le _, rfl, rfl, offA.rf, fun i h => absurd h (Nat.not_lt_zero i)⟩, ?_⟩
  rintro x1 x2 A4 ⟨i, hi, rfl, rfl, hoff, hS⟩
  rw [hI]
  refine ⟨fun h => ?_, fun h => ?_⟩
  · have e := cn_eq rfl hi (by omega) h
    subst e
    rw [cl_n (by omega)]
    refine ⟨vp_in_nI (by omega) (by decide), qV_i ⟨rfl, hoff.up (by decide), fun i hi => ?_, up2_s⟩⟩
    obtain ⟨h1, h2⟩ := hS i hi
    refine ⟨by rw [up2_j (by omega)]; exact h1, fun S => ?_⟩
    rw [← h2 S]
    exact slS_up (fun t _ => up2_k (by decide)) (fun t _ => up2_k (by decide))
  · have hi2 := cn_lt rfl hi (by omega) h
    rw [cl_n (by omega)]
    have hK16 := KK_le (A 2) hF (i := i + 1) (by omega)
    refine ⟨vp_in_nI (by omega) (by decide), ⟨i, 0, KK (A 2) i, hi2, Nat.zero_le _, rfl, rfl, rfl, by rw [kcj_0]; rfl, hoff.up (by decide), fun i' hi' => ?_, up2_s, fun S => by rw [Nat.sub_self, crj_0]; rfl⟩, ?_⟩
    · obtain ⟨h1, h2⟩ := hS i' hi'
      refine ⟨by rw [up2_j (by omega)]; exact h1, fun S => ?_⟩
      rw [← h2 S]
      exact slS_up (fun t _ => up2_k (by decide)) (fun t _ => up2_k (by decide))
    · rintro x1 x3 A' ⟨i0, j, k, hi0, hj, e0, rfl, rfl, rfl, hoff', hS', h5, hsl⟩
      have e0 : i0 = i := ((nI_eq (by omega) (by omega)).mp e0).symm
      subst e0
      have e2 : A' 2 = A 2 := hoff' 2 (by decide)
      have e4 : A' 4 = A 4 := hoff' 4 (by decide)
      refine ⟨fun h9 => ?_, fun h9 => ?_⟩
      · have e := cn_eq rfl hj (by omega) h9
        subst e
        refine ⟨⟨i0 + 1, hi2, nI_1 i0, by rw [kcj_n], hoff', fun i' hi' => ?_⟩, ?_⟩
        · rcases Nat.lt_succ_iff_lt_or_eq.mp hi' with z | z
          · exact hS' i' z
          · subst z
            refine ⟨h5, fun S => ?_⟩
            have := hsl S
            rw [kcj_n, crj_n] at this
            exact this
        · rw [nI_1, cl_n (by omega)]
          omega
      · have hj2 := cn_lt rfl hj (by omega) h9
        obtain ⟨u1, u2, u3⟩ := uu_is hj2
        obtain ⟨v1, v2, v3⟩ := uu_is hi2
        rw [cl_n (show j < 2 ^ 31 by omega), e4, hU.at hj2, hU.at hi2, btw_n u1 v1, e2]
        have hmu : 10 - (nI j + 1).toNatClampNeg < 10 - j := by
          rw [nI_1, cl_n (by omega)]
          omega
        have hkle : kcj (A 2) (uu (A 2) i0) (j + 1) ≤ kcj (A 2) (uu (A 2) i0) (nU (A 2)) := kcj_le hj2
        have hkn := kcj_n (w := A 2) (i := i0)
        have hks := kcj_s (w := A 2) (p := uu (A 2) i0) hj2
        refine ⟨vp_in_nI (by omega) (by decide), vp_in_nI (by omega) (by decide), fun h7 => ⟨⟨i0, j + 1, _, hi2, hj2, rfl, nI_1 j, rfl, ?_, hoff', hS', h5, fun S => ?_⟩, hmu⟩, fun h7 => ⟨fun h8 => ?_, fun h8 => ?_⟩⟩
        · rw [hks, if_neg (le_nlt h7)]
          rfl
        · rw [hsl S, crj_s hj2]
          have hz : wN (A 2) (10 * uu (A 2) j + uu (A 2) i0) = 0 := by
            have : ¬ 0 < wN (A 2) (10 * uu (A 2) j + uu (A 2) i0) := fun q => le_nlt h7 ((hF.pos (j := 10 * uu (A 2) j + uu (A 2) i0) (by omega)).mpr q)
            omega
          rw [hz]
          simp
        · exfalso
          have hlt : KK (A 2) i0 + kcj (A 2) (uu (A 2) i0) j < 16 := by
            rw [if_pos (nle h7)] at hks
            omega
          exact nI_ge hlt (by decide) h8
        · have hlt : KK (A 2) i0 + kcj (A 2) (uu (A 2) i0) j < 16 := by
            rw [if_pos (nle h7)] at hks
            omega
          generalize hk : KK (A 2) i0 + kcj (A 2) (uu (A 2) i0) j = k at hlt hsl ⊢
          have hkge : KK (A 2) i0 ≤ k := by omega
          rw [cl_n (show k < 2 ^ 31 by omega), sh1 j (by omega)]
          refine ⟨vp_in_nI hlt (by decide), vp_in_nI hlt (by decide), ⟨i0, j + 1, k + 1, hi2, hj2, rfl, nI_1 j, nI_1 k, ?_, (hoff'.up (by decide)).up (by decide), fun i' hi' => ?_, ?_, fun S => ?_⟩, hmu⟩
          · rw [hks, if_pos (nle h7)]
            omega
          · obtain ⟨g1, g2⟩ := hS' i' hi'
            refine ⟨by rw [up2_k (by decide), up2_k (by decide)]; exact g1, fun S => ?_⟩
            rw [← g2 S]
            have hm : KK (A 2) (i' + 1) ≤ KK (A 2) i0 := KK_m _ hi'
            have hm2 := KK_s (A 2) i'
            refine slS_up (fun t ht => ?_) (fun t ht => ?_)
            · rw [up2_k (by decide), up2_j (by omega)]
            · rw [up2_j (by omega), up2_k (by decide)]
          · rw [up2_k (by decide), up2_k (by decide)]
            exact h5
          · rw [show k + 1 - KK (A 2) i0 = (k - KK (A 2) i0) + 1 by omega]
            unfold slS
            rw [sm32]
            have hprev : sm32 (fun t => if nI S &&& (up2 (up2 A' 6 k (nI (2 ^ j))) 7 k (A 2 (10 * uu (A 2) j + uu (A 2) i0))) 6 (KK (A 2) i0 + t) = 0 then 0 else (up2 (up2 A' 6 k (nI (2 ^ j))) 7 k (A 2 (10 * uu (A 2) j + uu (A 2) i0))) 7 (KK (A 2) i0 + t)) (k - KK (A 2) i0) = nI (crj (A 2) S (uu (A 2) i0) j) := by
              rw [← hsl S]
              apply slS_up (A := A')
              · intro t ht
                rw [up2_k (by decide), up2_j (by omega)]
              · intro t ht
                rw [up2_j (by omega), up2_k (by decide)]
            rw [hprev, show KK (A 2) i0 + (k - KK (A 2) i0) = k by omega, up2_k (by decide), up2_s, up2_s, crj_s hj2]
            obtain ⟨w1, w2⟩ := hF.eq (j := 10 * uu (A 2) j + uu (A 2) i0) (by omega)
            have hb := fa_bit (n := S) (j := j) (by omega)
            cases hS9 : S.testBit j
            · rw [if_pos (hb.mpr hS9)]
              simp
            · rw [if_neg (fun q => by rw [hb.mp q] at hS9; cases hS9), w1, nI_add]
              simp
