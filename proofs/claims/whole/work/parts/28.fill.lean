/-! Sheet.fill -/
theorem LyOK.off {w : Nat → Int32} {A A' : HI} (h : LyOK w A) (ho : offA shC A A') : LyOK w A' := ⟨fun p hp => by rw [ho 11 (by decide)]; exact h.1 p hp, fun j hj => by rw [ho 12 (by decide)]; exact h.2 j hj⟩
theorem stB_strF {w : Nat → Int32} {j : Nat} : stB w j = true ↔ 0 < strF w j := by
  unfold stB strF
  cases trB w j
  · simp
  · simp
def fil (I A I' A' : HI) : Prop := I' = I ∧ offA shC A A' ∧ ∀ w, FO w → LyOK w A → ShH A' (itL w)
set_option maxHeartbeats 4000000 in
theorem c_X7_fill (l : Launch) (D : va_G) (ads : AD) (I A : HI) (hp : ∃ w, FO w ∧ LyOK w A) : Ct l yX7_fill cX7_fill 3 none 2 45 D ads shp [.inr (some 13)] I A (qV (fil I A)) := by
  obtain ⟨w0, hF0, hL0⟩ := hp
  refine k_X7_fill l D ads I A _ (c_X7_addBeads l D ads)
    (fun x A' => ∃ p, p ≤ 10 ∧ x = nI p ∧ offA shC A A' ∧ ∀ w, FO w → LyOK w A → ShH A' (fun l => itT w p 0 l))
    (fun x _ => 10 - x.toNatClampNeg)
    (fun _ _ x I' A' => ∃ a, a ≤ 10 ∧ x = nI a ∧ I' = I ∧ offA shC A A' ∧ ∀ w, FO w → LyOK w A → ShH A' (fun l => itT w 10 (10 * a) l))
    (fun _ _ x _ _ => 10 - x.toNatClampNeg)
    (fun _ _ y _ _ x I' A' => ∃ a b, a < 10 ∧ b ≤ 10 ∧ y = nI a ∧ x = nI b ∧ I' = I ∧ offA shC A A' ∧ ∀ w, FO w → LyOK w A → ShH A' (fun l => itT w 10 (10 * a + b) l))
    (fun _ _ _ _ _ x _ _ => 10 - x.toNatClampNeg) ⟨⟨0, Nat.zero_le _, rfl, fun q hq => ?_, fun w _ _ => ⟨?_, fun l hl => ⟨?_, fun i hi => absurd hi (Nat.not_lt_zero i)⟩⟩⟩, ?_⟩
  · funext b
    unfold filA
    rw [if_neg]
    rintro ⟨rfl, -⟩
    exact hq (by decide)
  · unfold filA
    rw [if_pos ⟨rfl, by decide⟩]
  · unfold filA
    rw [if_pos ⟨rfl, by omega⟩]
    rfl
  rintro x A1 ⟨p, hp, rfl, hoff, hT⟩
  refine ⟨fun h => ?_, fun h => ?_⟩
  · have e := cn_eq rfl hp (by decide) h
    subst e
    refine ⟨⟨0, Nat.zero_le _, rfl, rfl, hoff, hT⟩, ?_⟩
    rintro x I2 A2 ⟨a, ha, rfl, rfl, hoff2, hT2⟩
    refine ⟨fun h9 => ?_, fun h9 => ?_⟩
    · have e := cn_eq rfl ha (by decide) h9
      subst e
      exact qV_i ⟨rfl, hoff2, hT2⟩
    · have ha2 := cn_lt rfl ha (by decide) h9
      refine ⟨⟨a, 0, ha2, Nat.zero_le _, rfl, rfl, rfl, hoff2, hT2⟩, ?_⟩
      rintro x I3 A3 ⟨a', b, ha', hb, ea, rfl, rfl, hoff3, hT3⟩
      have ea : a' = a := ((nI_eq (by omega) (by omega)).mp ea).symm
      subst ea
      refine ⟨fun h8 => ?_, fun h8 => ?_⟩
      · have e := cn_eq rfl hb (by decide) h8
        subst e
        exact ⟨⟨a' + 1, ha2, nI_1 a', rfl, hoff3, hT3⟩, cn_mu ha2 (by decide)⟩
      · have hb2 := cn_lt rfl hb (by decide) h8
        have hmu : 10 - (nI b + 1).toNatClampNeg < 10 - (nI b).toNatClampNeg := cn_mu hb2 (by decide)
        have hL3 := hL0.off hoff3
        rw [strI_n ha2 hb2]
        have hst : ∀ w, LyOK w A → A3 12 (10 * a' + b) = strF w (10 * a' + b) := fun w hL => (hL.off hoff3).2 _ (by omega)
        refine ⟨fun h7 => ⟨⟨a', b + 1, ha2, hb2, rfl, nI_1 b, rfl, hoff3, fun w hF hL => ?_⟩, hmu⟩, fun h7 => ⟨⟨w0, a', b, hF0, ha2, hb2, rfl, rfl, hL3, ?_, hT3 w0 hF0 hL0⟩, ?_⟩⟩
        · have hz : stB w (10 * a' + b) = false := by
            cases z : stB w (10 * a' + b)
            · rfl
            · have := stB_strF.mp z
              rw [← hst w hL] at this
              exact absurd this (le_nlt h7)
          have e9 := itT_nst hz
          show ShH A3 (fun l => itT w 10 (10 * a' + b + 1) l)
          rw [e9]
          exact hT3 w hF hL
        · rw [stB_strF, ← hst w0 hL0]
          exact nle h7
        · rintro I4 A4 ⟨rfl, hoff4, hT4⟩
          refine ⟨⟨a', b + 1, ha2, hb2, rfl, nI_1 b, rfl, hoff3.tr hoff4, fun w hF hL => ?_⟩, hmu⟩
          refine hT4 w a' b hF ha2 hb2 rfl rfl (hL.off hoff3) ?_ (hT3 w hF hL)
          rw [stB_strF, ← hst w hL]
          exact nle h7
  · have hp2 := cn_lt rfl hp (by decide) h
    have hmu : 10 - (nI p + 1).toNatClampNeg < 10 - p := by
      rw [nI_1, cl_n (by omega)]
      omega
    rw [cl_n (show p < 2 ^ 31 by omega), hoff 11 (by decide), hL0.1 p hp2]
    have v : vp_in (nI p) 10 := vp_in_nI hp2 (by decide)
    have huniq : ∀ w, LyOK w A → usd w p = usd w0 p ∧ (usd w p = true → layF w p = layF w0 p) := by
      intro w hL
      have h1 := hL.1 p hp2
      rw [hL0.1 p hp2] at h1
      cases hu : usd w p <;> cases hu0 : usd w0 p <;> rw [hu, hu0] at h1
      · simp
      · simp only [Bool.false_eq_true, if_false, if_true] at h1
        have hz : ¬ nI (layF w0 p) < 0 := nI_pos (by have := lay_lt hp2 hu0; have := nLay_le w0; omega)
        rw [h1] at hz
        exact absurd (by decide) hz
      · simp only [Bool.false_eq_true, if_false, if_true] at h1
        have hz : ¬ nI (layF w p) < 0 := nI_pos (by have := lay_lt hp2 hu; have := nLay_le w; omega)
        rw [← h1] at hz
        exact absurd (by decide) hz
      · simp only [if_true] at h1
        have z1 := lay_lt hp2 hu
        have z2 := lay_lt hp2 hu0
        have z3 := nLay_le w
        have z4 := nLay_le w0
        exact ⟨rfl, fun _ => ((nI_eq (by omega) (by omega)).mp h1).symm⟩
    cases hu : usd w0 p
    · simp only [Bool.false_eq_true, if_false]
      refine ⟨v, fun _ => ⟨⟨p + 1, hp2, nI_1 p, hoff, fun w hF hL => ?_⟩, hmu⟩, fun h9 => absurd trivial h9⟩
      rw [pT_n (by rw [(huniq w hL).1, hu])]
      exact hT w hF hL
    · simp only [if_true]
      have z2 := lay_lt hp2 hu
      have z4 := nLay_le w0
      rw [cl_n (show layF w0 p < 2 ^ 31 by omega)]
      have hT0 := hT w0 hF0 hL0
      have hlen := itT_len hF0 (p := p + 1) (j := 0) (by omega) (by omega) (layF w0 p)
      refine ⟨v, fun h9 => ?_, fun h9 => ⟨v, ⟨vp_in_nI (by omega) (by decide), ?_⟩, ⟨p + 1, hp2, nI_1 p, hoff.tr (addA_off (by omega)), fun w hF hL => ?_⟩, hmu⟩⟩
      · have hz : ¬ nI (layF w0 p) < 0 := nI_pos (by omega)
        rw [h9] at hz
        exact absurd (by decide) hz
      · rw [(hT0.2 (layF w0 p) (by omega)).1]
        show (0 : Int32) ≤ nI (itT w0 p 0 (layF w0 p)).length
        have := itT_len hF0 (p := p) (j := 0) (by omega) (by omega) (layF w0 p)
        exact nI_pos' (by omega)
      · obtain ⟨g1, g2⟩ := huniq w hL
        have hu9 : usd w p = true := by rw [g1, hu]
        have hlen9 : (itT w p 0 (layF w p)).length < 26 := by
          have e9 := congrFun (pT_s hu9) (layF w p)
          have e9 : itT w (p + 1) 0 (layF w p) = upT (fun l => itT w p 0 l) (layF w p) p (layF w p) := e9
          have h26 := itT_len hF (p := p + 1) (j := 0) (by omega) (by omega) (layF w p)
          rw [e9] at h26
          simp [upT] at h26
          omega
        rw [pT_s hu9, ← g2 hu9]
        exact (hT w hF hL).add (by rw [g2 hu9]; omega) hlen9
