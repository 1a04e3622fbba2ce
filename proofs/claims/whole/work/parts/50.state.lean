/-! the class's state: freshRanking, isLayer, isDrawn -/
abbrev StT : Type := (Nat → Int32) × (Nat → Int32) × (Nat → Int32) × Int32 × Int32 × Int32
def xSt (I A : HI) : StT := (A 2, A 27, A 28, I 0 6, I 0 7, I 26 2)
def mSt (I A : HI) : StT := (A 97, A 98, A 99, I 96 2, I 96 3, I 96 4)
def HiS (I A I' A' : HI) : Prop := ∀ k, 96 ≤ k → I' k = I k ∧ A' k = A k
def LoS (I A I' A' : HI) : Prop := ∀ k, k < 96 → I' k = I k ∧ A' k = A k
def SOK (s : StT) : Prop := FO s.1 ∧ KpOK s.2.1 s.2.2.1 ∧ (∃ q, q ≤ 9999 ∧ s.2.2.2.2.1 = nI q) ∧ (s.2.2.2.2.2 = 0 ∨ s.2.2.2.2.2 = 1) ∧ (s.2.2.2.2.2 = 0 → ∀ j, j < 10 → s.2.1 j = -1)
def flC (w : Nat → Int32) : Nat := fb_ct (fun j => decide (0 < w j)) 100
abbrev prQ (I : HI) : Nat := (I 0 7).toNatClampNeg
def RkX (I A : HI) : Prop := RankOK (A 2) I A ∧ ShH A (itL (A 2))
def OdX (I A : HI) : Prop := Dw (A 2) ∧ OrdOK (A 2) (A 27) (A 28) (prQ I) I A
def XOK (I A : HI) : Prop := SOK (xSt I A) ∧ I 1 1 = nI (flC (A 2)) ∧ ChOK I A ∧ (I 0 8 = 0 ∨ (I 0 8 = 1 ∧ RkX I A)) ∧ (I 0 9 = 0 ∨ (I 0 9 = 1 ∧ I 0 8 = 1 ∧ OdX I A))
theorem RankOK.off {w : Nat → Int32} {I A I' A' : HI} (h : RankOK w I A) (hI : I' 3 = I 3) (h9 : A' 9 = A 9) (h10 : A' 10 = A 10) (h11 : A' 11 = A 11) (h12 : A' 12 = A 12) : RankOK w I' A' := by
  unfold RankOK at h ⊢
  rw [hI, h9, h10, h11, h12]
  exact h
theorem ShH.off {A A' : HI} {T : Nat → List Nat} (h : ShH A T) (e : ∀ k, k < 11 → A' (15 + k) = A (15 + k)) : ShH A' T := by
  unfold ShH at h ⊢
  have e25 : A' 25 = A 25 := e 10 (by decide)
  rw [e25]
  refine ⟨h.1, fun l hl => ?_⟩
  rw [e l (by omega)]
  exact h.2 l hl
theorem RankOK.ly {w : Nat → Int32} {I A : HI} (h : RankOK w I A) : LyOK w A := ⟨h.2.2.2.1, h.2.2.2.2.1⟩
theorem Dw.le {w : Nat → Int32} (h : Dw w) (l : Nat) : (itL w l).length ≤ 5 := by
  have : (itL w l).length < 6 := h.2 l
  omega
theorem dw_drw {w : Nat → Int32} (h : Dw w) : drw w (nLay w) = true := by
  unfold drw
  exact List.all_eq_true.mpr (fun q _ => decide_eq_true (h.le q))
theorem itL_26 {w : Nat → Int32} (hF : FO w) (l : Nat) : (itL w l).length ≤ 26 := itT_len hF (Nat.le_refl _) (Nat.le_refl _) l
theorem fit_iff {w : Nat → Int32} {A : HI} (hF : FO w) (h : ShH A (itL w)) : fitI (A 25) = 0 ↔ drw w (nLay w) = false := by
  have key : ((List.range 11).all (fun l => decide (A 25 l ≤ 5)) = true) ↔ drw w (nLay w) = true := by
    constructor
    · intro hz
      unfold drw
      refine List.all_eq_true.mpr (fun q hq => decide_eq_true ?_)
      have hq := List.mem_range.mp hq
      have h10 := nLay_le w
      have h1 := of_decide_eq_true (List.all_eq_true.mp hz q (List.mem_range.mpr (by omega)))
      rw [(h.2 q (by omega)).1] at h1
      have := itL_26 hF q
      exact (nI_leI (b := 5) (by omega) (by decide)).mp h1
    · intro hz
      have hD := drw_dw hF hz
      refine List.all_eq_true.mpr (fun q hq => decide_eq_true ?_)
      have hq := List.mem_range.mp hq
      rcases Nat.lt_or_eq_of_le (show q ≤ 10 by omega) with z | z
      · rw [(h.2 q z).1]
        exact nI_le (b := 5) (hD.le q) (by decide)
      · rw [z, h.1]
        decide
  unfold fitI
  cases q : drw w (nLay w)
  · have : ¬ (List.range 11).all (fun l => decide (A 25 l ≤ 5)) = true := fun z => by
      have := key.mp z
      rw [q] at this
      cases this
    rw [if_neg this]
    exact ⟨fun _ => rfl, fun _ => rfl⟩
  · rw [if_pos (key.mpr q)]
    exact ⟨fun z => absurd z (by decide), fun z => by cases z⟩
theorem XOK.srs {I A : HI} (h : XOK I A) (h9 : I 0 9 = 1) : SrS (A 2) (chS (A 2) (A 27) (A 28) (prQ I)) I A ∧ RankOK (A 2) I A ∧ Dw (A 2) ∧ OrdOK (A 2) (A 27) (A 28) (prQ I) I A := by
  obtain ⟨hS, -, hC, hR, hO⟩ := h
  rcases hO with z | ⟨-, h8, hD, hO⟩
  · rw [h9] at z
    exact absurd z (by decide)
  rcases hR with z | ⟨-, r1, r2⟩
  · rw [h8] at z
    exact absurd z (by decide)
  exact ⟨⟨⟨hS.1, r1.ly, r2, fun l _ => hD.le l⟩, hC, hO.1⟩, r1, hD, hO⟩
theorem XOK.rk {I A : HI} (h : XOK I A) (h8 : I 0 8 = 1) : RkX I A := by
  rcases h.2.2.2.1 with z | ⟨-, r⟩
  · rw [h8] at z
    exact absurd z (by decide)
  · exact r
theorem OrdOK.off {w kl ks : Nat → Int32} {q : Nat} {I A I' A' : HI} (h : OrdOK w kl ks q I A) (hI : I' 29 = I 29) (hA : A' 67 = A 67) : OrdOK w kl ks q I' A' := by
  unfold OrdOK CsOK PrN at h ⊢
  rw [hI, hA]
  exact h
def frR (I A I' A' : HI) : Prop := XOK I' A' ∧ I' 0 8 = 1 ∧ xSt I' A' = xSt I A ∧ HiS I A I' A'
theorem offI_row {L : List (Nat × Nat)} {I I' : HI} (h : offI L I I') {k : Nat} (hk : ∀ q, q ∈ L → q.1 ≠ k) : I' k = I k := by
  funext j
  exact h k j (fun z => hk _ z rfl)
set_option maxHeartbeats 4000000 in
theorem c_X8_freshRanking (l : Launch) (D : va_G) (ads : AD) (I A : HI) (hp : XOK I A) : Ct l yX8_freshRanking cX8_freshRanking 1 (some (.object "RibbonSetter$Ranking")) 4 90 D ads shp [.inr (some 0)] I A (qK (frR I A) 3) := by
  refine k_X8_freshRanking l D ads I A _ (c_X5_rank l D ads) (c_X7_fill l D ads) ⟨fun h => ?_, fun h => ?_⟩
  · have h1 : I 0 8 = 1 := by
      rcases hp.2.2.2.1 with z | ⟨z, -⟩
      · exact absurd z h
      · exact z
    exact ⟨rfl, hp, h1, rfl, fun _ _ => ⟨rfl, rfl⟩⟩
  · obtain ⟨hS, hN, hC, hR, hO⟩ := hp
    have h9 : I 0 9 = 0 := by
      rcases hO with z | ⟨-, z, -⟩
      · exact z
      · rw [h] at z
        exact absurd z (by decide)
    refine ⟨hS.1, ?_⟩
    rintro I2 A2 ⟨o2, p2, rk2⟩
    have e2 : A2 2 = A 2 := o2 2 (by decide)
    refine ⟨⟨A 2, hS.1, rk2.ly⟩, ?_⟩
    rintro I4 A4 ⟨rfl, o4, sh4⟩
    have sh4 := sh4 (A 2) hS.1 rk2.ly
    have oA : ∀ k, k < 4 ∨ (12 < k ∧ k < 15) ∨ 25 < k → A4 k = A k := by
      intro k hk
      rw [o4 k (fun z => by unfold shC at z; simp at z; omega), o2 k (fun z => by simp at z; omega)]
    have oI : ∀ k j, ¬ (k = 3 ∧ (j = 2 ∨ j = 11 ∨ j = 12 ∨ j = 13)) → ¬ (k = 0 ∧ j = 8) → up2 I4 0 8 1 k j = I k j := by
      intro k j h1 h2
      unfold up2
      rw [if_neg h2]
      exact p2 k j (fun z => by simp at z; omega)
    have e4 : A4 2 = A 2 := oA 2 (by omega)
    have eS : xSt (up2 I4 0 8 1) A4 = xSt I A := by
      unfold xSt
      rw [e4, oA 27 (by omega), oA 28 (by omega), oI 0 6 (by omega) (by omega), oI 0 7 (by omega) (by omega), oI 26 2 (by omega) (by omega)]
    refine ⟨rfl, ⟨by rw [eS]; exact hS, ?_, ?_, Or.inr ⟨up2_s, ?_, ?_⟩, Or.inl ?_⟩, up2_s, eS, fun k hk => ⟨?_, oA k (by omega)⟩⟩
    · rw [oI 1 1 (by omega) (by omega), e4]
      exact hN
    · exact hC.off (fun n hn => ⟨oI _ _ (by omega) (by omega), oI _ _ (by omega) (by omega)⟩) (fun k h1 h2 => oA k (by omega))
    · rw [e4]
      exact rk2.off (by rw [up2_off (by decide)]) (o4 9 (by decide)) (o4 10 (by decide)) (o4 11 (by decide)) (o4 12 (by decide))
    · rw [e4]
      exact sh4
    · rw [oI 0 9 (by omega) (by omega)]
      exact h9
    · funext j
      exact oI k j (by omega) (by omega)
def isL (I A : HI) (a1 r : Int32) (I' A' : HI) : Prop := XOK I' A' ∧ xSt I' A' = xSt I A ∧ HiS I A I' A' ∧ ((r = 0 ∧ (a1 < 0 ∨ nI (nLay (A 2)) ≤ a1)) ∨ (r = 1 ∧ I' 0 8 = 1 ∧ ∃ k, k < nLay (A 2) ∧ a1 = nI k))
theorem xSt_2 {I A I' A' : HI} (h : xSt I' A' = xSt I A) : A' 2 = A 2 ∧ A' 27 = A 27 ∧ A' 28 = A 28 ∧ I' 0 6 = I 0 6 ∧ I' 0 7 = I 0 7 ∧ I' 26 2 = I 26 2 := by
  unfold xSt at h
  simp only [Prod.mk.injEq] at h
  exact h
theorem c_X8_isLayer (l : Launch) (D : va_G) (ads : AD) (I A : HI) (a1 : Int32) (hp : XOK I A) : Ct l yX8_isLayer cX8_isLayer 2 (some .boolean) 5 110 D ads shp [.inr (some 0), .inl a1] I A (qJ (isL I A a1)) := by
  refine k_X8_isLayer l D ads I A a1 _ (c_X8_freshRanking l D ads) ⟨fun h => qJ_i ⟨hp, rfl, fun _ _ => ⟨rfl, rfl⟩, Or.inl ⟨rfl, Or.inl h⟩⟩, fun h => ⟨hp, ?_⟩⟩
  rintro I2 A2 ⟨x2, h8, e2, hi⟩
  have hl := (x2.rk h8).1.2.2.2.2.2.1
  rw [(xSt_2 e2).1] at hl
  rw [hl]
  refine ⟨fun h2 => qJ_i ⟨x2, e2, hi, Or.inl ⟨rfl, Or.inr h2⟩⟩, fun h2 => qJ_i ⟨x2, e2, hi, Or.inr ⟨rfl, h8, ?_⟩⟩⟩
  obtain ⟨k, k1, rfl⟩ := nI_of h
  have h10 := nLay_le (A 2)
  exact ⟨k, (nI_ltI k1 (by omega)).mp (nle h2), rfl⟩
def isD (I A : HI) (r : Int32) (I' A' : HI) : Prop := XOK I' A' ∧ I' 0 8 = 1 ∧ xSt I' A' = xSt I A ∧ HiS I A I' A' ∧ ((r = 0 ∧ drw (A 2) (nLay (A 2)) = false) ∨ (r = 1 ∧ drw (A 2) (nLay (A 2)) = true ∧ I' 0 9 = 1))
set_option maxHeartbeats 4000000 in
theorem c_X8_isDrawn (l : Launch) (D : va_G) (ads : AD) (I A : HI) (hp : XOK I A) : Ct l yX8_isDrawn cX8_isDrawn 1 (some .boolean) 5 124 D ads shp [.inr (some 0)] I A (qJ (isD I A)) := by
  refine k_X8_isDrawn l D ads I A _ (c_X8_freshRanking l D ads) (c_X6_solve (prQ I) l D ads) ⟨hp, ?_⟩
  rintro I2 A2 ⟨x2, h8, e2, hi⟩
  obtain ⟨s2, s27, s28, s6, s7, sk⟩ := xSt_2 e2
  obtain ⟨r1, r2⟩ := x2.rk h8
  have hS2 := x2.1
  have hF : FO (A2 2) := hS2.1
  have hft := fit_iff hF r2
  rw [s2] at hft
  refine ⟨fun h => ⟨fun h9 => ?_, fun h9 => ?_⟩, fun h => qJ_i ⟨x2, h8, e2, hi, Or.inl ⟨rfl, hft.mp h⟩⟩⟩
  · have h91 : I2 0 9 = 1 := by
      rcases x2.2.2.2.2 with z | ⟨z, -⟩
      · exact absurd z h9
      · exact z
    refine qJ_i ⟨x2, h8, e2, hi, Or.inr ⟨rfl, ?_, h91⟩⟩
    rw [← s2]
    exact dw_drw (x2.srs h91).2.2.1
  · have hd : drw (A 2) (nLay (A 2)) = true := by
      cases q : drw (A 2) (nLay (A 2))
      · exact absurd (hft.mpr q) h
      · rfl
    have hDw : Dw (A2 2) := by
      rw [s2] at hF ⊢
      exact drw_dw hF hd
    obtain ⟨q, hq, eq⟩ := hS2.2.2.1
    have eq : I2 0 7 = nI q := eq
    have epr : prQ I = q := by
      show (I 0 7).toNatClampNeg = q
      rw [← s7, eq, cl_n (by omega)]
    have epr2 : prQ I2 = q := by
      show (I2 0 7).toNatClampNeg = q
      rw [eq, cl_n (by omega)]
    refine ⟨⟨by rw [epr]; exact hq, by rw [epr]; exact eq, ⟨hF, r1.ly, r2, fun j _ => hDw.le j⟩, x2.2.2.1, hS2.2.1, r1.2.2.2.2.2.1⟩, ?_⟩
    rintro I5 A5 ⟨p5, o5, od5⟩
    have oA : ∀ k, k < 32 ∨ 70 < k → A5 k = A2 k := fun k hk => o5 k (schC_no hk)
    have oI : ∀ k j, ¬ (k = 68 ∧ j = 5) → k ≠ 29 → ¬ (k = 0 ∧ j = 9) → up2 I5 0 9 1 k j = I2 k j := by
      intro k j h1 h2 h3
      unfold up2
      rw [if_neg h3]
      exact p5 k j (fun z => by unfold solI at z; simp at z; omega)
    have eS : xSt (up2 I5 0 9 1) A5 = xSt I2 A2 := by
      unfold xSt
      rw [oA 2 (by omega), oA 27 (by omega), oA 28 (by omega), oI 0 6 (by omega) (by omega) (by omega), oI 0 7 (by omega) (by omega) (by omega), oI 26 2 (by omega) (by omega) (by omega)]
    have e8 : up2 I5 0 9 1 0 8 = 1 := by
      rw [oI 0 8 (by omega) (by omega) (by omega)]
      exact h8
    refine qJ_i ⟨⟨by rw [eS]; exact hS2, ?_, ?_, Or.inr ⟨e8, ?_, ?_⟩, Or.inr ⟨up2_s, e8, ?_, ?_⟩⟩, e8, eS.trans e2, fun k hk => ⟨?_, ?_⟩, Or.inr ⟨rfl, hd, up2_s⟩⟩
    · rw [oI 1 1 (by omega) (by omega) (by omega), oA 2 (by omega)]
      exact x2.2.1
    · exact x2.2.2.1.off (fun n hn => ⟨oI _ _ (by omega) (by omega) (by omega), oI _ _ (by omega) (by omega) (by omega)⟩) (fun k h1 h2 => oA k (by omega))
    · rw [oA 2 (by omega)]
      refine r1.off ?_ (oA _ (by omega)) (oA _ (by omega)) (oA _ (by omega)) (oA _ (by omega))
      funext j
      exact oI 3 j (by omega) (by omega) (by omega)
    · rw [oA 2 (by omega)]
      exact r2.off (fun k hk => oA _ (by omega))
    · rw [oA 2 (by omega)]
      exact hDw
    · have e7 : prQ (up2 I5 0 9 1) = prQ I := by
        show (up2 I5 0 9 1 0 7).toNatClampNeg = prQ I
        rw [oI 0 7 (by omega) (by omega) (by omega), eq, cl_n (by omega), epr]
      rw [e7, oA 2 (by omega), oA 27 (by omega), oA 28 (by omega)]
      exact od5.off (by rw [up2_off (by decide)]) rfl
    · have := (hi k hk).1
      rw [← this]
      funext j
      exact oI k j (by omega) (by omega) (by omega)
    · rw [oA k (by omega)]
      exact (hi k hk).2
