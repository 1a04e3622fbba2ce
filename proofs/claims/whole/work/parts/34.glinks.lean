/-! the matrix of LINKS between two layers; gatherLinks -/
noncomputable def fxN (w : Nat → Int32) (l j : Nat) : Nat := ixN (itL w l) (idN w j l)
noncomputable def gxN (w : Nat → Int32) (l j : Nat) : Nat := ixN (itL w (l + 1)) (idN w j (l + 1))
noncomputable def mtB (w : Nat → Int32) (l f g j : Nat) : Bool := lkB w l j && (decide (fxN w l j = f) && decide (gxN w l j = g))
noncomputable def Mj (w : Nat → Int32) (l f g n : Nat) : Int32 := sm32 (fun j => if mtB w l f g j then w j else 0) n
noncomputable def Mx (w : Nat → Int32) (l f g : Nat) : Int32 := Mj w l f g 100
theorem lkB_is {w : Nat → Int32} {l j : Nat} (h : lkB w l j = true) : stB w j = true ∧ layF w (j / 10) ≤ l ∧ l < layF w (j % 10) := by
  unfold lkB at h
  simp only [Bool.and_eq_true, decide_eq_true_eq] at h
  exact ⟨h.1, h.2.1, h.2.2⟩
theorem lk_mem {w : Nat → Int32} (hF : FO w) {l j : Nat} (hj : j < 100) (h : lkB w l j = true) : idN w j l ∈ itL w l ∧ idN w j (l + 1) ∈ itL w (l + 1) := by
  obtain ⟨h1, h2, h3⟩ := lkB_is h
  exact ⟨mem_id hF hj h1 h2 (by omega), mem_id hF hj h1 (by omega) h3⟩
theorem ixN_inj {L : List Nat} {x y : Nat} (hx : x ∈ L) (hy : y ∈ L) (e : ixN L x = ixN L y) : x = y := by
  have h1 := (ixN_is hx).2.1
  have h2 := (ixN_is hy).2.1
  rw [e, h2] at h1
  exact h1.symm
/-- a link is known by the items that it joins -/
theorem lk_inj {w : Nat → Int32} (hF : FO w) {l j k : Nat} (hj : j < 100) (hk : k < 100) (h : lkB w l j = true) (h2 : lkB w l k = true) (e1 : fxN w l j = fxN w l k) (e2 : gxN w l j = gxN w l k) : j = k := by
  have i1 := ixN_inj (lk_mem hF hj h).1 (lk_mem hF hk h2).1 e1
  have i2 := ixN_inj (lk_mem hF hj h).2 (lk_mem hF hk h2).2 e2
  obtain ⟨-, a2, a3⟩ := lkB_is h
  obtain ⟨-, b2, b3⟩ := lkB_is h2
  unfold idN at i1 i2
  by_cases p1 : l = layF w (j / 10)
  · rw [if_pos p1] at i1
    by_cases p2 : l = layF w (k / 10)
    · rw [if_pos p2] at i1
      rw [if_neg (by omega), if_neg (show ¬ l + 1 = layF w (k / 10) by omega)] at i2
      by_cases q1 : l + 1 = layF w (j % 10)
      · rw [if_pos q1] at i2
        by_cases q2 : l + 1 = layF w (k % 10)
        · rw [if_pos q2] at i2
          omega
        · rw [if_neg q2] at i2
          omega
      · rw [if_neg q1] at i2
        by_cases q2 : l + 1 = layF w (k % 10)
        · rw [if_pos q2] at i2
          omega
        · rw [if_neg q2] at i2
          omega
    · rw [if_neg p2, if_neg (by omega)] at i1
      omega
  · rw [if_neg p1, if_neg (by omega)] at i1
    by_cases p2 : l = layF w (k / 10)
    · rw [if_pos p2] at i1
      omega
    · rw [if_neg p2, if_neg (by omega)] at i1
      omega
theorem Mj_s (w : Nat → Int32) (l f g n : Nat) : Mj w l f g (n + 1) = Mj w l f g n + if mtB w l f g n then w n else 0 := rfl
theorem Mj_z {w : Nat → Int32} {l f g : Nat} : ∀ {n : Nat}, (∀ j, j < n → mtB w l f g j = false) → Mj w l f g n = 0
  | 0, _ => rfl
  | n + 1, h => by
    rw [Mj_s, Mj_z (fun j hj => h j (by omega)), h n (by omega)]
    rfl
theorem Mj_new {w : Nat → Int32} (hF : FO w) {l n : Nat} (hn : n < 100) (h : lkB w l n = true) : Mj w l (fxN w l n) (gxN w l n) n = 0 := by
  refine Mj_z (fun j hj => ?_)
  cases z : mtB w l (fxN w l n) (gxN w l n) j
  · rfl
  · unfold mtB at z
    simp only [Bool.and_eq_true, decide_eq_true_eq] at z
    have := lk_inj hF (by omega) hn z.1 h z.2.1 z.2.2
    omega
theorem ixO_H {w : Nat → Int32} {A : HI} (h : ShH A (itL w)) (hF : FO w) {l x : Nat} (hl : l < 10) (hx : x ∈ itL w l) : ixO (A (15 + l)) (A 25 l).toNatClampNeg (nI x) = nI (ixN (itL w l) x) := by
  obtain ⟨i1, i2, i3⟩ := ixN_is hx
  have hlen : (itL w l).length ≤ 26 := itT_len hF (Nat.le_refl _) (Nat.le_refl _) l
  have hx9 := it_lt hx
  obtain ⟨h1, h2⟩ := h.2 l hl
  rw [h1, cl_n (by omega)]
  have e := h2 _ i1
  rw [i2] at e
  refine ixO_is i1 e (fun j hj z => ?_)
  rw [h2 j (by omega)] at z
  have hm : (itL w l).getD j 0 ∈ itL w l := by
    rw [List.getD_eq_getElem?_getD, List.getElem?_eq_getElem (by omega)]
    exact List.getElem_mem _
  have := it_lt hm
  exact i3 j hj ((nI_eq (by omega) (by omega)).mp z)
/-- what the search needs of Ranking and Sheet: a drawing of the flows w -/
def DrOK (w : Nat → Int32) (A : HI) : Prop := FO w ∧ LyOK w A ∧ ShH A (itL w) ∧ ∀ l, l < 10 → (itL w l).length ≤ 5
def LnM (w : Nat → Int32) (A : HI) (l n : Nat) : Prop := ∀ f g, f < 5 → g < 5 → A 69 (5 * f + g) = Mj w l f g n
def gLi (I A : HI) (l : Int32) (I' A' : HI) : Prop := I' = I ∧ offA [69] A A' ∧ ∀ w l', DrOK w A → l' < 10 → l = nI l' → LnM w A' l' 100
theorem DrOK.off {w : Nat → Int32} {A A' : HI} (h : DrOK w A) (e11 : A' 11 = A 11) (e12 : A' 12 = A 12) (e : ∀ k, k < 11 → A' (15 + k) = A (15 + k)) : DrOK w A' := by
  obtain ⟨h1, h2, h3, h4⟩ := h
  have e25 : A' 25 = A 25 := e 10 (by omega)
  refine ⟨h1, ⟨fun p hp => by rw [e11]; exact h2.1 p hp, fun j hj => by rw [e12]; exact h2.2 j hj⟩, ⟨by rw [e25]; exact h3.1, fun l hl => by rw [e25, e l (by omega)]; exact h3.2 l hl⟩, h4⟩
theorem DrOK.off1 {w : Nat → Int32} {A A' : HI} {ks : List Nat} (h : DrOK w A) (ho : offA ks A A') (hk : ∀ k, k ∈ ks → k ≠ 11 ∧ k ≠ 12 ∧ ¬ (15 ≤ k ∧ k ≤ 25)) : DrOK w A' :=
  h.off (ho 11 (fun z => (hk 11 z).1 rfl)) (ho 12 (fun z => (hk 12 z).2.1 rfl)) (fun k hk9 => ho _ (fun z => (hk _ z).2.2 (by omega)))
theorem fx_lt {w : Nat → Int32} {A : HI} (h : DrOK w A) {l j : Nat} (hj : j < 100) (hl : lkB w l j = true) : fxN w l j < 5 ∧ gxN w l j < 5 ∧ l + 1 < 10 := by
  obtain ⟨m1, m2⟩ := lk_mem h.1 hj hl
  obtain ⟨s1, s2, s3⟩ := lkB_is hl
  obtain ⟨u1, u2, u3⟩ := st_lay h.1 hj s1
  have n2 := lay_lt (w := w) (show j % 10 < 10 by omega) u2
  have n3 := nLay_le w
  have a1 := (ixN_is m1).1
  have a2 := (ixN_is m2).1
  have b1 := h.2.2.2 l (by omega)
  have b2 := h.2.2.2 (l + 1) (by omega)
  unfold fxN gxN
  omega
set_option maxHeartbeats 8000000 in
theorem c_X3_gatherLinks (l : Launch) (D : va_G) (ads : AD) (I A : HI) (a1 : Int32) (hp : ∃ w l', DrOK w A ∧ l' < 10 ∧ a1 = nI l') : Ct l yX3_gatherLinks cX3_gatherLinks 6 none 2 44 D ads shp [.inr (some 68), .inl a1] I A (qV (gLi I A a1)) := by
  obtain ⟨w0, l0, hD0, hl0, rfl⟩ := hp
  refine k_X3_gatherLinks l D ads I A (nI l0) _
    (fun x A' => ∃ a, a ≤ 10 ∧ x = nI a ∧ offA [69] A A' ∧ ∀ w, DrOK w A → LnM w A' l0 (10 * a))
    (fun x _ => 10 - x.toNatClampNeg)
    (fun y _ x A' => ∃ a b, a < 10 ∧ b ≤ 10 ∧ y = nI a ∧ x = nI b ∧ offA [69] A A' ∧ ∀ w, DrOK w A → LnM w A' l0 (10 * a + b))
    (fun _ _ x _ => 10 - x.toNatClampNeg) ⟨⟨0, Nat.zero_le _, rfl, fun q hq => ?_, fun w _ f g hf hg => ?_⟩, ?_⟩
  · funext b
    unfold filA
    rw [if_neg]
    rintro ⟨rfl, -⟩
    exact hq (by decide)
  · unfold filA
    rw [if_pos ⟨rfl, by omega⟩]
    rfl
  rintro x A1 ⟨a, ha, rfl, o1, m1⟩
  refine ⟨fun h => ?_, fun h => ?_⟩
  · have e := cn_eq rfl ha (by decide) h
    subst e
    refine qV_i ⟨rfl, o1, fun w l' hD hl' e => ?_⟩
    have e : l' = l0 := ((nI_eq (by omega) (by omega)).mp e).symm
    subst e
    exact m1 w hD
  · have ha2 := cn_lt rfl ha (by decide) h
    refine ⟨⟨a, 0, ha2, Nat.zero_le _, rfl, rfl, o1, m1⟩, ?_⟩
    rintro x A2 ⟨a', b, ha', hb, ea, rfl, o2, m2⟩
    have ea : a' = a := ((nI_eq (by omega) (by omega)).mp ea).symm
    subst ea
    refine ⟨fun h => ?_, fun h => ?_⟩
    · have e := cn_eq rfl hb (by decide) h
      subst e
      exact ⟨⟨a' + 1, ha2, nI_1 a', o2, m2⟩, cn_mu ha2 (by decide)⟩
    · have hb2 := cn_lt rfl hb (by decide) h
      have va : vp_in (nI a') 10 := vp_in_nI ha2 (by decide)
      have vb : vp_in (nI b) 10 := vp_in_nI hb2 (by decide)
      have hmu : 10 - (nI b + 1).toNatClampNeg < 10 - (nI b).toNatClampNeg := cn_mu hb2 (by decide)
      obtain ⟨d1, d2⟩ := dm10 (a := a') hb2
      -- which pairs are linked is told by the cells alone
      have hlk : ∀ w, DrOK w A → (lnkI A2 (nI a') (nI b) (nI l0) = 0 ↔ lkB w l0 (10 * a' + b) = false) := by
        intro w hD
        have hD2 : DrOK w A2 := hD.off1 o2 (by decide)
        unfold lnkI lkB
        rw [ix_a, cl_n (show 10 * a' + b < 2 ^ 31 by omega), cl_n (show a' < 2 ^ 31 by omega), cl_n (show b < 2 ^ 31 by omega), hD2.2.1.2 _ (show 10 * a' + b < 100 by omega), d1, d2]
        by_cases hs : 0 < strF w (10 * a' + b)
        · have hs2 := stB_strF.mpr hs
          obtain ⟨u1, u2, u3⟩ := st_lay hD.1 (show 10 * a' + b < 100 by omega) hs2
          rw [d1] at u1 u3
          rw [d2] at u2 u3
          have n1 := lay_lt ha2 u1
          have n2 := lay_lt hb2 u2
          have n3 := nLay_le w
          rw [hD2.2.1.1 a' ha2, hD2.2.1.1 b hb2, u1, u2, hs2]
          simp only [if_true]
          have e1 : nI (layF w a') ≤ nI l0 ↔ layF w a' ≤ l0 := nI_leI (by omega) (by omega)
          have e2 : nI l0 < nI (layF w b) ↔ l0 < layF w b := nI_ltI (by omega) (by omega)
          by_cases z1 : layF w a' ≤ l0 <;> by_cases z2 : l0 < layF w b <;> simp [hs, e1, e2, z1, z2]
        · have hs2 : stB w (10 * a' + b) = false := by
            cases z : stB w (10 * a' + b)
            · rfl
            · exact absurd (stB_strF.mp z) hs
          simp [hs, hs2]
      have hno : ∀ w, DrOK w A → lkB w l0 (10 * a' + b) = false → LnM w A2 l0 (10 * a' + b + 1) := by
        intro w hD hz f g hf hg
        rw [Mj_s]
        have : mtB w l0 f g (10 * a' + b) = false := by
          unfold mtB
          rw [hz]
          rfl
        rw [this, m2 w hD f g hf hg]
        simp
      refine ⟨⟨va, vb⟩, fun h7 => ⟨⟨a', b + 1, ha2, hb2, rfl, nI_1 b, o2, fun w hD => hno w hD ((hlk w hD).mp h7)⟩, hmu⟩, fun h7 => ?_⟩
      have hyes : ∀ w, DrOK w A → lkB w l0 (10 * a' + b) = true := by
        intro w hD
        cases z : lkB w l0 (10 * a' + b)
        · exact absurd ((hlk w hD).mpr z) h7
        · rfl
      have hD02 : DrOK w0 A2 := hD0.off1 o2 (by decide)
      obtain ⟨-, -, hl1⟩ := fx_lt hD02 (show 10 * a' + b < 100 by omega) (hyes w0 hD0)
      have c26 : ∀ q, q < 10 → A2 25 q ≤ 26 := by
        intro q hq
        rw [(hD02.2.2.1.2 q hq).1]
        exact nI_le (b := 26) (itT_len hD0.1 (Nat.le_refl _) (Nat.le_refl _) q) (by decide)
      have key : ∀ w, DrOK w A → ixO (A2 (15 + l0)) (A2 25 l0).toNatClampNeg (itmI (A2 11) (nI a') (nI b) (nI l0)) = nI (fxN w l0 (10 * a' + b)) ∧ ixO (A2 (15 + (l0 + 1))) (A2 25 (l0 + 1)).toNatClampNeg (itmI (A2 11) (nI a') (nI b) (nI (l0 + 1))) = nI (gxN w l0 (10 * a' + b)) ∧ strI A2 (nI a') (nI b) = w (10 * a' + b) := by
        intro w hD
        have hD2 : DrOK w A2 := hD.off1 o2 (by decide)
        have hL := hyes w hD
        obtain ⟨s1, s2, s3⟩ := lkB_is hL
        obtain ⟨u1, u2, u3⟩ := st_lay hD.1 (show 10 * a' + b < 100 by omega) s1
        rw [d1] at u1
        rw [d2] at u2
        have hlay : ∀ p, p < 10 → usd w p = true → A2 11 p = nI (layF w p) := fun p hp hu => by rw [hD2.2.1.1 p hp, hu]; rfl
        obtain ⟨g1, g2⟩ := lk_mem hD.1 (show 10 * a' + b < 100 by omega) hL
        rw [itm_id hlay ha2 hb2 u1 u2 (by omega), itm_id hlay ha2 hb2 u1 u2 (by omega), ixO_H hD2.2.2.1 hD.1 hl0 g1, ixO_H hD2.2.2.1 hD.1 hl1 g2]
        refine ⟨rfl, rfl, ?_⟩
        rw [strI_n ha2 hb2, hD2.2.1.2 _ (by omega)]
        unfold stB at s1
        simp only [Bool.and_eq_true, Bool.not_eq_true'] at s1
        unfold strF
        rw [s1.2]
        rfl
      rw [nI_1, cl_n (show l0 < 2 ^ 31 by omega), cl_n (show l0 + 1 < 2 ^ 31 by omega)]
      refine ⟨⟨va, vb⟩, ⟨vp_in_nI hl0 (by decide), c26 l0 hl0⟩, ⟨va, vb⟩, ⟨vp_in_nI hl1 (by decide), c26 _ hl1⟩, ⟨a', b + 1, ha2, hb2, rfl, nI_1 b, ?_, fun w hD => ?_⟩, ?_⟩
      · obtain ⟨k1, k2, k3⟩ := key w0 hD0
        unfold pLk
        split
        · exact o2
        · exact o2.up (by decide)
      · obtain ⟨k1, k2, k3⟩ := key w hD
        have hD2 : DrOK w A2 := hD.off1 o2 (by decide)
        obtain ⟨x1, x2, -⟩ := fx_lt hD2 (show 10 * a' + b < 100 by omega) (hyes w hD)
        rw [k1, k2, k3]
        intro f g hf hg
        unfold pLk
        rw [if_neg, ix_5, cl_n (by omega)]
        · show _ = Mj w l0 f g (10 * a' + b + 1)
          rw [Mj_s]
          by_cases z : f = fxN w l0 (10 * a' + b) ∧ g = gxN w l0 (10 * a' + b)
          · obtain ⟨rfl, rfl⟩ := z
            rw [up2_s, Mj_new hD.1 (by omega) (hyes w hD)]
            have : mtB w l0 (fxN w l0 (10 * a' + b)) (gxN w l0 (10 * a' + b)) (10 * a' + b) = true := by
              unfold mtB
              simp [hyes w hD]
            rw [this]
            simp
          · rw [up2_j (by omega), m2 w hD f g hf hg]
            have : mtB w l0 f g (10 * a' + b) = false := by
              unfold mtB
              rw [hyes w hD]
              simp only [Bool.true_and]
              cases q1 : decide (fxN w l0 (10 * a' + b) = f) <;> cases q2 : decide (gxN w l0 (10 * a' + b) = g)
              · rfl
              · rfl
              · rfl
              · simp only [decide_eq_true_eq] at q1 q2
                exact absurd ⟨q1.symm, q2.symm⟩ z
            rw [this]
            simp
        · have y1 : ¬ nI (fxN w l0 (10 * a' + b)) < 0 := nI_pos (by omega)
          have y2 : ¬ nI 5 ≤ nI (fxN w l0 (10 * a' + b)) := nI_ge x1 (by decide)
          have y3 : ¬ nI (gxN w l0 (10 * a' + b)) < 0 := nI_pos (by omega)
          have y4 : ¬ nI 5 ≤ nI (gxN w l0 (10 * a' + b)) := nI_ge x2 (by decide)
          rintro (q | q | q | q)
          · exact y1 q
          · exact y2 q
          · exact y3 q
          · exact y4 q
      · exact hmu
