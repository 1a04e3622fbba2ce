/-! Search.countCrosses, countParts -/
theorem pS_map (c : Nat → Nat → Int32) (g : Nat → Nat) : ∀ L, pS c (L.map g) = pS (fun a b => c (g a) (g b)) L
  | [] => rfl
  | x :: r => by rw [List.map_cons, pS, pS, sL_map, pS_map c g r]
noncomputable def ccX (w : Nat → Int32) (ch : Nat → Nat) (l i j u v : Nat) : Int32 := Mx w l (xq (nIt w l) (ch l) i) (xq (nIt w (l + 1)) (ch (l + 1)) v) * Mx w l (xq (nIt w l) (ch l) j) (xq (nIt w (l + 1)) (ch (l + 1)) u)
noncomputable def ccY (w : Nat → Int32) (ch : Nat → Nat) (l i j u v : Nat) : Int32 := if ccX w ch l i j u v ≤ 0 then 0 else 1
theorem ccX_sum {w : Nat → Int32} {ch : Nat → Nat} {l : Nat} (hD : Dw w) (hk : ch l < facN (nIt w l)) (hm : ch (l + 1) < facN (nIt w (l + 1))) : pS (fun i j => pS (ccX w ch l i j) (List.range (nIt w (l + 1)))) (List.range (nIt w l)) = nI (cN w l (ch l) (ch (l + 1))) := by
  have h := pS_cNg hD.1 (g := w) (gN := wN w) (fun x hx => (hD.1.eq (kT_mem hx).1).1) (hD.2 l) (hD.2 (l + 1)) hk hm
  simp only [ordK, pS_map] at h
  unfold cN
  rw [← h]
  refine pS_cong (fun i j _ _ => pS_cong (fun u v _ _ => ?_))
  unfold ccX
  rw [Mx_g, Mx_g]
theorem Mg_01 {w : Nat → Int32} (hF : FO w) (l a v : Nat) : ∃ c : Nat, c ≤ 99 ∧ Mx w l a v = nI c ∧ Mg w (fun _ => 1) l a v = if 0 < c then 1 else 0 := by
  rw [Mx_g]
  have hnd : (kT w 100 l).Nodup := List.Pairwise.filter _ List.nodup_range
  by_cases h : ∃ j, j ∈ kT w 100 l ∧ fxN w l j = a ∧ gxN w l j = v
  · obtain ⟨j0, h0, h1, h2⟩ := h
    have key : ∀ g : Nat → Int32, Mg w g l a v = g j0 := by
      intro g
      unfold Mg
      rw [sL_cong (g := fun j => if j = j0 then g j0 else 0) (fun j hj => ?_), sL_d j0 _ hnd, if_pos (List.contains_iff_mem.mpr h0)]
      by_cases e : j = j0
      · subst e
        rw [if_pos ⟨h1, h2⟩, if_pos rfl]
      · rw [if_neg e, if_neg]
        rintro ⟨e1, e2⟩
        exact e (lk_inj hF (kT_mem hj).1 (kT_mem h0).1 (kT_mem hj).2 (kT_mem h0).2 (e1.trans h1.symm) (e2.trans h2.symm))
    obtain ⟨k1, k2⟩ := kT_mem h0
    have hs := (lkB_is k2).1
    unfold stB at hs
    simp only [Bool.and_eq_true, decide_eq_true_eq] at hs
    have hp := (hF.pos k1).mp hs.1
    refine ⟨wN w j0, (hF.eq k1).2, ?_, ?_⟩
    · rw [key]
      exact (hF.eq k1).1
    · rw [key, if_pos hp]
  · have key : ∀ g : Nat → Int32, Mg w g l a v = 0 := by
      intro g
      unfold Mg
      refine sL_z (fun j hj => if_neg (fun z => h ⟨j, hj, z⟩))
    exact ⟨0, by decide, by rw [key]; rfl, by rw [key]; rfl⟩
theorem ccY_is {w : Nat → Int32} (hF : FO w) (ch : Nat → Nat) (l i j u v : Nat) : ccY w ch l i j u v = Mg w (fun _ => 1) l (xq (nIt w l) (ch l) i) (xq (nIt w (l + 1)) (ch (l + 1)) v) * Mg w (fun _ => 1) l (xq (nIt w l) (ch l) j) (xq (nIt w (l + 1)) (ch (l + 1)) u) := by
  unfold ccY ccX
  obtain ⟨c, c1, c2, c3⟩ := Mg_01 hF l (xq (nIt w l) (ch l) i) (xq (nIt w (l + 1)) (ch (l + 1)) v)
  obtain ⟨d, d1, d2, d3⟩ := Mg_01 hF l (xq (nIt w l) (ch l) j) (xq (nIt w (l + 1)) (ch (l + 1)) u)
  rw [c2, c3, d2, d3, pk_mul]
  have hb : c * d ≤ 99 * 99 := Nat.mul_le_mul c1 d1
  rcases Nat.eq_zero_or_pos c with z | z
  · subst z
    rw [Nat.zero_mul, if_pos (show nI 0 ≤ 0 by decide), if_neg (Nat.lt_irrefl 0), Int32.zero_mul]
  · rcases Nat.eq_zero_or_pos d with z2 | z2
    · subst z2
      rw [Nat.mul_zero, if_pos z]
      rfl
    · have hp := Nat.mul_pos z z2
      rw [if_pos z, if_pos z2, if_neg (nI_nle hp (by omega))]
      rfl
theorem ccY_sum {w : Nat → Int32} {ch : Nat → Nat} {l : Nat} (hD : Dw w) (hk : ch l < facN (nIt w l)) (hm : ch (l + 1) < facN (nIt w (l + 1))) : pS (fun i j => pS (ccY w ch l i j) (List.range (nIt w (l + 1)))) (List.range (nIt w l)) = nI (xN w l (ch l) (ch (l + 1))) := by
  have h := pS_cNg hD.1 (g := fun _ => 1) (gN := fun _ => 1) (fun x hx => rfl) (hD.2 l) (hD.2 (l + 1)) hk hm
  simp only [ordK, pS_map] at h
  unfold xN
  rw [← h]
  exact pS_cong (fun i j _ _ => pS_cong (fun u v _ _ => ccY_is hD.1 ch l i j u v))
theorem mvX_sum {w kl ks : Nat → Int32} {ch : Nat → Nat} {l : Nat} (hK : KpOK kl ks) (hn : nIt w l < 6) (hk : ch l < facN (nIt w l)) : pS (fun i j => mvI kl ks (nI (shN w ch l i)) (nI (shN w ch l j))) (List.range (nIt w l)) = nI (mN w kl ks l (ch l)) := by
  have h := pS_mN hK hn hk
  simp only [ordK, pS_map] at h
  exact h
def cCrP (ch : Nat → Nat) (I A : HI) (l i j : Nat) : Prop := SrS (A 2) ch I A ∧ l < nLay (A 2) ∧ i < nIt (A 2) l ∧ j < nIt (A 2) l ∧ LnM (A 2) A l 100
def cCr0 (ch : Nat → Nat) (I A : HI) (a1 a2 a3 : Int32) : Prop := ∃ l i j, a1 = nI l ∧ a2 = nI i ∧ a3 = nI j ∧ cCrP ch I A l i j
def cCr (ch : Nat → Nat) (I A : HI) (a1 a2 a3 : Int32) (I' A' : HI) : Prop := A' = A ∧ I' = up2 (up2 I 29 11 (I 29 11 + pS (ccX (A 2) ch a1.toNatClampNeg a2.toNatClampNeg a3.toNatClampNeg) (List.range (nIt (A 2) (a1.toNatClampNeg + 1))))) 29 12 (I 29 12 + pS (ccY (A 2) ch a1.toNatClampNeg a2.toNatClampNeg a3.toNatClampNeg) (List.range (nIt (A 2) (a1.toNatClampNeg + 1))))
set_option maxHeartbeats 16000000 in
theorem c_X6_countCrosses (ch : Nat → Nat) (l : Launch) (D : va_G) (ads : AD) (I A : HI) (a1 a2 a3 : Int32) (hp : cCr0 ch I A a1 a2 a3) : Ct l yX6_countCrosses cX6_countCrosses 12 none 2 45 D ads shp [.inr (some 29), .inl a1, .inl a2, .inl a3] I A (qV (cCr ch I A a1 a2 a3)) := by
  obtain ⟨k, i, j, rfl, rfl, rfl, hS, hk, hi, hj, hL⟩ := hp
  have hk10 : k < 10 := Nat.lt_of_lt_of_le hk (nLay_le _)
  obtain ⟨hn, c1, -, d⟩ := hS.th (Nat.le_of_lt hk)
  obtain ⟨hn', c1', -, d'⟩ := hS.th (show k + 1 ≤ nLay (A 2) by omega)
  have hT := chT_lt hn
  have hT' := chT_lt hn'
  obtain ⟨i1, i2, i3, i4⟩ := d i hi
  obtain ⟨j1, j2, j3, j4⟩ := d j hj
  have clk : (nI k).toNatClampNeg = k := cl_n (by omega)
  have ek1 : (nI k + 1).toNatClampNeg = k + 1 := by rw [nI_1, cl_n (by omega)]
  have v11 : vp_in (nI k) 11 := vp_in_nI (by omega) (by decide)
  have v12 : vp_in (nI k + 1) 11 := by rw [nI_1]; exact vp_in_nI (by omega) (by decide)
  obtain ⟨cX, hcX⟩ : ∃ cX, cX = ccX (A 2) ch k i j := ⟨_, rfl⟩
  obtain ⟨cY, hcY⟩ : ∃ cY, cY = ccY (A 2) ch k i j := ⟨_, rfl⟩
  have hXY : ∀ u v, cY u v = if cX u v ≤ 0 then 0 else 1 := by
    intro u v
    rw [hcX, hcY]
    rfl
  refine k_X6_countCrosses l D ads I A (nI k) (nI i) (nI j) _
    (fun x I' => ∃ u X Y, u ≤ nIt (A 2) (k + 1) ∧ x = nI u ∧ I' = up2 (up2 I 29 11 X) 29 12 Y ∧ X + pS cX (List.range' u (nIt (A 2) (k + 1) - u)) = I 29 11 + pS cX (List.range' 0 (nIt (A 2) (k + 1) - 0)) ∧ Y + pS cY (List.range' u (nIt (A 2) (k + 1) - u)) = I 29 12 + pS cY (List.range' 0 (nIt (A 2) (k + 1) - 0)))
    (fun x _ => 10 - x.toNatClampNeg)
    (fun y _ x I' => ∃ u v X Y, u < nIt (A 2) (k + 1) ∧ u < v ∧ v ≤ nIt (A 2) (k + 1) ∧ y = nI u ∧ x = nI v ∧ I' = up2 (up2 I 29 11 X) 29 12 Y ∧ X + (sL (fun z => cX u z) (List.range' v (nIt (A 2) (k + 1) - v)) + pS cX (List.range' (u + 1) (nIt (A 2) (k + 1) - (u + 1)))) = I 29 11 + pS cX (List.range' 0 (nIt (A 2) (k + 1) - 0)) ∧ Y + (sL (fun z => cY u z) (List.range' v (nIt (A 2) (k + 1) - v)) + pS cY (List.range' (u + 1) (nIt (A 2) (k + 1) - (u + 1)))) = I 29 12 + pS cY (List.range' 0 (nIt (A 2) (k + 1) - 0)))
    (fun _ _ x _ => 10 - x.toNatClampNeg) ?_
  simp only [clk, ek1, c1, c1', mn5 _ hn, mn5 _ hn', i2, j2, cl_n (show piR (nIt (A 2) k) (ch k) * nIt (A 2) k + i < 2 ^ 31 by omega), cl_n (show piR (nIt (A 2) k) (ch k) * nIt (A 2) k + j < 2 ^ 31 by omega), i3, j3]
  refine ⟨⟨v11, nI_pos' (by omega)⟩, v11, vp_in_nI i1 hT, ⟨v11, nI_pos' (by omega)⟩, v11, vp_in_nI j1 hT, ⟨v12, nI_pos' (by omega)⟩, ⟨0, I 29 11, I 29 12, Nat.zero_le _, rfl, by rw [up2_same rfl, up2_same rfl], rfl, rfl⟩, ?_⟩
  rintro x I1 ⟨u, X, Y, hu, rfl, rfl, hX, hY⟩
  refine ⟨v12, fun h => ?_, fun h => ?_⟩
  · have e := cn_eq rfl hu (by omega) h
    subst e
    refine qV_i ⟨rfl, ?_⟩
    rw [rg_0] at hX hY
    have hX : X + 0 = _ := hX
    have hY : Y + 0 = _ := hY
    rw [Int32.add_zero] at hX hY
    rw [hX, hY, clk, cl_n (show i < 2 ^ 31 by omega), cl_n (show j < 2 ^ 31 by omega), hcX, hcY, List.range_eq_range', Nat.sub_zero]
  · have hu2 := cn_lt rfl hu (by omega) h
    refine ⟨⟨u, u + 1, X, Y, hu2, by omega, hu2, rfl, nI_1 u, rfl, ?_, ?_⟩, ?_⟩
    · rw [← hX, rg_s hu2]
      rfl
    · rw [← hY, rg_s hu2]
      rfl
    rintro x I2 ⟨u', v, X2, Y2, hu', huv, hv, eu, rfl, rfl, hX2, hY2⟩
    have eu : u' = u := ((nI_eq (by omega) (by omega)).mp eu).symm
    subst eu
    refine ⟨v12, fun h => ?_, fun h => ?_⟩
    · have e := cn_eq rfl hv (by omega) h
      subst e
      refine ⟨⟨u' + 1, X2, Y2, hu2, nI_1 u', rfl, ?_, ?_⟩, cn_mu (by omega) (by decide)⟩
      · rw [← hX2, rg_0, sL, Int32.zero_add]
      · rw [← hY2, rg_0, sL, Int32.zero_add]
    · have hv2 := cn_lt rfl hv (by omega) h
      obtain ⟨u1, u2, u3, u4⟩ := d' u' hu2
      obtain ⟨v1, v2, v3, v4⟩ := d' v hv2
      have eI : up2 (up2 I 29 11 X2) 29 12 Y2 (71 + 4 * nIt (A 2) (k + 1)) 0 = I (71 + 4 * nIt (A 2) (k + 1)) 0 := by
        rw [up2_k (by omega), up2_k (by omega)]
      have e5a : (nI (xq (nIt (A 2) k) (ch k) i) * 5 + nI (xq (nIt (A 2) (k + 1)) (ch (k + 1)) v)) = nI (5 * xq (nIt (A 2) k) (ch k) i + xq (nIt (A 2) (k + 1)) (ch (k + 1)) v) := ix_5 _ _
      have e5b : (nI (xq (nIt (A 2) k) (ch k) j) * 5 + nI (xq (nIt (A 2) (k + 1)) (ch (k + 1)) u')) = nI (5 * xq (nIt (A 2) k) (ch k) j + xq (nIt (A 2) (k + 1)) (ch (k + 1)) u') := ix_5 _ _
      have eM1 : A 69 (5 * xq (nIt (A 2) k) (ch k) i + xq (nIt (A 2) (k + 1)) (ch (k + 1)) v) = Mx (A 2) k (xq (nIt (A 2) k) (ch k) i) (xq (nIt (A 2) (k + 1)) (ch (k + 1)) v) := hL _ _ (by omega) (by omega)
      have eM2 : A 69 (5 * xq (nIt (A 2) k) (ch k) j + xq (nIt (A 2) (k + 1)) (ch (k + 1)) u') = Mx (A 2) k (xq (nIt (A 2) k) (ch k) j) (xq (nIt (A 2) (k + 1)) (ch (k + 1)) u') := hL _ _ (by omega) (by omega)
      have eP : Mx (A 2) k (xq (nIt (A 2) k) (ch k) i) (xq (nIt (A 2) (k + 1)) (ch (k + 1)) v) * Mx (A 2) k (xq (nIt (A 2) k) (ch k) j) (xq (nIt (A 2) (k + 1)) (ch (k + 1)) u') = cX u' v := by
        rw [hcX]
        rfl
      simp only [eI, u2, v2, cl_n (show piR (nIt (A 2) (k + 1)) (ch (k + 1)) * nIt (A 2) (k + 1) + u' < 2 ^ 31 by omega), cl_n (show piR (nIt (A 2) (k + 1)) (ch (k + 1)) * nIt (A 2) (k + 1) + v < 2 ^ 31 by omega), u3, v3, e5a, e5b, cl_n (show 5 * xq (nIt (A 2) k) (ch k) i + xq (nIt (A 2) (k + 1)) (ch (k + 1)) v < 2 ^ 31 by omega), cl_n (show 5 * xq (nIt (A 2) k) (ch k) j + xq (nIt (A 2) (k + 1)) (ch (k + 1)) u' < 2 ^ 31 by omega), eM1, eM2, eP]
      have r11 : up2 (up2 I 29 11 X2) 29 12 Y2 29 11 = X2 := by rw [up2_j (by decide), up2_s]
      have r12 : ∀ z, up2 (up2 (up2 I 29 11 X2) 29 12 Y2) 29 11 z 29 12 = Y2 := fun z => by rw [up2_j (by decide), up2_s]
      rw [r11, r12]
      have fin : ∀ y, y = cY u' v → (∃ u v_1 X Y, u < nIt (A 2) (k + 1) ∧ u < v_1 ∧ v_1 ≤ nIt (A 2) (k + 1) ∧ nI u' = nI u ∧ nI v + 1 = nI v_1 ∧ up2 (up2 (up2 (up2 I 29 11 X2) 29 12 Y2) 29 11 (X2 + cX u' v)) 29 12 (Y2 + y) = up2 (up2 I 29 11 X) 29 12 Y ∧ X + (sL (fun z => cX u z) (List.range' v_1 (nIt (A 2) (k + 1) - v_1)) + pS cX (List.range' (u + 1) (nIt (A 2) (k + 1) - (u + 1)))) = I 29 11 + pS cX (List.range' 0 (nIt (A 2) (k + 1) - 0)) ∧ Y + (sL (fun z => cY u z) (List.range' v_1 (nIt (A 2) (k + 1) - v_1)) + pS cY (List.range' (u + 1) (nIt (A 2) (k + 1) - (u + 1)))) = I 29 12 + pS cY (List.range' 0 (nIt (A 2) (k + 1) - 0))) := by
        rintro y rfl
        refine ⟨u', v + 1, X2 + cX u' v, Y2 + cY u' v, hu2, by omega, hv2, rfl, nI_1 v, up2_x (by decide), ?_, ?_⟩
        · rw [← hX2, rg_s hv2, sL, Int32.add_assoc, Int32.add_assoc]
        · rw [← hY2, rg_s hv2, sL, Int32.add_assoc, Int32.add_assoc]
      refine ⟨v12, vp_in_nI u1 hT', v12, vp_in_nI v1 hT', ⟨vp_in_nI (by omega) (by decide), vp_in_nI (by omega) (by decide)⟩, fun h2 => ⟨fin 0 ?_, cn_mu (by omega) (by decide)⟩, fun h2 => ⟨fin 1 ?_, cn_mu (by omega) (by decide)⟩⟩
      · rw [hXY, if_pos h2]
      · rw [hXY, if_neg h2]
theorem SrS.off {w : Nat → Int32} {ch : Nat → Nat} {I A I' A' : HI} {L : List (Nat × Nat)} {ks : List Nat} (h : SrS w ch I A) (hI : offI L I I') (hA : offA ks A A') (hL : ∀ q, q ∈ L → q.1 < 71) (hk : ∀ k, k ∈ ks → (k < 72 ∨ 95 ≤ k) ∧ k ≠ 67 ∧ k ≠ 11 ∧ k ≠ 12 ∧ ¬ (15 ≤ k ∧ k ≤ 25)) : SrS w ch I' A' := by
  obtain ⟨h1, h2, h3⟩ := h
  refine ⟨h1.off1 hA (fun k z => (hk k z).2.2), h2.off (fun n hn => ⟨hI _ _ (fun z => ?_), hI _ _ (fun z => ?_)⟩) (fun k k1 k2 => hA k (fun z => ?_)), fun l hl => ?_⟩
  · have := hL _ z
    simp only at this
    omega
  · have := hL _ z
    simp only at this
    omega
  · have := (hk k z).1
    omega
  · rw [hA 67 (fun z => (hk _ z).2.1 rfl)]
    exact h3 l hl
def cPa0 (ch : Nat → Nat) (I A : HI) (a1 : Int32) : Prop := SrS (A 2) ch I A ∧ KpOK (A 27) (A 28) ∧ a1 = nI (nLay (A 2))
def prI : List (Nat × Nat) := [(29, 11), (29, 12), (29, 13)]
def PrN (w kl ks : Nat → Int32) (ch : Nat → Nat) (m : Nat) (I : HI) : Prop := I 29 11 = nI (fb_sm (fun l => cN w l (ch l) (ch (l + 1))) m) ∧ I 29 12 = nI (fb_sm (fun l => xN w l (ch l) (ch (l + 1))) m) ∧ I 29 13 = nI (fb_sm (fun l => mN w kl ks l (ch l)) m)
def cPa (ch : Nat → Nat) (I A : HI) (a1 : Int32) (I' A' : HI) : Prop := offI prI I I' ∧ offA [69] A A' ∧ PrN (A 2) (A 27) (A 28) ch (nLay (A 2)) I'
set_option maxHeartbeats 16000000 in
theorem c_X6_countParts (ch : Nat → Nat) (l : Launch) (D : va_G) (ads : AD) (I A : HI) (a1 : Int32) (hp : cPa0 ch I A a1) : Ct l yX6_countParts cX6_countParts 5 none 3 76 D ads shp [.inr (some 29), .inl a1] I A (qV (cPa ch I A a1)) := by
  obtain ⟨hS, hK, rfl⟩ := hp
  have h10 := nLay_le (A 2)
  have hDw := hS.1.dw
  have hSo : ∀ {I' A' : HI}, offI prI I I' → offA [69] A A' → SrS (A 2) ch I' A' := fun p o => hS.off p o (by unfold prI; simp) (by simp)
  obtain ⟨P, hP⟩ : ∃ P : Nat → Nat → Nat → Int32, P = fun k i j => pS (ccX (A 2) ch k i j) (List.range (nIt (A 2) (k + 1))) := ⟨_, rfl⟩
  obtain ⟨R, hR⟩ : ∃ R : Nat → Nat → Nat → Int32, R = fun k i j => pS (ccY (A 2) ch k i j) (List.range (nIt (A 2) (k + 1))) := ⟨_, rfl⟩
  obtain ⟨M, hM⟩ : ∃ M : Nat → Nat → Nat → Int32, M = fun k i j => mvI (A 27) (A 28) (nI (shN (A 2) ch k i)) (nI (shN (A 2) ch k j)) := ⟨_, rfl⟩
  refine k_X6_countParts l D ads I A (nI (nLay (A 2))) _ (c_X3_gatherLinks l D ads) (c_X6_shownAt l D ads) (c_X6_countCrosses ch l D ads)
    (fun x I' A' => ∃ m, m ≤ nLay (A 2) ∧ x = nI m ∧ offI prI I I' ∧ offA [69] A A' ∧ PrN (A 2) (A 27) (A 28) ch m I')
    (fun x _ _ => 20 - x.toNatClampNeg)
    (fun y I0 _ _ _ x I' A' => ∃ k i, k < nLay (A 2) ∧ y = nI k ∧ i ≤ nIt (A 2) k ∧ x = nI i ∧ offI prI I I' ∧ offA [69] A A' ∧ LnM (A 2) A' k 100 ∧ I' 29 11 + pS (P k) (List.range' i (nIt (A 2) k - i)) = I0 29 11 + pS (P k) (List.range' 0 (nIt (A 2) k - 0)) ∧ I' 29 12 + pS (R k) (List.range' i (nIt (A 2) k - i)) = I0 29 12 + pS (R k) (List.range' 0 (nIt (A 2) k - 0)) ∧ I' 29 13 + pS (M k) (List.range' i (nIt (A 2) k - i)) = I0 29 13 + pS (M k) (List.range' 0 (nIt (A 2) k - 0)))
    (fun _ _ _ _ _ x _ _ => 20 - x.toNatClampNeg)
    (fun y I0 _ _ _ z _ _ x I' A' => ∃ k i j, k < nLay (A 2) ∧ y = nI k ∧ i < nIt (A 2) k ∧ z = nI i ∧ i < j ∧ j ≤ nIt (A 2) k ∧ x = nI j ∧ offI prI I I' ∧ offA [69] A A' ∧ LnM (A 2) A' k 100 ∧ I' 29 11 + (sL (fun z => P k i z) (List.range' j (nIt (A 2) k - j)) + pS (P k) (List.range' (i + 1) (nIt (A 2) k - (i + 1)))) = I0 29 11 + pS (P k) (List.range' 0 (nIt (A 2) k - 0)) ∧ I' 29 12 + (sL (fun z => R k i z) (List.range' j (nIt (A 2) k - j)) + pS (R k) (List.range' (i + 1) (nIt (A 2) k - (i + 1)))) = I0 29 12 + pS (R k) (List.range' 0 (nIt (A 2) k - 0)) ∧ I' 29 13 + (sL (fun z => M k i z) (List.range' j (nIt (A 2) k - j)) + pS (M k) (List.range' (i + 1) (nIt (A 2) k - (i + 1)))) = I0 29 13 + pS (M k) (List.range' 0 (nIt (A 2) k - 0)))
    (fun _ _ _ _ _ _ _ _ x _ _ => 20 - x.toNatClampNeg) ⟨⟨0, Nat.zero_le _, rfl, ((offI.rf.up (by decide)).up (by decide)).up (by decide), offA.rf, ?_⟩, ?_⟩
  · refine ⟨?_, ?_, ?_⟩
    · rw [up2_j (by decide), up2_j (by decide), up2_s]
      rfl
    · rw [up2_j (by decide), up2_s]
      rfl
    · rw [up2_s]
      rfl
  rintro x I1 A1 ⟨m, hm, rfl, p1, o1, n1⟩
  refine ⟨fun h => ?_, fun h => ?_⟩
  · have e := cn_eq rfl hm (by omega) h
    subst e
    exact qV_i ⟨p1, o1, n1⟩
  have hm2 := cn_lt rfl hm (by omega) h
  have clm : (nI m).toNatClampNeg = m := cl_n (by omega)
  have v11 : vp_in (nI m) 11 := vp_in_nI (by omega) (by decide)
  have hn := hDw.2 m
  have hS1 := hSo p1 o1
  refine ⟨⟨A 2, m, hS1.1, by omega, rfl⟩, ?_⟩
  rintro I2 A2 ⟨rfl, o2, m2⟩
  have o12 : offA [69] A A2 := o1.tr o2
  refine ⟨⟨m, 0, hm2, rfl, Nat.zero_le _, rfl, p1, o12, m2 (A 2) m hS1.1 (by omega) rfl, rfl, rfl, rfl⟩, ?_⟩
  rintro x I3 A3 ⟨k, i, hk, ek, hi, rfl, p3, o3, l3, q1, q2, q3⟩
  have ek : k = m := ((nI_eq (by omega) (by omega)).mp ek).symm
  subst ek
  have hc3 : ∀ {A' : HI}, offA [69] A A' → A' 25 k = nI (nIt (A 2) k) := fun o => by
    rw [o 25 (by decide)]
    exact (cnt_n hS.1 (by omega)).1
  rw [clm, hc3 o3]
  refine ⟨v11, fun h => ?_, fun h => ?_⟩
  · have e := cn_eq rfl hi (by omega) h
    subst e
    have s1 := (hS.2.2 k (by omega)).1
    have s2 := (hS.2.2 (k + 1) (by omega)).1
    refine ⟨⟨k + 1, hm2, nI_1 k, p3, o3, ?_, ?_, ?_⟩, by rw [nI_1, cl_n (by omega)]; omega⟩
    · rw [rg_0] at q1
      have q1 : I3 29 11 + 0 = _ := q1
      rw [Int32.add_zero, Nat.sub_zero, ← List.range_eq_range', n1.1, hP, ccX_sum hDw s1 s2, nI_add] at q1
      rw [q1]
      rfl
    · rw [rg_0] at q2
      have q2 : I3 29 12 + 0 = _ := q2
      rw [Int32.add_zero, Nat.sub_zero, ← List.range_eq_range', n1.2.1, hR, ccY_sum hDw s1 s2, nI_add] at q2
      rw [q2]
      rfl
    · rw [rg_0] at q3
      have q3 : I3 29 13 + 0 = _ := q3
      rw [Int32.add_zero, Nat.sub_zero, ← List.range_eq_range', n1.2.2, hM, mvX_sum hK hn s1, nI_add] at q3
      rw [q3]
      rfl
  have hi2 := cn_lt rfl hi (by omega) h
  refine ⟨⟨k, i, i + 1, hm2, rfl, hi2, rfl, by omega, hi2, nI_1 i, p3, o3, l3, ?_, ?_, ?_⟩, ?_⟩
  · rw [← q1, rg_s hi2]
    rfl
  · rw [← q2, rg_s hi2]
    rfl
  · rw [← q3, rg_s hi2]
    rfl
  rintro x I4 A4 ⟨k', i', j, hk', ek', hi', ei', hij, hj, rfl, p4, o4, l4, t1, t2, t3⟩
  have ek' : k' = k := ((nI_eq (by omega) (by omega)).mp ek').symm
  subst ek'
  have ei' : i' = i := ((nI_eq (by omega) (by omega)).mp ei').symm
  subst ei'
  rw [hc3 o4]
  refine ⟨v11, fun h => ?_, fun h => ?_⟩
  · have e := cn_eq rfl hj (by omega) h
    subst e
    refine ⟨⟨k', i' + 1, hm2, rfl, hi2, nI_1 i', p4, o4, l4, ?_, ?_, ?_⟩, cn_mu (by omega) (by decide)⟩
    · rw [← t1, rg_0, sL, Int32.zero_add]
    · rw [← t2, rg_0, sL, Int32.zero_add]
    · rw [← t3, rg_0, sL, Int32.zero_add]
  have hj2 := cn_lt rfl hj (by omega) h
  have hS4 := hSo p4 o4
  have e2 : A4 2 = A 2 := o4 2 (by decide)
  refine ⟨⟨A 2, ch, k', hS4, hm2, rfl⟩, ⟨A 2, ch, k', hS4, hm2, rfl⟩, ?_⟩
  rw [shO_n hS4 hm2 hi2, shO_n hS4 hm2 hj2, o4 27 (by decide), o4 28 (by decide)]
  have p5 : ∀ z, offI prI I (up2 I4 29 13 z) := fun z => p4.up (by decide)
  refine ⟨⟨k', i', j, rfl, rfl, rfl, by rw [e2]; exact hSo (p5 _) o4, by rw [e2]; exact hm2, by rw [e2]; exact hi2, by rw [e2]; exact hj2, by rw [e2]; exact l4⟩, ?_⟩
  rintro I9 A9 ⟨rfl, h9⟩
  rw [e2, clm, cl_n (show i' < 2 ^ 31 by omega), cl_n (show j < 2 ^ 31 by omega)] at h9
  have hPi : pS (ccX (A 2) ch k' i' j) (List.range (nIt (A 2) (k' + 1))) = P k' i' j := by rw [hP]
  have hRi : pS (ccY (A 2) ch k' i' j) (List.range (nIt (A 2) (k' + 1))) = R k' i' j := by rw [hR]
  have hMi : mvI (A 27) (A 28) (nI (shN (A 2) ch k' i')) (nI (shN (A 2) ch k' j)) = M k' i' j := by rw [hM]
  rw [hPi, hRi, hMi] at h9
  refine ⟨⟨k', i', j + 1, hm2, rfl, hi2, rfl, by omega, hj2, nI_1 j, ?_, o4, l4, ?_, ?_, ?_⟩, cn_mu (by omega) (by decide)⟩
  · rw [h9]
    exact ((p5 _).up (by decide)).up (by decide)
  · rw [h9, up2_j (by decide), up2_s, up2_j (by decide), ← t1, rg_s hj2, sL, Int32.add_assoc, Int32.add_assoc]
  · rw [h9, up2_s, up2_j (by decide), ← t2, rg_s hj2, sL, Int32.add_assoc, Int32.add_assoc]
  · rw [h9, up2_j (by decide), up2_j (by decide), up2_s, ← t3, rg_s hj2, sL, Int32.add_assoc, Int32.add_assoc]
