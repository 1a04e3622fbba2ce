/-! Joint.exchangeNext -/
theorem i32_2 {x m m' : Int32} (h : m' = -m) : x + 2 * m = x - 2 * m' := by
  subst h
  grind
theorem i32_ng (a b : Int32) : a - b = -(b - a) := by grind
theorem i32_g1 (x y a b : Int32) (h : b = -a) : (y + b) - (x + a) = (y - x) - 2 * a := by
  subst h
  grind
noncomputable def mrX (w : Nat → Int32) (l u v i j : Nat) : Int32 := Mx w l i u * Mx w l j v - Mx w l i v * Mx w l j u
theorem mrX_n (w : Nat → Int32) (l u v i j : Nat) : mrX w l u v j i = -(mrX w l u v i j) := by
  unfold mrX
  grind
theorem cTt_sw (w : Nat → Int32) (q : Int32) (kl ks : Nat → Int32) (l : Nat) (pre post : List Nat) (u v i j : Nat) : cTt w q kl ks l (pre ++ v :: u :: post) i j = cTt w q kl ks l (pre ++ u :: v :: post) i j + mrX w l u v i j := by
  unfold cTt mrX
  rw [pS_swap, Int32.add_assoc]
def exN0 (I A : HI) (l x : Int32) : Prop := DrOK (A 2) A ∧ ∃ l', l' < 10 ∧ l = nI l' ∧ LnM (A 2) A l' 100 ∧ ∃ u v, u < 5 ∧ v < 5 ∧ x = nI (5 * u + v)
def exN (I A : HI) (l x : Int32) (I' A' : HI) : Prop := offI [(68, 5)] I I' ∧ offA [70] A A' ∧ ∀ q kl ks pre post u v, u < 5 → v < 5 → x = nI (5 * u + v) → JnOK (A 2) q kl ks l.toNatClampNeg (pre ++ u :: v :: post) I A → JnOK (A 2) q kl ks l.toNatClampNeg (pre ++ v :: u :: post) I' A'
set_option maxHeartbeats 8000000 in
theorem c_X3_exchangeNext (l : Launch) (D : va_G) (ads : AD) (I A : HI) (a1 a2 : Int32) (hp : exN0 I A a1 a2) : Ct l yX3_exchangeNext cX3_exchangeNext 9 none 2 45 D ads shp [.inr (some 68), .inl a1, .inl a2] I A (qV (exN I A a1 a2)) := by
  obtain ⟨hD, k, hk, rfl, hL, u, v, hu, hv, rfl⟩ := hp
  obtain ⟨c1, c2⟩ := cnt_n hD (show k < 11 by omega)
  generalize hn : (itL (A 2) k).length = n at c1 c2
  have e5 : nI (5 * u + v) / 5 = nI u := by
    rw [show (5 : Int32) = nI 5 from rfl, pk_div (by omega) (by decide) (by decide)]
    congr 1
    omega
  have e6 : nI (5 * u + v) - nI (5 * u + v) / 5 * 5 = nI v := by
    rw [show (5 : Int32) = nI 5 from rfl, pk_rem (by omega) (by decide) (by decide)]
    congr 1
    omega
  generalize hM : mrX (A 2) k u v = M
  have hMn : ∀ a b, M a b = -(M b a) := by
    intro a b
    rw [← hM]
    exact mrX_n _ _ _ _ _ _
  refine k_X3_exchangeNext l D ads I A (nI k) (nI (5 * u + v)) _
    (fun x I' A' => ∃ i X, i ≤ n ∧ x = nI i ∧ I' = up2 I 68 5 X ∧ X + pS M (List.range' i (n - i)) = I 68 5 + pS M (List.range' 0 (n - 0)) ∧ offA [70] A A' ∧ ∀ a b, a < n → b < n → a ≠ b → A' 70 (5 * a + b) = if a < i ∨ b < i then A 70 (5 * a + b) - 2 * M a b else A 70 (5 * a + b))
    (fun x _ _ => 10 - x.toNatClampNeg)
    (fun y _ _ x I' A' => ∃ i j X, i < n ∧ i < j ∧ j ≤ n ∧ y = nI i ∧ x = nI j ∧ I' = up2 I 68 5 X ∧ X + (sL (fun y => M i y) (List.range' j (n - j)) + pS M (List.range' (i + 1) (n - (i + 1)))) = I 68 5 + pS M (List.range' 0 (n - 0)) ∧ offA [70] A A' ∧ ∀ a b, a < n → b < n → a ≠ b → A' 70 (5 * a + b) = if a < i ∨ b < i ∨ (a = i ∧ b < j) ∨ (b = i ∧ a < j) then A 70 (5 * a + b) - 2 * M a b else A 70 (5 * a + b))
    (fun _ _ _ x _ _ => 10 - x.toNatClampNeg) ⟨vp_in_nI (by omega) (by decide), ⟨0, I 68 5, Nat.zero_le _, rfl, (up2_same rfl).symm, rfl, offA.rf, fun a b _ _ _ => by rw [if_neg (by omega)]⟩, ?_⟩
  rintro x I1 A1 ⟨i, X, hi, rfl, rfl, hX, o1, g1⟩
  rw [cl_n (show k < 2 ^ 31 by omega), c1]
  refine ⟨fun h => ?_, fun h => ?_⟩
  · have e := cn_eq rfl hi (by omega) h
    subst e
    refine qV_i ⟨fun p q hpq => ?_, o1, fun q kl ks pre post u' v' hu' hv' euv hJ => ?_⟩
    · unfold up2
      rw [if_neg (fun e => hpq (by rw [e.1, e.2]; decide))]
    · have euv := (nI_eq (by omega) (by omega)).mp euv
      have : u' = u := by omega
      subst this
      have : v' = v := by omega
      subst this
      rw [cl_n (show k < 2 ^ 31 by omega)] at hJ ⊢
      unfold JnOK at hJ ⊢
      rw [hn] at hJ ⊢
      obtain ⟨j1, j2⟩ := hJ
      rw [rg_0] at hX
      have hX : X + 0 = I 68 5 + pS M (List.range' 0 (i - 0)) := hX
      rw [Int32.add_zero] at hX
      have hc : ∀ a b, cTt (A 2) q kl ks k (pre ++ v' :: u' :: post) a b = cTt (A 2) q kl ks k (pre ++ u' :: v' :: post) a b + M a b := by
        intro a b
        rw [← hM]
        exact cTt_sw _ _ _ _ _ _ _ _ _ _ _
      refine ⟨?_, fun a b ha hb hab => ?_⟩
      · rw [up2_s, hX, j1, ← List.range_eq_range', Nat.sub_zero, ← pS_add]
        exact pS_cong (fun a b _ _ => (hc a b).symm)
      · rw [g1 a b ha hb hab, if_pos (Or.inl ha), j2 a b ha hb hab, hc, hc]
        exact (i32_g1 _ _ _ _ (hMn b a)).symm
  · have hi2 := cn_lt rfl hi (by omega) h
    refine ⟨⟨i, i + 1, X, hi2, by omega, hi2, rfl, nI_1 i, rfl, ?_, o1, fun a b ha hb hab => ?_⟩, ?_⟩
    · rw [← hX, rg_s hi2]
      rfl
    · rw [g1 a b ha hb hab]
      by_cases z : a < i ∨ b < i
      · rw [if_pos z, if_pos (by omega)]
      · rw [if_neg z, if_neg (by omega)]
    rintro x I2 A2 ⟨i', j, X2, hi', hij, hj, ei, rfl, rfl, hX2, o2, g2⟩
    have ei : i' = i := ((nI_eq (by omega) (by omega)).mp ei).symm
    subst ei
    refine ⟨fun h => ?_, fun h => ?_⟩
    · have e := cn_eq rfl hj (by omega) h
      subst e
      refine ⟨⟨i' + 1, X2, hi2, nI_1 i', rfl, ?_, o2, fun a b ha hb hab => ?_⟩, cn_mu (by omega) (by decide)⟩
      · rw [← hX2, rg_0, sL, Int32.zero_add]
      · rw [g2 a b ha hb hab]
        by_cases z : a < i' + 1 ∨ b < i' + 1
        · rw [if_pos z, if_pos (by omega)]
        · rw [if_neg z, if_neg (by omega)]
    · have hj2 := cn_lt rfl hj (by omega) h
      rw [e6, e5, ix_5, ix_5, ix_5, ix_5, ix_5, ix_5, cl_n (show 5 * i' + u < 2 ^ 31 by omega), cl_n (show 5 * i' + v < 2 ^ 31 by omega), cl_n (show 5 * j + u < 2 ^ 31 by omega), cl_n (show 5 * j + v < 2 ^ 31 by omega), cl_n (show 5 * i' + j < 2 ^ 31 by omega), cl_n (show 5 * j + i' < 2 ^ 31 by omega), o2 69 (by decide), hL i' u (by omega) hu, hL i' v (by omega) hv, hL j u (by omega) hu, hL j v (by omega) hv]
      have hm : Mj (A 2) k i' u 100 * Mj (A 2) k j v 100 - Mj (A 2) k i' v 100 * Mj (A 2) k j u 100 = M i' j := by
        rw [← hM]
        rfl
      rw [hm, up2_s, up2_2, up2_j (show 5 * j + i' ≠ 5 * i' + j by omega)]
      have vi : ∀ a b, a < 5 → b < 5 → vp_in (nI (5 * a + b)) 25 := fun a b ha hb => vp_in_nI (by omega) (by decide)
      refine ⟨⟨vi _ _ (by omega) hu, vi _ _ (by omega) hv⟩, ⟨vi _ _ (by omega) hv, vi _ _ (by omega) hu⟩, vi _ _ (by omega) (by omega), vi _ _ (by omega) (by omega), vi _ _ (by omega) (by omega), vi _ _ (by omega) (by omega), ⟨i', j + 1, X2 + M i' j, hi2, by omega, hj2, rfl, nI_1 j, rfl, ?_, (o2.up (by decide)).up (by decide), fun a b ha hb hab => ?_⟩, cn_mu (by omega) (by decide)⟩
      · rw [← hX2, rg_s hj2, sL, Int32.add_assoc, Int32.add_assoc]
      · by_cases z1 : a = j ∧ b = i'
        · obtain ⟨rfl, rfl⟩ := z1
          rw [up2_s, if_pos (by omega), g2 a b ha hb hab, if_neg (by omega)]
          exact i32_2 (hMn a b)
        · by_cases z2 : a = i' ∧ b = j
          · obtain ⟨rfl, rfl⟩ := z2
            rw [up2_j (by omega), up2_s, if_pos (by omega), g2 a b ha hb hab, if_neg (by omega)]
          · rw [up2_j (by omega), up2_j (by omega), g2 a b ha hb hab]
            by_cases z : a < i' ∨ b < i' ∨ (a = i' ∧ b < j) ∨ (b = i' ∧ a < j)
            · rw [if_pos z, if_pos (by omega)]
            · rw [if_neg z, if_neg (by omega)]
