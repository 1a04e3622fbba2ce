/-! Joint.begin -/
noncomputable def cTt (w : Nat → Int32) (q : Int32) (kl ks : Nat → Int32) (l : Nat) (τ : List Nat) (i j : Nat) : Int32 := q * mvI kl ks (nI ((itL w l).getD i 0)) (nI ((itL w l).getD j 0)) + pS (fun u v => Mx w l i v * Mx w l j u) τ
/-- what Joint holds while the next layer stands in the order τ -/
def JnOK (w : Nat → Int32) (q : Int32) (kl ks : Nat → Int32) (l : Nat) (τ : List Nat) (I A : HI) : Prop := I 68 5 = pS (cTt w q kl ks l τ) (List.range (itL w l).length) ∧ ∀ a b, a < (itL w l).length → b < (itL w l).length → a ≠ b → A 70 (5 * a + b) = cTt w q kl ks l τ b a - cTt w q kl ks l τ a b
theorem itL_out {w : Nat → Int32} (hF : FO w) {l : Nat} (h : nLay w ≤ l) : itL w l = [] := by
  apply List.eq_nil_iff_forall_not_mem.mpr
  intro x hx
  unfold itL itT pT bT at hx
  rw [List.mem_append] at hx
  rcases hx with hx | hx
  · obtain ⟨h1, h2⟩ := List.mem_filter.mp hx
    have h1 := List.mem_range.mp h1
    unfold plB at h2
    simp only [Bool.and_eq_true, decide_eq_true_eq] at h2
    have := lay_lt h1 h2.1
    omega
  · obtain ⟨t, ht, -⟩ := List.mem_map.mp hx
    obtain ⟨h1, h2⟩ := List.mem_filter.mp ht
    have h1 := List.mem_range.mp h1
    unfold bdB at h2
    simp only [Bool.and_eq_true, decide_eq_true_eq] at h2
    obtain ⟨-, u2, -⟩ := st_lay hF h1 h2.1
    have := lay_lt (w := w) (show t % 10 < 10 by omega) u2
    omega
theorem cnt_n {w : Nat → Int32} {A : HI} (h : DrOK w A) {l : Nat} (hl : l < 11) : A 25 l = nI (itL w l).length ∧ (itL w l).length ≤ 5 := by
  rcases Nat.lt_or_ge l 10 with z | z
  · exact ⟨(h.2.2.1.2 l z).1, h.2.2.2 l z⟩
  · have e : l = 10 := by omega
    subst e
    rw [itL_out h.1 (nLay_le w)]
    exact ⟨h.2.2.1.1, Nat.zero_le _⟩
theorem rg_s {i n : Nat} (h : i < n) : List.range' i (n - i) = i :: List.range' (i + 1) (n - (i + 1)) := by
  rw [show n - i = (n - (i + 1)) + 1 by omega, List.range'_succ]
theorem rg_0 (n : Nat) : List.range' n (n - n) = [] := by
  rw [Nat.sub_self]
  rfl
def beg0 (I A : HI) (l q : Int32) : Prop := DrOK (A 2) A ∧ ∃ l', l' < 10 ∧ l = nI l' ∧ LnM (A 2) A l' 100
def beg (I A : HI) (l q : Int32) (I' A' : HI) : Prop := offI [(68, 5)] I I' ∧ offA [70] A A' ∧ JnOK (A 2) q (A 27) (A 28) l.toNatClampNeg (List.range (itL (A 2) (l.toNatClampNeg + 1)).length) I' A'
set_option maxHeartbeats 8000000 in
theorem c_X3_begin (l : Launch) (D : va_G) (ads : AD) (I A : HI) (a1 a2 : Int32) (hp : beg0 I A a1 a2) : Ct l yX3_begin cX3_begin 13 none 2 45 D ads shp [.inr (some 68), .inl a1, .inl a2] I A (qV (beg I A a1 a2)) := by
  obtain ⟨hD, k, hk, rfl, hL⟩ := hp
  obtain ⟨c1, c2⟩ := cnt_n hD (show k < 11 by omega)
  obtain ⟨c3, c4⟩ := cnt_n hD (show k + 1 < 11 by omega)
  have hnum := (hD.2.2.1.2 k hk).2
  generalize hn : (itL (A 2) k).length = n at c1 c2 hnum
  generalize hn' : (itL (A 2) (k + 1)).length = n' at c3 c4
  generalize hT : cTt (A 2) a2 (A 27) (A 28) k (List.range n') = cT
  let cx : Nat → Nat → Nat → Nat → Int32 := fun i j u v => Mx (A 2) k i v * Mx (A 2) k j u
  refine k_X3_begin l D ads I A (nI k) a2 _
    (fun x I' A' => ∃ i X, i ≤ n ∧ x = nI i ∧ I' = up2 I 68 5 X ∧ X + pS cT (List.range' i (n - i)) = pS cT (List.range' 0 (n - 0)) ∧ offA [70] A A' ∧ ∀ a b, a < n → b < n → a ≠ b → (a < i ∨ b < i) → A' 70 (5 * a + b) = cT b a - cT a b)
    (fun x _ _ => 10 - x.toNatClampNeg)
    (fun y _ _ x I' A' => ∃ i j X, i < n ∧ i < j ∧ j ≤ n ∧ y = nI i ∧ x = nI j ∧ I' = up2 I 68 5 X ∧ X + (sL (fun y => cT i y) (List.range' j (n - j)) + pS cT (List.range' (i + 1) (n - (i + 1)))) = pS cT (List.range' 0 (n - 0)) ∧ offA [70] A A' ∧ ∀ a b, a < n → b < n → a ≠ b → (a < i ∨ b < i ∨ (a = i ∧ b < j) ∨ (b = i ∧ a < j)) → A' 70 (5 * a + b) = cT b a - cT a b)
    (fun _ _ _ x _ _ => 10 - x.toNatClampNeg)
    (fun y _ _ z _ _ p o x => ∃ i j u, i < n ∧ j < n ∧ u ≤ n' ∧ y = nI i ∧ z = nI j ∧ x = nI u ∧ p + pS (cx i j) (List.range' u (n' - u)) = cT i j ∧ o + pS (cx j i) (List.range' u (n' - u)) = cT j i)
    (fun _ _ _ _ _ _ _ _ x => 10 - x.toNatClampNeg)
    (fun y _ _ z _ _ _ _ t p o x => ∃ i j u v, i < n ∧ j < n ∧ u < n' ∧ u < v ∧ v ≤ n' ∧ y = nI i ∧ z = nI j ∧ t = nI u ∧ x = nI v ∧ p + (sL (fun y => cx i j u y) (List.range' v (n' - v)) + pS (cx i j) (List.range' (u + 1) (n' - (u + 1)))) = cT i j ∧ o + (sL (fun y => cx j i u y) (List.range' v (n' - v)) + pS (cx j i) (List.range' (u + 1) (n' - (u + 1)))) = cT j i)
    (fun _ _ _ _ _ _ _ _ _ _ _ x => 10 - x.toNatClampNeg) ⟨vp_in_nI (by omega) (by decide), by rw [nI_1]; exact vp_in_nI (by omega) (by decide), ⟨0, 0, Nat.zero_le _, rfl, rfl, Int32.zero_add _, offA.rf, fun a b _ _ _ h => by omega⟩, ?_⟩
  rintro x I1 A1 ⟨i, X, hi, rfl, rfl, hX, o1, g1⟩
  have ek1 : (nI k + 1).toNatClampNeg = k + 1 := by rw [nI_1, cl_n (by omega)]
  rw [ek1, cl_n (show k < 2 ^ 31 by omega), c1, c3]
  refine ⟨fun h => ?_, fun h => ?_⟩
  · have e := cn_eq rfl hi (by omega) h
    subst e
    refine qV_i ⟨fun p q hpq => ?_, o1, ?_⟩
    · unfold up2
      rw [if_neg (fun e => hpq (by rw [e.1, e.2]; decide))]
    · rw [cl_n (show k < 2 ^ 31 by omega), hn']
      unfold JnOK
      rw [hn, hT]
      refine ⟨?_, fun a b ha hb hab => g1 a b ha hb hab (Or.inl ha)⟩
      rw [up2_s, List.range_eq_range']
      rw [rg_0] at hX
      have : X + 0 = pS cT (List.range' 0 (i - 0)) := hX
      rw [Int32.add_zero] at this
      exact this
  · have hi2 := cn_lt rfl hi (by omega) h
    refine ⟨⟨i, i + 1, X, hi2, by omega, hi2, rfl, nI_1 i, rfl, ?_, o1, fun a b ha hb hab hc => g1 a b ha hb hab (by omega)⟩, ?_⟩
    · rw [← hX, rg_s hi2]
      rfl
    rintro x I2 A2 ⟨i', j, X2, hi', hij, hj, ei, rfl, rfl, hX2, o2, g2⟩
    have ei : i' = i := ((nI_eq (by omega) (by omega)).mp ei).symm
    subst ei
    refine ⟨fun h => ?_, fun h => ?_⟩
    · have e := cn_eq rfl hj (by omega) h
      subst e
      refine ⟨⟨i' + 1, X2, hi2, nI_1 i', rfl, ?_, o2, fun a b ha hb hab hc => g2 a b ha hb hab (by omega)⟩, cn_mu (by omega) (by decide)⟩
      rw [← hX2, rg_0, sL, Int32.zero_add]
    · have hj2 := cn_lt rfl hj (by omega) h
      have n1 : A2 (15 + k) i' = nI ((itL (A 2) k).getD i' 0) := by rw [o2 (15 + k) (by simp; omega)]; exact hnum i' (by omega)
      have n2 : A2 (15 + k) j = nI ((itL (A 2) k).getD j 0) := by rw [o2 (15 + k) (by simp; omega)]; exact hnum j (by omega)
      have vk : vp_in (nI k) 10 := vp_in_nI hk (by decide)
      rw [cl_n (show i' < 2 ^ 31 by omega), cl_n (show j < 2 ^ 31 by omega), n1, n2, o2 27 (by decide), o2 28 (by decide), o2 69 (by decide)]
      have hcT : ∀ a b, cT a b = a2 * mvI (A 27) (A 28) (nI ((itL (A 2) k).getD a 0)) (nI ((itL (A 2) k).getD b 0)) + pS (cx a b) (List.range' 0 (n' - 0)) := by
        intro a b
        rw [← hT]
        unfold cTt
        rw [List.range_eq_range']
        rfl
      refine ⟨⟨vk, vp_in_nI (by omega) (by decide)⟩, ⟨vk, vp_in_nI (by omega) (by decide)⟩, ⟨i', j, 0, hi2, hj2, Nat.zero_le _, rfl, rfl, rfl, (hcT i' j).symm, (hcT j i').symm⟩, ?_⟩
      rintro p o x ⟨i3, j3, u, hi3, hj3, hu, ei, ej, rfl, hP, hO⟩
      have ei : i3 = i' := ((nI_eq (by omega) (by omega)).mp ei).symm
      have ej : j3 = j := ((nI_eq (by omega) (by omega)).mp ej).symm
      subst ei
      subst ej
      refine ⟨fun h => ?_, fun h => ?_⟩
      · have e := cn_eq rfl hu (by omega) h
        subst e
        rw [rg_0] at hP hO
        have hP : p + 0 = cT i3 j3 := hP
        have hO : o + 0 = cT j3 i3 := hO
        rw [Int32.add_zero] at hP hO
        rw [ix_5, ix_5, cl_n (show 5 * i3 + j3 < 2 ^ 31 by omega), cl_n (show 5 * j3 + i3 < 2 ^ 31 by omega), up2_s, up2_2, hP, hO]
        refine ⟨vp_in_nI (by omega) (by decide), vp_in_nI (by omega) (by decide), ⟨i3, j3 + 1, X2 + cT i3 j3, hi2, by omega, hj2, rfl, nI_1 j3, rfl, ?_, (o2.up (by decide)).up (by decide), fun a b ha hb hab hc => ?_⟩, ?_⟩
        · rw [← hX2, rg_s hj2, sL, Int32.add_assoc, Int32.add_assoc]
        · by_cases z1 : a = j3 ∧ b = i3
          · obtain ⟨rfl, rfl⟩ := z1
            rw [up2_s]
          · by_cases z2 : a = i3 ∧ b = j3
            · obtain ⟨rfl, rfl⟩ := z2
              rw [up2_j (by omega), up2_s]
            · rw [up2_j (by omega), up2_j (by omega)]
              exact g2 a b ha hb hab (by omega)
        · rw [nI_1, cl_n (by omega)]
          omega
      · have hu2 := cn_lt rfl hu (by omega) h
        refine ⟨⟨i3, j3, u, u + 1, hi2, hj2, hu2, by omega, hu2, rfl, rfl, rfl, nI_1 u, ?_, ?_⟩, ?_⟩
        · rw [← hP, rg_s hu2]
          rfl
        · rw [← hO, rg_s hu2]
          rfl
        rintro p' o' x ⟨i4, j4, u4, v, hi4, hj4, hu4, huv, hv, ei, ej, eu, rfl, hP', hO'⟩
        have ei : i4 = i3 := ((nI_eq (by omega) (by omega)).mp ei).symm
        have ej : j4 = j3 := ((nI_eq (by omega) (by omega)).mp ej).symm
        have eu : u4 = u := ((nI_eq (by omega) (by omega)).mp eu).symm
        subst ei
        subst ej
        subst eu
        refine ⟨fun h => ?_, fun h => ?_⟩
        · have e := cn_eq rfl hv (by omega) h
          subst e
          rw [rg_0, sL, Int32.zero_add] at hP' hO'
          exact ⟨⟨i4, j4, u4 + 1, hi2, hj2, hu2, rfl, rfl, nI_1 u4, hP', hO'⟩, cn_mu (by omega) (by decide)⟩
        · have hv2 := cn_lt rfl hv (by omega) h
          rw [ix_5, ix_5, ix_5, ix_5, cl_n (show 5 * i4 + v < 2 ^ 31 by omega), cl_n (show 5 * j4 + u4 < 2 ^ 31 by omega), cl_n (show 5 * j4 + v < 2 ^ 31 by omega), cl_n (show 5 * i4 + u4 < 2 ^ 31 by omega), hL i4 v (by omega) (by omega), hL j4 u4 (by omega) (by omega), hL j4 v (by omega) (by omega), hL i4 u4 (by omega) (by omega)]
          refine ⟨⟨vp_in_nI (by omega) (by decide), vp_in_nI (by omega) (by decide)⟩, ⟨vp_in_nI (by omega) (by decide), vp_in_nI (by omega) (by decide)⟩, ⟨i4, j4, u4, v + 1, hi2, hj2, hu2, by omega, hv2, rfl, rfl, rfl, nI_1 v, ?_, ?_⟩, cn_mu (by omega) (by decide)⟩
          · rw [← hP', rg_s hv2, sL]
            show p' + cx i4 j4 u4 v + _ = p' + ((cx i4 j4 u4 v + _) + _)
            rw [Int32.add_assoc, Int32.add_assoc]
          · rw [← hO', rg_s hv2, sL]
            show o' + cx j4 i4 u4 v + _ = o' + ((cx j4 i4 u4 v + _) + _)
            rw [Int32.add_assoc, Int32.add_assoc]
