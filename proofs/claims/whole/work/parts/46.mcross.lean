/-! RibbonSetterModel.crosses, moves -/
def MdS (w : Nat → Int32) (A : HI) : Prop := Dw w ∧ ShM A (itL w) ∧ LkM w A (fun l => kT w 100 l) ∧ StOK A
theorem drop_s {L : List Nat} {t : Nat} (h : t < L.length) : L.drop t = L.getD t 0 :: L.drop (t + 1) := by
  rw [getD_lt h]
  exact List.drop_eq_getElem_cons h
theorem MdS.st {w : Nat → Int32} {A : HI} (h : MdS w A) {l k x : Nat} (hl : l < 10) (hk : k < facN (nIt w l)) (hx : x < nIt w l) : stO0 (A 104) (nI l) (nI k) (nI x) ∧ stO (A 104) (A 110) (nI l) (nI k) (nI x) = nI (psQ (nIt w l) k x) ∧ psQ (nIt w l) k x < 5 := by
  have hn := h.1.2 l
  have f1 := (facN_le _ hn).1
  have e : 600 * A 104 (nI l).toNatClampNeg + 5 * nI k + nI x = nI (600 * nIt w l + 5 * k + x) := by
    rw [cl_n (by omega), (h.2.1 l hl).1, ix_600]
  have hb : 600 * nIt w l + 5 * k + x < 3600 := by omega
  unfold stO0 stO
  rw [e, cl_n (by omega)]
  exact ⟨⟨vp_in_nI hl (by decide), vp_in_nI hb (by decide)⟩, h.2.2.2 _ hn k hk x hx, by have := (tq2 hn hk hx).2; omega⟩
def crs0 (I A : HI) (a1 a2 a3 : Int32) : Prop := MdS (A 97) A ∧ ∃ l k m, l + 1 < 10 ∧ k < facN (nIt (A 97) l) ∧ m < facN (nIt (A 97) (l + 1)) ∧ a1 = nI l ∧ a2 = nI k ∧ a3 = nI m
def crs (I A : HI) (a1 a2 a3 : Int32) (r : Int32) (I' A' : HI) : Prop := A' = A ∧ r = nI (cN (A 97) a1.toNatClampNeg a2.toNatClampNeg a3.toNatClampNeg) ∧ I' = up2 I 96 23 (nI (xN (A 97) a1.toNatClampNeg a2.toNatClampNeg a3.toNatClampNeg))
set_option maxHeartbeats 16000000 in
theorem c_X9_crosses (l : Launch) (D : va_G) (ads : AD) (I A : HI) (a1 a2 a3 : Int32) (hp : crs0 I A a1 a2 a3) : Ct l yX9_crosses cX9_crosses 8 (some .int) 1 23 D ads shp [.inr (some 96), .inl a1, .inl a2, .inl a3] I A (qJ (crs I A a1 a2 a3)) := by
  obtain ⟨hM, q, k, m, hq, hk, hm, rfl, rfl, rfl⟩ := hp
  have hF := hM.1.1
  have f1 := (facN_le _ (hM.1.2 q)).1
  have f2 := (facN_le _ (hM.1.2 (q + 1))).1
  obtain ⟨K, hK⟩ : ∃ K, K = kT (A 97) 100 q := ⟨_, rfl⟩
  have hKl : K.length ≤ 16 := by rw [hK]; exact kT_len hF (Nat.le_refl _) q
  obtain ⟨b, hb⟩ : ∃ b, b = crB (A 97) q k m := ⟨_, rfl⟩
  obtain ⟨F, hFF⟩ : ∃ F : Nat → Nat → Nat, F = fun x y => if b x y then wN (A 97) x * wN (A 97) y else 0 := ⟨_, rfl⟩
  obtain ⟨E, hE⟩ : ∃ E : Nat → Nat → Nat, E = fun x y => if b x y then 1 * 1 else 0 := ⟨_, rfl⟩
  have hcN : cN (A 97) q k m = sN (fun x => sN (fun y => F x y) K) K := by rw [hFF, hb, hK]; rfl
  have hxN : xN (A 97) q k m = sN (fun x => sN (fun y => E x y) K) K := by rw [hE, hb, hK]; rfl
  have clq : (nI q).toNatClampNeg = q := cl_n (by omega)
  have vq : vp_in (nI q) 10 := vp_in_nI (by omega) (by decide)
  have hlk := hM.2.2.1 q (by omega)
  simp only [← hK] at hlk
  obtain ⟨k1, k2⟩ := hlk
  have eN : (16 * nI q + A 106 q) = nI (16 * q + K.length) := by rw [k1, ix_16]
  have hmem : ∀ t, t < K.length → K.getD t 0 ∈ kT (A 97) 100 q := fun t ht => by
    rw [getD_lt ht, ← hK]
    exact List.getElem_mem _
  have kF : ∀ t, t < K.length → A 107 (16 * q + t) = nI (fxN (A 97) q (K.getD t 0)) ∧ fxN (A 97) q (K.getD t 0) < nIt (A 97) q := fun t ht => ⟨(k2 t ht).1, (kT_fx hF (hmem t ht)).1⟩
  have kG : ∀ t, t < K.length → A 108 (16 * q + t) = nI (gxN (A 97) q (K.getD t 0)) ∧ gxN (A 97) q (K.getD t 0) < nIt (A 97) (q + 1) := fun t ht => ⟨(k2 t ht).2.1, (kT_fx hF (hmem t ht)).2⟩
  have kW : ∀ t, t < K.length → A 109 (16 * q + t) = nI (wN (A 97) (K.getD t 0)) := fun t ht => (k2 t ht).2.2.trans (hF.eq (kT_mem (hmem t ht)).1).1
  have hb2 : ∀ x y, b x y = (decide (psQ (nIt (A 97) q) k (fxN (A 97) q x) < psQ (nIt (A 97) q) k (fxN (A 97) q y)) && decide (psQ (nIt (A 97) (q + 1)) m (gxN (A 97) q y) < psQ (nIt (A 97) (q + 1)) m (gxN (A 97) q x))) := by
    intro x y
    rw [hb]
    rfl
  refine k_X9_crosses l D ads I A (nI q) (nI k) (nI m) _
    (fun s x I' => ∃ t X Y, t ≤ K.length ∧ x = nI (16 * q + t) ∧ s = nI X ∧ I' = up2 I 96 23 (nI Y) ∧ X + sN (fun x => sN (fun y => F x y) K) (K.drop t) = cN (A 97) q k m ∧ Y + sN (fun x => sN (fun y => E x y) K) (K.drop t) = xN (A 97) q k m)
    (fun _ x _ => 400 - x.toNatClampNeg)
    (fun _ x0 _ s x I' => ∃ t u X Y, t < K.length ∧ u ≤ K.length ∧ x0 = nI (16 * q + t) ∧ x = nI (16 * q + u) ∧ s = nI X ∧ I' = up2 I 96 23 (nI Y) ∧ X + (sN (fun y => F (K.getD t 0) y) (K.drop u) + sN (fun x => sN (fun y => F x y) K) (K.drop (t + 1))) = cN (A 97) q k m ∧ Y + (sN (fun y => E (K.getD t 0) y) (K.drop u) + sN (fun x => sN (fun y => E x y) K) (K.drop (t + 1))) = xN (A 97) q k m)
    (fun _ _ _ _ x _ => 400 - x.toNatClampNeg) ⟨⟨0, 0, 0, Nat.zero_le _, by rw [show (16 : Int32) = nI 16 from rfl, pk_mul]; rfl, rfl, rfl, by rw [List.drop_zero, hcN, Nat.zero_add], by rw [List.drop_zero, hxN, Nat.zero_add]⟩, ?_⟩
  rintro s x I1 ⟨t, X, Y, ht, rfl, rfl, rfl, hX, hY⟩
  rw [clq, eN]
  refine ⟨vq, fun h => ?_, fun h => ?_⟩
  · have e := cn_eq (j := 16 * q + t) (N := 16 * q + K.length) rfl (by omega) (by omega) h
    have e : t = K.length := by omega
    rw [e, List.drop_length] at hX hY
    have hX : X + 0 = _ := hX
    have hY : Y + 0 = _ := hY
    refine qJ_i ⟨rfl, ?_, ?_⟩
    · rw [clq, cl_n (show k < 2 ^ 31 by omega), cl_n (show m < 2 ^ 31 by omega), ← hX, Nat.add_zero]
    · rw [clq, cl_n (show k < 2 ^ 31 by omega), cl_n (show m < 2 ^ 31 by omega), ← hY, Nat.add_zero]
  have ht2 : t < K.length := by
    have := cn_lt (j := 16 * q + t) (N := 16 * q + K.length) rfl (by omega) (by omega) h
    omega
  refine ⟨⟨t, 0, X, Y, ht2, Nat.zero_le _, rfl, by rw [show (16 : Int32) = nI 16 from rfl, pk_mul]; rfl, rfl, rfl, ?_, ?_⟩, ?_⟩
  · rw [← hX, drop_s ht2, List.drop_zero]
    rfl
  · rw [← hY, drop_s ht2, List.drop_zero]
    rfl
  rintro s x I2 ⟨t', u, X2, Y2, ht', hu, et, rfl, rfl, rfl, hX2, hY2⟩
  have et : t' = t := by
    have := (nI_eq (by omega) (by omega)).mp et
    omega
  subst et
  refine ⟨vq, fun h => ?_, fun h => ?_⟩
  · have e := cn_eq (j := 16 * q + u) (N := 16 * q + K.length) rfl (by omega) (by omega) h
    have e : u = K.length := by omega
    rw [e, List.drop_length] at hX2 hY2
    refine ⟨⟨t' + 1, X2, Y2, ht2, nI_1 _, rfl, rfl, ?_, ?_⟩, cn_mu (by omega) (by decide)⟩
    · rw [← hX2]
      show _ = X2 + (0 + _)
      rw [Nat.zero_add]
    · rw [← hY2]
      show _ = Y2 + (0 + _)
      rw [Nat.zero_add]
  have hu2 : u < K.length := by
    have := cn_lt (j := 16 * q + u) (N := 16 * q + K.length) rfl (by omega) (by omega) h
    omega
  have hmu : 400 - (nI (16 * q + u) + 1).toNatClampNeg < 400 - (nI (16 * q + u)).toNatClampNeg := cn_mu (by omega) (by decide)
  have vt : vp_in (nI (16 * q + t')) 160 := vp_in_nI (by omega) (by decide)
  have vu : vp_in (nI (16 * q + u)) 160 := vp_in_nI (by omega) (by decide)
  have clt : (nI (16 * q + t')).toNatClampNeg = 16 * q + t' := cl_n (by omega)
  have clu : (nI (16 * q + u)).toNatClampNeg = 16 * q + u := cl_n (by omega)
  obtain ⟨s1, s2, s3⟩ := hM.st (l := q) (by omega) hk (kF t' ht2).2
  obtain ⟨s4, s5, s6⟩ := hM.st (l := q) (by omega) hk (kF u hu2).2
  obtain ⟨s7, s8, s9⟩ := hM.st (l := q + 1) (by omega) hm (kG t' ht2).2
  obtain ⟨s10, s11, s12⟩ := hM.st (l := q + 1) (by omega) hm (kG u hu2).2
  simp only [clt, clu] at hmu ⊢
  simp only [nI_1] at hmu ⊢
  rw [(kF t' ht2).1, (kF u hu2).1, (kG t' ht2).1, (kG u hu2).1, kW t' ht2, kW u hu2, s2, s5, s8, s11, pk_mul, nI_add]
  have dr := drop_s hu2
  have no : b (K.getD t' 0) (K.getD u 0) = false → (∃ t u_1 X Y, t < K.length ∧ u_1 ≤ K.length ∧ nI (16 * q + t') = nI (16 * q + t) ∧ nI (16 * q + u + 1) = nI (16 * q + u_1) ∧ nI X2 = nI X ∧ up2 I 96 23 (nI Y2) = up2 I 96 23 (nI Y) ∧ X + (sN (fun y => F (K.getD t 0) y) (K.drop u_1) + sN (fun x => sN (fun y => F x y) K) (K.drop (t + 1))) = cN (A 97) q k m ∧ Y + (sN (fun y => E (K.getD t 0) y) (K.drop u_1) + sN (fun x => sN (fun y => E x y) K) (K.drop (t + 1))) = xN (A 97) q k m) := by
    intro hbf
    refine ⟨t', u + 1, X2, Y2, ht2, hu2, rfl, rfl, rfl, rfl, ?_, ?_⟩
    · rw [← hX2, dr, sN, hFF]
      simp only [hbf, Bool.false_eq_true, if_false, Nat.zero_add]
    · rw [← hY2, dr, sN, hE]
      simp only [hbf, Bool.false_eq_true, if_false, Nat.zero_add]
  refine ⟨vt, s1, vu, s4, fun h1 => ⟨no ?_, hmu⟩, fun h1 => ⟨vt, s7, vu, s10, fun h2 => ⟨no ?_, hmu⟩, fun h2 => ⟨vt, vu, ?_, hmu⟩⟩⟩
  · have h1 := (nI_leI (by omega) (by omega)).mp h1
    rw [hb2, decide_eq_false (by omega), Bool.false_and]
  · have h2 := (nI_leI (by omega) (by omega)).mp h2
    rw [hb2, decide_eq_false (p := psQ (nIt (A 97) (q + 1)) m _ < _) (by omega), Bool.and_false]
  · have h1 := (nI_ltI (by omega) (by omega)).mp (nle h1)
    have h2 := (nI_ltI (by omega) (by omega)).mp (nle h2)
    have hbt : b (K.getD t' 0) (K.getD u 0) = true := by
      rw [hb2, decide_eq_true h1, decide_eq_true h2]
      rfl
    refine ⟨t', u + 1, X2 + wN (A 97) (K.getD t' 0) * wN (A 97) (K.getD u 0), Y2 + 1, ht2, hu2, rfl, rfl, rfl, ?_, ?_, ?_⟩
    · rw [up2_s, up2_2, nI_1]
    · rw [← hX2, dr, sN, hFF]
      simp only [hbt, if_true]
      omega
    · rw [← hY2, dr, sN, hE]
      simp only [hbt, if_true]
      omega
noncomputable def mov (I A : HI) (a1 a2 : Int32) : Int32 := nI (mN (A 97) (A 98) (A 99) a1.toNatClampNeg a2.toNatClampNeg)
def mov0 (I A : HI) (a1 a2 : Int32) : Prop := MdS (A 97) A ∧ ∃ l k, l < 10 ∧ k < facN (nIt (A 97) l) ∧ a1 = nI l ∧ a2 = nI k
set_option maxHeartbeats 16000000 in
theorem c_X9_moves (l : Launch) (D : va_G) (ads : AD) (I A : HI) (a1 a2 : Int32) (hp : mov0 I A a1 a2) : Ct l yX9_moves cX9_moves 8 (some .int) 1 23 D ads shp [.inr (some 96), .inl a1, .inl a2] I A (qI (mov I A a1 a2) I A) := by
  obtain ⟨hM, q, k, hq, hk, rfl, rfl⟩ := hp
  have hn := hM.1.2 q
  have f1 := (facN_le _ hn).1
  have clq : (nI q).toNatClampNeg = q := cl_n (by omega)
  have clk : (nI k).toNatClampNeg = k := cl_n (by omega)
  have vq : vp_in (nI q) 10 := vp_in_nI (by omega) (by decide)
  obtain ⟨n1, n2⟩ := hM.2.1 q hq
  obtain ⟨c, hc⟩ : ∃ c : Nat → Nat → Nat, c = fun x y => if movB (A 97) (A 98) (A 99) q k x y then 1 else 0 := ⟨_, rfl⟩
  have hmN : mN (A 97) (A 98) (A 99) q k = pN c (List.range' 0 (nIt (A 97) q - 0)) := by
    rw [hc, ← List.range_eq_range']
    rfl
  refine k_X9_moves l D ads I A (nI q) (nI k) _
    (fun s x => ∃ i X, i ≤ nIt (A 97) q ∧ x = nI i ∧ s = nI X ∧ X + pN c (List.range' i (nIt (A 97) q - i)) = mN (A 97) (A 98) (A 99) q k)
    (fun _ x => 10 - x.toNatClampNeg)
    (fun _ x0 s x => ∃ i j X, i < nIt (A 97) q ∧ i < j ∧ j ≤ nIt (A 97) q ∧ x0 = nI i ∧ x = nI j ∧ s = nI X ∧ X + (sN (fun y => c i y) (List.range' j (nIt (A 97) q - j)) + pN c (List.range' (i + 1) (nIt (A 97) q - (i + 1)))) = mN (A 97) (A 98) (A 99) q k)
    (fun _ _ _ x => 10 - x.toNatClampNeg) ⟨⟨0, 0, Nat.zero_le _, rfl, rfl, by rw [hmN, Nat.zero_add]⟩, ?_⟩
  rintro s x ⟨i, X, hi, rfl, rfl, hX⟩
  rw [clq, n1]
  refine ⟨vq, fun h => ?_, fun h => ?_⟩
  · have e := cn_eq rfl hi (by omega) h
    rw [e, rg_0] at hX
    have hX : X + 0 = _ := hX
    refine qI_i ?_
    unfold mov
    rw [clq, clk, ← hX, Nat.add_zero]
  have hi2 := cn_lt rfl hi (by omega) h
  refine ⟨⟨i, i + 1, X, hi2, by omega, hi2, rfl, nI_1 i, rfl, ?_⟩, ?_⟩
  · rw [← hX, rg_s hi2]
    rfl
  rintro s x ⟨i', j, X2, hi', hij, hj, ei, rfl, rfl, hX2⟩
  have ei : i' = i := ((nI_eq (by omega) (by omega)).mp ei).symm
  subst ei
  refine ⟨vq, fun h => ?_, fun h => ?_⟩
  · have e := cn_eq rfl hj (by omega) h
    subst e
    refine ⟨⟨i' + 1, X2, hi2, nI_1 i', rfl, ?_⟩, cn_mu (by omega) (by decide)⟩
    rw [← hX2, rg_0, sN, Nat.zero_add]
  have hj2 := cn_lt rfl hj (by omega) h
  have hmu : 10 - (nI j + 1).toNatClampNeg < 10 - (nI j).toNatClampNeg := cn_mu (by omega) (by decide)
  obtain ⟨s1, s2, s3⟩ := hM.st hq hk hi2
  obtain ⟨s4, s5, s6⟩ := hM.st hq hk hj2
  have ea : A 105 (30 * nI q + nI i').toNatClampNeg = nI ((itL (A 97) q).getD i' 0) := by
    rw [ix_30, cl_n (by omega)]
    exact n2 i' hi2
  have eb : A 105 (30 * nI q + nI j).toNatClampNeg = nI ((itL (A 97) q).getD j 0) := by
    rw [ix_30, cl_n (by omega)]
    exact n2 j hj2
  have va : vp_in (30 * nI q + nI i') 300 := by rw [ix_30]; exact vp_in_nI (by omega) (by decide)
  have vb : vp_in (30 * nI q + nI j) 300 := by rw [ix_30]; exact vp_in_nI (by omega) (by decide)
  have la := itL_200 (w := A 97) hi2
  have lb := itL_200 (w := A 97) hj2
  rw [ea, eb, s2, s5]
  have hmb : movB (A 97) (A 98) (A 99) q k i' j = ((decide ((itL (A 97) q).getD i' 0 < 10) && decide ((itL (A 97) q).getD j 0 < 10)) && ((!decide (A 98 ((itL (A 97) q).getD i' 0) = -1) && decide (A 98 ((itL (A 97) q).getD i' 0) = A 98 ((itL (A 97) q).getD j 0))) && (decide (psQ (nIt (A 97) q) k i' < psQ (nIt (A 97) q) k j) != decide (A 99 ((itL (A 97) q).getD i' 0) < A 99 ((itL (A 97) q).getD j 0))))) := rfl
  generalize (itL (A 97) q).getD i' 0 = pa at *
  generalize (itL (A 97) q).getD j 0 = pb at *
  have no : movB (A 97) (A 98) (A 99) q k i' j = false → (∃ i j_1 X, i < nIt (A 97) q ∧ i < j_1 ∧ j_1 ≤ nIt (A 97) q ∧ nI i' = nI i ∧ nI j + 1 = nI j_1 ∧ nI X2 = nI X ∧ X + (sN (fun y => c i y) (List.range' j_1 (nIt (A 97) q - j_1)) + pN c (List.range' (i + 1) (nIt (A 97) q - (i + 1)))) = mN (A 97) (A 98) (A 99) q k) := by
    intro hf
    refine ⟨i', j + 1, X2, hi2, by omega, hj2, rfl, nI_1 j, rfl, ?_⟩
    rw [← hX2, rg_s hj2, sN, hc]
    simp only [hf, Bool.false_eq_true, if_false, Nat.zero_add]
  have yes : movB (A 97) (A 98) (A 99) q k i' j = true → (∃ i j_1 X, i < nIt (A 97) q ∧ i < j_1 ∧ j_1 ≤ nIt (A 97) q ∧ nI i' = nI i ∧ nI j + 1 = nI j_1 ∧ nI X2 + 1 = nI X ∧ X + (sN (fun y => c i y) (List.range' j_1 (nIt (A 97) q - j_1)) + pN c (List.range' (i + 1) (nIt (A 97) q - (i + 1)))) = mN (A 97) (A 98) (A 99) q k) := by
    intro hf
    refine ⟨i', j + 1, X2 + 1, hi2, by omega, hj2, rfl, nI_1 j, nI_1 X2, ?_⟩
    rw [← hX2, rg_s hj2, sN, hc]
    simp only [hf, if_true]
    omega
  have e9 : ∀ {z : Nat}, z < 200 → (9 < nI z ↔ 9 < z) := fun hz => nI_ltI (a := 9) (by decide) (by omega)
  refine ⟨va, vb, fun h1 => ⟨no ?_, hmu⟩, fun h1 => ⟨fun h2 => ⟨no ?_, hmu⟩, fun h2 => ?_⟩⟩
  · have h1 := (e9 la).mp h1
    rw [hmb, decide_eq_false (p := pa < 10) (by omega)]
    rfl
  · have h2 := (e9 lb).mp h2
    rw [hmb, decide_eq_false (p := pb < 10) (by omega), Bool.and_false]
    rfl
  have h1' : pa < 10 := by
    rcases Nat.lt_or_ge pa 10 with z | z
    · exact z
    · exact absurd ((e9 la).mpr (by omega)) h1
  have h2' : pb < 10 := by
    rcases Nat.lt_or_ge pb 10 with z | z
    · exact z
    · exact absurd ((e9 lb).mpr (by omega)) h2
  have wa : vp_in (nI pa) 10 := vp_in_nI h1' (by decide)
  have wb : vp_in (nI pb) 10 := vp_in_nI h2' (by decide)
  rw [cl_n (show pa < 2 ^ 31 by omega), cl_n (show pb < 2 ^ 31 by omega)]
  rw [decide_eq_true h1', decide_eq_true h2', Bool.true_and, Bool.true_and] at hmb
  refine ⟨wa, fun h3 => ⟨no ?_, hmu⟩, fun h3 => ⟨wa, wb, fun h4 => ?_, fun h4 => ⟨no ?_, hmu⟩⟩⟩
  · rw [hmb, decide_eq_true h3]
    rfl
  · rw [decide_eq_false h3, decide_eq_true h4, Bool.not_false, Bool.true_and, Bool.true_and] at hmb
    refine ⟨s1, s4, fun h5 => ⟨wa, wb, fun h6 => ⟨no ?_, hmu⟩, fun h6 => ⟨yes ?_, hmu⟩⟩, fun h5 => ⟨wa, wb, fun h6 => ⟨yes ?_, hmu⟩, fun h6 => ⟨no ?_, hmu⟩⟩⟩
    · rw [hmb, decide_eq_false (p := psQ _ _ _ < _) (by have := (nI_leI (by omega) (by omega)).mp h5; omega), decide_eq_false (le_nlt h6)]
      rfl
    · rw [hmb, decide_eq_false (p := psQ _ _ _ < _) (by have := (nI_leI (by omega) (by omega)).mp h5; omega), decide_eq_true (nle h6)]
      rfl
    · rw [hmb, decide_eq_true ((nI_ltI (by omega) (by omega)).mp (nle h5)), decide_eq_false (le_nlt h6)]
      rfl
    · rw [hmb, decide_eq_true ((nI_ltI (by omega) (by omega)).mp (nle h5)), decide_eq_true (nle h6)]
      rfl
  · rw [hmb, decide_eq_false h4, Bool.and_false]
    rfl
