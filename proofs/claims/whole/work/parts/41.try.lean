/-! Search.tryNext -/
noncomputable def vC (w kl ks : Nat → Int32) (q l s t : Nat) : Nat := vU w kl ks q l (piQ (nIt w l) s) (piQ (nIt w (l + 1)) t) + q * mN w kl ks l (piQ (nIt w l) s)
noncomputable def wC (w kl ks : Nat → Int32) (q l t : Nat) : Int32 := wV w kl ks q (l + 1) (piQ (nIt w (l + 1)) t)
noncomputable def rC (w : Nat → Int32) (l t : Nat) : Nat := rkL (thL (nIt w (l + 1)) t)
def LsK (w kl ks : Nat → Int32) (q l : Nat) (A : HI) : Prop := ∀ s, s < facN (nIt w l) → A (32 + l) s = nI (vV w kl ks q l (piQ (nIt w l) s)) ∧ A (44 + l) s = wV w kl ks q l (piQ (nIt w l) s)
theorem DrOK.dw {w : Nat → Int32} {A : HI} (h : DrOK w A) : Dw w := by
  refine ⟨h.1, fun l => ?_⟩
  rcases Nat.lt_or_ge l 10 with z | z
  · have := h.2.2.2 l z
    show (itL w l).length < 6
    omega
  · have e := itL_out h.1 (show nLay w ≤ l by have := nLay_le w; omega)
    show (itL w l).length < 6
    rw [e]
    decide
def BsA (w kl ks : Nat → Int32) (q l t s : Nat) (A : HI) : Prop := BsC (vC w kl ks q l s) (wC w kl ks q l) (rC w l) t (A (32 + l) s) (A (44 + l) s) (A (56 + l) s)
def TnP (q l t : Nat) (I A : HI) (nn : Nat) : Prop := DrOK (A 2) A ∧ ChOK I A ∧ KpOK (A 27) (A 28) ∧ q ≤ 9999 ∧ l < nLay (A 2) ∧ nn = nIt (A 2) (l + 1) ∧ t < facN (nIt (A 2) (l + 1)) ∧ JnOK (A 2) (nI q) (A 27) (A 28) l (thL (nIt (A 2) (l + 1)) t) I A ∧ LsK (A 2) (A 27) (A 28) q (l + 1) A ∧ ∀ s, s < facN (nIt (A 2) l) → BsA (A 2) (A 27) (A 28) q l t s A
def tNx0 (q : Nat) (I A : HI) (a1 a2 : Int32) (nn : Nat) : Prop := ∃ l t, a1 = nI l ∧ a2 = nI t ∧ TnP q l t I A nn
def tNx (q : Nat) (I A : HI) (a1 a2 : Int32) (nn : Nat) (I' A' : HI) : Prop := I' = I ∧ offA [32 + a1.toNatClampNeg, 44 + a1.toNatClampNeg, 56 + a1.toNatClampNeg] A A' ∧ ∀ s, s < facN (nIt (A 2) a1.toNatClampNeg) → BsA (A 2) (A 27) (A 28) q a1.toNatClampNeg (a2.toNatClampNeg + 1) s A'
/-- the exchange that makes the order s -/
theorem ex_at {w kl ks : Nat → Int32} {q : Int32} {l s : Nat} {τ : List Nat} {I A : HI} (hn : nIt w l < 6) (hC : ChOK I A) (hJ : JnOK w q kl ks l τ I A) (hs : 0 < s) (h : s < facN (nIt w l)) : ∃ j, j < 25 ∧ A (73 + 4 * nIt w l) s = nI j ∧ pS (cTt w q kl ks l τ) (thL (nIt w l) s) = pS (cTt w q kl ks l τ) (thL (nIt w l) (s - 1)) + A 70 j := by
  obtain ⟨pre, post, x, y, e1, e2, e3⟩ := ch_swap hn (t := s - 1) (by omega)
  rw [show s - 1 + 1 = s by omega] at e2 e3
  have hok := thL_ok hn (show s - 1 < facN (nIt w l) by omega)
  have hmem : ∀ z, z ∈ thL (nIt w l) (s - 1) → z < nIt w l := fun z hz => by
    rw [th_or hn (by omega)] at hz
    exact (or_mem hn hok.2.1).mp hz
  have hx := hmem x (by rw [e1]; simp)
  have hy := hmem y (by rw [e1]; simp)
  have hnd : (thL (nIt w l) (s - 1)).Nodup := by
    rw [th_or hn (by omega)]
    exact or_nd hn hok.2.1
  have hxy : x ≠ y := by
    rw [e1] at hnd
    have h2 := (List.nodup_append.mp hnd).2.1
    intro e
    subst e
    exact (List.nodup_cons.mp h2).1 List.mem_cons_self
  refine ⟨5 * x + y, by omega, ?_, ?_⟩
  · rw [((hC _ hn).2.2 s h).2.2 hs, e3]
  · rw [hJ.2 x y hx hy hxy, e1, e2, pS_swap]
set_option maxHeartbeats 16000000 in
theorem c_X6_tryNext (q : Nat) (l : Launch) (D : va_G) (ads : AD) (I A : HI) (a1 a2 : Int32) (nn : Nat) (hnn : nn < 6) (hp : tNx0 q I A a1 a2 nn) : Ct l yX6_tryNext cX6_tryNext 10 none 2 42 D ads shp [.inr (some 29), .inl a1, .inl a2, .inr (some (71 + 4 * nn))] I A (qV (tNx q I A a1 a2 nn)) := by
  obtain ⟨k, t, rfl, rfl, hD, hCh, hK, hq, hk, rfl, ht, hJ, hLs, hB⟩ := hp
  have hk10 : k < 10 := Nat.lt_of_lt_of_le hk (nLay_le _)
  have hDw := hD.dw
  have hn := hDw.2 k
  have hn' := hDw.2 (k + 1)
  obtain ⟨c1, -⟩ := cnt_n hD (show k < 11 by omega)
  have f1 := (facN_le _ hn).1
  have f2 := (facN_le _ hn').1
  have hcost : ∀ s, s < facN (nIt (A 2) k) → pS (cTt (A 2) (nI q) (A 27) (A 28) k (thL (nIt (A 2) (k + 1)) t)) (thL (nIt (A 2) k) s) + A (32 + (k + 1)) t = nI (vC (A 2) (A 27) (A 28) q k s t) := by
    intro s hs
    rw [th_or hn hs, th_or hn' ht, pS_cT hDw.1 hK hn hn' (thL_ok hn hs).2.1 (thL_ok hn' ht).2.1, (hLs t ht).1, nI_add]
    unfold vC vU
    congr 1
    omega
  have hbnd : ∀ s, vC (A 2) (A 27) (A 28) q k s t < 2 ^ 30 := by
    intro s
    have b1 := vU_le (kl := A 27) (ks := A 28) hDw hq k (piQ (nIt (A 2) k) s) (piQ (nIt (A 2) (k + 1)) t)
    have b2 := qm_le (kl := A 27) (ks := A 28) hDw hq k (piQ (nIt (A 2) k) s)
    unfold vC
    omega
  have hways : A (44 + (k + 1)) t = wC (A 2) (A 27) (A 28) q k t := (hLs t ht).2
  have hex : ∀ s, 0 < s → s < facN (nIt (A 2) k) → ∃ j, j < 25 ∧ A (73 + 4 * nIt (A 2) k) s = nI j ∧ pS (cTt (A 2) (nI q) (A 27) (A 28) k (thL (nIt (A 2) (k + 1)) t)) (thL (nIt (A 2) k) s) = pS (cTt (A 2) (nI q) (A 27) (A 28) k (thL (nIt (A 2) (k + 1)) t)) (thL (nIt (A 2) k) (s - 1)) + A 70 j := fun s h1 h2 => ex_at hn hCh hJ h1 h2
  have hrk : ∀ u, u < facN (nIt (A 2) (k + 1)) → A (74 + 4 * nIt (A 2) (k + 1)) u = nI (rC (A 2) k u) ∧ rC (A 2) k u < 3125 := fun u hu => ⟨((hCh _ hn').2.2 u hu).2.1, rkL_lt _ hn' u hu⟩
  have hbase : I 68 5 = pS (cTt (A 2) (nI q) (A 27) (A 28) k (thL (nIt (A 2) (k + 1)) t)) (thL (nIt (A 2) k) 0) := by
    rw [th_0 _ hn]
    exact hJ.1
  unfold BsA at hB
  generalize hv : vC (A 2) (A 27) (A 28) q k = v at hcost hbnd hB
  generalize hw : wC (A 2) (A 27) (A 28) q k = wy at hways hB
  generalize hr : rC (A 2) k = rk at hrk hB
  generalize hc : pS (cTt (A 2) (nI q) (A 27) (A 28) k (thL (nIt (A 2) (k + 1)) t)) = pc at hcost hex hbase
  generalize hN : facN (nIt (A 2) k) = N at hcost hex hB f1
  obtain ⟨Iv, hIv⟩ : ∃ Iv : Int32 → Int32 → HI → Prop, Iv = fun x8 x9 A' => ∃ s, s ≤ N ∧ x9 = nI s ∧ x8 = pc (thL (nIt (A 2) k) (s - 1)) + A (32 + (k + 1)) t ∧ offA [32 + k, 44 + k, 56 + k] A A' ∧ (∀ s', s' < s → BsC (v s') wy rk (t + 1) (A' (32 + k) s') (A' (44 + k) s') (A' (56 + k) s')) ∧ ∀ s', s ≤ s' → s' < N → BsC (v s') wy rk t (A' (32 + k) s') (A' (44 + k) s') (A' (56 + k) s') := ⟨_, rfl⟩
  refine k_X6_tryNext l D ads I A (nI k) (nI t) _ hnn _ Iv (fun _ x9 _ => 200 - x9.toNatClampNeg) ?_
  simp only [nI_1, cl_n (show k < 2 ^ 31 by omega), cl_n (show k + 1 < 2 ^ 31 by omega), cl_n (show t < 2 ^ 31 by omega), c1, mn5 _ hn, chN_f _ hn, chN_f _ hn']
  have vk : vp_in (nI k) 11 := vp_in_nI (by omega) (by decide)
  have vk1 : vp_in (nI (k + 1)) 11 := vp_in_nI (by omega) (by decide)
  have vt : vp_in (nI t) 120 := vp_in_nI (by omega) (by decide)
  have vt2 : vp_in (nI t) (facN (nIt (A 2) (k + 1))) := vp_in_nI ht (by omega)
  refine ⟨⟨vk, nI_pos' (by have : (itL (A 2) k).length < 6 := hDw.2 k; omega)⟩, vk, vk1, vt, vk1, vt, ?_, ?_⟩
  · rw [hIv]
    exact ⟨0, Nat.zero_le _, rfl, by rw [hbase], offA.rf, fun s' h => absurd h (Nat.not_lt_zero _), fun s' _ h => hB s' h⟩
  rintro x8 x9 A1 hI
  rw [hIv] at hI
  obtain ⟨s, hs, rfl, rfl, o1, b1, b2⟩ := hI
  have hd1 : ∀ j, j = 70 ∨ (71 < j ∧ j < 95) → A1 j = A j := fun j hj => o1 j (by simp; omega)
  refine ⟨fun h => ?_, fun h => ?_⟩
  · have e : s = N := by
      have h : nI (facN (nIt (A 2) k)) ≤ nI s := h
      rw [hN] at h
      exact cn_eq rfl hs (by omega) h
    subst e
    refine qV_i ⟨rfl, ?_, ?_⟩
    · rw [cl_n (show k < 2 ^ 31 by omega)]
      exact o1
    · rw [cl_n (show k < 2 ^ 31 by omega), cl_n (show t < 2 ^ 31 by omega), hN]
      unfold BsA
      rw [hv, hw, hr]
      exact b1
  · have hs2 : s < N := by
      have h : ¬ nI (facN (nIt (A 2) k)) ≤ nI s := h
      rw [hN] at h
      exact cn_lt rfl hs (by omega) h
    have vs : vp_in (nI s) 120 := vp_in_nI (by omega) (by decide)
    have vs2 : vp_in (nI s) (facN (nIt (A 2) k)) := by
      rw [hN]
      exact vp_in_nI hs2 (by omega)
    have hmu : 200 - (nI s + 1).toNatClampNeg < 200 - (nI s).toNatClampNeg := cn_mu (by omega) (by decide)
    rw [nI_1] at hmu
    have hBs := b2 s (Nat.le_refl _) hs2
    have hbs := hbnd s
    have clS : (nI s).toNatClampNeg = s := cl_n (by omega)
    simp only [clS] at hmu
    simp only [clS, nI_1]
    have hIvS : ∀ A2, offA [32 + k, 44 + k, 56 + k] A A2 → BsC (v s) wy rk (t + 1) (A2 (32 + k) s) (A2 (44 + k) s) (A2 (56 + k) s) → (∀ s', s' ≠ s → A2 (32 + k) s' = A1 (32 + k) s' ∧ A2 (44 + k) s' = A1 (44 + k) s' ∧ A2 (56 + k) s' = A1 (56 + k) s') → Iv (nI (v s t)) (nI (s + 1)) A2 := by
      intro A2 o2 hb ho
      rw [hIv]
      refine ⟨s + 1, hs2, rfl, ?_, o2, fun s' h => ?_, fun s' h h2 => ?_⟩
      · rw [Nat.add_sub_cancel]
        exact (hcost s hs2).symm
      · rcases Nat.lt_succ_iff_lt_or_eq.mp h with z | z
        · obtain ⟨z1, z2, z3⟩ := ho s' (by omega)
          rw [z1, z2, z3]
          exact b1 s' z
        · subst z
          exact hb
      · obtain ⟨z1, z2, z3⟩ := ho s' (by omega)
        rw [z1, z2, z3]
        exact b2 s' (by omega) h2
    have main : ∀ c, c = nI (v s t) → (vp_in (nI s) 120 ∧ ((A1 (32 + k) s ≤ c → vp_in (nI s) 120 ∧ ((¬ c = A1 (32 + k) s → Iv c (nI (s + 1)) A1 ∧ 200 - (nI (s + 1)).toNatClampNeg < 200 - s) ∧ (c = A1 (32 + k) s → vp_in (nI k) 11 ∧ vp_in (nI s) 120 ∧ vp_in (nI s) 120 ∧ vp_in (nI t) (facN (nIt (A 2) (k + 1))) ∧ vp_in (nI k) 11 ∧ vp_in (nI s) 120 ∧ vp_in (up2 A1 (44 + k) s (A1 (44 + k) s + A (44 + (k + 1)) t) (56 + k) s) (facN (nIt (A 2) (k + 1))) ∧ ((up2 A1 (44 + k) s (A1 (44 + k) s + A (44 + (k + 1)) t) (74 + 4 * nIt (A 2) (k + 1)) (up2 A1 (44 + k) s (A1 (44 + k) s + A (44 + (k + 1)) t) (56 + k) s).toNatClampNeg ≤ up2 A1 (44 + k) s (A1 (44 + k) s + A (44 + (k + 1)) t) (74 + 4 * nIt (A 2) (k + 1)) t → Iv c (nI (s + 1)) (up2 A1 (44 + k) s (A1 (44 + k) s + A (44 + (k + 1)) t)) ∧ 200 - (nI (s + 1)).toNatClampNeg < 200 - s) ∧ (¬ up2 A1 (44 + k) s (A1 (44 + k) s + A (44 + (k + 1)) t) (74 + 4 * nIt (A 2) (k + 1)) (up2 A1 (44 + k) s (A1 (44 + k) s + A (44 + (k + 1)) t) (56 + k) s).toNatClampNeg ≤ up2 A1 (44 + k) s (A1 (44 + k) s + A (44 + (k + 1)) t) (74 + 4 * nIt (A 2) (k + 1)) t → vp_in (nI k) 11 ∧ vp_in (nI s) 120 ∧ Iv c (nI (s + 1)) (up2 (up2 A1 (44 + k) s (A1 (44 + k) s + A (44 + (k + 1)) t)) (56 + k) s (nI t)) ∧ 200 - (nI (s + 1)).toNatClampNeg < 200 - s)))) ) ∧ (¬ A1 (32 + k) s ≤ c → vp_in (nI s) 120 ∧ vp_in (nI k) 11 ∧ vp_in (nI s) 120 ∧ vp_in (nI k) 11 ∧ vp_in (nI s) 120 ∧ Iv c (nI (s + 1)) (up2 (up2 (up2 A1 (32 + k) s c) (44 + k) s (A (44 + (k + 1)) t)) (56 + k) s (nI t)) ∧ 200 - (nI (s + 1)).toNatClampNeg < 200 - s))) := by
      rintro c rfl
      rw [hways]
      refine ⟨vs, fun h1 => ⟨vs, fun h2 => ⟨hIvS A1 o1 (BsC_gt hBs hbs h1 h2) (fun _ _ => ⟨rfl, rfl, rfl⟩), hmu⟩, fun h2 => ?_⟩, fun h1 => ⟨vs, vk, vs, vk, vs, hIvS _ (((o1.up (by simp)).up (by simp)).up (by simp)) ?_ (fun s' hs' => ?_), hmu⟩⟩
      · obtain ⟨t0, g1, g2, g3, g4⟩ := BsC_eq hBs hbs h2
        have en : up2 A1 (44 + k) s (A1 (44 + k) s + wy t) (56 + k) s = nI t0 := by rw [up2_k (by omega), g2]
        have er : ∀ u, u < facN (nIt (A 2) (k + 1)) → up2 A1 (44 + k) s (A1 (44 + k) s + wy t) (74 + 4 * nIt (A 2) (k + 1)) u = nI (rk u) := fun u hu => by rw [up2_k (by omega), hd1 _ (by omega)]; exact (hrk u hu).1
        rw [en, cl_n (show t0 < 2 ^ 31 by omega), er t0 (by omega), er t ht]
        have r1 := (hrk t0 (by omega)).2
        have r2 := (hrk t ht).2
        refine ⟨vk, vs, vs, vt2, vk, vs, vp_in_nI (by omega) (by omega), fun h3 => ⟨hIvS _ (o1.up (by simp)) ?_ (fun s' hs' => ?_), hmu⟩, fun h3 => ⟨vk, vs, hIvS _ ((o1.up (by simp)).up (by simp)) ?_ (fun s' hs' => ?_), hmu⟩⟩
        · rw [up2_k (by omega), up2_s, up2_k (by omega)]
          exact g3 ((nI_leI (by omega) (by omega)).mp h3)
        · rw [up2_k (by omega), up2_j hs', up2_k (by omega)]
          exact ⟨rfl, rfl, rfl⟩
        · rw [up2_k (by omega), up2_k (by omega), up2_k (by omega), up2_s, up2_s]
          exact g4 ((nI_ltI (by omega) (by omega)).mp (nle h3))
        · rw [up2_k (by omega), up2_k (by omega), up2_k (by omega), up2_j hs', up2_j hs', up2_k (by omega)]
          exact ⟨rfl, rfl, rfl⟩
      · rw [up2_k (by omega), up2_k (by omega), up2_s, up2_k (by omega), up2_s, up2_s]
        exact BsC_lt hBs hbs h1
      · rw [up2_k (by omega), up2_k (by omega), up2_j hs', up2_k (by omega), up2_j hs', up2_k (by omega), up2_j hs', up2_k (by omega), up2_k (by omega)]
        exact ⟨rfl, rfl, rfl⟩
    refine ⟨fun h0 => ?_, fun h0 => ?_⟩
    · have es : s = 0 := by
        have := (nI_leI (b := 0) (by omega) (by decide)).mp h0
        omega
      refine main _ ?_
      rw [← hcost s hs2, es]
    · have es : 0 < s := by
        rcases Nat.eq_zero_or_pos s with z | z
        · rw [z] at h0
          exact absurd (by decide) h0
        · exact z
      obtain ⟨j, j1, j2, j3⟩ := hex s es hs2
      have e1 : A1 (73 + 4 * nIt (A 2) k) s = nI j := by rw [hd1 _ (by omega)]; exact j2
      rw [e1, cl_n (show j < 2 ^ 31 by omega), hd1 70 (Or.inl rfl)]
      refine ⟨vs2, vp_in_nI j1 (by decide), main _ ?_⟩
      rw [← hcost s hs2, j3]
      grind
