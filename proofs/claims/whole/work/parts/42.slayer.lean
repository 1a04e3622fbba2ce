/-! Search.searchLayer -/
theorem mnN_add (g : Nat → Nat) (c : Nat) {N : Nat} (h : 0 < N) : mnN (fun k => g k + c) N = mnN g N + c := by
  obtain ⟨h1, p, h2, h3⟩ := mnN_is g h
  refine (mnN_uniq ⟨fun t ht => Nat.add_le_add_right (h1 t ht) c, p, h2, ?_⟩).symm
  simp only [h3]
theorem fsN_add (g : Nat → Nat) (c : Nat) {N : Nat} (h : 0 < N) : fsN (fun k => g k + c) N = fsN g N := by
  obtain ⟨h1, h2, h3⟩ := fsN_is g h
  refine fsN_uniq h1 ?_ (fun j hj e => ?_)
  · rw [mnN_add g c h, h2]
  · rw [mnN_add g c h] at e
    exact h3 j hj (by omega)
def NxK (w kl ks : Nat → Int32) (q l : Nat) (A : HI) : Prop := ∀ s, s < facN (nIt w l) → ∃ t, t < facN (nIt w (l + 1)) ∧ A (56 + l) s = nI t ∧ piQ (nIt w (l + 1)) t = nxK w kl ks q l (piQ (nIt w l) s)
theorem BsA_end {w kl ks : Nat → Int32} {q l : Nat} {A : HI} (hD : Dw w) (hl : l < nLay w) (h : ∀ s, s < facN (nIt w l) → BsA w kl ks q l (facN (nIt w (l + 1))) s A) : LsK w kl ks q l A ∧ NxK w kl ks q l A := by
  have hpos := facN_pos (nIt w (l + 1))
  have hn' := hD.2 (l + 1)
  have key : ∀ s, s < facN (nIt w l) → A (32 + l) s = nI (vV w kl ks q l (piQ (nIt w l) s)) ∧ A (44 + l) s = wV w kl ks q l (piQ (nIt w l) s) ∧ ∃ t, t < facN (nIt w (l + 1)) ∧ A (56 + l) s = nI t ∧ piQ (nIt w (l + 1)) t = nxK w kl ks q l (piQ (nIt w l) s) := by
    intro s hs
    rcases h s hs with ⟨h0, -⟩ | ⟨m, t, e1, -, ⟨hB1, hB2⟩, e3, hF⟩
    · omega
    have hm : m = mnN (fun k => vU w kl ks q l (piQ (nIt w l) s) k + q * mN w kl ks l (piQ (nIt w l) s)) (facN (nIt w (l + 1))) := mnN_uniq (mn_pi (f := fun k => vU w kl ks q l (piQ (nIt w l) s) k + q * mN w kl ks l (piQ (nIt w l) s)) hn' hB1)
    have hfs := fs_pi (f := fun k => vU w kl ks q l (piQ (nIt w l) s) k + q * mN w kl ks l (piQ (nIt w l) s)) hn' hm hF
    have hm2 : m = mnN (vU w kl ks q l (piQ (nIt w l) s)) (facN (nIt w (l + 1))) + q * mN w kl ks l (piQ (nIt w l) s) := by
      rw [hm]
      exact mnN_add _ _ hpos
    refine ⟨?_, ?_, t, hF.1, e3, ?_⟩
    · rw [e1, vV_s hl, ← hm2]
    · rw [hB2, wV_s hl]
      refine Eq.trans ?_ (sm_pi (fun k => if vU w kl ks q l (piQ (nIt w l) s) k = mnN (vU w kl ks q l (piQ (nIt w l) s)) (facN (nIt w (l + 1))) then wV w kl ks q (l + 1) k else 0) hn')
      refine sm32_cong (fun t _ => ?_)
      have ec : (vC w kl ks q l s t = m) ↔ (vU w kl ks q l (piQ (nIt w l) s) (piQ (nIt w (l + 1)) t) = mnN (vU w kl ks q l (piQ (nIt w l) s)) (facN (nIt w (l + 1)))) := by
        rw [hm2]
        unfold vC
        omega
      by_cases z : vC w kl ks q l s t = m
      · exact (if_pos z).trans (if_pos (ec.mp z)).symm
      · exact (if_neg z).trans (if_neg (fun y => z (ec.mpr y))).symm
    · rw [hfs]
      exact fsN_add _ _ hpos
  exact ⟨fun s hs => ⟨(key s hs).1, (key s hs).2.1⟩, fun s hs => (key s hs).2.2⟩
def sLa0 (q : Nat) (I A : HI) (a1 a2 : Int32) : Prop := a2 = nI q ∧ q ≤ 9999 ∧ ∃ l, a1 = nI l ∧ l < nLay (A 2) ∧ DrOK (A 2) A ∧ ChOK I A ∧ KpOK (A 27) (A 28) ∧ LsK (A 2) (A 27) (A 28) q (l + 1) A
def lyC (l : Nat) : List Nat := [69, 70, 32 + l, 44 + l, 56 + l]
def sLa (q : Nat) (I A : HI) (a1 a2 : Int32) (I' A' : HI) : Prop := offI [(68, 5)] I I' ∧ offA (lyC a1.toNatClampNeg) A A' ∧ LsK (A 2) (A 27) (A 28) q a1.toNatClampNeg A' ∧ NxK (A 2) (A 27) (A 28) q a1.toNatClampNeg A'
theorem lyC_no {l k : Nat} (hl : l < 11) (h : k < 32 ∨ 70 < k) : k ∉ lyC l := by
  unfold lyC
  simp
  omega
theorem offI.rf {L : List (Nat × Nat)} {I : HI} : offI L I I := fun _ _ _ => rfl
theorem offI.tr {L : List (Nat × Nat)} {I J K : HI} (h1 : offI L I J) (h2 : offI L J K) : offI L I K := fun k j h => (h2 k j h).trans (h1 k j h)
theorem offI.up {L : List (Nat × Nat)} {I J : HI} {k j : Nat} {v : Int32} (h1 : offI L I J) (hk : (k, j) ∈ L) : offI L I (up2 J k j v) := fun a b h => by
  unfold up2
  rw [if_neg (fun e => h (by rw [e.1, e.2]; exact hk))]
  exact h1 a b h
theorem offI.sub {L M : List (Nat × Nat)} {I J : HI} (h1 : offI L I J) (h : ∀ k ∈ L, k ∈ M) : offI M I J := fun k j hk => h1 k j (fun z => hk (h _ z))
theorem JnOK.off {w : Nat → Int32} {q : Int32} {kl ks : Nat → Int32} {l : Nat} {τ : List Nat} {I A I' A' : HI} (h : JnOK w q kl ks l τ I A) (hI : I' 68 5 = I 68 5) (hA : A' 70 = A 70) : JnOK w q kl ks l τ I' A' := by
  unfold JnOK at h ⊢
  rw [hI, hA]
  exact h
set_option maxHeartbeats 16000000 in
theorem c_X6_searchLayer (q : Nat) (l : Launch) (D : va_G) (ads : AD) (I A : HI) (a1 a2 : Int32) (hp : sLa0 q I A a1 a2) : Ct l yX6_searchLayer cX6_searchLayer 5 none 3 77 D ads shp [.inr (some 29), .inl a1, .inl a2] I A (qV (sLa q I A a1 a2)) := by
  obtain ⟨rfl, hq, k, rfl, hk, hD, hCh, hK, hLs⟩ := hp
  have hk10 : k < 10 := Nat.lt_of_lt_of_le hk (nLay_le _)
  have hDw := hD.dw
  have hn := hDw.2 k
  have hn' := hDw.2 (k + 1)
  obtain ⟨c3, c4⟩ := cnt_n hD (show k + 1 < 11 by omega)
  have f2 := (facN_le _ hn').1
  have clk : (nI k).toNatClampNeg = k := cl_n (by omega)
  obtain ⟨Iv, hIv⟩ : ∃ Iv : HI → HI → HI → HI → Int32 → HI → HI → Prop, Iv = fun _ _ _ _ x I' A' => ∃ t, t ≤ facN (nIt (A 2) (k + 1)) ∧ x = nI t ∧ offI [(68, 5)] I I' ∧ offA (lyC k) A A' ∧ LnM (A 2) A' k 100 ∧ JnOK (A 2) (nI q) (A 27) (A 28) k (thL (nIt (A 2) (k + 1)) (t - 1)) I' A' ∧ ∀ s, s < facN (nIt (A 2) k) → BsA (A 2) (A 27) (A 28) q k t s A' := ⟨_, rfl⟩
  refine k_X6_searchLayer l D ads I A (nI k) (nI q) _ (c_X3_gatherLinks l D ads) (c_X3_begin l D ads) (c_X6_tryNext q l D ads) (c_X3_exchangeNext l D ads) Iv (fun _ _ _ _ x _ _ => 200 - x.toNatClampNeg) ?_
  have ek1 : (nI k + 1).toNatClampNeg = k + 1 := by rw [nI_1, cl_n (by omega)]
  simp only [ek1, c3, mn5 _ hn', chN_f _ hn', clk]
  refine ⟨⟨by rw [nI_1]; exact vp_in_nI (by omega) (by decide), nI_pos' (by omega)⟩, ⟨A 2, k, hD, hk10, rfl⟩, ?_⟩
  rintro I3 A3 ⟨rfl, o3, m3⟩
  have hL3 := m3 (A 2) k hD hk10 rfl
  have hD3 : DrOK (A 2) A3 := hD.off1 o3 (by decide)
  have e2 : A3 2 = A 2 := o3 2 (by decide)
  refine ⟨⟨by rw [e2]; exact hD3, k, hk10, rfl, by rw [e2]; exact hL3⟩, ?_⟩
  rintro I5 A5 ⟨p5, o5, j5⟩
  rw [e2, o3 27 (by decide), o3 28 (by decide), clk, ← th_0 _ hn'] at j5
  have o35 : offA (lyC k) A A5 := (o3.sub (by unfold lyC; simp)).tr (o5.sub (by unfold lyC; simp))
  refine ⟨vp_in_nI (by omega) (by decide), ?_, ?_⟩
  · rw [hIv]
    have hf : ∀ j, j ≠ 32 + k → filA A5 (32 + k) 120 2147483647 j = A5 j := by
      intro j hj
      funext b
      unfold filA
      rw [if_neg (fun z => hj z.1)]
    refine ⟨0, Nat.zero_le _, rfl, p5, ?_, ?_, j5.off rfl (hf 70 (by omega)), fun s hs => Or.inl ⟨rfl, ?_⟩⟩
    · intro j hj
      rw [hf j (fun z => hj (by unfold lyC; simp [z]))]
      exact o35 j hj
    · intro f g hf1 hg1
      rw [hf 69 (by omega), o5 69 (by decide)]
      exact hL3 f g hf1 hg1
    · unfold filA
      rw [if_pos ⟨rfl, by have := (facN_le _ hn).1; omega⟩]
  rintro x I6 A6 hI
  rw [hIv] at hI
  obtain ⟨t, ht, rfl, p6, o6, m6, j6, b6⟩ := hI
  have hnum : ∀ {I' : HI}, offI [(68, 5)] I3 I' → ∀ n, n < 6 → I' (71 + 4 * n) 0 = I3 (71 + 4 * n) 0 ∧ I' (71 + 4 * n) 1 = I3 (71 + 4 * n) 1 := by
    intro I' hp n hn9
    refine ⟨hp _ _ (fun z => ?_), hp _ _ (fun z => ?_)⟩
    · simp at z
    · simp at z
  have hno : ∀ {A' : HI}, offA (lyC k) A A' → ∀ j, j < 32 ∨ 70 < j → A' j = A j := fun ho j hj => ho j (lyC_no (by omega) hj)
  have hDr : ∀ {A' : HI}, offA (lyC k) A A' → DrOK (A 2) A' := fun ho => hD.off (hno ho 11 (by omega)) (hno ho 12 (by omega)) (fun j hj => hno ho _ (by omega))
  have hCh6 : ∀ {I' A' : HI}, offI [(68, 5)] I3 I' → offA (lyC k) A A' → ChOK I' A' := fun hp ho => hCh.off (hnum hp) (fun j h1 h2 => hno ho j (by omega))
  have hLs6 : ∀ {A' : HI}, offA (lyC k) A A' → LsK (A 2) (A 27) (A 28) q (k + 1) A' := by
    intro A' ho s hs
    rw [ho (32 + (k + 1)) (by unfold lyC; simp; omega), ho (44 + (k + 1)) (by unfold lyC; simp; omega)]
    exact hLs s hs
  rw [(hnum p6 _ hn').2, (hCh _ hn').2.1]
  refine ⟨fun h => ?_, fun h => ?_⟩
  · have e := cn_eq rfl ht (by omega) h
    subst e
    obtain ⟨z1, z2⟩ := BsA_end hDw hk b6
    refine qV_i ⟨p6, ?_, ?_, ?_⟩
    · rw [clk]
      exact o6
    · rw [clk]
      exact z1
    · rw [clk]
      exact z2
  · have ht2 := cn_lt rfl ht (by omega) h
    have clt : (nI t).toNatClampNeg = t := cl_n (by omega)
    -- tryNext, at a state where Joint holds the order t
    have main : ∀ I' A', offI [(68, 5)] I3 I' → offA (lyC k) A A' → LnM (A 2) A' k 100 → JnOK (A 2) (nI q) (A 27) (A 28) k (thL (nIt (A 2) (k + 1)) t) I' A' → (∀ s, s < facN (nIt (A 2) k) → BsA (A 2) (A 27) (A 28) q k t s A') → (tNx0 q I' A' (nI k) (nI t) (nIt (A 2) (k + 1)) ∧ ∀ I10 A10, tNx q I' A' (nI k) (nI t) (nIt (A 2) (k + 1)) I10 A10 → Iv I3 A3 I5 A5 (nI t + 1) I10 A10 ∧ 200 - (nI t + 1).toNatClampNeg < 200 - (nI t).toNatClampNeg) := by
      intro I' A' p' o' m' j' b'
      have w2 := hno o' 2 (by omega)
      have w27 := hno o' 27 (by omega)
      have w28 := hno o' 28 (by omega)
      refine ⟨⟨k, t, rfl, rfl, ?_⟩, ?_⟩
      · unfold TnP
        rw [w2, w27, w28]
        exact ⟨hDr o', hCh6 p' o', hK, hq, hk, rfl, ht2, j', hLs6 o', b'⟩
      · rintro I10 A10 ⟨rfl, o10, b10⟩
        rw [w2, w27, w28, clt, clk] at b10
        rw [clk] at o10
        refine ⟨?_, cn_mu (by omega) (by decide)⟩
        rw [hIv]
        refine ⟨t + 1, ht2, nI_1 t, p', o'.tr (o10.sub (by unfold lyC; simp)), ?_, ?_, b10⟩
        · intro f g hf hg
          rw [o10 69 (by simp; omega)]
          exact m' f g hf hg
        · rw [Nat.add_sub_cancel]
          exact j'.off rfl (o10 70 (by simp; omega))
    refine ⟨fun h0 => ?_, fun h0 => ?_⟩
    · have et : t = 0 := by
        have := (nI_leI (b := 0) (by omega) (by decide)).mp h0
        omega
      refine main I6 A6 p6 o6 m6 ?_ b6
      rw [et] at j6 ⊢
      exact j6
    · have et : 0 < t := by
        rcases Nat.eq_zero_or_pos t with z | z
        · rw [z] at h0
          exact absurd (by decide) h0
        · exact z
      obtain ⟨pre, post, x, y, e1, e2', e3⟩ := ch_swap hn' (t := t - 1) (by omega)
      rw [show t - 1 + 1 = t by omega] at e2' e3
      have hok := thL_ok hn' (show t - 1 < facN (nIt (A 2) (k + 1)) by omega)
      have hmem : ∀ z, z ∈ thL (nIt (A 2) (k + 1)) (t - 1) → z < nIt (A 2) (k + 1) := fun z hz => by
        rw [th_or hn' (by omega)] at hz
        exact (or_mem hn' hok.2.1).mp hz
      have hx := hmem x (by rw [e1]; simp)
      have hy := hmem y (by rw [e1]; simp)
      have w2 := hno o6 2 (by omega)
      have eA : A6 (73 + 4 * nIt (A 2) (k + 1)) t = nI (5 * x + y) := by
        rw [((hCh6 p6 o6 _ hn').2.2 t ht2).2.2 et, e3]
      rw [clt, eA]
      refine ⟨vp_in_nI ht2 (by omega), ⟨?_, k, hk10, rfl, ?_, x, y, by omega, by omega, rfl⟩, ?_⟩
      · rw [w2]
        exact hDr o6
      · rw [w2]
        exact m6
      · rintro I13 A13 ⟨p13, o13, j13⟩
        rw [w2, clk] at j13
        have j13 := j13 (nI q) (A 27) (A 28) pre post x y (by omega) (by omega) rfl (by rw [← e1]; exact j6)
        rw [← e2'] at j13
        have main := main I13 A13 (p6.tr p13) (o6.tr (o13.sub (by unfold lyC; simp)))
        rw [clt] at main
        refine main ?_ j13 ?_
        · intro f g hf hg
          rw [o13 69 (by decide)]
          exact m6 f g hf hg
        · intro s hs
          have := b6 s hs
          unfold BsA at this ⊢
          rw [o13 (32 + k) (by simp; omega), o13 (44 + k) (by simp; omega), o13 (56 + k) (by simp; omega)]
          exact this
