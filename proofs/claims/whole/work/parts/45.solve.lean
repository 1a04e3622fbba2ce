/-! Search.solve -/
def schC : List Nat := List.range' 32 11 ++ List.range' 44 11 ++ List.range' 56 12 ++ [69, 70]
theorem schC_mem {x : Nat} : x ∈ schC ↔ ((32 ≤ x ∧ x ≤ 42) ∨ (44 ≤ x ∧ x ≤ 54) ∨ (56 ≤ x ∧ x ≤ 67) ∨ x = 69 ∨ x = 70) := by
  unfold schC
  simp only [List.mem_append, List.mem_range'_1, List.mem_cons, List.not_mem_nil, or_false]
  omega
theorem schC_no {x : Nat} (h : x < 32 ∨ 70 < x) : x ∉ schC := fun z => by
  have := schC_mem.mp z
  omega
def OrdOK (w kl ks : Nat → Int32) (q : Nat) (I A : HI) : Prop := CsOK w (chS w kl ks q) A ∧ I 29 9 = nI (vT w kl ks q) ∧ I 29 10 = wT w kl ks q ∧ PrN w kl ks (chS w kl ks q) (nLay w) I
def sol0 (q : Nat) (I A : HI) (a1 : Int32) : Prop := q ≤ 9999 ∧ a1 = nI q ∧ DrOK (A 2) A ∧ ChOK I A ∧ KpOK (A 27) (A 28) ∧ I 3 11 = nI (nLay (A 2))
def solI : List (Nat × Nat) := [(68, 5), (29, 9), (29, 10), (29, 11), (29, 12), (29, 13)]
def sol (q : Nat) (I A : HI) (a1 : Int32) (I' A' : HI) : Prop := offI solI I I' ∧ offA schC A A' ∧ OrdOK (A 2) (A 27) (A 28) q I' A'
theorem x_m1 (x : Int32) : x + (-1) + 1 = x := by grind
theorem nIt_out {w : Nat → Int32} (hF : FO w) : nIt w (nLay w) = 0 := by
  show (itL w (nLay w)).length = 0
  rw [itL_out hF (Nat.le_refl _)]
  rfl
set_option maxHeartbeats 16000000 in
theorem c_X6_solve (q : Nat) (l : Launch) (D : va_G) (ads : AD) (I A : HI) (a1 : Int32) (hp : sol0 q I A a1) : Ct l yX6_solve cX6_solve 4 none 4 101 D ads shp [.inr (some 29), .inl a1] I A (qV (sol q I A a1)) := by
  obtain ⟨hq, rfl, hD, hCh, hK, hN⟩ := hp
  have hDw := hD.dw
  have h10 := nLay_le (A 2)
  have c0 : (0 : Int32).toNatClampNeg = 0 := rfl
  have clN : (nI (nLay (A 2))).toNatClampNeg = nLay (A 2) := cl_n (by omega)
  have vN : vp_in (nI (nLay (A 2))) 11 := vp_in_nI (by omega) (by decide)
  have v0 : vp_in (0 : Int32) 120 := vp_in_nI (n := 0) (by decide) (by decide)
  have hDr : ∀ {A' : HI}, offA schC A A' → DrOK (A 2) A' := fun ho => hD.off (ho 11 (schC_no (by omega))) (ho 12 (schC_no (by omega))) (fun j hj => ho _ (schC_no (by omega)))
  have hCk : ∀ {I' A' : HI} {L : List (Nat × Nat)}, offI L I I' → (∀ q, q ∈ L → q.1 < 71) → offA schC A A' → ChOK I' A' := fun hp hL ho => hCh.off (fun n hn => ⟨hp _ _ (fun z => by have := hL _ z; simp only at this; omega), hp _ _ (fun z => by have := hL _ z; simp only at this; omega)⟩) (fun j h1 h2 => ho j (schC_no (by omega)))
  have hly : ∀ {j : Nat}, j < nLay (A 2) → ∀ x, x ∈ lyC j → x ∈ schC := by
    intro j hj x hx
    unfold lyC at hx
    simp only [List.mem_cons, List.not_mem_nil, or_false] at hx
    exact schC_mem.mpr (by omega)
  refine k_X6_solve l D ads I A (nI q) _ (c_X6_chooseFirst q l D ads) (c_X6_countParts (chS (A 2) (A 27) (A 28) q) l D ads) (c_X6_searchLayer q l D ads)
    (fun x I' A' => ∃ m, m ≤ nLay (A 2) ∧ x + 1 = nI m ∧ offI [(68, 5)] I I' ∧ offA schC A A' ∧ LsK (A 2) (A 27) (A 28) q m A' ∧ ∀ j, m ≤ j → j < nLay (A 2) → NxK (A 2) (A 27) (A 28) q j A')
    (fun x _ _ => (x + 1).toNatClampNeg)
    (fun _ _ _ _ _ x A' => ∃ j, j ≤ nLay (A 2) ∧ x = nI j ∧ offA schC A A' ∧ (∀ t, t < nLay (A 2) → NxK (A 2) (A 27) (A 28) q t A') ∧ ∀ t, t ≤ j → A' 67 t = nI (piR (nIt (A 2) t) (chS (A 2) (A 27) (A 28) q t)))
    (fun _ _ _ _ _ x _ => 20 - x.toNatClampNeg) ?_
  rw [hN, clN, c0]
  refine ⟨vN, v0, vN, v0, ⟨nLay (A 2), Nat.le_refl _, by grind, offI.rf, (offA.rf.up (schC_mem.mpr (by omega))).up (schC_mem.mpr (by omega)), ?_, fun j h1 h2 => absurd h2 (by omega)⟩, ?_⟩
  · intro s hs
    have e0 := nIt_out hD.1
    rw [e0] at hs
    have es : s = 0 := by
      have : facN 0 = 1 := rfl
      omega
    subst es
    rw [vV_e (Nat.le_refl _), wV_e (Nat.le_refl _), up2_k (by omega), up2_s, up2_s]
    exact ⟨rfl, rfl⟩
  rintro x I1 A1 ⟨m, hm, ex, p1, o1, l1, n1⟩
  have w2 := o1 2 (schC_no (by omega))
  have w27 := o1 27 (schC_no (by omega))
  have w28 := o1 28 (schC_no (by omega))
  refine ⟨fun h => ?_, fun h => ?_⟩
  · have em : m = 0 := by
      rcases Nat.eq_zero_or_pos m with z | z
      · exact z
      · have e1 : x = nI (m - 1) := by
          have := nI_pred (m - 1)
          rw [show m - 1 + 1 = m by omega, ← ex] at this
          rw [← this]
          grind
        rw [e1] at h
        exact absurd h (nI_pos (by omega))
    subst em
    refine ⟨⟨hq, by rw [w2]; exact hDr o1, hCk p1 (by simp) o1, by rw [w2, w27, w28]; exact l1⟩, ?_⟩
    rintro I5 A5 ⟨p5, o5, t1, t2, t3⟩
    rw [w2, w27, w28] at t1 t2 t3
    have o15 : offA schC A A5 := o1.tr (o5.sub (by intro k hk; simp only [List.mem_singleton] at hk; rw [hk]; exact schC_mem.mpr (by omega)))
    refine ⟨⟨0, Nat.zero_le _, rfl, o15, fun t ht => ?_, fun t ht => ?_⟩, ?_⟩
    · intro s hs
      obtain ⟨u, u1, u2, u3⟩ := n1 t (Nat.zero_le _) ht s hs
      exact ⟨u, u1, by rw [o5 _ (by simp; omega)]; exact u2, u3⟩
    · rw [show t = 0 by omega]
      exact t3
    rintro x2 A6 ⟨j, hj, rfl, o6, n6, s6⟩
    have w2' := o6 2 (schC_no (by omega))
    have w27' := o6 27 (schC_no (by omega))
    have w28' := o6 28 (schC_no (by omega))
    have p15 : offI [(68, 5), (29, 9), (29, 10)] I I5 := (p1.sub (by simp)).tr (p5.sub (by simp))
    refine ⟨fun h => ?_, fun h => ?_⟩
    · have e := cn_eq rfl hj (by omega) h
      subst e
      have hCs : CsOK (A 2) (chS (A 2) (A 27) (A 28) q) A6 := fun t ht => ⟨chS_lt _ _ _ _ _, s6 t ht⟩
      refine ⟨⟨by rw [w2']; exact ⟨hDr o6, hCk p15 (by simp) o6, hCs⟩, by rw [w27', w28']; exact hK, by rw [w2']⟩, ?_⟩
      rintro I7 A7 ⟨p7, o7, n7⟩
      rw [w2', w27', w28'] at n7
      refine qV_i ⟨?_, o6.tr (o7.sub (by intro k hk; simp only [List.mem_singleton] at hk; rw [hk]; exact schC_mem.mpr (by omega))), ?_, ?_, ?_, n7⟩
      · exact (p15.sub (by unfold solI; simp)).tr (p7.sub (by unfold solI prI; simp))
      · intro t ht
        rw [o7 67 (by decide)]
        exact hCs t ht
      · rw [p7 29 9 (by decide)]
        exact t1
      · rw [p7 29 10 (by decide)]
        exact t2
    · have hj2 := cn_lt rfl hj (by omega) h
      have hn := hDw.2 j
      have hlt := chS_lt (A 2) (A 27) (A 28) q j
      obtain ⟨r1, -, r3⟩ := piR_ok hn hlt
      have f1 := (facN_le _ hn).1
      obtain ⟨u, u1, u2, u3⟩ := n6 j hj2 _ r1
      rw [r3] at u3
      have ej1 : (nI j + 1).toNatClampNeg = j + 1 := by rw [nI_1, cl_n (by omega)]
      have v11 : vp_in (nI j) 11 := vp_in_nI (by omega) (by decide)
      rw [ej1, cl_n (show j < 2 ^ 31 by omega), s6 j (Nat.le_refl _), cl_n (show piR (nIt (A 2) j) (chS (A 2) (A 27) (A 28) q j) < 2 ^ 31 by omega), u2]
      refine ⟨v11, v11, vp_in_nI (by omega) (by decide), by rw [nI_1]; exact vp_in_nI (by omega) (by decide), ⟨j + 1, hj2, nI_1 j, o6.up (schC_mem.mpr (by omega)), fun t ht => ?_, fun t ht => ?_⟩, by omega⟩
      · intro s hs
        obtain ⟨z, z1, z2, z3⟩ := n6 t ht s hs
        exact ⟨z, z1, by rw [up2_k (by omega)]; exact z2, z3⟩
      · rcases Nat.lt_or_eq_of_le ht with z | z
        · rw [up2_j (by omega)]
          exact s6 t (by omega)
        · rw [z, up2_s]
          show nI u = nI (piR _ (nxK (A 2) (A 27) (A 28) q j (chS (A 2) (A 27) (A 28) q j)))
          rw [← u3, piR_Q (hDw.2 (j + 1)) u1]
  · have hm0 : 0 < m := by
      rcases Nat.eq_zero_or_pos m with z | z
      · exfalso
        rw [z] at ex
        have e1 : x = -1 := by
          have : x + 1 = 0 := ex
          grind
        rw [e1] at h
        exact h (by decide)
      · exact z
    have e1 : x = nI (m - 1) := by
      have := nI_pred (m - 1)
      rw [show m - 1 + 1 = m by omega, ← ex] at this
      rw [← this]
      grind
    have clx : (nI (m - 1)).toNatClampNeg = m - 1 := cl_n (by omega)
    refine ⟨⟨rfl, hq, m - 1, e1, by rw [w2]; omega, by rw [w2]; exact hDr o1, hCk p1 (by simp) o1, by rw [w27, w28]; exact hK, by rw [w2, w27, w28, show m - 1 + 1 = m by omega]; exact l1⟩, ?_⟩
    rintro I10 A10 ⟨p10, o10, l10, n10⟩
    rw [w2, w27, w28, e1, clx] at l10 n10
    rw [e1, clx] at o10
    refine ⟨⟨m - 1, by omega, by rw [x_m1]; exact e1, p1.tr p10, o1.tr (o10.sub (hly (by omega))), l10, fun j h1 h2 => ?_⟩, ?_⟩
    · rcases Nat.lt_or_eq_of_le h1 with z | z
      · intro s hs
        obtain ⟨u, u1, u2, u3⟩ := n1 j (by omega) h2 s hs
        refine ⟨u, u1, ?_, u3⟩
        rw [o10 _ (by unfold lyC; simp; omega)]
        exact u2
      · rw [← z]
        exact n10
    · rw [x_m1, ex, e1, clx, cl_n (by omega)]
      omega
