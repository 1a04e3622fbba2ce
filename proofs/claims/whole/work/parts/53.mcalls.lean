/-! the model's public calls that ask for no order -/
def MOK (I A : HI) : Prop := SOK (mSt I A) ∧ mRo0 I A
def mP (I A : HI) (v : Int32) (s : StT) (r : Int32) (I' A' : HI) : Prop := r = v ∧ mSt I' A' = s ∧ MOK I' A' ∧ LoS I A I' A'
def mV (I A : HI) (s : StT) (I' A' : HI) : Prop := mSt I' A' = s ∧ MOK I' A' ∧ LoS I A I' A'
theorem LoS.rf {I A : HI} : LoS I A I A := fun _ _ => ⟨rfl, rfl⟩
theorem LoS.upI {I A I1 A1 : HI} {j : Nat} {v : Int32} (h : LoS I A I1 A1) : LoS I A (up2 I1 96 j v) A1 := fun q hq => ⟨by rw [up2_off (by omega)]; exact (h q hq).1, (h q hq).2⟩
theorem m_off {I A I2 A2 : HI} {L : List (Nat × Nat)} {ks : List Nat} (hI : offI L I I2) (hA : offA ks A A2) (hL : ∀ q, q ∈ L → q.1 = 96 ∧ q.2 ≠ 2 ∧ q.2 ≠ 3 ∧ q.2 ≠ 4) (hk : ∀ k, k ∈ ks → 100 ≤ k) : mSt I2 A2 = mSt I A ∧ LoS I A I2 A2 := by
  have a : ∀ k, k < 100 → A2 k = A k := fun k h => hA k (fun z => by have := hk k z; omega)
  refine ⟨?_, fun k h => ⟨?_, a k (by omega)⟩⟩
  · unfold mSt
    rw [a 97 (by decide), a 98 (by decide), a 99 (by decide), hI 96 2 (fun z => (hL _ z).2.1 rfl), hI 96 3 (fun z => (hL _ z).2.2.1 rfl), hI 96 4 (fun z => (hL _ z).2.2.2 rfl)]
  · funext j
    exact hI k j (fun z => by have := (hL _ z).1; simp only at this; omega)
theorem told_off {I : HI} : offI [(96, 0)] I (up2 I 96 0 0) := offI.rf.up (by decide)
theorem m_told {I A : HI} (h : MOK I A) : mSt (up2 I 96 0 0) A = mSt I A ∧ MOK (up2 I 96 0 0) A ∧ LoS I A (up2 I 96 0 0) A := by
  obtain ⟨h1, h2⟩ := m_off (told_off (I := I)) (offA.rf (ks := []) (A := A)) (by simp) (by simp)
  refine ⟨h1, ⟨by rw [h1]; exact h.1, ?_⟩, h2⟩
  unfold mRo0
  rw [up2_j (by decide)]
  exact h.2
theorem fRo_m {I A I2 A2 : HI} (hp : MOK I A) (h : fRo (up2 I 96 0 0) A I2 A2) : mSt I2 A2 = mSt I A ∧ MOK I2 A2 ∧ LoS I A I2 A2 ∧ MRow (A 97) I2 A2 ∧ A2 97 = A 97 := by
  obtain ⟨o, p, r⟩ := h
  have p2 : offI [(96, 0), (96, 7), (96, 8), (96, 12)] I I2 := (told_off.sub (by simp)).tr (p.sub (by simp))
  obtain ⟨h1, h2⟩ := m_off p2 o (by simp) (by simp)
  refine ⟨h1, ⟨by rw [h1]; exact hp.1, ?_⟩, h2, r, o 97 (by decide)⟩
  have := hp.2
  unfold mRo0 StOK StN at this ⊢
  rw [p2 96 22 (by decide), o 110 (by decide)]
  exact this
theorem cnI_n (f : Nat → Int32) : ∀ n, cnI f n = nI (fb_ct (fun j => decide (0 < f j)) n)
  | 0 => rfl
  | n + 1 => by
    rw [cnI, fb_ct_succ, cnI_n f n]
    by_cases h : 0 < f n
    · rw [if_pos h, decide_eq_true h, if_pos rfl, nI_1]
    · rw [if_neg h, decide_eq_false h, if_neg (by decide), Nat.add_zero]
theorem zPP_z {a b : Int32} : zPP a b = 0 ↔ (zP a = 0 ∨ zP b = 0) := by
  constructor
  · intro h
    by_cases h1 : zP a = 0
    · exact Or.inl h1
    · by_cases h2 : zP b = 0
      · exact Or.inr h2
      · obtain ⟨i, hi, rfl⟩ := zP_ne h1
        obtain ⟨j, hj, rfl⟩ := zP_ne h2
        rw [zPP_of hi hj] at h
        exact absurd h (by decide)
  · intro h
    by_cases z : zPP a b = 0
    · exact z
    · obtain ⟨i, j, hi, hj, rfl, rfl⟩ := zPP_ne z
      rw [zP_of hi, zP_of hj] at h
      rcases h with h | h <;> exact absurd h (by decide)
set_option maxHeartbeats 4000000 in
theorem c_X9_flow (l : Launch) (D : va_G) (ads : AD) (I A : HI) (a1 a2 a3 : Int32) (hp : MOK I A) : Ct l yX9_flow cX9_flow 4 (some .boolean) 1 22 D ads shp [.inr (some 96), .inl a1, .inl a2, .inl a3] I A (qJ (mP I A (aFl (mSt I A).1 a1 a2 a3) (nFl (mSt I A) a1 a2 a3))) := by
  obtain ⟨t1, t2, t3⟩ := m_told hp
  have hF : FO (mSt I A).1 := hp.1.1
  have no : aFl (mSt I A).1 a1 a2 a3 = 0 → qJ (mP I A (aFl (mSt I A).1 a1 a2 a3) (nFl (mSt I A) a1 a2 a3)) (some (.inl 0)) (up2 I 96 0 0) A := by
    intro h
    refine qJ_i ⟨h.symm, ?_, t2, t3⟩
    unfold nFl
    rw [if_pos h]
    exact t1
  have no2 : (zPP a1 a2 = 0 ∨ a1 = a2 ∨ a3 < 0 ∨ 99 < a3) → aFl (mSt I A).1 a1 a2 a3 = 0 := fun h => if_pos h
  refine k_X9_flow l D ads I A a1 a2 a3 _ ⟨fun h => no (no2 (Or.inl (zPP_z.mpr (Or.inl h)))), fun h => ⟨fun h2 => no (no2 (Or.inl (zPP_z.mpr (Or.inr h2)))), fun h2 => ⟨fun h3 => no (no2 (Or.inr (Or.inl h3))), fun h3 => ⟨fun h4 => no (no2 (Or.inr (Or.inr (Or.inl h4)))), fun h4 => ⟨fun h5 => ?_, fun h5 => no (no2 (Or.inr (Or.inr (Or.inr (nle h5)))))⟩⟩⟩⟩⟩
  obtain ⟨i, hi, rfl⟩ := zP_ne h
  obtain ⟨j, hj, rfl⟩ := zP_ne h2
  have e : 10 * nI i + nI j = nI (10 * i + j) := ix_b i j
  have cl : (nI (10 * i + j)).toNatClampNeg = 10 * i + j := cl_n (by omega)
  have v : vp_in (nI (10 * i + j)) 100 := vp_in_nI (by omega) (by decide)
  have hij : i ≠ j := fun z => h3 (by rw [z])
  rw [e, cl]
  have hc : ¬ (zPP (nI i) (nI j) = 0 ∨ nI i = nI j ∨ a3 < 0 ∨ 99 < a3) := by
    rintro (z | z | z | z)
    · rw [zPP_of hi hj] at z
      exact absurd z (by decide)
    · exact h3 z
    · exact h4 z
    · exact le_nlt h5 z
  have yes : (a3 = 0 ∨ 0 < (mSt I A).1 (10 * i + j) ∨ flC (mSt I A).1 < 16) → qJ (mP I A (aFl (mSt I A).1 (nI i) (nI j) a3) (nFl (mSt I A) (nI i) (nI j) a3)) (some (.inl 1)) (up2 I 96 0 0) (up2 A 97 (10 * i + j) a3) := by
    intro hy
    have e1 : aFl (mSt I A).1 (nI i) (nI j) a3 = 1 := by
      unfold aFl
      rw [if_neg hc, cl_n (by omega), cl_n (by omega), if_pos hy]
    have eS : mSt (up2 I 96 0 0) (up2 A 97 (10 * i + j) a3) = nFl (mSt I A) (nI i) (nI j) a3 := by
      unfold nFl
      rw [if_neg (by rw [e1]; decide), cl_n (by omega), cl_n (by omega)]
      unfold mSt
      rw [up2_row, up2_off (by decide), up2_off (by decide), up2_j (by decide), up2_j (by decide), up2_j (by decide)]
    refine qJ_i ⟨e1.symm, eS, ⟨?_, ?_⟩, fun k hk => ⟨(t3 k hk).1, up2_off (by omega)⟩⟩
    · rw [eS]
      unfold nFl
      rw [if_neg (by rw [e1]; decide), cl_n (by omega), cl_n (by omega)]
      exact ⟨FO_upd hF hi hj hij (nlt h4) h5 hy, hp.1.2⟩
    · have := t2.2
      unfold mRo0 StOK StN at this ⊢
      rw [up2_off (k := 97) (a := 110) (by decide)]
      exact this
  refine ⟨fun h6 => ⟨v, yes (Or.inl ?_)⟩, fun h6 => ⟨v, fun h7 => ⟨v, yes (Or.inr (Or.inl ((hF.ne (by omega)).mp h7)))⟩, fun h7 => ⟨fun h8 => ⟨v, yes (Or.inr (Or.inr ?_))⟩, fun h8 => no ?_⟩⟩⟩
  · obtain ⟨c, c1, rfl⟩ := nI_of h4
    have := (nI_lt0 c1).mp h6
    rw [this]
    rfl
  · have h3' : flC (mSt I A).1 ≤ 16 := hF.2.2
    have hne : ¬ flC (mSt I A).1 = 16 := by
      intro z
      apply h8
      rw [cnI_n]
      exact congrArg nI z
    omega
  · have h8' : flC (mSt I A).1 = 16 := by
      rw [cnI_n] at h8
      have := flC_le (mSt I A).1
      exact (nI_eq (b := 16) (by omega) (by decide)).mp h8
    unfold aFl
    rw [if_neg hc, cl_n (by omega), cl_n (by omega), if_neg]
    rintro (z | z | z)
    · exact h6 (by rw [z]; decide)
    · exact ((hF.ne (show 10 * i + j < 100 by omega)).mpr z) h7
    · omega
theorem fil_s {A : HI} {k j : Nat} {v : Int32} : up2 (filA A k j v) k j v = filA A k (j + 1) v := by
  funext a b
  unfold up2 filA
  by_cases e1 : a = k
  · by_cases e2 : b = j
    · simp [e1, e2]
    · by_cases e3 : b < j
      · simp [e1, e2, e3, Nat.lt_succ_of_lt e3]
      · simp [e1, e2, e3, show ¬ b < j + 1 by omega]
  · simp [e1]
theorem fil_0 {A : HI} {k : Nat} {v : Int32} : filA A k 0 v = A := by
  funext a b
  simp [filA]
theorem fil_row {A : HI} {k n : Nat} {v : Int32} : filA A k n v k = fun b => if b < n then v else A k b := by
  funext b
  unfold filA
  by_cases z : b < n
  · rw [if_pos ⟨rfl, z⟩, if_pos z]
  · rw [if_neg (fun q => z q.2), if_neg z]
theorem c_X9_clear (l : Launch) (D : va_G) (ads : AD) (I A : HI) (hp : MOK I A) : Ct l yX9_clear cX9_clear 2 none 0 0 D ads shp [.inr (some 96)] I A (qV (mV I A (nCl (mSt I A)))) := by
  obtain ⟨t1, t2, t3⟩ := m_told hp
  refine k_X9_clear l D ads I A _ (fun x A' => ∃ j, j ≤ 100 ∧ x = nI j ∧ A' = filA A 97 j 0) (fun x _ => 100 - x.toNatClampNeg) ⟨⟨0, Nat.zero_le _, rfl, fil_0.symm⟩, ?_⟩
  rintro x A1 ⟨j, hj, rfl, rfl⟩
  refine ⟨fun h => ?_, fun h => ?_⟩
  · have e := cn_eq (N := 100) rfl hj (by decide) h
    subst e
    have eS : mSt (up2 I 96 0 0) (filA A 97 100 0) = nCl (mSt I A) := by
      unfold nCl mSt
      rw [fil_row, fil_off (by decide), fil_off (by decide), up2_j (by decide), up2_j (by decide), up2_j (by decide)]
    refine qV_i ⟨eS, ⟨by rw [eS]; exact (nCl_ok hp.1).1, ?_⟩, fun k hk => ⟨(t3 k hk).1, fil_off (by omega)⟩⟩
    have := t2.2
    unfold mRo0 StOK StN at this ⊢
    rw [fil_off (by decide)]
    exact this
  · have hj2 := cn_lt (N := 100) rfl hj (by decide) h
    refine ⟨vp_in_nI hj2 (by decide), ⟨j + 1, hj2, nI_1 j, ?_⟩, cn_mu hj2 (by decide)⟩
    rw [cl_n (by omega), fil_s]
theorem c_X9_set (l : Launch) (D : va_G) (ads : AD) (I A : HI) (a1 a2 : Int32) (hp : MOK I A) : Ct l yX9_set cX9_set 3 (some .boolean) 0 0 D ads shp [.inr (some 96), .inl a1, .inl a2] I A (qJ (mP I A (aSe a1 a2) (nSe (mSt I A) a1 a2))) := by
  obtain ⟨t1, t2, t3⟩ := m_told hp
  have no : (a1 < 0 ∨ 50 < a1 ∨ a2 < 0 ∨ ¬ a2 ≤ 9999) → qJ (mP I A (aSe a1 a2) (nSe (mSt I A) a1 a2)) (some (.inl 0)) (up2 I 96 0 0) A := by
    intro h
    have e : aSe a1 a2 = 0 := if_pos h
    refine qJ_i ⟨e.symm, ?_, t2, t3⟩
    unfold nSe
    rw [if_pos e]
    exact t1
  refine k_X9_set l D ads I A a1 a2 _ ⟨fun h => no (Or.inl h), fun h => ⟨fun h2 => no (Or.inr (Or.inl h2)), fun h2 => ⟨fun h3 => no (Or.inr (Or.inr (Or.inl h3))), fun h3 => ⟨fun h4 => ?_, fun h4 => no (Or.inr (Or.inr (Or.inr h4)))⟩⟩⟩⟩
  have e : aSe a1 a2 = 1 := if_neg (fun z => by
    rcases z with z | z | z | z
    · exact h z
    · exact h2 z
    · exact h3 z
    · exact z h4)
  obtain ⟨q, q1, rfl⟩ := nI_of h3
  have hq : q ≤ 9999 := (nI_leI (b := 9999) q1 (by decide)).mp h4
  have eS : mSt (up2 (up2 (up2 I 96 0 0) 96 2 a1) 96 3 (nI q)) A = nSe (mSt I A) a1 (nI q) := by
    unfold nSe
    rw [if_neg (by rw [e]; decide)]
    unfold mSt
    rw [up2_j (by decide), up2_s, up2_s, up2_j (by decide), up2_j (by decide), up2_j (by decide)]
  refine qJ_i ⟨e.symm, eS, ⟨?_, ?_⟩, LoS.upI (LoS.upI t3)⟩
  · rw [eS]
    unfold nSe
    rw [if_neg (by rw [e]; decide)]
    exact ⟨hp.1.1, hp.1.2.1, ⟨q, hq, rfl⟩, hp.1.2.2.2⟩
  · have := t2.2
    unfold mRo0 at this ⊢
    rw [up2_j (by decide), up2_j (by decide)]
    exact this
theorem fRo_mP {I A I2 A2 : HI} (hp : MOK I A) (h : fRo (up2 I 96 0 0) A I2 A2) {v u : Int32} (e : v = u) : qJ (mP I A u (mSt I A)) (some (.inl v)) I2 A2 := qJ_i ⟨e, (fRo_m hp h).1, (fRo_m hp h).2.1, (fRo_m hp h).2.2.1⟩
theorem mSt_2 {I A I' A' : HI} (h : mSt I' A' = mSt I A) : A' 97 = A 97 ∧ A' 98 = A 98 ∧ A' 99 = A 99 ∧ I' 96 2 = I 96 2 ∧ I' 96 3 = I 96 3 ∧ I' 96 4 = I 96 4 := by
  unfold mSt at h
  simp only [Prod.mk.injEq] at h
  exact h
def AbV (w : Nat → Int32) (j : Nat) (x2 x3 x4 x5 : Int32) : Prop := x2 = nI (fb_ct (fun j => decide (0 < w j)) j) ∧ x3 = sm32 w j ∧ x4 = sm32 (fun j => if trB w j then 1 else 0) j ∧ x5 = sm32 (fun j => if trB w j then w j else 0) j
theorem AbV_z {w : Nat → Int32} {j : Nat} {x2 x3 x4 x5 : Int32} (h : AbV w j x2 x3 x4 x5) (hz : w j = 0) : AbV w (j + 1) x2 x3 x4 x5 := by
  obtain ⟨rfl, rfl, rfl, rfl⟩ := h
  have n0 : ¬ 0 < w j := by rw [hz]; decide
  have nt : trB w j = false := by
    unfold trB
    rw [decide_eq_false n0]
    rfl
  refine ⟨?_, ?_, ?_, ?_⟩
  · rw [fb_ct_succ, decide_eq_false n0, if_neg (by decide), Nat.add_zero]
  · show sm32 w j = sm32 w j + w j
    rw [hz, Int32.add_zero]
  · show _ = sm32 _ j + (if trB w j then 1 else 0)
    rw [nt, if_neg (by decide), Int32.add_zero]
  · show _ = sm32 _ j + (if trB w j then w j else 0)
    rw [nt, if_neg (by decide), Int32.add_zero]
theorem AbV_n {w : Nat → Int32} {j : Nat} {x2 x3 x4 x5 : Int32} (h : AbV w j x2 x3 x4 x5) (hz : 0 < w j) (b : Bool) (hb : trB w j = b) : AbV w (j + 1) (x2 + 1) (x3 + w j) (x4 + if b then 1 else 0) (x5 + if b then w j else 0) := by
  obtain ⟨rfl, rfl, rfl, rfl⟩ := h
  subst hb
  refine ⟨?_, rfl, rfl, rfl⟩
  rw [fb_ct_succ, decide_eq_true hz, if_pos rfl, nI_1]
set_option maxHeartbeats 8000000 in
theorem c_X9_about (l : Launch) (D : va_G) (ads : AD) (I A : HI) (a1 : Int32) (hp : MOK I A) : Ct l yX9_about cX9_about 9 (some .int) 2 48 D ads shp [.inr (some 96), .inl a1] I A (qJ (mP I A (aAb (mSt I A) a1) (mSt I A))) := by
  have hF : FO (A 97) := hp.1.1
  refine k_X9_about l D ads I A a1 _ (c_X9_findRow l D ads)
    (fun _ _ x2 x3 x4 x5 x6 => ∃ a, a ≤ 10 ∧ x6 = nI a ∧ AbV (A 97) (10 * a) x2 x3 x4 x5) (fun _ _ _ _ _ _ x6 => 20 - x6.toNatClampNeg)
    (fun _ _ _ _ _ _ x6 x2 x3 x4 x5 x7 => ∃ a b, a < 10 ∧ b ≤ 10 ∧ x6 = nI a ∧ x7 = nI b ∧ AbV (A 97) (10 * a + b) x2 x3 x4 x5) (fun _ _ _ _ _ _ _ _ _ _ _ x7 => 20 - x7.toNatClampNeg) ⟨hF, ?_⟩
  rintro I2 A2 h2
  obtain ⟨e1, m2, lo2, r2, e97⟩ := fRo_m hp h2
  obtain ⟨s97, s98, s99, s2, s3, s4⟩ := mSt_2 e1
  refine ⟨⟨0, Nat.zero_le _, rfl, rfl, rfl, rfl, rfl⟩, ?_⟩
  rintro x2 x3 x4 x5 x6 ⟨a, ha, rfl, hv⟩
  refine ⟨fun h => ?_, fun h => ?_⟩
  · have e := cn_eq (N := 10) rfl ha (by decide) h
    subst e
    obtain ⟨v1, v2, v3, v4⟩ := hv
    refine ⟨fun n0 => ⟨fun n1 => ⟨fun n2 => ⟨fun n3 => ⟨fun n4 => ⟨fun n5 => ⟨fun n6 => ⟨fun n7 => fRo_mP hp h2 ?_, fun n7 => ⟨fun z => fRo_mP hp h2 ?_, fun z => fRo_mP hp h2 ?_⟩⟩, fun n6 => fRo_mP hp h2 ?_⟩, fun n5 => fRo_mP hp h2 ?_⟩, fun n4 => fRo_mP hp h2 ?_⟩, fun n3 => fRo_mP hp h2 ?_⟩, fun n2 => fRo_mP hp h2 ?_⟩, fun n1 => fRo_mP hp h2 ?_⟩, fun n0 => fRo_mP hp h2 ?_⟩
    · unfold aAb
      rw [if_neg n0, if_neg n1, if_neg n2, if_neg n3, if_neg n4, if_neg n5, if_neg n6, if_neg n7]
    · unfold aAb
      rw [if_neg n0, if_neg n1, if_neg n2, if_neg n3, if_neg n4, if_neg n5, if_neg n6, if_pos n7]
      rw [s4] at z
      exact z.symm
    · unfold aAb
      rw [if_neg n0, if_neg n1, if_neg n2, if_neg n3, if_neg n4, if_neg n5, if_neg n6, if_pos n7]
      rw [s4] at z
      rcases hp.1.2.2.2.1 with y | y
      · exact absurd y z
      · exact y.symm
    · unfold aAb
      rw [if_neg n0, if_neg n1, if_neg n2, if_neg n3, if_neg n4, if_neg n5, if_pos n6]
      exact s3
    · unfold aAb
      rw [if_neg n0, if_neg n1, if_neg n2, if_neg n3, if_neg n4, if_pos n5]
      exact s2
    · unfold aAb
      rw [if_neg n0, if_neg n1, if_neg n2, if_neg n3, if_pos n4]
      exact r2.2.2.2.2.2
    · unfold aAb
      rw [if_neg n0, if_neg n1, if_neg n2, if_pos n3]
      exact v4
    · unfold aAb
      rw [if_neg n0, if_neg n1, if_pos n2]
      exact v3
    · unfold aAb
      rw [if_neg n0, if_pos n1]
      exact v2
    · unfold aAb
      rw [if_pos n0]
      exact v1
  · have ha2 := cn_lt (N := 10) rfl ha (by decide) h
    refine ⟨⟨a, 0, ha2, Nat.zero_le _, rfl, rfl, hv⟩, ?_⟩
    rintro y2 y3 y4 y5 x7 ⟨a', b, ha', hb, ea, rfl, hw⟩
    have ea : a' = a := ((nI_eq (by omega) (by omega)).mp ea).symm
    subst ea
    refine ⟨fun h3 => ?_, fun h3 => ?_⟩
    · have e := cn_eq (N := 10) rfl hb (by decide) h3
      subst e
      exact ⟨⟨a' + 1, ha2, nI_1 a', by rw [Nat.mul_succ]; exact hw⟩, cn_mu (by omega) (by decide)⟩
    · have hb2 := cn_lt (N := 10) rfl hb (by decide) h3
      have hmu : 20 - (nI b + 1).toNatClampNeg < 20 - (nI b).toNatClampNeg := cn_mu (by omega) (by decide)
      have e : 10 * nI a' + nI b = nI (10 * a' + b) := ix_b a' b
      rw [e, cl_n (show 10 * a' + b < 2 ^ 31 by omega), e97]
      refine ⟨vp_in_nI (by omega) (by decide), fun hz => ?_, fun hz => ⟨⟨a', b + 1, ha2, hb2, rfl, nI_1 b, AbV_z hw hz⟩, hmu⟩⟩
      have hz := (hF.ne (show 10 * a' + b < 100 by omega)).mp hz
      rw [trn_is hF r2.2.2.2.1 ha2 hb2 hz]
      refine ⟨⟨vp_in_nI ha2 (by decide), vp_in_nI hb2 (by decide)⟩, fun ht => ⟨⟨a', b + 1, ha2, hb2, rfl, nI_1 b, ?_⟩, hmu⟩, fun ht => ⟨⟨a', b + 1, ha2, hb2, rfl, nI_1 b, ?_⟩, hmu⟩⟩
      · have hb : trB (A 97) (10 * a' + b) = true := by
          cases q : trB (A 97) (10 * a' + b)
          · rw [q, if_neg (by decide)] at ht
            exact absurd rfl ht
          · rfl
        exact AbV_n hw hz true hb
      · have hb : trB (A 97) (10 * a' + b) = false := by
          cases q : trB (A 97) (10 * a' + b)
          · rfl
          · rw [q, if_pos rfl] at ht
            exact absurd ht (by decide)
        have := AbV_n hw hz false hb
        simp only [Bool.false_eq_true, if_false, Int32.add_zero] at this
        exact this
theorem c_X9_width (l : Launch) (D : va_G) (ads : AD) (I A : HI) (a1 a2 : Int32) (hp : MOK I A) : Ct l yX9_width cX9_width 3 (some .int) 1 21 D ads shp [.inr (some 96), .inl a1, .inl a2] I A (qJ (mP I A (aWd (mSt I A).1 a1 a2) (mSt I A))) := by
  obtain ⟨t1, t2, t3⟩ := m_told hp
  refine k_X9_width l D ads I A a1 a2 _ ⟨fun h => qJ_i ⟨(if_pos (zPP_z.mpr (Or.inl h))).symm, t1, t2, t3⟩, fun h => ⟨fun h2 => qJ_i ⟨(if_pos (zPP_z.mpr (Or.inr h2))).symm, t1, t2, t3⟩, fun h2 => ?_⟩⟩
  obtain ⟨i, hi, rfl⟩ := zP_ne h
  obtain ⟨j, hj, rfl⟩ := zP_ne h2
  have e : 10 * nI i + nI j = nI (10 * i + j) := ix_b i j
  rw [e, cl_n (show 10 * i + j < 2 ^ 31 by omega)]
  refine ⟨vp_in_nI (by omega) (by decide), qJ_i ⟨?_, t1, t2, t3⟩⟩
  unfold aWd
  rw [zPP_of hi hj, if_neg (by decide), cl_n (by omega), cl_n (by omega)]
  rfl
theorem isF_a {w : Nat → Int32} (hF : FO w) {a b : Int32} : isF w a b = 0 ↔ aWd w a b = 0 := by
  unfold isF aWd
  by_cases z : zPP a b = 0
  · rw [if_pos z, if_pos (zPP_z.mp z)]
  · rw [if_neg z, if_neg (fun y => z (zPP_z.mpr y))]
    obtain ⟨i, j, hi, hj, rfl, rfl⟩ := zPP_ne z
    rw [ix_b, cl_n (by omega), cl_n (by omega), cl_n (by omega)]
    by_cases y : 0 < w (10 * i + j)
    · rw [if_pos y]
      exact ⟨fun q => absurd q (by decide), fun q => absurd q ((hF.ne (by omega)).mpr y)⟩
    · rw [if_neg y]
      exact ⟨fun _ => hF.npos (by omega) y, fun _ => rfl⟩
theorem c_X9_turned (l : Launch) (D : va_G) (ads : AD) (I A : HI) (a1 a2 : Int32) (hp : MOK I A) : Ct l yX9_turned cX9_turned 3 (some .int) 2 48 D ads shp [.inr (some 96), .inl a1, .inl a2] I A (qJ (mP I A (aTu (mSt I A).1 a1 a2) (mSt I A))) := by
  have hF : FO (A 97) := hp.1.1
  refine k_X9_turned l D ads I A a1 a2 _ (c_X9_findRow l D ads) ⟨hF, fun I2 A2 h2 => ?_⟩
  obtain ⟨e1, m2, lo2, r2, e97⟩ := fRo_m hp h2
  rw [e97, isF_a hF]
  refine ⟨fun h => ?_, fun h => fRo_mP hp h2 ?_⟩
  · have h' : ¬ aWd (mSt I A).1 a1 a2 = 0 := h
    obtain ⟨i, j, hi, hj, rfl, rfl, ew⟩ := aWd_ne h
    rw [ew] at h
    have hw := (hF.ne (show 10 * i + j < 100 by omega)).mp h
    have et : aTu (mSt I A).1 (nI i) (nI j) = if trB (A 97) (10 * i + j) then 1 else 0 := by
      unfold aTu
      rw [if_neg h', cl_n (by omega), cl_n (by omega)]
      rfl
    rw [trn_is hF r2.2.2.2.1 hi hj hw]
    refine ⟨⟨vp_in_nI hi (by decide), vp_in_nI hj (by decide)⟩, fun z => fRo_mP hp h2 ?_, fun z => fRo_mP hp h2 ?_⟩
    · rw [et]
      exact z.symm
    · rw [et]
      split at z
      · rename_i q
        rw [if_pos q]
      · exact absurd rfl z
  · have h' : aWd (mSt I A).1 a1 a2 = 0 := h
    unfold aTu
    rw [if_pos h']
theorem c_X9_row (l : Launch) (D : va_G) (ads : AD) (I A : HI) (a1 : Int32) (hp : MOK I A) : Ct l yX9_row cX9_row 2 (some .int) 2 48 D ads shp [.inr (some 96), .inl a1] I A (qJ (mP I A (aRo (mSt I A).1 a1) (mSt I A))) := by
  refine k_X9_row l D ads I A a1 _ (c_X9_findRow l D ads) ⟨hp.1.1, fun I2 A2 h2 => ?_⟩
  obtain ⟨e1, m2, lo2, r2, e97⟩ := fRo_m hp h2
  have hn := nU_le (A 97)
  rw [r2.2.1]
  refine ⟨fun h => fRo_mP hp h2 (if_pos (Or.inl h)).symm, fun h => ⟨fun h3 => fRo_mP hp h2 (if_pos (Or.inr h3)).symm, fun h3 => ?_⟩⟩
  obtain ⟨i, i1, rfl⟩ := nI_of h
  have hi : i < nU (A 97) := (nI_ltI i1 (by omega)).mp (nle h3)
  rw [cl_n i1]
  refine ⟨vp_in_nI (by omega) (by decide), fRo_mP hp h2 ?_⟩
  show A2 100 i = aRo (A 97) (nI i)
  unfold aRo
  rw [if_neg (fun z => z.elim h h3), cl_n i1]
  exact r2.2.2.1 i hi
theorem c_X9_layer (l : Launch) (D : va_G) (ads : AD) (I A : HI) (a1 : Int32) (hp : MOK I A) : Ct l yX9_layer cX9_layer 2 (some .int) 2 48 D ads shp [.inr (some 96), .inl a1] I A (qJ (mP I A (aLa (mSt I A).1 a1) (mSt I A))) := by
  refine k_X9_layer l D ads I A a1 _ (c_X9_findRow l D ads) ⟨hp.1.1, fun I2 A2 h2 => ?_⟩
  obtain ⟨e1, m2, lo2, r2, e97⟩ := fRo_m hp h2
  refine ⟨fun h => fRo_mP hp h2 (if_pos h).symm, fun h => ?_⟩
  obtain ⟨p, p1, rfl⟩ := zP_ne h
  rw [r2.1, uBt_iff p1, cl_n (show p < 2 ^ 31 by omega)]
  refine ⟨fun h3 => fRo_mP hp h2 ?_, fun h3 => ⟨vp_in_nI p1 (by decide), fRo_mP hp h2 ?_⟩⟩
  · show _ = aLa (A 97) (nI p)
    unfold aLa
    rw [if_neg h, cl_n (by omega), h3, if_neg (by decide)]
  · have hu : usd (A 97) p = true := by
      cases q : usd (A 97) p
      · exact absurd q h3
      · rfl
    show _ = aLa (A 97) (nI p)
    unfold aLa
    rw [if_neg h, cl_n (by omega), hu, if_pos rfl]
    exact r2.2.2.2.2.1 p p1 hu
theorem c_X9_rest (l : Launch) (D : va_G) (ads : AD) (I A : HI) (a1 : Int32) (hp : MOK I A) : Ct l yX9_rest cX9_rest 4 (some .int) 1 21 D ads shp [.inr (some 96), .inl a1] I A (qJ (mP I A (aRe (mSt I A).1 a1) (mSt I A))) := by
  obtain ⟨t1, t2, t3⟩ := m_told hp
  refine k_X9_rest l D ads I A a1 _ (fun x y => ∃ t, t ≤ 10 ∧ y = nI t ∧ x = sm32 (fun a => A 97 (10 * a + a1.toNatClampNeg)) t - sm32 (fun b => A 97 (10 * a1.toNatClampNeg + b)) t) (fun _ y => 10 - y.toNatClampNeg) ⟨fun h => ⟨⟨0, Nat.zero_le _, rfl, show (0 : Int32) = 0 - 0 by decide⟩, ?_⟩, fun h => qJ_i ⟨by unfold aRe; rw [if_pos h], t1, t2, t3⟩⟩
  obtain ⟨p, p1, rfl⟩ := zP_ne h
  have clp : (nI p).toNatClampNeg = p := cl_n (by omega)
  rintro x y ⟨t, ht, rfl, rfl⟩
  refine ⟨fun h2 => qJ_i ⟨?_, t1, t2, t3⟩, fun h2 => ?_⟩
  · have e := cn_eq (N := 10) rfl ht (by decide) h2
    subst e
    unfold aRe
    rw [if_neg h]
    rfl
  · have ht2 := cn_lt (N := 10) rfl ht (by decide) h2
    have e1 : 10 * nI t + nI p = nI (10 * t + p) := ix_b t p
    have e2 : 10 * nI p + nI t = nI (10 * p + t) := ix_b p t
    rw [e1, e2, cl_n (show 10 * t + p < 2 ^ 31 by omega), cl_n (show 10 * p + t < 2 ^ 31 by omega), clp]
    refine ⟨vp_in_nI (by omega) (by decide), vp_in_nI (by omega) (by decide), ⟨t + 1, ht2, nI_1 t, ?_⟩, cn_mu ht2 (by decide)⟩
    show _ = (sm32 (fun a => A 97 (10 * a + p)) t + A 97 (10 * t + p)) - (sm32 (fun b => A 97 (10 * p + b)) t + A 97 (10 * p + t))
    generalize sm32 (fun a => A 97 (10 * a + p)) t = u
    generalize sm32 (fun b => A 97 (10 * p + b)) t = v
    grind
theorem fIt_m {I A I2 A2 : HI} (hp : MOK I A) (h : fIt (up2 I 96 0 0) A I2 A2) : mSt I2 A2 = mSt I A ∧ MOK I2 A2 ∧ LoS I A I2 A2 ∧ ItOK (A 97) I2 A2 := by
  obtain ⟨o, p, r⟩ := h
  have p2 : offI [(96, 0), (96, 7), (96, 8), (96, 12), (96, 14)] I I2 := (told_off.sub (by simp)).tr (p.sub (by simp))
  obtain ⟨h1, h2⟩ := m_off p2 o (by simp) (by simp)
  refine ⟨h1, ⟨by rw [h1]; exact hp.1, ?_⟩, h2, r⟩
  have := hp.2
  unfold mRo0 StOK StN at this ⊢
  rw [p2 96 22 (by decide), o 110 (by decide)]
  exact this
theorem c_X9_items (l : Launch) (D : va_G) (ads : AD) (I A : HI) (a1 : Int32) (hp : MOK I A) : Ct l yX9_items cX9_items 2 (some .int) 3 72 D ads shp [.inr (some 96), .inl a1] I A (qJ (mP I A (aIs (mSt I A).1 a1) (mSt I A))) := by
  refine k_X9_items l D ads I A a1 _ (c_X9_findItems l D ads) ⟨hp.1.1, fun I2 A2 h2 => ?_⟩
  obtain ⟨e1, m2, lo2, it2⟩ := fIt_m hp h2
  have h10 := nLay_le (A 97)
  rw [it2.1.2.2.2.2.2]
  refine ⟨fun h => qJ_i ⟨(if_pos (Or.inl h)).symm, e1, m2, lo2⟩, fun h => ⟨fun h3 => qJ_i ⟨(if_pos (Or.inr h3)).symm, e1, m2, lo2⟩, fun h3 => ?_⟩⟩
  obtain ⟨k, k1, rfl⟩ := nI_of h
  have hk : k < nLay (A 97) := (nI_ltI k1 (by omega)).mp (nle h3)
  rw [cl_n k1]
  refine ⟨vp_in_nI (by omega) (by decide), qJ_i ⟨?_, e1, m2, lo2⟩⟩
  show _ = aIs (A 97) (nI k)
  unfold aIs
  rw [if_neg (fun z => z.elim h h3), cl_n k1]
  exact (it2.2.1 k (by omega)).1
theorem c_X9_forget (l : Launch) (D : va_G) (ads : AD) (I A : HI) (hp : MOK I A) : Ct l yX9_forget cX9_forget 2 none 0 0 D ads shp [.inr (some 96)] I A (qV (mV I A (nFo (mSt I A)))) := by
  obtain ⟨t1, t2, t3⟩ := m_told hp
  refine k_X9_forget l D ads I A _ (fun x A' => ∃ j, j ≤ 10 ∧ x = nI j ∧ A' = filA A 98 j (-1)) (fun x _ => 10 - x.toNatClampNeg) ⟨⟨0, Nat.zero_le _, rfl, fil_0.symm⟩, ?_⟩
  rintro x A1 ⟨j, hj, rfl, rfl⟩
  refine ⟨fun h => ?_, fun h => ?_⟩
  · have e := cn_eq (N := 10) rfl hj (by decide) h
    subst e
    have eS : mSt (up2 (up2 I 96 0 0) 96 4 0) (filA A 98 10 (-1)) = nFo (mSt I A) := by
      unfold nFo mSt
      rw [fil_row, fil_off (by decide), fil_off (by decide), up2_j (by decide), up2_j (by decide), up2_j (by decide), up2_j (by decide), up2_s]
    refine qV_i ⟨eS, ⟨?_, ?_⟩, fun k hk => ⟨(LoS.upI t3 k hk).1, fil_off (by omega)⟩⟩
    · rw [eS]
      refine ⟨hp.1.1, fun p q hp10 hq10 hpq h1 => ?_, hp.1.2.2.1, Or.inl rfl, fun _ j hj => if_pos hj⟩
      exact absurd (if_pos hp10) h1
    · have := t2.2
      unfold mRo0 StOK StN at this ⊢
      rw [fil_off (by decide), up2_j (by decide)]
      exact this
  · have hj2 := cn_lt (N := 10) rfl hj (by decide) h
    refine ⟨vp_in_nI hj2 (by decide), ⟨j + 1, hj2, nI_1 j, ?_⟩, cn_mu hj2 (by decide)⟩
    rw [cl_n (by omega), fil_s]
