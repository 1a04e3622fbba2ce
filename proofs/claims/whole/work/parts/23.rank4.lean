/-! THE ROW in the class -/
theorem RkSt.off {w : Nat → Int32} {I A A' : HI} {ks : List Nat} (h : RkSt w I A) (ho : offA ks A A') (h4 : 4 ∉ ks) (h5 : 5 ∉ ks) (h6 : 6 ∉ ks) (h7 : 7 ∉ ks) (h8 : 8 ∉ ks) : RkSt w I A' := by
  obtain ⟨hF, hU, hS, hL⟩ := h
  refine ⟨hF, ⟨hU.1, fun p a b => by rw [ho 4 h4]; exact hU.2 p a b⟩, ⟨fun i hi => ⟨by rw [ho 5 h5]; exact (hS.1 i hi).1, fun S => ?_⟩, by rw [ho 5 h5]; exact hS.2⟩, fun t ht => by rw [ho 8 h8]; exact hL t ht⟩
  rw [← (hS.1 i hi).2 S]
  exact slS_up (fun t _ => by rw [ho 6 h6]) (fun t _ => by rw [ho 7 h7])
theorem and_clr {S i : Nat} (h : S.testBit i = true) : nI S &&& (nI (2 ^ i) ^^^ (-1)) = nI (S ^^^ 2 ^ i) := by
  apply Int32.toBitVec_inj.1
  show BitVec.ofNat 32 S &&& (BitVec.ofNat 32 (2 ^ i) ^^^ (-1 : Int32).toBitVec) = BitVec.ofNat 32 (S ^^^ 2 ^ i)
  rw [show (-1 : Int32).toBitVec = BitVec.allOnes 32 by decide]
  apply BitVec.eq_of_getLsbD_eq
  intro j hj
  have e : (S ^^^ 2 ^ i).testBit j = (S.testBit j ^^ decide (j = i)) := fb_bit_flip S i j
  have e2 : (2 ^ i).testBit j = decide (j = i) := by
    rw [Nat.testBit_two_pow]
    by_cases z : i = j
    · simp [z]
    · simp [z, show ¬ j = i from fun q => z q.symm]
  simp only [BitVec.getLsbD_and, BitVec.getLsbD_xor, BitVec.getLsbD_ofNat, BitVec.getLsbD_allOnes, hj, decide_true, Bool.true_and, e, e2]
  by_cases z : j = i
  · subst z
    simp [h]
  · simp [z]
def lUp (I A I' A' : HI) : Prop := I' = I ∧ offA [9, 10] A A' ∧ (∀ k, k < nU (A 2) → A' 9 k = nI (rowF (A 2) k)) ∧ ∀ p, p < 10 → A' 10 p = if usd (A 2) p then nI (posF (A 2) p) else -1
set_option maxHeartbeats 4000000 in
theorem c_X5_lineUp (l : Launch) (D : va_G) (ads : AD) (I A : HI) (hp : RkSt (A 2) I A) : Ct l yX5_lineUp cX5_lineUp 4 none 2 47 D ads shp [.inr (some 3)] I A (qV (lUp I A)) := by
  have hn10 : nU (A 2) ≤ 10 := nU_le _
  have hI : I 3 2 = nI (nU (A 2)) := hp.2.1.1
  have h1024 := pow10 hn10
  have h2n : 1 ≤ 2 ^ nU (A 2) := Nat.one_le_two_pow
  refine k_X5_lineUp l D ads I A _ (c_X5_firstOf l D ads)
    (fun left spot A' => ∃ k S, k ≤ nU (A 2) ∧ spot = nI k ∧ left = nI S ∧ S < 2 ^ nU (A 2) ∧ em (A 2) S = Sk (A 2) k ∧ offA [9, 10] A A' ∧ (∀ j, j < k → A' 9 j = nI (rowF (A 2) j) ∧ A' 10 (rowF (A 2) j) = nI j) ∧ ∀ p, p < 10 → (∀ j, j < k → rowF (A 2) j ≠ p) → A' 10 p = -1)
    (fun _ spot _ => 10 - spot.toNatClampNeg) ⟨⟨0, 2 ^ nU (A 2) - 1, Nat.zero_le _, rfl, ?_, by omega, em_all _, fun q hq => ?_, fun j h => absurd h (Nat.not_lt_zero j), fun p hp9 _ => ?_⟩, ?_⟩
  · rw [hI, sh1 _ (by omega)]
    exact pk_sub (b := 1) h2n
  · funext b
    unfold filA
    rw [if_neg]
    rintro ⟨rfl, -⟩
    exact hq (by decide)
  · unfold filA
    rw [if_pos ⟨rfl, hp9⟩]
  rintro left spot A1 ⟨k, S, hk, rfl, rfl, hS, hem, hoff, hrow, hno⟩
  rw [hI]
  refine ⟨fun h => ?_, fun h => ?_⟩
  · have e := cn_eq rfl hk (by omega) h
    subst e
    refine qV_i ⟨rfl, hoff, fun k hk => (hrow k hk).1, fun p hp9 => ?_⟩
    cases hu : usd (A 2) p
    · refine hno p hp9 (fun j hj e => ?_)
      have := (row_used hj).2
      rw [e, hu] at this
      cases this
    · obtain ⟨z1, z2⟩ := pos_is hp9 hu
      have := (hrow _ z1).2
      rw [z2] at this
      rw [this]
      rfl
  · have hk2 := cn_lt rfl hk (by omega) h
    have hpc := Sk_pc (A 2) k (by omega)
    have hS0 : 0 < S := by
      rcases Nat.eq_zero_or_pos S with z | z
      · rw [z, em_0] at hem
        rw [← hem, show pc10 0 = 0 by decide] at hpc
        omega
      · exact z
    have e2 : A1 2 = A 2 := hoff 2 (by decide)
    have hst : RkSt (A1 2) I A1 := by
      rw [e2]
      exact hp.off hoff (by decide) (by decide) (by decide) (by decide) (by decide)
    have hff : fOf I A1 (nI S) = nI (rk (A 2) (rowF (A 2) k)) := by
      unfold fOf
      rw [e2, cl_n (by omega), hem]
      rfl
    have hrk := row_is hk2
    obtain ⟨r1, r2⟩ := row_used hk2
    have hi := rk_lt r1 r2
    have h4 : A1 4 (rk (A 2) (rowF (A 2) k)) = nI (rowF (A 2) k) := by
      rw [hoff 4 (by decide)]
      exact hp.2.1.2 _ r1 r2
    have hbit : S.testBit (rk (A 2) (rowF (A 2) k)) = true := by
      have z := hrk.2.1
      rw [← hem, em_bit] at z
      simp only [Bool.and_eq_true, decide_eq_true_eq] at z
      exact z.2.2
    rw [hff, cl_n (show rk (A 2) (rowF (A 2) k) < 2 ^ 31 by omega), cl_n (show k < 2 ^ 31 by omega), up2_k (show (4 : Nat) ≠ 9 by decide), h4, cl_n (show rowF (A 2) k < 2 ^ 31 by omega), sh1 _ (by omega), and_clr hbit]
    refine ⟨⟨hst, S, hS0, by rw [e2]; exact hS, rfl⟩, vp_in_nI (by omega) (by decide), vp_in_nI (by omega) (by decide), vp_in_nI (by omega) (by decide), vp_in_nI r1 (by decide), ⟨k + 1, S ^^^ 2 ^ rk (A 2) (rowF (A 2) k), hk2, nI_1 k, rfl, xor_lt hS hi, ?_, (hoff.up (by decide)).up (by decide), fun j hj => ?_, fun p hp9 hpn => ?_⟩, ?_⟩
    · rw [em_flip r1 r2, hem]
      rfl
    · rcases Nat.lt_succ_iff_lt_or_eq.mp hj with z | z
      · obtain ⟨g1, g2⟩ := hrow j z
        have hne : rowF (A 2) j ≠ rowF (A 2) k := fun e => by
          have := row_inj (by omega) hk2 e
          omega
        rw [up2_k (by decide), up2_j (by omega), up2_j hne, up2_k (by decide)]
        exact ⟨g1, g2⟩
      · subst z
        rw [up2_k (by decide), up2_s, up2_s]
        exact ⟨rfl, rfl⟩
    · rw [up2_j (fun e => hpn k (Nat.lt_succ_self k) e.symm), up2_k (by decide)]
      exact hno p hp9 (fun j hj => hpn j (Nat.lt_succ_of_lt hj))
    · rw [nI_1, cl_n (by omega)]
      omega
/-! what is turned -/
def trC (w sp : Nat → Int32) (j : Nat) : Bool := decide (0 < w j) && decide (sp (j % 10) < sp (j / 10))
def pFl (I A I' A' : HI) : Prop := I' = up2 (up2 I 3 12 (sm32 (fun j => if trC (A 2) (A 10) j then 1 else 0) 100)) 3 13 (sm32 (fun j => if trC (A 2) (A 10) j then A 2 j else 0) 100) ∧ offA [12] A A' ∧ ∀ j, j < 100 → A' 12 j = if trC (A 2) (A 10) j then 0 else A 2 j
theorem up2_x {f : HI} {k a b : Nat} {x y x' y' : Int32} (h : a ≠ b) : up2 (up2 (up2 (up2 f k a x) k b y) k a x') k b y' = up2 (up2 f k a x') k b y' := by
  funext p q
  unfold up2
  by_cases h1 : p = k
  · by_cases h2 : q = b
    · simp [h1, h2]
    · by_cases h3 : q = a
      · simp [h1, h3, h]
      · simp [h1, h2, h3]
  · simp [h1]
theorem dm10 {a b : Nat} (hb : b < 10) : (10 * a + b) / 10 = a ∧ (10 * a + b) % 10 = b := by omega
set_option maxHeartbeats 4000000 in
theorem c_X5_partFlows (l : Launch) (D : va_G) (ads : AD) (I A : HI) : Ct l yX5_partFlows cX5_partFlows 4 none 2 43 D ads shp [.inr (some 3)] I A (qV (pFl I A)) := by
  let cI : Nat → Int32 := sm32 (fun j => if trC (A 2) (A 10) j then 1 else 0)
  let sI : Nat → Int32 := sm32 (fun j => if trC (A 2) (A 10) j then A 2 j else 0)
  let Inv : Nat → HI → HI → Prop := fun j I' A' => I' = up2 (up2 I 3 12 (cI j)) 3 13 (sI j) ∧ offA [12] A A' ∧ (∀ t, t < j → A' 12 t = if trC (A 2) (A 10) t then 0 else A 2 t) ∧ ∀ t, j ≤ t → t < 100 → A' 12 t = 0
  refine k_X5_partFlows l D ads I A _
    (fun x I' A' => ∃ a, a ≤ 10 ∧ x = nI a ∧ Inv (10 * a) I' A')
    (fun x _ _ => 10 - x.toNatClampNeg)
    (fun y _ _ x I' A' => ∃ a b, a < 10 ∧ b ≤ 10 ∧ y = nI a ∧ x = nI b ∧ Inv (10 * a + b) I' A')
    (fun _ _ _ x _ _ => 10 - x.toNatClampNeg) ⟨⟨0, Nat.zero_le _, rfl, rfl, fun q hq => ?_, fun t h => absurd h (Nat.not_lt_zero t), fun t _ h => ?_⟩, ?_⟩
  · funext b
    unfold filA
    rw [if_neg]
    rintro ⟨rfl, -⟩
    exact hq (by decide)
  · unfold filA
    rw [if_pos ⟨rfl, h⟩]
  rintro x I1 A1 ⟨a, ha, rfl, hv⟩
  refine ⟨fun h => ?_, fun h => ?_⟩
  · have e := cn_eq rfl ha (by decide) h
    subst e
    exact qV_i ⟨hv.1, hv.2.1, hv.2.2.1⟩
  · have ha2 := cn_lt rfl ha (by decide) h
    refine ⟨⟨a, 0, ha2, Nat.zero_le _, rfl, rfl, hv⟩, ?_⟩
    rintro x I2 A2 ⟨a', b, ha', hb, ea, rfl, rfl, hoff, hdone, htodo⟩
    have ea : a' = a := ((nI_eq (by omega) (by omega)).mp ea).symm
    subst ea
    refine ⟨fun h9 => ?_, fun h9 => ?_⟩
    · have e := cn_eq rfl hb (by decide) h9
      subst e
      exact ⟨⟨a' + 1, ha2, nI_1 a', rfl, hoff, hdone, htodo⟩, cn_mu ha2 (by decide)⟩
    · have hb2 := cn_lt rfl hb (by decide) h9
      have e2 : A2 2 = A 2 := hoff 2 (by decide)
      have e10 : A2 10 = A 10 := hoff 10 (by decide)
      obtain ⟨d1, d2⟩ := dm10 (a := a') hb2
      rw [btw_n ha2 hb2, e2, e10, ix_a, cl_n (show 10 * a' + b < 2 ^ 31 by omega)]
      have hmu : 10 - (nI b + 1).toNatClampNeg < 10 - (nI b).toNatClampNeg := cn_mu hb2 (by decide)
      have hwr : trC (A 2) (A 10) (10 * a' + b) = false → Inv (10 * a' + (b + 1)) (up2 (up2 I 3 12 (cI (10 * a' + b))) 3 13 (sI (10 * a' + b))) (up2 A2 12 (10 * a' + b) (A 2 (10 * a' + b))) := by
        intro hz
        refine ⟨?_, hoff.up (by decide), fun t ht => ?_, fun t ht h100 => ?_⟩
        · show _ = up2 (up2 I 3 12 (sm32 _ (10 * a' + b + 1))) 3 13 (sm32 _ (10 * a' + b + 1))
          rw [sm32, sm32]
          simp only [hz, Bool.false_eq_true, if_false, Int32.add_zero]
          rfl
        · rcases Nat.lt_succ_iff_lt_or_eq.mp (show t < 10 * a' + b + 1 by omega) with z | z
          · rw [up2_j (by omega)]
            exact hdone t z
          · subst z
            rw [up2_s, hz]
            rfl
        · rw [up2_j (by omega)]
          exact htodo t (by omega) h100
      refine ⟨fun h7 => ⟨vp_in_nI (by omega) (by decide), ⟨a', b + 1, ha2, hb2, rfl, nI_1 b, hwr ?_⟩, hmu⟩, fun h7 => ⟨⟨vp_in_nI ha2 (by decide), vp_in_nI hb2 (by decide)⟩, fun h8 => ⟨vp_in_nI (by omega) (by decide), ⟨a', b + 1, ha2, hb2, rfl, nI_1 b, hwr ?_⟩, hmu⟩, fun h8 => ⟨⟨a', b + 1, ha2, hb2, rfl, nI_1 b, ?_⟩, hmu⟩⟩⟩
      · simp [trC, le_nlt h7]
      · unfold trnI at h8
        rw [cl_n (by omega), cl_n (by omega)] at h8
        split at h8
        · exact absurd h8 (by decide)
        · rename_i q
          simp [trC, d1, d2, q]
      · have hz : trC (A 2) (A 10) (10 * a' + b) = true := by
          unfold trnI at h8
          rw [cl_n (by omega), cl_n (by omega)] at h8
          split at h8
          · rename_i q
            simp [trC, d1, d2, q, nle h7]
          · exact absurd rfl h8
        refine ⟨?_, hoff, fun t ht => ?_, fun t ht h100 => htodo t (by omega) h100⟩
        · rw [up2_j (show (12 : Nat) ≠ 13 by decide), up2_s, up2_j (show (13 : Nat) ≠ 12 by decide), up2_s, up2_x (by decide)]
          show _ = up2 (up2 I 3 12 (sm32 _ (10 * a' + b + 1))) 3 13 (sm32 _ (10 * a' + b + 1))
          rw [sm32, sm32]
          simp only [hz, if_true]
          rfl
        · rcases Nat.lt_succ_iff_lt_or_eq.mp (show t < 10 * a' + b + 1 by omega) with z | z
          · exact hdone t z
          · subst z
            rw [hz, htodo _ (Nat.le_refl _) (by omega)]
            rfl
