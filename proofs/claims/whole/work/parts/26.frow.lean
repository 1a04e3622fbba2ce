/-! findRow -/
def MRow (w : Nat → Int32) (I A : HI) : Prop := I 96 7 = nI (um w) ∧ I 96 8 = nI (nU w) ∧ (∀ k, k < nU w → A 100 k = nI (rowF w k)) ∧ (∀ p, p < 10 → usd w p = true → A 101 p = nI (posF w p)) ∧ (∀ p, p < 10 → usd w p = true → A 102 p = nI (layF w p)) ∧ I 96 12 = nI (nLay w)
def fRo (I A I' A' : HI) : Prop := offA [100, 101, 102, 103] A A' ∧ offI [(96, 7), (96, 8), (96, 12)] I I' ∧ MRow (A 97) I' A'
theorem um_lt (w : Nat → Int32) : um w < 1024 := mkM_lt _ 10
theorem nI_m1 (n : Nat) : nI n + (-1) + 1 = nI n := by
  rw [Int32.add_assoc, show (-1 : Int32) + 1 = 0 by decide, Int32.add_zero]
theorem sub_le {F U : Nat} (h : ∀ p, F.testBit p = true → U.testBit p = true) : F ≤ U := Nat.le_of_testBit h
theorem xor_bit {U F p : Nat} (h : ∀ p, F.testBit p = true → U.testBit p = true) : (U ^^^ F).testBit p = true ↔ U.testBit p = true ∧ F.testBit p = false := by
  rw [Nat.testBit_xor]
  cases hF : F.testBit p
  · simp
  · simp [h p hF]
theorem xS_0 (w : Nat → Int32) (F : Nat) : xS w 0 F = 0 := by
  have h := fb_sm_bound (f := fun p => if (0 : Nat).testBit p then ct w p F else 0) (c := 0) (n := 10) (fun k _ => by simp)
  have : xS w 0 F ≤ 10 * 0 := h
  omega
theorem RR_self (w : Nat → Int32) (U : Nat) : RR w U U = 0 := by
  unfold RR
  rw [Nat.xor_self, xS_0, Lx_0 w (by decide)]
theorem ne_pos {F U : Nat} (hU : U < 1024) (h : ∀ p, F.testBit p = true → U.testBit p = true) (hne : F ≠ U) : 0 < pc10 (U ^^^ F) := by
  obtain ⟨i, hi⟩ := Nat.exists_testBit_ne_of_ne hne
  have hb : (U ^^^ F).testBit i = true := by
    rw [Nat.testBit_xor]
    cases a : F.testBit i <;> cases b : U.testBit i <;> simp_all
  refine pc_pos.mpr ⟨i, ?_, hb⟩
  rcases Nat.lt_or_ge i 10 with z | z
  · exact z
  · have h1 := Nat.testBit_lt_two_pow (x := U) (i := i) (Nat.lt_of_lt_of_le hU (Nat.pow_le_pow_right (n := 2) (by decide) z))
    have := ((xor_bit h).mp hb).1
    rw [h1] at this
    cases this
theorem or_sub {F U p : Nat} (h : ∀ p, F.testBit p = true → U.testBit p = true) (hp : U.testBit p = true) : ∀ q, (F ||| 2 ^ p).testBit q = true → U.testBit q = true := by
  intro q hq
  rw [fb_bit_set, Bool.or_eq_true, decide_eq_true_eq] at hq
  rcases hq with z | z
  · exact h q z
  · rw [z]
    exact hp
theorem or_gt {F p : Nat} (h : F.testBit p = false) : F < F ||| 2 ^ p := by
  have h1 : F ≤ F ||| 2 ^ p := Nat.left_le_or
  have h2 : F ≠ F ||| 2 ^ p := by
    intro e
    have := congrArg (fun n => Nat.testBit n p) e
    simp only [fb_bit_set, h] at this
    simp at this
  omega
theorem or_nI {F p : Nat} (hp : p < 10) : nI F ||| ((1 : Int32) <<< (nI p &&& 31)) = nI (F ||| 2 ^ p) := by
  rw [sh1 p (by omega), fa_or]
set_option maxHeartbeats 8000000 in
theorem c_X9_findRow (l : Launch) (D : va_G) (ads : AD) (I A : HI) (hp : FO (A 97)) : Ct l yX9_findRow cX9_findRow 5 none 1 24 D ads shp [.inr (some 96)] I A (qV (fRo I A)) := by
  have hn10 : nU (A 97) ≤ 10 := nU_le _
  have hU := um_lt (A 97)
  let gg : Nat → Nat → Nat := fun i j => if 0 < A 97 (10 * rowF (A 97) j + rowF (A 97) i) then lyP (A 97) j + 1 else 0
  have hgg : ∀ i j, j ≤ i → mxF (gg i) j ≤ i := by
    intro i j hj
    refine mxF_le (fun k hk => ?_)
    have := lyP_le (A 97) k
    show (if 0 < A 97 (10 * rowF (A 97) k + rowF (A 97) i) then lyP (A 97) k + 1 else 0) ≤ i
    split <;> omega
  refine k_X9_findRow l D ads I A _ (c_X9_flowsTo l D ads)
    (fun x I' => ∃ a, a ≤ 10 ∧ x = nI a ∧ I' = up2 I 96 7 (nI (uj (A 97) (10 * a))))
    (fun x _ => 10 - x.toNatClampNeg)
    (fun _ I7 x A' => I7 = up2 I 96 7 (nI (um (A 97))) ∧ offA [103] A A' ∧ ∃ n, n ≤ um (A 97) + 1 ∧ x = nI n + (-1) ∧ ∀ G, n ≤ G → (∀ p, G.testBit p = true → (um (A 97)).testBit p = true) → A' 103 G = nI (RR (A 97) (um (A 97)) G))
    (fun _ _ x _ => (x + 1).toNatClampNeg)
    (fun _ _ _ _ s I' A' => ∃ k F, k ≤ nU (A 97) ∧ s = nI F ∧ (∀ p, F.testBit p = true → (um (A 97)).testBit p = true) ∧ um (A 97) ^^^ F = Sk (A 97) k ∧ I' = up2 (up2 I 96 7 (nI (um (A 97)))) 96 8 (nI k) ∧ offA [100, 101, 103] A A' ∧ (∀ G, (∀ p, G.testBit p = true → (um (A 97)).testBit p = true) → A' 103 G = nI (RR (A 97) (um (A 97)) G)) ∧ ∀ j, j < k → A' 100 j = nI (rowF (A 97) j) ∧ A' 101 (rowF (A 97) j) = nI j)
    (fun _ _ _ _ _ I' _ => 10 - (I' 96 8).toNatClampNeg)
    (fun _ _ _ _ _ _ _ x I' A' => ∃ i, i ≤ nU (A 97) ∧ x = nI i ∧ I' = up2 (up2 (up2 I 96 7 (nI (um (A 97)))) 96 8 (nI (nU (A 97)))) 96 12 (nI (mxF (fun i => lyP (A 97) i + 1) i)) ∧ offA [100, 101, 102, 103] A A' ∧ (∀ j, j < nU (A 97) → A' 100 j = nI (rowF (A 97) j) ∧ A' 101 (rowF (A 97) j) = nI j) ∧ ∀ j, j < i → A' 102 (rowF (A 97) j) = nI (lyP (A 97) j))
    (fun _ _ _ _ _ _ _ x _ _ => 10 - x.toNatClampNeg)
    (fun _ _ _ _ _ _ _ x _ _ y A' => ∃ i j, i < nU (A 97) ∧ j ≤ i ∧ x = nI i ∧ y = nI j ∧ offA [100, 101, 102, 103] A A' ∧ (∀ j, j < nU (A 97) → A' 100 j = nI (rowF (A 97) j) ∧ A' 101 (rowF (A 97) j) = nI j) ∧ (∀ k, k < i → A' 102 (rowF (A 97) k) = nI (lyP (A 97) k)) ∧ A' 102 (rowF (A 97) i) = nI (mxF (gg i) j))
    (fun _ _ _ _ _ _ _ _ _ _ y _ => 10 - y.toNatClampNeg)
    (fun _ _ _ _ s _ _ x => ∃ p, x = nI p ∧ p ≤ pk (A 97) (um (A 97) ^^^ s.toNatClampNeg))
    (fun _ _ _ _ _ _ _ x => 10 - x.toNatClampNeg)
    (fun _ _ x _ z => (x = nI (um (A 97)) ∧ z = 0) ∨ (¬ x = nI (um (A 97)) ∧ z = nI 1000000000))
    (fun _ _ x _ _ v i => ∃ j, j ≤ 10 ∧ i = nI j ∧ ((x = nI (um (A 97)) ∧ v = 0) ∨ (¬ x = nI (um (A 97)) ∧ ((v = nI 1000000000 ∧ ∀ p, p < j → (um (A 97) ^^^ x.toNatClampNeg).testBit p = false) ∨ ∃ t, t ≤ 20790 ∧ v = nI t ∧ IsMn (fun p => p < j ∧ (um (A 97) ^^^ x.toNatClampNeg).testBit p = true) (fun p => vL (A 97) (um (A 97) ^^^ x.toNatClampNeg) p + xS (A 97) (um (A 97) ^^^ x.toNatClampNeg) x.toNatClampNeg) t))))
    (fun _ _ _ _ _ _ i => 10 - i.toNatClampNeg)
    (fun y _ x I' => ∃ a b, a < 10 ∧ b ≤ 10 ∧ y = nI a ∧ x = nI b ∧ I' = up2 I 96 7 (nI (uj (A 97) (10 * a + b))))
    (fun _ _ x _ => 10 - x.toNatClampNeg) ⟨⟨0, Nat.zero_le _, rfl, rfl⟩, ?_⟩
  rintro x I1 ⟨a, ha, rfl, rfl⟩
  refine ⟨fun h => ?_, fun h => ?_⟩
  · -- behind the first loop
    have e := cn_eq rfl ha (by decide) h
    subst e
    rw [show 10 * 10 = 100 by rfl, uj_um]
    refine ⟨⟨rfl, offA.rf, um (A 97) + 1, Nat.le_refl _, by rw [up2_s, pk_m1], fun G hG hs => ?_⟩, ?_⟩
    · have := sub_le hs
      omega
    rintro x A1 ⟨-, hoff, n, hn, rfl, hdn⟩
    rw [up2_s]
    refine ⟨fun hneg => ?_, fun hneg => ?_⟩
    · -- behind the second: THE ROW
      have hn0 : n = 0 := by
        rcases Nat.eq_zero_or_pos n with z | z
        · exact z
        · obtain ⟨F, rfl⟩ : ∃ F, n = F + 1 := ⟨n - 1, by omega⟩
          rw [pk_m1] at hneg
          exact absurd hneg (nI_pos (by omega))
      subst hn0
      refine ⟨⟨0, 0, Nat.zero_le _, rfl, fun p h => by simp at h, by rw [Nat.xor_zero]; rfl, rfl, hoff.sub (by decide), fun G hs => hdn G (Nat.zero_le _) hs, fun j h => absurd h (Nat.not_lt_zero j)⟩, ?_⟩
      rintro s I2 A2 ⟨k, F, hk, rfl, hFU, hSk, rfl, hoff2, hR2, hrow2⟩
      have hFle := sub_le hFU
      have e97 : A2 97 = A 97 := hoff2 97 (by decide)
      rw [up2_s, up2_j (show (7 : Nat) ≠ 8 by decide), up2_s]
      have hpc := Sk_pc (A 97) k hk
      refine ⟨fun heq => ?_, fun hne => ?_⟩
      · -- the row stands: layers
        have eF : F = um (A 97) := (nI_eq (by omega) (by omega)).mp heq
        have ek : k = nU (A 97) := by
          rw [eF, Nat.xor_self] at hSk
          rw [← hSk, show pc10 0 = 0 by decide] at hpc
          omega
        subst ek
        refine ⟨⟨0, Nat.zero_le _, rfl, rfl, hoff2.sub (by decide), hrow2, fun j h => absurd h (Nat.not_lt_zero j)⟩, ?_⟩
        rintro x I3 A3 ⟨i, hi, rfl, rfl, hoff3, hrow3, hly3⟩
        rw [up2_j (show (8 : Nat) ≠ 12 by decide), up2_s, up2_s]
        refine ⟨fun h9 => ?_, fun h9 => ?_⟩
        · have e := cn_eq rfl hi (by omega) h9
          subst e
          refine qV_i ⟨hoff3, fun k j hkj => ?_, ?_, ?_, fun k hk => (hrow3 k hk).1, fun p hp9 hu => ?_, fun p hp9 hu => ?_, up2_s⟩
          · have h99 : ∀ q, (96, q) ∈ ([(96, 7), (96, 8), (96, 12)] : List (Nat × Nat)) → ¬ (k = 96 ∧ j = q) := fun q hq e => hkj (by rw [e.1, e.2]; exact hq)
            unfold up2
            rw [if_neg (h99 12 (by decide)), if_neg (h99 8 (by decide)), if_neg (h99 7 (by decide))]
          · rw [up2_j (by decide), up2_j (by decide), up2_s]
          · rw [up2_j (by decide), up2_s]
          · obtain ⟨z1, z2⟩ := pos_is hp9 hu
            have := (hrow3 _ z1).2
            rwa [z2] at this
          · obtain ⟨z1, z2⟩ := pos_is hp9 hu
            have := hly3 _ z1
            rwa [z2] at this
        · have hi2 := cn_lt rfl hi (by omega) h9
          obtain ⟨r1, r2⟩ := row_used hi2
          rw [cl_n (show i < 2 ^ 31 by omega), (hrow3 i hi2).1, cl_n (show rowF (A 97) i < 2 ^ 31 by omega)]
          have vr : vp_in (nI (rowF (A 97) i)) 10 := vp_in_nI r1 (by decide)
          refine ⟨vp_in_nI (by omega) (by decide), vr, ⟨i, 0, hi2, Nat.zero_le _, rfl, rfl, hoff3.up (by decide), fun j hj => ?_, fun k hk => ?_, up2_s⟩, ?_⟩
          · rw [up2_k (by decide), up2_k (by decide)]
            exact hrow3 j hj
          · rw [up2_j (fun e => by have := row_inj (by omega) hi2 e; omega)]
            exact hly3 k hk
          rintro y A4 ⟨i', j, hi', hj, ei, rfl, hoff4, hrow4, hly4, hcur⟩
          have ei : i' = i := ((nI_eq (by omega) (by omega)).mp ei).symm
          subst ei
          have hd := hgg i' j hj
          rw [hcur]
          have hmx : mxF (fun i => lyP (A 97) i + 1) i' ≤ 10 := mxF_le (fun k hk => by have := lyP_le (A 97) k; omega)
          refine ⟨fun h8 => ?_, fun h8 => ?_⟩
          · have e : j = i' := by
              have := (nI_leI (by omega) (by omega)).mp h8
              omega
            subst e
            have hly : mxF (gg j) j = lyP (A 97) j := (lyP_eq (A 97) j).symm
            rw [hly] at hcur hd ⊢
            have hmu : 10 - (nI j + 1).toNatClampNeg < 10 - j := by
              rw [nI_1, cl_n (by omega)]
              omega
            have hlyn : ∀ k, k < j + 1 → A4 102 (rowF (A 97) k) = nI (lyP (A 97) k) := by
              intro k hk
              rcases Nat.lt_succ_iff_lt_or_eq.mp hk with z | z
              · exact hly4 k z
              · subst z
                exact hcur
            refine ⟨vr, fun h7 => ⟨⟨j + 1, hi2, nI_1 j, ?_, hoff4, hrow4, hlyn⟩, hmu⟩, fun h7 => ⟨vr, ⟨j + 1, hi2, nI_1 j, ?_, hoff4, hrow4, hlyn⟩, hmu⟩⟩
            · have := (nI_ltI (by omega) (by omega)).mp h7
              show _ = up2 _ 96 12 (nI (max (mxF (fun i => lyP (A 97) i + 1) j) (lyP (A 97) j + 1)))
              rw [Nat.max_eq_left (by omega)]
            · have : ¬ lyP (A 97) j < mxF (fun i => lyP (A 97) i + 1) j := fun q => h7 (nI_lt q (by omega))
              rw [nI_1, up2_2]
              show _ = up2 _ 96 12 (nI (max (mxF (fun i => lyP (A 97) i + 1) j) (lyP (A 97) j + 1)))
              rw [Nat.max_eq_right (by omega)]
          · have hj2 : j < i' := (nI_ltI (by omega) (by omega)).mp (nle h8)
            obtain ⟨q1, q2⟩ := row_used (w := A 97) (k := j) (by omega)
            have vq : vp_in (nI (rowF (A 97) j)) 10 := vp_in_nI q1 (by decide)
            have vj : vp_in (nI j) 10 := vp_in_nI (by omega) (by decide)
            rw [cl_n (show j < 2 ^ 31 by omega), (hrow4 j (by omega)).1, ix_b, cl_n (show 10 * rowF (A 97) j + rowF (A 97) i' < 2 ^ 31 by omega), cl_n (show rowF (A 97) j < 2 ^ 31 by omega), hly4 j hj2, hoff4 97 (by decide)]
            have hmu : 10 - (nI j + 1).toNatClampNeg < 10 - j := by
              rw [nI_1, cl_n (by omega)]
              omega
            have hlj := lyP_le (A 97) j
            have hmax : mxF (gg i') (j + 1) = max (mxF (gg i') j) (if 0 < A 97 (10 * rowF (A 97) j + rowF (A 97) i') then lyP (A 97) j + 1 else 0) := rfl
            refine ⟨vj, vp_in_nI (by omega) (by decide), fun h7 => ⟨⟨i', j + 1, hi2, hj2, rfl, nI_1 j, hoff4, hrow4, hly4, ?_⟩, hmu⟩, fun h7 => ⟨vj, vq, vr, fun h6 => ⟨⟨i', j + 1, hi2, hj2, rfl, nI_1 j, hoff4, hrow4, hly4, ?_⟩, hmu⟩, fun h6 => ⟨vj, vq, vr, ⟨i', j + 1, hi2, hj2, rfl, nI_1 j, hoff4.up (by decide), fun k hk => ?_, fun k hk => ?_, ?_⟩, hmu⟩⟩⟩
            · rw [hcur, hmax, if_neg (le_nlt h7), Nat.max_eq_left (Nat.zero_le _)]
            · have := (nI_ltI (by omega) (by omega)).mp h6
              rw [hcur, hmax, if_pos (nle h7), Nat.max_eq_left (by omega)]
            · rw [up2_k (by decide), up2_k (by decide)]
              exact hrow4 k hk
            · rw [up2_j (fun e => by have := row_inj (by omega) hi2 e; omega)]
              exact hly4 k hk
            · have : ¬ lyP (A 97) j < mxF (gg i') j := fun q => h6 (nI_lt q (by omega))
              rw [up2_s, nI_1, hmax, if_pos (nle h7), Nat.max_eq_right (by omega)]
      · -- the next place of the row
        have hFne : F ≠ um (A 97) := fun e => hne (by rw [e])
        have hpos := ne_pos hU hFU hFne
        have hk2 : k < nU (A 97) := by
          rw [hSk, hpc] at hpos
          omega
        rw [cl_n (show F < 2 ^ 31 by omega)]
        have hpk := pk_is (w := A 97) hpos
        refine ⟨⟨0, rfl, Nat.zero_le _⟩, ?_⟩
        rintro x ⟨p, rfl, hple⟩
        have hp10 : p < 10 := by have := hpk.1; omega
        have b1 := bt0 (F := um (A 97)) (q := p) (by omega) (by omega)
        have b2 := bt1 (F := F) (q := p) (by omega) (by omega)
        have hmu : 10 - (nI p + 1).toNatClampNeg < 10 - (nI p).toNatClampNeg := cn_mu hp10 (by decide)
        have hgo : ¬ p = pk (A 97) (um (A 97) ^^^ F) → ∃ q, nI p + 1 = nI q ∧ q ≤ pk (A 97) (um (A 97) ^^^ F) := fun hq => ⟨p + 1, nI_1 p, by omega⟩
        refine ⟨fun h7 => ⟨hgo (fun e => ?_), hmu⟩, fun h7 => ⟨fun h6 => ⟨hgo (fun e => ?_), hmu⟩, fun h6 => ?_⟩⟩
        · have := ((xor_bit hFU).mp hpk.2.1).1
          rw [← e, b1.mp h7] at this
          cases this
        · have := ((xor_bit hFU).mp hpk.2.1).2
          rw [← e, b2.mp h6] at this
          cases this
        · have hUp : (um (A 97)).testBit p = true := by
            cases z : (um (A 97)).testBit p
            · exact absurd (b1.mpr z) h7
            · rfl
          have hFp : F.testBit p = false := by
            cases z : F.testBit p
            · rfl
            · exact absurd (b2.mpr z) h6
          have hSp : (um (A 97) ^^^ F).testBit p = true := (xor_bit hFU).mpr ⟨hUp, hFp⟩
          have hsub := or_sub hFU hUp
          have hle := sub_le hsub
          have hR9 := RR_le hp (um (A 97)) (F ||| 2 ^ p)
          have hR8 := RR_le hp (um (A 97)) F
          have hc9 := ct_le hp (F := F) hp10
          have hstep := RR_step (w := A 97) hp10 hFp hSp
          rw [or_nI hp10, cl_n (show F ||| 2 ^ p < 2 ^ 31 by omega), hR2 _ hsub, hR2 _ hFU]
          unfold flT
          rw [e97, cl_n (show p < 2 ^ 31 by omega), cl_n (show F < 2 ^ 31 by omega), nI_add, hstep]
          have heqv : nI (vL (A 97) (um (A 97) ^^^ F) p + xS (A 97) (um (A 97) ^^^ F) F) = nI (RR (A 97) (um (A 97)) F) ↔ vL (A 97) (um (A 97) ^^^ F) p = Lx (A 97) (um (A 97) ^^^ F) := by
            rw [nI_eq (by omega) (by omega)]
            unfold RR
            omega
          rw [heqv]
          refine ⟨⟨by rw [e97]; exact hp, vp_in_nI hp10 (by decide), vp_in_nI (by omega) (by decide)⟩, vp_in_nI (by omega) (by decide), vp_in_nI (by omega) (by decide), fun h5 => ?_, fun h5 => ⟨hgo (fun e => h5 ?_), by rw [nI_1, cl_n (by omega)]; omega⟩⟩
          · have hpe : p = rowF (A 97) k := by
              unfold rowF
              rw [← hSk]
              rcases Nat.lt_or_ge p (pk (A 97) (um (A 97) ^^^ F)) with z | z
              · exact absurd h5 (hpk.2.2.2 p z hSp)
              · omega
            rw [cl_n (show k < 2 ^ 31 by omega)]
            refine ⟨vp_in_nI (by omega) (by decide), vp_in_nI hp10 (by decide), ⟨k + 1, F ||| 2 ^ p, hk2, rfl, hsub, ?_, ?_, (hoff2.up (by decide)).up (by decide), fun G hG => ?_, fun j hj => ?_⟩, ?_⟩
            · rw [xor_or hFp, hSk, hpe]
              rfl
            · rw [nI_1, up2_2]
            · rw [up2_k (by decide), up2_k (by decide)]
              exact hR2 G hG
            · rcases Nat.lt_succ_iff_lt_or_eq.mp hj with z | z
              · obtain ⟨g1, g2⟩ := hrow2 j z
                have hne9 : rowF (A 97) j ≠ p := fun e => by
                  rw [hpe] at e
                  have := row_inj (by omega) hk2 e
                  omega
                rw [up2_k (by decide), up2_j (by omega), up2_j hne9, up2_k (by decide)]
                exact ⟨g1, g2⟩
              · subst z
                rw [← hpe, up2_k (by decide), up2_s, up2_s]
                exact ⟨rfl, rfl⟩
            · rw [up2_s, nI_1, cl_n (by omega)]
              omega
          · rw [e]
            exact hpk.2.2.1
    · -- one set
      obtain ⟨F, rfl⟩ : ∃ F, n = F + 1 := by
        rcases Nat.eq_zero_or_pos n with z | z
        · subst z
          exact absurd (by decide) hneg
        · exact ⟨n - 1, by omega⟩
      rw [pk_m1] at hneg ⊢
      have hF9 : F < 2 ^ 31 := by omega
      have e97 : A1 97 = A 97 := hoff 97 (by decide)
      have hsm := sub_m (F := F) (U := um (A 97)) (by omega) (by omega)
      have hmu : (nI F + (-1) + 1).toNatClampNeg < (nI F + 1).toNatClampNeg := by
        rw [nI_m1, nI_1, cl_n (by omega), cl_n (by omega)]
        omega
      have heF : nI F = nI (um (A 97)) ↔ F = um (A 97) := nI_eq (by omega) (by omega)
      refine ⟨fun h7 => ⟨?_, fun h6 => Or.inr ⟨h6, rfl⟩, fun h6 => Or.inl ⟨h6, rfl⟩⟩, fun h7 => ⟨⟨rfl, hoff, F, by omega, rfl, fun G hG hs => ?_⟩, hmu⟩⟩
      · have hFU := hsm.mp h7
        rw [cl_n hF9]
        rintro z hz
        refine ⟨⟨0, Nat.zero_le _, rfl, ?_⟩, ?_⟩
        · rcases hz with ⟨a1, a2⟩ | ⟨a1, a2⟩
          · exact Or.inl ⟨a1, a2⟩
          · exact Or.inr ⟨a1, Or.inl ⟨a2, fun p h => absurd h (Nat.not_lt_zero p)⟩⟩
        rintro v i ⟨j, hj, rfl, hst⟩
        refine ⟨fun h9 => ?_, fun h9 => ?_⟩
        · have e := cn_eq rfl hj (by decide) h9
          subst e
          refine ⟨vp_in_nI (by omega) (by decide), ⟨rfl, hoff.up (by decide), F, by omega, rfl, fun G hG hs => ?_⟩, hmu⟩
          by_cases z : G = F
          · subst z
            rw [up2_s]
            rcases hst with ⟨a1, rfl⟩ | ⟨a1, hst⟩
            · rw [heF.mp a1, RR_self]
              rfl
            · have hpos := ne_pos hU hFU (fun q => a1 (heF.mpr q))
              rcases hst with ⟨-, hno⟩ | ⟨t, ht, rfl, hmin⟩
              · obtain ⟨q, q1, q2⟩ := pc_pos.mp hpos
                rw [hno q q1] at q2
                cases q2
              · congr 1
                exact IsMn.uniq hmin (RR_min hpos)
          · rw [up2_j z]
            exact hdn G (by omega) hs
        · have hj2 := cn_lt rfl hj (by decide) h9
          have b1 := bt0 (F := um (A 97)) (q := j) (by omega) (by omega)
          have b2 := bt1 (F := F) (q := j) hF9 (by omega)
          have hmj : 10 - (nI j + 1).toNatClampNeg < 10 - (nI j).toNatClampNeg := cn_mu hj2 (by decide)
          have hskip : (um (A 97) ^^^ F).testBit j = false → ∃ j', j' ≤ 10 ∧ nI j + 1 = nI j' ∧ ((nI F = nI (um (A 97)) ∧ v = 0) ∨ (¬ nI F = nI (um (A 97)) ∧ ((v = nI 1000000000 ∧ ∀ p, p < j' → (um (A 97) ^^^ F).testBit p = false) ∨ ∃ t, t ≤ 20790 ∧ v = nI t ∧ IsMn (fun p => p < j' ∧ (um (A 97) ^^^ F).testBit p = true) (fun p => vL (A 97) (um (A 97) ^^^ F) p + xS (A 97) (um (A 97) ^^^ F) F) t))) := by
            intro hz
            refine ⟨j + 1, hj2, nI_1 j, ?_⟩
            rcases hst with ⟨a1, a2⟩ | ⟨a1, ⟨a2, hno⟩ | ⟨t, ht, a2, hmin⟩⟩
            · exact Or.inl ⟨a1, a2⟩
            · refine Or.inr ⟨a1, Or.inl ⟨a2, fun p hp9 => ?_⟩⟩
              rcases Nat.lt_succ_iff_lt_or_eq.mp hp9 with z | z
              · exact hno p z
              · rw [z]
                exact hz
            · refine Or.inr ⟨a1, Or.inr ⟨t, ht, a2, fun p hp9 => ?_, ?_⟩⟩
              · rcases Nat.lt_succ_iff_lt_or_eq.mp hp9.1 with z | z
                · exact hmin.1 p ⟨z, hp9.2⟩
                · have := hp9.2
                  rw [z, hz] at this
                  cases this
              · obtain ⟨p, ⟨p1, p2⟩, p3⟩ := hmin.2
                exact ⟨p, ⟨by omega, p2⟩, p3⟩
          refine ⟨fun h6 => ⟨hskip ?_, hmj⟩, fun h6 => ⟨fun h5 => ?_, fun h5 => ⟨hskip ?_, hmj⟩⟩⟩
          · cases z : (um (A 97) ^^^ F).testBit j
            · rfl
            · have := ((xor_bit hFU).mp z).1
              rw [b1.mp h6] at this
              cases this
          · have hUp : (um (A 97)).testBit j = true := by
              cases z : (um (A 97)).testBit j
              · exact absurd (b1.mpr z) h6
              · rfl
            have hFp : F.testBit j = false := by
              cases z : F.testBit j
              · rfl
              · exact absurd (b2.mpr z) h5
            have hSp : (um (A 97) ^^^ F).testBit j = true := (xor_bit hFU).mpr ⟨hUp, hFp⟩
            have hsub := or_sub hFU hUp
            have hle := sub_le hsub
            have hgt := or_gt hFp
            have hstep := RR_step (w := A 97) hj2 hFp hSp
            have hv9 := vL_le hp (S := um (A 97) ^^^ F) hj2
            have hx9 := xS_le hp (um (A 97) ^^^ F) F
            have hFne : ¬ nI F = nI (um (A 97)) := fun e => by
              rw [heF.mp e, hUp] at hFp
              cases hFp
            rw [or_nI hj2, cl_n (show F ||| 2 ^ j < 2 ^ 31 by omega), hdn _ (by omega) hsub]
            unfold flT
            rw [e97, cl_n (show j < 2 ^ 31 by omega), cl_n hF9, nI_add, hstep]
            generalize hval : vL (A 97) (um (A 97) ^^^ F) j + xS (A 97) (um (A 97) ^^^ F) F = val
            refine ⟨⟨by rw [e97]; exact hp, vp_in_nI hj2 (by decide), vp_in_nI (by omega) (by decide)⟩, vp_in_nI (by omega) (by decide), fun h4 => ⟨⟨j + 1, hj2, nI_1 j, Or.inr ⟨hFne, Or.inr ?_⟩⟩, by rw [nI_1, cl_n (by omega)]; omega⟩, fun h4 => ⟨⟨j + 1, hj2, nI_1 j, Or.inr ⟨hFne, Or.inr ⟨val, by omega, rfl, fun p hp9 => ?_, j, ⟨Nat.lt_succ_self j, hSp⟩, hval⟩⟩⟩, by rw [nI_1, cl_n (by omega)]; omega⟩⟩
            · rcases hst with ⟨a1, a2⟩ | ⟨a1, ⟨a2, hno⟩ | ⟨t, ht, rfl, hmin⟩⟩
              · exact absurd a1 hFne
              · rw [a2] at h4
                have := (nI_leI (by decide) (by omega)).mp h4
                omega
              · have htv := (nI_leI (by omega) (by omega)).mp h4
                refine ⟨t, ht, rfl, fun p hp9 => ?_, ?_⟩
                · rcases Nat.lt_succ_iff_lt_or_eq.mp hp9.1 with z | z
                  · exact hmin.1 p ⟨z, hp9.2⟩
                  · subst z
                    show t ≤ vL (A 97) (um (A 97) ^^^ F) p + _
                    omega
                · obtain ⟨p, ⟨p1, p2⟩, p3⟩ := hmin.2
                  exact ⟨p, ⟨by omega, p2⟩, p3⟩
            · show val ≤ vL (A 97) (um (A 97) ^^^ F) p + _
              rcases Nat.lt_succ_iff_lt_or_eq.mp hp9.1 with z | z
              · rcases hst with ⟨a1, a2⟩ | ⟨a1, ⟨a2, hno⟩ | ⟨t, ht, rfl, hmin⟩⟩
                · exact absurd a1 hFne
                · have := hp9.2
                  rw [hno p z] at this
                  cases this
                · have h3 := hmin.1 p ⟨z, hp9.2⟩
                  have h3 : t ≤ vL (A 97) (um (A 97) ^^^ F) p + xS (A 97) (um (A 97) ^^^ F) F := h3
                  have : ¬ t ≤ val := fun q => h4 (nI_le q (by omega))
                  omega
              · subst z
                omega
          · cases z : (um (A 97) ^^^ F).testBit j
            · rfl
            · have := ((xor_bit hFU).mp z).2
              rw [b2.mp h5] at this
              cases this
      · rcases Nat.lt_or_ge F G with z | z
        · exact hdn G (by omega) hs
        · have : G = F := by omega
          rw [this] at hs
          exact absurd (hsm.mpr hs) h7
  · -- the first loop
    have ha2 := cn_lt rfl ha (by decide) h
    refine ⟨⟨a, 0, ha2, Nat.zero_le _, rfl, rfl, rfl⟩, ?_⟩
    rintro x I2 ⟨a', b, ha', hb, ea, rfl, rfl⟩
    have ea : a' = a := ((nI_eq (by omega) (by omega)).mp ea).symm
    subst ea
    refine ⟨fun h9 => ?_, fun h9 => ?_⟩
    · have e := cn_eq rfl hb (by decide) h9
      subst e
      exact ⟨⟨a' + 1, ha2, nI_1 a', rfl⟩, cn_mu ha2 (by decide)⟩
    · have hb2 := cn_lt rfl hb (by decide) h9
      obtain ⟨d1, d2⟩ := dm10 (a := a') hb2
      have hmu : 10 - (nI b + 1).toNatClampNeg < 10 - (nI b).toNatClampNeg := cn_mu hb2 (by decide)
      rw [ix_b, cl_n (show 10 * a' + b < 2 ^ 31 by omega), up2_s]
      refine ⟨vp_in_nI (by omega) (by decide), fun h7 => ⟨⟨a', b + 1, ha2, hb2, rfl, nI_1 b, ?_⟩, hmu⟩, fun h7 => ⟨⟨a', b + 1, ha2, hb2, rfl, nI_1 b, ?_⟩, hmu⟩⟩
      · show _ = up2 I 96 7 (nI (if 0 < A 97 (10 * a' + b) then _ else _))
        rw [if_neg (le_nlt h7)]
        rfl
      · rw [or_nI (by omega), or_nI hb2, up2_2]
        show _ = up2 I 96 7 (nI (if 0 < A 97 (10 * a' + b) then (uj (A 97) (10 * a' + b) ||| 2 ^ ((10 * a' + b) / 10)) ||| 2 ^ ((10 * a' + b) % 10) else _))
        rw [if_pos (nle h7), d1, d2]
