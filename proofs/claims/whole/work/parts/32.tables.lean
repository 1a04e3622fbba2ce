/-! the orders of n things in the model's numbering -/
def pkQ (t q : Nat) : Nat := ((List.range 5).find? (fun x => !t.testBit x && (fb_ct (fun y => !t.testBit y) x == q))).getD 9
def stt (n k : Nat) : Nat → Nat × Nat
  | 0 => (0, k)
  | i + 1 => ((stt n k i).1 ||| 2 ^ pkQ (stt n k i).1 ((stt n k i).2 / facN (n - 1 - i)), (stt n k i).2 % facN (n - 1 - i))
def xq (n k i : Nat) : Nat := pkQ (stt n k i).1 ((stt n k i).2 / facN (n - 1 - i))
def psQ (n k x : Nat) : Nat := ((List.range n).find? (fun i => xq n k i == x)).getD 0
def allQ (p : Nat → Nat → Nat → Bool) : Bool := (List.range 6).all (fun n => (List.range (facN n)).all (fun k => (List.range n).all (fun i => p n k i)))
theorem allQ_of {p : Nat → Nat → Nat → Bool} (h : allQ p = true) {n k i : Nat} (hn : n < 6) (hk : k < facN n) (hi : i < n) : p n k i = true := by
  unfold allQ at h
  have h1 := List.all_eq_true.mp h n (List.mem_range.mpr hn)
  have h2 := List.all_eq_true.mp h1 k (List.mem_range.mpr hk)
  exact List.all_eq_true.mp h2 i (List.mem_range.mpr hi)
def ck1 (n k i : Nat) : Bool := decide (xq n k i < n) && (!(stt n k i).1.testBit (xq n k i)) && (fb_ct (fun y => !(stt n k i).1.testBit y) (xq n k i) == (stt n k i).2 / facN (n - 1 - i)) && decide ((stt n k i).1 < 32) && decide ((stt n k i).2 < 120)
theorem ck1_all : allQ ck1 = true := by decide +kernel
theorem tq1 {n k i : Nat} (hn : n < 6) (hk : k < facN n) (hi : i < n) : xq n k i < n ∧ (stt n k i).1.testBit (xq n k i) = false ∧ fb_ct (fun y => !(stt n k i).1.testBit y) (xq n k i) = (stt n k i).2 / facN (n - 1 - i) ∧ (stt n k i).1 < 32 ∧ (stt n k i).2 < 120 := by
  have h := allQ_of ck1_all hn hk hi
  unfold ck1 at h
  simp only [Bool.and_eq_true, decide_eq_true_eq, Bool.not_eq_true', beq_iff_eq] at h
  exact ⟨h.1.1.1.1, h.1.1.1.2, h.1.1.2, h.1.2, h.2⟩
def ck2 (n k x : Nat) : Bool := (xq n k (psQ n k x) == x) && decide (psQ n k x < n) && (psQ n k (xq n k x) == x)
theorem ck2_all : allQ ck2 = true := by decide +kernel
theorem tq2 {n k x : Nat} (hn : n < 6) (hk : k < facN n) (hx : x < n) : xq n k (psQ n k x) = x ∧ psQ n k x < n := by
  have h := allQ_of ck2_all hn hk hx
  unfold ck2 at h
  simp only [Bool.and_eq_true, decide_eq_true_eq, beq_iff_eq] at h
  exact ⟨h.1.1, h.1.2⟩
theorem tq3 {n k i : Nat} (hn : n < 6) (hk : k < facN n) (hi : i < n) : psQ n k (xq n k i) = i := by
  have h := allQ_of ck2_all hn hk hi
  unfold ck2 at h
  simp only [Bool.and_eq_true, decide_eq_true_eq, beq_iff_eq] at h
  exact h.2
theorem facN_le : ∀ n, n < 6 → facN n ≤ 120 ∧ 0 < facN n := by decide
def StN (A : HI) (n m : Nat) : Prop := ∀ k, k < m → ∀ x, x < n → A 110 (600 * n + 5 * k + x) = nI (psQ n k x)
def StOK (A : HI) : Prop := ∀ n, n < 6 → StN A n (facN n)
def mRo0 (I A : HI) : Prop := I 96 22 = 0 ∨ (I 96 22 = 1 ∧ StOK A)
def mRo (I A I' A' : HI) : Prop := I' = up2 I 96 22 1 ∧ offA [110] A A' ∧ StOK A'
theorem ix_600 (n k x : Nat) : (600 * nI n + 5 * nI k) + nI x = nI (600 * n + 5 * k + x) := by
  rw [show (600 : Int32) = nI 600 from rfl, show (5 : Int32) = nI 5 from rfl, pk_mul, pk_mul, nI_add, nI_add]
theorem up2_same {f : HI} {k j : Nat} {v : Int32} (h : f k j = v) : up2 f k j v = f := by
  funext a b
  unfold up2
  split
  · rename_i q
    rw [q.1, q.2, h]
  · rfl
set_option maxHeartbeats 8000000 in
theorem c_X9_makeRows (l : Launch) (D : va_G) (ads : AD) (I A : HI) (hp : mRo0 I A) : Ct l yX9_makeRows cX9_makeRows 9 none 1 23 D ads shp [.inr (some 96)] I A (qV (mRo I A)) := by
  refine k_X9_makeRows l D ads I A _ (c_X9_factorial l D ads)
    (fun x A' => ∃ n, n ≤ 6 ∧ x = nI n ∧ offA [110] A A' ∧ ∀ n', n' < n → StN A' n' (facN n'))
    (fun x _ => 6 - x.toNatClampNeg)
    (fun y _ x A' => ∃ n k, n < 6 ∧ k ≤ facN n ∧ y = nI n ∧ x = nI k ∧ offA [110] A A' ∧ (∀ n', n' < n → StN A' n' (facN n')) ∧ StN A' n k)
    (fun _ _ x _ => 120 - x.toNatClampNeg)
    (fun y _ z _ r t i A' => ∃ n k j, n < 6 ∧ k < facN n ∧ j ≤ n ∧ y = nI n ∧ z = nI k ∧ r = nI (stt n k j).2 ∧ t = nI (stt n k j).1 ∧ i = nI j ∧ offA [110] A A' ∧ (∀ n', n' < n → StN A' n' (facN n')) ∧ StN A' n k ∧ ∀ j', j' < j → A' 110 (600 * n + 5 * k + xq n k j') = nI j')
    (fun _ _ _ _ _ _ i _ => 10 - i.toNatClampNeg)
    (fun y _ z _ _ _ i _ s x => ∃ n k j c, n < 6 ∧ k < facN n ∧ j < n ∧ y = nI n ∧ z = nI k ∧ i = nI j ∧ x = nI c ∧ c ≤ xq n k j ∧ s = nI ((stt n k j).2 / facN (n - 1 - j) - fb_ct (fun y => !(stt n k j).1.testBit y) c))
    (fun _ _ _ _ _ _ _ _ _ x => 10 - x.toNatClampNeg) ⟨fun h0 => ⟨⟨0, Nat.zero_le _, rfl, offA.rf, fun n h => absurd h (Nat.not_lt_zero n)⟩, ?_⟩, fun h0 => ?_⟩
  · rintro x A1 ⟨n, hn, rfl, o1, s1⟩
    refine ⟨fun h => ?_, fun h => ?_⟩
    · have : 5 < n := (nI_ltI (a := 5) (by decide) (by omega)).mp h
      have e : n = 6 := by omega
      subst e
      exact qV_i ⟨rfl, o1, s1⟩
    · have hn6 : n < 6 := by
        have := (nI_leI (b := 5) (by omega) (by decide)).mp (nlt h)
        omega
      obtain ⟨f1, f2⟩ := facN_le n hn6
      refine ⟨⟨n, 0, hn6, Nat.zero_le _, rfl, rfl, o1, s1, fun k h => absurd h (Nat.not_lt_zero k)⟩, ?_⟩
      rintro x A2 ⟨n', k, hn2, hk, en, rfl, o2, s2, t2⟩
      have en : n' = n := ((nI_eq (by omega) (by omega)).mp en).symm
      subst en
      unfold facI
      rw [cl_n (show n' < 2 ^ 31 by omega)]
      refine ⟨vp_in_nI (by omega) (by decide), fun h9 => ?_, fun h9 => ?_⟩
      · have hle := (nI_leI (by omega) (by omega)).mp h9
        have ek : k = facN n' := by omega
        subst ek
        refine ⟨⟨n' + 1, hn6, nI_1 n', o2, fun m hm => ?_⟩, by rw [nI_1, cl_n (by omega)]; omega⟩
        rcases Nat.lt_succ_iff_lt_or_eq.mp hm with z | z
        · exact s2 m z
        · subst z
          exact t2
      · have hk2 : k < facN n' := (nI_ltI (by omega) (by omega)).mp (nle h9)
        refine ⟨⟨n', k, 0, hn6, hk2, Nat.zero_le _, rfl, rfl, rfl, rfl, rfl, o2, s2, t2, fun j h => absurd h (Nat.not_lt_zero j)⟩, ?_⟩
        rintro r t i A3 ⟨n3, k3, j, hn3, hk3, hj, en, ek, rfl, rfl, rfl, o3, s3, t3, q3⟩
        have en : n3 = n' := ((nI_eq (by omega) (by omega)).mp en).symm
        subst en
        have ek : k3 = k := ((nI_eq (by omega) (by omega)).mp ek).symm
        subst ek
        refine ⟨fun h8 => ?_, fun h8 => ?_⟩
        · have ej : j = n3 := by
            have := (nI_leI (by omega) (by omega)).mp h8
            omega
          subst ej
          refine ⟨⟨j, k3 + 1, hn6, hk2, rfl, nI_1 k3, o3, s3, fun k hk x hx => ?_⟩, cn_mu (by omega) (by decide)⟩
          rcases Nat.lt_succ_iff_lt_or_eq.mp hk with z | z
          · exact t3 k z x hx
          · subst z
            obtain ⟨g1, g2⟩ := tq2 hn6 hk2 hx
            have := q3 _ g2
            rwa [g1] at this
        · have hj2 : j < n3 := (nI_ltI (by omega) (by omega)).mp (nle h8)
          obtain ⟨x1, x2, x3, x4, x5⟩ := tq1 hn6 hk2 hj2
          have ef : nI n3 - 1 - nI j = nI (n3 - 1 - j) := by
            rw [show n3 = (n3 - 1) + 1 by omega, nI_pred, pk_sub (by omega)]
            rfl
          rw [ef, cl_n (show n3 - 1 - j < 2 ^ 31 by omega)]
          obtain ⟨f3, f4⟩ := facN_le (n3 - 1 - j) (by omega)
          have hf0 : ¬ nI (facN (n3 - 1 - j)) = 0 := nI_ne0 f4 (by omega)
          simp only [pk_rem (show (stt n3 k3 j).2 < 2 ^ 31 by omega) f4 (show facN (n3 - 1 - j) < 2 ^ 31 by omega)]
          rw [pk_div (by omega) f4 (by omega)]
          generalize hq : (stt n3 k3 j).2 / facN (n3 - 1 - j) = q at x3
          have hq120 : q < 120 := by
            rw [← hq]
            exact Nat.lt_of_le_of_lt (Nat.div_le_self _ _) x5
          refine ⟨vp_in_nI (by omega) (by decide), hf0, hf0, ⟨n3, k3, j, 0, hn6, hk2, hj2, rfl, rfl, rfl, rfl, Nat.zero_le _, by rw [hq]; rfl⟩, ?_⟩
          rintro s x ⟨n4, k4, j4, c, hn4, hk4, hj4, en, ek, ej, rfl, hc, rfl⟩
          have ek : k4 = k3 := ((nI_eq (by omega) (by have := (facN_le n4 hn4).1; omega)).mp ek).symm
          have en : n4 = n3 := ((nI_eq (by omega) (by omega)).mp en).symm
          have ej : j4 = j := ((nI_eq (by omega) (by omega)).mp ej).symm
          subst en
          subst ek
          subst ej
          rw [hq]
          have hcm : fb_ct (fun y => !(stt n4 k4 j4).1.testBit y) c ≤ q := by
            rw [← x3]
            exact fb_ct_mono _ hc
          have b1 := bt1 (F := (stt n4 k4 j4).1) (q := c) (by omega) (by omega)
          have b0 := bt0 (F := (stt n4 k4 j4).1) (q := c) (by omega) (by omega)
          have hmu : 10 - (nI c + 1).toNatClampNeg < 10 - (nI c).toNatClampNeg := cn_mu (by omega) (by decide)
          generalize hm : fb_ct (fun y => !(stt n4 k4 j4).1.testBit y) c = m at hcm
          have hsucc := fb_ct_succ (fun y => !(stt n4 k4 j4).1.testBit y) c
          refine ⟨fun h1 => ⟨fun h2 => ⟨⟨n4, k4, j4, c + 1, hn6, hk2, hj2, rfl, rfl, rfl, nI_1 c, ?_, ?_⟩, hmu⟩, fun h2 => ?_⟩, fun h1 => ⟨fun h2 => ?_, fun h2 => ⟨fun h3 => ?_, fun h3 => ⟨⟨n4, k4, j4, c + 1, hn6, hk2, hj2, rfl, rfl, rfl, nI_1 c, ?_, ?_⟩, hmu⟩⟩⟩⟩
          · rcases Nat.lt_or_ge c (xq n4 k4 j4) with z | z
            · exact z
            · have : c = xq n4 k4 j4 := by omega
              rw [← this, b1.mp h1] at x2
              cases x2
          · rw [hsucc, b1.mp h1, hq, hm]
            rfl
          · have := b0.mp h2
            rw [b1.mp h1] at this
            cases this
          · have hc0 : (stt n4 k4 j4).1.testBit c = false := by
              cases z : (stt n4 k4 j4).1.testBit c
              · rfl
              · exact absurd (b1.mpr z) h1
            have hqm : q - m ≤ 0 := (nI_leI (b := 0) (by omega) (by decide)).mp h2
            have ec : c = xq n4 k4 j4 := fb_ct_kth_one (p := fun y => !(stt n4 k4 j4).1.testBit y) (by simp [hc0]) (by simp [x2]) (by rw [hm, x3]; omega)
            rw [ix_600, cl_n (show 600 * n4 + 5 * k4 + c < 2 ^ 31 by omega), or_nI (by omega)]
            refine ⟨vp_in_nI (by omega) (by decide), ⟨n4, k4, j4 + 1, hn6, hk2, hj2, rfl, rfl, rfl, ?_, nI_1 j4, o3.up (by decide), fun n' hn' k' hk' x' hx' => ?_, fun k' hk' x' hx' => ?_, fun j' hj' => ?_⟩, cn_mu (by omega) (by decide)⟩
            · show _ = nI ((stt n4 k4 j4).1 ||| 2 ^ xq n4 k4 j4)
              rw [ec]
            · have := (facN_le n' (by omega)).1
              rw [up2_j (by omega)]
              exact s3 n' hn' k' hk' x' hx'
            · rw [up2_j (by omega)]
              exact t3 k' hk' x' hx'
            · rcases Nat.lt_succ_iff_lt_or_eq.mp hj' with z | z
              · have hne : xq n4 k4 j' ≠ c := by
                  intro e
                  have g1 := tq3 hn6 hk2 (i := j') (by omega)
                  have g2 := tq3 hn6 hk2 hj2
                  rw [e, ec] at g1
                  omega
                rw [up2_j (by omega)]
                exact q3 j' z
              · subst z
                rw [← ec, up2_s]
          · have hc0 : (stt n4 k4 j4).1.testBit c = false := by
              cases z : (stt n4 k4 j4).1.testBit c
              · rfl
              · exact absurd (b1.mpr z) h1
            exact absurd (b0.mpr hc0) h3
          · have hqm : 0 < q - m := by
              rcases Nat.eq_zero_or_pos (q - m) with z | z
              · rw [z] at h2
                exact absurd (by decide) h2
              · exact z
            rcases Nat.lt_or_ge c (xq n4 k4 j4) with z | z
            · exact z
            · have : c = xq n4 k4 j4 := by omega
              rw [← this, hm] at x3
              omega
          · have hqm : 0 < q - m := by
              rcases Nat.eq_zero_or_pos (q - m) with z | z
              · rw [z] at h2
                exact absurd (by decide) h2
              · exact z
            rw [hsucc, b0.mp h3, hq, hm]
            show nI (q - m) - 1 = nI (q - (m + 1))
            rw [show q - m = (q - (m + 1)) + 1 by omega, nI_pred]
  · rcases hp with z | ⟨z1, z2⟩
    · exact absurd z h0
    · exact qV_i ⟨(up2_same z1).symm, offA.rf, z2⟩
