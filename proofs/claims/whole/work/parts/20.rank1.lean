/-! Ranking: used places, their sources, the sums of sets -/
theorem up2_2 {f : HI} {k j : Nat} {v v' : Int32} : up2 (up2 f k j v) k j v' = up2 f k j v' := by
  funext a b
  unfold up2
  split <;> rfl
theorem offA.rf {ks : List Nat} {A : HI} : offA ks A A := fun _ _ => rfl
theorem offA.tr {ks : List Nat} {A B C : HI} (h1 : offA ks A B) (h2 : offA ks B C) : offA ks A C := fun k hk => (h2 k hk).trans (h1 k hk)
theorem offA.up {ks : List Nat} {A B : HI} {k j : Nat} {v : Int32} (h1 : offA ks A B) (hk : k ∈ ks) : offA ks A (up2 B k j v) := fun q hq => by
  rw [up2_off (fun e => hq (by rw [e]; exact hk))]
  exact h1 q hq
theorem offA.sub {ks ls : List Nat} {A B : HI} (h1 : offA ks A B) (h : ∀ k ∈ ks, k ∈ ls) : offA ls A B := fun q hq => h1 q (fun z => hq (h q z))
def gUs (I A I' A' : HI) : Prop := I' = up2 I 3 2 (nI (nU (A 2))) ∧ offA [4] A A' ∧ ∀ p, p < 10 → usd (A 2) p = true → A' 4 (rk (A 2) p) = nI p
theorem usI_z {w : Nat → Int32} {p : Nat} : usI w p = 0 ↔ usd w p = false := by
  unfold usI
  cases usd w p <;> decide
set_option maxHeartbeats 4000000 in
theorem c_X5_gatherUsed (l : Launch) (D : va_G) (ads : AD) (I A : HI) : Ct l yX5_gatherUsed cX5_gatherUsed 2 none 1 22 D ads shp [.inr (some 3)] I A (qV (gUs I A)) := by
  refine k_X5_gatherUsed l D ads I A _ (fun x I' A' => ∃ p, p ≤ 10 ∧ x = nI p ∧ I' = up2 I 3 2 (nI (rk (A 2) p)) ∧ offA [4] A A' ∧ ∀ q, q < p → usd (A 2) q = true → A' 4 (rk (A 2) q) = nI q) (fun x _ _ => 10 - x.toNatClampNeg) ⟨⟨0, Nat.zero_le _, rfl, rfl, offA.rf, fun q h => absurd h (Nat.not_lt_zero q)⟩, ?_⟩
  rintro x I' A' ⟨p, h1, rfl, rfl, h3, h4⟩
  have e2 : A' 2 = A 2 := h3 2 (by decide)
  refine ⟨fun h => ?_, fun h => ?_⟩
  · have e := cn_eq rfl h1 (by decide) h
    subst e
    exact qV_i ⟨rfl, h3, h4⟩
  · have hp := cn_lt rfl h1 (by decide) h
    have hr : rk (A 2) p ≤ p := fb_ct_le _ p
    rw [e2, cl_n (by omega), up2_s]
    refine ⟨vp_in_nI hp (by decide), fun h5 => ⟨⟨p + 1, hp, nI_1 p, ?_, h3, fun q hq hu => ?_⟩, ?_⟩, fun h5 => ⟨vp_in_nI (by omega) (by decide), ⟨p + 1, hp, nI_1 p, ?_, h3.up (by decide), fun q hq hu => ?_⟩, ?_⟩⟩
    · show _ = up2 I 3 2 (nI (fb_ct (usd (A 2)) (p + 1)))
      rw [fb_ct_succ, usI_z.mp h5]
      rfl
    · rcases Nat.lt_succ_iff_lt_or_eq.mp hq with z | z
      · exact h4 q z hu
      · subst z
        rw [usI_z.mp h5] at hu
        cases hu
    · rw [nI_1, cl_n (by omega)]
      omega
    · have hu : usd (A 2) p = true := by
        cases z : usd (A 2) p
        · exact absurd (usI_z.mpr z) h5
        · rfl
      rw [up2_2, nI_1]
      show _ = up2 I 3 2 (nI (fb_ct (usd (A 2)) (p + 1)))
      rw [fb_ct_succ, hu]
      rfl
    · rw [cl_n (by omega)]
      rcases Nat.lt_succ_iff_lt_or_eq.mp hq with z | z
      · rw [up2_j (Nat.ne_of_lt (rk_mono hu z))]
        exact h4 q z hu
      · subst z
        rw [up2_s]
    · rw [nI_1, cl_n (by omega)]
      omega
def UsOK (w : Nat → Int32) (I A : HI) : Prop := I 3 2 = nI (nU w) ∧ ∀ p, p < 10 → usd w p = true → A 4 (rk w p) = nI p
/-- the place of a rank -/
noncomputable def uu (w : Nat → Int32) (i : Nat) : Nat := if h : i < nU w then Classical.choose (rk_ex h) else 0
theorem uu_is {w : Nat → Int32} {i : Nat} (h : i < nU w) : uu w i < 10 ∧ usd w (uu w i) = true ∧ rk w (uu w i) = i := by
  unfold uu
  rw [dif_pos h]
  exact Classical.choose_spec (rk_ex h)
theorem uu_rk {w : Nat → Int32} {p : Nat} (hp : p < 10) (hu : usd w p = true) : uu w (rk w p) = p := by
  obtain ⟨-, h2, h3⟩ := uu_is (rk_lt hp hu)
  exact rk_inj h2 hu h3
theorem UsOK.at {w : Nat → Int32} {I A : HI} (h : UsOK w I A) {i : Nat} (hi : i < nU w) : A 4 i = nI (uu w i) := by
  obtain ⟨h1, h2, h3⟩ := uu_is hi
  have := h.2 _ h1 h2
  rwa [h3] at this
theorem sm_swap (f : Nat → Nat → Nat) (b : Nat) : ∀ a, fb_sm (fun i => fb_sm (fun j => f i j) b) a = fb_sm (fun j => fb_sm (fun i => f i j) a) b
  | 0 => by
    rw [show (fun j => fb_sm (fun i => f i j) 0) = (fun _ => 0) from rfl, fb_sm_const]
    rfl
  | a + 1 => by
    rw [fb_sm_succ, sm_swap f b a, ← fb_sm_add]
    rfl
theorem sm_flat (f : Nat → Nat) (b : Nat) : ∀ a, fb_sm (fun i => fb_sm (fun j => f (b * i + j)) b) a = fb_sm f (b * a)
  | 0 => rfl
  | a + 1 => by
    rw [fb_sm_succ, sm_flat f b a, Nat.mul_succ, fb_sm_split]
theorem ct_sm (p : Nat → Bool) : ∀ n, fb_ct p n = fb_sm (fun k => if p k then 1 else 0) n
  | 0 => rfl
  | n + 1 => by rw [fb_ct_succ, fb_sm_succ, ct_sm p n]
theorem sm_rank (w : Nat → Int32) (g : Nat → Nat) : ∀ p, p ≤ 10 → fb_sm (fun i => g (uu w i)) (rk w p) = fb_sm (fun p => if usd w p then g p else 0) p
  | 0, _ => rfl
  | p + 1, h => by
    have ih := sm_rank w g p (by omega)
    show fb_sm _ (fb_ct (usd w) (p + 1)) = _
    rw [fb_ct_succ, fb_sm_succ]
    cases hu : usd w p
    · simp only [Bool.false_eq_true, if_false, Nat.add_zero]
      exact ih
    · simp only [if_true]
      rw [fb_sm_succ]
      have e : uu w (fb_ct (usd w) p) = p := uu_rk (by omega) hu
      rw [e]
      exact congrArg (· + g p) ih
/-- how many sources lie ahead of a rank -/
noncomputable def KK (w : Nat → Int32) (i : Nat) : Nat := fb_sm (fun i => fb_ct (fun q => usd w q && decide (0 < w (10 * q + uu w i))) 10) i
theorem KK_le (w : Nat → Int32) (h : FO w) {i : Nat} (hi : i ≤ nU w) : KK w i ≤ 16 := by
  refine Nat.le_trans ?_ h.2.2
  have h1 : KK w i ≤ KK w (nU w) := by
    have := fb_sm_mono (fun i => fb_ct (fun q => usd w q && decide (0 < w (10 * q + uu w i))) 10) i (nU w - i)
    rwa [show i + (nU w - i) = nU w by omega] at this
  refine Nat.le_trans h1 ?_
  have h2 := sm_rank w (fun p => fb_ct (fun q => usd w q && decide (0 < w (10 * q + p))) 10) 10 (Nat.le_refl _)
  have h3 : KK w (nU w) = fb_sm (fun p => if usd w p then fb_ct (fun q => usd w q && decide (0 < w (10 * q + p))) 10 else 0) 10 := h2
  rw [h3, ct_sm (fun j => decide (0 < w j)) 100, ← sm_flat (fun k => if decide (0 < w k) then 1 else 0) 10 10, ← sm_swap (fun p q => if decide (0 < w (10 * q + p)) then 1 else 0) 10 10]
  refine fb_sm_le (fun p _ => ?_)
  split
  · rw [ct_sm]
    refine fb_sm_le (fun q _ => ?_)
    cases usd w q
    · simp
    · simp
  · omega
theorem sh1 : ∀ j, j < 11 → (1 : Int32) <<< (nI j &&& 31) = nI (2 ^ j) := by decide +kernel
theorem btw_n {A : HI} {a b : Nat} (ha : a < 10) (hb : b < 10) : btw A (nI a) (nI b) = A 2 (10 * a + b) := by
  unfold btw
  rw [zPP_of ha hb, if_neg (by decide), ix_a, cl_n (by omega)]
/-- the sum of the sources of a stretch that are in a set -/
def slS (A : HI) (s : Int32) (a n : Nat) : Int32 := sm32 (fun t => if s &&& A 6 (a + t) = 0 then 0 else A 7 (a + t)) n
theorem sm32_cong {f g : Nat → Int32} : ∀ {n : Nat}, (∀ k, k < n → f k = g k) → sm32 f n = sm32 g n
  | 0, _ => rfl
  | n + 1, h => by rw [sm32, sm32, sm32_cong (fun k hk => h k (by omega)), h n (by omega)]
def SrcOK (w : Nat → Int32) (A : HI) (n : Nat) : Prop := ∀ i, i < n → A 5 i = nI (KK w i) ∧ ∀ S, slS A (nI S) (KK w i) (KK w (i + 1) - KK w i) = nI (cr w (em w S) (uu w i))
/-- the part of a sum, and of a count, over the ranks below j -/
def crj (w : Nat → Int32) (S p j : Nat) : Nat := fb_sm (fun q => if (usd w q && decide (rk w q < j)) && S.testBit (rk w q) then wN w (10 * q + p) else 0) 10
def kcj (w : Nat → Int32) (p j : Nat) : Nat := fb_ct (fun q => (usd w q && decide (rk w q < j)) && decide (0 < w (10 * q + p))) 10
theorem crj_0 (w : Nat → Int32) (S p : Nat) : crj w S p 0 = 0 := by
  have h := fb_sm_bound (f := fun q => if (usd w q && decide (rk w q < 0)) && S.testBit (rk w q) then wN w (10 * q + p) else 0) (c := 0) (n := 10) (fun k _ => by simp)
  have : crj w S p 0 ≤ 10 * 0 := h
  omega
theorem kcj_0 (w : Nat → Int32) (p : Nat) : kcj w p 0 = 0 := fb_ct_zero.mpr (fun k _ => by simp)
theorem crj_s {w : Nat → Int32} {S p j : Nat} (h : j < nU w) : crj w S p (j + 1) = crj w S p j + (if S.testBit j then wN w (10 * uu w j + p) else 0) := by
  obtain ⟨h1, h2, h3⟩ := uu_is h
  have e := fb_sm_upd (fun q => if (usd w q && decide (rk w q < j)) && S.testBit (rk w q) then wN w (10 * q + p) else 0) (if S.testBit j then wN w (10 * uu w j + p) else 0) (i := uu w j) (n := 10) h1
  have e2 : crj w S p (j + 1) = fb_sm (fun k => if k = uu w j then (if S.testBit j then wN w (10 * uu w j + p) else 0) else (if (usd w k && decide (rk w k < j)) && S.testBit (rk w k) then wN w (10 * k + p) else 0)) 10 := by
    apply fb_sm_cong
    intro q _
    by_cases hq : q = uu w j
    · subst hq
      simp [h2, h3]
    · rw [if_neg hq]
      cases hu : usd w q
      · simp
      · have : ¬ rk w q = j := fun z => hq (rk_inj hu h2 (by rw [z, h3]))
        have e9 : decide (rk w q < j + 1) = decide (rk w q < j) := by
          by_cases z : rk w q < j
          · simp [z, Nat.lt_succ_of_lt z]
          · simp [z, show ¬ rk w q < j + 1 by omega]
        rw [e9]
  rw [e2]
  simp only [h2, h3, Nat.lt_irrefl, decide_false, Bool.and_false, Bool.false_and, Bool.false_eq_true, if_false, Nat.add_zero] at e
  rw [e]
  rfl
theorem kcj_s {w : Nat → Int32} {p j : Nat} (h : j < nU w) : kcj w p (j + 1) = kcj w p j + (if 0 < w (10 * uu w j + p) then 1 else 0) := by
  obtain ⟨h1, h2, h3⟩ := uu_is h
  have e := fb_ct_upd (fun q => (usd w q && decide (rk w q < j)) && decide (0 < w (10 * q + p))) (decide (0 < w (10 * uu w j + p))) (i := uu w j) (n := 10) h1
  have e2 : kcj w p (j + 1) = fb_ct (fun k => if k = uu w j then decide (0 < w (10 * uu w j + p)) else ((usd w k && decide (rk w k < j)) && decide (0 < w (10 * k + p)))) 10 := by
    apply fb_ct_cong
    intro q _
    by_cases hq : q = uu w j
    · subst hq
      simp [h2, h3]
    · rw [if_neg hq]
      cases hu : usd w q
      · simp
      · have : ¬ rk w q = j := fun z => hq (rk_inj hu h2 (by rw [z, h3]))
        have e9 : decide (rk w q < j + 1) = decide (rk w q < j) := by
          by_cases z : rk w q < j
          · simp [z, Nat.lt_succ_of_lt z]
          · simp [z, show ¬ rk w q < j + 1 by omega]
        rw [e9]
  rw [e2]
  simp only [h2, h3, Nat.lt_irrefl, decide_false, Bool.and_false, Bool.false_and, Bool.false_eq_true, if_false, Nat.add_zero] at e
  rw [e]
  show kcj w p j + _ = _
  by_cases z : 0 < w (10 * uu w j + p) <;> simp [z]
theorem crj_n {w : Nat → Int32} {S p : Nat} : crj w S p (nU w) = cr w (em w S) p := by
  apply fb_sm_cong
  intro q hq
  rw [em_bit]
  cases hu : usd w q
  · simp
  · simp [hq, rk_lt hq hu]
theorem kcj_n {w : Nat → Int32} {i : Nat} : KK w i + kcj w (uu w i) (nU w) = KK w (i + 1) := by
  show _ = fb_sm _ (i + 1)
  rw [fb_sm_succ]
  show KK w i + _ = KK w i + _
  congr 1
  apply fb_ct_cong
  intro q hq
  cases hu : usd w q
  · simp
  · simp [rk_lt hq hu]
theorem kcj_le {w : Nat → Int32} {p j : Nat} (h : j ≤ nU w) : kcj w p j ≤ kcj w p (nU w) := by
  apply fb_ct_sub
  intro q hq z
  simp only [Bool.and_eq_true, decide_eq_true_eq] at z ⊢
  exact ⟨⟨z.1.1, by omega⟩, z.2⟩
