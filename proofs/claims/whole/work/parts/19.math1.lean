/-! THE ROW, purely -/
def wN (w : Nat → Int32) (j : Nat) : Nat := (w j).toNatClampNeg
/-- the flows: widths 0 .. 99, none from a place to itself, at most 16 -/
def FO (w : Nat → Int32) : Prop := (∀ j, j < 100 → 0 ≤ w j ∧ w j ≤ 99) ∧ (∀ a, a < 10 → w (11 * a) = 0) ∧ fb_ct (fun j => decide (0 < w j)) 100 ≤ 16
theorem FO.eq {w : Nat → Int32} (h : FO w) {j : Nat} (hj : j < 100) : w j = nI (wN w j) ∧ wN w j ≤ 99 := by
  obtain ⟨h1, h2⟩ := h.1 j hj
  obtain ⟨k, z1, z2⟩ := nI_of (le_nlt h1)
  unfold wN
  rw [z2, cl_n z1]
  rw [z2] at h2
  exact ⟨rfl, (nI_leI z1 (by decide)).mp h2⟩
theorem FO.pos {w : Nat → Int32} (h : FO w) {j : Nat} (hj : j < 100) : 0 < w j ↔ 0 < wN w j := by
  obtain ⟨h1, h2⟩ := h.eq hj
  rw [h1]
  exact nI_ltI (a := 0) (by decide) (by omega)
theorem FO.npos {w : Nat → Int32} (h : FO w) {j : Nat} (hj : j < 100) (hn : ¬ 0 < w j) : w j = 0 := by
  have := (h.eq hj).1
  have h2 : ¬ 0 < wN w j := fun q => hn ((h.pos hj).mpr q)
  rw [this, show wN w j = 0 by omega]
  rfl
/-- a set of numbers below n, as a mask -/
def mkM (b : Nat → Bool) : Nat → Nat
  | 0 => 0
  | n + 1 => mkM b n ||| (if b n then 2 ^ n else 0)
theorem mkM_bit (b : Nat → Bool) (p : Nat) : ∀ n, (mkM b n).testBit p = (decide (p < n) && b p)
  | 0 => by simp [mkM]
  | n + 1 => by
    rw [mkM, Nat.testBit_or, mkM_bit b p n]
    by_cases h : p = n
    · subst h
      cases hb : b p <;> simp
    · have h3 : n ≠ p := fun e => h e.symm
      cases hb : b n
      · by_cases h2 : p < n
        · simp [h2, Nat.lt_succ_of_lt h2]
        · simp [h2, show ¬ p < n + 1 by omega]
      · by_cases h2 : p < n
        · simp [h2, Nat.lt_succ_of_lt h2, Nat.testBit_two_pow_of_ne h3]
        · simp [h2, show ¬ p < n + 1 by omega, Nat.testBit_two_pow_of_ne h3]
theorem mkM_lt (b : Nat → Bool) (n : Nat) : mkM b n < 2 ^ n := by
  apply Nat.lt_pow_two_of_testBit
  intro i hi
  rw [mkM_bit]
  simp [show ¬ i < n by omega]
theorem mkM_ext {b c : Nat → Bool} {n : Nat} (h : ∀ p, p < n → b p = c p) : mkM b n = mkM c n := by
  apply Nat.eq_of_testBit_eq
  intro i
  rw [mkM_bit, mkM_bit]
  by_cases hi : i < n
  · rw [h i hi]
  · simp [hi]
/-- the rank of a place among the used ones, their number, their mask -/
def rk (w : Nat → Int32) (p : Nat) : Nat := fb_ct (usd w) p
def nU (w : Nat → Int32) : Nat := fb_ct (usd w) 10
def um (w : Nat → Int32) : Nat := mkM (usd w) 10
theorem nU_le (w : Nat → Int32) : nU w ≤ 10 := fb_ct_le _ 10
theorem rk_lt {w : Nat → Int32} {p : Nat} (hp : p < 10) (hu : usd w p = true) : rk w p < nU w := by
  have h1 : fb_ct (usd w) (p + 1) ≤ fb_ct (usd w) 10 := fb_ct_mono _ hp
  rw [fb_ct_succ, if_pos hu] at h1
  exact h1
theorem rk_inj {w : Nat → Int32} {p q : Nat} (hp : usd w p = true) (hq : usd w q = true) (e : rk w p = rk w q) : p = q := fb_ct_kth_one hp hq e
theorem rk_ex {w : Nat → Int32} {i : Nat} (h : i < nU w) : ∃ p, p < 10 ∧ usd w p = true ∧ rk w p = i := fb_ct_kth h
theorem rk_mono {w : Nat → Int32} {p q : Nat} (hp : usd w p = true) (h : p < q) : rk w p < rk w q := by
  have h1 : fb_ct (usd w) (p + 1) ≤ fb_ct (usd w) q := fb_ct_mono _ h
  rw [fb_ct_succ, if_pos hp] at h1
  exact h1
/-- the mask of places of a mask of ranks -/
def em (w : Nat → Int32) (set : Nat) : Nat := mkM (fun p => usd w p && set.testBit (rk w p)) 10
theorem em_bit (w : Nat → Int32) (set p : Nat) : (em w set).testBit p = (decide (p < 10) && (usd w p && set.testBit (rk w p))) := mkM_bit _ _ _
theorem em_lt (w : Nat → Int32) (set : Nat) : em w set < 1024 := mkM_lt _ 10
theorem em_0 (w : Nat → Int32) : em w 0 = 0 := by
  apply Nat.eq_of_testBit_eq
  intro i
  rw [em_bit]
  simp
theorem em_all (w : Nat → Int32) : em w (2 ^ nU w - 1) = um w := by
  apply Nat.eq_of_testBit_eq
  intro i
  rw [em_bit, um, mkM_bit, Nat.testBit_two_pow_sub_one]
  by_cases hi : i < 10
  · cases hu : usd w i
    · simp
    · simp [rk_lt hi hu]
  · simp [hi]
theorem em_flip {w : Nat → Int32} {set p : Nat} (hp : p < 10) (hu : usd w p = true) : em w (set ^^^ 2 ^ rk w p) = em w set ^^^ 2 ^ p := by
  apply Nat.eq_of_testBit_eq
  intro i
  rw [em_bit, fb_bit_flip, fb_bit_flip, em_bit]
  by_cases hi : i = p
  · subst hi
    simp [hp, hu]
  · by_cases h10 : i < 10
    · cases hv : usd w i
      · simp [hi]
      · have : ¬ rk w i = rk w p := fun e => hi (rk_inj hv hu e)
        simp [this, hi]
    · simp [h10, hi]
/-- what goes from a set to a place, from a place to a set -/
def cr (w : Nat → Int32) (S p : Nat) : Nat := fb_sm (fun q => if S.testBit q then wN w (10 * q + p) else 0) 10
def ct (w : Nat → Int32) (p F : Nat) : Nat := fb_sm (fun q => if F.testBit q then wN w (10 * p + q) else 0) 10
/-- the least of some numbers: none are, or one is it and none is less -/
def IsMn (P : Nat → Prop) (f : Nat → Nat) (m : Nat) : Prop := (∀ p, P p → m ≤ f p) ∧ ∃ p, P p ∧ f p = m
theorem IsMn.uniq {P : Nat → Prop} {f : Nat → Nat} {m k : Nat} (h : IsMn P f m) (h2 : IsMn P f k) : m = k := by
  obtain ⟨a1, p, a2, a3⟩ := h
  obtain ⟨b1, q, b2, b3⟩ := h2
  have := a1 q b2
  have := b1 p a2
  omega
def mo (b : Nat → Bool) (f : Nat → Nat) : Nat → Option Nat
  | 0 => none
  | n + 1 => if b n then some (match mo b f n with | none => f n | some m => min m (f n)) else mo b f n
theorem mo_none {b : Nat → Bool} {f : Nat → Nat} : ∀ {n : Nat}, mo b f n = none → ∀ p, p < n → b p = false
  | 0, _, p, h => absurd h (Nat.not_lt_zero p)
  | n + 1, h, p, hp => by
    unfold mo at h
    split at h
    · cases h
    · rename_i hb
      rcases Nat.lt_succ_iff_lt_or_eq.mp hp with q | q
      · exact mo_none h p q
      · subst q
        simpa using hb
theorem mo_some {b : Nat → Bool} {f : Nat → Nat} : ∀ {n m : Nat}, mo b f n = some m → IsMn (fun p => p < n ∧ b p = true) f m
  | 0, _, h => by cases h
  | n + 1, m, h => by
    unfold mo at h
    split at h
    · rename_i hb
      cases hm : mo b f n with
      | none =>
        rw [hm] at h
        have h0 := mo_none hm
        cases h
        refine ⟨fun p hp => ?_, n, ⟨Nat.lt_succ_self n, hb⟩, rfl⟩
        rcases Nat.lt_succ_iff_lt_or_eq.mp hp.1 with q | q
        · have z := hp.2
          rw [h0 p q] at z
          cases z
        · subst q
          exact Nat.le_refl _
      | some k =>
        rw [hm] at h
        obtain ⟨i1, p, i2, i3⟩ := mo_some hm
        cases h
        refine ⟨fun q hq => ?_, ?_⟩
        · rcases Nat.lt_succ_iff_lt_or_eq.mp hq.1 with z | z
          · exact Nat.le_trans (Nat.min_le_left _ _) (i1 q ⟨z, hq.2⟩)
          · subst z
            exact Nat.min_le_right _ _
        · rcases Nat.le_total k (f n) with z | z
          · exact ⟨p, ⟨Nat.lt_succ_of_lt i2.1, i2.2⟩, by show _ = min k (f n); rw [Nat.min_eq_left z, i3]⟩
          · exact ⟨n, ⟨Nat.lt_succ_self n, hb⟩, by show _ = min k (f n); rw [Nat.min_eq_right z]⟩
    · rename_i hb
      obtain ⟨i1, p, i2, i3⟩ := mo_some h
      refine ⟨fun q hq => ?_, p, ⟨Nat.lt_succ_of_lt i2.1, i2.2⟩, i3⟩
      rcases Nat.lt_succ_iff_lt_or_eq.mp hq.1 with z | z
      · exact i1 q ⟨z, hq.2⟩
      · subst z
        exact absurd hq.2 hb
/-- how many places a mask has -/
def pc10 (S : Nat) : Nat := fb_ct (fun p => S.testBit p) 10
theorem pc_flip {S p : Nat} (hp : p < 10) (hb : S.testBit p = true) : pc10 (S ^^^ 2 ^ p) + 1 = pc10 S := by
  have h := fb_ct_upd (fun q => S.testBit q) false (i := p) (n := 10) hp
  have e : fb_ct (fun q => (S ^^^ 2 ^ p).testBit q) 10 = fb_ct (fun k => if k = p then false else S.testBit k) 10 := by
    apply fb_ct_cong
    intro k _
    show (S ^^^ 2 ^ p).testBit k = _
    rw [fb_bit_flip]
    by_cases hk : k = p
    · subst hk
      simp [hb]
    · simp [hk]
  unfold pc10
  rw [e]
  simp only [hb, if_true] at h
  simpa using h
theorem pc_pos {S : Nat} : 0 < pc10 S ↔ ∃ p, p < 10 ∧ S.testBit p = true := fb_ct_pos
/-- the least sum of a set's rows -/
def Lf (w : Nat → Int32) : Nat → Nat → Nat
  | 0, _ => 0
  | k + 1, S => (mo (fun p => S.testBit p) (fun p => Lf w k (S ^^^ 2 ^ p) + cr w (S ^^^ 2 ^ p) p) 10).getD 0
def Lx (w : Nat → Int32) (S : Nat) : Nat := Lf w (pc10 S) S
theorem Lx_0 (w : Nat → Int32) {S : Nat} (h : pc10 S = 0) : Lx w S = 0 := by
  unfold Lx
  rw [h]
  rfl
theorem Lx_min (w : Nat → Int32) {S : Nat} (h : 0 < pc10 S) : IsMn (fun p => p < 10 ∧ S.testBit p = true) (fun p => Lx w (S ^^^ 2 ^ p) + cr w (S ^^^ 2 ^ p) p) (Lx w S) := by
  obtain ⟨k, hk⟩ : ∃ k, pc10 S = k + 1 := ⟨pc10 S - 1, by omega⟩
  have e : Lx w S = (mo (fun p => S.testBit p) (fun p => Lf w k (S ^^^ 2 ^ p) + cr w (S ^^^ 2 ^ p) p) 10).getD 0 := by
    unfold Lx
    rw [hk]
    rfl
  cases hm : mo (fun p => S.testBit p) (fun p => Lf w k (S ^^^ 2 ^ p) + cr w (S ^^^ 2 ^ p) p) 10 with
  | none =>
    obtain ⟨p, h1, h2⟩ := pc_pos.mp h
    have := mo_none hm p h1
    rw [h2] at this
    cases this
  | some m =>
    rw [hm] at e
    obtain ⟨i1, p, i2, i3⟩ := mo_some hm
    have key : ∀ q, q < 10 ∧ S.testBit q = true → Lf w k (S ^^^ 2 ^ q) = Lx w (S ^^^ 2 ^ q) := by
      intro q hq
      unfold Lx
      have := pc_flip hq.1 hq.2
      rw [show pc10 (S ^^^ 2 ^ q) = k by omega]
    rw [e]
    refine ⟨fun q hq => ?_, p, i2, ?_⟩
    · show m ≤ Lx w (S ^^^ 2 ^ q) + cr w (S ^^^ 2 ^ q) q
      rw [← key q hq]
      exact i1 q hq
    · show Lx w (S ^^^ 2 ^ p) + _ = _
      rw [← key p i2]
      exact i3
theorem cr_le {w : Nat → Int32} (h : FO w) {S p : Nat} (hp : p < 10) : cr w S p ≤ 990 := by
  unfold cr
  refine Nat.le_trans (fb_sm_bound (c := 99) (fun q hq => ?_)) (by decide)
  split
  · exact (h.eq (by omega)).2
  · omega
theorem Lx_le {w : Nat → Int32} (h : FO w) : ∀ (n S : Nat), pc10 S = n → Lx w S ≤ n * 990
  | 0, S, e => by rw [Lx_0 w e]; omega
  | n + 1, S, e => by
    obtain ⟨i1, p, i2, i3⟩ := Lx_min w (S := S) (by omega)
    have h1 := pc_flip i2.1 i2.2
    have h2 := Lx_le h n (S ^^^ 2 ^ p) (by omega)
    have h3 := cr_le h (S := S ^^^ 2 ^ p) i2.1
    have i3 : Lx w (S ^^^ 2 ^ p) + cr w (S ^^^ 2 ^ p) p = Lx w S := i3
    omega
theorem Lx_small {w : Nat → Int32} (h : FO w) (S : Nat) : Lx w S ≤ 9900 := by
  have h1 := Lx_le h (pc10 S) S rfl
  have h2 : pc10 S ≤ 10 := fb_ct_le _ 10
  exact Nat.le_trans h1 (Nat.le_trans (Nat.mul_le_mul_right 990 h2) (by decide))
/-- the place that comes first of a set -/
def IsPk (w : Nat → Int32) (S p : Nat) : Prop := p < 10 ∧ S.testBit p = true ∧ Lx w (S ^^^ 2 ^ p) + cr w (S ^^^ 2 ^ p) p = Lx w S ∧ ∀ q, q < p → S.testBit q = true → ¬ Lx w (S ^^^ 2 ^ q) + cr w (S ^^^ 2 ^ q) q = Lx w S
theorem IsPk.uniq {w : Nat → Int32} {S p q : Nat} (h : IsPk w S p) (h2 : IsPk w S q) : p = q := by
  rcases Nat.lt_trichotomy p q with z | z | z
  · exact absurd h.2.2.1 (h2.2.2.2 p z h.2.1)
  · exact z
  · exact absurd h2.2.2.1 (h.2.2.2 q z h2.2.1)
theorem IsPk.ex (w : Nat → Int32) {S : Nat} (h : 0 < pc10 S) : ∃ p, IsPk w S p := by
  obtain ⟨-, p, i2, i3⟩ := Lx_min w h
  obtain ⟨q, hq, hl⟩ := pk_least (fun p => p < 10 ∧ S.testBit p = true ∧ Lx w (S ^^^ 2 ^ p) + cr w (S ^^^ 2 ^ p) p = Lx w S) ⟨p, i2.1, i2.2, i3⟩
  exact ⟨q, hq.1, hq.2.1, hq.2.2, fun r hr h1 h2 => hl r hr ⟨by omega, h1, h2⟩⟩
noncomputable def pk (w : Nat → Int32) (S : Nat) : Nat := if h : 0 < pc10 S then Classical.choose (IsPk.ex w h) else 0
theorem pk_is {w : Nat → Int32} {S : Nat} (h : 0 < pc10 S) : IsPk w S (pk w S) := by
  unfold pk
  rw [dif_pos h]
  exact Classical.choose_spec (IsPk.ex w h)
noncomputable def Sk (w : Nat → Int32) : Nat → Nat
  | 0 => um w
  | k + 1 => Sk w k ^^^ 2 ^ pk w (Sk w k)
noncomputable def rowF (w : Nat → Int32) (k : Nat) : Nat := pk w (Sk w k)
theorem pc_um (w : Nat → Int32) : pc10 (um w) = nU w := by
  apply fb_ct_cong
  intro k hk
  show (um w).testBit k = _
  rw [um, mkM_bit]
  simp [hk]
theorem Sk_pc (w : Nat → Int32) : ∀ k, k ≤ nU w → pc10 (Sk w k) = nU w - k
  | 0, _ => pc_um w
  | k + 1, h => by
    have ih := Sk_pc w k (by omega)
    have hp := pk_is (w := w) (S := Sk w k) (by omega)
    have := pc_flip hp.1 hp.2.1
    show pc10 (Sk w k ^^^ 2 ^ pk w (Sk w k)) = _
    omega
theorem row_is {w : Nat → Int32} {k : Nat} (h : k < nU w) : IsPk w (Sk w k) (rowF w k) := pk_is (by have := Sk_pc w k (by omega); omega)
theorem Sk_bit (w : Nat → Int32) (p : Nat) : ∀ k, k ≤ nU w → ((Sk w k).testBit p = true ↔ (p < 10 ∧ usd w p = true ∧ ∀ j, j < k → rowF w j ≠ p))
  | 0, _ => by
    show (um w).testBit p = true ↔ _
    rw [um, mkM_bit]
    simp
  | k + 1, h => by
    have ih := Sk_bit w p k (by omega)
    have hp := row_is (w := w) (k := k) (by omega)
    show (Sk w k ^^^ 2 ^ rowF w k).testBit p = true ↔ _
    rw [fb_bit_flip]
    by_cases e : p = rowF w k
    · subst e
      rw [hp.2.1]
      simp only [decide_true, Bool.xor_self, Bool.false_eq_true, false_iff]
      rintro ⟨-, -, q⟩
      exact q k (Nat.lt_succ_self k) rfl
    · simp only [e, decide_false, Bool.xor_false]
      rw [ih]
      constructor
      · rintro ⟨a1, a2, a3⟩
        refine ⟨a1, a2, fun j hj => ?_⟩
        rcases Nat.lt_succ_iff_lt_or_eq.mp hj with z | z
        · exact a3 j z
        · subst z
          exact fun q => e q.symm
      · rintro ⟨a1, a2, a3⟩
        exact ⟨a1, a2, fun j hj => a3 j (Nat.lt_succ_of_lt hj)⟩
theorem row_used {w : Nat → Int32} {k : Nat} (h : k < nU w) : rowF w k < 10 ∧ usd w (rowF w k) = true := by
  have := (Sk_bit w (rowF w k) k (by omega)).mp (row_is h).2.1
  exact ⟨this.1, this.2.1⟩
theorem row_inj {w : Nat → Int32} {i j : Nat} (hi : i < nU w) (hj : j < nU w) (e : rowF w i = rowF w j) : i = j := by
  rcases Nat.lt_trichotomy i j with z | z | z
  · exact absurd e (((Sk_bit w (rowF w j) j (by omega)).mp (row_is hj).2.1).2.2 i z)
  · exact z
  · exact absurd e.symm (((Sk_bit w (rowF w i) i (by omega)).mp (row_is hi).2.1).2.2 j z)
theorem row_ex {w : Nat → Int32} {p : Nat} (hp : p < 10) (hu : usd w p = true) : ∃ k, k < nU w ∧ rowF w k = p := by
  have h := Sk_pc w (nU w) (Nat.le_refl _)
  rw [Nat.sub_self] at h
  have hb := (fb_ct_zero.mp h) p hp
  have := Sk_bit w p (nU w) (Nat.le_refl _)
  rw [hb] at this
  simp only [Bool.false_eq_true, false_iff, not_and] at this
  have h2 := this hp hu
  simp only [Classical.not_forall] at h2
  obtain ⟨k, hk, e⟩ := h2
  exact ⟨k, hk, Classical.not_not.mp e⟩
noncomputable def posF (w : Nat → Int32) (p : Nat) : Nat := if h : ∃ k, k < nU w ∧ rowF w k = p then Classical.choose h else 0
theorem pos_is {w : Nat → Int32} {p : Nat} (hp : p < 10) (hu : usd w p = true) : posF w p < nU w ∧ rowF w (posF w p) = p := by
  unfold posF
  rw [dif_pos (row_ex hp hu)]
  exact Classical.choose_spec (row_ex hp hu)
theorem pos_row {w : Nat → Int32} {k : Nat} (hk : k < nU w) : posF w (rowF w k) = k := by
  obtain ⟨h1, h2⟩ := row_used hk
  obtain ⟨h3, h4⟩ := pos_is h1 h2
  exact row_inj h3 hk h4
