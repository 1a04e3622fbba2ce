/-! THE ROW as the model finds it -/
def xS (w : Nat → Int32) (S F : Nat) : Nat := fb_sm (fun p => if S.testBit p then ct w p F else 0) 10
def RR (w : Nat → Int32) (U F : Nat) : Nat := Lx w (U ^^^ F) + xS w (U ^^^ F) F
theorem ct_or {w : Nat → Int32} {q F p : Nat} (hp : p < 10) (hF : F.testBit p = false) : ct w q (F ||| 2 ^ p) = ct w q F + wN w (10 * q + p) := by
  have e := fb_sm_upd (fun k => if F.testBit k then wN w (10 * q + k) else 0) (wN w (10 * q + p)) (i := p) (n := 10) hp
  have e2 : ct w q (F ||| 2 ^ p) = fb_sm (fun k => if k = p then wN w (10 * q + p) else (if F.testBit k then wN w (10 * q + k) else 0)) 10 := by
    apply fb_sm_cong
    intro k _
    rw [fb_bit_set]
    by_cases z : k = p
    · subst z
      simp
    · simp [z]
  rw [e2]
  simp only [hF, Bool.false_eq_true, if_false, Nat.add_zero] at e
  exact e
theorem xS_flip {w : Nat → Int32} {S G p : Nat} (hp : p < 10) (hS : S.testBit p = true) : xS w (S ^^^ 2 ^ p) G + ct w p G = xS w S G := by
  have e := fb_sm_upd (fun k => if S.testBit k then ct w k G else 0) 0 (i := p) (n := 10) hp
  have e2 : xS w (S ^^^ 2 ^ p) G = fb_sm (fun k => if k = p then 0 else (if S.testBit k then ct w k G else 0)) 10 := by
    apply fb_sm_cong
    intro k _
    rw [fb_bit_flip]
    by_cases z : k = p
    · subst z
      simp [hS]
    · simp [z]
  rw [e2]
  simp only [hS, if_true, Nat.add_zero] at e
  exact e
theorem xS_or {w : Nat → Int32} {T F p : Nat} (hp : p < 10) (hF : F.testBit p = false) : xS w T (F ||| 2 ^ p) = xS w T F + cr w T p := by
  unfold xS cr
  rw [← fb_sm_add]
  apply fb_sm_cong
  intro q _
  rw [ct_or hp hF]
  cases T.testBit q <;> simp
theorem xor_or {U F p : Nat} (hF : F.testBit p = false) : U ^^^ (F ||| 2 ^ p) = (U ^^^ F) ^^^ 2 ^ p := by
  apply Nat.eq_of_testBit_eq
  intro i
  rw [Nat.testBit_xor, fb_bit_set, fb_bit_flip, Nat.testBit_xor]
  by_cases z : i = p
  · subst z
    simp [hF]
  · simp [z]
theorem RR_step {w : Nat → Int32} {U F p : Nat} (hp : p < 10) (hF : F.testBit p = false) (hS : (U ^^^ F).testBit p = true) : ct w p F + RR w U (F ||| 2 ^ p) = vL w (U ^^^ F) p + xS w (U ^^^ F) F := by
  unfold RR vL
  rw [xor_or hF, xS_or hp hF, ← xS_flip (w := w) (G := F) hp hS]
  omega
theorem xS_le {w : Nat → Int32} (h : FO w) (S F : Nat) : xS w S F ≤ 9900 := by
  unfold xS
  refine Nat.le_trans (fb_sm_bound (c := 990) (fun p hp => ?_)) (by decide)
  split
  · unfold ct
    refine Nat.le_trans (fb_sm_bound (c := 99) (fun q hq => ?_)) (by decide)
    split
    · exact (h.eq (by omega)).2
    · omega
  · omega
theorem ct_le {w : Nat → Int32} (h : FO w) {p F : Nat} (hp : p < 10) : ct w p F ≤ 990 := by
  unfold ct
  refine Nat.le_trans (fb_sm_bound (c := 99) (fun q hq => ?_)) (by decide)
  split
  · exact (h.eq (by omega)).2
  · omega
theorem RR_le {w : Nat → Int32} (h : FO w) (U F : Nat) : RR w U F ≤ 19800 := by
  have h1 := Lx_small h (U ^^^ F)
  have h2 := xS_le h (U ^^^ F) F
  unfold RR
  omega
theorem RR_min {w : Nat → Int32} {U F : Nat} (hpos : 0 < pc10 (U ^^^ F)) : IsMn (fun p => p < 10 ∧ (U ^^^ F).testBit p = true) (fun p => vL w (U ^^^ F) p + xS w (U ^^^ F) F) (RR w U F) := by
  obtain ⟨h1, p, h2, h3⟩ := Lx_min w hpos
  refine ⟨fun q hq => ?_, p, h2, ?_⟩
  · have := h1 q hq
    show Lx w (U ^^^ F) + _ ≤ vL w (U ^^^ F) q + _
    have : Lx w (U ^^^ F) ≤ vL w (U ^^^ F) q := this
    omega
  · show vL w (U ^^^ F) p + _ = Lx w (U ^^^ F) + _
    have : vL w (U ^^^ F) p = Lx w (U ^^^ F) := h3
    omega
/-! bits of the model -/
theorem shr_n : ∀ q, q < 11 → ((nI q &&& 31).toBitVec.smod 32).toNat = q := by decide +kernel
theorem bt_v {F q : Nat} (hF : F < 2 ^ 31) (hq : q < 11) : (nI F >>> (nI q &&& 31)) &&& 1 = nI (F / 2 ^ q % 2) := by
  rw [pk_shrN hF _ q (shr_n q hq), show (1 : Int32) = nI (2 ^ 1 - 1) from rfl, fa_mask]
theorem bt1 {F q : Nat} (hF : F < 2 ^ 31) (hq : q < 11) : (nI F >>> (nI q &&& 31)) &&& 1 = 1 ↔ F.testBit q = true := by
  rw [bt_v hF hq, Nat.testBit_eq_decide_div_mod_eq, decide_eq_true_eq]
  exact nI_eq (b := 1) (by omega) (by decide)
theorem bt0 {F q : Nat} (hF : F < 2 ^ 31) (hq : q < 11) : (nI F >>> (nI q &&& 31)) &&& 1 = 0 ↔ F.testBit q = false := by
  rw [bt_v hF hq, Nat.testBit_eq_decide_div_mod_eq, decide_eq_false_iff_not]
  have := nI_eq (a := F / 2 ^ q % 2) (b := 0) (by omega) (by decide)
  rw [show (0 : Int32) = nI 0 from rfl, this]
  omega
theorem sub_m {F U : Nat} (hF : F < 2 ^ 31) (hU : U < 2 ^ 31) : nI F &&& (nI U ^^^ (-1)) = 0 ↔ ∀ p, F.testBit p = true → U.testBit p = true := by
  rw [show (-1 : Int32) = nI (2 ^ 32 - 1) by decide +kernel, fb_xorI, fa_and]
  have hle : F &&& (U ^^^ (2 ^ 32 - 1)) ≤ F := Nat.and_le_left
  rw [show (0 : Int32) = nI 0 from rfl, nI_eq (by omega) (by decide)]
  constructor
  · intro h p hp
    have := congrArg (fun n => Nat.testBit n p) h
    simp only [Nat.testBit_and, Nat.testBit_xor, hp, Nat.zero_testBit, Bool.true_and, Nat.testBit_two_pow_sub_one] at this
    have hp32 : p < 32 := by
      rcases Nat.lt_or_ge p 32 with z | z
      · exact z
      · have := Nat.testBit_lt_two_pow (x := F) (i := p) (Nat.lt_of_lt_of_le hF (Nat.pow_le_pow_right (by decide) (by omega)))
        rw [hp] at this
        cases this
    simpa [hp32] using this
  · intro h
    apply Nat.eq_of_testBit_eq
    intro p
    rw [Nat.testBit_and, Nat.testBit_xor, Nat.testBit_two_pow_sub_one, Nat.zero_testBit]
    cases hb : F.testBit p
    · rfl
    · have hp32 : p < 32 := by
        rcases Nat.lt_or_ge p 32 with z | z
        · exact z
        · have := Nat.testBit_lt_two_pow (x := F) (i := p) (Nat.lt_of_lt_of_le hF (Nat.pow_le_pow_right (by decide) (by omega)))
          rw [hb] at this
          cases this
      simp [h p hb, hp32]
/-- the used places, as the model gathers them -/
def uj (w : Nat → Int32) : Nat → Nat
  | 0 => 0
  | j + 1 => if 0 < w j then (uj w j ||| 2 ^ (j / 10)) ||| 2 ^ (j % 10) else uj w j
theorem uj_bit (w : Nat → Int32) (p : Nat) : ∀ n, (uj w n).testBit p = true ↔ ∃ j, j < n ∧ 0 < w j ∧ (p = j / 10 ∨ p = j % 10)
  | 0 => by simp [uj]
  | n + 1 => by
    have ih := uj_bit w p n
    unfold uj
    by_cases h : 0 < w n
    · rw [if_pos h, fb_bit_set, fb_bit_set]
      simp only [Bool.or_eq_true, decide_eq_true_eq, ih]
      constructor
      · rintro ((⟨j, a, b, c⟩ | z) | z)
        · exact ⟨j, by omega, b, c⟩
        · exact ⟨n, by omega, h, Or.inl z⟩
        · exact ⟨n, by omega, h, Or.inr z⟩
      · rintro ⟨j, a, b, c⟩
        rcases Nat.lt_succ_iff_lt_or_eq.mp a with z | z
        · exact Or.inl (Or.inl ⟨j, z, b, c⟩)
        · subst z
          rcases c with c | c
          · exact Or.inl (Or.inr c)
          · exact Or.inr c
    · rw [if_neg h, ih]
      constructor
      · rintro ⟨j, a, b⟩
        exact ⟨j, by omega, b⟩
      · rintro ⟨j, a, b, c⟩
        rcases Nat.lt_succ_iff_lt_or_eq.mp a with z | z
        · exact ⟨j, z, b, c⟩
        · subst z
          exact absurd b h
theorem usd_iff {w : Nat → Int32} {p : Nat} (hp : p < 10) : usd w p = true ↔ ∃ j, j < 100 ∧ 0 < w j ∧ (p = j / 10 ∨ p = j % 10) := by
  unfold usd
  rw [List.any_eq_true]
  constructor
  · rintro ⟨q, hq, h⟩
    have hq := List.mem_range.mp hq
    simp only [Bool.or_eq_true, decide_eq_true_eq] at h
    rcases h with h | h
    · exact ⟨10 * p + q, by omega, h, Or.inl (by omega)⟩
    · exact ⟨10 * q + p, by omega, h, Or.inr (by omega)⟩
  · rintro ⟨j, h1, h2, h3⟩
    rcases h3 with h3 | h3
    · refine ⟨j % 10, List.mem_range.mpr (by omega), ?_⟩
      rw [h3, show 10 * (j / 10) + j % 10 = j by omega]
      simp [h2]
    · refine ⟨j / 10, List.mem_range.mpr (by omega), ?_⟩
      rw [h3, show 10 * (j / 10) + j % 10 = j by omega]
      simp [h2]
theorem uj_um (w : Nat → Int32) : uj w 100 = um w := by
  apply Nat.eq_of_testBit_eq
  intro p
  have h1 := uj_bit w p 100
  rw [um, mkM_bit]
  by_cases hp : p < 10
  · have h2 := usd_iff (w := w) hp
    rw [← h2] at h1
    cases hu : usd w p
    · rw [hu] at h1
      cases hb : (uj w 100).testBit p
      · simp
      · rw [hb] at h1
        simp at h1
    · rw [hu] at h1
      simp [hp, h1.mpr rfl]
  · cases hb : (uj w 100).testBit p
    · simp [hp]
    · obtain ⟨j, a, b, c⟩ := h1.mp hb
      omega
theorem uj_lt (w : Nat → Int32) {n : Nat} (hn : n ≤ 100) : uj w n < 1024 := by
  apply Nat.lt_pow_two_of_testBit (n := 10)
  intro i hi
  cases hb : (uj w n).testBit i
  · rfl
  · obtain ⟨j, a, b, c⟩ := (uj_bit w i n).mp hb
    omega
def flT0 (I A : HI) (p s : Int32) : Prop := FO (A 97) ∧ vp_in p 10 ∧ vp_in s 1024
def flT (I A : HI) (p s : Int32) : Int32 := nI (ct (A 97) p.toNatClampNeg s.toNatClampNeg)
set_option maxHeartbeats 4000000 in
theorem c_X9_flowsTo (l : Launch) (D : va_G) (ads : AD) (I A : HI) (a1 a2 : Int32) (hp : flT0 I A a1 a2) : Ct l yX9_flowsTo cX9_flowsTo 5 (some .int) 0 0 D ads shp [.inr (some 96), .inl a1, .inl a2] I A (qI (flT I A a1 a2) I A) := by
  obtain ⟨hF, h1, h2⟩ := hp
  obtain ⟨p, hp9, rfl⟩ := vp_in_of h1 (by decide)
  obtain ⟨F, hF9, rfl⟩ := vp_in_of h2 (by decide)
  unfold flT
  rw [cl_n (by omega), cl_n (by omega)]
  refine k_X9_flowsTo l D ads I A (nI p) (nI F) _ (fun x i => ∃ j, j ≤ 10 ∧ i = nI j ∧ x = nI (fb_sm (fun q => if F.testBit q then wN (A 97) (10 * p + q) else 0) j)) (fun _ i => 10 - i.toNatClampNeg) ⟨⟨0, Nat.zero_le _, rfl, rfl⟩, ?_⟩
  rintro x i ⟨j, hj, rfl, rfl⟩
  refine ⟨fun h => ?_, fun h => ?_⟩
  · have e := cn_eq rfl hj (by decide) h
    subst e
    exact qI_i rfl
  · have hj2 := cn_lt rfl hj (by decide) h
    have hb := bt1 (F := F) (q := j) (by omega) (by omega)
    have hmu : 10 - (nI j + 1).toNatClampNeg < 10 - (nI j).toNatClampNeg := cn_mu hj2 (by decide)
    refine ⟨fun h7 => ⟨⟨j + 1, hj2, nI_1 j, ?_⟩, hmu⟩, fun h7 => ⟨by rw [ix_b]; exact vp_in_nI (by omega) (by decide), ⟨j + 1, hj2, nI_1 j, ?_⟩, hmu⟩⟩
    · rw [fb_sm_succ]
      have hz : F.testBit j = false := by
        cases z : F.testBit j
        · rfl
        · exact absurd (hb.mpr z) h7
      simp [hz]
    · rw [fb_sm_succ, ix_b, cl_n (by omega), (hF.eq (show 10 * p + j < 100 by omega)).1, nI_add, hb.mp h7]
      simp
