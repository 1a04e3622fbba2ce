/-! the model's puts, find, factorial -/
theorem ix_30 (l i : Nat) : 30 * nI l + nI i = nI (30 * l + i) := by
  rw [show (30 : Int32) = nI 30 from rfl, pk_mul, nI_add]
def puts0 (I A : HI) (l x : Int32) : Prop := ∃ l' k, l' < 10 ∧ k < 30 ∧ l = nI l' ∧ A 104 l' = nI k ∧ (0 < k → A 105 (30 * l' + (k - 1)) ≤ x)
def putsA (A : HI) (l x : Int32) : HI := up2 (up2 A 105 (30 * l.toNatClampNeg + (A 104 l.toNatClampNeg).toNatClampNeg) x) 104 l.toNatClampNeg (A 104 l.toNatClampNeg + 1)
def puts (I A : HI) (l x : Int32) (I' A' : HI) : Prop := I' = I ∧ A' = putsA A l x
set_option maxHeartbeats 4000000 in
theorem c_X9_puts (l : Launch) (D : va_G) (ads : AD) (I A : HI) (a1 a2 : Int32) (hp : puts0 I A a1 a2) : Ct l yX9_puts cX9_puts 4 none 0 0 D ads shp [.inr (some 96), .inl a1, .inl a2] I A (qV (puts I A a1 a2)) := by
  obtain ⟨l', k, hl, hk, rfl, hA, hle⟩ := hp
  have v : vp_in (nI l') 10 := vp_in_nI hl (by decide)
  have v3 : vp_in (nI (30 * l' + k)) 300 := vp_in_nI (by omega) (by decide)
  have fin : qV (puts I A (nI l') a2) none I (up2 (up2 A 105 (30 * l' + k) a2) 104 l' ((up2 A 105 (30 * l' + k) a2) 104 l' + 1)) := by
    refine qV_i ⟨rfl, ?_⟩
    unfold putsA
    rw [cl_n (by omega), hA, cl_n (by omega), up2_k (by decide), hA]
  refine k_X9_puts l D ads I A (nI l') a2 _ (fun x A' => x = nI k ∧ A' = A) (fun _ _ => 0) ⟨v, ⟨by rw [cl_n (by omega)]; exact hA, rfl⟩, ?_⟩
  rintro x A1 ⟨rfl, rfl⟩
  rw [ix_30, cl_n (show 30 * l' + k < 2 ^ 31 by omega), cl_n (show l' < 2 ^ 31 by omega)]
  refine ⟨fun _ => ⟨v3, v, v, fin⟩, fun h => ?_⟩
  have hk0 : 0 < k := by
    rcases Nat.eq_zero_or_pos k with z | z
    · subst z
      exact absurd (by decide) h
    · exact z
  have e1 : nI (30 * l' + k) - 1 = nI (30 * l' + (k - 1)) := by
    rw [show 30 * l' + k = (30 * l' + (k - 1)) + 1 by omega, nI_pred]
  rw [e1, cl_n (by omega)]
  exact ⟨vp_in_nI (by omega) (by decide), fun _ => ⟨v3, v, v, fin⟩, fun h9 => absurd (hle hk0) h9⟩
def fnd0 (I A : HI) (l x : Int32) : Prop := ∃ l' i, l' < 10 ∧ i < 30 ∧ l = nI l' ∧ A 105 (30 * l' + i) = x
def fnd (I A : HI) (l x : Int32) : Int32 := ixO (fun i => A 105 (30 * l.toNatClampNeg + i)) 30 x
theorem ixO_is {f : Nat → Int32} {n i : Nat} {x : Int32} (hi : i < n) (h : f i = x) (hn : ∀ j, j < i → ¬ f j = x) : ixO f n x = nI i := by
  unfold ixO
  have hf : (List.range n).find? (fun i => f i == x) = some i := by
    rw [List.find?_range_eq_some]
    refine ⟨by simpa using h, List.mem_range.mpr hi, fun q hq => ?_⟩
    simpa using hn q hq
  rw [hf]
set_option maxHeartbeats 4000000 in
theorem c_X9_find (l : Launch) (D : va_G) (ads : AD) (I A : HI) (a1 a2 : Int32) (hp : fnd0 I A a1 a2) : Ct l yX9_find cX9_find 4 (some .int) 0 0 D ads shp [.inr (some 96), .inl a1, .inl a2] I A (qI (fnd I A a1 a2) I A) := by
  obtain ⟨l', i0, hl, hi0, rfl, hx⟩ := hp
  refine k_X9_find l D ads I A (nI l') a2 _ (fun x => ∃ j, j ≤ i0 ∧ x = nI j ∧ ∀ q, q < j → ¬ A 105 (30 * l' + q) = a2) (fun x => 40 - x.toNatClampNeg) ⟨⟨0, Nat.zero_le _, rfl, fun q h => absurd h (Nat.not_lt_zero q)⟩, ?_⟩
  rintro x ⟨j, hj, rfl, hn⟩
  rw [ix_30, cl_n (show 30 * l' + j < 2 ^ 31 by omega)]
  refine ⟨vp_in_nI (by omega) (by decide), fun h => qI_i ?_, fun h => ⟨⟨j + 1, ?_, nI_1 j, fun q hq => ?_⟩, cn_mu (by omega) (by decide)⟩⟩
  · unfold fnd
    rw [cl_n (show l' < 2 ^ 31 by omega)]
    exact (ixO_is (f := fun i => A 105 (30 * l' + i)) (by omega) h hn).symm
  · rcases Nat.lt_or_ge j i0 with z | z
    · exact z
    · have : j = i0 := by omega
      rw [this] at h
      exact absurd hx h
  · rcases Nat.lt_succ_iff_lt_or_eq.mp hq with z | z
    · exact hn q z
    · subst z
      exact h
/-- the model's cells hold these lists -/
def ShM (A : HI) (T : Nat → List Nat) : Prop := ∀ l, l < 10 → A 104 l = nI (T l).length ∧ ∀ i, i < (T l).length → A 105 (30 * l + i) = nI ((T l).getD i 0)
theorem ShM.add {A : HI} {T : Nat → List Nat} (h : ShM A T) {l x : Nat} (hl : l < 10) (hT : (T l).length < 30) (hT9 : ∀ q, q < 10 → (T q).length ≤ 29) : ShM (putsA A (nI l) (nI x)) (upT T l x) := by
  obtain ⟨h1, h2⟩ := h l hl
  unfold putsA
  rw [cl_n (show l < 2 ^ 31 by omega), h1, cl_n (by omega)]
  intro q hq
  have hq9 := hT9 q hq
  unfold upT
  by_cases z : q = l
  · subst z
    rw [if_pos rfl, up2_s]
    refine ⟨by rw [List.length_append, nI_1]; rfl, fun i hi => ?_⟩
    rw [List.length_append] at hi
    have hi : i < (T q).length + 1 := hi
    rw [up2_k (by decide)]
    rcases Nat.lt_succ_iff_lt_or_eq.mp hi with z | z
    · rw [up2_j (by omega), h2 i z, List.getD_eq_getElem?_getD, List.getD_eq_getElem?_getD, List.getElem?_append_left z]
    · subst z
      rw [up2_s, List.getD_eq_getElem?_getD, List.getElem?_append_right (Nat.le_refl _), Nat.sub_self]
      rfl
  · rw [if_neg z]
    obtain ⟨g1, g2⟩ := h q hq
    refine ⟨by rw [up2_j z, up2_k (by decide)]; exact g1, fun i hi => ?_⟩
    rw [up2_k (by decide), up2_j (by omega)]
    exact g2 i hi
/-- the last of a list isn't greater than what comes -/
theorem ShM.last {A : HI} {T : Nat → List Nat} (h : ShM A T) {l x : Nat} (hl : l < 10) (hx : x < 2 ^ 31) (hT : ∀ y ∈ T l, y ≤ x) (h0 : 0 < (T l).length) : A 105 (30 * l + ((T l).length - 1)) ≤ nI x := by
  rw [(h l hl).2 _ (by omega)]
  have hm : (T l).getD ((T l).length - 1) 0 ∈ T l := by
    rw [List.getD_eq_getElem?_getD, List.getElem?_eq_getElem (by omega)]
    exact List.getElem_mem _
  exact nI_le (hT _ hm) hx
theorem putsA_off {A : HI} {l x : Int32} : offA [104, 105] A (putsA A l x) := (offA.rf.up (by decide)).up (by decide)
def facN : Nat → Nat
  | 0 => 1
  | n + 1 => facN n * (n + 1)
def facI (I A : HI) (n : Int32) : Int32 := nI (facN n.toNatClampNeg)
set_option maxHeartbeats 4000000 in
theorem c_X9_factorial (l : Launch) (D : va_G) (ads : AD) (I A : HI) (a1 : Int32) (hp : vp_in a1 10) : Ct l yX9_factorial cX9_factorial 4 (some .int) 0 0 D ads shp [.inr (some 96), .inl a1] I A (qI (facI I A a1) I A) := by
  obtain ⟨n, hn, rfl⟩ := vp_in_of hp (by decide)
  unfold facI
  rw [cl_n (by omega)]
  refine k_X9_factorial l D ads I A (nI n) _ (fun f k => ∃ j, 1 ≤ j ∧ (j ≤ n ∨ j = 1) ∧ k = nI (j + 1) ∧ f = nI (facN j)) (fun _ k => 20 - k.toNatClampNeg) ⟨⟨1, Nat.le_refl _, Or.inr rfl, rfl, rfl⟩, ?_⟩
  rintro f k ⟨j, h1, h2, rfl, rfl⟩
  refine ⟨fun h => qI_i ?_, fun h => ⟨⟨j + 1, by omega, Or.inl ?_, nI_1 _, ?_⟩, cn_mu (by omega) (by decide)⟩⟩
  · have := (nI_ltI (by omega) (by omega)).mp h
    rcases h2 with z | z
    · rw [show n = j by omega]
    · subst z
      rcases Nat.eq_zero_or_pos n with q | q
      · subst q
        rfl
      · rw [show n = 1 by omega]
  · have := (nI_leI (by omega) (by omega)).mp (nlt h)
    omega
  · rw [pk_mul]
    rfl
