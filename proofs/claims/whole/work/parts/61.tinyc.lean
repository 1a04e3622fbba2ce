/-! the contracts of Changes' methods in the tiny world -/
def insA (n : Nat) (A : HI) (k : Nat) (L : List Nat) (i : Nat) : HI := fun c j => if c = 5 ∧ k * (n + 1) ≤ j ∧ j < k * (n + 1) + i then nI (L.getD (j - k * (n + 1)) 0) else A c j
theorem insA_0 {n : Nat} {A : HI} {k : Nat} {L : List Nat} : insA n A k L 0 = A := by
  funext c j
  unfold insA
  rw [if_neg (by omega)]
theorem insA_s {n : Nat} {A : HI} {k : Nat} {L : List Nat} {i : Nat} {v : Int32} (h : v = nI (L.getD i 0)) : up2 (insA n A k L i) 5 (k * (n + 1) + i) v = insA n A k L (i + 1) := by
  funext c j
  unfold up2 insA
  by_cases h1 : c = 5 ∧ j = k * (n + 1) + i
  · rw [if_pos h1, if_pos (by omega), h, h1.2, Nat.add_sub_cancel_left]
  · rw [if_neg h1]
    by_cases h2 : c = 5 ∧ k * (n + 1) ≤ j ∧ j < k * (n + 1) + i
    · rw [if_pos h2, if_pos (by omega)]
    · rw [if_neg h2, if_neg (by omega)]
theorem insA_off {n : Nat} {A : HI} {k : Nat} {L : List Nat} {i c : Nat} (h : c ≠ 5) : insA n A k L i c = A c := by
  funext j
  unfold insA
  rw [if_neg (fun q => h q.1)]
theorem ins_at {L : List Nat} {n s i : Nat} (hl : L.length = n) (hs : s ≤ n) : (insAt L s n).getD i 0 = if i = s then n else if i < s then L.getD i 0 else L.getD (i - 1) 0 := by
  unfold insAt
  rw [List.getD_eq_getElem?_getD]
  by_cases h1 : i < s
  · rw [if_neg (by omega), if_pos h1, List.getElem?_append_left (by rw [List.length_take]; omega), List.getElem?_take_of_lt h1, List.getD_eq_getElem?_getD]
  · rw [List.getElem?_append_right (by rw [List.length_take]; omega), List.length_take, show min s L.length = s by omega]
    by_cases h2 : i = s
    · rw [if_pos h2, h2, Nat.sub_self]
      rfl
    · rw [if_neg h2, if_neg h1, show i - s = (i - 1 - s) + 1 by omega, List.getElem?_cons_succ, List.getElem?_drop, show s + (i - 1 - s) = i - 1 by omega, List.getD_eq_getElem?_getD]
/-- the lesser table -/
def LsT (n : Nat) (I A : HI) : Prop := I 0 0 = nI n ∧ I 0 1 = nI (facN n) ∧ I 4 0 = nI (n + 1) ∧ I 4 1 = nI (facN (n + 1)) ∧ ∀ t, t < facN n → ∀ i, i < n → A 1 (t * n + i) = nI ((thL n t).getD i 0)
theorem chT_eq : ∀ n, n < 6 → chT n = facN n * n := by decide
theorem mul_lt {t f n i : Nat} (ht : t < f) (hi : i < n) : t * n + i < f * n := by
  have : (t + 1) * n ≤ f * n := Nat.mul_le_mul_right _ ht
  rw [Nat.succ_mul] at this
  omega
set_option maxHeartbeats 4000000 in
theorem ct_insert (l : Launch) (D : va_G) (ads : AD) (I A : HI) {n old k spot ze zr ye yr : Nat} (hn : n < 5) (hL : LsT n I A) (ho : old < facN n) (hk : k < facN (n + 1)) (hs : spot ≤ n) : Ct l yX0_insert cX0_insert 7 none 1 22 D ads (tw (chT n) ze zr (chT (n + 1)) ye yr) [.inr (some 4), .inr (some 0), .inl (nI old), .inl (nI k), .inl (nI spot)] I A (qN I (insA n A k (insAt (thL n old) spot n) (n + 1))) := by
  obtain ⟨h00, h01, h40, h41, hA⟩ := hL
  have f1 := facN_le n (by omega)
  have f2 := facN_le (n + 1) (by omega)
  have hlen := (thL_ok (by omega) ho).1
  refine kt_insert l D ads I A (nI old) (nI k) (nI spot) _ (fun x A3 => ∃ i, i ≤ n + 1 ∧ x = nI i ∧ A3 = insA n A k (insAt (thL n old) spot n) i) (fun x _ => 20 - x.toNatClampNeg) ⟨⟨0, by omega, rfl, insA_0.symm⟩, ?_⟩
  rintro x A3 ⟨i, hi, rfl, rfl⟩
  rw [h40, h00]
  have e9 : ∀ j, j < n + 1 → nI k * nI (n + 1) + nI j = nI (k * (n + 1) + j) := fun j _ => by rw [pk_mul, nI_add]
  have b9 : ∀ j, j < n + 1 → k * (n + 1) + j < facN (n + 1) * (n + 1) := fun j hj => mul_lt hk hj
  have c9 : facN (n + 1) * (n + 1) ≤ 720 := Nat.mul_le_mul f2.1 (by omega : n + 1 ≤ 6)
  have c8 : facN n * n ≤ 720 := Nat.mul_le_mul f1.1 (by omega : n ≤ 6)
  have v9 : ∀ j, j < n + 1 → vp_in (nI (k * (n + 1) + j)) (chT (n + 1)) := fun j hj => by
    rw [chT_eq _ (by omega)]
    exact nI_in (b9 j hj) (by omega)
  have v8 : ∀ j, j < n → vp_in (nI (old * n + j)) (chT n) := fun j hj => by
    rw [chT_eq _ (by omega)]
    exact nI_in (mul_lt ho hj) (by omega)
  refine ⟨fun h => ?_, fun h => ?_⟩
  · have := (nI_leI (by omega) (by omega)).mp h
    have e : i = n + 1 := by omega
    subst e
    exact qN_i rfl rfl
  have hi2 : i < n + 1 := by
    have := mt (nI_leI (by omega) (by omega)).mpr h
    omega
  rw [e9 i hi2, nI_clamp (by have := b9 i hi2; omega), nI_1]
  refine ⟨fun h1 => ?_, fun h1 => ⟨fun h2 => ?_, fun h2 => ?_⟩⟩
  · have e := (nI_eq (by omega) (by omega)).mp h1
    refine ⟨v9 i hi2, ⟨i + 1, by omega, rfl, insA_s ?_⟩, ?_⟩
    · rw [ins_at hlen hs, if_pos e]
      show nI (n + 1) - nI 1 = _
      rw [nI_sub]
    · rw [cl_n (by omega), cl_n (by omega)]
      omega
  · have e1 : i ≠ spot := fun z => h1 (by rw [z])
    have e2 := (nI_leI (by omega) (by omega)).mp h2
    have e3 : nI old * nI n + (nI i - 1) = nI (old * n + (i - 1)) := by
      have := nI_sub (i - 1) 1
      rw [show i - 1 + 1 = i by omega] at this
      rw [show nI i - 1 = nI (i - 1) from this, pk_mul, nI_add]
    rw [e3, nI_clamp (by have := mul_lt ho (show i - 1 < n by omega); omega), insA_off (by decide)]
    refine ⟨v8 _ (by omega), v9 i hi2, ⟨i + 1, by omega, rfl, insA_s ?_⟩, ?_⟩
    · rw [hA old ho _ (by omega), ins_at hlen hs, if_neg e1, if_neg (by omega)]
    · rw [cl_n (by omega), cl_n (by omega)]
      omega
  · have e2 := mt (nI_leI (by omega) (by omega)).mpr h2
    have e3 : nI old * nI n + nI i = nI (old * n + i) := by rw [pk_mul, nI_add]
    rw [e3, nI_clamp (by have := mul_lt ho (show i < n by omega); omega), insA_off (by decide)]
    refine ⟨v8 _ (by omega), v9 i hi2, ⟨i + 1, by omega, rfl, insA_s ?_⟩, ?_⟩
    · rw [hA old ho _ (by omega), ins_at hlen hs, if_neg (by omega), if_pos (by omega)]
    · rw [cl_n (by omega), cl_n (by omega)]
      omega
/-- the things of row t of the new table -/
def RwT (n : Nat) (A : HI) (t : Nat) : Prop := ∀ i, i < n + 1 → A 5 (t * (n + 1) + i) = nI ((thL (n + 1) t).getD i 0)
def ckI (n : Nat) : Bool := (List.range (facN n)).all (fun o => (List.range (n + 1)).all (fun st => thL (n + 1) (o * (n + 1) + st) == insAt (thL n o) (if o % 2 = 0 then n - st else st) n))
set_option maxRecDepth 100000 in
theorem ckI_all : (List.range 5).all ckI = true := by decide +kernel
theorem th_ins {n o st : Nat} (hn : n < 5) (ho : o < facN n) (hs : st < n + 1) : thL (n + 1) (o * (n + 1) + st) = insAt (thL n o) (if o % 2 = 0 then n - st else st) n := by
  have h := List.all_eq_true.mp (List.all_eq_true.mp (List.all_eq_true.mp ckI_all n (List.mem_range.mpr hn)) o (List.mem_range.mpr ho)) st (List.mem_range.mpr hs)
  exact beq_iff_eq.mp h
theorem dif_same : ∀ {L L' : List Nat} {i : Nat}, i < difL L L' → L.getD i 0 = L'.getD i 0
  | x :: r, y :: q, i, h => by
    unfold difL at h
    by_cases e : x = y
    · rw [if_pos e] at h
      cases i with
      | zero => exact e
      | succ i =>
        rw [List.getD_cons_succ, List.getD_cons_succ]
        exact dif_same (by omega)
    · rw [if_neg e] at h
      omega
  | [], _, _, h => by unfold difL at h; omega
  | _ :: _, [], _, h => by unfold difL at h; omega
def ckJ (n : Nat) : Bool := (List.range (facN n)).all (fun t => t == 0 || (decide (difL (thL n (t - 1)) (thL n t) + 1 < n) && ((thL n (t - 1)).getD (difL (thL n (t - 1)) (thL n t)) 0 != (thL n t).getD (difL (thL n (t - 1)) (thL n t)) 0)))
def ckK (n : Nat) : Bool := (List.range (facN n)).all (fun t => (thL n t).all (fun x => decide (x < 5)))
set_option maxRecDepth 100000 in
theorem ckJ_all : (List.range 6).all ckJ = true := by decide +kernel
set_option maxRecDepth 100000 in
theorem ckK_all : (List.range 6).all ckK = true := by decide +kernel
theorem th_lt5 {n t i : Nat} (hn : n < 6) (ht : t < facN n) : (thL n t).getD i 0 < 5 := by
  have h := List.all_eq_true.mp (List.all_eq_true.mp ckK_all n (List.mem_range.mpr hn)) t (List.mem_range.mpr ht)
  rw [List.getD_eq_getElem?_getD]
  cases z : (thL n t)[i]? with
  | none => decide
  | some x => exact of_decide_eq_true (List.all_eq_true.mp h x (List.mem_of_getElem? z))
theorem th_dif {n t : Nat} (hn : n < 6) (ht : t < facN n) (h0 : 0 < t) : difL (thL n (t - 1)) (thL n t) + 1 < n ∧ (thL n (t - 1)).getD (difL (thL n (t - 1)) (thL n t)) 0 ≠ (thL n t).getD (difL (thL n (t - 1)) (thL n t)) 0 := by
  have h := List.all_eq_true.mp (List.all_eq_true.mp ckJ_all n (List.mem_range.mpr hn)) t (List.mem_range.mpr ht)
  simp only [Bool.or_eq_true, beq_iff_eq, Bool.and_eq_true, decide_eq_true_eq, bne_iff_ne] at h
  rcases h with z | z
  · omega
  · exact z
set_option maxHeartbeats 4000000 in
theorem ct_exb (l : Launch) (D : va_G) (ads : AD) (I A : HI) {n k zt ze zr ye yr : Nat} (hn : n < 5) (h40 : I 4 0 = nI (n + 1)) (hk : k < facN (n + 1)) (h0 : 0 < k) (hA : RwT n A (k - 1)) (hB : RwT n A k) : Ct l yX0_exchangeBefore cX0_exchangeBefore 3 (some .int) 1 22 D ads (tw zt ze zr (chT (n + 1)) ye yr) [.inr (some 4), .inl (nI k)] I A (qI (nI (exL (thL (n + 1) (k - 1)) (thL (n + 1) k))) I A) := by
  have f2 := facN_le (n + 1) (by omega)
  obtain ⟨d1, d2⟩ := th_dif (by omega) hk h0
  have c9 : facN (n + 1) * (n + 1) ≤ 720 := Nat.mul_le_mul f2.1 (by omega : n + 1 ≤ 6)
  refine kt_exb l D ads I A (nI k) _ (fun x => ∃ i, i ≤ difL (thL (n + 1) (k - 1)) (thL (n + 1) k) ∧ x = nI i) (fun x => 20 - x.toNatClampNeg) ⟨⟨0, by omega, rfl⟩, ?_⟩
  rintro x ⟨i, hi, rfl⟩
  rw [h40]
  have e1 : nI (n + 1) - 1 = nI n := nI_sub n 1
  have e2 : nI k - 1 = nI (k - 1) := by
    have := nI_sub (k - 1) 1
    rw [show k - 1 + 1 = k by omega] at this
    exact this
  have e3 : nI (k - 1) * nI (n + 1) + nI i = nI ((k - 1) * (n + 1) + i) := by rw [pk_mul, nI_add]
  have e4 : nI k * nI (n + 1) + nI i = nI (k * (n + 1) + i) := by rw [pk_mul, nI_add]
  have b3 := mul_lt (show k - 1 < facN (n + 1) by omega) (show i < n + 1 by omega)
  have b4 := mul_lt hk (show i < n + 1 by omega)
  have v3 : vp_in (nI ((k - 1) * (n + 1) + i)) (chT (n + 1)) := by
    rw [chT_eq _ (by omega)]
    exact nI_in b3 (by omega)
  have v4 : vp_in (nI (k * (n + 1) + i)) (chT (n + 1)) := by
    rw [chT_eq _ (by omega)]
    exact nI_in b4 (by omega)
  rw [e1, e2, e3, e4, nI_clamp (by omega), nI_clamp (by omega), hA i (by omega), hB i (by omega), nI_1]
  have t1 := th_lt5 (i := i) (show n + 1 < 6 by omega) (show k - 1 < facN (n + 1) by omega)
  have t2 := th_lt5 (i := i) (show n + 1 < 6 by omega) hk
  refine ⟨fun h => absurd ((nI_leI (by omega) (by omega)).mp h) (by omega), fun _ => ⟨v3, v4, fun h => ⟨⟨i + 1, ?_, rfl⟩, ?_⟩, fun h => ⟨v3, v4, qI_i ?_⟩⟩⟩
  · have := (nI_eq (by omega) (by omega)).mp h
    rcases Nat.lt_or_ge i (difL (thL (n + 1) (k - 1)) (thL (n + 1) k)) with z | z
    · omega
    · have e : i = difL (thL (n + 1) (k - 1)) (thL (n + 1) k) := by omega
      rw [← e] at d2
      exact absurd this d2
  · rw [cl_n (by omega), cl_n (by omega)]
    omega
  · have e : i = difL (thL (n + 1) (k - 1)) (thL (n + 1) k) := by
      rcases Nat.lt_or_ge i (difL (thL (n + 1) (k - 1)) (thL (n + 1) k)) with z | z
      · exact absurd (by rw [dif_same z]) h
      · omega
    unfold exL
    rw [← e, show (5 : Int32) = nI 5 from rfl, pk_mul, nI_add, Nat.mul_comm]
theorem rk_take {L : List Nat} {i : Nat} (h : i < L.length) : rkL (L.take (i + 1)) = 5 * rkL (L.take i) + L.getD i 0 := by
  unfold rkL
  rw [List.take_succ, List.foldl_append, List.getElem?_eq_getElem h, List.getD_eq_getElem?_getD, List.getElem?_eq_getElem h]
  rfl
theorem rk_bound : ∀ {L : List Nat} {b : Nat}, (∀ x ∈ L, x < 5) → L.foldl (fun r x => 5 * r + x) b < (b + 1) * 5 ^ L.length
  | [], b, _ => by simp
  | x :: r, b, h => by
    have := rk_bound (L := r) (b := 5 * b + x) (fun y hy => h y (List.mem_cons_of_mem _ hy))
    have hx := h x List.mem_cons_self
    rw [List.foldl_cons]
    refine Nat.lt_of_lt_of_le this ?_
    rw [List.length_cons, Nat.pow_succ, Nat.mul_comm (5 ^ r.length) 5, ← Nat.mul_assoc]
    exact Nat.mul_le_mul_right _ (by omega)
set_option maxHeartbeats 4000000 in
theorem ct_rank (l : Launch) (D : va_G) (ads : AD) (I A : HI) {n k zt ze zr ye yr : Nat} (hn : n < 5) (h40 : I 4 0 = nI (n + 1)) (hk : k < facN (n + 1)) (hB : RwT n A k) : Ct l yX0_rankOf cX0_rankOf 4 (some .int) 1 22 D ads (tw zt ze zr (chT (n + 1)) ye yr) [.inr (some 4), .inl (nI k)] I A (qI (nI (rkL (thL (n + 1) k))) I A) := by
  have f2 := facN_le (n + 1) (by omega)
  have c9 : facN (n + 1) * (n + 1) ≤ 720 := Nat.mul_le_mul f2.1 (by omega : n + 1 ≤ 6)
  have hlen := (thL_ok (show n + 1 < 6 by omega) hk).1
  refine kt_rank l D ads I A (nI k) _ (fun r x => ∃ i, i ≤ n + 1 ∧ x = nI i ∧ r = nI (rkL ((thL (n + 1) k).take i))) (fun _ x => 20 - x.toNatClampNeg) ⟨⟨0, by omega, rfl, rfl⟩, ?_⟩
  rintro r x ⟨i, hi, rfl, rfl⟩
  rw [h40]
  have e4 : nI k * nI (n + 1) + nI i = nI (k * (n + 1) + i) := by rw [pk_mul, nI_add]
  refine ⟨fun h => ?_, fun h => ?_⟩
  · have := (nI_leI (by omega) (by omega)).mp h
    refine qI_i ?_
    rw [List.take_of_length_le (by omega)]
  · have := mt (nI_leI (by omega) (by omega)).mpr h
    have b4 := mul_lt hk (show i < n + 1 by omega)
    rw [e4, nI_clamp (by omega), hB i (by omega), nI_1]
    refine ⟨?_, ⟨i + 1, by omega, rfl, ?_⟩, ?_⟩
    · rw [chT_eq _ (by omega)]
      exact nI_in b4 (by omega)
    · rw [rk_take (by omega), show (5 : Int32) = nI 5 from rfl, pk_mul, nI_add, Nat.mul_comm]
    · rw [cl_n (by omega), cl_n (by omega)]
      omega
