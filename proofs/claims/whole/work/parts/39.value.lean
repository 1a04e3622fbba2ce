/-! what an order costs, in numbers; the least cost from a layer on -/
noncomputable abbrev nIt (w : Nat → Int32) (l : Nat) : Nat := (itL w l).length
noncomputable def crB (w : Nat → Int32) (l k m x y : Nat) : Bool := decide (psQ (nIt w l) k (fxN w l x) < psQ (nIt w l) k (fxN w l y)) && decide (psQ (nIt w (l + 1)) m (gxN w l y) < psQ (nIt w (l + 1)) m (gxN w l x))
noncomputable def cNg (g : Nat → Nat) (w : Nat → Int32) (l k m : Nat) : Nat := sN (fun x => sN (fun y => if crB w l k m x y then g x * g y else 0) (kT w 100 l)) (kT w 100 l)
noncomputable def cN (w : Nat → Int32) (l k m : Nat) : Nat := cNg (wN w) w l k m
noncomputable def xN (w : Nat → Int32) (l k m : Nat) : Nat := cNg (fun _ => 1) w l k m
theorem kT_mem {w : Nat → Int32} {l x : Nat} (h : x ∈ kT w 100 l) : x < 100 ∧ lkB w l x = true := by
  obtain ⟨h1, h2⟩ := List.mem_filter.mp h
  exact ⟨List.mem_range.mp h1, h2⟩
theorem kT_fx {w : Nat → Int32} (hF : FO w) {l x : Nat} (h : x ∈ kT w 100 l) : fxN w l x < nIt w l ∧ gxN w l x < nIt w (l + 1) := by
  obtain ⟨h1, h2⟩ := kT_mem h
  obtain ⟨m1, m2⟩ := lk_mem hF h1 h2
  exact ⟨(ixN_is m1).1, (ixN_is m2).1⟩
theorem xS2_n {w g : Nat → Int32} {gN : Nat → Nat} {l : Nat} (hg : ∀ x, x ∈ kT w 100 l → g x = nI (gN x)) (c : Nat → Nat → Bool) : xS2 w g l c = nI (sN (fun x => sN (fun y => if c x y then gN x * gN y else 0) (kT w 100 l)) (kT w 100 l)) := by
  unfold xS2
  rw [← sN_i]
  refine sL_cong (fun x hx => ?_)
  rw [← sN_i]
  refine sL_cong (fun y hy => ?_)
  cases c x y
  · rfl
  · simp only [if_true]
    rw [hg x hx, hg y hy, pk_mul]
theorem pS_cNg {w g : Nat → Int32} {gN : Nat → Nat} (hF : FO w) {l k m : Nat} (hg : ∀ x, x ∈ kT w 100 l → g x = nI (gN x)) (hn : nIt w l < 6) (hn' : nIt w (l + 1) < 6) (hk : k < facN (nIt w l)) (hm : m < facN (nIt w (l + 1))) : pS (fun a b => pS (fun u v => Mg w g l a v * Mg w g l b u) (ordK (nIt w (l + 1)) m)) (ordK (nIt w l) k) = nI (cNg gN w l k m) := by
  rw [pS_cross w g l (or_nd hn hk) (or_nd hn' hm), xS2_n hg]
  unfold cNg
  congr 1
  refine sN_cong (fun x hx => sN_cong (fun y hy => ?_))
  obtain ⟨a1, a2⟩ := kT_fx hF hx
  obtain ⟨b1, b2⟩ := kT_fx hF hy
  rw [or_bf hn hk a1 b1, or_bf hn' hm b2 a2]
  rfl
theorem cN_le {w : Nat → Int32} (hF : FO w) (l k m : Nat) : cN w l k m ≤ 2509056 := by
  have hK := kT_len hF (Nat.le_refl 100) l
  have h1 : ∀ x, x ∈ kT w 100 l → sN (fun y => if crB w l k m x y then wN w x * wN w y else 0) (kT w 100 l) ≤ 16 * 9801 := by
    intro x hx
    refine Nat.le_trans (sN_le (c := 9801) (fun y hy => ?_)) (Nat.mul_le_mul_right _ hK)
    split
    · exact Nat.mul_le_mul (hF.eq (kT_mem hx).1).2 (hF.eq (kT_mem hy).1).2
    · exact Nat.zero_le _
  have h2 := sN_le h1
  have h3 : (kT w 100 l).length * (16 * 9801) ≤ 16 * (16 * 9801) := Nat.mul_le_mul_right _ hK
  unfold cN cNg
  omega
theorem xN_le {w : Nat → Int32} (hF : FO w) (l k m : Nat) : xN w l k m ≤ 256 := by
  have hK := kT_len hF (Nat.le_refl 100) l
  have h1 : ∀ x, x ∈ kT w 100 l → sN (fun y => if crB w l k m x y then (fun _ => 1) x * (fun _ => 1) y else 0) (kT w 100 l) ≤ 16 * 1 := by
    intro x hx
    refine Nat.le_trans (sN_le (c := 1) (fun y hy => ?_)) (Nat.mul_le_mul_right _ hK)
    split
    · exact Nat.le_refl 1
    · exact Nat.zero_le _
  have h2 := sN_le h1
  have h3 : (kT w 100 l).length * (16 * 1) ≤ 16 * (16 * 1) := Nat.mul_le_mul_right _ hK
  unfold xN cNg
  omega
/-! places that MOVE -/
noncomputable def movB (w kl ks : Nat → Int32) (l k x y : Nat) : Bool := (decide ((itL w l).getD x 0 < 10) && decide ((itL w l).getD y 0 < 10)) && ((!decide (kl ((itL w l).getD x 0) = -1) && decide (kl ((itL w l).getD x 0) = kl ((itL w l).getD y 0))) && (decide (psQ (nIt w l) k x < psQ (nIt w l) k y) != decide (ks ((itL w l).getD x 0) < ks ((itL w l).getD y 0))))
noncomputable def mN (w kl ks : Nat → Int32) (l k : Nat) : Nat := pN (fun x y => if movB w kl ks l k x y then 1 else 0) (List.range (nIt w l))
/-- places of one kept layer have different spots -/
def KpOK (kl ks : Nat → Int32) : Prop := ∀ p q, p < 10 → q < 10 → p ≠ q → ¬ kl p = -1 → kl p = kl q → ¬ ks p = ks q
theorem itL_nd (w : Nat → Int32) (l : Nat) : (itL w l).Nodup := by
  unfold itL itT pT bT
  refine List.nodup_append.mpr ⟨List.Pairwise.filter _ List.nodup_range, ?_, ?_⟩
  · exact List.Pairwise.map _ (fun a b h => by omega) (List.Pairwise.filter _ List.nodup_range)
  · intro x hx y hy e
    have h1 := List.mem_range.mp (List.mem_filter.mp hx).1
    obtain ⟨t, -, h2⟩ := List.mem_map.mp hy
    omega
theorem getD_lt {L : List Nat} {x : Nat} (h : x < L.length) : L.getD x 0 = L[x] := by
  rw [List.getD_eq_getElem?_getD, List.getElem?_eq_getElem h]
  rfl
theorem itL_ne {w : Nat → Int32} {l x y : Nat} (hx : x < nIt w l) (hy : y < nIt w l) (h : x ≠ y) : (itL w l).getD x 0 ≠ (itL w l).getD y 0 := by
  rw [getD_lt hx, getD_lt hy]
  intro e
  have hp := List.pairwise_iff_getElem.mp (itL_nd w l)
  rcases Nat.lt_or_gt_of_ne h with z | z
  · exact hp x y hx hy z e
  · exact hp y x hy hx z e.symm
theorem itL_200 {w : Nat → Int32} {l x : Nat} (hx : x < nIt w l) : (itL w l).getD x 0 < 200 := by
  rw [getD_lt hx]
  exact it_lt (List.getElem_mem _)
theorem zPP_no {p q : Nat} (hp : p < 200) (hq : q < 200) (h : ¬ (p < 10 ∧ q < 10)) : zPP (nI p) (nI q) = 0 := by
  by_cases z : zPP (nI p) (nI q) = 0
  · exact z
  · obtain ⟨i, j, h1, h2, h3, h4⟩ := zPP_ne z
    have e1 := (nI_eq (by omega) (by omega)).mp h3
    have e2 := (nI_eq (by omega) (by omega)).mp h4
    exact absurd ⟨by omega, by omega⟩ h
theorem mv_is {w kl ks : Nat → Int32} (hK : KpOK kl ks) {l k x y : Nat} (hx : x < nIt w l) (hy : y < nIt w l) (hne : x ≠ y → psQ (nIt w l) k x ≠ psQ (nIt w l) k y) : (if psQ (nIt w l) k x < psQ (nIt w l) k y then mvI kl ks (nI ((itL w l).getD x 0)) (nI ((itL w l).getD y 0)) else mvI kl ks (nI ((itL w l).getD y 0)) (nI ((itL w l).getD x 0))) = nI (if movB w kl ks l k x y then 1 else 0) := by
  have p1 := itL_200 hx
  have p2 := itL_200 hy
  have hxy : x ≠ y → (itL w l).getD x 0 ≠ (itL w l).getD y 0 := itL_ne hx hy
  unfold movB
  generalize (itL w l).getD x 0 = p at *
  generalize (itL w l).getD y 0 = q at *
  by_cases h : p < 10 ∧ q < 10
  · obtain ⟨h1, h2⟩ := h
    unfold mvI
    rw [zPP_of h1 h2, zPP_of h2 h1, cl_n (show p < 2 ^ 31 by omega), cl_n (show q < 2 ^ 31 by omega)]
    have d1 : decide (p < 10) = true := decide_eq_true h1
    have d2 : decide (q < 10) = true := decide_eq_true h2
    rw [d1, d2]
    have n10 : ¬ (1 : Int32) = 0 := by decide
    rw [if_neg n10, if_neg n10]
    by_cases h3 : kl p = kl q
    · by_cases h4 : kl p = -1
      · have h5 : kl q = -1 := by rw [← h3]; exact h4
        simp [h4, h5]
        rfl
      · have h5 : ¬ kl q = -1 := by rw [← h3]; exact h4
        rw [if_neg h4, if_neg h5]
        have c1 : (kl p = kl q ∧ ks q < ks p) ↔ ks q < ks p := ⟨fun z => z.2, fun z => ⟨h3, z⟩⟩
        have c2 : (kl q = kl p ∧ ks p < ks q) ↔ ks p < ks q := ⟨fun z => z.2, fun z => ⟨h3.symm, z⟩⟩
        simp only [c1, c2]
        have d3 : decide (kl p = -1) = false := decide_eq_false h4
        have d4 : decide (kl p = kl q) = true := decide_eq_true h3
        rw [d3, d4]
        by_cases h6 : psQ (nIt w l) k x < psQ (nIt w l) k y
        · rw [if_pos h6, decide_eq_true h6]
          have hne2 : x ≠ y := fun e => by rw [e] at h6; omega
          have hks := hK p q h1 h2 (hxy hne2) h4 h3
          by_cases h7 : ks p < ks q
          · rw [if_neg (show ¬ ks q < ks p from fun z => absurd (Int32.lt_trans h7 z) (Int32.lt_irrefl)), decide_eq_true h7]
            rfl
          · rw [if_pos, decide_eq_false h7]
            · rfl
            · rcases Int32.lt_or_eq_of_le (nlt h7) with z | z
              · exact z
              · exact absurd z.symm hks
        · rw [if_neg h6, decide_eq_false h6]
          by_cases h7 : ks p < ks q
          · rw [if_pos h7, decide_eq_true h7]
            rfl
          · rw [if_neg h7, decide_eq_false h7]
            rfl
    · have h3' : ¬ kl q = kl p := fun z => h3 z.symm
      have d4 : decide (kl p = kl q) = false := decide_eq_false h3
      rw [d4]
      simp [h3, h3']
      rfl
  · have h' : ¬ (q < 10 ∧ p < 10) := fun z => h ⟨z.2, z.1⟩
    have e : (decide (p < 10) && decide (q < 10)) = false := by
      cases z : (decide (p < 10) && decide (q < 10))
      · rfl
      · simp only [Bool.and_eq_true, decide_eq_true_eq] at z
        exact absurd z h
    rw [e]
    unfold mvI
    rw [zPP_no p1 p2 h, zPP_no p2 p1 h']
    simp
    rfl
theorem ps_ne {n k x y : Nat} (hn : n < 6) (hk : k < facN n) (hx : x < n) (hy : y < n) (h : x ≠ y) : psQ n k x ≠ psQ n k y := by
  intro e
  have h1 := (tq2 hn hk hx).1
  have h2 := (tq2 hn hk hy).1
  rw [e, h2] at h1
  exact h h1.symm
theorem pS_mN {w kl ks : Nat → Int32} (hK : KpOK kl ks) {l k : Nat} (hn : nIt w l < 6) (hk : k < facN (nIt w l)) : pS (fun i j => mvI kl ks (nI ((itL w l).getD i 0)) (nI ((itL w l).getD j 0))) (ordK (nIt w l) k) = nI (mN w kl ks l k) := by
  rw [or_pS _ hn hk]
  unfold mN
  rw [← pN_i]
  refine pS_cong (fun x y hx hy => ?_)
  have hx := List.mem_range.mp hx
  have hy := List.mem_range.mp hy
  exact mv_is hK hx hy (ps_ne hn hk hx hy)
theorem mN_le (w kl ks : Nat → Int32) {l : Nat} (k : Nat) (hn : nIt w l < 6) : mN w kl ks l k ≤ 25 := by
  have h := pN_le (f := fun x y => if movB w kl ks l k x y then 1 else 0) (c := 1) (L := List.range (nIt w l)) (fun x y _ _ => by split <;> decide)
  rw [List.length_range] at h
  have h2 : nIt w l * (nIt w l * 1) ≤ 5 * (5 * 1) := Nat.mul_le_mul (by omega) (Nat.mul_le_mul (by omega) (Nat.le_refl _))
  unfold mN
  omega
/-- the class's sums for two orders -/
theorem pS_cT {w kl ks : Nat → Int32} (hF : FO w) (hK : KpOK kl ks) {q l k m : Nat} (hn : nIt w l < 6) (hn' : nIt w (l + 1) < 6) (hk : k < facN (nIt w l)) (hm : m < facN (nIt w (l + 1))) : pS (cTt w (nI q) kl ks l (ordK (nIt w (l + 1)) m)) (ordK (nIt w l) k) = nI (cN w l k m + q * mN w kl ks l k) := by
  have e : cTt w (nI q) kl ks l (ordK (nIt w (l + 1)) m) = fun i j => nI q * mvI kl ks (nI ((itL w l).getD i 0)) (nI ((itL w l).getD j 0)) + pS (fun u v => Mg w w l i v * Mg w w l j u) (ordK (nIt w (l + 1)) m) := by
    funext i j
    unfold cTt
    simp only [Mx_g]
  rw [e, pS_add, pS_ml, pS_mN hK hn hk, pS_cNg hF (gN := wN w) (fun x hx => (hF.eq (kT_mem hx).1).1) hn hn' hk hm, pk_mul, nI_add, Nat.add_comm]
  rfl
/-! the least of some numbers, its ways, and the first that has it -/
def mnN (f : Nat → Nat) (N : Nat) : Nat := (mo (fun _ => true) f N).getD 0
theorem mnN_is (f : Nat → Nat) {N : Nat} (h : 0 < N) : IsMn (fun t => t < N) f (mnN f N) := by
  unfold mnN
  cases e : mo (fun _ => true) f N with
  | none =>
    have := mo_none e 0 h
    cases this
  | some m =>
    obtain ⟨h1, p, h2, h3⟩ := mo_some e
    exact ⟨fun p hp => h1 p ⟨hp, rfl⟩, p, h2.1, h3⟩
def fsN (f : Nat → Nat) (N : Nat) : Nat := ((List.range N).find? (fun m => f m == mnN f N)).getD 0
theorem fsN_is (f : Nat → Nat) {N : Nat} (h : 0 < N) : fsN f N < N ∧ f (fsN f N) = mnN f N ∧ ∀ j, j < fsN f N → f j ≠ mnN f N := by
  unfold fsN
  cases e : (List.range N).find? (fun m => f m == mnN f N) with
  | none =>
    obtain ⟨-, p, h2, h3⟩ := mnN_is f h
    have := List.find?_eq_none.mp e p (List.mem_range.mpr h2)
    rw [h3] at this
    simp at this
  | some i =>
    obtain ⟨h1, h2, h3⟩ := List.find?_range_eq_some.mp e
    refine ⟨List.mem_range.mp h2, by simpa using h1, fun j hj => ?_⟩
    have := h3 j hj
    simpa using this
theorem fsN_uniq {f : Nat → Nat} {N i : Nat} (hi : i < N) (h1 : f i = mnN f N) (h2 : ∀ j, j < i → f j ≠ mnN f N) : fsN f N = i := by
  obtain ⟨a1, a2, a3⟩ := fsN_is f (show 0 < N by omega)
  rcases Nat.lt_trichotomy (fsN f N) i with z | z | z
  · exact absurd a2 (h2 _ z)
  · exact z
  · exact absurd h1 (a3 _ z)
theorem mnN_uniq {f : Nat → Nat} {N m : Nat} (h : IsMn (fun t => t < N) f m) : m = mnN f N := by
  obtain ⟨-, p, h2, -⟩ := id h
  exact h.uniq (mnN_is f (by omega))
def Bst (v : Nat → Nat) (wy : Nat → Int32) (T m : Nat) (W : Int32) : Prop := IsMn (fun t => t < T) v m ∧ W = sm32 (fun t => if v t = m then wy t else 0) T
def Fst (v rk : Nat → Nat) (T m t : Nat) : Prop := t < T ∧ v t = m ∧ ∀ u, u < T → v u = m → rk t ≤ rk u
theorem sm32_z {f : Nat → Int32} : ∀ {n : Nat}, (∀ k, k < n → f k = 0) → sm32 f n = 0
  | 0, _ => rfl
  | n + 1, h => by
    show sm32 f n + f n = 0
    rw [sm32_z (fun k hk => h k (by omega)), h n (by omega)]
    rfl
theorem Bst_new {v : Nat → Nat} {wy : Nat → Int32} {T : Nat} (h : ∀ t, t < T → v T < v t) : Bst v wy (T + 1) (v T) (wy T) := by
  refine ⟨⟨fun t ht => ?_, T, by omega, rfl⟩, ?_⟩
  · rcases Nat.lt_succ_iff_lt_or_eq.mp ht with z | z
    · exact Nat.le_of_lt (h t z)
    · rw [z]
      exact Nat.le_refl _
  · show wy T = sm32 _ T + (if v T = v T then wy T else 0)
    rw [sm32_z (fun t ht => if_neg (fun z => by have := h t ht; omega)), if_pos rfl, Int32.zero_add]
theorem Bst_lt {v : Nat → Nat} {wy : Nat → Int32} {T m : Nat} {W : Int32} (h : Bst v wy T m W) (hm : v T < m) : Bst v wy (T + 1) (v T) (wy T) := Bst_new (fun t ht => Nat.lt_of_lt_of_le hm (h.1.1 t ht))
theorem Bst_eq {v : Nat → Nat} {wy : Nat → Int32} {T m : Nat} {W : Int32} (h : Bst v wy T m W) (hm : v T = m) : Bst v wy (T + 1) m (W + wy T) := by
  obtain ⟨⟨h1, p, h2, h3⟩, h4⟩ := h
  refine ⟨⟨fun t ht => ?_, p, by omega, h3⟩, ?_⟩
  · rcases Nat.lt_succ_iff_lt_or_eq.mp ht with z | z
    · exact h1 t z
    · rw [z, hm]
      exact Nat.le_refl _
  · show _ = sm32 _ T + (if v T = m then wy T else 0)
    rw [if_pos hm, h4]
theorem Bst_gt {v : Nat → Nat} {wy : Nat → Int32} {T m : Nat} {W : Int32} (h : Bst v wy T m W) (hm : m < v T) : Bst v wy (T + 1) m W := by
  obtain ⟨⟨h1, p, h2, h3⟩, h4⟩ := h
  refine ⟨⟨fun t ht => ?_, p, by omega, h3⟩, ?_⟩
  · rcases Nat.lt_succ_iff_lt_or_eq.mp ht with z | z
    · exact h1 t z
    · rw [z]
      exact Nat.le_of_lt hm
  · show _ = sm32 _ T + (if v T = m then wy T else 0)
    rw [if_neg (by omega), Int32.add_zero, h4]
