/-! the least cost from a layer on, its ways, the order chosen: by the model's numbers -/
noncomputable def vD (w kl ks : Nat → Int32) (q : Nat) : Nat → Nat → Nat
  | 0, _ => 0
  | d + 1, k => mnN (fun m => cN w (nLay w - (d + 1)) k m + vD w kl ks q d m) (facN (nIt w (nLay w - (d + 1) + 1))) + q * mN w kl ks (nLay w - (d + 1)) k
noncomputable def vV (w kl ks : Nat → Int32) (q l k : Nat) : Nat := vD w kl ks q (nLay w - l) k
noncomputable def vU (w kl ks : Nat → Int32) (q l k m : Nat) : Nat := cN w l k m + vV w kl ks q (l + 1) m
noncomputable def wD (w kl ks : Nat → Int32) (q : Nat) : Nat → Nat → Int32
  | 0, _ => 1
  | d + 1, k => sm32 (fun m => if cN w (nLay w - (d + 1)) k m + vD w kl ks q d m = mnN (fun m => cN w (nLay w - (d + 1)) k m + vD w kl ks q d m) (facN (nIt w (nLay w - (d + 1) + 1))) then wD w kl ks q d m else 0) (facN (nIt w (nLay w - (d + 1) + 1)))
noncomputable def wV (w kl ks : Nat → Int32) (q l k : Nat) : Int32 := wD w kl ks q (nLay w - l) k
theorem vV_e {w kl ks : Nat → Int32} {q l k : Nat} (h : nLay w ≤ l) : vV w kl ks q l k = 0 := by
  unfold vV
  rw [Nat.sub_eq_zero_of_le h]
  rfl
theorem wV_e {w kl ks : Nat → Int32} {q l k : Nat} (h : nLay w ≤ l) : wV w kl ks q l k = 1 := by
  unfold wV
  rw [Nat.sub_eq_zero_of_le h]
  rfl
theorem vV_s {w kl ks : Nat → Int32} {q l k : Nat} (h : l < nLay w) : vV w kl ks q l k = mnN (vU w kl ks q l k) (facN (nIt w (l + 1))) + q * mN w kl ks l k := by
  unfold vV
  have e : nLay w - l = (nLay w - (l + 1)) + 1 := by omega
  have e2 : nLay w - (nLay w - (l + 1) + 1) = l := by omega
  rw [e, vD, e2]
  rfl
theorem wV_s {w kl ks : Nat → Int32} {q l k : Nat} (h : l < nLay w) : wV w kl ks q l k = sm32 (fun m => if vU w kl ks q l k m = mnN (vU w kl ks q l k) (facN (nIt w (l + 1))) then wV w kl ks q (l + 1) m else 0) (facN (nIt w (l + 1))) := by
  unfold wV
  have e : nLay w - l = (nLay w - (l + 1)) + 1 := by omega
  have e2 : nLay w - (nLay w - (l + 1) + 1) = l := by omega
  rw [e, wD, e2]
  rfl
/-- the order of the next layer that is taken behind k -/
noncomputable def nxK (w kl ks : Nat → Int32) (q l k : Nat) : Nat := fsN (vU w kl ks q l k) (facN (nIt w (l + 1)))
noncomputable def chS (w kl ks : Nat → Int32) (q : Nat) : Nat → Nat
  | 0 => fsN (vV w kl ks q 0) (facN (nIt w 0))
  | l + 1 => nxK w kl ks q l (chS w kl ks q l)
noncomputable def vT (w kl ks : Nat → Int32) (q : Nat) : Nat := mnN (vV w kl ks q 0) (facN (nIt w 0))
noncomputable def wT (w kl ks : Nat → Int32) (q : Nat) : Int32 := sm32 (fun k => if vV w kl ks q 0 k = vT w kl ks q then wV w kl ks q 0 k else 0) (facN (nIt w 0))
theorem facN_pos (n : Nat) : 0 < facN n := by
  induction n with
  | zero => decide
  | succ n ih => exact Nat.mul_pos ih (by omega)
theorem chS_lt (w kl ks : Nat → Int32) (q l : Nat) : chS w kl ks q l < facN (nIt w l) := by
  cases l with
  | zero => exact (fsN_is _ (facN_pos _)).1
  | succ l => exact (fsN_is _ (facN_pos _)).1
/-- a drawing: every layer has at most five items -/
def Dw (w : Nat → Int32) : Prop := FO w ∧ ∀ l, nIt w l < 6
theorem vD_le {w kl ks : Nat → Int32} {q : Nat} (hD : Dw w) (hq : q ≤ 9999) : ∀ d k, vD w kl ks q d k ≤ d * 2800000
  | 0, _ => Nat.zero_le _
  | d + 1, k => by
    rw [vD]
    have h1 : _ ≤ cN w (nLay w - (d + 1)) k 0 + vD w kl ks q d 0 := (mnN_is (fun m => cN w (nLay w - (d + 1)) k m + vD w kl ks q d m) (facN_pos (nIt w (nLay w - (d + 1) + 1)))).1 0 (facN_pos _)
    have h2 := vD_le (kl := kl) (ks := ks) hD hq d 0
    have h3 := cN_le hD.1 (nLay w - (d + 1)) k 0
    have h4 := mN_le w kl ks k (hD.2 (nLay w - (d + 1)))
    have h5 : q * mN w kl ks (nLay w - (d + 1)) k ≤ 9999 * 25 := Nat.mul_le_mul hq h4
    omega
theorem vV_le {w kl ks : Nat → Int32} {q : Nat} (hD : Dw w) (hq : q ≤ 9999) (l k : Nat) : vV w kl ks q l k ≤ 28000000 := by
  have h1 := vD_le (kl := kl) (ks := ks) hD hq (nLay w - l) k
  have h2 := nLay_le w
  unfold vV
  have h3 : (nLay w - l) * 2800000 ≤ 10 * 2800000 := Nat.mul_le_mul_right _ (by omega)
  omega
theorem qm_le {w kl ks : Nat → Int32} {q : Nat} (hD : Dw w) (hq : q ≤ 9999) (l k : Nat) : q * mN w kl ks l k ≤ 249975 := Nat.mul_le_mul hq (mN_le w kl ks k (hD.2 l))
theorem vU_le {w kl ks : Nat → Int32} {q : Nat} (hD : Dw w) (hq : q ≤ 9999) (l k m : Nat) : vU w kl ks q l k m ≤ 31000000 := by
  have h1 := vV_le (kl := kl) (ks := ks) hD hq (l + 1) m
  have h2 := cN_le hD.1 l k m
  unfold vU
  omega
/-! the class's numbering -/
theorem th_0 : ∀ n, n < 6 → thL n 0 = List.range n := by decide +kernel
theorem th_or {n t : Nat} (hn : n < 6) (ht : t < facN n) : thL n t = ordK n (piQ n t) := (thL_ok hn ht).2.2.1.symm
theorem chN_f : ∀ n, n < 6 → chN n = facN n := by decide
theorem chT_f : ∀ n, n < 6 → chT n = facN n * n := by decide
theorem mn5 : ∀ n, n < 6 → (mnI (nI n) 5).toNatClampNeg = n := by decide +kernel
theorem pi_perm : ∀ n, n < 6 → ((List.range (facN n)).map (piQ n)).isPerm (List.range (facN n)) = true := by decide +kernel
theorem sL_map (f : Nat → Int32) (g : Nat → Nat) : ∀ L, sL f (L.map g) = sL (fun x => f (g x)) L
  | [] => rfl
  | x :: r => by rw [List.map_cons, sL, sL, sL_map f g r]
theorem sm_pi (f : Nat → Int32) {n : Nat} (hn : n < 6) : sm32 (fun t => f (piQ n t)) (facN n) = sm32 f (facN n) := by
  rw [← sL_range, ← sL_range, ← sL_map f (piQ n), sL_perm (List.isPerm_iff.mp (pi_perm n hn))]
theorem mn_pi {f : Nat → Nat} {n m : Nat} (hn : n < 6) (h : IsMn (fun t => t < facN n) (fun t => f (piQ n t)) m) : IsMn (fun k => k < facN n) f m := by
  obtain ⟨h1, p, h2, h3⟩ := h
  refine ⟨fun k hk => ?_, piQ n p, (thL_ok hn h2).2.1, h3⟩
  obtain ⟨a1, -, a3⟩ := piR_ok hn hk
  have := h1 (piR n k) a1
  simp only [a3] at this
  exact this
theorem fs_pi {f : Nat → Nat} {n m t : Nat} (hn : n < 6) (hm : m = mnN f (facN n)) (h : Fst (fun t => f (piQ n t)) (fun t => rkL (thL n t)) (facN n) m t) : piQ n t = fsN f (facN n) := by
  obtain ⟨h1, h2, h3⟩ := h
  refine (fsN_uniq (thL_ok hn h1).2.1 (by rw [← hm]; exact h2) (fun j hj e => ?_)).symm
  have hp := (thL_ok hn h1).2.1
  obtain ⟨a1, -, a3⟩ := piR_ok hn (show j < facN n by omega)
  have h4 : rkL (thL n t) ≤ rkL (thL n (piR n j)) := h3 (piR n j) a1 (by simp only [a3]; rw [hm]; exact e)
  have h5 := (rk_pi hn a1 h1).mpr (by rw [a3]; exact hj)
  omega
/-- the cells that keep the least so far, behind the first t orders of the next layer -/
def BsC (v : Nat → Nat) (wy : Nat → Int32) (rk : Nat → Nat) (T : Nat) (L W N : Int32) : Prop := (T = 0 ∧ L = 2147483647) ∨ ∃ m t, L = nI m ∧ m < 2 ^ 30 ∧ Bst v wy T m W ∧ N = nI t ∧ Fst v rk T m t
theorem max_lt {c : Nat} (h : c < 2 ^ 30) : nI c < 2147483647 := by
  show nI c < nI 2147483647
  exact nI_lt (by omega) (by decide)
theorem BsC_lt {v : Nat → Nat} {wy : Nat → Int32} {rk : Nat → Nat} {T : Nat} {L W N : Int32} (h : BsC v wy rk T L W N) (hv : v T < 2 ^ 30) (hc : ¬ L ≤ nI (v T)) : BsC v wy rk (T + 1) (nI (v T)) (wy T) (nI T) := by
  have key : ∀ t, t < T → v T < v t := by
    intro t ht
    rcases h with ⟨h1, -⟩ | ⟨m, t0, rfl, hm, hB, -, -⟩
    · omega
    · have := (nI_ltI (by omega) (by omega)).mp (nle hc)
      exact Nat.lt_of_lt_of_le this (hB.1.1 t ht)
  refine Or.inr ⟨v T, T, rfl, hv, Bst_new key, rfl, by omega, rfl, fun u hu e => ?_⟩
  rcases Nat.lt_succ_iff_lt_or_eq.mp hu with z | z
  · have := key u z
    omega
  · rw [z]
    exact Nat.le_refl _
theorem BsC_gt {v : Nat → Nat} {wy : Nat → Int32} {rk : Nat → Nat} {T : Nat} {L W N : Int32} (h : BsC v wy rk T L W N) (hv : v T < 2 ^ 30) (hc : L ≤ nI (v T)) (hn : ¬ nI (v T) = L) : BsC v wy rk (T + 1) L W N := by
  rcases h with ⟨h1, rfl⟩ | ⟨m, t0, rfl, hm, hB, hN, f1, f2, f3⟩
  · exact absurd (max_lt hv) (le_nlt hc)
  · have h1 := (nI_leI (by omega) (by omega)).mp hc
    have h2 : m < v T := by
      rcases Nat.lt_or_eq_of_le h1 with z | z
      · exact z
      · exact absurd (by rw [z]) hn
    refine Or.inr ⟨m, t0, rfl, hm, Bst_gt hB h2, hN, by omega, f2, fun u hu e => ?_⟩
    rcases Nat.lt_succ_iff_lt_or_eq.mp hu with z | z
    · exact f3 u z e
    · subst z
      omega
theorem BsC_eq {v : Nat → Nat} {wy : Nat → Int32} {rk : Nat → Nat} {T : Nat} {L W N : Int32} (h : BsC v wy rk T L W N) (hv : v T < 2 ^ 30) (hn : nI (v T) = L) : ∃ t, t < T ∧ N = nI t ∧ (rk t ≤ rk T → BsC v wy rk (T + 1) L (W + wy T) N) ∧ (rk T < rk t → BsC v wy rk (T + 1) L (W + wy T) (nI T)) := by
  rcases h with ⟨h1, rfl⟩ | ⟨m, t0, rfl, hm, hB, hN, f1, f2, f3⟩
  · have := max_lt hv
    rw [hn] at this
    exact absurd this Int32.lt_irrefl
  · have hm2 := (nI_eq (by omega) (by omega)).mp hn
    refine ⟨t0, f1, hN, fun hr => Or.inr ⟨m, t0, rfl, hm, Bst_eq hB hm2, hN, by omega, f2, fun u hu e => ?_⟩, fun hr => Or.inr ⟨m, T, rfl, hm, Bst_eq hB hm2, rfl, by omega, hm2, fun u hu e => ?_⟩⟩
    · rcases Nat.lt_succ_iff_lt_or_eq.mp hu with z | z
      · exact f3 u z e
      · subst z
        exact hr
    · rcases Nat.lt_succ_iff_lt_or_eq.mp hu with z | z
      · have := f3 u z e
        omega
      · subst z
        exact Nat.le_refl _
/-- the cells of Changes -/
def ChOK (I A : HI) : Prop := ∀ n, n < 6 → I (71 + 4 * n) 0 = nI n ∧ I (71 + 4 * n) 1 = nI (facN n) ∧ ∀ t, t < facN n → (∀ i, i < n → A (72 + 4 * n) (t * n + i) = nI ((thL n t).getD i 0)) ∧ A (74 + 4 * n) t = nI (rkL (thL n t)) ∧ (0 < t → A (73 + 4 * n) t = nI (exL (thL n (t - 1)) (thL n t)))
theorem ChOK.off {I A I' A' : HI} (h : ChOK I A) (hI : ∀ n, n < 6 → I' (71 + 4 * n) 0 = I (71 + 4 * n) 0 ∧ I' (71 + 4 * n) 1 = I (71 + 4 * n) 1) (hA : ∀ k, 71 < k → k < 95 → A' k = A k) : ChOK I' A' := by
  intro n hn
  obtain ⟨h1, h2, h3⟩ := h n hn
  rw [(hI n hn).1, (hI n hn).2, hA (72 + 4 * n) (by omega) (by omega), hA (73 + 4 * n) (by omega) (by omega), hA (74 + 4 * n) (by omega) (by omega)]
  exact ⟨h1, h2, h3⟩
theorem rkL_lt : ∀ n, n < 6 → ∀ t, t < facN n → rkL (thL n t) < 3125 := by decide +kernel
theorem th_lt {n t i : Nat} (hn : n < 6) (ht : t < facN n) (hi : i < n) : (thL n t).getD i 0 < n := by
  have h := thL_ok hn ht
  rw [getD_lt (by rw [h.1]; exact hi)]
  have h1 := List.getElem_mem (l := thL n t) (n := i) (by rw [h.1]; exact hi)
  have h2 : ∀ x, x ∈ thL n t → x ∈ ordK n (piQ n t) := fun x hx => by rw [h.2.2.1]; exact hx
  exact (or_mem hn h.2.1).mp (h2 _ h1)
