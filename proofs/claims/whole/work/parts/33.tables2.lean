/-! the class's table of orders (Changes), and the model's numbering of it -/
def insAt (L : List Nat) (s x : Nat) : List Nat := L.take s ++ x :: L.drop s
def chL : Nat → List (List Nat)
  | 0 => [[]]
  | n + 1 => (chL n).zipIdx.flatMap (fun q => (List.range (n + 1)).map (fun st => insAt q.1 (if q.2 % 2 = 0 then n - st else st) n))
def thL (n t : Nat) : List Nat := (chL n).getD t []
def rnkL : List Nat → Nat
  | [] => 0
  | x :: r => (r.filter (fun y => decide (y < x))).length * facN r.length + rnkL r
def rkL (L : List Nat) : Nat := L.foldl (fun r x => 5 * r + x) 0
def ordK (n k : Nat) : List Nat := (List.range n).map (fun i => xq n k i)
/-- where two orders first differ -/
def difL : List Nat → List Nat → Nat
  | x :: r, y :: q => if x = y then difL r q + 1 else 0
  | _, _ => 0
def exL (L L' : List Nat) : Nat := 5 * L.getD (difL L L') 0 + L'.getD (difL L L') 0
def ckA (n : Nat) : Bool := (chL n).zipIdx.all (fun q => (q.1.length == n) && decide (rnkL q.1 < facN n) && (ordK n (rnkL q.1) == q.1) && ((chL n).idxOf q.1 == q.2))
def ckB (n : Nat) : Bool := ((chL n).length == facN n) && (List.range (facN n)).all (fun k => (rnkL (ordK n k) == k) && (chL n).contains (ordK n k))
def ckC (n : Nat) : Bool := (List.range (facN n - 1)).all (fun k => decide (rkL (ordK n k) < rkL (ordK n (k + 1))))
def ckD (n : Nat) : Bool := ((chL n).zip (chL n).tail).all (fun q => decide (difL q.1 q.2 + 1 < n) && (q.2 == q.1.take (difL q.1 q.2) ++ (q.1.getD (difL q.1 q.2 + 1) 0 :: q.1.getD (difL q.1 q.2) 0 :: q.1.drop (difL q.1 q.2 + 2))))
set_option maxRecDepth 100000 in
theorem ckA_all : (List.range 6).all ckA = true := by decide +kernel
set_option maxRecDepth 100000 in
theorem ckB_all : (List.range 6).all ckB = true := by decide +kernel
set_option maxRecDepth 100000 in
theorem ckC_all : (List.range 6).all ckC = true := by decide +kernel
set_option maxRecDepth 100000 in
theorem ckD_all : (List.range 6).all ckD = true := by decide +kernel
/-- the model's number of the class's order t; the class's number of the model's order k -/
def piQ (n t : Nat) : Nat := rnkL (thL n t)
def piR (n k : Nat) : Nat := (chL n).idxOf (ordK n k)
theorem chL_len {n : Nat} (hn : n < 6) : (chL n).length = facN n := by
  have h := List.all_eq_true.mp ckB_all n (List.mem_range.mpr hn)
  unfold ckB at h
  simp only [Bool.and_eq_true, beq_iff_eq] at h
  exact h.1
theorem thL_mem {n t : Nat} (hn : n < 6) (ht : t < facN n) : (thL n t, t) ∈ (chL n).zipIdx := by
  rw [List.mem_zipIdx_iff_getElem?]
  unfold thL
  rw [List.getD_eq_getElem?_getD, List.getElem?_eq_getElem (by rw [chL_len hn]; exact ht)]
  rfl
theorem thL_ok {n t : Nat} (hn : n < 6) (ht : t < facN n) : (thL n t).length = n ∧ piQ n t < facN n ∧ ordK n (piQ n t) = thL n t ∧ (chL n).idxOf (thL n t) = t := by
  have h := List.all_eq_true.mp ckA_all n (List.mem_range.mpr hn)
  unfold ckA at h
  have h2 := List.all_eq_true.mp h _ (thL_mem hn ht)
  simp only [Bool.and_eq_true, beq_iff_eq, decide_eq_true_eq] at h2
  exact ⟨h2.1.1.1, h2.1.1.2, h2.1.2, h2.2⟩
theorem piR_ok {n k : Nat} (hn : n < 6) (hk : k < facN n) : piR n k < facN n ∧ thL n (piR n k) = ordK n k ∧ piQ n (piR n k) = k := by
  have h := List.all_eq_true.mp ckB_all n (List.mem_range.mpr hn)
  unfold ckB at h
  simp only [Bool.and_eq_true] at h
  have h2 := List.all_eq_true.mp h.2 k (List.mem_range.mpr hk)
  simp only [Bool.and_eq_true, beq_iff_eq, List.contains_iff_mem] at h2
  have hlt : piR n k < (chL n).length := List.idxOf_lt_length_of_mem h2.2
  have e : thL n (piR n k) = ordK n k := by
    unfold thL
    rw [List.getD_eq_getElem?_getD, List.getElem?_eq_getElem hlt]
    exact List.getElem_idxOf hlt
  refine ⟨by rw [← chL_len hn]; exact hlt, e, ?_⟩
  unfold piQ
  rw [e]
  exact h2.1
theorem piR_Q {n t : Nat} (hn : n < 6) (ht : t < facN n) : piR n (piQ n t) = t := by
  unfold piR
  rw [(thL_ok hn ht).2.2.1]
  exact (thL_ok hn ht).2.2.2
theorem rk_up {n : Nat} (hn : n < 6) : ∀ {a b : Nat}, a < b → b < facN n → rkL (ordK n a) < rkL (ordK n b) := by
  have step : ∀ k, k + 1 < facN n → rkL (ordK n k) < rkL (ordK n (k + 1)) := by
    intro k hk
    have h := List.all_eq_true.mp ckC_all n (List.mem_range.mpr hn)
    unfold ckC at h
    simpa using List.all_eq_true.mp h k (List.mem_range.mpr (by omega))
  intro a b hab
  induction b with
  | zero => omega
  | succ b ih =>
    intro hb
    rcases Nat.lt_succ_iff_lt_or_eq.mp hab with z | z
    · exact Nat.lt_trans (ih z (by omega)) (step b hb)
    · subst z
      exact step a hb
/-- the class's ranks stand in the model's order -/
theorem rk_pi {n t u : Nat} (hn : n < 6) (ht : t < facN n) (hu : u < facN n) : rkL (thL n t) < rkL (thL n u) ↔ piQ n t < piQ n u := by
  obtain ⟨-, a2, a3, -⟩ := thL_ok hn ht
  obtain ⟨-, b2, b3, -⟩ := thL_ok hn hu
  rw [← a3, ← b3]
  constructor
  · intro h
    rcases Nat.lt_trichotomy (piQ n t) (piQ n u) with z | z | z
    · exact z
    · rw [z] at h
      exact absurd h (Nat.lt_irrefl _)
    · have := rk_up hn z a2
      omega
  · intro h
    exact rk_up hn h b2
/-- each order is the one ahead of it with two neighbours exchanged -/
theorem ch_swap {n t : Nat} (hn : n < 6) (ht : t + 1 < facN n) : ∃ (pre post : List Nat) (x y : Nat), thL n t = pre ++ x :: y :: post ∧ thL n (t + 1) = pre ++ y :: x :: post ∧ exL (thL n t) (thL n (t + 1)) = 5 * x + y := by
  have h := List.all_eq_true.mp ckD_all n (List.mem_range.mpr hn)
  unfold ckD at h
  have hm : (thL n t, thL n (t + 1)) ∈ (chL n).zip (chL n).tail := by
    apply List.mem_of_getElem? (i := t)
    rw [List.getElem?_zip_eq_some]
    have hl := chL_len hn
    have g : ∀ i, i < facN n → (chL n)[i]? = some (thL n i) := by
      intro i hi
      unfold thL
      rw [List.getD_eq_getElem?_getD, List.getElem?_eq_getElem (by omega)]
      rfl
    exact ⟨g t (by omega), by rw [List.getElem?_tail]; exact g (t + 1) ht⟩
  have h2 := List.all_eq_true.mp h _ hm
  simp only [Bool.and_eq_true, beq_iff_eq, decide_eq_true_eq] at h2
  obtain ⟨h3, h4⟩ := h2
  have hlen := (thL_ok hn (show t < facN n by omega)).1
  generalize hd : difL (thL n t) (thL n (t + 1)) = d at h3 h4
  have e1 : thL n t = (thL n t).take d ++ ((thL n t).getD d 0 :: (thL n t).getD (d + 1) 0 :: (thL n t).drop (d + 2)) := by
    have g1 : (thL n t).getD d 0 = (thL n t)[d]'(by omega) := by rw [List.getD_eq_getElem?_getD, List.getElem?_eq_getElem (by omega)]; rfl
    have g2 : (thL n t).getD (d + 1) 0 = (thL n t)[d + 1]'(by omega) := by rw [List.getD_eq_getElem?_getD, List.getElem?_eq_getElem (by omega)]; rfl
    rw [g1, g2, ← List.drop_eq_getElem_cons, ← List.drop_eq_getElem_cons, List.take_append_drop]
  refine ⟨(thL n t).take d, (thL n t).drop (d + 2), (thL n t).getD d 0, (thL n t).getD (d + 1) 0, e1, h4, ?_⟩
  unfold exL
  rw [hd]
  congr 1
  have hl : ((thL n t).take d).length = d := by rw [List.length_take]; omega
  have : (thL n (t + 1)).getD d 0 = ((thL n t).take d ++ ((thL n t).getD (d + 1) 0 :: (thL n t).getD d 0 :: (thL n t).drop (d + 2))).getD d 0 := by rw [← h4]
  rw [this, List.getD_eq_getElem?_getD, List.getElem?_append_right (by omega), hl, Nat.sub_self]
  rfl
