/-! the cost of an order of a layer beside an order of the next one: the class's sums are the model's -/
theorem sL_cong {f g : Nat → Int32} : ∀ {L : List Nat}, (∀ x, x ∈ L → f x = g x) → sL f L = sL g L
  | [], _ => rfl
  | x :: r, h => by rw [sL, sL, h x List.mem_cons_self, sL_cong (L := r) (fun y hy => h y (List.mem_cons_of_mem _ hy))]
theorem sL_0 : ∀ (L : List Nat), sL (fun _ => 0) L = 0
  | [] => rfl
  | x :: r => by rw [sL, sL_0 r]; rfl
theorem sL_z {f : Nat → Int32} {L : List Nat} (h : ∀ x, x ∈ L → f x = 0) : sL f L = 0 := by
  rw [sL_cong (g := fun _ => 0) h, sL_0]
theorem sL_perm {f : Nat → Int32} {L M : List Nat} (h : L.Perm M) : sL f L = sL f M := by
  induction h with
  | nil => rfl
  | cons x _ ih => rw [sL, sL, ih]
  | swap x y r => rw [sL, sL, sL, sL]; grind
  | trans _ _ i1 i2 => rw [i1, i2]
theorem sL_mr (f : Nat → Int32) (c : Int32) : ∀ L, sL f L * c = sL (fun x => f x * c) L
  | [] => by rw [sL, sL]; grind
  | x :: r => by rw [sL, sL, ← sL_mr f c r]; grind
theorem sL_ml (f : Nat → Int32) (c : Int32) : ∀ L, c * sL f L = sL (fun x => c * f x) L
  | [] => by rw [sL, sL]; grind
  | x :: r => by rw [sL, sL, ← sL_ml f c r]; grind
theorem sL_fil (f : Nat → Int32) (p : Nat → Bool) : ∀ L, sL f (L.filter p) = sL (fun x => if p x then f x else 0) L
  | [] => rfl
  | x :: r => by
    rw [List.filter_cons, sL]
    cases h : p x
    · simp only [Bool.false_eq_true, if_false]
      rw [sL_fil f p r, Int32.zero_add]
    · simp only [if_true]
      rw [sL, sL_fil f p r]
theorem pS_0 : ∀ (L : List Nat), pS (fun _ _ => 0) L = 0
  | [] => rfl
  | x :: r => by rw [pS, pS_0 r, sL_0]; rfl
theorem pS_sum (f : Nat → Nat → Nat → Int32) (S : List Nat) : ∀ K, pS (fun a b => sL (fun x => f x a b) K) S = sL (fun x => pS (f x) S) K
  | [] => pS_0 S
  | x :: r => by
    rw [sL, ← pS_sum f S r, ← pS_add]
    rfl
theorem pS_ml (c : Int32) (f : Nat → Nat → Int32) : ∀ L, pS (fun a b => c * f a b) L = c * pS f L
  | [] => by rw [pS, pS]; grind
  | x :: r => by rw [pS, pS, pS_ml c f r, ← sL_ml]; grind
/-- p stands before r -/
def bf : List Nat → Nat → Nat → Bool
  | [], _, _ => false
  | x :: L, p, r => (x == p && L.contains r) || bf L p r
theorem bf_mem : ∀ {L : List Nat} {p r : Nat}, bf L p r = true → p ∈ L
  | [], _, _, h => by cases h
  | x :: L, p, r, h => by
    rw [bf, Bool.or_eq_true] at h
    rcases h with h | h
    · simp only [Bool.and_eq_true, beq_iff_eq] at h
      rw [h.1]
      exact List.mem_cons_self
    · exact List.mem_cons_of_mem _ (bf_mem h)
theorem sL_d (r : Nat) (c : Int32) : ∀ {L : List Nat}, L.Nodup → sL (fun y => if y = r then c else 0) L = if L.contains r then c else 0
  | [], _ => rfl
  | x :: L, h => by
    have h2 := List.nodup_cons.mp h
    rw [sL, sL_d r c h2.2]
    by_cases e : x = r
    · subst e
      have : L.contains x = false := by
        cases z : L.contains x
        · rfl
        · exact absurd (List.contains_iff_mem.mp z) h2.1
      rw [this]
      simp
    · have e2 : ¬ r = x := fun z => e z.symm
      rw [if_neg e, Int32.zero_add, List.contains_cons]
      have : (r == x) = false := by simp [e2]
      rw [this, Bool.false_or]
theorem pS_d (p r : Nat) (c : Int32) : ∀ {L : List Nat}, L.Nodup → pS (fun u v => if u = p ∧ v = r then c else 0) L = if bf L p r then c else 0
  | [], _ => rfl
  | x :: L, h => by
    have h2 := List.nodup_cons.mp h
    rw [pS, pS_d p r c h2.2, bf]
    by_cases e : x = p
    · subst e
      have : bf L x r = false := by
        cases z : bf L x r
        · rfl
        · exact absurd (bf_mem z) h2.1
      rw [this, sL_cong (g := fun y => if y = r then c else 0) (fun y _ => by simp), sL_d r c h2.2]
      simp
    · rw [sL_z (fun y _ => if_neg (fun z => e z.1)), Int32.zero_add]
      have : (x == p) = false := by simp [e]
      rw [this]
      simp
noncomputable def Mg (w : Nat → Int32) (g : Nat → Int32) (l a v : Nat) : Int32 := sL (fun j => if fxN w l j = a ∧ gxN w l j = v then g j else 0) (kT w 100 l)
theorem Mx_g (w : Nat → Int32) (l a v : Nat) : Mx w l a v = Mg w w l a v := by
  unfold Mx Mj Mg kT
  rw [sL_fil, ← sL_range]
  refine sL_cong (fun j _ => ?_)
  unfold mtB
  cases h1 : lkB w l j
  · rfl
  · by_cases h2 : fxN w l j = a <;> by_cases h3 : gxN w l j = v <;> simp [h2, h3]
/-- a sum over crossing pairs of links -/
noncomputable def xS2 (w g : Nat → Int32) (l : Nat) (c : Nat → Nat → Bool) : Int32 := sL (fun x => sL (fun y => if c x y then g x * g y else 0) (kT w 100 l)) (kT w 100 l)
theorem pS_cross (w g : Nat → Int32) (l : Nat) {S T : List Nat} (hS : S.Nodup) (hT : T.Nodup) : pS (fun a b => pS (fun u v => Mg w g l a v * Mg w g l b u) T) S = xS2 w g l (fun x y => bf S (fxN w l x) (fxN w l y) && bf T (gxN w l y) (gxN w l x)) := by
  have e1 : ∀ a b, pS (fun u v => Mg w g l a v * Mg w g l b u) T = sL (fun x => sL (fun y => if a = fxN w l x ∧ b = fxN w l y then (if bf T (gxN w l y) (gxN w l x) then g x * g y else 0) else 0) (kT w 100 l)) (kT w 100 l) := by
    intro a b
    have e2 : ∀ u v, Mg w g l a v * Mg w g l b u = sL (fun x => sL (fun y => if a = fxN w l x ∧ b = fxN w l y then (if u = gxN w l y ∧ v = gxN w l x then g x * g y else 0) else 0) (kT w 100 l)) (kT w 100 l) := by
      intro u v
      unfold Mg
      rw [sL_mr]
      refine sL_cong (fun x _ => ?_)
      rw [sL_ml]
      refine sL_cong (fun y _ => ?_)
      by_cases h1 : fxN w l x = a
      · by_cases h2 : gxN w l x = v
        · by_cases h3 : fxN w l y = b
          · by_cases h4 : gxN w l y = u
            · simp [h1, h2, h3, h4]
            · have : ¬ u = gxN w l y := fun z => h4 z.symm
              simp [h4, this]
          · have : ¬ b = fxN w l y := fun z => h3 z.symm
            simp [h3, this]
        · have : ¬ v = gxN w l x := fun z => h2 z.symm
          simp [h2, this]
      · have : ¬ a = fxN w l x := fun z => h1 z.symm
        simp [h1, this]
    rw [pS_cong (fun u v _ _ => e2 u v), pS_sum]
    refine sL_cong (fun x _ => ?_)
    rw [pS_sum]
    refine sL_cong (fun y _ => ?_)
    by_cases h : a = fxN w l x ∧ b = fxN w l y
    · rw [if_pos h, ← pS_d _ _ _ hT]
      refine pS_cong (fun u v _ _ => ?_)
      rw [if_pos h]
    · rw [if_neg h, pS_cong (d := fun _ _ => 0) (fun u v _ _ => by rw [if_neg h]), pS_0]
  rw [pS_cong (fun a b _ _ => e1 a b), pS_sum]
  unfold xS2
  refine sL_cong (fun x _ => ?_)
  rw [pS_sum]
  refine sL_cong (fun y _ => ?_)
  rw [pS_d _ _ _ hS]
  cases h : bf S (fxN w l x) (fxN w l y) <;> simp [h]
/-! the pairs of an order, as a list -/
def prs : List Nat → List (Nat × Nat)
  | [] => []
  | x :: r => r.map (fun y => (x, y)) ++ prs r
def sP (c : Nat → Nat → Int32) : List (Nat × Nat) → Int32
  | [] => 0
  | q :: r => c q.1 q.2 + sP c r
theorem sP_app (c : Nat → Nat → Int32) : ∀ a b, sP c (a ++ b) = sP c a + sP c b
  | [], b => by rw [List.nil_append, sP, Int32.zero_add]
  | x :: r, b => by rw [List.cons_append, sP, sP, sP_app c r b, Int32.add_assoc]
theorem sP_map (c : Nat → Nat → Int32) (x : Nat) : ∀ r, sP c (r.map (fun y => (x, y))) = sL (fun y => c x y) r
  | [] => rfl
  | y :: r => by rw [List.map_cons, sP, sL, sP_map c x r]
theorem pS_prs (c : Nat → Nat → Int32) : ∀ L, pS c L = sP c (prs L)
  | [] => rfl
  | x :: r => by rw [pS, prs, sP_app, sP_map, pS_prs c r]
theorem sP_perm {c : Nat → Nat → Int32} {L M : List (Nat × Nat)} (h : L.Perm M) : sP c L = sP c M := by
  induction h with
  | nil => rfl
  | cons x _ ih => rw [sP, sP, ih]
  | swap x y r => rw [sP, sP, sP, sP]; grind
  | trans _ _ i1 i2 => rw [i1, i2]
theorem sP_mapf (c : Nat → Nat → Int32) (p : Nat × Nat → Bool) : ∀ L, sP c (L.map (fun q => if p q then q else (q.2, q.1))) = sP (fun a b => if p (a, b) then c a b else c b a) L
  | [] => rfl
  | q :: r => by
    rw [List.map_cons, sP, sP, sP_mapf c p r]
    cases h : p q <;> simp [h]
def ckE (n k : Nat) : Bool := (prs (ordK n k)).isPerm ((prs (List.range n)).map (fun q => if decide (psQ n k q.1 < psQ n k q.2) then q else (q.2, q.1))) && (List.range n).all (fun p => (List.range n).all (fun r => bf (ordK n k) p r == decide (psQ n k p < psQ n k r))) && (ordK n k).isPerm (List.range n)
set_option maxRecDepth 100000 in
theorem ckE_all : (List.range 6).all (fun n => (List.range (facN n)).all (fun k => ckE n k)) = true := by decide +kernel
theorem ckE_of {n k : Nat} (hn : n < 6) (hk : k < facN n) : ckE n k = true := List.all_eq_true.mp (List.all_eq_true.mp ckE_all n (List.mem_range.mpr hn)) k (List.mem_range.mpr hk)
theorem or_bf {n k p r : Nat} (hn : n < 6) (hk : k < facN n) (hp : p < n) (hr : r < n) : bf (ordK n k) p r = decide (psQ n k p < psQ n k r) := by
  have h := ckE_of hn hk
  unfold ckE at h
  simp only [Bool.and_eq_true] at h
  exact beq_iff_eq.mp (List.all_eq_true.mp (List.all_eq_true.mp h.1.2 p (List.mem_range.mpr hp)) r (List.mem_range.mpr hr))
theorem or_perm {n k : Nat} (hn : n < 6) (hk : k < facN n) : (ordK n k).Perm (List.range n) := by
  have h := ckE_of hn hk
  unfold ckE at h
  simp only [Bool.and_eq_true] at h
  exact List.isPerm_iff.mp h.2
theorem or_nd {n k : Nat} (hn : n < 6) (hk : k < facN n) : (ordK n k).Nodup := (or_perm hn hk).symm.nodup List.nodup_range
theorem or_mem {n k x : Nat} (hn : n < 6) (hk : k < facN n) : x ∈ ordK n k ↔ x < n := by
  rw [(or_perm hn hk).mem_iff, List.mem_range]
/-- the pairs of an order by the numbers of its things -/
theorem or_pS (c : Nat → Nat → Int32) {n k : Nat} (hn : n < 6) (hk : k < facN n) : pS c (ordK n k) = pS (fun a b => if psQ n k a < psQ n k b then c a b else c b a) (List.range n) := by
  have h := ckE_of hn hk
  unfold ckE at h
  simp only [Bool.and_eq_true] at h
  rw [pS_prs, pS_prs, sP_perm (List.isPerm_iff.mp h.1.1), sP_mapf]
  simp only [decide_eq_true_eq]
/-! numbers -/
def sN (f : Nat → Nat) : List Nat → Nat
  | [] => 0
  | x :: r => f x + sN f r
def pN (c : Nat → Nat → Nat) : List Nat → Nat
  | [] => 0
  | x :: r => sN (fun y => c x y) r + pN c r
theorem sN_i (f : Nat → Nat) : ∀ L, sL (fun x => nI (f x)) L = nI (sN f L)
  | [] => rfl
  | x :: r => by rw [sL, sN, sN_i f r, nI_add]
theorem pN_i (f : Nat → Nat → Nat) : ∀ L, pS (fun x y => nI (f x y)) L = nI (pN f L)
  | [] => rfl
  | x :: r => by rw [pS, pN, pN_i f r, sN_i, nI_add]
theorem sN_le {f : Nat → Nat} {c : Nat} : ∀ {L : List Nat}, (∀ x, x ∈ L → f x ≤ c) → sN f L ≤ L.length * c
  | [], _ => Nat.zero_le _
  | x :: r, h => by
    have h1 := sN_le (L := r) (fun y hy => h y (List.mem_cons_of_mem _ hy))
    have h2 := h x List.mem_cons_self
    rw [sN, List.length_cons, Nat.succ_mul]
    omega
theorem sN_cong {f g : Nat → Nat} : ∀ {L : List Nat}, (∀ x, x ∈ L → f x = g x) → sN f L = sN g L
  | [], _ => rfl
  | x :: r, h => by rw [sN, sN, h x List.mem_cons_self, sN_cong (L := r) (fun y hy => h y (List.mem_cons_of_mem _ hy))]
theorem pN_cong {f g : Nat → Nat → Nat} : ∀ {L : List Nat}, (∀ x y, x ∈ L → y ∈ L → f x y = g x y) → pN f L = pN g L
  | [], _ => rfl
  | x :: r, h => by rw [pN, pN, pN_cong (L := r) (fun a b ha hb => h a b (List.mem_cons_of_mem _ ha) (List.mem_cons_of_mem _ hb)), sN_cong (fun y hy => h x y List.mem_cons_self (List.mem_cons_of_mem _ hy))]
theorem pN_le {f : Nat → Nat → Nat} {c : Nat} : ∀ {L : List Nat}, (∀ x y, x ∈ L → y ∈ L → f x y ≤ c) → pN f L ≤ L.length * (L.length * c)
  | [], _ => Nat.zero_le _
  | x :: r, h => by
    have h1 := pN_le (L := r) (fun a b ha hb => h a b (List.mem_cons_of_mem _ ha) (List.mem_cons_of_mem _ hb))
    have h2 : sN (fun y => f x y) r ≤ r.length * c := sN_le (L := r) (fun y hy => h x y List.mem_cons_self (List.mem_cons_of_mem _ hy))
    rw [pN, List.length_cons]
    have h3 : r.length * c ≤ (r.length + 1) * c := Nat.mul_le_mul_right c (by omega)
    have h4 : r.length * (r.length * c) ≤ r.length * ((r.length + 1) * c) := Nat.mul_le_mul_left _ h3
    rw [Nat.succ_mul]
    omega
