/-! sums over the pairs of an order -/
def sL (f : Nat → Int32) : List Nat → Int32
  | [] => 0
  | x :: r => f x + sL f r
def pS (c : Nat → Nat → Int32) : List Nat → Int32
  | [] => 0
  | x :: r => sL (fun y => c x y) r + pS c r
theorem sL_app (f : Nat → Int32) : ∀ a b, sL f (a ++ b) = sL f a + sL f b
  | [], b => by rw [List.nil_append, sL, Int32.zero_add]
  | x :: r, b => by rw [List.cons_append, sL, sL, sL_app f r b, Int32.add_assoc]
theorem sL_swap (f : Nat → Int32) (a b : List Nat) (x y : Nat) : sL f (a ++ x :: y :: b) = sL f (a ++ y :: x :: b) := by
  rw [sL_app, sL_app]
  congr 1
  show f x + (f y + sL f b) = f y + (f x + sL f b)
  rw [← Int32.add_assoc, ← Int32.add_assoc, Int32.add_comm (f x)]
/-- two neighbours are exchanged: only their own pair is anew -/
theorem pS_swap (c : Nat → Nat → Int32) : ∀ (a b : List Nat) (x y : Nat), pS c (a ++ y :: x :: b) = pS c (a ++ x :: y :: b) + (c y x - c x y)
  | [], b, x, y => by
    show (c y x + sL (fun z => c y z) b) + (sL (fun z => c x z) b + pS c b) = ((c x y + sL (fun z => c x z) b) + (sL (fun z => c y z) b + pS c b)) + (c y x - c x y)
    generalize sL (fun z => c y z) b = p
    generalize sL (fun z => c x z) b = q
    generalize pS c b = r
    generalize c y x = u
    generalize c x y = v
    apply Int32.toBitVec_inj.1
    show (u.toBitVec + p.toBitVec) + (q.toBitVec + r.toBitVec) = ((v.toBitVec + q.toBitVec) + (p.toBitVec + r.toBitVec)) + (u.toBitVec - v.toBitVec)
    generalize u.toBitVec = u
    generalize v.toBitVec = v
    generalize p.toBitVec = p
    generalize q.toBitVec = q
    generalize r.toBitVec = r
    rw [BitVec.sub_eq_add_neg]
    have e : ((v + q) + (p + r)) + (u + -v) = ((u + p) + (q + r)) + (v + -v) := by ac_rfl
    rw [e, BitVec.add_right_neg, BitVec.add_zero]
  | z :: a, b, x, y => by
    show sL (fun t => c z t) (a ++ y :: x :: b) + pS c (a ++ y :: x :: b) = (sL (fun t => c z t) (a ++ x :: y :: b) + pS c (a ++ x :: y :: b)) + (c y x - c x y)
    rw [pS_swap c a b x y, sL_swap, Int32.add_assoc]
theorem pS_cong {c d : Nat → Nat → Int32} : ∀ {L : List Nat}, (∀ x y, x ∈ L → y ∈ L → c x y = d x y) → pS c L = pS d L
  | [], _ => rfl
  | x :: r, h => by
    have hs : ∀ (q : List Nat), (∀ y, y ∈ q → c x y = d x y) → sL (fun y => c x y) q = sL (fun y => d x y) q := by
      intro q
      induction q with
      | nil => intro _; rfl
      | cons z s ih => intro hq; rw [sL, sL, hq z List.mem_cons_self, ih (fun y hy => hq y (List.mem_cons_of_mem _ hy))]
    rw [pS, pS, pS_cong (L := r) (fun a b ha hb => h a b (List.mem_cons_of_mem _ ha) (List.mem_cons_of_mem _ hb)), hs r (fun y hy => h x y List.mem_cons_self (List.mem_cons_of_mem _ hy))]
theorem sL_add (f g : Nat → Int32) : ∀ L, sL (fun x => f x + g x) L = sL f L + sL g L
  | [] => by rw [sL, sL, sL]; rfl
  | x :: r => by
    rw [sL, sL, sL, sL_add f g r]
    ac_rfl
theorem pS_add (c d : Nat → Nat → Int32) : ∀ L, pS (fun x y => c x y + d x y) L = pS c L + pS d L
  | [] => by rw [pS, pS, pS]; rfl
  | x :: r => by
    rw [pS, pS, pS, pS_add c d r, sL_add]
    ac_rfl
/-- over the numbers in their order -/
theorem sL_range (f : Nat → Int32) : ∀ n, sL f (List.range n) = sm32 f n
  | 0 => rfl
  | n + 1 => by
    rw [List.range_succ, sL_app, sL_range f n]
    show sm32 f n + (f n + 0) = _
    rw [Int32.add_zero]
    rfl
