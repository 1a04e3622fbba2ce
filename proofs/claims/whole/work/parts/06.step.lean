/-! straight stretches: a function of the abstract state, and its soundness -/
/-- an instruction: its kind, two numbers, a slot, a constant -/
abbrev AI : Type := Nat × Nat × Nat × Nat × Int32
abbrev CF : Type := List (Option AV) × List AV × HI
def lnA : Nat → Nat
  | 1 => 2 | 2 => 3 | 4 => 2 | 6 => 2 | 8 => 2 | 10 => 2 | 11 => 3 | 23 => 3 | 24 => 3 | 25 => 3 | 26 => 2 | _ => 1
def clsN (ci : Nat) : vw_C := vwCl.getD ci ("", fun _ => ("", "", "", false), 0)
def fldw (own : String) (idx ci k : Nat) : Cond := .fieldLink own idx ((clsN ci).2.1 k).1 ((clsN ci).2.1 k).2.1 ((clsN ci).2.1 k).2.2.1
def ok1 (cc : ByteArray) (own : String) (pc : Nat) (a : AI) : Prop := match a with
  | (0, _, _, _, v) => ∃ n, decode cc pc = .ok (.iconst n, 1) ∧ Int32.ofInt n = v
  | (1, _, _, _, v) => ∃ n, decode cc pc = .ok (.bipush n, 2) ∧ (Int8.ofInt n).toInt32 = v
  | (2, _, _, _, v) => ∃ n, decode cc pc = .ok (.sipush n, 3) ∧ (Int16.ofInt n).toInt32 = v
  | (3, i, _, _, _) => ∃ k : Fin 4, decode cc pc = .ok (.iload_n k, 1) ∧ (k : Nat) = i
  | (4, i, _, _, _) => decode cc pc = .ok (.iload i, 2)
  | (5, i, _, _, _) => ∃ k : Fin 4, decode cc pc = .ok (.aload_n k, 1) ∧ (k : Nat) = i
  | (6, i, _, _, _) => decode cc pc = .ok (.aload i, 2)
  | (7, i, _, _, _) => ∃ k : Fin 4, decode cc pc = .ok (.istore_n k, 1) ∧ (k : Nat) = i
  | (8, i, _, _, _) => decode cc pc = .ok (.istore i, 2)
  | (9, i, _, _, _) => ∃ k : Fin 4, decode cc pc = .ok (.astore_n k, 1) ∧ (k : Nat) = i
  | (10, i, _, _, _) => decode cc pc = .ok (.astore i, 2)
  | (11, i, _, _, v) => ∃ n, decode cc pc = .ok (.iinc i n, 3) ∧ Int32.ofInt n = v
  | (12, _, _, _, _) => decode cc pc = .ok (.iadd, 1)
  | (13, _, _, _, _) => decode cc pc = .ok (.isub, 1)
  | (14, _, _, _, _) => decode cc pc = .ok (.imul, 1)
  | (15, _, _, _, _) => decode cc pc = .ok (.iand, 1)
  | (16, _, _, _, _) => decode cc pc = .ok (.ior, 1)
  | (17, _, _, _, _) => decode cc pc = .ok (.ixor, 1)
  | (18, _, _, _, _) => decode cc pc = .ok (.ishl, 1)
  | (19, _, _, _, _) => decode cc pc = .ok (.ishr, 1)
  | (20, _, _, _, _) => decode cc pc = .ok (.dup, 1)
  | (21, _, _, _, _) => decode cc pc = .ok (.pop, 1)
  | (22, _, _, _, _) => decode cc pc = .ok (.dup2, 1)
  | (23, idx, ci, k, _) => decode cc pc = .ok (.getfield idx, 3) ∧ fldw own idx ci k ∈ gtbl
  | (24, idx, ci, k, _) => decode cc pc = .ok (.putfield idx, 3) ∧ fldw own idx ci k ∈ gtbl ∧ ((clsN ci).2.1 k).2.2.2 = false ∧ ((clsN ci).2.1 k).2.2.1 = "I"
  | (25, idx, ci, k, _) => decode cc pc = .ok (.putfield idx, 3) ∧ fldw own idx ci k ∈ gtbl ∧ ((clsN ci).2.1 k).2.2.2 = false ∧ ((clsN ci).2.1 k).2.2.1 = "Z"
  | (26, idx, _, _, v) => decode cc pc = .ok (.ldc idx, 2) ∧ Cond.constant own idx v ∈ gtbl
  | (27, _, _, _, _) => decode cc pc = .ok (.arraylength, 1)
  | _ => False
def ps (sh : SH) (a : AI) (c : CF) : Option CF := match a, c with
  | (0, _, _, _, v), (ls, st, I) => some (ls, .inl v :: st, I)
  | (1, _, _, _, v), (ls, st, I) => some (ls, .inl v :: st, I)
  | (2, _, _, _, v), (ls, st, I) => some (ls, .inl v :: st, I)
  | (3, i, _, _, _), (ls, st, I) => match ls[i]? with | some (some (.inl x)) => some (ls, .inl x :: st, I) | _ => none
  | (4, i, _, _, _), (ls, st, I) => match ls[i]? with | some (some (.inl x)) => some (ls, .inl x :: st, I) | _ => none
  | (5, i, _, _, _), (ls, st, I) => match ls[i]? with | some (some (.inr (some x))) => some (ls, .inr (some x) :: st, I) | _ => none
  | (6, i, _, _, _), (ls, st, I) => match ls[i]? with | some (some (.inr (some x))) => some (ls, .inr (some x) :: st, I) | _ => none
  | (7, i, _, _, _), (ls, .inl x :: st, I) => if i < ls.length then some (ls.set i (some (.inl x)), st, I) else none
  | (8, i, _, _, _), (ls, .inl x :: st, I) => if i < ls.length then some (ls.set i (some (.inl x)), st, I) else none
  | (9, i, _, _, _), (ls, .inr (some x) :: st, I) => if i < ls.length then some (ls.set i (some (.inr (some x))), st, I) else none
  | (10, i, _, _, _), (ls, .inr (some x) :: st, I) => if i < ls.length then some (ls.set i (some (.inr (some x))), st, I) else none
  | (11, i, _, _, v), (ls, st, I) => match ls[i]? with | some (some (.inl x)) => some (ls.set i (some (.inl (x + v))), st, I) | _ => none
  | (12, _, _, _, _), (ls, .inl y :: .inl x :: st, I) => some (ls, .inl (x + y) :: st, I)
  | (13, _, _, _, _), (ls, .inl y :: .inl x :: st, I) => some (ls, .inl (x - y) :: st, I)
  | (14, _, _, _, _), (ls, .inl y :: .inl x :: st, I) => some (ls, .inl (x * y) :: st, I)
  | (15, _, _, _, _), (ls, .inl y :: .inl x :: st, I) => some (ls, .inl (x &&& y) :: st, I)
  | (16, _, _, _, _), (ls, .inl y :: .inl x :: st, I) => some (ls, .inl (x ||| y) :: st, I)
  | (17, _, _, _, _), (ls, .inl y :: .inl x :: st, I) => some (ls, .inl (x ^^^ y) :: st, I)
  | (18, _, _, _, _), (ls, .inl y :: .inl x :: st, I) => some (ls, .inl (x <<< (y &&& 31)) :: st, I)
  | (19, _, _, _, _), (ls, .inl y :: .inl x :: st, I) => some (ls, .inl (x >>> (y &&& 31)) :: st, I)
  | (20, _, _, _, _), (ls, x :: st, I) => some (ls, x :: x :: st, I)
  | (21, _, _, _, _), (ls, _ :: st, I) => some (ls, st, I)
  | (22, _, _, _, _), (ls, x :: y :: st, I) => some (ls, x :: y :: x :: y :: st, I)
  | (23, _, ci, k, _), (ls, .inr (some q) :: st, I) => match sh[q]? with
    | some (.inr (.inr (cj, fs))) => if cj = ci ∧ k < (clsN ci).2.2 then (match fs[k]? with | some none => some (ls, .inl (I q k) :: st, I) | some (some r) => some (ls, .inr r :: st, I) | none => none) else none
    | _ => none
  | (24, _, ci, k, _), (ls, .inl x :: .inr (some q) :: st, I) => match sh[q]? with
    | some (.inr (.inr (cj, fs))) => if cj = ci ∧ k < (clsN ci).2.2 then (match fs[k]? with | some none => some (ls, st, up2 I q k x) | _ => none) else none
    | _ => none
  | (25, _, ci, k, _), (ls, .inl x :: .inr (some q) :: st, I) => match sh[q]? with
    | some (.inr (.inr (cj, fs))) => if cj = ci ∧ k < (clsN ci).2.2 ∧ (x = 0 ∨ x = 1) then (match fs[k]? with | some none => some (ls, st, up2 I q k x) | _ => none) else none
    | _ => none
  | (26, _, _, _, v), (ls, st, I) => some (ls, .inl v :: st, I)
  | (27, _, _, _, _), (ls, .inr (some q) :: st, I) => match sh[q]? with | some (.inl n) => some (ls, .inl (Int32.ofNat n) :: st, I) | _ => none
  | _, _ => none
/-- the layout words of the classes, and what va_put asks of a class's fields -/
theorem cls_in {ci : Nat} {q : vw_C} (h : vwCl[ci]? = some q) : ∀ w ∈ u_ws q.1 q.2.1 q.2.2, w ∈ gtbl := by
  have key : ∀ q ∈ vwCl, ∀ w ∈ u_ws q.1 q.2.1 q.2.2, w ∈ lw_tbl ∧ goodWord w = true := by decide +kernel
  intro w hw
  exact gt_of (key q (List.mem_of_getElem? h) w hw).1 (key q (List.mem_of_getElem? h) w hw).2
def tyN (ci : Nat) : Nat → FieldType := match ci with
  | 0 => tyX0 | 1 => tyX1 | 2 => tyX2 | 3 => tyX3 | 4 => tyX4 | 5 => tyX5 | 6 => tyX6 | 7 => tyX7 | 8 => tyX8 | _ => tyX9
theorem cls_n {ci : Nat} {q : vw_C} (h : vwCl[ci]? = some q) : clsN ci = q := by
  unfold clsN
  rw [List.getD_eq_getElem?_getD, h]
  rfl
theorem cls_ty {ci : Nat} {q : vw_C} (h : vwCl[ci]? = some q) : (∀ k, k < q.2.2 → parseFieldDescriptor (q.2.1 k).2.2.1 = some (tyN ci k)) ∧ (∀ a, a < q.2.2 → ∀ b, b < q.2.2 → a ≠ b → (q.2.1 a).2.1 ≠ (q.2.1 b).2.1) := by
  match ci, h with
  | 0, h => cases h; exact ⟨tyX0_ok, nmX0⟩
  | 1, h => cases h; exact ⟨tyX1_ok, nmX1⟩
  | 2, h => cases h; exact ⟨tyX2_ok, nmX2⟩
  | 3, h => cases h; exact ⟨tyX3_ok, nmX3⟩
  | 4, h => cases h; exact ⟨tyX4_ok, nmX4⟩
  | 5, h => cases h; exact ⟨tyX5_ok, nmX5⟩
  | 6, h => cases h; exact ⟨tyX6_ok, nmX6⟩
  | 7, h => cases h; exact ⟨tyX7_ok, nmX7⟩
  | 8, h => cases h; exact ⟨tyX8_ok, nmX8⟩
  | 9, h => cases h; exact ⟨tyX9_ok, nmX9⟩
  | n + 10, h => simp [vwCl] at h
