/-! the answers, purely; the class's calls that ask for no order -/
def aFl (w : Nat → Int32) (a b x : Int32) : Int32 := if zPP a b = 0 ∨ a = b ∨ x < 0 ∨ 99 < x then 0 else if x = 0 ∨ 0 < w (10 * a.toNatClampNeg + b.toNatClampNeg) ∨ flC w < 16 then 1 else 0
def nFl (s : StT) (a b x : Int32) : StT := if aFl s.1 a b x = 0 then s else (upd s.1 (10 * a.toNatClampNeg + b.toNatClampNeg) x, s.2)
def nCl (s : StT) : StT := (fun j => if j < 100 then 0 else s.1 j, s.2)
def aSe (g p : Int32) : Int32 := if g < 0 ∨ 50 < g ∨ p < 0 ∨ ¬ p ≤ 9999 then 0 else 1
def nSe (s : StT) (g p : Int32) : StT := if aSe g p = 0 then s else (s.1, s.2.1, s.2.2.1, g, p, s.2.2.2.2.2)
noncomputable def aAb (s : StT) (a : Int32) : Int32 := if a = 0 then nI (flC s.1) else if a = 1 then sm32 s.1 100 else if a = 2 then sm32 (fun j => if trB s.1 j then 1 else 0) 100 else if a = 3 then sm32 (fun j => if trB s.1 j then s.1 j else 0) 100 else if a = 4 then nI (nLay s.1) else if a = 5 then s.2.2.2.1 else if a = 6 then s.2.2.2.2.1 else if a = 7 then s.2.2.2.2.2 else -1
def aWd (w : Nat → Int32) (a b : Int32) : Int32 := if zPP a b = 0 then 0 else w (10 * a.toNatClampNeg + b.toNatClampNeg)
noncomputable def aTu (w : Nat → Int32) (a b : Int32) : Int32 := if aWd w a b = 0 then -1 else if trB w (10 * a.toNatClampNeg + b.toNatClampNeg) then 1 else 0
noncomputable def aRo (w : Nat → Int32) (i : Int32) : Int32 := if i < 0 ∨ nI (nU w) ≤ i then -1 else nI (rowF w i.toNatClampNeg)
noncomputable def aLa (w : Nat → Int32) (p : Int32) : Int32 := if zP p = 0 then -1 else if usd w p.toNatClampNeg then nI (layF w p.toNatClampNeg) else -1
def aRe (w : Nat → Int32) (p : Int32) : Int32 := if zP p = 0 then -10000 else sm32 (fun a => w (10 * a + p.toNatClampNeg)) 10 - sm32 (fun b => w (10 * p.toNatClampNeg + b)) 10
noncomputable def aIs (w : Nat → Int32) (l : Int32) : Int32 := if l < 0 ∨ nI (nLay w) ≤ l then -1 else nI (nIt w l.toNatClampNeg)
def xP (I A : HI) (v : Int32) (s : StT) (r : Int32) (I' A' : HI) : Prop := r = v ∧ xSt I' A' = s ∧ XOK I' A' ∧ HiS I A I' A'
def xV (I A : HI) (s : StT) (I' A' : HI) : Prop := xSt I' A' = s ∧ XOK I' A' ∧ HiS I A I' A'
theorem HiS.rf {I A : HI} : HiS I A I A := fun _ _ => ⟨rfl, rfl⟩
theorem HiS.tr {I A I1 A1 I2 A2 : HI} (h : HiS I A I1 A1) (h2 : HiS I1 A1 I2 A2) : HiS I A I2 A2 := fun k hk => ⟨(h2 k hk).1.trans (h k hk).1, (h2 k hk).2.trans (h k hk).2⟩
theorem HiS.upI {I A I1 A1 : HI} {k j : Nat} {v : Int32} (h : HiS I A I1 A1) (hk : k < 96) : HiS I A (up2 I1 k j v) A1 := fun q hq => ⟨by rw [up2_off (by omega)]; exact (h q hq).1, (h q hq).2⟩
theorem HiS.upA {I A I1 A1 : HI} {k j : Nat} {v : Int32} (h : HiS I A I1 A1) (hk : k < 96) : HiS I A I1 (up2 A1 k j v) := fun q hq => ⟨(h q hq).1, by rw [up2_off (by omega)]; exact (h q hq).2⟩
theorem fil_off {A : HI} {k n q : Nat} {v : Int32} (h : q ≠ k) : filA A k n v q = A q := by
  funext b
  unfold filA
  rw [if_neg (fun z => h z.1)]
theorem HiS.fil {I A I1 A1 : HI} {k n : Nat} {v : Int32} (h : HiS I A I1 A1) (hk : k < 96) : HiS I A I1 (filA A1 k n v) := fun q hq => ⟨(h q hq).1, by rw [fil_off (by omega)]; exact (h q hq).2⟩
theorem flC_le (w : Nat → Int32) : flC w ≤ 100 := fb_ct_le _ _
theorem btw_a {A : HI} {a b : Int32} : btw A a b = aWd (A 2) a b := by
  unfold btw aWd
  by_cases h : zPP a b = 0
  · rw [if_pos h, if_pos h]
  · obtain ⟨i, j, hi, hj, rfl, rfl⟩ := zPP_ne h
    rw [if_neg h, if_neg h, ix_a, cl_n (by omega), cl_n (by omega), cl_n (by omega)]
theorem tkF_a {I A : HI} {a b x : Int32} (h : I 1 1 = nI (flC (A 2))) : tkF I A a b x = aFl (A 2) a b x := by
  unfold tkF aFl
  by_cases z : zPP a b = 0 ∨ a = b ∨ x < 0 ∨ 99 < x
  · rw [if_pos z, if_pos z]
  · rw [if_neg z, if_neg z]
    have hz : ¬ zPP a b = 0 := fun q => z (Or.inl q)
    have e : btw A a b = A 2 (10 * a.toNatClampNeg + b.toNatClampNeg) := by
      rw [btw_a]
      unfold aWd
      rw [if_neg hz]
    have e2 : I 1 1 < 16 ↔ flC (A 2) < 16 := by
      rw [h]
      exact nI_ltI (b := 16) (by have := flC_le (A 2); omega) (by decide)
    rw [e]
    simp only [e2]
theorem flC_upd (w : Nat → Int32) {j : Nat} (hj : j < 100) (x : Int32) : flC (upd w j x) + (if 0 < w j then 1 else 0) = flC w + (if 0 < x then 1 else 0) := by
  have h := fb_ct_upd (fun j => decide (0 < w j)) (decide (0 < x)) hj
  have e : (fun k => if k = j then decide (0 < x) else decide (0 < w k)) = fun k => decide (0 < upd w j x k) := by
    funext k
    unfold upd
    split <;> rfl
  rw [e] at h
  unfold flC
  simpa only [decide_eq_true_eq] using h
theorem aFl_ne {w : Nat → Int32} {a b x : Int32} (h : ¬ aFl w a b x = 0) : ∃ i j, i < 10 ∧ j < 10 ∧ i ≠ j ∧ a = nI i ∧ b = nI j ∧ 0 ≤ x ∧ x ≤ 99 ∧ (x = 0 ∨ 0 < w (10 * i + j) ∨ flC w < 16) := by
  unfold aFl at h
  by_cases z : zPP a b = 0 ∨ a = b ∨ x < 0 ∨ 99 < x
  · rw [if_pos z] at h
    exact absurd rfl h
  · rw [if_neg z] at h
    have hz : ¬ zPP a b = 0 := fun q => z (Or.inl q)
    obtain ⟨i, j, hi, hj, rfl, rfl⟩ := zPP_ne hz
    rw [cl_n (by omega), cl_n (by omega)] at h
    refine ⟨i, j, hi, hj, fun e => z (Or.inr (Or.inl (by rw [e]))), rfl, rfl, nlt (fun q => z (Or.inr (Or.inr (Or.inl q)))), nlt (fun q => z (Or.inr (Or.inr (Or.inr q)))), ?_⟩
    by_cases y : x = 0 ∨ 0 < w (10 * i + j) ∨ flC w < 16
    · exact y
    · rw [if_neg y] at h
      exact absurd rfl h
theorem FO_upd {w : Nat → Int32} (hF : FO w) {i j : Nat} {x : Int32} (hi : i < 10) (hj : j < 10) (hij : i ≠ j) (hx0 : 0 ≤ x) (hx : x ≤ 99) (hc : x = 0 ∨ 0 < w (10 * i + j) ∨ flC w < 16) : FO (upd w (10 * i + j) x) := by
  obtain ⟨h1, h2, h3⟩ := hF
  refine ⟨fun k hk => ?_, fun k hk => ?_, ?_⟩
  · unfold upd
    split
    · exact ⟨hx0, hx⟩
    · exact h1 k hk
  · unfold upd
    rw [if_neg (by omega)]
    exact h2 k hk
  · have h := flC_upd w (show 10 * i + j < 100 by omega) x
    have h3 : flC w ≤ 16 := h3
    show flC (upd w (10 * i + j) x) ≤ 16
    rcases hc with z | z | z
    · rw [z, if_neg (show ¬ (0 : Int32) < 0 by decide)] at h
      rw [z]
      split at h <;> omega
    · rw [if_pos z] at h
      split at h <;> omega
    · split at h <;> split at h <;> omega
set_option maxHeartbeats 4000000 in
theorem c_X8_flow (l : Launch) (D : va_G) (ads : AD) (I A : HI) (a1 a2 a3 : Int32) (hp : XOK I A) : Ct l yX8_flow cX8_flow 4 (some .boolean) 4 89 D ads shp [.inr (some 0), .inl a1, .inl a2, .inl a3] I A (qJ (xP I A (aFl (xSt I A).1 a1 a2 a3) (nFl (xSt I A) a1 a2 a3))) := by
  have hX := hp
  obtain ⟨hS, hN, hC, hR, hO⟩ := hp
  have et : tkF I A a1 a2 a3 = aFl (A 2) a1 a2 a3 := tkF_a hN
  have aF1 : ¬ aFl (A 2) a1 a2 a3 = 0 → aFl (A 2) a1 a2 a3 = 1 := by
    unfold aFl
    split
    · intro h; exact absurd rfl h
    · split
      · intro _; rfl
      · intro h; exact absurd rfl h
  refine k_X8_flow l D ads I A a1 a2 a3 _ ?_
  rw [et]
  refine ⟨fun h => ⟨fun h2 => ?_, fun h2 => ?_⟩, fun h => qJ_i ⟨h.symm, ?_, hX, HiS.rf⟩⟩
  · refine qJ_i ⟨(aF1 h).symm, ?_, hX, HiS.rf⟩
    obtain ⟨i, j, hi, hj, hij, rfl, rfl, -⟩ := aFl_ne h
    have h' : ¬ aFl (xSt I A).1 (nI i) (nI j) a3 = 0 := h
    unfold nFl
    rw [if_neg h']
    have e : upd (A 2) (10 * (nI i).toNatClampNeg + (nI j).toNatClampNeg) a3 = A 2 := by
      rw [cl_n (by omega), cl_n (by omega)]
      refine fa_upd_same ?_
      rw [btw_n hi hj] at h2
      exact h2
    show xSt I A = (upd (A 2) _ a3, _)
    rw [e]
    rfl
  · obtain ⟨i, j, hi, hj, hij, rfl, rfl, hx0, hx, hc⟩ := aFl_ne h
    have eA : putA I A (nI i) (nI j) a3 = up2 A 2 (10 * i + j) a3 := by
      unfold putA
      rw [et, if_neg h, ix_a, cl_n (by omega)]
    have eI : putI I A (nI i) (nI j) a3 = up2 I 1 1 (nI (flC (upd (A 2) (10 * i + j) a3))) := by
      unfold putI
      rw [et, if_neg h, btw_n hi hj, hN]
      congr 1
      have hf := flC_upd (A 2) (show 10 * i + j < 100 by omega) a3
      unfold one
      by_cases z1 : 0 < a3 <;> by_cases z2 : 0 < A 2 (10 * i + j)
      · rw [if_pos z1, if_pos z2] at hf ⊢
        rw [show flC (upd (A 2) (10 * i + j) a3) = flC (A 2) by omega]
        grind
      · rw [if_pos z1, if_neg z2] at hf ⊢
        rw [show flC (upd (A 2) (10 * i + j) a3) = flC (A 2) + 1 by omega, ← nI_1]
        grind
      · rw [if_neg z1, if_pos z2] at hf ⊢
        have e9 := nI_pred (flC (upd (A 2) (10 * i + j) a3))
        rw [show flC (upd (A 2) (10 * i + j) a3) + 1 = flC (A 2) by omega] at e9
        rw [← e9]
        grind
      · rw [if_neg z1, if_neg z2] at hf ⊢
        rw [show flC (upd (A 2) (10 * i + j) a3) = flC (A 2) by omega]
        grind
    have hFu := FO_upd hS.1 hi hj hij hx0 hx hc
    rw [eA, eI]
    have e2 : up2 A 2 (10 * i + j) a3 2 = upd (A 2) (10 * i + j) a3 := up2_row
    have eS : xSt (up2 (up2 (up2 I 1 1 (nI (flC (upd (A 2) (10 * i + j) a3)))) 0 8 0) 0 9 0) (up2 A 2 (10 * i + j) a3) = (upd (A 2) (10 * i + j) a3, (xSt I A).2) := by
      unfold xSt
      rw [e2, up2_off (by decide), up2_off (by decide), up2_j (by decide), up2_j (by decide), up2_k (by decide), up2_j (by decide), up2_j (by decide), up2_k (by decide), up2_k (by decide), up2_k (by decide), up2_k (by decide)]
    refine qJ_i ⟨(aF1 h).symm, ?_, ⟨?_, ?_, ?_, Or.inl ?_, Or.inl up2_s⟩, ((HiS.rf.upI (by decide)).upI (by decide)).upI (by decide) |>.upA (by decide)⟩
    · have h' : ¬ aFl (xSt I A).1 (nI i) (nI j) a3 = 0 := h
      rw [eS]
      unfold nFl
      rw [if_neg h', cl_n (by omega), cl_n (by omega)]
      rfl
    · rw [eS]
      exact ⟨hFu, hS.2⟩
    · rw [up2_k (by decide), up2_k (by decide), up2_s, e2]
    · exact hC.off (fun n hn => ⟨by rw [up2_k (by omega), up2_k (by omega), up2_k (by omega)], by rw [up2_k (by omega), up2_k (by omega), up2_k (by omega)]⟩) (fun k h1 h2 => up2_off (by omega))
    · rw [up2_j (by decide), up2_s]
  · have h' : aFl (xSt I A).1 a1 a2 a3 = 0 := h
    unfold nFl
    rw [if_pos h']
theorem nCl_ok {s : StT} (h : SOK s) : SOK (nCl s) ∧ flC (nCl s).1 = 0 := by
  have hz : flC (nCl s).1 = 0 := fb_ct_zero.mpr (fun k hk => by
    show decide (0 < (if k < 100 then (0 : Int32) else s.1 k)) = false
    rw [if_pos hk]
    decide)
  refine ⟨⟨⟨fun j hj => ?_, fun a ha => ?_, ?_⟩, h.2⟩, hz⟩
  · show 0 ≤ (if j < 100 then (0 : Int32) else s.1 j) ∧ (if j < 100 then (0 : Int32) else s.1 j) ≤ 99
    rw [if_pos hj]
    decide
  · show (if 11 * a < 100 then (0 : Int32) else s.1 (11 * a)) = 0
    rw [if_pos (by omega)]
  · have hz : fb_ct (fun j => decide (0 < (nCl s).1 j)) 100 = 0 := hz
    rw [hz]
    decide
theorem c_X8_clear (l : Launch) (D : va_G) (ads : AD) (I A : HI) (hp : XOK I A) : Ct l yX8_clear cX8_clear 1 none 2 43 D ads shp [.inr (some 0)] I A (qV (xV I A (nCl (xSt I A)))) := by
  obtain ⟨hS, hN, hC, hR, hO⟩ := hp
  have e2 : filA A 2 100 0 2 = (nCl (xSt I A)).1 := by
    funext b
    show (if 2 = 2 ∧ b < 100 then (0 : Int32) else A 2 b) = if b < 100 then 0 else A 2 b
    by_cases z : b < 100
    · rw [if_pos ⟨rfl, z⟩, if_pos z]
    · rw [if_neg (fun q => z q.2), if_neg z]
  have eS : xSt (up2 (up2 (up2 I 1 1 0) 0 8 0) 0 9 0) (filA A 2 100 0) = nCl (xSt I A) := by
    unfold xSt at e2 ⊢
    rw [e2, fil_off (by decide), fil_off (by decide), up2_j (by decide), up2_j (by decide), up2_k (by decide), up2_j (by decide), up2_j (by decide), up2_k (by decide), up2_k (by decide), up2_k (by decide), up2_k (by decide)]
    rfl
  obtain ⟨n1, n2⟩ := nCl_ok hS
  refine k_X8_clear l D ads I A _ (qV_i ⟨eS, ⟨by rw [eS]; exact n1, ?_, ?_, Or.inl ?_, Or.inl up2_s⟩, (((HiS.rf.upI (by decide)).upI (by decide)).upI (by decide)).fil (by decide)⟩)
  · rw [up2_k (by decide), up2_k (by decide), up2_s, e2, n2]
    rfl
  · exact hC.off (fun n hn => ⟨by rw [up2_k (by omega), up2_k (by omega), up2_k (by omega)], by rw [up2_k (by omega), up2_k (by omega), up2_k (by omega)]⟩) (fun k h1 h2 => fil_off (by omega))
  · rw [up2_j (by decide), up2_s]
/-- the cells of the ranking and of the search stay -/
theorem XOK_up {I A I' A' : HI} (h : XOK I A) (hS : SOK (xSt I' A')) (hI : ∀ k, k ≠ 0 → k ≠ 26 → I' k = I k) (hA : ∀ k, k ≠ 27 → k ≠ 28 → A' k = A k) (h8 : I' 0 8 = I 0 8) (h9 : I' 0 9 = 0 ∨ (I' 0 9 = I 0 9 ∧ I' 0 7 = I 0 7 ∧ A' 27 = A 27 ∧ A' 28 = A 28)) : XOK I' A' := by
  obtain ⟨-, hN, hC, hR, hO⟩ := h
  have e2 : A' 2 = A 2 := hA 2 (by decide) (by decide)
  refine ⟨hS, ?_, ?_, ?_, ?_⟩
  · rw [hI 1 (by decide) (by decide), e2]
    exact hN
  · exact hC.off (fun n hn => ⟨by rw [hI _ (by omega) (by omega)], by rw [hI _ (by omega) (by omega)]⟩) (fun k h1 h2 => hA k (by omega) (by omega))
  · rw [h8]
    refine hR.imp id (fun ⟨z, r1, r2⟩ => ⟨z, ?_, ?_⟩)
    · rw [e2]
      exact r1.off (hI 3 (by decide) (by decide)) (hA _ (by decide) (by decide)) (hA _ (by decide) (by decide)) (hA _ (by decide) (by decide)) (hA _ (by decide) (by decide))
    · rw [e2]
      exact r2.off (fun k hk => hA _ (by omega) (by omega))
  · rcases h9 with z | ⟨z, z7, z27, z28⟩
    · exact Or.inl z
    · rw [z, h8]
      refine hO.imp id (fun ⟨y, y8, d, o⟩ => ⟨y, y8, ?_, ?_⟩)
      · rw [e2]
        exact d
      · have e7 : prQ I' = prQ I := by
          show (I' 0 7).toNatClampNeg = (I 0 7).toNatClampNeg
          rw [z7]
        rw [e2, z27, z28, e7]
        exact o.off (hI 29 (by decide) (by decide)) (hA 67 (by decide) (by decide))
theorem c_X8_set (l : Launch) (D : va_G) (ads : AD) (I A : HI) (a1 a2 : Int32) (hp : XOK I A) : Ct l yX8_set cX8_set 3 (some .boolean) 0 0 D ads shp [.inr (some 0), .inl a1, .inl a2] I A (qJ (xP I A (aSe a1 a2) (nSe (xSt I A) a1 a2))) := by
  have no : (a1 < 0 ∨ 50 < a1 ∨ a2 < 0 ∨ ¬ a2 ≤ 9999) → qJ (xP I A (aSe a1 a2) (nSe (xSt I A) a1 a2)) (some (.inl 0)) I A := by
    intro h
    have e : aSe a1 a2 = 0 := if_pos h
    refine qJ_i ⟨e.symm, ?_, hp, HiS.rf⟩
    unfold nSe
    rw [if_pos e]
  refine k_X8_set l D ads I A a1 a2 _ ⟨fun h => no (Or.inl h), fun h => ⟨fun h2 => no (Or.inr (Or.inl h2)), fun h2 => ⟨fun h3 => no (Or.inr (Or.inr (Or.inl h3))), fun h3 => ⟨fun h4 => ?_, fun h4 => no (Or.inr (Or.inr (Or.inr h4)))⟩⟩⟩⟩
  have e : aSe a1 a2 = 1 := if_neg (fun z => by
    rcases z with z | z | z | z
    · exact h z
    · exact h2 z
    · exact h3 z
    · exact z h4)
  obtain ⟨q, q1, rfl⟩ := nI_of h3
  have hq : q ≤ 9999 := (nI_leI (b := 9999) q1 (by decide)).mp h4
  have nS : ∀ {I' : HI}, I' 0 6 = a1 → I' 0 7 = nI q → I' 26 2 = I 26 2 → xSt I' A = nSe (xSt I A) a1 (nI q) := by
    intro I' e6 e7 e26
    unfold nSe
    rw [if_neg (by rw [e]; decide)]
    unfold xSt
    rw [e6, e7, e26]
  have oS : SOK (nSe (xSt I A) a1 (nI q)) := by
    unfold nSe
    rw [if_neg (by rw [e]; decide)]
    exact ⟨hp.1.1, hp.1.2.1, ⟨q, hq, rfl⟩, hp.1.2.2.2⟩
  refine ⟨fun h5 => ?_, fun h5 => ?_⟩
  · have e5 := nS (I' := up2 (up2 I 0 6 a1) 0 7 (nI q)) (by rw [up2_j (by decide), up2_s]) up2_s (by rw [up2_k (by decide), up2_k (by decide)])
    refine qJ_i ⟨e.symm, e5, XOK_up hp (by rw [e5]; exact oS) (fun k h1 h2 => by rw [up2_off h1, up2_off h1]) (fun k _ _ => rfl) (by rw [up2_j (by decide), up2_j (by decide)]) (Or.inr ⟨by rw [up2_j (by decide), up2_j (by decide)], by rw [up2_s]; exact h5.symm, rfl, rfl⟩), (HiS.rf.upI (by decide)).upI (by decide)⟩
  · have e5 := nS (I' := up2 (up2 (up2 I 0 9 0) 0 6 a1) 0 7 (nI q)) (by rw [up2_j (by decide), up2_s]) up2_s (by rw [up2_k (by decide), up2_k (by decide), up2_k (by decide)])
    refine qJ_i ⟨e.symm, e5, XOK_up hp (by rw [e5]; exact oS) (fun k h1 h2 => by rw [up2_off h1, up2_off h1, up2_off h1]) (fun k _ _ => rfl) (by rw [up2_j (by decide), up2_j (by decide), up2_j (by decide)]) (Or.inl (by rw [up2_j (by decide), up2_j (by decide), up2_s])), ((HiS.rf.upI (by decide)).upI (by decide)).upI (by decide)⟩
theorem int_ne {a c : Int32} {lo hi : Int} (h : a.toInt < lo ∨ hi < a.toInt) (hc : lo ≤ c.toInt ∧ c.toInt ≤ hi) : ¬ a = c := fun e => by
  rw [e] at h
  omega
theorem xSt_1 {I A I' A' : HI} (h : xSt I' A' = xSt I A) : A' 2 = (xSt I A).1 := (xSt_2 h).1
theorem c_X8_about (l : Launch) (D : va_G) (ads : AD) (I A : HI) (a1 : Int32) (hp : XOK I A) : Ct l yX8_about cX8_about 2 (some .int) 5 110 D ads shp [.inr (some 0), .inl a1] I A (qJ (xP I A (aAb (xSt I A) a1) (xSt I A))) := by
  have same : ∀ v, v = aAb (xSt I A) a1 → qJ (xP I A (aAb (xSt I A) a1) (xSt I A)) (some (.inl v)) I A := fun v h => qJ_i ⟨h, rfl, hp, HiS.rf⟩
  have fr : ∀ {I' A' : HI} (v : Int32), frR I A I' A' → v = aAb (xSt I A) a1 → qJ (xP I A (aAb (xSt I A) a1) (xSt I A)) (some (.inl v)) I' A' := fun v h e => qJ_i ⟨e, h.2.2.1, h.1, h.2.2.2⟩
  refine k_X8_about l D ads I A a1 _ (c_X8_freshRanking l D ads) ⟨fun e => same _ ?_, fun e => same _ ?_, fun e => ⟨hp, fun I4 A4 h4 => fr _ h4 ?_⟩, fun e => ⟨hp, fun I4 A4 h4 => fr _ h4 ?_⟩, fun e => ⟨hp, fun I4 A4 h4 => fr _ h4 ?_⟩, fun e => same _ ?_, fun e => same _ ?_, fun e => ⟨hp.1.2.2.2.1, fun h => same _ ?_, fun h => same _ ?_⟩, fun hz => same _ ?_⟩
  · unfold aAb
    rw [if_pos e]
    exact hp.2.1
  · subst e
    unfold aAb
    rw [if_neg (by decide), if_pos rfl]
    rfl
  · subst e
    have r := (h4.1.rk h4.2.1).1.2.2.2.2.2.2.1
    rw [r, xSt_1 h4.2.2.1]
    unfold aAb
    rw [if_neg (by decide), if_neg (by decide), if_pos rfl]
  · subst e
    have r := (h4.1.rk h4.2.1).1.2.2.2.2.2.2.2
    rw [r, xSt_1 h4.2.2.1]
    unfold aAb
    rw [if_neg (by decide), if_neg (by decide), if_neg (by decide), if_pos rfl]
  · subst e
    have r := (h4.1.rk h4.2.1).1.2.2.2.2.2.1
    rw [r, xSt_1 h4.2.2.1]
    unfold aAb
    rw [if_neg (by decide), if_neg (by decide), if_neg (by decide), if_neg (by decide), if_pos rfl]
  · subst e
    unfold aAb
    rw [if_neg (by decide), if_neg (by decide), if_neg (by decide), if_neg (by decide), if_neg (by decide), if_pos rfl]
    rfl
  · subst e
    unfold aAb
    rw [if_neg (by decide), if_neg (by decide), if_neg (by decide), if_neg (by decide), if_neg (by decide), if_neg (by decide), if_pos rfl]
    rfl
  · subst e
    unfold aAb
    rw [if_neg (by decide), if_neg (by decide), if_neg (by decide), if_neg (by decide), if_neg (by decide), if_neg (by decide), if_neg (by decide), if_pos rfl]
    exact h.symm
  · subst e
    unfold aAb
    rw [if_neg (by decide), if_neg (by decide), if_neg (by decide), if_neg (by decide), if_neg (by decide), if_neg (by decide), if_neg (by decide), if_pos rfl]
    rcases hp.1.2.2.2.1 with z | z
    · exact absurd z h
    · exact z.symm
  · unfold aAb
    rw [if_neg (int_ne hz (by decide)), if_neg (int_ne hz (by decide)), if_neg (int_ne hz (by decide)), if_neg (int_ne hz (by decide)), if_neg (int_ne hz (by decide)), if_neg (int_ne hz (by decide)), if_neg (int_ne hz (by decide)), if_neg (int_ne hz (by decide))]
theorem c_X8_width (l : Launch) (D : va_G) (ads : AD) (I A : HI) (a1 a2 : Int32) (hp : XOK I A) : Ct l yX8_width cX8_width 3 (some .int) 2 43 D ads shp [.inr (some 0), .inl a1, .inl a2] I A (qJ (xP I A (aWd (xSt I A).1 a1 a2) (xSt I A))) :=
  k_X8_width l D ads I A a1 a2 _ (qJ_i ⟨btw_a, rfl, hp, HiS.rf⟩)
theorem aWd_ne {w : Nat → Int32} {a b : Int32} (h : ¬ aWd w a b = 0) : ∃ i j, i < 10 ∧ j < 10 ∧ a = nI i ∧ b = nI j ∧ aWd w a b = w (10 * i + j) := by
  unfold aWd at h ⊢
  by_cases z : zPP a b = 0
  · rw [if_pos z] at h
    exact absurd rfl h
  · obtain ⟨i, j, hi, hj, rfl, rfl⟩ := zPP_ne z
    rw [if_neg z, cl_n (by omega), cl_n (by omega)]
    exact ⟨i, j, hi, hj, rfl, rfl, rfl⟩
theorem FO.ne {w : Nat → Int32} (h : FO w) {j : Nat} (hj : j < 100) : ¬ w j = 0 ↔ 0 < w j := by
  constructor
  · intro z
    rcases Decidable.em (0 < w j) with q | q
    · exact q
    · exact absurd (h.npos hj q) z
  · intro z e
    rw [e] at z
    exact absurd z (by decide)
/-- whether a flow is turned, by the spots -/
theorem trn_is {w sp : Nat → Int32} (hF : FO w) (hs : ∀ p, p < 10 → usd w p = true → sp p = nI (posF w p)) {a b : Nat} (ha : a < 10) (hb : b < 10) (hw : 0 < w (10 * a + b)) : trnI sp (nI a) (nI b) = if trB w (10 * a + b) then 1 else 0 := by
  obtain ⟨d1, d2⟩ := dm10 (a := a) hb
  obtain ⟨u1, u2⟩ := usd_of (show 10 * a + b < 100 by omega) hw
  rw [d1] at u1
  rw [d2] at u2
  have p1 := (pos_is ha u1).1
  have p2 := (pos_is hb u2).1
  have hn := nU_le w
  unfold trnI trB
  rw [cl_n (by omega), cl_n (by omega), hs a ha u1, hs b hb u2, d1, d2, decide_eq_true hw, Bool.true_and]
  by_cases z : posF w b < posF w a
  · rw [if_pos (nI_lt z (by omega)), decide_eq_true z, if_pos rfl]
  · rw [if_neg (fun q => z ((nI_ltI (by omega) (by omega)).mp q)), decide_eq_false z, if_neg (by decide)]
theorem RankOK.sp {w : Nat → Int32} {I A : HI} (h : RankOK w I A) : ∀ p, p < 10 → usd w p = true → A 10 p = nI (posF w p) := fun p hp hu => by
  rw [h.2.2.1 p hp, if_pos hu]
theorem c_X8_turned (l : Launch) (D : va_G) (ads : AD) (I A : HI) (a1 a2 : Int32) (hp : XOK I A) : Ct l yX8_turned cX8_turned 3 (some .int) 5 110 D ads shp [.inr (some 0), .inl a1, .inl a2] I A (qJ (xP I A (aTu (xSt I A).1 a1 a2) (xSt I A))) := by
  refine k_X8_turned l D ads I A a1 a2 _ (c_X8_freshRanking l D ads) ?_
  rw [btw_a]
  refine ⟨fun h => ⟨hp, fun I3 A3 h3 => ?_⟩, fun h => qJ_i ⟨?_, rfl, hp, HiS.rf⟩⟩
  · have h' : ¬ aWd (xSt I A).1 a1 a2 = 0 := h
    obtain ⟨i, j, hi, hj, rfl, rfl, ew⟩ := aWd_ne h
    rw [ew] at h
    have hF : FO (A 2) := hp.1.1
    have hw := (hF.ne (show 10 * i + j < 100 by omega)).mp h
    have r := (h3.1.rk h3.2.1).1
    have e2 := (xSt_2 h3.2.2.1).1
    rw [e2] at r
    have et : aTu (xSt I A).1 (nI i) (nI j) = if trB (A 2) (10 * i + j) then 1 else 0 := by
      unfold aTu
      rw [if_neg h', cl_n (by omega), cl_n (by omega)]
      rfl
    rw [trn_is hF r.sp hi hj hw]
    refine ⟨⟨vp_in_nI hi (by decide), vp_in_nI hj (by decide)⟩, fun z => qJ_i ⟨?_, h3.2.2.1, h3.1, h3.2.2.2⟩, fun z => qJ_i ⟨?_, h3.2.2.1, h3.1, h3.2.2.2⟩⟩
    · rw [et]
      exact z.symm
    · rw [et]
      split at z
      · rename_i q
        rw [if_pos q]
      · exact absurd rfl z
  · have h' : aWd (xSt I A).1 a1 a2 = 0 := h
    unfold aTu
    rw [if_pos h']
theorem c_X8_row (l : Launch) (D : va_G) (ads : AD) (I A : HI) (a1 : Int32) (hp : XOK I A) : Ct l yX8_row cX8_row 2 (some .int) 5 110 D ads shp [.inr (some 0), .inl a1] I A (qJ (xP I A (aRo (xSt I A).1 a1) (xSt I A))) := by
  refine k_X8_row l D ads I A a1 _ (c_X8_freshRanking l D ads) ⟨hp, fun I2 A2 h2 => ?_⟩
  have r := (h2.1.rk h2.2.1).1
  rw [(xSt_2 h2.2.2.1).1] at r
  have hn := nU_le (A 2)
  refine ⟨by rw [r.1]; exact nI_le (b := 10) hn (by decide), qJ_i ⟨?_, h2.2.2.1, h2.1, h2.2.2.2⟩⟩
  show plI I2 A2 a1 = aRo (A 2) a1
  unfold plI aRo
  rw [r.1]
  by_cases z : a1 < 0 ∨ nI (nU (A 2)) ≤ a1
  · rw [if_pos z, if_pos z]
  · rw [if_neg z, if_neg z]
    obtain ⟨i, i1, rfl⟩ := nI_of (fun q => z (Or.inl q))
    have hi : i < nU (A 2) := (nI_ltI i1 (by omega)).mp (nle (fun q => z (Or.inr q)))
    rw [cl_n i1]
    exact r.2.1 i hi
theorem c_X8_layer (l : Launch) (D : va_G) (ads : AD) (I A : HI) (a1 : Int32) (hp : XOK I A) : Ct l yX8_layer cX8_layer 2 (some .int) 5 110 D ads shp [.inr (some 0), .inl a1] I A (qJ (xP I A (aLa (xSt I A).1 a1) (xSt I A))) := by
  refine k_X8_layer l D ads I A a1 _ (c_X8_freshRanking l D ads) ⟨fun h => qJ_i ⟨(if_pos h).symm, rfl, hp, HiS.rf⟩, fun h => ⟨hp, fun I2 A2 h2 => ?_⟩⟩
  have r := (h2.1.rk h2.2.1).1
  rw [(xSt_2 h2.2.2.1).1] at r
  obtain ⟨p, p1, rfl⟩ := zP_ne h
  refine ⟨vp_in_nI p1 (by decide), qJ_i ⟨?_, h2.2.2.1, h2.1, h2.2.2.2⟩⟩
  unfold aLa
  rw [if_neg h, cl_n (by omega)]
  exact r.2.2.2.1 p p1
theorem c_X8_rest (l : Launch) (D : va_G) (ads : AD) (I A : HI) (a1 : Int32) (hp : XOK I A) : Ct l yX8_rest cX8_rest 2 (some .int) 3 66 D ads shp [.inr (some 0), .inl a1] I A (qJ (xP I A (aRe (xSt I A).1 a1) (xSt I A))) := by
  refine k_X8_rest l D ads I A a1 _ ⟨fun h => qJ_i ⟨by unfold aRe; rw [if_pos h], rfl, hp, HiS.rf⟩, fun h => qJ_i ⟨?_, rfl, hp, HiS.rf⟩⟩
  unfold aRe
  rw [if_neg h]
  obtain ⟨p, p1, rfl⟩ := zP_ne h
  rw [cl_n (show p < 2 ^ 31 by omega), sm32_cong (f := fun a => btw A (nI a) (nI p)) (g := fun a => (xSt I A).1 (10 * a + p)) (fun a ha => btw_n ha p1), sm32_cong (f := fun b => btw A (nI p) (nI b)) (g := fun b => (xSt I A).1 (10 * p + b)) (fun a ha => btw_n p1 ha)]
theorem c_X8_items (l : Launch) (D : va_G) (ads : AD) (I A : HI) (a1 : Int32) (hp : XOK I A) : Ct l yX8_items cX8_items 2 (some .int) 6 131 D ads shp [.inr (some 0), .inl a1] I A (qJ (xP I A (aIs (xSt I A).1 a1) (xSt I A))) := by
  refine k_X8_items l D ads I A a1 _ (c_X8_isLayer l D ads) ⟨hp, ?_⟩
  rintro r I2 A2 ⟨x2, e2, hi, hr⟩
  have h10 := nLay_le (A 2)
  refine ⟨fun h => qJ_i ⟨?_, e2, x2, hi⟩, fun h => ?_⟩
  · rcases hr with ⟨-, z⟩ | ⟨z, -⟩
    · exact (if_pos z).symm
    · rw [h] at z
      exact absurd z (by decide)
  · rcases hr with ⟨z, -⟩ | ⟨-, h8, k, hk, rfl⟩
    · exact absurd z h
    · have r2 := (x2.rk h8).2
      rw [(xSt_2 e2).1] at r2
      refine ⟨vp_in_nI (by omega) (by decide), qJ_i ⟨?_, e2, x2, hi⟩⟩
      show _ = aIs (A 2) (nI k)
      unfold aIs
      rw [if_neg (fun z => z.elim (nI_pos (by omega)) (nI_ge hk (by omega))), cl_n (by omega)]
      exact (r2.2 k (by omega)).1
