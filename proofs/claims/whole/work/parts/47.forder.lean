/-! RibbonSetterModel.findOrder -/
def foA : List Nat := [100, 101, 102, 103, 104, 105, 106, 107, 108, 109, 110, 111, 112, 113]
def foI : List (Nat × Nat) := [(96, 7), (96, 8), (96, 12), (96, 14), (96, 22), (96, 23), (96, 27), (96, 28)]
def foB : List Nat := [110, 111, 112, 113]
def foJ : List (Nat × Nat) := [(96, 22), (96, 23), (96, 27), (96, 28)]
def fOr0 (q : Nat) (I A : HI) : Prop := FO (A 97) ∧ mRo0 I A ∧ I 96 3 = nI q ∧ q ≤ 9999
def ChM (w kl ks : Nat → Int32) (q n : Nat) (A : HI) : Prop := ∀ l, l < n → A 113 l = nI (chS w kl ks q l)
def OrM (w kl ks : Nat → Int32) (q : Nat) (I A : HI) : Prop := StOK A ∧ I 96 27 = nI (vT w kl ks q) ∧ I 96 28 = wT w kl ks q ∧ ChM w kl ks q (nLay w) A
def fOr (q : Nat) (I A I' A' : HI) : Prop := offA foA A A' ∧ offI foI I I' ∧ ItOK (A 97) I' A' ∧ mRo0 I' A' ∧ (drw (A 97) (nLay (A 97)) = true → OrM (A 97) (A 98) (A 99) q I' A')
theorem ItOK.off {w : Nat → Int32} {I A I' A' : HI} (h : ItOK w I A) (hI : offI foJ I I') (hA : offA foB A A') : ItOK w I' A' := by
  obtain ⟨⟨m1, m2, m3, m4, m5, m6⟩, h2, h3, h4⟩ := h
  refine ⟨⟨?_, ?_, ?_, ?_, ?_, ?_⟩, h2.off (hA _ (by decide)) (hA _ (by decide)), ?_, ?_⟩
  · rw [hI _ _ (by decide)]; exact m1
  · rw [hI _ _ (by decide)]; exact m2
  · rw [hA _ (by decide)]; exact m3
  · rw [hA _ (by decide)]; exact m4
  · rw [hA _ (by decide)]; exact m5
  · rw [hI _ _ (by decide)]; exact m6
  · intro l hl
    rw [hA 106 (by decide), hA 107 (by decide), hA 108 (by decide), hA 109 (by decide)]
    exact h3 l hl
  · rw [hI _ _ (by decide)]; exact h4
theorem drw_dw {w : Nat → Int32} (hF : FO w) (h : drw w (nLay w) = true) : Dw w := by
  refine ⟨hF, fun l => ?_⟩
  rcases Nat.lt_or_ge l (nLay w) with z | z
  · have := of_decide_eq_true (List.all_eq_true.mp h l (List.mem_range.mpr z))
    show (itL w l).length < 6
    omega
  · show (itL w l).length < 6
    rw [itL_out hF z]
    decide
theorem ix_120 (l i : Nat) : 120 * nI l + nI i = nI (120 * l + i) := by rw [show (120 : Int32) = nI 120 from rfl, pk_mul, nI_add]
def LsM (w kl ks : Nat → Int32) (q m : Nat) (A : HI) : Prop := ∀ l, m ≤ l → l < nLay w → ∀ k, k < facN (nIt w l) → A 111 (120 * l + k) = nI (vV w kl ks q l k) ∧ A 112 (120 * l + k) = wV w kl ks q l k
def BsM (v : Nat → Nat) (wy : Nat → Int32) (T : Nat) (L W : Int32) : Prop := (T = 0 ∧ L = 1000000000) ∨ ∃ b, L = nI b ∧ b < 2 ^ 29 ∧ Bst v wy T b W
theorem far_lt {c : Nat} (h : c < 2 ^ 29) : nI c < 1000000000 := nI_lt (b := 1000000000) (by omega) (by decide)
theorem BsM_new {v : Nat → Nat} {wy : Nat → Int32} {T : Nat} {L W : Int32} (h : BsM v wy T L W) (hv : v T < 2 ^ 29) (hc : ¬ L ≤ nI (v T)) : BsM v wy (T + 1) (nI (v T)) (0 + wy T) := by
  refine Or.inr ⟨v T, rfl, hv, ?_⟩
  rw [Int32.zero_add]
  refine Bst_new (fun t ht => ?_)
  rcases h with ⟨h1, -⟩ | ⟨b, rfl, hb, hB⟩
  · omega
  · have := (nI_ltI (by omega) (by omega)).mp (nle hc)
    exact Nat.lt_of_lt_of_le this (hB.1.1 t ht)
theorem BsM_gt {v : Nat → Nat} {wy : Nat → Int32} {T : Nat} {L W : Int32} (h : BsM v wy T L W) (hv : v T < 2 ^ 29) (hc : L ≤ nI (v T)) (hn : ¬ nI (v T) = L) : BsM v wy (T + 1) L W := by
  rcases h with ⟨h1, rfl⟩ | ⟨b, rfl, hb, hB⟩
  · exact absurd (far_lt hv) (le_nlt hc)
  · have h1 := (nI_leI (by omega) (by omega)).mp hc
    refine Or.inr ⟨b, rfl, hb, Bst_gt hB ?_⟩
    rcases Nat.lt_or_eq_of_le h1 with z | z
    · exact z
    · exact absurd (by rw [z]) hn
theorem BsM_eq {v : Nat → Nat} {wy : Nat → Int32} {T : Nat} {L W : Int32} (h : BsM v wy T L W) (hv : v T < 2 ^ 29) (hn : nI (v T) = L) : BsM v wy (T + 1) L (W + wy T) := by
  rcases h with ⟨h1, rfl⟩ | ⟨b, rfl, hb, hB⟩
  · have := far_lt hv
    rw [hn] at this
    exact absurd this Int32.lt_irrefl
  · exact Or.inr ⟨b, rfl, hb, Bst_eq hB ((nI_eq (by omega) (by omega)).mp hn)⟩
theorem BsM_end {v : Nat → Nat} {wy : Nat → Int32} {T : Nat} {L W : Int32} (h : BsM v wy T L W) (hT : 0 < T) : L = nI (mnN v T) ∧ W = sm32 (fun t => if v t = mnN v T then wy t else 0) T := by
  rcases h with ⟨h1, -⟩ | ⟨b, rfl, hb, hB⟩
  · omega
  · have e := mnN_uniq hB.1
    refine ⟨by rw [e], ?_⟩
    rw [hB.2, e]
/-- the last layer: nothing crosses behind it -/
theorem kT_last {w : Nat → Int32} (hF : FO w) {l : Nat} (h : nLay w ≤ l + 1) : kT w 100 l = [] := by
  apply List.eq_nil_iff_forall_not_mem.mpr
  intro x hx
  obtain ⟨h1, h2⟩ := kT_mem hx
  obtain ⟨a1, a2, a3⟩ := lkB_is h2
  have := (st_lay hF h1 a1).2.1
  have := lay_lt (w := w) (show x % 10 < 10 by omega) this
  omega
theorem cN_last {w : Nat → Int32} (hF : FO w) {l k m : Nat} (h : nLay w ≤ l + 1) : cN w l k m = 0 ∧ xN w l k m = 0 := by
  unfold cN xN cNg
  rw [kT_last hF h]
  exact ⟨rfl, rfl⟩
theorem last_mn {w kl ks : Nat → Int32} {q m k : Nat} (hF : FO w) (h : m + 1 = nLay w) : mnN (vU w kl ks q m k) (facN (nIt w (m + 1))) = 0 ∧ sm32 (fun t => if vU w kl ks q m k t = mnN (vU w kl ks q m k) (facN (nIt w (m + 1))) then wV w kl ks q (m + 1) t else 0) (facN (nIt w (m + 1))) = 1 := by
  have e0 : nIt w (m + 1) = 0 := by rw [h]; exact nIt_out hF
  have eU : ∀ t, vU w kl ks q m k t = 0 := by
    intro t
    unfold vU
    rw [(cN_last hF (by omega)).1, vV_e (by omega)]
  have e1 : mnN (vU w kl ks q m k) (facN (nIt w (m + 1))) = 0 := by
    obtain ⟨-, p, -, h3⟩ := mnN_is (vU w kl ks q m k) (facN_pos (nIt w (m + 1)))
    rw [← h3, eU]
  refine ⟨e1, ?_⟩
  rw [e1, e0]
  show (0 : Int32) + (if vU w kl ks q m k 0 = 0 then wV w kl ks q (m + 1) 0 else 0) = 1
  rw [eU, if_pos rfl, wV_e (by omega)]
  rfl
theorem vT_0 {w kl ks : Nat → Int32} {q : Nat} (hF : FO w) (h : nLay w = 0) : vT w kl ks q = 0 ∧ wT w kl ks q = 1 := by
  have e0 : nIt w 0 = 0 := by
    have := nIt_out hF
    rw [h] at this
    exact this
  have e1 : vT w kl ks q = 0 := by
    unfold vT
    obtain ⟨-, p, -, h3⟩ := mnN_is (vV w kl ks q 0) (facN_pos (nIt w 0))
    rw [← h3, vV_e (by omega)]
  refine ⟨e1, ?_⟩
  unfold wT
  rw [e1, e0]
  show (0 : Int32) + (if vV w kl ks q 0 0 = 0 then wV w kl ks q 0 0 else 0) = 1
  rw [vV_e (by omega), if_pos rfl, wV_e (by omega)]
  rfl
noncomputable def vlN (w kl ks : Nat → Int32) (q : Nat) : Nat → Nat → Nat
  | 0, k => vV w kl ks q 0 k
  | j + 1, k => vU w kl ks q j (chS w kl ks q j) k
noncomputable def lfN (w kl ks : Nat → Int32) (q j : Nat) : Nat := mnN (vlN w kl ks q j) (facN (nIt w j))
theorem chS_is (w kl ks : Nat → Int32) (q j : Nat) : chS w kl ks q j < facN (nIt w j) ∧ vlN w kl ks q j (chS w kl ks q j) = lfN w kl ks q j ∧ ∀ k, k < chS w kl ks q j → vlN w kl ks q j k ≠ lfN w kl ks q j := by
  cases j with
  | zero => exact fsN_is _ (facN_pos _)
  | succ j => exact fsN_is _ (facN_pos _)
theorem vlN_le {w kl ks : Nat → Int32} {q : Nat} (hD : Dw w) (hq : q ≤ 9999) (j k : Nat) : vlN w kl ks q j k ≤ 31000000 := by
  cases j with
  | zero =>
    have := vV_le (kl := kl) (ks := ks) hD hq 0 k
    show vV w kl ks q 0 k ≤ _
    omega
  | succ j => exact vU_le hD hq j _ k
theorem nI_sub (a b : Nat) : nI (a + b) - nI b = nI a := by
  rw [← nI_add]
  grind
def FoS (I2 A2 I' A' : HI) : Prop := offI foJ I2 I' ∧ offA foB A2 A' ∧ StOK A' ∧ I' 96 22 = 1
def F33 (w kl ks : Nat → Int32) (q : Nat) (I2 A2 : HI) (x : Int32) (I' A' : HI) : Prop := FoS I2 A2 I' A' ∧ I' 96 27 = 0 ∧ I' 96 28 = 1 ∧ ∃ m, m ≤ nLay w ∧ x + 1 = nI m ∧ LsM w kl ks q m A'
def LsJ (w kl ks : Nat → Int32) (q m k : Nat) (A : HI) : Prop := ∀ j, j < k → A 111 (120 * m + j) = nI (vV w kl ks q m j) ∧ A 112 (120 * m + j) = wV w kl ks q m j
def F39 (w kl ks : Nat → Int32) (q : Nat) (I2 A2 : HI) (x1 x : Int32) (I' A' : HI) : Prop := FoS I2 A2 I' A' ∧ I' 96 27 = 0 ∧ I' 96 28 = 1 ∧ ∃ m k, m < nLay w ∧ x1 = nI m ∧ k ≤ facN (nIt w m) ∧ x = nI k ∧ LsM w kl ks q (m + 1) A' ∧ LsJ w kl ks q m k A'
def F87 (w : Nat → Int32) (x1 x3 x4 : Int32) : Prop := ∃ m, m < nLay w ∧ x1 = nI m ∧ ((m + 1 = nLay w ∧ x3 = 0 ∧ x4 = 1) ∨ (m + 1 < nLay w ∧ x3 = 1000000000))
def F90 (w kl ks : Nat → Int32) (q : Nat) (I2 A2 : HI) (x1 x2 x3 x4 x5 : Int32) (I' A' : HI) : Prop := FoS I2 A2 I' A' ∧ I' 96 27 = 0 ∧ I' 96 28 = 1 ∧ ∃ m k t, m < nLay w ∧ x1 = nI m ∧ k < facN (nIt w m) ∧ x2 = nI k ∧ x5 = nI t ∧ LsM w kl ks q (m + 1) A' ∧ LsJ w kl ks q m k A' ∧ ((m + 1 = nLay w ∧ x3 = 0 ∧ x4 = 1) ∨ (m + 1 < nLay w ∧ t ≤ facN (nIt w (m + 1)) ∧ BsM (vU w kl ks q m k) (wV w kl ks q (m + 1)) t x3 x4))
def F250 (w kl ks : Nat → Int32) (q : Nat) (I3 : HI) (x : Int32) (I' : HI) : Prop := offI [(96, 27), (96, 28)] I3 I' ∧ ∃ k, k ≤ facN (nIt w 0) ∧ x = nI k ∧ BsM (vV w kl ks q 0) (wV w kl ks q 0) k (I' 96 27) (I' 96 28)
def FoT (w kl ks : Nat → Int32) (q : Nat) (I2 A2 I' A' : HI) : Prop := FoS I2 A2 I' A' ∧ I' 96 27 = nI (vT w kl ks q) ∧ I' 96 28 = wT w kl ks q ∧ LsM w kl ks q 0 A'
def F333 (w kl ks : Nat → Int32) (q : Nat) (I2 A2 : HI) (x1 x2 : Int32) (I' A' : HI) : Prop := FoT w kl ks q I2 A2 I' A' ∧ ∃ j, j ≤ nLay w ∧ x2 = nI j ∧ (j < nLay w → x1 = nI (lfN w kl ks q j)) ∧ ChM w kl ks q j A'
def F343 (w kl ks : Nat → Int32) (q : Nat) (I2 A2 : HI) (x1 x2 x3 : Int32) (I' A' : HI) : Prop := FoT w kl ks q I2 A2 I' A' ∧ ∃ j k, j < nLay w ∧ x2 = nI j ∧ x1 = nI (lfN w kl ks q j) ∧ ChM w kl ks q j A' ∧ x3 = nI k ∧ k ≤ chS w kl ks q j
theorem LsM.off {w kl ks : Nat → Int32} {q m : Nat} {A A' : HI} (h : LsM w kl ks q m A) (h1 : A' 111 = A 111) (h2 : A' 112 = A 112) : LsM w kl ks q m A' := by
  intro l hl hl2 k hk
  rw [h1, h2]
  exact h l hl hl2 k hk
set_option maxHeartbeats 32000000 in
set_option maxRecDepth 4000 in
theorem c_X9_findOrder (q : Nat) (l : Launch) (D : va_G) (ads : AD) (I A : HI) (hp : fOr0 q I A) : Ct l yX9_findOrder cX9_findOrder 7 none 3 72 D ads shp [.inr (some 96)] I A (qV (fOr q I A)) := by
  obtain ⟨hF, hR, hPr, hq⟩ := hp
  obtain ⟨w, hw⟩ : ∃ w, w = A 97 := ⟨_, rfl⟩
  obtain ⟨kl, hkl⟩ : ∃ kl, kl = A 98 := ⟨_, rfl⟩
  obtain ⟨ks, hks⟩ : ∃ ks, ks = A 99 := ⟨_, rfl⟩
  have h10 := nLay_le w
  have c0 : (0 : Int32).toNatClampNeg = 0 := rfl
  refine k_X9_findOrder l D ads I A _ (c_X9_findItems l D ads) (c_X9_makeRows l D ads) (c_X9_factorial l D ads) (c_X9_crosses l D ads) (c_X9_moves l D ads)
    (fun I2 A2 _ _ x I' A' => F33 w kl ks q I2 A2 x I' A') (fun _ _ _ _ x _ _ => (x + 1).toNatClampNeg)
    (fun _ _ _ _ _ I3 _ x I' => F250 w kl ks q I3 x I') (fun _ _ _ _ _ _ _ x _ => 200 - x.toNatClampNeg)
    (fun I2 A2 _ _ _ _ _ _ _ x1 x2 I' A' => F333 w kl ks q I2 A2 x1 x2 I' A') (fun _ _ _ _ _ _ _ _ _ _ x2 _ _ => 200 - x2.toNatClampNeg)
    (fun I2 A2 _ _ _ _ _ _ _ x1 x2 _ _ x3 I' A' => F343 w kl ks q I2 A2 x1 x2 x3 I' A') (fun _ _ _ _ _ _ _ _ _ _ _ _ _ x3 _ _ => 200 - x3.toNatClampNeg)
    (fun I2 A2 _ _ x1 _ _ x I' A' => F39 w kl ks q I2 A2 x1 x I' A') (fun _ _ _ _ _ _ _ x _ _ => 200 - x.toNatClampNeg)
    (fun _ _ _ _ x1 _ _ _ _ _ x3 x4 => F87 w x1 x3 x4)
    (fun I2 A2 _ _ x1 _ _ x2 _ _ _ _ x3 x4 x5 I' A' => F90 w kl ks q I2 A2 x1 x2 x3 x4 x5 I' A') (fun _ _ _ _ _ _ _ _ _ _ _ _ _ _ x5 _ _ => 200 - x5.toNatClampNeg) ⟨hF, ?_⟩
  rintro I2 A2 ⟨o2, p2, it2⟩
  have r2 : mRo0 I2 A2 := by
    unfold mRo0 StOK StN at hR ⊢
    rw [p2 96 22 (by decide), o2 110 (by decide)]
    exact hR
  rw [← hw] at hF it2
  have oF : offA foA A A2 := o2.sub (by unfold foA; simp)
  have pF : offI foI I I2 := p2.sub (by unfold foI; simp)
  refine ⟨fun hd => ⟨r2, ?_⟩, fun hd => ?_⟩
  rotate_left
  · refine qV_i ⟨oF, pF, by rw [← hw]; exact it2, r2, fun h => ?_⟩
    rw [← hw] at h
    rw [it2.2.2.2, if_pos h] at hd
    exact absurd hd (by decide)
  have hdr : drw w (nLay w) = true := by
    rcases Bool.eq_false_or_eq_true (drw w (nLay w)) with z | z
    · exact z
    · rw [it2.2.2.2, if_neg (by rw [z]; decide)] at hd
      exact absurd rfl hd
  have hDw := drw_dw hF hdr
  rintro I4 A4 ⟨e4, o4, st4⟩
  -- what holds in every state of the loops
  have env : ∀ {I' A' : HI}, FoS I2 A2 I' A' → MdS w A' ∧ A' 97 = w ∧ A' 98 = kl ∧ A' 99 = ks ∧ I' 96 12 = nI (nLay w) ∧ I' 96 3 = nI q := by
    rintro I' A' ⟨a1, a2, a3, -⟩
    have it := it2.off a1 a2
    refine ⟨⟨hDw, it.2.1, it.2.2.1, a3⟩, ?_, ?_, ?_, it.1.2.2.2.2.2, ?_⟩
    · rw [a2 97 (by decide), o2 97 (by decide), hw]
    · rw [a2 98 (by decide), o2 98 (by decide), hkl]
    · rw [a2 99 (by decide), o2 99 (by decide), hks]
    · rw [a1 96 3 (by decide), p2 96 3 (by decide), hPr]
  have facl : ∀ {I' A' : HI}, FoS I2 A2 I' A' → ∀ j, j < 10 → vp_in (A' 104 j) 10 ∧ facI I' A' (A' 104 j) = nI (facN (nIt w j)) := by
    intro I' A' hS j hj
    have hn := hDw.2 j
    have e := ((env hS).1.2.1 j hj).1
    unfold facI
    rw [e, cl_n (show nIt w j < 2 ^ 31 by omega)]
    exact ⟨vp_in_nI (Nat.lt_of_lt_of_le (show (itL w j).length < 6 from hn) (by decide)) (by decide), rfl⟩
  have cross : ∀ {I' A' : HI}, FoS I2 A2 I' A' → ∀ {m k t : Nat}, m + 1 < nLay w → k < facN (nIt w m) → t < facN (nIt w (m + 1)) → crs0 I' A' (nI m) (nI k) (nI t) ∧ ∀ {r : Int32} {I9 A9 : HI}, crs I' A' (nI m) (nI k) (nI t) r I9 A9 → A9 = A' ∧ r = nI (cN w m k t) ∧ FoS I2 A2 I9 A9 ∧ I9 96 27 = I' 96 27 ∧ I9 96 28 = I' 96 28 := by
    intro I' A' hS m k t hm hk ht
    obtain ⟨hM, e97, -⟩ := env hS
    have f1 := (facN_le _ (hDw.2 m)).1
    have f2 := (facN_le _ (hDw.2 (m + 1))).1
    refine ⟨⟨by rw [e97]; exact hM, m, k, t, by omega, by rw [e97]; exact hk, by rw [e97]; exact ht, rfl, rfl, rfl⟩, ?_⟩
    rintro r I9 A9 ⟨rfl, e2, e3⟩
    rw [e97, cl_n (show m < 2 ^ 31 by omega), cl_n (show k < 2 ^ 31 by omega), cl_n (show t < 2 ^ 31 by omega)] at e2
    refine ⟨rfl, e2, ⟨?_, hS.2.1, hS.2.2.1, ?_⟩, ?_, ?_⟩
    · rw [e3]
      exact hS.1.up (by decide)
    · rw [e3, up2_j (by decide)]
      exact hS.2.2.2
    · rw [e3, up2_j (by decide)]
    · rw [e3, up2_j (by decide)]
  have movel : ∀ {I' A' : HI}, FoS I2 A2 I' A' → ∀ {m k : Nat}, m < nLay w → k < facN (nIt w m) → mov0 I' A' (nI m) (nI k) ∧ mov I' A' (nI m) (nI k) = nI (mN w kl ks m k) := by
    intro I' A' hS m k hm hk
    obtain ⟨hM, e97, e98, e99, -⟩ := env hS
    have f1 := (facN_le _ (hDw.2 m)).1
    refine ⟨⟨by rw [e97]; exact hM, m, k, by omega, by rw [e97]; exact hk, rfl, rfl⟩, ?_⟩
    unfold mov
    rw [e97, e98, e99, cl_n (show m < 2 ^ 31 by omega), cl_n (show k < 2 ^ 31 by omega)]
  have S4 : FoS I2 A2 (up2 (up2 I4 96 27 0) 96 28 1) A4 := by
    refine ⟨?_, o4.sub (by unfold foB; simp), st4, ?_⟩
    · rw [e4]
      exact ((offI.rf.up (by decide)).up (by decide)).up (by decide)
    · rw [up2_j (by decide), up2_j (by decide), e4, up2_s]
  refine ⟨⟨S4, by rw [up2_j (by decide), up2_s], up2_s, nLay w, Nat.le_refl _, by rw [(env S4).2.2.2.2.1]; grind, fun j h1 h2 => absurd h2 (by omega)⟩, ?_⟩
  rintro x1 I3 A3 ⟨S3, a27, a28, m, hm, ex, ls3⟩
  refine ⟨fun h => ?_, fun h => ?_⟩
  · -- the search is done
    have em : m = 0 := by
      rcases Nat.eq_zero_or_pos m with z | z
      · exact z
      · have e1 : x1 = nI (m - 1) := by
          have := nI_pred (m - 1)
          rw [show m - 1 + 1 = m by omega, ← ex] at this
          rw [← this]
          grind
        rw [e1] at h
        exact absurd h (nI_pos (by omega))
    subst em
    have oE : ∀ {I' A' : HI}, FoS I2 A2 I' A' → offA foA A A' ∧ offI foI I I' ∧ ItOK (A 97) I' A' ∧ mRo0 I' A' := by
      intro I' A' hS
      exact ⟨oF.tr (hS.2.1.sub (by unfold foA foB; simp)), pF.tr (hS.1.sub (by unfold foI foJ; simp)), by rw [← hw]; exact it2.off hS.1 hS.2.1, Or.inr ⟨hS.2.2.2, hS.2.2.1⟩⟩
    rw [(env S3).2.2.2.2.1, c0]
    refine ⟨fun hz => ?_, fun hz => ?_⟩
    rotate_left
    · have z : nLay w = 0 := by
        rcases Nat.eq_zero_or_pos (nLay w) with z | z
        · exact z
        · exact absurd hz (nI_ne0 z (by omega))
      obtain ⟨e1, e2, e3, e4'⟩ := oE S3
      refine qV_i ⟨e1, e2, e3, e4', fun _ => ?_⟩
      rw [← hw, ← hkl, ← hks]
      obtain ⟨v1, v2⟩ := vT_0 (kl := kl) (ks := ks) (q := q) hF z
      refine ⟨S3.2.2.1, by rw [a27, v1]; rfl, by rw [a28, v2], fun j hj => absurd hj (by omega)⟩
    have hN0 : 0 < nLay w := by
      rcases Nat.eq_zero_or_pos (nLay w) with z | z
      · rw [z] at hz
        exact absurd rfl hz
      · exact z
    refine ⟨⟨offI.rf.up (by decide), 0, Nat.zero_le _, rfl, Or.inl ⟨rfl, up2_s⟩⟩, ?_⟩
    rintro x I5 ⟨p5, k, hk, rfl, b5⟩
    have S5 : FoS I2 A2 I5 A3 := ⟨S3.1.tr (p5.sub (by unfold foJ; simp)), S3.2.1, S3.2.2.1, by rw [p5 96 22 (by decide)]; exact S3.2.2.2⟩
    have fc := facl S5 0 (by omega)
    have f1 := (facN_le _ (hDw.2 0)).1
    have f0 := facN_pos (nIt w 0)
    rw [fc.2]
    refine ⟨vp_in_nI (n := 0) (by decide) (by decide), fc.1, fun h2 => ?_, fun h2 => ?_⟩
    · have e := cn_eq rfl hk (by omega) h2
      subst e
      obtain ⟨b1, b2⟩ := BsM_end b5 f0
      refine ⟨⟨⟨S5, b1, b2, ls3⟩, 0, Nat.zero_le _, rfl, fun _ => b1, fun t ht => absurd ht (Nat.not_lt_zero _)⟩, ?_⟩
      rintro x1' x2 I6 A6 ⟨⟨S6, t27, t28, ls6⟩, j, hj, rfl, ex1, cm6⟩
      rw [(env S6).2.2.2.2.1]
      refine ⟨fun h3 => ?_, fun h3 => ?_⟩
      · have e := cn_eq rfl hj (by omega) h3
        subst e
        obtain ⟨e1, e2, e3, e4'⟩ := oE S6
        refine qV_i ⟨e1, e2, e3, e4', fun _ => ?_⟩
        rw [← hw, ← hkl, ← hks]
        exact ⟨S6.2.2.1, t27, t28, cm6⟩
      have hj2 := cn_lt rfl hj (by omega) h3
      have ex1 := ex1 hj2
      refine ⟨⟨⟨S6, t27, t28, ls6⟩, j, 0, hj2, rfl, ex1, cm6, rfl, Nat.zero_le _⟩, ?_⟩
      rintro x3 I7 A7 ⟨⟨S7, u27, u28, ls7⟩, j', k', hj', ej, ex1', cm7, rfl, hk'⟩
      have ej : j' = j := ((nI_eq (by omega) (by omega)).mp ej).symm
      subst ej
      have hn := hDw.2 j'
      have fj := (facN_le _ hn).1
      obtain ⟨s1, s2, s3⟩ := chS_is w kl ks q j'
      have clj : (nI j').toNatClampNeg = j' := cl_n (by omega)
      have e120 : 120 * nI j' + nI k' = nI (120 * j' + k') := ix_120 j' k'
      have cl120 : (nI (120 * j' + k')).toNatClampNeg = 120 * j' + k' := cl_n (by omega)
      have v120 : vp_in (nI (120 * j' + k')) 1200 := vp_in_nI (by omega) (by decide)
      have vj : vp_in (nI j') 10 := vp_in_nI (by omega) (by decide)
      rw [e120, cl120, clj]
      have tail : ∀ I9 A9, FoT w kl ks q I2 A2 I9 A9 → ChM w kl ks q j' A9 → k' = chS w kl ks q j' → (vp_in (nI j') 10 ∧ vp_in (nI (120 * j' + k')) 1200 ∧ mov0 I9 (up2 A9 113 j' (nI k')) (nI j') (nI k') ∧ F333 w kl ks q I2 A2 (up2 A9 113 j' (nI k') 111 (120 * j' + k') - I9 96 3 * mov I9 (up2 A9 113 j' (nI k')) (nI j') (nI k')) (nI j' + 1) I9 (up2 A9 113 j' (nI k')) ∧ 200 - (nI j' + 1).toNatClampNeg < 200 - j') := by
        rintro I9 A9 ⟨S9, w27, w28, ls9⟩ cm9 ek
        have S9' : FoS I2 A2 I9 (up2 A9 113 j' (nI k')) := by
          refine ⟨S9.1, S9.2.1.up (by decide), ?_, S9.2.2.2⟩
          unfold StOK StN
          rw [up2_off (by decide)]
          exact S9.2.2.1
        obtain ⟨v1, v2⟩ := movel S9' hj2 (show k' < facN (nIt w j') by omega)
        refine ⟨vj, v120, v1, ⟨⟨S9', w27, w28, ls9.off (up2_off (by decide)) (up2_off (by decide))⟩, j' + 1, hj2, nI_1 j', fun hl => ?_, fun t ht => ?_⟩, by rw [nI_1, cl_n (by omega)]; omega⟩
        · rw [v2, up2_off (by decide), (env S9).2.2.2.2.2, (ls9 j' (Nat.zero_le _) hj2 k' (by omega)).1, pk_mul, vV_s hj2, nI_sub, ek]
          rfl
        · rcases Nat.lt_succ_iff_lt_or_eq.mp ht with z | z
          · rw [up2_j (by omega)]
            exact cm9 t z
          · rw [z, up2_s, ek]
      have nxt : ∀ I9 A9, FoT w kl ks q I2 A2 I9 A9 → ChM w kl ks q j' A9 → k' ≠ chS w kl ks q j' → F343 w kl ks q I2 A2 x1' (nI j') (nI k' + 1) I9 A9 ∧ 200 - (nI k' + 1).toNatClampNeg < 200 - (nI k').toNatClampNeg := by
        intro I9 A9 hT cm9 hne
        exact ⟨⟨hT, j', k' + 1, hj2, rfl, ex1, cm9, nI_1 k', by omega⟩, cn_mu (by omega) (by decide)⟩
      have dec : ∀ {z : Int32}, z = nI (vlN w kl ks q j' k') → (z = x1' → k' = chS w kl ks q j') ∧ (¬ z = x1' → k' ≠ chS w kl ks q j') := by
        intro z hz9
        rw [hz9, ex1]
        have b1 := vlN_le (kl := kl) (ks := ks) hDw hq j' k'
        have b2 := vlN_le (kl := kl) (ks := ks) hDw hq j' (chS w kl ks q j')
        refine ⟨fun e => ?_, fun e z => e (by rw [z, s2])⟩
        have e := (nI_eq (by omega) (by rw [← s2]; omega)).mp e
        rcases Nat.lt_or_eq_of_le hk' with z | z
        · exact absurd e (s3 k' z)
        · exact z
      refine ⟨fun h4 => ?_, fun h4 => ?_⟩
      · have hj0 : 0 < j' := by
          rcases Nat.eq_zero_or_pos j' with z | z
          · rw [z] at h4
            exact absurd rfl h4
          · exact z
        obtain ⟨i, rfl⟩ : ∃ i, j' = i + 1 := ⟨j' - 1, by omega⟩
        rw [nI_pred, cl_n (show i < 2 ^ 31 by omega), cm7 i (by omega)]
        obtain ⟨g1, g2⟩ := cross S7 (m := i) (k := chS w kl ks q i) (t := k') hj2 (chS_lt _ _ _ _ _) (by omega)
        refine ⟨vp_in_nI (by omega) (by decide), g1, ?_⟩
        rintro r7 I9 A9 h9
        obtain ⟨rfl, er, S9, d27, d28⟩ := g2 h9
        have T9 : FoT w kl ks q I2 A2 I9 A9 := ⟨S9, by rw [d27]; exact u27, by rw [d28]; exact u28, ls7⟩
        have ev : r7 + A9 111 (120 * (i + 1) + k') = nI (vlN w kl ks q (i + 1) k') := by
          rw [er, (ls7 (i + 1) (Nat.zero_le _) hj2 k' (by omega)).1, nI_add]
          rfl
        exact ⟨v120, fun h5 => tail I9 A9 T9 cm7 ((dec ev).1 h5), fun h5 => nxt I9 A9 T9 cm7 ((dec ev).2 h5)⟩
      · have hj0 : j' = 0 := by
          rcases Nat.eq_zero_or_pos j' with z | z
          · exact z
          · exact absurd h4 (nI_ne0 z (by omega))
        have T9 : FoT w kl ks q I2 A2 I7 A7 := ⟨S7, u27, u28, ls7⟩
        have ev : 0 + A7 111 (120 * j' + k') = nI (vlN w kl ks q j' k') := by
          rw [Int32.zero_add, (ls7 j' (Nat.zero_le _) hj2 k' (by omega)).1, hj0]
          rfl
        exact ⟨v120, fun h5 => tail I7 A7 T9 cm7 ((dec ev).1 h5), fun h5 => nxt I7 A7 T9 cm7 ((dec ev).2 h5)⟩
    · have hk2 := cn_lt rfl hk (by omega) h2
      have clk : (nI k).toNatClampNeg = k := cl_n (by omega)
      have vk : vp_in (nI k) 1200 := vp_in_nI (by omega) (by decide)
      have hmu : 200 - (nI k + 1).toNatClampNeg < 200 - (nI k).toNatClampNeg := cn_mu (by omega) (by decide)
      obtain ⟨g1, g2⟩ := ls3 0 (Nat.zero_le _) hN0 k hk2
      rw [Nat.mul_zero, Nat.zero_add] at g1 g2
      have hvb : vV w kl ks q 0 k < 2 ^ 29 := by
        have := vV_le (kl := kl) (ks := ks) hDw hq 0 k
        omega
      rw [clk] at hmu ⊢
      rw [g1, g2]
      refine ⟨vk, fun h3 => ⟨vk, fun h4 => ⟨⟨p5, k + 1, hk2, nI_1 k, BsM_gt b5 hvb h3 h4⟩, hmu⟩, fun h4 => ⟨vk, ⟨p5.up (by decide), k + 1, hk2, nI_1 k, ?_⟩, hmu⟩⟩, fun h3 => ⟨vk, vk, fun h4 => ?_, fun h4 => ⟨vk, ⟨((p5.up (by decide)).up (by decide)).up (by decide), k + 1, hk2, nI_1 k, ?_⟩, hmu⟩⟩⟩
      · rw [up2_j (by decide), up2_s]
        exact BsM_eq b5 hvb h4
      · exact absurd (by rw [up2_j (by decide), up2_s]) h4
      · rw [up2_s, up2_s, up2_j (by decide), up2_j (by decide), up2_s]
        exact BsM_new b5 hvb h3
  · -- a layer
    have hm0 : 0 < m := by
      rcases Nat.eq_zero_or_pos m with z | z
      · exfalso
        rw [z] at ex
        have e1 : x1 = -1 := by
          have : x1 + 1 = 0 := ex
          grind
        rw [e1] at h
        exact h (by decide)
      · exact z
    obtain ⟨p, rfl⟩ : ∃ p, m = p + 1 := ⟨m - 1, by omega⟩
    have e1 : x1 = nI p := by
      have := nI_pred p
      rw [← ex] at this
      rw [← this]
      grind
    subst e1
    have hn := hDw.2 p
    have fp := (facN_le _ hn).1
    have fn := (facN_le _ (hDw.2 (p + 1))).1
    have clp : (nI p).toNatClampNeg = p := cl_n (by omega)
    have clp1 : (nI (p + 1)).toNatClampNeg = p + 1 := cl_n (by omega)
    refine ⟨⟨S3, a27, a28, p, 0, hm, rfl, Nat.zero_le _, rfl, ls3, fun j hj => absurd hj (Nat.not_lt_zero _)⟩, ?_⟩
    rintro x2 I5 A5 ⟨S5, b27, b28, m', k, hm', em', hk, rfl, ls5, lj5⟩
    have em' : m' = p := ((nI_eq (by omega) (by omega)).mp em').symm
    subst em'
    have fc := facl S5 m' (by omega)
    rw [clp, fc.2]
    refine ⟨vp_in_nI (by omega) (by decide), fc.1, fun h2 => ?_, fun h2 => ?_⟩
    · have e := cn_eq rfl hk (by omega) h2
      subst e
      refine ⟨⟨S5, b27, b28, m', by omega, x_m1 _, fun j h3 h4 => ?_⟩, ?_⟩
      · rcases Nat.lt_or_eq_of_le h3 with z | z
        · exact ls5 j z h4
        · rw [← z]
          exact lj5
      · rw [x_m1, nI_1, clp, clp1]
        omega
    have hk2 := cn_lt rfl hk (by omega) h2
    have e120 : 120 * nI m' + nI k = nI (120 * m' + k) := ix_120 m' k
    have cl120 : (nI (120 * m' + k)).toNatClampNeg = 120 * m' + k := cl_n (by omega)
    have v120 : vp_in (nI (120 * m' + k)) 1200 := vp_in_nI (by omega) (by decide)
    have hL1 : nI (nLay w) - 1 = nI (nLay w - 1) := by
      have := nI_pred (nLay w - 1)
      rw [show nLay w - 1 + 1 = nLay w by omega] at this
      exact this
    rw [(env S5).2.2.2.2.1, hL1, e120, cl120]
    have fin : ∀ I' A' x3 x4, FoS I2 A2 I' A' → I' 96 27 = 0 → I' 96 28 = 1 → LsM w kl ks q (m' + 1) A' → LsJ w kl ks q m' k A' → x3 = nI (mnN (vU w kl ks q m' k) (facN (nIt w (m' + 1)))) → x4 = sm32 (fun t => if vU w kl ks q m' k t = mnN (vU w kl ks q m' k) (facN (nIt w (m' + 1))) then wV w kl ks q (m' + 1) t else 0) (facN (nIt w (m' + 1))) → (mov0 I' A' (nI m') (nI k) ∧ vp_in (nI (120 * m' + k)) 1200 ∧ vp_in (nI (120 * m' + k)) 1200 ∧ F39 w kl ks q I2 A2 (nI m') (nI k + 1) I' (up2 (up2 A' 111 (120 * m' + k) (x3 + I' 96 3 * mov I' A' (nI m') (nI k))) 112 (120 * m' + k) x4) ∧ 200 - (nI k + 1).toNatClampNeg < 200 - (nI k).toNatClampNeg) := by
      intro I' A' x3 x4 S' z27 z28 ls' lj' ex3 ex4
      obtain ⟨v1, v2⟩ := movel S' hm' hk2
      refine ⟨v1, v120, v120, ⟨⟨S'.1, (S'.2.1.up (by decide)).up (by decide), ?_, S'.2.2.2⟩, z27, z28, m', k + 1, hm', rfl, hk2, nI_1 k, fun j h3 h4 u hu => ?_, fun j hj => ?_⟩, cn_mu (by omega) (by decide)⟩
      · unfold StOK StN
        rw [up2_off (by decide), up2_off (by decide)]
        exact S'.2.2.1
      · have fj := (facN_le _ (hDw.2 j)).1
        rw [up2_k (by decide), up2_j (by omega), up2_j (by omega), up2_off (by decide)]
        exact ls' j h3 h4 u hu
      · rcases Nat.lt_succ_iff_lt_or_eq.mp hj with z | z
        · rw [up2_k (by decide), up2_j (by omega), up2_j (by omega), up2_off (by decide)]
          exact lj' j z
        · rw [z, up2_k (by decide), up2_s, up2_s, v2, (env S').2.2.2.2.2, ex3, ex4, pk_mul, nI_add, vV_s hm', wV_s hm']
          exact ⟨rfl, rfl⟩
    refine ⟨?_, ?_⟩
    · rintro x3 x4 ⟨m2, hm2, em2, hcase⟩
      have em2 : m2 = m' := ((nI_eq (by omega) (by omega)).mp em2).symm
      subst em2
      refine ⟨⟨S5, b27, b28, m2, k, 0, hm', rfl, hk2, rfl, rfl, ls5, lj5, hcase.elim Or.inl (fun z => Or.inr ⟨z.1, Nat.zero_le _, Or.inl ⟨rfl, z.2⟩⟩)⟩, ?_⟩
      rintro x3' x4' x5 I6 A6 ⟨S6, c27, c28, m3, k3, t, hm3, em3, hk3, ek3, rfl, ls6, lj6, hc6⟩
      have em3 : m3 = m2 := ((nI_eq (by omega) (by omega)).mp em3).symm
      subst em3
      have ek3 : k3 = k := ((nI_eq (by omega) (by omega)).mp ek3).symm
      subst ek3
      rw [(env S6).2.2.2.2.1, nI_1, clp1]
      refine ⟨fun h3 => ?_, fun h3 => ?_⟩
      · have h3 := (nI_leI (by omega) (by omega)).mp h3
        rcases hc6 with ⟨z1, z2, z3⟩ | ⟨z1, -⟩
        · obtain ⟨y1, y2⟩ := last_mn (kl := kl) (ks := ks) (q := q) (k := k3) hF z1
          exact fin I6 A6 x3' x4' S6 c27 c28 ls6 lj6 (by rw [z2, y1]; rfl) (by rw [z3, y2])
        · omega
      have h3 := (nI_ltI (by omega) (by omega)).mp (nle h3)
      rcases hc6 with ⟨z1, -⟩ | ⟨-, ht, bs⟩
      · omega
      have fc6 := facl S6 (m3 + 1) (by omega)
      rw [fc6.2]
      refine ⟨vp_in_nI (by omega) (by decide), fc6.1, fun h4 => ?_, fun h4 => ?_⟩
      · have e := cn_eq rfl ht (by omega) h4
        subst e
        obtain ⟨y1, y2⟩ := BsM_end bs (facN_pos _)
        exact fin I6 A6 x3' x4' S6 c27 c28 ls6 lj6 y1 y2
      have ht2 := cn_lt rfl ht (by omega) h4
      obtain ⟨g1, g2⟩ := cross S6 h3 hk3 ht2
      refine ⟨g1, ?_⟩
      rintro r I9 A9 h9
      obtain ⟨rfl, er, S9, d27, d28⟩ := g2 h9
      have e120' : 120 * nI (m3 + 1) + nI t = nI (120 * (m3 + 1) + t) := ix_120 _ t
      obtain ⟨y1, y2⟩ := ls6 (m3 + 1) (Nat.le_refl _) h3 t ht2
      have hvb : vU w kl ks q m3 k3 t < 2 ^ 29 := by
        have := vU_le (kl := kl) (ks := ks) hDw hq m3 k3 t
        omega
      have hmu : 200 - (nI t + 1).toNatClampNeg < 200 - (nI t).toNatClampNeg := cn_mu (by omega) (by decide)
      have ev : r + nI (vV w kl ks q (m3 + 1) t) = nI (vU w kl ks q m3 k3 t) := by
        rw [er, nI_add]
        rfl
      rw [e120', cl_n (show 120 * (m3 + 1) + t < 2 ^ 31 by omega), y1, y2, ev]
      have vv : vp_in (nI (120 * (m3 + 1) + t)) 1200 := vp_in_nI (by omega) (by decide)
      have nx : ∀ x3 x4, BsM (vU w kl ks q m3 k3) (wV w kl ks q (m3 + 1)) (t + 1) x3 x4 → F90 w kl ks q I2 A2 (nI m3) (nI k3) x3 x4 (nI t + 1) I9 A9 := fun x3 x4 hb => ⟨S9, by rw [d27]; exact c27, by rw [d28]; exact c28, m3, k3, t + 1, hm3, rfl, hk3, rfl, nI_1 t, ls6, lj6, Or.inr ⟨h3, ht2, hb⟩⟩
      exact ⟨vv, fun h5 => ⟨fun h6 => ⟨nx _ _ (BsM_gt bs hvb h5 h6), hmu⟩, fun h6 => ⟨vv, nx _ _ (BsM_eq bs hvb h6), hmu⟩⟩, fun h5 => ⟨fun h6 => absurd rfl h6, fun h6 => ⟨vv, nx _ _ (BsM_new bs hvb h5), hmu⟩⟩⟩
    · have eq1 : nI m' = nI (nLay w - 1) ↔ m' + 1 = nLay w := by
        rw [nI_eq (by omega) (by omega)]
        omega
      have hlast : nI m' = nI (nLay w - 1) → F87 w (nI m') 0 1 := fun z => ⟨m', hm', rfl, Or.inl ⟨eq1.mp z, rfl, rfl⟩⟩
      have hoth : ¬ nI m' = nI (nLay w - 1) → F87 w (nI m') 1000000000 0 := fun z => ⟨m', hm', rfl, Or.inr ⟨by have : ¬ m' + 1 = nLay w := fun y => z (eq1.mpr y); omega, rfl⟩⟩
      exact ⟨fun z => ⟨fun _ => hoth z, fun y => absurd y z⟩, fun z => ⟨fun y => absurd z y, fun _ => hlast z⟩⟩
