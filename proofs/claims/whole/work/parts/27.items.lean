/-! ITEMS of the layers, as lists; the class's sheet -/
noncomputable def stB (w : Nat → Int32) (j : Nat) : Bool := decide (0 < w j) && !trB w j
noncomputable def plB (w : Nat → Int32) (l p : Nat) : Bool := usd w p && decide (layF w p = l)
noncomputable def bdB (w : Nat → Int32) (l j : Nat) : Bool := stB w j && (decide (layF w (j / 10) < l) && decide (l < layF w (j % 10)))
noncomputable def pT (w : Nat → Int32) (p l : Nat) : List Nat := (List.range p).filter (plB w l)
noncomputable def bT (w : Nat → Int32) (j l : Nat) : List Nat := ((List.range j).filter (bdB w l)).map (fun t => 100 + t)
noncomputable def itT (w : Nat → Int32) (p j l : Nat) : List Nat := pT w p l ++ bT w j l
noncomputable def itL (w : Nat → Int32) (l : Nat) : List Nat := itT w 10 100 l
def upT (T : Nat → List Nat) (l x : Nat) : Nat → List Nat := fun q => if q = l then T l ++ [x] else T q
theorem filt_s (f : Nat → Bool) (n : Nat) : (List.range (n + 1)).filter f = (List.range n).filter f ++ (if f n then [n] else []) := by
  rw [List.range_succ, List.filter_append]
  congr 1
  cases h : f n <;> simp [h]
theorem filt_len (f : Nat → Bool) : ∀ n, ((List.range n).filter f).length = fb_ct f n
  | 0 => rfl
  | n + 1 => by
    rw [filt_s, List.length_append, filt_len f n, fb_ct_succ]
    cases f n <;> simp
theorem pT_s {w : Nat → Int32} {p : Nat} (h : usd w p = true) : (fun l => itT w (p + 1) 0 l) = upT (fun l => itT w p 0 l) (layF w p) p := by
  funext l
  unfold upT itT pT
  rw [filt_s]
  by_cases z : l = layF w p
  · subst z
    simp [plB, h, bT]
  · rw [if_neg z]
    have : plB w l p = false := by
      unfold plB
      simp [show ¬ layF w p = l from fun q => z q.symm]
    simp [this]
theorem pT_n {w : Nat → Int32} {p : Nat} (h : usd w p = false) : (fun l => itT w (p + 1) 0 l) = (fun l => itT w p 0 l) := by
  funext l
  unfold itT pT
  rw [filt_s]
  simp [plB, h]
theorem bT_n {w : Nat → Int32} {j l : Nat} (h : bdB w l j = false) : itT w 10 (j + 1) l = itT w 10 j l := by
  unfold itT bT
  rw [filt_s]
  simp [h]
theorem bT_s {w : Nat → Int32} {j l : Nat} (h : bdB w l j = true) : itT w 10 (j + 1) l = itT w 10 j l ++ [100 + j] := by
  unfold itT bT
  rw [filt_s]
  simp [h]
theorem itT_len {w : Nat → Int32} (hF : FO w) {p j : Nat} (hp : p ≤ 10) (hj : j ≤ 100) (l : Nat) : (itT w p j l).length ≤ 26 := by
  unfold itT pT bT
  rw [List.length_append, List.length_map, filt_len, filt_len]
  have h1 : fb_ct (plB w l) p ≤ p := fb_ct_le _ p
  have h2 : fb_ct (bdB w l) j ≤ fb_ct (fun j => decide (0 < w j)) j := fb_ct_sub (fun k _ hk => by
    unfold bdB stB at hk
    simp only [Bool.and_eq_true] at hk
    exact hk.1.1)
  have h3 : fb_ct (fun j => decide (0 < w j)) j ≤ fb_ct (fun j => decide (0 < w j)) 100 := fb_ct_mono _ hj
  have := hF.2.2
  omega
/-- between the beads of one flow -/
noncomputable def mdT (w : Nat → Int32) (j l0 l : Nat) : List Nat := if l < l0 then itT w 10 (j + 1) l else itT w 10 j l
theorem mdT_0 {w : Nat → Int32} {j : Nat} : (fun l => mdT w j (layF w (j / 10) + 1) l) = (fun l => itT w 10 j l) := by
  funext l
  unfold mdT
  split
  · apply bT_n
    unfold bdB
    simp [show ¬ layF w (j / 10) < l by omega]
  · rfl
theorem mdT_s {w : Nat → Int32} {j l0 : Nat} (hs : stB w j = true) (h1 : layF w (j / 10) < l0) (h2 : l0 < layF w (j % 10)) : (fun l => mdT w j (l0 + 1) l) = upT (fun l => mdT w j l0 l) l0 (100 + j) := by
  funext l
  simp only [upT, mdT]
  by_cases z : l = l0
  · subst z
    rw [if_pos (Nat.lt_succ_self l), if_pos rfl, if_neg (Nat.lt_irrefl l), bT_s]
    unfold bdB
    simp [hs, h1, h2]
  · rw [if_neg z]
    by_cases z2 : l < l0
    · rw [if_pos (by omega), if_pos z2]
    · rw [if_neg (by omega), if_neg z2]
theorem mdT_e {w : Nat → Int32} {j l0 : Nat} (h2 : layF w (j % 10) ≤ l0) : (fun l => mdT w j l0 l) = (fun l => itT w 10 (j + 1) l) := by
  funext l
  unfold mdT
  split
  · rfl
  · symm
    apply bT_n
    unfold bdB
    simp [show ¬ l < layF w (j % 10) by omega]
theorem itT_nst {w : Nat → Int32} {j : Nat} (h : stB w j = false) : (fun l => itT w 10 (j + 1) l) = (fun l => itT w 10 j l) := by
  funext l
  apply bT_n
  unfold bdB
  simp [h]
/-- a straight flow goes to a later layer -/
theorem st_lay {w : Nat → Int32} (hF : FO w) {j : Nat} (hj : j < 100) (h : stB w j = true) : usd w (j / 10) = true ∧ usd w (j % 10) = true ∧ layF w (j / 10) < layF w (j % 10) := by
  unfold stB at h
  simp only [Bool.and_eq_true, decide_eq_true_eq, Bool.not_eq_true'] at h
  obtain ⟨u1, u2⟩ := usd_of hj h.1
  refine ⟨u1, u2, ?_⟩
  obtain ⟨p1, p2⟩ := pos_is (w := w) (p := j / 10) (by omega) u1
  obtain ⟨q1, q2⟩ := pos_is (w := w) (p := j % 10) (by omega) u2
  have hle : posF w (j / 10) ≤ posF w (j % 10) := by
    have h2 := h.2
    unfold trB at h2
    simp only [h.1, decide_true, Bool.true_and, decide_eq_false_iff_not] at h2
    omega
  unfold layF
  rw [lyP_eq w (posF w (j % 10))]
  by_cases z : posF w (j / 10) = posF w (j % 10)
  · exfalso
    rw [z, q2] at p2
    have h0 := hF.2.1 (j / 10) (by omega)
    rw [show 11 * (j / 10) = j by omega] at h0
    have h1 := h.1
    rw [h0] at h1
    exact absurd h1 (by decide)
  · have hc : 0 < w (10 * rowF w (posF w (j / 10)) + rowF w (posF w (j % 10))) := by
      rw [p2, q2, show 10 * (j / 10) + j % 10 = j by omega]
      exact h.1
    have := mxF_ge (f := fun i => if 0 < w (10 * rowF w i + rowF w (posF w (j % 10))) then lyP w i + 1 else 0) (n := posF w (j % 10)) (k := posF w (j / 10)) (by omega)
    rw [if_pos hc] at this
    omega
/-- the class's cells hold these lists -/
def ShH (A : HI) (T : Nat → List Nat) : Prop := A 25 10 = 0 ∧ ∀ l, l < 10 → A 25 l = nI (T l).length ∧ ∀ i, i < (T l).length → A (15 + l) i = nI ((T l).getD i 0)
theorem ShH.add {A : HI} {T : Nat → List Nat} (h : ShH A T) {l x : Nat} (hl : l < 10) (hT : (T l).length < 26) : ShH (addA A (nI l) (nI x)) (upT T l x) := by
  obtain ⟨h0, h⟩ := h
  obtain ⟨h1, h2⟩ := h l hl
  unfold addA
  rw [cl_n (show l < 2 ^ 31 by omega), h1, if_pos (show nI (T l).length < 26 from nI_lt (b := 26) hT (by decide)), cl_n (by omega)]
  refine ⟨by rw [up2_j (by omega), up2_k (by omega)]; exact h0, fun q hq => ?_⟩
  unfold upT
  by_cases z : q = l
  · subst z
    rw [if_pos rfl, up2_s]
    refine ⟨by rw [List.length_append, nI_1]; rfl, fun i hi => ?_⟩
    rw [List.length_append] at hi
    have hi : i < (T q).length + 1 := hi
    rw [up2_k (by omega)]
    rcases Nat.lt_succ_iff_lt_or_eq.mp hi with z | z
    · rw [up2_j (by omega), h2 i z, List.getD_eq_getElem?_getD, List.getD_eq_getElem?_getD, List.getElem?_append_left z]
    · subst z
      rw [up2_s, List.getD_eq_getElem?_getD, List.getElem?_append_right (Nat.le_refl _), Nat.sub_self]
      rfl
  · rw [if_neg z]
    obtain ⟨g1, g2⟩ := h q hq
    refine ⟨by rw [up2_j z, up2_k (by omega)]; exact g1, fun i hi => ?_⟩
    rw [up2_k (by omega), up2_k (by omega)]
    exact g2 i hi
theorem addA_off {A : HI} {l x : Nat} (hl : l < 10) : offA [15, 16, 17, 18, 19, 20, 21, 22, 23, 24, 25] A (addA A (nI l) (nI x)) := by
  intro k hk
  unfold addA
  rw [cl_n (show l < 2 ^ 31 by omega)]
  split
  · simp only [List.mem_cons, List.not_mem_nil, or_false, not_or] at hk
    rw [up2_off (by omega), up2_off (by omega)]
  · rfl

theorem id_n (a b : Nat) : (100 + 10 * nI a) + nI b = nI (100 + (10 * a + b)) := by
  rw [Int32.add_assoc, ix_b, show (100 : Int32) = nI 100 from rfl, nI_add]
/-- what Sheet needs of Ranking -/
def LyOK (w : Nat → Int32) (A : HI) : Prop := (∀ p, p < 10 → A 11 p = if usd w p then nI (layF w p) else -1) ∧ ∀ j, j < 100 → A 12 j = strF w j
def shC : List Nat := [15, 16, 17, 18, 19, 20, 21, 22, 23, 24, 25]
def aBe0 (I A : HI) (a b : Int32) : Prop := ∃ w a' b', FO w ∧ a' < 10 ∧ b' < 10 ∧ a = nI a' ∧ b = nI b' ∧ LyOK w A ∧ stB w (10 * a' + b') = true ∧ ShH A (fun l => itT w 10 (10 * a' + b') l)
def aBe (I A : HI) (a b : Int32) (I' A' : HI) : Prop := I' = I ∧ offA shC A A' ∧ ∀ w a' b', FO w → a' < 10 → b' < 10 → a = nI a' → b = nI b' → LyOK w A → stB w (10 * a' + b') = true → ShH A (fun l => itT w 10 (10 * a' + b') l) → ShH A' (fun l => itT w 10 (10 * a' + b' + 1) l)
theorem mdT_len {w : Nat → Int32} (hF : FO w) {j l0 : Nat} (hj : j < 100) (hs : stB w j = true) (h1 : layF w (j / 10) < l0) (h2 : l0 < layF w (j % 10)) : (mdT w j l0 l0).length < 26 := by
  have h := congrFun (mdT_s hs h1 h2) l0
  have h3 : mdT w j (l0 + 1) l0 = mdT w j l0 l0 ++ [100 + j] := by
    have : mdT w j (l0 + 1) l0 = upT (fun l => mdT w j l0 l) l0 (100 + j) l0 := h
    rw [this]
    simp [upT]
  have h4 : (mdT w j (l0 + 1) l0).length ≤ 26 := by
    unfold mdT
    rw [if_pos (Nat.lt_succ_self l0)]
    exact itT_len hF (Nat.le_refl _) (by omega) l0
  rw [h3, List.length_append] at h4
  have : ([100 + j] : List Nat).length = 1 := rfl
  omega
set_option maxHeartbeats 4000000 in
theorem c_X7_addBeads (l : Launch) (D : va_G) (ads : AD) (I A : HI) (a1 a2 : Int32) (hp : aBe0 I A a1 a2) : Ct l yX7_addBeads cX7_addBeads 4 none 1 22 D ads shp [.inr (some 13), .inl a1, .inl a2] I A (qV (aBe I A a1 a2)) := by
  obtain ⟨w0, a, b, hF0, ha, hb, rfl, rfl, hL0, hs0, hT0⟩ := hp
  obtain ⟨d1, d2⟩ := dm10 (a := a) hb
  obtain ⟨u1, u2, u3⟩ := st_lay hF0 (show 10 * a + b < 100 by omega) hs0
  rw [d1] at u1 u3
  rw [d2] at u2 u3
  have n1 := lay_lt ha u1
  have n2 := lay_lt hb u2
  have n3 := nLay_le w0
  have eA : A 11 a = nI (layF w0 a) := by rw [hL0.1 a ha, u1]; rfl
  have eB : A 11 b = nI (layF w0 b) := by rw [hL0.1 b hb, u2]; rfl
  refine k_X7_addBeads l D ads I A (nI a) (nI b) _ (fun x A' => ∃ l0, layF w0 a < l0 ∧ l0 ≤ layF w0 b ∧ x = nI l0 ∧ offA shC A A' ∧ ∀ w, FO w → LyOK w A → stB w (10 * a + b) = true → ShH A (fun l => itT w 10 (10 * a + b) l) → ShH A' (fun l => mdT w (10 * a + b) l0 l)) (fun x _ => 10 - x.toNatClampNeg) ⟨vp_in_nI ha (by decide), ⟨layF w0 a + 1, by omega, by omega, ?_, offA.rf, fun w hF hL hs hT => ?_⟩, ?_⟩
  · rw [cl_n (by omega), eA, nI_1]
  · have e : layF w a = layF w0 a := by
      obtain ⟨v1, v2, -⟩ := st_lay hF (show 10 * a + b < 100 by omega) hs
      rw [d1] at v1
      have h1 := hL.1 a ha
      rw [eA, v1] at h1
      exact ((nI_eq (by omega) (by have := lay_lt ha v1; have := nLay_le w; omega)).mp h1).symm
    have := mdT_0 (w := w) (j := 10 * a + b)
    rw [d1, e] at this
    rw [this]
    exact hT
  rintro x A1 ⟨l0, hl1, hl2, rfl, hoff, hT⟩
  rw [cl_n (show b < 2 ^ 31 by omega), hoff 11 (by decide), eB]
  refine ⟨vp_in_nI hb (by decide), fun h => qV_i ⟨rfl, hoff, fun w a' b' hF ha' hb' e1 e2 hL hs hT9 => ?_⟩, fun h => ?_⟩
  · have e1 : a' = a := ((nI_eq (by omega) (by omega)).mp e1).symm
    have e2 : b' = b := ((nI_eq (by omega) (by omega)).mp e2).symm
    subst e1
    subst e2
    have hle := (nI_leI (by omega) (by omega)).mp h
    have e : layF w b' = layF w0 b' := by
      obtain ⟨v1, v2, -⟩ := st_lay hF (show 10 * a' + b' < 100 by omega) hs
      rw [d2] at v2
      have h1 := hL.1 b' hb
      rw [eB, v2] at h1
      exact ((nI_eq (by omega) (by have := lay_lt hb v2; have := nLay_le w; omega)).mp h1).symm
    rw [← mdT_e (l0 := l0) (by rw [d2, e]; omega)]
    exact hT w hF hL hs hT9
  · have hlt : l0 < layF w0 b := (nI_ltI (by omega) (by omega)).mp (nle h)
    have h25 := hT w0 hF0 hL0 hs0 hT0
    rw [id_n, cl_n (show l0 < 2 ^ 31 by omega)]
    refine ⟨⟨vp_in_nI (by omega) (by decide), ?_⟩, ⟨l0 + 1, by omega, hlt, nI_1 l0, hoff.tr (addA_off (by omega)), fun w hF hL hs hT9 => ?_⟩, ?_⟩
    · rw [(h25.2 l0 (by omega)).1]
      show (0 : Int32) ≤ nI (mdT w0 (10 * a + b) l0 l0).length
      exact nI_pos' (by have := mdT_len hF0 (show 10 * a + b < 100 by omega) hs0 (l0 := l0) (by rw [d1]; omega) (by rw [d2]; omega); omega)
    · obtain ⟨v1, v2, -⟩ := st_lay hF (show 10 * a + b < 100 by omega) hs
      rw [d1] at v1
      rw [d2] at v2
      have e1 : layF w a = layF w0 a := by
        have h1 := hL.1 a ha
        rw [eA, v1] at h1
        exact ((nI_eq (by omega) (by have := lay_lt ha v1; have := nLay_le w; omega)).mp h1).symm
      have e2 : layF w b = layF w0 b := by
        have h1 := hL.1 b hb
        rw [eB, v2] at h1
        exact ((nI_eq (by omega) (by have := lay_lt hb v2; have := nLay_le w; omega)).mp h1).symm
      have g1 : layF w ((10 * a + b) / 10) < l0 := by rw [d1, e1]; exact hl1
      have g2 : l0 < layF w ((10 * a + b) % 10) := by rw [d2, e2]; exact hlt
      rw [mdT_s hs g1 g2]
      exact (hT w hF hL hs hT9).add (by omega) (mdT_len hF (by omega) hs g1 g2)
    · rw [nI_1, cl_n (by omega)]
      omega
