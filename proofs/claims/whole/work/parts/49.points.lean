/-! points: Drawing.endOf, beginOf -/
noncomputable def ptE (w : Nat → Int32) (ch : Nat → Nat) (l j : Nat) : Int32 := sL (fun t => if gxN w l t = gxN w l j ∧ spN w ch l (idN w t l) < spN w ch l (idN w j l) then w t else 0) (kT w 100 l)
noncomputable def ptB (w : Nat → Int32) (ch : Nat → Nat) (l j : Nat) : Int32 := sL (fun t => if fxN w l t = fxN w l j ∧ spN w ch (l + 1) (idN w t (l + 1)) < spN w ch (l + 1) (idN w j (l + 1)) then w t else 0) (kT w 100 l)
theorem sm32_one {f : Nat → Int32} {b : Nat} : ∀ {n : Nat}, b < n → (∀ k, k < n → k ≠ b → f k = 0) → sm32 f n = f b
  | 0, h, _ => absurd h (Nat.not_lt_zero _)
  | n + 1, h, hz => by
    show sm32 f n + f n = f b
    by_cases e : b = n
    · subst e
      rw [sm32_z (fun k hk => hz k (by omega) (by omega)), Int32.zero_add]
    · rw [sm32_one (n := n) (by omega) (fun k hk hn => hz k (by omega) hn), hz n (by omega) (fun z => e z.symm), Int32.add_zero]
theorem sm32_app (f : Nat → Int32) (m : Nat) : ∀ n, sm32 f (m + n) = sm32 f m + sm32 (fun k => f (m + k)) n
  | 0 => by
    show sm32 f m = sm32 f m + 0
    rw [Int32.add_zero]
  | n + 1 => by
    show sm32 f (m + n) + f (m + n) = sm32 f m + (sm32 (fun k => f (m + k)) n + f (m + n))
    rw [sm32_app f m n, Int32.add_assoc]
theorem sm32_flat (f : Nat → Int32) (b : Nat) : ∀ a, sm32 f (b * a) = sm32 (fun i => sm32 (fun j => f (b * i + j)) b) a
  | 0 => rfl
  | a + 1 => by
    rw [Nat.mul_succ, sm32_app, sm32_flat f b a]
    rfl
theorem sL_kT (f : Nat → Int32) (w : Nat → Int32) (l : Nat) : sL f (kT w 100 l) = sm32 (fun t => if lkB w l t then f t else 0) 100 := by
  unfold kT
  rw [sL_fil, sL_range]
theorem fx_eq {w : Nat → Int32} (hF : FO w) {l t j : Nat} (ht : t < 100) (hj : j < 100) (h1 : lkB w l t = true) (h2 : lkB w l j = true) : (fxN w l t = fxN w l j ↔ idN w t l = idN w j l) ∧ (gxN w l t = gxN w l j ↔ idN w t (l + 1) = idN w j (l + 1)) := by
  obtain ⟨a1, a2⟩ := lk_mem hF ht h1
  obtain ⟨b1, b2⟩ := lk_mem hF hj h2
  refine ⟨⟨fun e => ixN_inj a1 b1 e, fun e => ?_⟩, ⟨fun e => ixN_inj a2 b2 e, fun e => ?_⟩⟩
  · unfold fxN
    rw [e]
  · unfold gxN
    rw [e]
theorem id_to {w : Nat → Int32} {l t : Nat} (h : lkB w l t = true) : idN w t (l + 1) = if l + 1 = layF w (t % 10) then t % 10 else 100 + t := by
  obtain ⟨-, h1, h2⟩ := lkB_is h
  unfold idN
  rw [if_neg (by omega)]
theorem id_from {w : Nat → Int32} {l t : Nat} (h : lkB w l t = true) : idN w t l = if l = layF w (t / 10) then t / 10 else 100 + t := by
  obtain ⟨-, h1, h2⟩ := lkB_is h
  unfold idN
  by_cases e : l = layF w (t / 10)
  · rw [if_pos e, if_pos e]
  · rw [if_neg e, if_neg e, if_neg (by omega)]
theorem ptE_mid {w : Nat → Int32} (hF : FO w) (ch : Nat → Nat) {l j : Nat} (hj : j < 100) (h : lkB w l j = true) (hm : l + 1 ≠ layF w (j % 10)) : ptE w ch l j = 0 := by
  unfold ptE
  refine sL_z (fun t ht => if_neg ?_)
  rintro ⟨e, hlt⟩
  obtain ⟨t1, t2⟩ := kT_mem ht
  have e := (fx_eq hF t1 hj t2 h).2.mp e
  rw [id_to t2, id_to h, if_neg hm] at e
  have e2 : t = j := by
    split at e <;> omega
  rw [e2] at hlt
  omega
theorem ptB_mid {w : Nat → Int32} (hF : FO w) (ch : Nat → Nat) {l j : Nat} (hj : j < 100) (h : lkB w l j = true) (hm : l ≠ layF w (j / 10)) : ptB w ch l j = 0 := by
  unfold ptB
  refine sL_z (fun t ht => if_neg ?_)
  rintro ⟨e, hlt⟩
  obtain ⟨t1, t2⟩ := kT_mem ht
  have e := (fx_eq hF t1 hj t2 h).1.mp e
  rw [id_from t2, id_from h, if_neg hm] at e
  have e2 : t = j := by
    split at e <;> omega
  rw [e2] at hlt
  omega
theorem lkB_of {w : Nat → Int32} {l t : Nat} (h : stB w t = true) (h1 : layF w (t / 10) ≤ l) (h2 : l < layF w (t % 10)) : lkB w l t = true := by
  unfold lkB
  rw [h, decide_eq_true h1, decide_eq_true h2]
  rfl
theorem ptE_last {w : Nat → Int32} (hF : FO w) (ch : Nat → Nat) {l a b : Nat} (ha : a < 10) (hb : b < 10) (h : lkB w l (10 * a + b) = true) (hm : l + 1 = layF w b) : ptE w ch l (10 * a + b) = sm32 (fun p => if stB w (10 * p + b) = true ∧ spN w ch l (idN w (10 * p + b) l) < spN w ch l (idN w (10 * a + b) l) then w (10 * p + b) else 0) 10 := by
  obtain ⟨d1, d2⟩ := dm10 (a := a) hb
  have ej : idN w (10 * a + b) (l + 1) = b := by
    rw [id_to h, d2, if_pos hm]
  unfold ptE
  rw [sL_kT, show 100 = 10 * 10 from rfl, sm32_flat]
  refine sm32_cong (fun p hp => ?_)
  rw [sm32_one hb (fun c hc hcb => ?_)]
  · obtain ⟨q1, q2⟩ := dm10 (a := p) hb
    by_cases hs : stB w (10 * p + b) = true
    · have hl := st_lay hF (show 10 * p + b < 100 by omega) hs
      rw [q1, q2] at hl
      have hk : lkB w l (10 * p + b) = true := lkB_of hs (by rw [q1]; omega) (by rw [q2]; omega)
      have eg : gxN w l (10 * p + b) = gxN w l (10 * a + b) := (fx_eq hF (by omega) (by omega) hk h).2.mpr (by rw [id_to hk, q2, if_pos hm, ej])
      rw [if_pos hk]
      by_cases hlt : spN w ch l (idN w (10 * p + b) l) < spN w ch l (idN w (10 * a + b) l)
      · rw [if_pos ⟨eg, hlt⟩, if_pos ⟨hs, hlt⟩]
      · rw [if_neg (fun z => hlt z.2), if_neg (fun z => hlt z.2)]
    · have hk : ¬ lkB w l (10 * p + b) = true := fun z => hs (lkB_is z).1
      rw [if_neg hk, if_neg (fun z => hs z.1)]
  · obtain ⟨q1, q2⟩ := dm10 (a := p) hc
    by_cases hk : lkB w l (10 * p + c) = true
    · rw [if_pos hk, if_neg]
      rintro ⟨e, -⟩
      have e := (fx_eq hF (by omega) (by omega) hk h).2.mp e
      rw [id_to hk, ej, q2] at e
      split at e <;> omega
    · rw [if_neg hk]
theorem ptB_first {w : Nat → Int32} (hF : FO w) (ch : Nat → Nat) {l a b : Nat} (ha : a < 10) (hb : b < 10) (h : lkB w l (10 * a + b) = true) (hm : l = layF w a) : ptB w ch l (10 * a + b) = sm32 (fun p => if stB w (10 * a + p) = true ∧ spN w ch (l + 1) (idN w (10 * a + p) (l + 1)) < spN w ch (l + 1) (idN w (10 * a + b) (l + 1)) then w (10 * a + p) else 0) 10 := by
  obtain ⟨d1, d2⟩ := dm10 (a := a) hb
  have ej : idN w (10 * a + b) l = a := by
    rw [id_from h, d1, if_pos hm]
  unfold ptB
  rw [sL_kT, show 100 = 10 * 10 from rfl, sm32_flat, sm32_one ha (fun c hc hca => sm32_z (fun p hp => ?_))]
  · refine sm32_cong (fun p hp => ?_)
    obtain ⟨q1, q2⟩ := dm10 (a := a) hp
    by_cases hs : stB w (10 * a + p) = true
    · have hl := st_lay hF (show 10 * a + p < 100 by omega) hs
      rw [q1, q2] at hl
      have hk : lkB w l (10 * a + p) = true := lkB_of hs (by rw [q1]; omega) (by rw [q2]; omega)
      have eg : fxN w l (10 * a + p) = fxN w l (10 * a + b) := (fx_eq hF (by omega) (by omega) hk h).1.mpr (by rw [id_from hk, q1, if_pos hm, ej])
      rw [if_pos hk]
      by_cases hlt : spN w ch (l + 1) (idN w (10 * a + p) (l + 1)) < spN w ch (l + 1) (idN w (10 * a + b) (l + 1))
      · rw [if_pos ⟨eg, hlt⟩, if_pos ⟨hs, hlt⟩]
      · rw [if_neg (fun z => hlt z.2), if_neg (fun z => hlt z.2)]
    · have hk : ¬ lkB w l (10 * a + p) = true := fun z => hs (lkB_is z).1
      rw [if_neg hk, if_neg (fun z => hs z.1)]
  · obtain ⟨q1, q2⟩ := dm10 (a := c) hp
    by_cases hk : lkB w l (10 * c + p) = true
    · rw [if_pos hk, if_neg]
      rintro ⟨e, -⟩
      have e := (fx_eq hF (by omega) (by omega) hk h).1.mp e
      rw [id_from hk, ej, q1] at e
      split at e <;> omega
    · rw [if_neg hk]
noncomputable def enV (w : Nat → Int32) (ch : Nat → Nat) (g : Int32) (a b l : Nat) : Int32 := if l = layF w a then -1 else tpP w ch g l (spN w ch l (idN w (10 * a + b) l)) + ptE w ch (l - 1) (10 * a + b)
noncomputable def bgV (w : Nat → Int32) (ch : Nat → Nat) (g : Int32) (a b l : Nat) : Int32 := if l = layF w b then -1 else tpP w ch g l (spN w ch l (idN w (10 * a + b) l)) + ptB w ch l (10 * a + b)
noncomputable def enO (ch : Nat → Nat) (I A : HI) (a1 a2 a3 a4 : Int32) : Int32 := enV (A 2) ch a4 a1.toNatClampNeg a2.toNatClampNeg a3.toNatClampNeg
noncomputable def bgO (ch : Nat → Nat) (I A : HI) (a1 a2 a3 a4 : Int32) : Int32 := bgV (A 2) ch a4 a1.toNatClampNeg a2.toNatClampNeg a3.toNatClampNeg
def enO0 (ch : Nat → Nat) (I A : HI) (a1 a2 a3 a4 : Int32) : Prop := SrS (A 2) ch I A ∧ ∃ a b l, a < 10 ∧ b < 10 ∧ stB (A 2) (10 * a + b) = true ∧ layF (A 2) a ≤ l ∧ l ≤ layF (A 2) b ∧ a1 = nI a ∧ a2 = nI b ∧ a3 = nI l
theorem nI_lt0 {n : Nat} (h : n < 2 ^ 31) : nI n ≤ 0 ↔ n = 0 := by
  rw [show (0 : Int32) = nI 0 from rfl, nI_leI h (by decide)]
  omega
set_option maxHeartbeats 8000000 in
theorem c_X1_endOf (ch : Nat → Nat) (l : Launch) (D : va_G) (ads : AD) (I A : HI) (a1 a2 a3 a4 : Int32) (hp : enO0 ch I A a1 a2 a3 a4) : Ct l yX1_endOf cX1_endOf 9 (some .int) 5 113 D ads shp [.inr (some 95), .inl a1, .inl a2, .inl a3, .inl a4] I A (qI (enO ch I A a1 a2 a3 a4) I A) := by
  obtain ⟨hS, a, b, k, ha, hb, hs, hk1, hk2, rfl, rfl, rfl⟩ := hp
  have hF := hS.1.1
  have hLy := hS.1.2.1
  obtain ⟨d1, d2⟩ := dm10 (a := a) hb
  have hl := st_lay hF (show 10 * a + b < 100 by omega) hs
  rw [d1, d2] at hl
  obtain ⟨ua, ub, hab⟩ := hl
  have hNb := lay_lt hb ub
  have h10 := nLay_le (A 2)
  have cla : (nI a).toNatClampNeg = a := cl_n (by omega)
  have clb : (nI b).toNatClampNeg = b := cl_n (by omega)
  have clk : (nI k).toNatClampNeg = k := cl_n (by omega)
  have va : vp_in (nI a) 10 := vp_in_nI ha (by decide)
  have vb : vp_in (nI b) 10 := vp_in_nI hb (by decide)
  have hLa : A 11 a = nI (layF (A 2) a) := by rw [hLy.1 a ha, if_pos ua]
  have hLb : A 11 b = nI (layF (A 2) b) := by rw [hLy.1 b hb, if_pos ub]
  have hL : ∀ p, p < 10 → usd (A 2) p = true → A 11 p = nI (layF (A 2) p) := fun p hp hu => by rw [hLy.1 p hp, if_pos hu]
  have hit : ∀ q, q < 20 → itmI (A 11) (nI a) (nI b) (nI q) = nI (idN (A 2) (10 * a + b) q) := fun q hq => itm_id hL ha hb ua ub hq
  have hmem : ∀ q, layF (A 2) a ≤ q → q ≤ layF (A 2) b → idN (A 2) (10 * a + b) q ∈ itL (A 2) q := fun q h1 h2 => mem_id hF (by omega) hs (by rw [d1]; exact h1) (by rw [d2]; exact h2)
  have eT : tpO ch I A (nI k) (nI (idN (A 2) (10 * a + b) k)) a4 = tpP (A 2) ch a4 k (spN (A 2) ch k (idN (A 2) (10 * a + b) k)) := by
    have := it_lt (hmem k hk1 hk2)
    unfold tpO
    rw [clk, cl_n (by omega)]
  have eO : enO ch I A (nI a) (nI b) (nI k) a4 = enV (A 2) ch a4 a b k := by
    unfold enO
    rw [cla, clb, clk]
  rw [eO]
  refine k_X1_endOf l D ads I A (nI a) (nI b) (nI k) a4 _ (c_X1_topOf ch l D ads) (c_X6_spotOf l D ads)
    (fun s y => ∃ t, t ≤ 10 ∧ y = nI t ∧ s = tpP (A 2) ch a4 k (spN (A 2) ch k (idN (A 2) (10 * a + b) k)) + sm32 (fun p => if stB (A 2) (10 * p + b) = true ∧ spN (A 2) ch (k - 1) (idN (A 2) (10 * p + b) (k - 1)) < spN (A 2) ch (k - 1) (idN (A 2) (10 * a + b) (k - 1)) then A 2 (10 * p + b) else 0) t)
    (fun _ y => 10 - y.toNatClampNeg) ?_
  rw [cla, clb, hLa, hLb, hit k (by omega), eT]
  refine ⟨va, fun h => ⟨⟨va, vb⟩, ⟨hS, k, _, by omega, hmem k hk1 hk2, rfl, rfl⟩, vb, fun h2 => ?_, fun h2 => qI_i ?_⟩, fun h => qI_i ?_⟩
  · have hka : ¬ k = layF (A 2) a := fun z => h (by rw [z])
    have hkb : k = layF (A 2) b := (nI_eq (by omega) (by omega)).mp h2
    have ek : nI k - 1 = nI (k - 1) := by
      have := nI_pred (k - 1)
      rw [show k - 1 + 1 = k by omega] at this
      exact this
    have hlk : lkB (A 2) (k - 1) (10 * a + b) = true := lkB_of hs (by rw [d1]; omega) (by rw [d2]; omega)
    have ev : ∀ p, p < 10 → stB (A 2) (10 * p + b) = true → idN (A 2) (10 * p + b) (k - 1) ∈ itL (A 2) (k - 1) ∧ usd (A 2) p = true := by
      intro p hp hsp
      obtain ⟨q1, q2⟩ := dm10 (a := p) hb
      have hlp := st_lay hF (show 10 * p + b < 100 by omega) hsp
      rw [q1, q2] at hlp
      exact ⟨mem_id hF (by omega) hsp (by rw [q1]; omega) (by rw [q2]; omega), hlp.1⟩
    have hmk := hmem (k - 1) (by omega) (by omega)
    have eS : spO I A (nI (k - 1)) (nI (idN (A 2) (10 * a + b) (k - 1))) = nI (spN (A 2) ch (k - 1) (idN (A 2) (10 * a + b) (k - 1))) := spO_i hS (by omega) hmk
    have hn := hS.1.dw.2 (k - 1)
    have hc := (hS.2.2 (k - 1) (by omega)).1
    have hsp := spN_lt hn hc hmk
    rw [ek, hit (k - 1) (by omega), eS]
    refine ⟨⟨va, vb⟩, ⟨A 2, ch, k - 1, hS, by omega, rfl⟩, ⟨0, Nat.zero_le _, rfl, ?_⟩, ?_⟩
    · show _ = _ + (0 : Int32)
      rw [Int32.add_zero]
    rintro s y ⟨t, ht, rfl, rfl⟩
    refine ⟨fun h3 => qI_i ?_, fun h3 => ?_⟩
    · have e := cn_eq (N := 10) rfl ht (by decide) h3
      subst e
      unfold enV
      rw [if_neg hka, ptE_last hF ch ha hb hlk (by omega)]
    · have ht2 := cn_lt (N := 10) rfl ht (by decide) h3
      have vt : vp_in (nI t) 10 := vp_in_nI ht2 (by decide)
      have hmu : 10 - (nI t + 1).toNatClampNeg < 10 - (nI t).toNatClampNeg := cn_mu ht2 (by decide)
      have es : strI A (nI t) (nI b) = nI (stN (A 2) (10 * t + b)) := by rw [strI_n ht2 hb, hLy.2 _ (by omega), strF_n hF (by omega)]
      have hsb := stN_le hF (show 10 * t + b < 100 by omega)
      rw [es]
      have step : ∀ v, v = (if stB (A 2) (10 * t + b) = true ∧ spN (A 2) ch (k - 1) (idN (A 2) (10 * t + b) (k - 1)) < spN (A 2) ch (k - 1) (idN (A 2) (10 * a + b) (k - 1)) then A 2 (10 * t + b) else 0) → ∀ s, s = tpP (A 2) ch a4 k (spN (A 2) ch k (idN (A 2) (10 * a + b) k)) + sm32 (fun p => if stB (A 2) (10 * p + b) = true ∧ spN (A 2) ch (k - 1) (idN (A 2) (10 * p + b) (k - 1)) < spN (A 2) ch (k - 1) (idN (A 2) (10 * a + b) (k - 1)) then A 2 (10 * p + b) else 0) t + v → (∃ t_1, t_1 ≤ 10 ∧ nI t + 1 = nI t_1 ∧ s = tpP (A 2) ch a4 k (spN (A 2) ch k (idN (A 2) (10 * a + b) k)) + sm32 (fun p => if stB (A 2) (10 * p + b) = true ∧ spN (A 2) ch (k - 1) (idN (A 2) (10 * p + b) (k - 1)) < spN (A 2) ch (k - 1) (idN (A 2) (10 * a + b) (k - 1)) then A 2 (10 * p + b) else 0) t_1) := by
        rintro v rfl s rfl
        refine ⟨t + 1, ht2, nI_1 t, ?_⟩
        rw [Int32.add_assoc]
        rfl
      refine ⟨fun h4 => ⟨step 0 ?_ _ ?_, hmu⟩, fun h4 => ?_⟩
      · have h4 := (nI_lt0 (by omega)).mp h4
        rw [if_neg]
        rintro ⟨z, -⟩
        unfold stN at h4
        rw [if_pos z] at h4
        unfold stB at z
        rw [Bool.and_eq_true, decide_eq_true_eq] at z
        have := (hF.pos (show 10 * t + b < 100 by omega)).mp z.1
        omega
      · rw [Int32.add_zero]
      · have hst : stB (A 2) (10 * t + b) = true := by
          cases q : stB (A 2) (10 * t + b)
          · exfalso
            apply h4
            rw [nI_lt0 (by omega)]
            unfold stN
            rw [q, if_neg (by decide)]
          · rfl
        have hw : nI (stN (A 2) (10 * t + b)) = A 2 (10 * t + b) := by
          unfold stN
          rw [if_pos hst]
          exact (hF.eq (by omega)).1.symm
        obtain ⟨hm2, ut⟩ := ev t ht2 hst
        have eS2 : spO I A (nI (k - 1)) (nI (idN (A 2) (10 * t + b) (k - 1))) = nI (spN (A 2) ch (k - 1) (idN (A 2) (10 * t + b) (k - 1))) := spO_i hS (by omega) hm2
        have hsp2 := spN_lt hn hc hm2
        rw [itm_id hL ht2 hb ut ub (by omega), eS2, hw]
        refine ⟨⟨vt, vb⟩, ⟨A 2, ch, k - 1, hS, by omega, rfl⟩, fun h5 => ⟨step 0 ?_ _ ?_, hmu⟩, fun h5 => ⟨step (A 2 (10 * t + b)) ?_ _ rfl, hmu⟩⟩
        · have h5 := (nI_leI (by omega) (by omega)).mp h5
          rw [if_neg (fun z => by omega)]
        · rw [Int32.add_zero]
        · have h5 := (nI_ltI (by omega) (by omega)).mp (nle h5)
          rw [if_pos ⟨hst, h5⟩]
  · have hka : ¬ k = layF (A 2) a := fun z => h (by rw [z])
    have hkb : ¬ k = layF (A 2) b := fun z => h2 (by rw [z])
    have hlk : lkB (A 2) (k - 1) (10 * a + b) = true := lkB_of hs (by rw [d1]; omega) (by rw [d2]; omega)
    unfold enV
    rw [if_neg hka, ptE_mid hF ch (by omega) hlk (by rw [d2]; omega), Int32.add_zero]
  · have hka : k = layF (A 2) a := (nI_eq (by omega) (by omega)).mp h
    unfold enV
    rw [if_pos hka]
set_option maxHeartbeats 8000000 in
theorem c_X1_beginOf (ch : Nat → Nat) (l : Launch) (D : va_G) (ads : AD) (I A : HI) (a1 a2 a3 a4 : Int32) (hp : enO0 ch I A a1 a2 a3 a4) : Ct l yX1_beginOf cX1_beginOf 9 (some .int) 5 113 D ads shp [.inr (some 95), .inl a1, .inl a2, .inl a3, .inl a4] I A (qI (bgO ch I A a1 a2 a3 a4) I A) := by
  obtain ⟨hS, a, b, k, ha, hb, hs, hk1, hk2, rfl, rfl, rfl⟩ := hp
  have hF := hS.1.1
  have hLy := hS.1.2.1
  obtain ⟨d1, d2⟩ := dm10 (a := a) hb
  have hl := st_lay hF (show 10 * a + b < 100 by omega) hs
  rw [d1, d2] at hl
  obtain ⟨ua, ub, hab⟩ := hl
  have hNb := lay_lt hb ub
  have h10 := nLay_le (A 2)
  have cla : (nI a).toNatClampNeg = a := cl_n (by omega)
  have clb : (nI b).toNatClampNeg = b := cl_n (by omega)
  have clk : (nI k).toNatClampNeg = k := cl_n (by omega)
  have va : vp_in (nI a) 10 := vp_in_nI ha (by decide)
  have vb : vp_in (nI b) 10 := vp_in_nI hb (by decide)
  have hLa : A 11 a = nI (layF (A 2) a) := by rw [hLy.1 a ha, if_pos ua]
  have hLb : A 11 b = nI (layF (A 2) b) := by rw [hLy.1 b hb, if_pos ub]
  have hL : ∀ p, p < 10 → usd (A 2) p = true → A 11 p = nI (layF (A 2) p) := fun p hp hu => by rw [hLy.1 p hp, if_pos hu]
  have hit : ∀ q, q < 20 → itmI (A 11) (nI a) (nI b) (nI q) = nI (idN (A 2) (10 * a + b) q) := fun q hq => itm_id hL ha hb ua ub hq
  have hmem : ∀ q, layF (A 2) a ≤ q → q ≤ layF (A 2) b → idN (A 2) (10 * a + b) q ∈ itL (A 2) q := fun q h1 h2 => mem_id hF (by omega) hs (by rw [d1]; exact h1) (by rw [d2]; exact h2)
  have eT : tpO ch I A (nI k) (nI (idN (A 2) (10 * a + b) k)) a4 = tpP (A 2) ch a4 k (spN (A 2) ch k (idN (A 2) (10 * a + b) k)) := by
    have := it_lt (hmem k hk1 hk2)
    unfold tpO
    rw [clk, cl_n (by omega)]
  have eO : bgO ch I A (nI a) (nI b) (nI k) a4 = bgV (A 2) ch a4 a b k := by
    unfold bgO
    rw [cla, clb, clk]
  rw [eO]
  refine k_X1_beginOf l D ads I A (nI a) (nI b) (nI k) a4 _ (c_X1_topOf ch l D ads) (c_X6_spotOf l D ads)
    (fun s y => ∃ t, t ≤ 10 ∧ y = nI t ∧ s = tpP (A 2) ch a4 k (spN (A 2) ch k (idN (A 2) (10 * a + b) k)) + sm32 (fun p => if stB (A 2) (10 * a + p) = true ∧ spN (A 2) ch (k + 1) (idN (A 2) (10 * a + p) (k + 1)) < spN (A 2) ch (k + 1) (idN (A 2) (10 * a + b) (k + 1)) then A 2 (10 * a + p) else 0) t)
    (fun _ y => 10 - y.toNatClampNeg) ?_
  rw [cla, clb, hLa, hLb, hit k (by omega), eT]
  refine ⟨vb, fun h => ⟨⟨va, vb⟩, ⟨hS, k, _, by omega, hmem k hk1 hk2, rfl, rfl⟩, va, fun h2 => ?_, fun h2 => qI_i ?_⟩, fun h => qI_i ?_⟩
  · have hkb : ¬ k = layF (A 2) b := fun z => h (by rw [z])
    have hka : k = layF (A 2) a := (nI_eq (by omega) (by omega)).mp h2
    have ek : nI k + 1 = nI (k + 1) := nI_1 k
    have hlk : lkB (A 2) k (10 * a + b) = true := lkB_of hs (by rw [d1]; omega) (by rw [d2]; omega)
    have ev : ∀ p, p < 10 → stB (A 2) (10 * a + p) = true → idN (A 2) (10 * a + p) (k + 1) ∈ itL (A 2) (k + 1) ∧ usd (A 2) p = true := by
      intro p hp hsp
      obtain ⟨q1, q2⟩ := dm10 (a := a) hp
      have hlp := st_lay hF (show 10 * a + p < 100 by omega) hsp
      rw [q1, q2] at hlp
      exact ⟨mem_id hF (by omega) hsp (by rw [q1]; omega) (by rw [q2]; omega), hlp.2.1⟩
    have hmk := hmem (k + 1) (by omega) (by omega)
    have eS : spO I A (nI (k + 1)) (nI (idN (A 2) (10 * a + b) (k + 1))) = nI (spN (A 2) ch (k + 1) (idN (A 2) (10 * a + b) (k + 1))) := spO_i hS (by omega) hmk
    have hn := hS.1.dw.2 (k + 1)
    have hc := (hS.2.2 (k + 1) (by omega)).1
    have hsp := spN_lt hn hc hmk
    rw [ek, hit (k + 1) (by omega), eS]
    refine ⟨⟨va, vb⟩, ⟨A 2, ch, k + 1, hS, by omega, rfl⟩, ⟨0, Nat.zero_le _, rfl, ?_⟩, ?_⟩
    · show _ = _ + (0 : Int32)
      rw [Int32.add_zero]
    rintro s y ⟨t, ht, rfl, rfl⟩
    refine ⟨fun h3 => qI_i ?_, fun h3 => ?_⟩
    · have e := cn_eq (N := 10) rfl ht (by decide) h3
      subst e
      unfold bgV
      rw [if_neg hkb, ptB_first hF ch ha hb hlk hka]
    · have ht2 := cn_lt (N := 10) rfl ht (by decide) h3
      have vt : vp_in (nI t) 10 := vp_in_nI ht2 (by decide)
      have hmu : 10 - (nI t + 1).toNatClampNeg < 10 - (nI t).toNatClampNeg := cn_mu ht2 (by decide)
      have es : strI A (nI a) (nI t) = nI (stN (A 2) (10 * a + t)) := by rw [strI_n ha ht2, hLy.2 _ (by omega), strF_n hF (by omega)]
      have hsb := stN_le hF (show 10 * a + t < 100 by omega)
      rw [es]
      have step : ∀ v, v = (if stB (A 2) (10 * a + t) = true ∧ spN (A 2) ch (k + 1) (idN (A 2) (10 * a + t) (k + 1)) < spN (A 2) ch (k + 1) (idN (A 2) (10 * a + b) (k + 1)) then A 2 (10 * a + t) else 0) → ∀ s, s = tpP (A 2) ch a4 k (spN (A 2) ch k (idN (A 2) (10 * a + b) k)) + sm32 (fun p => if stB (A 2) (10 * a + p) = true ∧ spN (A 2) ch (k + 1) (idN (A 2) (10 * a + p) (k + 1)) < spN (A 2) ch (k + 1) (idN (A 2) (10 * a + b) (k + 1)) then A 2 (10 * a + p) else 0) t + v → (∃ t_1, t_1 ≤ 10 ∧ nI t + 1 = nI t_1 ∧ s = tpP (A 2) ch a4 k (spN (A 2) ch k (idN (A 2) (10 * a + b) k)) + sm32 (fun p => if stB (A 2) (10 * a + p) = true ∧ spN (A 2) ch (k + 1) (idN (A 2) (10 * a + p) (k + 1)) < spN (A 2) ch (k + 1) (idN (A 2) (10 * a + b) (k + 1)) then A 2 (10 * a + p) else 0) t_1) := by
        rintro v rfl s rfl
        refine ⟨t + 1, ht2, nI_1 t, ?_⟩
        rw [Int32.add_assoc]
        rfl
      refine ⟨fun h4 => ⟨step 0 ?_ _ ?_, hmu⟩, fun h4 => ?_⟩
      · have h4 := (nI_lt0 (by omega)).mp h4
        rw [if_neg]
        rintro ⟨z, -⟩
        unfold stN at h4
        rw [if_pos z] at h4
        unfold stB at z
        rw [Bool.and_eq_true, decide_eq_true_eq] at z
        have := (hF.pos (show 10 * a + t < 100 by omega)).mp z.1
        omega
      · rw [Int32.add_zero]
      · have hst : stB (A 2) (10 * a + t) = true := by
          cases q : stB (A 2) (10 * a + t)
          · exfalso
            apply h4
            rw [nI_lt0 (by omega)]
            unfold stN
            rw [q, if_neg (by decide)]
          · rfl
        have hw : nI (stN (A 2) (10 * a + t)) = A 2 (10 * a + t) := by
          unfold stN
          rw [if_pos hst]
          exact (hF.eq (by omega)).1.symm
        obtain ⟨hm2, ut⟩ := ev t ht2 hst
        have eS2 : spO I A (nI (k + 1)) (nI (idN (A 2) (10 * a + t) (k + 1))) = nI (spN (A 2) ch (k + 1) (idN (A 2) (10 * a + t) (k + 1))) := spO_i hS (by omega) hm2
        have hsp2 := spN_lt hn hc hm2
        rw [itm_id hL ha ht2 ua ut (by omega), eS2, hw]
        refine ⟨⟨va, vt⟩, ⟨A 2, ch, k + 1, hS, by omega, rfl⟩, fun h5 => ⟨step 0 ?_ _ ?_, hmu⟩, fun h5 => ⟨step (A 2 (10 * a + t)) ?_ _ rfl, hmu⟩⟩
        · have h5 := (nI_leI (by omega) (by omega)).mp h5
          rw [if_neg (fun z => by omega)]
        · rw [Int32.add_zero]
        · have h5 := (nI_ltI (by omega) (by omega)).mp (nle h5)
          rw [if_pos ⟨hst, h5⟩]
  · have hkb : ¬ k = layF (A 2) b := fun z => h (by rw [z])
    have hka : ¬ k = layF (A 2) a := fun z => h2 (by rw [z])
    have hlk : lkB (A 2) k (10 * a + b) = true := lkB_of hs (by rw [d1]; omega) (by rw [d2]; omega)
    unfold bgV
    rw [if_neg hkb, ptB_mid hF ch (by omega) hlk (by rw [d1]; omega), Int32.add_zero]
  · have hkb : k = layF (A 2) b := (nI_eq (by omega) (by omega)).mp h
    unfold bgV
    rw [if_pos hkb]
