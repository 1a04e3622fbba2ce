/-! Arrays.fill in any world -/
set_option maxHeartbeats 4000000 in
set_option maxRecDepth 100000 in
theorem kg_fill (l : Launch) (D : va_G) (ads : AD) {sh : SH} (I A : HI) (a2 : Int32) (k1 n1 : Nat) (hk1 : sh[k1]? = some (.inl n1)) (po : Option AV → HI → HI → Prop) (Iv5 : Int32 → HI → Prop) (mu5 : Int32 → HI → Nat)
    (hv : (Iv5 0 A ∧ ∀ (x2_5 : Int32) (A_5 : HI), Iv5 x2_5 A_5 → (((Int32.ofNat n1) ≤ x2_5 → po none I A_5) ∧ (¬ (Int32.ofNat n1) ≤ x2_5 → (vp_in x2_5 n1 ∧ (Iv5 (x2_5 + 1) (up2 A_5 k1 x2_5.toNatClampNeg a2) ∧ mu5 (x2_5 + 1) (up2 A_5 k1 x2_5.toNatClampNeg a2) < mu5 x2_5 A_5)))))) : Ct l yJ7_fill_53178 cJ7_fill_53178 4 none 0 0 D ads sh [.inr (some k1), .inl a2] I A po := by
  refine Ct_of (by decide) (Nat.le_of_ble_eq_true rfl) ?_
  intro p e s m args below meth c hC hr
  replace hC : CX p s m args meth c cJ7_fill_53178 4 RJ7 (AdS ads s.heap.size) := hC
  show Gs sh p l e s m args below meth c D ads 0 0 4 po I A 0 [some (.inr (some k1)), some (.inl a2), none, none] []
  refine g_blk hC _ bJ7_fill_53178_0_3 (pc' := 3) (ls' := [some (.inr (some k1)), some (.inl a2), some (.inl 0), none]) (st' := [.inr (some k1)]) (I' := I) rfl rfl ?_
  refine g_alen hC dJ7_fill_53178_3 (hk1) ?_
  refine g_blk hC _ bJ7_fill_53178_4_5 (pc' := 5) (ls' := [some (.inr (some k1)), some (.inl a2), some (.inl 0), some (.inl (Int32.ofNat n1))]) (st' := []) (I' := I) rfl rfl ?_
  obtain ⟨hi5, hb5⟩ := hv
  have L5 : ∀ (n : Nat) (x2_5 : Int32) (A_5 : HI), Iv5 x2_5 A_5 → mu5 x2_5 A_5 < n → Gs sh p l e s m args below meth c D ads 0 0 4 po I A_5 5 [some (.inr (some k1)), some (.inl a2), some (.inl x2_5), some (.inl (Int32.ofNat n1))] [] := by
    intro n
    induction n with
    | zero => intro x2_5 A_5 _ hn; exact absurd hn (Nat.not_lt_zero _)
    | succ n ih5 =>
      intro x2_5 A_5 hv hn5
      replace hv := hb5 x2_5 A_5 hv
      skip
      refine g_blk hC _ bJ7_fill_53178_5_7 (pc' := 7) (ls' := [some (.inr (some k1)), some (.inl a2), some (.inl x2_5), some (.inl (Int32.ofNat n1))]) (st' := [.inl (Int32.ofNat n1), .inl x2_5]) (I' := I) rfl rfl ?_
      obtain ⟨hv1, hv2⟩ := hv
      refine g_cge hC dJ7_fill_53178_7 (tgt := 20) (by decide) (fun hc => ?_) (fun hc => ?_)
      · have hv := hv1 hc
        clear hv1 hv2 hc
        exact g_retv hC hr dJ7_fill_53178_20 hv
      · have hv := hv2 hc
        clear hv1 hv2 hc
        refine g_blk hC _ bJ7_fill_53178_10_13 (pc' := 13) (ls' := [some (.inr (some k1)), some (.inl a2), some (.inl x2_5), some (.inl (Int32.ofNat n1))]) (st' := [.inl a2, .inl x2_5, .inr (some k1)]) (I' := I) rfl rfl ?_
        obtain ⟨hi, hv⟩ := hv
        refine g_iast hC dJ7_fill_53178_13 (hk1) hi ?_
        clear hi
        refine g_blk hC _ bJ7_fill_53178_14_17 (pc' := 17) (ls' := [some (.inr (some k1)), some (.inl a2), some (.inl (x2_5 + 1)), some (.inl (Int32.ofNat n1))]) (st' := []) (I' := I) rfl rfl ?_
        refine g_goto hC dJ7_fill_53178_17 (tgt := 5) (by decide) ?_
        exact g_weak (ls1 := [some (.inr (some k1)), some (.inl a2), some (.inl (x2_5 + 1)), some (.inl (Int32.ofNat n1))]) rfl (And.intro rfl (And.intro rfl (And.intro rfl (And.intro rfl trivial)))) (ih5 (x2_5 + 1) (up2 A_5 k1 x2_5.toNatClampNeg a2) hv.1 (Nat.lt_of_lt_of_le hv.2 (Nat.le_of_lt_succ hn5)))
  exact g_weak (ls1 := [some (.inr (some k1)), some (.inl a2), some (.inl 0), some (.inl (Int32.ofNat n1))]) rfl (And.intro rfl (And.intro rfl (And.intro rfl (And.intro rfl trivial)))) (L5 _ 0 A hi5 (Nat.lt_succ_self _))
set_option maxHeartbeats 4000000 in
set_option maxRecDepth 100000 in
theorem cg_fill (l : Launch) (D : va_G) (ads : AD) {sh : SH} (I A : HI) (k1 : Nat) (a2 : Int32) (n1 : Nat) (hk1 : sh[k1]? = some (.inl n1)) (hn1 : n1 < 2 ^ 31) : Ct l yJ7_fill_53178 cJ7_fill_53178 4 none 0 0 D ads sh [.inr (some k1), .inl a2] I A (qN I (filA A k1 n1 a2)) := by
  refine kg_fill l D ads I A a2 k1 n1 hk1 _ (fun x A' => ∃ j, j ≤ n1 ∧ x = nI j ∧ A' = filA A k1 j a2) (fun x _ => n1 - x.toNatClampNeg) ⟨⟨0, Nat.zero_le _, rfl, ?_⟩, ?_⟩
  · funext a b
    simp [filA]
  · rintro x A' ⟨j, h1, rfl, rfl⟩
    refine ⟨fun h => ?_, fun h => ?_⟩
    · have e := cn_eq rfl h1 hn1 h
      subst e
      exact qN_i rfl rfl
    · have hj := cn_lt rfl h1 hn1 h
      refine ⟨vp_in_nI hj hn1, ⟨j + 1, hj, nI_1 j, ?_⟩, cn_mu hj hn1⟩
      rw [cl_n (by omega)]
      funext a b
      unfold up2 filA
      by_cases e1 : a = k1
      · by_cases e2 : b = j
        · simp [e1, e2]
        · by_cases e3 : b < j
          · simp [e1, e2, e3, Nat.lt_succ_of_lt e3]
          · simp [e1, e2, e3, show ¬ b < j + 1 by omega]
      · simp [e1]
/-- Changes(lesser) in the world at large -/
def ChN (n : Nat) (I A : HI) : Prop := I (71 + 4 * n) 0 = nI n ∧ I (71 + 4 * n) 1 = nI (facN n) ∧ ∀ t, t < facN n → (∀ i, i < n → A (72 + 4 * n) (t * n + i) = nI ((thL n t).getD i 0)) ∧ A (74 + 4 * n) t = nI (rkL (thL n t)) ∧ (0 < t → A (73 + 4 * n) t = nI (exL (thL n (t - 1)) (thL n t)))
def chL0 (n : Nat) (I A : HI) : Prop := ZA (76 + 4 * n) I A ∧ ChN n I A
def chLq (n : Nat) (I A I' A' : HI) : Prop := ZA (79 + 4 * n) I' A' ∧ ChN (n + 1) I' A' ∧ ∀ k, k < 75 + 4 * n → I' k = I k ∧ A' k = A k
def embB (n : Nat) (z z' : SH) : Bool := Nat.beq (z.take (71 + 4 * n)).length (71 + 4 * n) && (z.take (71 + 4 * n)).all (shIn z.length) && decide (z = z.take (71 + 4 * n) ++ (tw0 n).map (eC (71 + 4 * n))) && decide (z' = z.take (71 + 4 * n) ++ (twn n).map (eC (71 + 4 * n)))
theorem ChN.same {n : Nat} {I A I' A' : HI} (h : ChN n I A) (hs : ∀ k, 71 + 4 * n ≤ k → k < 75 + 4 * n → I' k = I k ∧ A' k = A k) : ChN n I' A' := by
  unfold ChN
  rw [(hs (71 + 4 * n) (by omega) (by omega)).1, (hs (72 + 4 * n) (by omega) (by omega)).2, (hs (73 + 4 * n) (by omega) (by omega)).2, (hs (74 + 4 * n) (by omega) (by omega)).2]
  exact h
theorem cG_X0_init_ (n : Nat) (hn : n < 5) (l : Launch) (D : va_G) (ads : AD) (I A : HI) {z z' : SH} (hz : embB n z z' = true) (hp : chL0 n I A) : CtG l yX0_init_ cX0_init_ 5 2 48 (0 + 1 + 1 + 1) (0 + chT (n + 1) + chN (n + 1) + chN (n + 1)) D ads z [.inr (some (71 + 4 * n + 4)), .inr (some (71 + 4 * n + 0))] I A z' (chLq n I A) := by
  unfold embB at hz
  rw [Bool.and_eq_true, Bool.and_eq_true, Bool.and_eq_true] at hz
  obtain ⟨⟨⟨z1, z2⟩, z3⟩, z4⟩ := hz
  obtain ⟨hZ, h0, h1, hA⟩ := hp
  have k := CtG_emb (ads := ads) (I := I) (A := A) (b := 71 + 4 * n) (av := [.inr (some (71 + 4 * n + 4)), .inr (some (71 + 4 * n + 0))]) (fun adsT => ct_chg l D adsT (fun k => I (71 + 4 * n + k)) (fun k => A (71 + 4 * n + k)) hn h0 h1 (fun t ht i hi => by
    rw [show 71 + 4 * n + 1 = 72 + 4 * n by omega]
    exact (hA t ht).1 i hi) ⟨fun k hk j => hZ.1 _ (by omega) j, fun k hk => hZ.2 _ (by omega)⟩) (of_decide_eq_true z3) (of_decide_eq_true z4) (Nat.eq_of_beq_eq_true z1) z2 rfl
  intro sz p e hadm hfc hfk s m args below hfr happ hP hK
  obtain ⟨n9, o, a1, a2, a3, ⟨⟨nw, I1, A1, ho, hl1, ⟨hp1, hp2⟩, hP1⟩, hF1⟩, hL⟩ := k sz p e hadm hfc hfk s m args below hfr happ hP hK
  refine ⟨n9, o, a1, a2, a3, ⟨⟨nw, I1, A1, ho, hl1, ?_, hP1⟩, hF1⟩, hL⟩
  obtain ⟨q1, q2, q3⟩ := hp2
  have eI : ∀ k, I1 (71 + 4 * n + k) = chI (fun k => I (71 + 4 * n + k)) k := fun k => congrFun q1 k
  have eIk : ∀ k, k ≠ 4 → I1 (71 + 4 * n + k) = I (71 + 4 * n + k) := fun k hk => by
    rw [eI]
    funext j
    exact chI_k hk
  have eA : ∀ k, k ≠ 5 → k ≠ 6 → k ≠ 7 → A1 (71 + 4 * n + k) = A (71 + 4 * n + k) := q2
  refine ⟨⟨fun k hk j => ?_, fun k hk => ?_⟩, ⟨?_, ?_, fun t ht => ?_⟩, fun k hk => ?_⟩
  · have := eIk (k - (71 + 4 * n)) (by omega)
    rw [show 71 + 4 * n + (k - (71 + 4 * n)) = k by omega] at this
    rw [this]
    exact hZ.1 k (by omega) j
  · have := eA (k - (71 + 4 * n)) (by omega) (by omega) (by omega)
    rw [show 71 + 4 * n + (k - (71 + 4 * n)) = k by omega] at this
    rw [this]
    exact hZ.2 k (by omega)
  · rw [show 71 + 4 * (n + 1) = 71 + 4 * n + 4 by omega, eI, chI_40]
    show I (71 + 4 * n) 0 + 1 = _
    rw [h0, nI_1]
  · rw [show 71 + 4 * (n + 1) = 71 + 4 * n + 4 by omega, eI, chI_41]
    show I (71 + 4 * n) 1 * (I (71 + 4 * n) 0 + 1) = _
    rw [h0, h1, nI_1, pk_mul]
    rfl
  · obtain ⟨w1, w2, w3⟩ := q3 t ht
    rw [show 72 + 4 * (n + 1) = 71 + 4 * n + 5 by omega, show 73 + 4 * (n + 1) = 71 + 4 * n + 6 by omega, show 74 + 4 * (n + 1) = 71 + 4 * n + 7 by omega]
    exact ⟨w1, w2, w3⟩
  · rcases Nat.lt_or_ge k (71 + 4 * n) with z | z
    · exact hp1 k z
    · have e1 := eIk (k - (71 + 4 * n)) (by omega)
      have e2 := eA (k - (71 + 4 * n)) (by omega) (by omega) (by omega)
      rw [show 71 + 4 * n + (k - (71 + 4 * n)) = k by omega] at e1 e2
      exact ⟨e1, e2⟩
