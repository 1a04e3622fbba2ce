/-! Sheet -/
/-- the first place of x among the first n, or -1 -/
def ixO (f : Nat → Int32) (n : Nat) (x : Int32) : Int32 := match (List.range n).find? (fun i => f i == x) with
  | some i => nI i
  | none => -1
def fitI (f : Nat → Int32) : Int32 := if (List.range 11).all (fun l => decide (f l ≤ 5)) then 1 else 0
def addA (A : HI) (l x : Int32) : HI := if A 25 l.toNatClampNeg < 26 then up2 (up2 A (15 + l.toNatClampNeg) (A 25 l.toNatClampNeg).toNatClampNeg x) 25 l.toNatClampNeg (A 25 l.toNatClampNeg + 1) else A
def aBe0 (A : HI) (a b : Int32) : Prop := True
def aBe (A : HI) (a b : Int32) (A' : HI) : Prop := True
def fil0 (I A : HI) : Prop := True
def fil (A A' : HI) : Prop := True
theorem bX7_countIn_0_5 : okB cX7_countIn RX7 0 [(5, 0, 0, 0, 0), (23, 16, 7, 2, 0), (3, 1, 0, 0, 0)] := And.intro ⟨_, dX7_countIn_0, rfl⟩ (And.intro ⟨dX7_countIn_1, fl_X7_16⟩ (And.intro ⟨_, dX7_countIn_4, rfl⟩ trivial))
set_option maxHeartbeats 4000000 in
set_option maxRecDepth 100000 in
theorem k_X7_countIn (l : Launch) (D : va_G) (ads : AD) (I A : HI) (a1 : Int32) (po : Option AV → HI → HI → Prop)
    (hv : (vp_in a1 11 ∧ po (some (.inl (A 25 a1.toNatClampNeg))) I A)) : Ct l yX7_countIn cX7_countIn 2 (some .int) 0 0 D ads shp [.inr (some 13), .inl a1] I A po := by
  refine Ct_of (by decide) (Nat.le_of_ble_eq_true rfl) ?_
  intro p e s m args below meth c hC hr
  replace hC : CX p s m args meth c cX7_countIn 2 RX7 (AdS ads s.heap.size) := hC
  show Gm p l e s m args below meth c D ads 0 0 2 po I A 0 [some (.inr (some 13)), some (.inl a1)] []
  refine g_blk hC _ bX7_countIn_0_5 (pc' := 5) (ls' := [some (.inr (some 13)), some (.inl a1)]) (st' := [.inl a1, .inr (some 25)]) (I' := I) rfl rfl ?_
  obtain ⟨hi, hv⟩ := hv
  refine g_iald hC dX7_countIn_5 (rfl) hi ?_
  clear hi
  exact g_reti hC hr rfl dX7_countIn_6 hv
set_option maxHeartbeats 4000000 in
set_option maxRecDepth 100000 in
theorem c_X7_countIn (l : Launch) (D : va_G) (ads : AD) (I A : HI) (a1 : Int32) (hp : vp_in a1 11) : Ct l yX7_countIn cX7_countIn 2 (some .int) 0 0 D ads shp [.inr (some 13), .inl a1] I A (qI (A 25 a1.toNatClampNeg) I A) := by
  sorry
theorem bX7_numberAt_0_5 : okB cX7_numberAt RX7 0 [(5, 0, 0, 0, 0), (23, 11, 7, 1, 0), (3, 1, 0, 0, 0)] := And.intro ⟨_, dX7_numberAt_0, rfl⟩ (And.intro ⟨dX7_numberAt_1, fl_X7_11⟩ (And.intro ⟨_, dX7_numberAt_4, rfl⟩ trivial))
theorem bX7_numberAt_6_7 : okB cX7_numberAt RX7 6 [(3, 2, 0, 0, 0)] := And.intro ⟨_, dX7_numberAt_6, rfl⟩ trivial
set_option maxHeartbeats 4000000 in
set_option maxRecDepth 100000 in
theorem k_X7_numberAt (l : Launch) (D : va_G) (ads : AD) (I A : HI) (a1 : Int32) (a2 : Int32) (po : Option AV → HI → HI → Prop)
    (hv : (vp_in a1 10 ∧ (vp_in a2 26 ∧ po (some (.inl (A (15 + a1.toNatClampNeg) a2.toNatClampNeg))) I A))) : Ct l yX7_numberAt cX7_numberAt 3 (some .int) 0 0 D ads shp [.inr (some 13), .inl a1, .inl a2] I A po := by
  refine Ct_of (by decide) (Nat.le_of_ble_eq_true rfl) ?_
  intro p e s m args below meth c hC hr
  replace hC : CX p s m args meth c cX7_numberAt 3 RX7 (AdS ads s.heap.size) := hC
  show Gm p l e s m args below meth c D ads 0 0 3 po I A 0 [some (.inr (some 13)), some (.inl a1), some (.inl a2)] []
  refine g_blk hC _ bX7_numberAt_0_5 (pc' := 5) (ls' := [some (.inr (some 13)), some (.inl a1), some (.inl a2)]) (st' := [.inl a1, .inr (some 14)]) (I' := I) rfl rfl ?_
  obtain ⟨hr1, hv⟩ := hv
  refine g_aald hC dX7_numberAt_5 (f := _) rfl hr1 (ra_14 (vin_lt hr1)) ?_
  refine g_blk hC _ bX7_numberAt_6_7 (pc' := 7) (ls' := [some (.inr (some 13)), some (.inl a1), some (.inl a2)]) (st' := [.inl a2, .inr (some (15 + a1.toNatClampNeg))]) (I' := I) rfl rfl ?_
  obtain ⟨hi, hv⟩ := hv
  refine g_iald hC dX7_numberAt_7 (rw_14 (vin_lt hr1)) hi ?_
  clear hi
  exact g_reti hC hr rfl dX7_numberAt_8 hv
set_option maxHeartbeats 4000000 in
set_option maxRecDepth 100000 in
theorem c_X7_numberAt (l : Launch) (D : va_G) (ads : AD) (I A : HI) (a1 : Int32) (a2 : Int32) (hp : vp_in a1 10 ∧ vp_in a2 26) : Ct l yX7_numberAt cX7_numberAt 3 (some .int) 0 0 D ads shp [.inr (some 13), .inl a1, .inl a2] I A (qI (A (15 + a1.toNatClampNeg) a2.toNatClampNeg) I A) := by
  sorry
theorem bX7_indexOf_0_2 : okB cX7_indexOf RX7 0 [(0, 0, 0, 0, 0), (7, 3, 0, 0, 0)] := And.intro ⟨_, dX7_indexOf_0, by decide⟩ (And.intro ⟨_, dX7_indexOf_1, rfl⟩ trivial)
theorem bX7_indexOf_2_8 : okB cX7_indexOf RX7 2 [(3, 3, 0, 0, 0), (5, 0, 0, 0, 0), (23, 16, 7, 2, 0), (3, 1, 0, 0, 0)] := And.intro ⟨_, dX7_indexOf_2, rfl⟩ (And.intro ⟨_, dX7_indexOf_3, rfl⟩ (And.intro ⟨dX7_indexOf_4, fl_X7_16⟩ (And.intro ⟨_, dX7_indexOf_7, rfl⟩ trivial)))
theorem bX7_indexOf_32_33 : okB cX7_indexOf RX7 32 [(0, 0, 0, 0, (-1))] := And.intro ⟨_, dX7_indexOf_32, by decide⟩ trivial
theorem bX7_indexOf_12_17 : okB cX7_indexOf RX7 12 [(5, 0, 0, 0, 0), (23, 11, 7, 1, 0), (3, 1, 0, 0, 0)] := And.intro ⟨_, dX7_indexOf_12, rfl⟩ (And.intro ⟨dX7_indexOf_13, fl_X7_11⟩ (And.intro ⟨_, dX7_indexOf_16, rfl⟩ trivial))
theorem bX7_indexOf_18_19 : okB cX7_indexOf RX7 18 [(3, 3, 0, 0, 0)] := And.intro ⟨_, dX7_indexOf_18, rfl⟩ trivial
theorem bX7_indexOf_20_21 : okB cX7_indexOf RX7 20 [(3, 2, 0, 0, 0)] := And.intro ⟨_, dX7_indexOf_20, rfl⟩ trivial
theorem bX7_indexOf_26_29 : okB cX7_indexOf RX7 26 [(11, 3, 0, 0, 1)] := And.intro ⟨_, dX7_indexOf_26, by decide⟩ trivial
theorem bX7_indexOf_24_25 : okB cX7_indexOf RX7 24 [(3, 3, 0, 0, 0)] := And.intro ⟨_, dX7_indexOf_24, rfl⟩ trivial
set_option maxHeartbeats 4000000 in
set_option maxRecDepth 100000 in
theorem k_X7_indexOf (l : Launch) (D : va_G) (ads : AD) (I A : HI) (a1 : Int32) (a2 : Int32) (po : Option AV → HI → HI → Prop) (Iv2 : Int32 → Prop) (mu2 : Int32 → Nat)
    (hv : (Iv2 0 ∧ ∀ (x3_2 : Int32), Iv2 x3_2 → (vp_in a1 11 ∧ (((A 25 a1.toNatClampNeg) ≤ x3_2 → po (some (.inl ((-1)))) I A) ∧ (¬ (A 25 a1.toNatClampNeg) ≤ x3_2 → (vp_in a1 10 ∧ (vp_in x3_2 26 ∧ ((¬ (A (15 + a1.toNatClampNeg) x3_2.toNatClampNeg) = a2 → (Iv2 (x3_2 + 1) ∧ mu2 (x3_2 + 1) < mu2 x3_2)) ∧ ((A (15 + a1.toNatClampNeg) x3_2.toNatClampNeg) = a2 → po (some (.inl x3_2)) I A))))))))) : Ct l yX7_indexOf cX7_indexOf 4 (some .int) 0 0 D ads shp [.inr (some 13), .inl a1, .inl a2] I A po := by
  refine Ct_of (by decide) (Nat.le_of_ble_eq_true rfl) ?_
  intro p e s m args below meth c hC hr
  replace hC : CX p s m args meth c cX7_indexOf 4 RX7 (AdS ads s.heap.size) := hC
  show Gm p l e s m args below meth c D ads 0 0 4 po I A 0 [some (.inr (some 13)), some (.inl a1), some (.inl a2), none] []
  refine g_blk hC _ bX7_indexOf_0_2 (pc' := 2) (ls' := [some (.inr (some 13)), some (.inl a1), some (.inl a2), some (.inl 0)]) (st' := []) (I' := I) rfl rfl ?_
  obtain ⟨hi2, hb2⟩ := hv
  have L2 : ∀ (n : Nat) (x3_2 : Int32), Iv2 x3_2 → mu2 x3_2 < n → Gm p l e s m args below meth c D ads 0 0 4 po I A 2 [some (.inr (some 13)), some (.inl a1), some (.inl a2), some (.inl x3_2)] [] := by
    intro n
    induction n with
    | zero => intro x3_2 _ hn; exact absurd hn (Nat.not_lt_zero _)
    | succ n ih2 =>
      intro x3_2 hv hn2
      replace hv := hb2 x3_2 hv
      skip
      refine g_blk hC _ bX7_indexOf_2_8 (pc' := 8) (ls' := [some (.inr (some 13)), some (.inl a1), some (.inl a2), some (.inl x3_2)]) (st' := [.inl a1, .inr (some 25), .inl x3_2]) (I' := I) rfl rfl ?_
      obtain ⟨hi, hv⟩ := hv
      refine g_iald hC dX7_indexOf_8 (rfl) hi ?_
      clear hi
      obtain ⟨hv1, hv2⟩ := hv
      refine g_cge hC dX7_indexOf_9 (tgt := 32) (by decide) (fun hc => ?_) (fun hc => ?_)
      · have hv := hv1 hc
        clear hv1 hv2 hc
        refine g_blk hC _ bX7_indexOf_32_33 (pc' := 33) (ls' := [some (.inr (some 13)), some (.inl a1), some (.inl a2), some (.inl x3_2)]) (st' := [.inl ((-1))]) (I' := I) rfl rfl ?_
        exact g_reti hC hr rfl dX7_indexOf_33 hv
      · have hv := hv2 hc
        clear hv1 hv2 hc
        refine g_blk hC _ bX7_indexOf_12_17 (pc' := 17) (ls' := [some (.inr (some 13)), some (.inl a1), some (.inl a2), some (.inl x3_2)]) (st' := [.inl a1, .inr (some 14)]) (I' := I) rfl rfl ?_
        obtain ⟨hr1, hv⟩ := hv
        refine g_aald hC dX7_indexOf_17 (f := _) rfl hr1 (ra_14 (vin_lt hr1)) ?_
        refine g_blk hC _ bX7_indexOf_18_19 (pc' := 19) (ls' := [some (.inr (some 13)), some (.inl a1), some (.inl a2), some (.inl x3_2)]) (st' := [.inl x3_2, .inr (some (15 + a1.toNatClampNeg))]) (I' := I) rfl rfl ?_
        obtain ⟨hi, hv⟩ := hv
        refine g_iald hC dX7_indexOf_19 (rw_14 (vin_lt hr1)) hi ?_
        clear hi
        refine g_blk hC _ bX7_indexOf_20_21 (pc' := 21) (ls' := [some (.inr (some 13)), some (.inl a1), some (.inl a2), some (.inl x3_2)]) (st' := [.inl a2, .inl (A (15 + a1.toNatClampNeg) x3_2.toNatClampNeg)]) (I' := I) rfl rfl ?_
        obtain ⟨hv1, hv2⟩ := hv
        refine g_cne hC dX7_indexOf_21 (tgt := 26) (by decide) (fun hc => ?_) (fun hc => ?_)
        · have hv := hv1 hc
          clear hv1 hv2 hc
          refine g_blk hC _ bX7_indexOf_26_29 (pc' := 29) (ls' := [some (.inr (some 13)), some (.inl a1), some (.inl a2), some (.inl (x3_2 + 1))]) (st' := []) (I' := I) rfl rfl ?_
          refine g_goto hC dX7_indexOf_29 (tgt := 2) (by decide) ?_
          exact g_weak (ls1 := [some (.inr (some 13)), some (.inl a1), some (.inl a2), some (.inl (x3_2 + 1))]) rfl (And.intro rfl (And.intro rfl (And.intro rfl (And.intro rfl trivial)))) (ih2 (x3_2 + 1) hv.1 (Nat.lt_of_lt_of_le hv.2 (Nat.le_of_lt_succ hn2)))
        · have hv := hv2 hc
          clear hv1 hv2 hc
          refine g_blk hC _ bX7_indexOf_24_25 (pc' := 25) (ls' := [some (.inr (some 13)), some (.inl a1), some (.inl a2), some (.inl x3_2)]) (st' := [.inl x3_2]) (I' := I) rfl rfl ?_
          exact g_reti hC hr rfl dX7_indexOf_25 hv
  exact g_weak (ls1 := [some (.inr (some 13)), some (.inl a1), some (.inl a2), some (.inl 0)]) rfl (And.intro rfl (And.intro rfl (And.intro rfl (And.intro rfl trivial)))) (L2 _ 0 hi2 (Nat.lt_succ_self _))
set_option maxHeartbeats 4000000 in
set_option maxRecDepth 100000 in
theorem c_X7_indexOf (l : Launch) (D : va_G) (ads : AD) (I A : HI) (a1 : Int32) (a2 : Int32) (hp : vp_in a1 10 ∧ A 25 a1.toNatClampNeg ≤ 26) : Ct l yX7_indexOf cX7_indexOf 4 (some .int) 0 0 D ads shp [.inr (some 13), .inl a1, .inl a2] I A (qI (ixO (A (15 + a1.toNatClampNeg)) (A 25 a1.toNatClampNeg).toNatClampNeg a2) I A) := by
  sorry
theorem bX7_fits_0_10 : okB cX7_fits RX7 0 [(5, 0, 0, 0, 0), (23, 16, 7, 2, 0), (9, 1, 0, 0, 0), (5, 1, 0, 0, 0), (27, 0, 0, 0, 0), (7, 2, 0, 0, 0), (0, 0, 0, 0, 0), (7, 3, 0, 0, 0)] := And.intro ⟨_, dX7_fits_0, rfl⟩ (And.intro ⟨dX7_fits_1, fl_X7_16⟩ (And.intro ⟨_, dX7_fits_4, rfl⟩ (And.intro ⟨_, dX7_fits_5, rfl⟩ (And.intro dX7_fits_6 (And.intro ⟨_, dX7_fits_7, rfl⟩ (And.intro ⟨_, dX7_fits_8, by decide⟩ (And.intro ⟨_, dX7_fits_9, rfl⟩ trivial)))))))
theorem bX7_fits_10_12 : okB cX7_fits RX7 10 [(3, 3, 0, 0, 0), (3, 2, 0, 0, 0)] := And.intro ⟨_, dX7_fits_10, rfl⟩ (And.intro ⟨_, dX7_fits_11, rfl⟩ trivial)
theorem bX7_fits_34_35 : okB cX7_fits RX7 34 [(0, 0, 0, 0, 1)] := And.intro ⟨_, dX7_fits_34, by decide⟩ trivial
theorem bX7_fits_15_17 : okB cX7_fits RX7 15 [(5, 1, 0, 0, 0), (3, 3, 0, 0, 0)] := And.intro ⟨_, dX7_fits_15, rfl⟩ (And.intro ⟨_, dX7_fits_16, rfl⟩ trivial)
theorem bX7_fits_18_23 : okB cX7_fits RX7 18 [(8, 4, 0, 0, 0), (4, 4, 0, 0, 0), (0, 0, 0, 0, 5)] := And.intro dX7_fits_18 (And.intro dX7_fits_20 (And.intro ⟨_, dX7_fits_22, by decide⟩ trivial))
theorem bX7_fits_28_31 : okB cX7_fits RX7 28 [(11, 3, 0, 0, 1)] := And.intro ⟨_, dX7_fits_28, by decide⟩ trivial
theorem bX7_fits_26_27 : okB cX7_fits RX7 26 [(0, 0, 0, 0, 0)] := And.intro ⟨_, dX7_fits_26, by decide⟩ trivial
set_option maxHeartbeats 4000000 in
set_option maxRecDepth 100000 in
theorem k_X7_fits (l : Launch) (D : va_G) (ads : AD) (I A : HI) (po : Option AV → HI → HI → Prop) (Iv10 : Int32 → Prop) (mu10 : Int32 → Nat)
    (hv : (Iv10 0 ∧ ∀ (x3_10 : Int32), Iv10 x3_10 → (((Int32.ofNat 11) ≤ x3_10 → po (some (.inl 1)) I A) ∧ (¬ (Int32.ofNat 11) ≤ x3_10 → (vp_in x3_10 11 ∧ (((A 25 x3_10.toNatClampNeg) ≤ 5 → (Iv10 (x3_10 + 1) ∧ mu10 (x3_10 + 1) < mu10 x3_10)) ∧ (¬ (A 25 x3_10.toNatClampNeg) ≤ 5 → po (some (.inl 0)) I A))))))) : Ct l yX7_fits cX7_fits 5 (some .boolean) 0 0 D ads shp [.inr (some 13)] I A po := by
  refine Ct_of (by decide) (Nat.le_of_ble_eq_true rfl) ?_
  intro p e s m args below meth c hC hr
  replace hC : CX p s m args meth c cX7_fits 5 RX7 (AdS ads s.heap.size) := hC
  show Gm p l e s m args below meth c D ads 0 0 5 po I A 0 [some (.inr (some 13)), none, none, none, none] []
  refine g_blk hC _ bX7_fits_0_10 (pc' := 10) (ls' := [some (.inr (some 13)), some (.inr (some 25)), some (.inl (Int32.ofNat 11)), some (.inl 0), none]) (st' := []) (I' := I) rfl rfl ?_
  obtain ⟨hi10, hb10⟩ := hv
  have L10 : ∀ (n : Nat) (x3_10 : Int32), Iv10 x3_10 → mu10 x3_10 < n → Gm p l e s m args below meth c D ads 0 0 5 po I A 10 [none, some (.inr (some 25)), some (.inl (Int32.ofNat 11)), some (.inl x3_10), none] [] := by
    intro n
    induction n with
    | zero => intro x3_10 _ hn; exact absurd hn (Nat.not_lt_zero _)
    | succ n ih10 =>
      intro x3_10 hv hn10
      replace hv := hb10 x3_10 hv
      skip
      refine g_blk hC _ bX7_fits_10_12 (pc' := 12) (ls' := [none, some (.inr (some 25)), some (.inl (Int32.ofNat 11)), some (.inl x3_10), none]) (st' := [.inl (Int32.ofNat 11), .inl x3_10]) (I' := I) rfl rfl ?_
      obtain ⟨hv1, hv2⟩ := hv
      refine g_cge hC dX7_fits_12 (tgt := 34) (by decide) (fun hc => ?_) (fun hc => ?_)
      · have hv := hv1 hc
        clear hv1 hv2 hc
        refine g_blk hC _ bX7_fits_34_35 (pc' := 35) (ls' := [none, some (.inr (some 25)), some (.inl (Int32.ofNat 11)), some (.inl x3_10), none]) (st' := [.inl 1]) (I' := I) rfl rfl ?_
        exact g_reti hC hr (by decide) dX7_fits_35 hv
      · have hv := hv2 hc
        clear hv1 hv2 hc
        refine g_blk hC _ bX7_fits_15_17 (pc' := 17) (ls' := [none, some (.inr (some 25)), some (.inl (Int32.ofNat 11)), some (.inl x3_10), none]) (st' := [.inl x3_10, .inr (some 25)]) (I' := I) rfl rfl ?_
        obtain ⟨hi, hv⟩ := hv
        refine g_iald hC dX7_fits_17 (rfl) hi ?_
        clear hi
        refine g_blk hC _ bX7_fits_18_23 (pc' := 23) (ls' := [none, some (.inr (some 25)), some (.inl (Int32.ofNat 11)), some (.inl x3_10), some (.inl (A 25 x3_10.toNatClampNeg))]) (st' := [.inl 5, .inl (A 25 x3_10.toNatClampNeg)]) (I' := I) rfl rfl ?_
        obtain ⟨hv1, hv2⟩ := hv
        refine g_cle hC dX7_fits_23 (tgt := 28) (by decide) (fun hc => ?_) (fun hc => ?_)
        · have hv := hv1 hc
          clear hv1 hv2 hc
          refine g_blk hC _ bX7_fits_28_31 (pc' := 31) (ls' := [none, some (.inr (some 25)), some (.inl (Int32.ofNat 11)), some (.inl (x3_10 + 1)), some (.inl (A 25 x3_10.toNatClampNeg))]) (st' := []) (I' := I) rfl rfl ?_
          refine g_goto hC dX7_fits_31 (tgt := 10) (by decide) ?_
          exact g_weak (ls1 := [none, some (.inr (some 25)), some (.inl (Int32.ofNat 11)), some (.inl (x3_10 + 1)), none]) rfl (And.intro rfl (And.intro rfl (And.intro rfl trivial))) (ih10 (x3_10 + 1) hv.1 (Nat.lt_of_lt_of_le hv.2 (Nat.le_of_lt_succ hn10)))
        · have hv := hv2 hc
          clear hv1 hv2 hc
          refine g_blk hC _ bX7_fits_26_27 (pc' := 27) (ls' := [none, some (.inr (some 25)), some (.inl (Int32.ofNat 11)), some (.inl x3_10), some (.inl (A 25 x3_10.toNatClampNeg))]) (st' := [.inl 0]) (I' := I) rfl rfl ?_
          exact g_reti hC hr (by decide) dX7_fits_27 hv
  exact g_weak (ls1 := [none, some (.inr (some 25)), some (.inl (Int32.ofNat 11)), some (.inl 0), none]) rfl (And.intro rfl (And.intro rfl (And.intro rfl trivial))) (L10 _ 0 hi10 (Nat.lt_succ_self _))
set_option maxHeartbeats 4000000 in
set_option maxRecDepth 100000 in
theorem c_X7_fits (l : Launch) (D : va_G) (ads : AD) (I A : HI) : Ct l yX7_fits cX7_fits 5 (some .boolean) 0 0 D ads shp [.inr (some 13)] I A (qI (fitI (A 25)) I A) := by
  sorry
theorem bX7_add_0_5 : okB cX7_add RX7 0 [(5, 0, 0, 0, 0), (23, 16, 7, 2, 0), (3, 1, 0, 0, 0)] := And.intro ⟨_, dX7_add_0, rfl⟩ (And.intro ⟨dX7_add_1, fl_X7_16⟩ (And.intro ⟨_, dX7_add_4, rfl⟩ trivial))
theorem bX7_add_6_11 : okB cX7_add RX7 6 [(5, 0, 0, 0, 0), (23, 11, 7, 1, 0), (3, 1, 0, 0, 0)] := And.intro ⟨_, dX7_add_6, rfl⟩ (And.intro ⟨dX7_add_7, fl_X7_11⟩ (And.intro ⟨_, dX7_add_10, rfl⟩ trivial))
theorem bX7_add_16_21 : okB cX7_add RX7 16 [(5, 0, 0, 0, 0), (23, 11, 7, 1, 0), (3, 1, 0, 0, 0)] := And.intro ⟨_, dX7_add_16, rfl⟩ (And.intro ⟨dX7_add_17, fl_X7_11⟩ (And.intro ⟨_, dX7_add_20, rfl⟩ trivial))
theorem bX7_add_22_27 : okB cX7_add RX7 22 [(5, 0, 0, 0, 0), (23, 16, 7, 2, 0), (3, 1, 0, 0, 0)] := And.intro ⟨_, dX7_add_22, rfl⟩ (And.intro ⟨dX7_add_23, fl_X7_16⟩ (And.intro ⟨_, dX7_add_26, rfl⟩ trivial))
theorem bX7_add_28_29 : okB cX7_add RX7 28 [(3, 2, 0, 0, 0)] := And.intro ⟨_, dX7_add_28, rfl⟩ trivial
theorem bX7_add_30_36 : okB cX7_add RX7 30 [(5, 0, 0, 0, 0), (23, 16, 7, 2, 0), (3, 1, 0, 0, 0), (22, 0, 0, 0, 0)] := And.intro ⟨_, dX7_add_30, rfl⟩ (And.intro ⟨dX7_add_31, fl_X7_16⟩ (And.intro ⟨_, dX7_add_34, rfl⟩ (And.intro dX7_add_35 trivial)))
theorem bX7_add_37_39 : okB cX7_add RX7 37 [(0, 0, 0, 0, 1), (12, 0, 0, 0, 0)] := And.intro ⟨_, dX7_add_37, by decide⟩ (And.intro dX7_add_38 trivial)
set_option maxHeartbeats 4000000 in
set_option maxRecDepth 100000 in
theorem k_X7_add (l : Launch) (D : va_G) (ads : AD) (I A : HI) (a1 : Int32) (a2 : Int32) (po : Option AV → HI → HI → Prop)
    (hv : (vp_in a1 11 ∧ (vp_in a1 10 ∧ (((Int32.ofNat 26) ≤ (A 25 a1.toNatClampNeg) → po none I A) ∧ (¬ (Int32.ofNat 26) ≤ (A 25 a1.toNatClampNeg) → (vp_in a1 10 ∧ (vp_in a1 11 ∧ (vp_in (A 25 a1.toNatClampNeg) 26 ∧ (vp_in a1 11 ∧ (vp_in a1 11 ∧ po none I (up2 (up2 A (15 + a1.toNatClampNeg) (A 25 a1.toNatClampNeg).toNatClampNeg a2) 25 a1.toNatClampNeg (((up2 A (15 + a1.toNatClampNeg) (A 25 a1.toNatClampNeg).toNatClampNeg a2) 25 a1.toNatClampNeg) + 1)))))))))))) : Ct l yX7_add cX7_add 3 none 0 0 D ads shp [.inr (some 13), .inl a1, .inl a2] I A po := by
  refine Ct_of (by decide) (Nat.le_of_ble_eq_true rfl) ?_
  intro p e s m args below meth c hC hr
  replace hC : CX p s m args meth c cX7_add 3 RX7 (AdS ads s.heap.size) := hC
  show Gm p l e s m args below meth c D ads 0 0 3 po I A 0 [some (.inr (some 13)), some (.inl a1), some (.inl a2)] []
  refine g_blk hC _ bX7_add_0_5 (pc' := 5) (ls' := [some (.inr (some 13)), some (.inl a1), some (.inl a2)]) (st' := [.inl a1, .inr (some 25)]) (I' := I) rfl rfl ?_
  obtain ⟨hi, hv⟩ := hv
  refine g_iald hC dX7_add_5 (rfl) hi ?_
  clear hi
  refine g_blk hC _ bX7_add_6_11 (pc' := 11) (ls' := [some (.inr (some 13)), some (.inl a1), some (.inl a2)]) (st' := [.inl a1, .inr (some 14), .inl (A 25 a1.toNatClampNeg)]) (I' := I) rfl rfl ?_
  obtain ⟨hr1, hv⟩ := hv
  refine g_aald hC dX7_add_11 (f := _) rfl hr1 (ra_14 (vin_lt hr1)) ?_
  refine g_alen hC dX7_add_12 (rw_14 (vin_lt hr1)) ?_
  obtain ⟨hv1, hv2⟩ := hv
  refine g_cge hC dX7_add_13 (tgt := 40) (by decide) (fun hc => ?_) (fun hc => ?_)
  · have hv := hv1 hc
    clear hv1 hv2 hc
    exact g_retv hC hr dX7_add_40 hv
  · have hv := hv2 hc
    clear hv1 hv2 hc
    refine g_blk hC _ bX7_add_16_21 (pc' := 21) (ls' := [some (.inr (some 13)), some (.inl a1), some (.inl a2)]) (st' := [.inl a1, .inr (some 14)]) (I' := I) rfl rfl ?_
    obtain ⟨hr2, hv⟩ := hv
    refine g_aald hC dX7_add_21 (f := _) rfl hr2 (ra_14 (vin_lt hr2)) ?_
    refine g_blk hC _ bX7_add_22_27 (pc' := 27) (ls' := [some (.inr (some 13)), some (.inl a1), some (.inl a2)]) (st' := [.inl a1, .inr (some 25), .inr (some (15 + a1.toNatClampNeg))]) (I' := I) rfl rfl ?_
    obtain ⟨hi, hv⟩ := hv
    refine g_iald hC dX7_add_27 (rfl) hi ?_
    clear hi
    refine g_blk hC _ bX7_add_28_29 (pc' := 29) (ls' := [some (.inr (some 13)), some (.inl a1), some (.inl a2)]) (st' := [.inl a2, .inl (A 25 a1.toNatClampNeg), .inr (some (15 + a1.toNatClampNeg))]) (I' := I) rfl rfl ?_
    obtain ⟨hi, hv⟩ := hv
    refine g_iast hC dX7_add_29 (rw_14 (vin_lt hr2)) hi ?_
    clear hi
    refine g_blk hC _ bX7_add_30_36 (pc' := 36) (ls' := [some (.inr (some 13)), some (.inl a1), some (.inl a2)]) (st' := [.inl a1, .inr (some 25), .inl a1, .inr (some 25)]) (I' := I) rfl rfl ?_
    obtain ⟨hi, hv⟩ := hv
    refine g_iald hC dX7_add_36 (rfl) hi ?_
    clear hi
    refine g_blk hC _ bX7_add_37_39 (pc' := 39) (ls' := [some (.inr (some 13)), some (.inl a1), some (.inl a2)]) (st' := [.inl (((up2 A (15 + a1.toNatClampNeg) (A 25 a1.toNatClampNeg).toNatClampNeg a2) 25 a1.toNatClampNeg) + 1), .inl a1, .inr (some 25)]) (I' := I) rfl rfl ?_
    obtain ⟨hi, hv⟩ := hv
    refine g_iast hC dX7_add_39 (rfl) hi ?_
    clear hi
    exact g_retv hC hr dX7_add_40 hv
set_option maxHeartbeats 4000000 in
set_option maxRecDepth 100000 in
theorem c_X7_add (l : Launch) (D : va_G) (ads : AD) (I A : HI) (a1 : Int32) (a2 : Int32) (hp : vp_in a1 10 ∧ 0 ≤ A 25 a1.toNatClampNeg) : Ct l yX7_add cX7_add 3 none 0 0 D ads shp [.inr (some 13), .inl a1, .inl a2] I A (qN I (addA A a1 a2)) := by
  sorry
theorem bX7_addBeads_0_5 : okB cX7_addBeads RX7 0 [(5, 0, 0, 0, 0), (23, 20, 7, 0, 0), (3, 1, 0, 0, 0)] := And.intro ⟨_, dX7_addBeads_0, rfl⟩ (And.intro ⟨dX7_addBeads_1, fl_X7_20⟩ (And.intro ⟨_, dX7_addBeads_4, rfl⟩ trivial))
theorem bX7_addBeads_8_11 : okB cX7_addBeads RX7 8 [(0, 0, 0, 0, 1), (12, 0, 0, 0, 0), (7, 3, 0, 0, 0)] := And.intro ⟨_, dX7_addBeads_8, by decide⟩ (And.intro dX7_addBeads_9 (And.intro ⟨_, dX7_addBeads_10, rfl⟩ trivial))
theorem bX7_addBeads_11_17 : okB cX7_addBeads RX7 11 [(3, 3, 0, 0, 0), (5, 0, 0, 0, 0), (23, 20, 7, 0, 0), (3, 2, 0, 0, 0)] := And.intro ⟨_, dX7_addBeads_11, rfl⟩ (And.intro ⟨_, dX7_addBeads_12, rfl⟩ (And.intro ⟨dX7_addBeads_13, fl_X7_20⟩ (And.intro ⟨_, dX7_addBeads_16, rfl⟩ trivial)))
theorem bX7_addBeads_23_34 : okB cX7_addBeads RX7 23 [(5, 0, 0, 0, 0), (3, 3, 0, 0, 0), (1, 0, 0, 0, 100), (1, 0, 0, 0, 10), (3, 1, 0, 0, 0), (14, 0, 0, 0, 0), (12, 0, 0, 0, 0), (3, 2, 0, 0, 0), (12, 0, 0, 0, 0)] := And.intro ⟨_, dX7_addBeads_23, rfl⟩ (And.intro ⟨_, dX7_addBeads_24, rfl⟩ (And.intro ⟨_, dX7_addBeads_25, by decide⟩ (And.intro ⟨_, dX7_addBeads_27, by decide⟩ (And.intro ⟨_, dX7_addBeads_29, rfl⟩ (And.intro dX7_addBeads_30 (And.intro dX7_addBeads_31 (And.intro ⟨_, dX7_addBeads_32, rfl⟩ (And.intro dX7_addBeads_33 trivial))))))))
theorem bX7_addBeads_37_40 : okB cX7_addBeads RX7 37 [(11, 3, 0, 0, 1)] := And.intro ⟨_, dX7_addBeads_37, by decide⟩ trivial
set_option maxHeartbeats 4000000 in
set_option maxRecDepth 100000 in
theorem k_X7_addBeads (l : Launch) (D : va_G) (ads : AD) (I A : HI) (a1 : Int32) (a2 : Int32) (po : Option AV → HI → HI → Prop) (Iv11 : Int32 → HI → Prop) (mu11 : Int32 → HI → Nat)
    (hv : ((vp_in a1 10) ∧ (Iv11 ((A 11 a1.toNatClampNeg) + 1) A ∧ ∀ (x3_11 : Int32) (A_11 : HI), Iv11 x3_11 A_11 → ((vp_in a2 10) ∧ (((A_11 11 a2.toNatClampNeg) ≤ x3_11 → po none I A_11) ∧ (¬ (A_11 11 a2.toNatClampNeg) ≤ x3_11 → ((vp_in x3_11 10 ∧ 0 ≤ A_11 25 x3_11.toNatClampNeg) ∧ (Iv11 (x3_11 + 1) (addA A_11 x3_11 ((100 + (10 * a1)) + a2)) ∧ mu11 (x3_11 + 1) (addA A_11 x3_11 ((100 + (10 * a1)) + a2)) < mu11 x3_11 A_11)))))))) : Ct l yX7_addBeads cX7_addBeads 4 none 1 22 D ads shp [.inr (some 13), .inl a1, .inl a2] I A po := by
  refine Ct_of (by decide) (Nat.le_of_ble_eq_true rfl) ?_
  intro p e s m args below meth c hC hr
  replace hC : CX p s m args meth c cX7_addBeads 4 RX7 (AdS ads s.heap.size) := hC
  show Gm p l e s m args below meth c D ads 1 22 4 po I A 0 [some (.inr (some 13)), some (.inl a1), some (.inl a2), none] []
  refine g_blk hC _ bX7_addBeads_0_5 (pc' := 5) (ls' := [some (.inr (some 13)), some (.inl a1), some (.inl a2), none]) (st' := [.inl a1, .inr (some 3)]) (I' := I) rfl rfl ?_
  obtain ⟨hp1, hv⟩ := hv
  refine g_callV hC (c_X5_layerOf l D ads I A a1 hp1) dX7_addBeads_5 nm_X5_layerOf rfl rfl wl_X7_30 wi_X5_layerOf ws_X5_layerOf wn_X5 wc_X5_layerOf ⟨by decide, by decide⟩ (as := [.inl a1]) (rest := []) rfl (Nat.le_of_ble_eq_true rfl) ⟨Nat.le_refl _, Nat.le_refl _⟩ (k_qI ?_)
  refine g_blk hC _ bX7_addBeads_8_11 (pc' := 11) (ls' := [some (.inr (some 13)), some (.inl a1), some (.inl a2), some (.inl ((A 11 a1.toNatClampNeg) + 1))]) (st' := []) (I' := I) rfl rfl ?_
  obtain ⟨hi11, hb11⟩ := hv
  have L11 : ∀ (n : Nat) (x3_11 : Int32) (A_11 : HI), Iv11 x3_11 A_11 → mu11 x3_11 A_11 < n → Gm p l e s m args below meth c D ads 1 22 4 po I A_11 11 [some (.inr (some 13)), some (.inl a1), some (.inl a2), some (.inl x3_11)] [] := by
    intro n
    induction n with
    | zero => intro x3_11 A_11 _ hn; exact absurd hn (Nat.not_lt_zero _)
    | succ n ih11 =>
      intro x3_11 A_11 hv hn11
      replace hv := hb11 x3_11 A_11 hv
      skip
      refine g_blk hC _ bX7_addBeads_11_17 (pc' := 17) (ls' := [some (.inr (some 13)), some (.inl a1), some (.inl a2), some (.inl x3_11)]) (st' := [.inl a2, .inr (some 3), .inl x3_11]) (I' := I) rfl rfl ?_
      obtain ⟨hp2, hv⟩ := hv
      refine g_callV hC (c_X5_layerOf l D ads I A_11 a2 hp2) dX7_addBeads_17 nm_X5_layerOf rfl rfl wl_X7_30 wi_X5_layerOf ws_X5_layerOf wn_X5 wc_X5_layerOf ⟨by decide, by decide⟩ (as := [.inl a2]) (rest := [.inl x3_11]) rfl (Nat.le_of_ble_eq_true rfl) ⟨Nat.le_refl _, Nat.le_refl _⟩ (k_qI ?_)
      obtain ⟨hv1, hv2⟩ := hv
      refine g_cge hC dX7_addBeads_20 (tgt := 43) (by decide) (fun hc => ?_) (fun hc => ?_)
      · have hv := hv1 hc
        clear hv1 hv2 hc
        exact g_retv hC hr dX7_addBeads_43 hv
      · have hv := hv2 hc
        clear hv1 hv2 hc
        refine g_blk hC _ bX7_addBeads_23_34 (pc' := 34) (ls' := [some (.inr (some 13)), some (.inl a1), some (.inl a2), some (.inl x3_11)]) (st' := [.inl ((100 + (10 * a1)) + a2), .inl x3_11, .inr (some 13)]) (I' := I) rfl rfl ?_
        obtain ⟨hp3, hv⟩ := hv
        refine g_callV hC (c_X7_add l D ads I A_11 x3_11 ((100 + (10 * a1)) + a2) hp3) dX7_addBeads_34 nm_X7_add rfl rfl wl_X7_36 wi_X7_add ws_X7_add wn_X7 wc_X7_add ⟨by decide, by decide⟩ (as := [.inl x3_11, .inl ((100 + (10 * a1)) + a2)]) (rest := []) rfl (Nat.le_of_ble_eq_true rfl) ⟨Nat.le_refl _, Nat.le_refl _⟩ (k_qN ?_)
        refine g_blk hC _ bX7_addBeads_37_40 (pc' := 40) (ls' := [some (.inr (some 13)), some (.inl a1), some (.inl a2), some (.inl (x3_11 + 1))]) (st' := []) (I' := I) rfl rfl ?_
        refine g_goto hC dX7_addBeads_40 (tgt := 11) (by decide) ?_
        exact g_weak (ls1 := [some (.inr (some 13)), some (.inl a1), some (.inl a2), some (.inl (x3_11 + 1))]) rfl (And.intro rfl (And.intro rfl (And.intro rfl (And.intro rfl trivial)))) (ih11 (x3_11 + 1) (addA A_11 x3_11 ((100 + (10 * a1)) + a2)) hv.1 (Nat.lt_of_lt_of_le hv.2 (Nat.le_of_lt_succ hn11)))
  exact g_weak (ls1 := [some (.inr (some 13)), some (.inl a1), some (.inl a2), some (.inl ((A 11 a1.toNatClampNeg) + 1))]) rfl (And.intro rfl (And.intro rfl (And.intro rfl (And.intro rfl trivial)))) (L11 _ ((A 11 a1.toNatClampNeg) + 1) A hi11 (Nat.lt_succ_self _))
set_option maxHeartbeats 4000000 in
set_option maxRecDepth 100000 in
theorem c_X7_addBeads (l : Launch) (D : va_G) (ads : AD) (I A : HI) (a1 : Int32) (a2 : Int32) (hp : aBe0 A a1 a2) : Ct l yX7_addBeads cX7_addBeads 4 none 1 22 D ads shp [.inr (some 13), .inl a1, .inl a2] I A (qV (fun I' A' => I' = I ∧ aBe A a1 a2 A')) := by
  sorry
theorem bX7_fill_0_5 : okB cX7_fill RX7 0 [(5, 0, 0, 0, 0), (23, 16, 7, 2, 0), (0, 0, 0, 0, 0)] := And.intro ⟨_, dX7_fill_0, rfl⟩ (And.intro ⟨dX7_fill_1, fl_X7_16⟩ (And.intro ⟨_, dX7_fill_4, by decide⟩ trivial))
theorem bX7_fill_8_10 : okB cX7_fill RX7 8 [(0, 0, 0, 0, 0), (7, 1, 0, 0, 0)] := And.intro ⟨_, dX7_fill_8, by decide⟩ (And.intro ⟨_, dX7_fill_9, rfl⟩ trivial)
theorem bX7_fill_10_13 : okB cX7_fill RX7 10 [(3, 1, 0, 0, 0), (1, 0, 0, 0, 10)] := And.intro ⟨_, dX7_fill_10, rfl⟩ (And.intro ⟨_, dX7_fill_11, by decide⟩ trivial)
theorem bX7_fill_47_49 : okB cX7_fill RX7 47 [(0, 0, 0, 0, 0), (7, 1, 0, 0, 0)] := And.intro ⟨_, dX7_fill_47, by decide⟩ (And.intro ⟨_, dX7_fill_48, rfl⟩ trivial)
theorem bX7_fill_49_52 : okB cX7_fill RX7 49 [(3, 1, 0, 0, 0), (1, 0, 0, 0, 10)] := And.intro ⟨_, dX7_fill_49, rfl⟩ (And.intro ⟨_, dX7_fill_50, by decide⟩ trivial)
theorem bX7_fill_55_57 : okB cX7_fill RX7 55 [(0, 0, 0, 0, 0), (7, 2, 0, 0, 0)] := And.intro ⟨_, dX7_fill_55, by decide⟩ (And.intro ⟨_, dX7_fill_56, rfl⟩ trivial)
theorem bX7_fill_57_60 : okB cX7_fill RX7 57 [(3, 2, 0, 0, 0), (1, 0, 0, 0, 10)] := And.intro ⟨_, dX7_fill_57, rfl⟩ (And.intro ⟨_, dX7_fill_58, by decide⟩ trivial)
theorem bX7_fill_87_90 : okB cX7_fill RX7 87 [(11, 1, 0, 0, 1)] := And.intro ⟨_, dX7_fill_87, by decide⟩ trivial
theorem bX7_fill_63_69 : okB cX7_fill RX7 63 [(5, 0, 0, 0, 0), (23, 20, 7, 0, 0), (3, 1, 0, 0, 0), (3, 2, 0, 0, 0)] := And.intro ⟨_, dX7_fill_63, rfl⟩ (And.intro ⟨dX7_fill_64, fl_X7_20⟩ (And.intro ⟨_, dX7_fill_67, rfl⟩ (And.intro ⟨_, dX7_fill_68, rfl⟩ trivial)))
theorem bX7_fill_81_84 : okB cX7_fill RX7 81 [(11, 2, 0, 0, 1)] := And.intro ⟨_, dX7_fill_81, by decide⟩ trivial
theorem bX7_fill_75_78 : okB cX7_fill RX7 75 [(5, 0, 0, 0, 0), (3, 1, 0, 0, 0), (3, 2, 0, 0, 0)] := And.intro ⟨_, dX7_fill_75, rfl⟩ (And.intro ⟨_, dX7_fill_76, rfl⟩ (And.intro ⟨_, dX7_fill_77, rfl⟩ trivial))
theorem bX7_fill_16_21 : okB cX7_fill RX7 16 [(5, 0, 0, 0, 0), (23, 20, 7, 0, 0), (3, 1, 0, 0, 0)] := And.intro ⟨_, dX7_fill_16, rfl⟩ (And.intro ⟨dX7_fill_17, fl_X7_20⟩ (And.intro ⟨_, dX7_fill_20, rfl⟩ trivial))
theorem bX7_fill_24_25 : okB cX7_fill RX7 24 [(0, 0, 0, 0, (-1))] := And.intro ⟨_, dX7_fill_24, by decide⟩ trivial
theorem bX7_fill_41_44 : okB cX7_fill RX7 41 [(11, 1, 0, 0, 1)] := And.intro ⟨_, dX7_fill_41, by decide⟩ trivial
theorem bX7_fill_28_34 : okB cX7_fill RX7 28 [(5, 0, 0, 0, 0), (5, 0, 0, 0, 0), (23, 20, 7, 0, 0), (3, 1, 0, 0, 0)] := And.intro ⟨_, dX7_fill_28, rfl⟩ (And.intro ⟨_, dX7_fill_29, rfl⟩ (And.intro ⟨dX7_fill_30, fl_X7_20⟩ (And.intro ⟨_, dX7_fill_33, rfl⟩ trivial)))
theorem bX7_fill_37_38 : okB cX7_fill RX7 37 [(3, 1, 0, 0, 0)] := And.intro ⟨_, dX7_fill_37, rfl⟩ trivial
set_option maxHeartbeats 4000000 in
set_option maxRecDepth 100000 in
theorem k_X7_fill (l : Launch) (D : va_G) (ads : AD) (I A : HI) (po : Option AV → HI → HI → Prop) (Iv10 : Int32 → HI → Prop) (mu10 : Int32 → HI → Nat) (Iv49 : Int32 → HI → Int32 → HI → HI → Prop) (mu49 : Int32 → HI → Int32 → HI → HI → Nat) (Iv57 : Int32 → HI → Int32 → HI → HI → Int32 → HI → HI → Prop) (mu57 : Int32 → HI → Int32 → HI → HI → Int32 → HI → HI → Nat)
    (hv : (Iv10 0 (filA A 25 11 (0 : Int32)) ∧ ∀ (x1_10 : Int32) (A_10 : HI), Iv10 x1_10 A_10 → ((10 ≤ x1_10 → (Iv49 x1_10 A_10 0 I A_10 ∧ ∀ (x1_49 : Int32) (I_49 : HI) (A_49 : HI), Iv49 x1_10 A_10 x1_49 I_49 A_49 → ((10 ≤ x1_49 → po none I_49 A_49) ∧ (¬ 10 ≤ x1_49 → (Iv57 x1_10 A_10 x1_49 I_49 A_49 0 I_49 A_49 ∧ ∀ (x2_57 : Int32) (I_57 : HI) (A_57 : HI), Iv57 x1_10 A_10 x1_49 I_49 A_49 x2_57 I_57 A_57 → ((10 ≤ x2_57 → (Iv49 x1_10 A_10 (x1_49 + 1) I_57 A_57 ∧ mu49 x1_10 A_10 (x1_49 + 1) I_57 A_57 < mu49 x1_10 A_10 x1_49 I_49 A_49)) ∧ (¬ 10 ≤ x2_57 → (((strI A_57 x1_49 x2_57) ≤ 0 → (Iv57 x1_10 A_10 x1_49 I_49 A_49 (x2_57 + 1) I_57 A_57 ∧ mu57 x1_10 A_10 x1_49 I_49 A_49 (x2_57 + 1) I_57 A_57 < mu57 x1_10 A_10 x1_49 I_49 A_49 x2_57 I_57 A_57)) ∧ (¬ (strI A_57 x1_49 x2_57) ≤ 0 → ((aBe0 A_57 x1_49 x2_57) ∧ (∀ (I4 A4 : HI), I4 = I_57 ∧ aBe A_57 x1_49 x2_57 A4 → (Iv57 x1_10 A_10 x1_49 I_49 A_49 (x2_57 + 1) I4 A4 ∧ mu57 x1_10 A_10 x1_49 I_49 A_49 (x2_57 + 1) I4 A4 < mu57 x1_10 A_10 x1_49 I_49 A_49 x2_57 I_57 A_57)))))))))))) ∧ (¬ 10 ≤ x1_10 → ((vp_in x1_10 10) ∧ (((A_10 11 x1_10.toNatClampNeg) = ((-1)) → (Iv10 (x1_10 + 1) A_10 ∧ mu10 (x1_10 + 1) A_10 < mu10 x1_10 A_10)) ∧ (¬ (A_10 11 x1_10.toNatClampNeg) = ((-1)) → ((vp_in x1_10 10) ∧ ((vp_in (A_10 11 x1_10.toNatClampNeg) 10 ∧ 0 ≤ A_10 25 (A_10 11 x1_10.toNatClampNeg).toNatClampNeg) ∧ (Iv10 (x1_10 + 1) (addA A_10 (A_10 11 x1_10.toNatClampNeg) x1_10) ∧ mu10 (x1_10 + 1) (addA A_10 (A_10 11 x1_10.toNatClampNeg) x1_10) < mu10 x1_10 A_10)))))))))) : Ct l yX7_fill cX7_fill 3 none 2 45 D ads shp [.inr (some 13)] I A po := by
  refine Ct_of (by decide) (Nat.le_of_ble_eq_true rfl) ?_
  intro p e s m args below meth c hC hr
  replace hC : CX p s m args meth c cX7_fill 3 RX7 (AdS ads s.heap.size) := hC
  show Gm p l e s m args below meth c D ads 2 45 3 po I A 0 [some (.inr (some 13)), none, none] []
  refine g_blk hC _ bX7_fill_0_5 (pc' := 5) (ls' := [some (.inr (some 13)), none, none]) (st' := [.inl 0, .inr (some 25)]) (I' := I) rfl rfl ?_
  refine g_callS hC (c_J7_fill_53178 l D ads I A 25 (0 : Int32) 11 (rfl) (by decide)) dX7_fill_5 nm_J7_fill_53178 wl_X7_24 wt_J7_fill_53178 wn_J7 wc_J7_fill_53178 ⟨by decide, by decide⟩ (as := [.inr (some 25), .inl 0]) (rest := []) rfl (Nat.le_of_ble_eq_true rfl) ⟨Nat.le_refl _, Nat.le_refl _⟩ (k_qN ?_)
  refine g_blk hC _ bX7_fill_8_10 (pc' := 10) (ls' := [some (.inr (some 13)), some (.inl 0), none]) (st' := []) (I' := I) rfl rfl ?_
  obtain ⟨hi10, hb10⟩ := hv
  have L10 : ∀ (n : Nat) (x1_10 : Int32) (A_10 : HI), Iv10 x1_10 A_10 → mu10 x1_10 A_10 < n → Gm p l e s m args below meth c D ads 2 45 3 po I A_10 10 [some (.inr (some 13)), some (.inl x1_10), none] [] := by
    intro n
    induction n with
    | zero => intro x1_10 A_10 _ hn; exact absurd hn (Nat.not_lt_zero _)
    | succ n ih10 =>
      intro x1_10 A_10 hv hn10
      replace hv := hb10 x1_10 A_10 hv
      skip
      refine g_blk hC _ bX7_fill_10_13 (pc' := 13) (ls' := [some (.inr (some 13)), some (.inl x1_10), none]) (st' := [.inl 10, .inl x1_10]) (I' := I) rfl rfl ?_
      obtain ⟨hv1, hv2⟩ := hv
      refine g_cge hC dX7_fill_13 (tgt := 47) (by decide) (fun hc => ?_) (fun hc => ?_)
      · have hv := hv1 hc
        clear hv1 hv2 hc
        refine g_blk hC _ bX7_fill_47_49 (pc' := 49) (ls' := [some (.inr (some 13)), some (.inl 0), none]) (st' := []) (I' := I) rfl rfl ?_
        obtain ⟨hi49, hb49⟩ := hv
        have L49 : ∀ (n : Nat) (x1_49 : Int32) (I_49 : HI) (A_49 : HI), Iv49 x1_10 A_10 x1_49 I_49 A_49 → mu49 x1_10 A_10 x1_49 I_49 A_49 < n → Gm p l e s m args below meth c D ads 2 45 3 po I_49 A_49 49 [some (.inr (some 13)), some (.inl x1_49), none] [] := by
          intro n
          induction n with
          | zero => intro x1_49 I_49 A_49 _ hn; exact absurd hn (Nat.not_lt_zero _)
          | succ n ih49 =>
            intro x1_49 I_49 A_49 hv hn49
            replace hv := hb49 x1_49 I_49 A_49 hv
            skip
            refine g_blk hC _ bX7_fill_49_52 (pc' := 52) (ls' := [some (.inr (some 13)), some (.inl x1_49), none]) (st' := [.inl 10, .inl x1_49]) (I' := I_49) rfl rfl ?_
            obtain ⟨hv1, hv2⟩ := hv
            refine g_cge hC dX7_fill_52 (tgt := 93) (by decide) (fun hc => ?_) (fun hc => ?_)
            · have hv := hv1 hc
              clear hv1 hv2 hc
              exact g_retv hC hr dX7_fill_93 hv
            · have hv := hv2 hc
              clear hv1 hv2 hc
              refine g_blk hC _ bX7_fill_55_57 (pc' := 57) (ls' := [some (.inr (some 13)), some (.inl x1_49), some (.inl 0)]) (st' := []) (I' := I_49) rfl rfl ?_
              obtain ⟨hi57, hb57⟩ := hv
              have L57 : ∀ (n : Nat) (x2_57 : Int32) (I_57 : HI) (A_57 : HI), Iv57 x1_10 A_10 x1_49 I_49 A_49 x2_57 I_57 A_57 → mu57 x1_10 A_10 x1_49 I_49 A_49 x2_57 I_57 A_57 < n → Gm p l e s m args below meth c D ads 2 45 3 po I_57 A_57 57 [some (.inr (some 13)), some (.inl x1_49), some (.inl x2_57)] [] := by
                intro n
                induction n with
                | zero => intro x2_57 I_57 A_57 _ hn; exact absurd hn (Nat.not_lt_zero _)
                | succ n ih57 =>
                  intro x2_57 I_57 A_57 hv hn57
                  replace hv := hb57 x2_57 I_57 A_57 hv
                  skip
                  refine g_blk hC _ bX7_fill_57_60 (pc' := 60) (ls' := [some (.inr (some 13)), some (.inl x1_49), some (.inl x2_57)]) (st' := [.inl 10, .inl x2_57]) (I' := I_57) rfl rfl ?_
                  obtain ⟨hv1, hv2⟩ := hv
                  refine g_cge hC dX7_fill_60 (tgt := 87) (by decide) (fun hc => ?_) (fun hc => ?_)
                  · have hv := hv1 hc
                    clear hv1 hv2 hc
                    refine g_blk hC _ bX7_fill_87_90 (pc' := 90) (ls' := [some (.inr (some 13)), some (.inl (x1_49 + 1)), some (.inl x2_57)]) (st' := []) (I' := I_57) rfl rfl ?_
                    refine g_goto hC dX7_fill_90 (tgt := 49) (by decide) ?_
                    exact g_weak (ls1 := [some (.inr (some 13)), some (.inl (x1_49 + 1)), none]) rfl (And.intro rfl (And.intro rfl trivial)) (ih49 (x1_49 + 1) I_57 A_57 hv.1 (Nat.lt_of_lt_of_le hv.2 (Nat.le_of_lt_succ hn49)))
                  · have hv := hv2 hc
                    clear hv1 hv2 hc
                    refine g_blk hC _ bX7_fill_63_69 (pc' := 69) (ls' := [some (.inr (some 13)), some (.inl x1_49), some (.inl x2_57)]) (st' := [.inl x2_57, .inl x1_49, .inr (some 3)]) (I' := I_57) rfl rfl ?_
                    refine g_callV hC (c_X5_straight l D ads I_57 A_57 x1_49 x2_57) dX7_fill_69 nm_X5_straight rfl rfl wl_X7_40 wi_X5_straight ws_X5_straight wn_X5 wc_X5_straight ⟨by decide, by decide⟩ (as := [.inl x1_49, .inl x2_57]) (rest := []) rfl (Nat.le_of_ble_eq_true rfl) ⟨Nat.le_refl _, Nat.le_refl _⟩ (k_qI ?_)
                    obtain ⟨hv1, hv2⟩ := hv
                    refine g_ifle hC dX7_fill_72 (tgt := 81) (by decide) (fun hc => ?_) (fun hc => ?_)
                    · have hv := hv1 hc
                      clear hv1 hv2 hc
                      refine g_blk hC _ bX7_fill_81_84 (pc' := 84) (ls' := [some (.inr (some 13)), some (.inl x1_49), some (.inl (x2_57 + 1))]) (st' := []) (I' := I_57) rfl rfl ?_
                      refine g_goto hC dX7_fill_84 (tgt := 57) (by decide) ?_
                      exact g_weak (ls1 := [some (.inr (some 13)), some (.inl x1_49), some (.inl (x2_57 + 1))]) rfl (And.intro rfl (And.intro rfl (And.intro rfl trivial))) (ih57 (x2_57 + 1) I_57 A_57 hv.1 (Nat.lt_of_lt_of_le hv.2 (Nat.le_of_lt_succ hn57)))
                    · have hv := hv2 hc
                      clear hv1 hv2 hc
                      refine g_blk hC _ bX7_fill_75_78 (pc' := 78) (ls' := [some (.inr (some 13)), some (.inl x1_49), some (.inl x2_57)]) (st' := [.inl x2_57, .inl x1_49, .inr (some 13)]) (I' := I_57) rfl rfl ?_
                      obtain ⟨hp3, hv⟩ := hv
                      refine g_callV hC (c_X7_addBeads l D ads I_57 A_57 x1_49 x2_57 hp3) dX7_fill_78 nm_X7_addBeads rfl rfl wl_X7_44 wi_X7_addBeads ws_X7_addBeads wn_X7 wc_X7_addBeads ⟨by decide, by decide⟩ (as := [.inl x1_49, .inl x2_57]) (rest := []) rfl (Nat.le_of_ble_eq_true rfl) ⟨Nat.le_refl _, Nat.le_refl _⟩ (k_qV ?_)
                      intro I4 A4 hq4
                      replace hv := hv I4 A4 hq4
                      refine g_blk hC _ bX7_fill_81_84 (pc' := 84) (ls' := [some (.inr (some 13)), some (.inl x1_49), some (.inl (x2_57 + 1))]) (st' := []) (I' := I4) rfl rfl ?_
                      refine g_goto hC dX7_fill_84 (tgt := 57) (by decide) ?_
                      exact g_weak (ls1 := [some (.inr (some 13)), some (.inl x1_49), some (.inl (x2_57 + 1))]) rfl (And.intro rfl (And.intro rfl (And.intro rfl trivial))) (ih57 (x2_57 + 1) I4 A4 hv.1 (Nat.lt_of_lt_of_le hv.2 (Nat.le_of_lt_succ hn57)))
              exact g_weak (ls1 := [some (.inr (some 13)), some (.inl x1_49), some (.inl 0)]) rfl (And.intro rfl (And.intro rfl (And.intro rfl trivial))) (L57 _ 0 I_49 A_49 hi57 (Nat.lt_succ_self _))
        exact g_weak (ls1 := [some (.inr (some 13)), some (.inl 0), none]) rfl (And.intro rfl (And.intro rfl trivial)) (L49 _ 0 I A_10 hi49 (Nat.lt_succ_self _))
      · have hv := hv2 hc
        clear hv1 hv2 hc
        refine g_blk hC _ bX7_fill_16_21 (pc' := 21) (ls' := [some (.inr (some 13)), some (.inl x1_10), none]) (st' := [.inl x1_10, .inr (some 3)]) (I' := I) rfl rfl ?_
        obtain ⟨hp5, hv⟩ := hv
        refine g_callV hC (c_X5_layerOf l D ads I A_10 x1_10 hp5) dX7_fill_21 nm_X5_layerOf rfl rfl wl_X7_30 wi_X5_layerOf ws_X5_layerOf wn_X5 wc_X5_layerOf ⟨by decide, by decide⟩ (as := [.inl x1_10]) (rest := []) rfl (Nat.le_of_ble_eq_true rfl) ⟨Nat.le_refl _, Nat.le_refl _⟩ (k_qI ?_)
        refine g_blk hC _ bX7_fill_24_25 (pc' := 25) (ls' := [some (.inr (some 13)), some (.inl x1_10), none]) (st' := [.inl ((-1)), .inl (A_10 11 x1_10.toNatClampNeg)]) (I' := I) rfl rfl ?_
        obtain ⟨hv1, hv2⟩ := hv
        refine g_ceq hC dX7_fill_25 (tgt := 41) (by decide) (fun hc => ?_) (fun hc => ?_)
        · have hv := hv1 hc
          clear hv1 hv2 hc
          refine g_blk hC _ bX7_fill_41_44 (pc' := 44) (ls' := [some (.inr (some 13)), some (.inl (x1_10 + 1)), none]) (st' := []) (I' := I) rfl rfl ?_
          refine g_goto hC dX7_fill_44 (tgt := 10) (by decide) ?_
          exact g_weak (ls1 := [some (.inr (some 13)), some (.inl (x1_10 + 1)), none]) rfl (And.intro rfl (And.intro rfl trivial)) (ih10 (x1_10 + 1) A_10 hv.1 (Nat.lt_of_lt_of_le hv.2 (Nat.le_of_lt_succ hn10)))
        · have hv := hv2 hc
          clear hv1 hv2 hc
          refine g_blk hC _ bX7_fill_28_34 (pc' := 34) (ls' := [some (.inr (some 13)), some (.inl x1_10), none]) (st' := [.inl x1_10, .inr (some 3), .inr (some 13)]) (I' := I) rfl rfl ?_
          obtain ⟨hp6, hv⟩ := hv
          refine g_callV hC (c_X5_layerOf l D ads I A_10 x1_10 hp6) dX7_fill_34 nm_X5_layerOf rfl rfl wl_X7_30 wi_X5_layerOf ws_X5_layerOf wn_X5 wc_X5_layerOf ⟨by decide, by decide⟩ (as := [.inl x1_10]) (rest := [.inr (some 13)]) rfl (Nat.le_of_ble_eq_true rfl) ⟨Nat.le_refl _, Nat.le_refl _⟩ (k_qI ?_)
          refine g_blk hC _ bX7_fill_37_38 (pc' := 38) (ls' := [some (.inr (some 13)), some (.inl x1_10), none]) (st' := [.inl x1_10, .inl (A_10 11 x1_10.toNatClampNeg), .inr (some 13)]) (I' := I) rfl rfl ?_
          obtain ⟨hp7, hv⟩ := hv
          refine g_callV hC (c_X7_add l D ads I A_10 (A_10 11 x1_10.toNatClampNeg) x1_10 hp7) dX7_fill_38 nm_X7_add rfl rfl wl_X7_36 wi_X7_add ws_X7_add wn_X7 wc_X7_add ⟨by decide, by decide⟩ (as := [.inl (A_10 11 x1_10.toNatClampNeg), .inl x1_10]) (rest := []) rfl (Nat.le_of_ble_eq_true rfl) ⟨Nat.le_refl _, Nat.le_refl _⟩ (k_qN ?_)
          refine g_blk hC _ bX7_fill_41_44 (pc' := 44) (ls' := [some (.inr (some 13)), some (.inl (x1_10 + 1)), none]) (st' := []) (I' := I) rfl rfl ?_
          refine g_goto hC dX7_fill_44 (tgt := 10) (by decide) ?_
          exact g_weak (ls1 := [some (.inr (some 13)), some (.inl (x1_10 + 1)), none]) rfl (And.intro rfl (And.intro rfl trivial)) (ih10 (x1_10 + 1) (addA A_10 (A_10 11 x1_10.toNatClampNeg) x1_10) hv.1 (Nat.lt_of_lt_of_le hv.2 (Nat.le_of_lt_succ hn10)))
  exact g_weak (ls1 := [some (.inr (some 13)), some (.inl 0), none]) rfl (And.intro rfl (And.intro rfl trivial)) (L10 _ 0 (filA A 25 11 (0 : Int32)) hi10 (Nat.lt_succ_self _))
set_option maxHeartbeats 4000000 in
set_option maxRecDepth 100000 in
theorem c_X7_fill (l : Launch) (D : va_G) (ads : AD) (I A : HI) (hp : fil0 I A) : Ct l yX7_fill cX7_fill 3 none 2 45 D ads shp [.inr (some 13)] I A (qV (fun I' A' => I' = I ∧ fil A A')) := by
  sorry
