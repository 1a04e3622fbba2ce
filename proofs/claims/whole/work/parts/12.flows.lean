theorem bX2_number_0_4 : okB cX2_number RX2 0 [(5, 0, 0, 0, 0), (23, 15, 2, 1, 0)] := And.intro ⟨_, dX2_number_0, rfl⟩ (And.intro ⟨dX2_number_1, fl_X2_15⟩ trivial)
set_option maxHeartbeats 4000000 in
set_option maxRecDepth 100000 in
theorem k_X2_number (l : Launch) (D : va_G) (ads : AD) (I A : HI) (po : Option AV → HI → HI → Prop)
    (hv : po (some (.inl (I 1 1))) I A) : Ct l yX2_number cX2_number 1 (some .int) 0 0 D ads shp [.inr (some 1)] I A po := by
  refine Ct_of (by decide) (Nat.le_of_ble_eq_true rfl) ?_
  intro p e s m args below meth c hC hr
  replace hC : CX p s m args meth c cX2_number 1 RX2 (AdS ads s.heap.size) := hC
  show Gm p l e s m args below meth c D ads 0 0 1 po I A 0 [some (.inr (some 1))] []
  refine g_blk hC _ bX2_number_0_4 (pc' := 4) (ls' := [some (.inr (some 1))]) (st' := [.inl (I 1 1)]) (I' := I) rfl rfl ?_
  exact g_reti hC hr rfl dX2_number_4 hv
theorem bX2_between_0_2 : okB cX2_between RX2 0 [(3, 1, 0, 0, 0), (3, 2, 0, 0, 0)] := And.intro ⟨_, dX2_between_0, rfl⟩ (And.intro ⟨_, dX2_between_1, rfl⟩ trivial)
theorem bX2_between_22_23 : okB cX2_between RX2 22 [(0, 0, 0, 0, 0)] := And.intro ⟨_, dX2_between_22, by decide⟩ trivial
theorem bX2_between_8_18 : okB cX2_between RX2 8 [(5, 0, 0, 0, 0), (23, 9, 2, 0, 0), (3, 1, 0, 0, 0), (1, 0, 0, 0, 10), (14, 0, 0, 0, 0), (3, 2, 0, 0, 0), (12, 0, 0, 0, 0)] := And.intro ⟨_, dX2_between_8, rfl⟩ (And.intro ⟨dX2_between_9, fl_X2_9⟩ (And.intro ⟨_, dX2_between_12, rfl⟩ (And.intro ⟨_, dX2_between_13, by decide⟩ (And.intro dX2_between_15 (And.intro ⟨_, dX2_between_16, rfl⟩ (And.intro dX2_between_17 trivial))))))
set_option maxHeartbeats 4000000 in
set_option maxRecDepth 100000 in
theorem k_X2_between (l : Launch) (D : va_G) (ads : AD) (I A : HI) (a1 : Int32) (a2 : Int32) (po : Option AV → HI → HI → Prop)
    (hv : (((zPP a1 a2) = 0 → po (some (.inl 0)) I A) ∧ (¬ (zPP a1 a2) = 0 → (vp_in ((a1 * 10) + a2) 100 ∧ po (some (.inl (A 2 ((a1 * 10) + a2).toNatClampNeg))) I A)))) : Ct l yX2_between cX2_between 3 (some .int) 1 21 D ads shp [.inr (some 1), .inl a1, .inl a2] I A po := by
  refine Ct_of (by decide) (Nat.le_of_ble_eq_true rfl) ?_
  intro p e s m args below meth c hC hr
  replace hC : CX p s m args meth c cX2_between 3 RX2 (AdS ads s.heap.size) := hC
  show Gm p l e s m args below meth c D ads 1 21 3 po I A 0 [some (.inr (some 1)), some (.inl a1), some (.inl a2)] []
  refine g_blk hC _ bX2_between_0_2 (pc' := 2) (ls' := [some (.inr (some 1)), some (.inl a1), some (.inl a2)]) (st' := [.inl a2, .inl a1]) (I' := I) rfl rfl ?_
  refine g_callN (host := RX8) hC (c_X8_arePlaces l D ads I A a1 a2) dX2_between_2 nm_X8_arePlaces (List.mem_of_getElem? (i := 2) rfl) wt_X8_arePlaces wn_X8 wc_X8_arePlaces ⟨by decide, by decide⟩ (as := [.inl a1, .inl a2]) (rest := []) rfl (Nat.le_of_ble_eq_true rfl) ⟨Nat.le_refl _, Nat.le_refl _⟩ (k_qI ?_)
  obtain ⟨hv1, hv2⟩ := hv
  refine g_ifeq hC dX2_between_5 (tgt := 22) (by decide) (fun hc => ?_) (fun hc => ?_)
  · have hv := hv1 hc
    clear hv1 hv2 hc
    refine g_blk hC _ bX2_between_22_23 (pc' := 23) (ls' := [some (.inr (some 1)), some (.inl a1), some (.inl a2)]) (st' := [.inl 0]) (I' := I) rfl rfl ?_
    exact g_reti hC hr rfl dX2_between_23 hv
  · have hv := hv2 hc
    clear hv1 hv2 hc
    refine g_blk hC _ bX2_between_8_18 (pc' := 18) (ls' := [some (.inr (some 1)), some (.inl a1), some (.inl a2)]) (st' := [.inl ((a1 * 10) + a2), .inr (some 2)]) (I' := I) rfl rfl ?_
    obtain ⟨hi, hv⟩ := hv
    refine g_iald hC dX2_between_18 (rfl) hi ?_
    clear hi
    refine g_goto hC dX2_between_19 (tgt := 23) (by decide) ?_
    exact g_reti hC hr rfl dX2_between_23 hv
theorem bX9_isPlace_0_1 : okB cX9_isPlace RX9 0 [(3, 1, 0, 0, 0)] := And.intro ⟨_, dX9_isPlace_0, rfl⟩ trivial
theorem bX9_isPlace_14_15 : okB cX9_isPlace RX9 14 [(0, 0, 0, 0, 0)] := And.intro ⟨_, dX9_isPlace_14, by decide⟩ trivial
theorem bX9_isPlace_4_7 : okB cX9_isPlace RX9 4 [(3, 1, 0, 0, 0), (1, 0, 0, 0, 10)] := And.intro ⟨_, dX9_isPlace_4, rfl⟩ (And.intro ⟨_, dX9_isPlace_5, by decide⟩ trivial)
theorem bX9_isPlace_10_11 : okB cX9_isPlace RX9 10 [(0, 0, 0, 0, 1)] := And.intro ⟨_, dX9_isPlace_10, by decide⟩ trivial
set_option maxHeartbeats 4000000 in
set_option maxRecDepth 100000 in
theorem k_X9_isPlace (l : Launch) (D : va_G) (ads : AD) (I A : HI) (a1 : Int32) (po : Option AV → HI → HI → Prop)
    (hv : ((a1 < 0 → po (some (.inl 0)) I A) ∧ (¬ a1 < 0 → ((10 ≤ a1 → po (some (.inl 0)) I A) ∧ (¬ 10 ≤ a1 → po (some (.inl 1)) I A))))) : Ct l yX9_isPlace cX9_isPlace 2 (some .boolean) 0 0 D ads shp [.inr (some 96), .inl a1] I A po := by
  refine Ct_of (by decide) (Nat.le_of_ble_eq_true rfl) ?_
  intro p e s m args below meth c hC hr
  replace hC : CX p s m args meth c cX9_isPlace 2 RX9 (AdS ads s.heap.size) := hC
  show Gm p l e s m args below meth c D ads 0 0 2 po I A 0 [some (.inr (some 96)), some (.inl a1)] []
  refine g_blk hC _ bX9_isPlace_0_1 (pc' := 1) (ls' := [some (.inr (some 96)), some (.inl a1)]) (st' := [.inl a1]) (I' := I) rfl rfl ?_
  obtain ⟨hv1, hv2⟩ := hv
  refine g_iflt hC dX9_isPlace_1 (tgt := 14) (by decide) (fun hc => ?_) (fun hc => ?_)
  · have hv := hv1 hc
    clear hv1 hv2 hc
    refine g_blk hC _ bX9_isPlace_14_15 (pc' := 15) (ls' := [some (.inr (some 96)), some (.inl a1)]) (st' := [.inl 0]) (I' := I) rfl rfl ?_
    exact g_reti hC hr (by decide) dX9_isPlace_15 hv
  · have hv := hv2 hc
    clear hv1 hv2 hc
    refine g_blk hC _ bX9_isPlace_4_7 (pc' := 7) (ls' := [some (.inr (some 96)), some (.inl a1)]) (st' := [.inl 10, .inl a1]) (I' := I) rfl rfl ?_
    obtain ⟨hv1, hv2⟩ := hv
    refine g_cge hC dX9_isPlace_7 (tgt := 14) (by decide) (fun hc => ?_) (fun hc => ?_)
    · have hv := hv1 hc
      clear hv1 hv2 hc
      refine g_blk hC _ bX9_isPlace_14_15 (pc' := 15) (ls' := [some (.inr (some 96)), some (.inl a1)]) (st' := [.inl 0]) (I' := I) rfl rfl ?_
      exact g_reti hC hr (by decide) dX9_isPlace_15 hv
    · have hv := hv2 hc
      clear hv1 hv2 hc
      refine g_blk hC _ bX9_isPlace_10_11 (pc' := 11) (ls' := [some (.inr (some 96)), some (.inl a1)]) (st' := [.inl 1]) (I' := I) rfl rfl ?_
      refine g_goto hC dX9_isPlace_11 (tgt := 15) (by decide) ?_
      exact g_reti hC hr (by decide) dX9_isPlace_15 hv
theorem bX9_flowsTo_0_5 : okB cX9_flowsTo RX9 0 [(0, 0, 0, 0, 0), (7, 3, 0, 0, 0), (0, 0, 0, 0, 0), (8, 4, 0, 0, 0)] := And.intro ⟨_, dX9_flowsTo_0, by decide⟩ (And.intro ⟨_, dX9_flowsTo_1, rfl⟩ (And.intro ⟨_, dX9_flowsTo_2, by decide⟩ (And.intro dX9_flowsTo_3 trivial)))
theorem bX9_flowsTo_5_9 : okB cX9_flowsTo RX9 5 [(4, 4, 0, 0, 0), (1, 0, 0, 0, 10)] := And.intro dX9_flowsTo_5 (And.intro ⟨_, dX9_flowsTo_7, by decide⟩ trivial)
theorem bX9_flowsTo_43_44 : okB cX9_flowsTo RX9 43 [(3, 3, 0, 0, 0)] := And.intro ⟨_, dX9_flowsTo_43, rfl⟩ trivial
theorem bX9_flowsTo_12_19 : okB cX9_flowsTo RX9 12 [(3, 2, 0, 0, 0), (4, 4, 0, 0, 0), (19, 0, 0, 0, 0), (0, 0, 0, 0, 1), (15, 0, 0, 0, 0), (0, 0, 0, 0, 1)] := And.intro ⟨_, dX9_flowsTo_12, rfl⟩ (And.intro dX9_flowsTo_13 (And.intro dX9_flowsTo_15 (And.intro ⟨_, dX9_flowsTo_16, by decide⟩ (And.intro dX9_flowsTo_17 (And.intro ⟨_, dX9_flowsTo_18, by decide⟩ trivial)))))
theorem bX9_flowsTo_37_40 : okB cX9_flowsTo RX9 37 [(11, 4, 0, 0, 1)] := And.intro ⟨_, dX9_flowsTo_37, by decide⟩ trivial
theorem bX9_flowsTo_22_34 : okB cX9_flowsTo RX9 22 [(3, 3, 0, 0, 0), (5, 0, 0, 0, 0), (23, 7, 9, 1, 0), (1, 0, 0, 0, 10), (3, 1, 0, 0, 0), (14, 0, 0, 0, 0), (4, 4, 0, 0, 0), (12, 0, 0, 0, 0)] := And.intro ⟨_, dX9_flowsTo_22, rfl⟩ (And.intro ⟨_, dX9_flowsTo_23, rfl⟩ (And.intro ⟨dX9_flowsTo_24, fl_X9_7⟩ (And.intro ⟨_, dX9_flowsTo_27, by decide⟩ (And.intro ⟨_, dX9_flowsTo_29, rfl⟩ (And.intro dX9_flowsTo_30 (And.intro dX9_flowsTo_31 (And.intro dX9_flowsTo_33 trivial)))))))
theorem bX9_flowsTo_35_40 : okB cX9_flowsTo RX9 35 [(12, 0, 0, 0, 0), (7, 3, 0, 0, 0), (11, 4, 0, 0, 1)] := And.intro dX9_flowsTo_35 (And.intro ⟨_, dX9_flowsTo_36, rfl⟩ (And.intro ⟨_, dX9_flowsTo_37, by decide⟩ trivial))
set_option maxHeartbeats 4000000 in
set_option maxRecDepth 100000 in
theorem k_X9_flowsTo (l : Launch) (D : va_G) (ads : AD) (I A : HI) (a1 : Int32) (a2 : Int32) (po : Option AV → HI → HI → Prop) (Iv5 : Int32 → Int32 → Prop) (mu5 : Int32 → Int32 → Nat)
    (hv : (Iv5 0 0 ∧ ∀ (x3_5 : Int32) (x4_5 : Int32), Iv5 x3_5 x4_5 → ((10 ≤ x4_5 → po (some (.inl x3_5)) I A) ∧ (¬ 10 ≤ x4_5 → ((¬ ((a2 >>> (x4_5 &&& 31)) &&& 1) = 1 → (Iv5 x3_5 (x4_5 + 1) ∧ mu5 x3_5 (x4_5 + 1) < mu5 x3_5 x4_5)) ∧ (((a2 >>> (x4_5 &&& 31)) &&& 1) = 1 → (vp_in ((10 * a1) + x4_5) 100 ∧ (Iv5 (x3_5 + (A 97 ((10 * a1) + x4_5).toNatClampNeg)) (x4_5 + 1) ∧ mu5 (x3_5 + (A 97 ((10 * a1) + x4_5).toNatClampNeg)) (x4_5 + 1) < mu5 x3_5 x4_5)))))))) : Ct l yX9_flowsTo cX9_flowsTo 5 (some .int) 0 0 D ads shp [.inr (some 96), .inl a1, .inl a2] I A po := by
  refine Ct_of (by decide) (Nat.le_of_ble_eq_true rfl) ?_
  intro p e s m args below meth c hC hr
  replace hC : CX p s m args meth c cX9_flowsTo 5 RX9 (AdS ads s.heap.size) := hC
  show Gm p l e s m args below meth c D ads 0 0 5 po I A 0 [some (.inr (some 96)), some (.inl a1), some (.inl a2), none, none] []
  refine g_blk hC _ bX9_flowsTo_0_5 (pc' := 5) (ls' := [some (.inr (some 96)), some (.inl a1), some (.inl a2), some (.inl 0), some (.inl 0)]) (st' := []) (I' := I) rfl rfl ?_
  obtain ⟨hi5, hb5⟩ := hv
  have L5 : ∀ (n : Nat) (x3_5 : Int32) (x4_5 : Int32), Iv5 x3_5 x4_5 → mu5 x3_5 x4_5 < n → Gm p l e s m args below meth c D ads 0 0 5 po I A 5 [some (.inr (some 96)), some (.inl a1), some (.inl a2), some (.inl x3_5), some (.inl x4_5)] [] := by
    intro n
    induction n with
    | zero => intro x3_5 x4_5 _ hn; exact absurd hn (Nat.not_lt_zero _)
    | succ n ih5 =>
      intro x3_5 x4_5 hv hn5
      replace hv := hb5 x3_5 x4_5 hv
      skip
      refine g_blk hC _ bX9_flowsTo_5_9 (pc' := 9) (ls' := [some (.inr (some 96)), some (.inl a1), some (.inl a2), some (.inl x3_5), some (.inl x4_5)]) (st' := [.inl 10, .inl x4_5]) (I' := I) rfl rfl ?_
      obtain ⟨hv1, hv2⟩ := hv
      refine g_cge hC dX9_flowsTo_9 (tgt := 43) (by decide) (fun hc => ?_) (fun hc => ?_)
      · have hv := hv1 hc
        clear hv1 hv2 hc
        refine g_blk hC _ bX9_flowsTo_43_44 (pc' := 44) (ls' := [some (.inr (some 96)), some (.inl a1), some (.inl a2), some (.inl x3_5), some (.inl x4_5)]) (st' := [.inl x3_5]) (I' := I) rfl rfl ?_
        exact g_reti hC hr rfl dX9_flowsTo_44 hv
      · have hv := hv2 hc
        clear hv1 hv2 hc
        refine g_blk hC _ bX9_flowsTo_12_19 (pc' := 19) (ls' := [some (.inr (some 96)), some (.inl a1), some (.inl a2), some (.inl x3_5), some (.inl x4_5)]) (st' := [.inl 1, .inl ((a2 >>> (x4_5 &&& 31)) &&& 1)]) (I' := I) rfl rfl ?_
        obtain ⟨hv1, hv2⟩ := hv
        refine g_cne hC dX9_flowsTo_19 (tgt := 37) (by decide) (fun hc => ?_) (fun hc => ?_)
        · have hv := hv1 hc
          clear hv1 hv2 hc
          refine g_blk hC _ bX9_flowsTo_37_40 (pc' := 40) (ls' := [some (.inr (some 96)), some (.inl a1), some (.inl a2), some (.inl x3_5), some (.inl (x4_5 + 1))]) (st' := []) (I' := I) rfl rfl ?_
          refine g_goto hC dX9_flowsTo_40 (tgt := 5) (by decide) ?_
          exact g_weak (ls1 := [some (.inr (some 96)), some (.inl a1), some (.inl a2), some (.inl x3_5), some (.inl (x4_5 + 1))]) rfl (And.intro rfl (And.intro rfl (And.intro rfl (And.intro rfl (And.intro rfl trivial))))) (ih5 x3_5 (x4_5 + 1) hv.1 (Nat.lt_of_lt_of_le hv.2 (Nat.le_of_lt_succ hn5)))
        · have hv := hv2 hc
          clear hv1 hv2 hc
          refine g_blk hC _ bX9_flowsTo_22_34 (pc' := 34) (ls' := [some (.inr (some 96)), some (.inl a1), some (.inl a2), some (.inl x3_5), some (.inl x4_5)]) (st' := [.inl ((10 * a1) + x4_5), .inr (some 97), .inl x3_5]) (I' := I) rfl rfl ?_
          obtain ⟨hi, hv⟩ := hv
          refine g_iald hC dX9_flowsTo_34 (rfl) hi ?_
          clear hi
          refine g_blk hC _ bX9_flowsTo_35_40 (pc' := 40) (ls' := [some (.inr (some 96)), some (.inl a1), some (.inl a2), some (.inl (x3_5 + (A 97 ((10 * a1) + x4_5).toNatClampNeg))), some (.inl (x4_5 + 1))]) (st' := []) (I' := I) rfl rfl ?_
          refine g_goto hC dX9_flowsTo_40 (tgt := 5) (by decide) ?_
          exact g_weak (ls1 := [some (.inr (some 96)), some (.inl a1), some (.inl a2), some (.inl (x3_5 + (A 97 ((10 * a1) + x4_5).toNatClampNeg))), some (.inl (x4_5 + 1))]) rfl (And.intro rfl (And.intro rfl (And.intro rfl (And.intro rfl (And.intro rfl trivial))))) (ih5 (x3_5 + (A 97 ((10 * a1) + x4_5).toNatClampNeg)) (x4_5 + 1) hv.1 (Nat.lt_of_lt_of_le hv.2 (Nat.le_of_lt_succ hn5)))
  exact g_weak (ls1 := [some (.inr (some 96)), some (.inl a1), some (.inl a2), some (.inl 0), some (.inl 0)]) rfl (And.intro rfl (And.intro rfl (And.intro rfl (And.intro rfl (And.intro rfl trivial))))) (L5 _ 0 0 hi5 (Nat.lt_succ_self _))
